/-- the lands agree; what is kept beside the rows is what would be reckoned anew -/
def hgt (M : Mm) (c : Nat) : Nat := (M.1 196 c).toNatClampNeg
def iLandW (w h : Nat) (M : Mm) : Prop := (2 ≤ w ∧ w ≤ 8 ∧ 2 ≤ h ∧ h ≤ 8) ∧ (M.1 22 0 = nI w ∧ M.1 22 1 = nI h ∧ M.1 22 2 = nI (w * h) ∧ M.1 194 3 = nI w ∧ M.1 194 4 = nI h) ∧ (∀ c, c < w * h → M.1 29 c = nI (c % w) ∧ M.1 30 c = nI (c / w)) ∧ (∀ r c, r < 5 → c < w * h → M.1 (24 + r) c = M.1 (196 + r) c) ∧ (∀ c, c < w * h → M.1 196 c = nI (hgt M c) ∧ hgt M c ≤ 999) ∧ (∀ c, c < w * h → M.1 198 c = -1 ∨ ∃ v, v ≤ 99 ∧ M.1 198 c = nI v) ∧ (M.1 22 9 = M.1 194 10 ∧ M.1 22 10 = M.1 194 11 ∧ M.1 22 11 = M.1 194 12 ∧ M.1 22 12 = M.1 194 13) ∧ ∀ c, c < w * h → rkd w (w * h) (hgt M) M M c
def iLand (M : Mm) : Prop := ∃ w h, iLandW w h M
theorem x_cell {M : Mm} {n : Nat} {x : Int32} (h : M.1 22 2 = nI n) : sX6_hasCell x M = some (if x < 0 then 0 else if nI n ≤ x then 0 else 1, M) := by
  unfold sX6_hasCell
  rw [h]
theorem m_cell {M : Mm} {w h : Nat} {x : Int32} (e3 : M.1 194 3 = nI w) (e4 : M.1 194 4 = nI h) : sX12_isCell x M = some (if x < 0 then 0 else if nI (w * h) ≤ x then 0 else 1, M) := by
  unfold sX12_isCell
  rw [e3, e4, nI_mul]
