/-- the lands agree; what is kept beside the rows is what would be reckoned anew -/
def hgt (M : Mm) (c : Nat) : Nat := (M.1 196 c).toNatClampNeg
def iLandW (w h : Nat) (M : Mm) : Prop := (2 ≤ w ∧ w ≤ 8 ∧ 2 ≤ h ∧ h ≤ 8) ∧ (M.1 22 0 = nI w ∧ M.1 22 1 = nI h ∧ M.1 22 2 = nI (w * h) ∧ M.1 194 3 = nI w ∧ M.1 194 4 = nI h) ∧ (∀ c, c < w * h → M.1 29 c = nI (c % w) ∧ M.1 30 c = nI (c / w)) ∧ (∀ r c, r < 5 → c < w * h → M.1 (24 + r) c = M.1 (196 + r) c) ∧ (∀ c, c < w * h → M.1 196 c = nI (hgt M c) ∧ hgt M c ≤ 999) ∧ (∀ c, c < w * h → M.1 198 c = -1 ∨ ∃ v, v ≤ 99 ∧ M.1 198 c = nI v) ∧ (M.1 22 9 = M.1 194 10 ∧ M.1 22 10 = M.1 194 11 ∧ M.1 22 11 = M.1 194 12 ∧ M.1 22 12 = M.1 194 13) ∧ ∀ c, c < w * h → rkd w (w * h) (hgt M) M M c
def iLand (M : Mm) : Prop := ∃ w h, iLandW w h M
theorem x_cell {M : Mm} {n : Nat} {x : Int32} (h : M.1 22 2 = nI n) : sX6_hasCell x M = some (if x < 0 then 0 else if nI n ≤ x then 0 else 1, M) := by
  unfold sX6_hasCell
  rw [h]
theorem m_cell {M : Mm} {w h : Nat} {x : Int32} (e3 : M.1 194 3 = nI w) (e4 : M.1 194 4 = nI h) : sX12_isCell x M = some (if x < 0 then 0 else if nI (w * h) ≤ x then 0 else 1, M) := by
  unfold sX12_isCell
  rw [e3, e4, nI_mul]
def rLand (id k : Nat) : Prop := id = 22 ∨ 24 ≤ id ∧ id ≤ 33 ∨ 196 ≤ id ∧ id ≤ 200 ∨ id = 194 ∧ (k = 3 ∨ k = 4 ∨ 10 ≤ k ∧ k ≤ 13)
theorem iLandW_fr {P : Nat → Nat → Prop} {w h : Nat} {M M1 : Mm} (hi : iLandW w h M) (hf : Fr P M M1) (hP : ∀ id k, rLand id k → ¬ P id k) : iLandW w h M1 := by
  have e : ∀ id k, rLand id k → M1.1 id k = M.1 id k := fun id k q => (hf id k (hP id k q)).1
  have eh : hgt M1 = hgt M := by
    funext c
    unfold hgt
    rw [e 196 c (by unfold rLand; omega)]
  have e22 : ∀ k, M1.1 22 k = M.1 22 k := fun k => e 22 k (by unfold rLand; omega)
  obtain ⟨g1, g2, g3, g4, g5, g6, g7, g8⟩ := hi
  refine ⟨g1, ?_, fun c q => ?_, fun r c q1 q2 => ?_, fun c q => ?_, fun c q => ?_, ?_, fun c q => ?_⟩
  · rw [e22, e22, e22, e 194 3 (by unfold rLand; omega), e 194 4 (by unfold rLand; omega)]; exact g2
  · rw [e 29 c (by unfold rLand; omega), e 30 c (by unfold rLand; omega)]; exact g3 c q
  · rw [e (24 + r) c (by unfold rLand; omega), e (196 + r) c (by unfold rLand; omega)]; exact g4 r c q1 q2
  · rw [eh, e 196 c (by unfold rLand; omega)]; exact g5 c q
  · rw [e 198 c (by unfold rLand; omega)]; exact g6 c q
  · rw [e22, e22, e22, e22, e 194 10 (by unfold rLand; omega), e 194 11 (by unfold rLand; omega), e 194 12 (by unfold rLand; omega), e 194 13 (by unfold rLand; omega)]; exact g7
  · have h9 := g8 c q
    unfold rkd at h9 ⊢
    rw [eh, e22, e22, e22, e22, e 26 c (by unfold rLand; omega), e 31 c (by unfold rLand; omega), e 32 c (by unfold rLand; omega), e 33 c (by unfold rLand; omega)]
    exact h9
