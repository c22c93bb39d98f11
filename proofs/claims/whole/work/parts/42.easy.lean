def p2 (id k : Nat) : Prop := id = 194 ∧ k = 2
theorem Fr_p2 (M : Mm) : Fr p2 M (sI M 194 2 0) := Fr_sI (Fr_rf _ _) ⟨rfl, rfl⟩
def iFault (M : Mm) : Prop := M.1 1 5 = M.1 194 17 ∧ M.1 1 6 = M.1 194 18
theorem step_fault {kq : Nat × Nat} {M : Mm} (a1 a2 a3 a4 a5 a6 : Int32) (h : iFault M) : ∃ M1, st_fault kq a1 a2 a3 a4 a5 a6 M = some (kq, M1) ∧ Fr p2 M M1 := by
  refine ⟨sI M 194 2 0, ?_, Fr_p2 M⟩
  unfold st_fault sX11_fault sX12_fault
  rw [Option.bind_some, Option.bind_some]
  dsimp only
  rw [rdN (by omega), rdN (by omega), h.1, h.2, if_pos rfl]
def iPrice (M : Mm) : Prop := M.1 162 2 = M.1 194 14 ∧ M.1 162 3 = M.1 194 15 ∧ (∃ n, n ≤ 9999 ∧ M.1 194 14 = nI n) ∧ ∃ n, n ≤ 9999 ∧ M.1 194 15 = nI n
def pPrice (id k : Nat) : Prop := id = 162 ∧ (k = 2 ∨ k = 3) ∨ id = 194 ∧ (k = 2 ∨ k = 14 ∨ k = 15)
theorem nI_ex {x : Int32} {n : Nat} (h0 : ¬ x < 0) (h1 : x ≤ nI n) (hn : n < 2 ^ 31) : ∃ k, k ≤ n ∧ x = nI k := by
  have e : (nI n).toInt = n := by
    unfold nI
    rw [Int32.toInt_ofNat_of_lt (by omega)]
  rw [Int32.lt_iff_toInt_lt] at h0
  rw [Int32.le_iff_toInt_le, e] at h1
  have h2 : (0 : Int32).toInt = 0 := rfl
  rw [h2] at h0
  refine ⟨x.toInt.toNat, by omega, ?_⟩
  apply Int32.toInt_inj.mp
  unfold nI
  rw [Int32.toInt_ofNat_of_lt (by omega)]
  omega
theorem st_join {kq : Nat × Nat} {A : Option (Int32 × Mm)} {B : Mm → Option (Int32 × Mm)} {v : Int32} {Ma Mb : Mm} (h1 : A = some (v, Ma)) (h2 : B Ma = some (v, Mb)) : (A.bind fun q => (B q.2).bind fun r => if q.1 = r.1 then some (kq, r.2) else none) = some (kq, Mb) := by
  subst h1
  rw [Option.bind_some]
  dsimp only
  rw [h2, Option.bind_some, if_pos rfl]
theorem step_price {kq : Nat × Nat} {M : Mm} (a1 a2 a3 a4 a5 a6 : Int32) (h : iPrice M) : ∃ M1, st_price kq a1 a2 a3 a4 a5 a6 M = some (kq, M1) ∧ iPrice M1 ∧ Fr pPrice M M1 := by
  obtain ⟨h1, h2, h3, h4⟩ := h
  have f0 : Fr pPrice M (sI M 194 2 0) := Fr_sI (Fr_rf _ _) (by unfold pPrice; omega)
  have i0 : iPrice (sI M 194 2 0) := by
    unfold iPrice
    rw [rdN (by omega), rdN (by omega), rdN (by omega), rdN (by omega)]
    exact ⟨h1, h2, h3, h4⟩
  by_cases c1 : a1 < 0
  · exact ⟨_, st_join (v := 0) (Ma := M) (by simp only [sX11_price, if_pos c1]) (by simp only [sX12_price, if_pos c1]), i0, f0⟩
  by_cases c2 : 1 < a1
  · exact ⟨_, st_join (v := 0) (Ma := M) (by simp only [sX11_price, if_neg c1, if_pos c2]) (by simp only [sX12_price, if_neg c1, if_pos c2]), i0, f0⟩
  by_cases c3 : a2 < 0
  · exact ⟨_, st_join (v := 0) (Ma := M) (by simp only [sX11_price, if_neg c1, if_neg c2, if_pos c3]) (by simp only [sX12_price, if_neg c1, if_neg c2, if_pos c3]), i0, f0⟩
  by_cases c4 : a2 ≤ 9999
  · obtain ⟨n, hn, hv⟩ := nI_ex (n := 9999) c3 c4 (by decide)
    by_cases c5 : a1 = 0
    · refine ⟨_, st_join (v := 1) (Ma := sI M 162 2 a2) (Mb := sI (sI (sI M 162 2 a2) 194 2 0) 194 14 a2) (by simp only [sX11_price, if_neg c1, if_neg c2, if_neg c3, if_pos c4, if_pos c5]) (by simp only [sX12_price, if_neg c1, if_neg c2, if_neg c3, if_pos c4, if_pos c5]), ?_, Fr_sI (Fr_sI (Fr_sI (Fr_rf _ _) (by unfold pPrice; omega)) (by unfold pPrice; omega)) (by unfold pPrice; omega)⟩
      refine ⟨?_, ?_, ⟨n, hn, ?_⟩, ?_⟩
      · rw [rdN (by omega), rdN (by omega), rdS, rdS]
      · rw [rdN (by omega), rdN (by omega), rdN (by omega), rdN (by omega), rdN (by omega), rdN (by omega)]; exact h2
      · rw [rdS]; exact hv
      · rw [rdN (by omega), rdN (by omega), rdN (by omega)]; exact h4
    · refine ⟨_, st_join (v := 1) (Ma := sI M 162 3 a2) (Mb := sI (sI (sI M 162 3 a2) 194 2 0) 194 15 a2) (by simp only [sX11_price, if_neg c1, if_neg c2, if_neg c3, if_pos c4, if_neg c5]) (by simp only [sX12_price, if_neg c1, if_neg c2, if_neg c3, if_pos c4, if_neg c5]), ?_, Fr_sI (Fr_sI (Fr_sI (Fr_rf _ _) (by unfold pPrice; omega)) (by unfold pPrice; omega)) (by unfold pPrice; omega)⟩
      refine ⟨?_, ?_, ?_, ⟨n, hn, ?_⟩⟩
      · rw [rdN (by omega), rdN (by omega), rdN (by omega), rdN (by omega), rdN (by omega), rdN (by omega)]; exact h1
      · rw [rdN (by omega), rdN (by omega), rdS, rdS]
      · rw [rdN (by omega), rdN (by omega), rdN (by omega)]; exact h3
      · rw [rdS]; exact hv
  · exact ⟨_, st_join (v := 0) (Ma := M) (by simp only [sX11_price, if_neg c1, if_neg c2, if_neg c3, if_neg c4]) (by simp only [sX12_price, if_neg c1, if_neg c2, if_neg c3, if_neg c4]), i0, f0⟩
def iDrawn (M : Mm) : Prop := ∃ n, n ≤ 8 ∧ M.1 162 7 = nI n ∧ M.1 194 70 = nI n ∧ ∀ k, k < n → M.1 173 k = M.1 232 k
theorem step_drawn {kq : Nat × Nat} {M : Mm} (a1 a2 a3 a4 a5 a6 : Int32) (h : iDrawn M) : ∃ M1, st_drawn kq a1 a2 a3 a4 a5 a6 M = some (kq, M1) ∧ Fr p2 M M1 := by
  obtain ⟨n, hn, h1, h2, h3⟩ := h
  refine ⟨sI M 194 2 0, ?_, Fr_p2 M⟩
  have r70 : (sI M 194 2 0).1 194 70 = nI n := by rw [rdN (by omega)]; exact h2
  by_cases c1 : a1 < 0
  · exact st_join (v := -1) (Ma := M) (by simp only [sX11_drawn, sX11_drawn_15, if_pos c1]) (by simp only [sX12_drawn, sX12_drawn_17, if_pos c1])
  by_cases c2 : a1 < nI n
  · obtain ⟨k, hk, hv⟩ := nI_ex (n := n) c1 (Int32.le_of_lt c2) (by omega)
    subst hv
    have hkn : k < n := (nI_ltI (by omega) (by omega)).mp c2
    have hb : inb (nI k) 8 = true := inb_nI (by omega) (by decide)
    have hr : (sI M 194 2 0).1 232 k = M.1 173 k := by rw [rdN (by omega), h3 k hkn]
    exact st_join (v := M.1 173 k) (Ma := M) (by simp only [sX11_drawn, h1, if_neg c1, if_pos c2, ckT hb, nI_clamp (show k < 2 ^ 31 by omega)]) (by simp only [sX12_drawn, r70, if_neg c1, if_pos c2, ckT hb, nI_clamp (show k < 2 ^ 31 by omega), hr])
  · exact st_join (v := -1) (Ma := M) (by simp only [sX11_drawn, sX11_drawn_15, h1, if_neg c1, if_neg c2]) (by simp only [sX12_drawn, sX12_drawn_17, r70, if_neg c1, if_neg c2])
def iPlan (M : Mm) : Prop := ∃ n, n ≤ 3 ∧ M.1 174 10 = nI n ∧ M.1 194 74 = nI n ∧ (∀ k, k < n → M.1 178 k = M.1 235 k) ∧ (n = 0 → M.1 174 11 = -1) ∧ (n ≠ 0 → M.1 174 11 = M.1 194 75)
theorem step_planned {kq : Nat × Nat} {M : Mm} (a1 a2 a3 a4 a5 a6 : Int32) (h : iPlan M) : ∃ M1, st_planned kq a1 a2 a3 a4 a5 a6 M = some (kq, M1) ∧ Fr p2 M M1 := by
  obtain ⟨n, hn, h1, h2, h3, h4, h5⟩ := h
  refine ⟨sI M 194 2 0, ?_, Fr_p2 M⟩
  have r74 : (sI M 194 2 0).1 194 74 = nI n := by rw [rdN (by omega)]; exact h2
  have r75 : (sI M 194 2 0).1 194 75 = M.1 194 75 := rdN (by omega)
  by_cases n0 : n = 0
  · subst n0
    have hm : sX12_planned a1 a2 M = some (-1, sI M 194 2 0) := by simp only [sX12_planned, if_pos (show (sI M 194 2 0).1 194 74 = 0 from r74)]
    refine st_join (v := -1) (Ma := M) ?_ hm
    by_cases c1 : a1 = 1
    · simp only [sX11_planned, if_pos c1, h4 rfl]
    by_cases c2 : a1 = 0
    · by_cases c3 : a2 < 0
      · simp only [sX11_planned, sX11_planned_32, if_neg c1, if_pos c2, if_pos c3]
      · simp only [sX11_planned, sX11_planned_32, if_neg c1, if_pos c2, if_neg c3, h1, if_neg (show ¬ a2 < nI 0 from c3)]
    · simp only [sX11_planned, sX11_planned_32, if_neg c1, if_neg c2]
  have z74 : ¬ nI n = 0 := by
    intro q
    have := congrArg Int32.toNatClampNeg q
    rw [nI_clamp (by omega)] at this
    exact n0 this
  by_cases c1 : a1 = 1
  · have c2 : ¬ a1 = 0 := by rw [c1]; decide
    exact st_join (v := M.1 194 75) (Ma := M) (by simp only [sX11_planned, if_pos c1, h5 n0]) (by simp only [sX12_planned, r74, if_neg z74, if_neg c2, if_pos c1, r75])
  by_cases c2 : a1 = 0
  · by_cases c3 : a2 < 0
    · exact st_join (v := -1) (Ma := M) (by simp only [sX11_planned, sX11_planned_32, if_neg c1, if_pos c2, if_pos c3]) (by simp only [sX12_planned, sX12_planned_30, r74, if_neg z74, if_pos c2, if_pos c3])
    by_cases c4 : a2 < nI n
    · obtain ⟨k, hk, hv⟩ := nI_ex (n := n) c3 (Int32.le_of_lt c4) (by omega)
      subst hv
      have hkn : k < n := (nI_ltI (by omega) (by omega)).mp c4
      have hb : inb (nI k) 3 = true := inb_nI (by omega) (by decide)
      have hr : (sI M 194 2 0).1 235 k = M.1 178 k := by rw [rdN (by omega), h3 k hkn]
      exact st_join (v := M.1 178 k) (Ma := M) (by simp only [sX11_planned, h1, if_neg c1, if_pos c2, if_neg c3, if_pos c4, ckT hb, nI_clamp (show k < 2 ^ 31 by omega)]) (by simp only [sX12_planned, r74, if_neg z74, if_pos c2, if_neg c3, if_pos c4, ckT hb, nI_clamp (show k < 2 ^ 31 by omega), hr])
    · exact st_join (v := -1) (Ma := M) (by simp only [sX11_planned, sX11_planned_32, h1, if_neg c1, if_pos c2, if_neg c3, if_neg c4]) (by simp only [sX12_planned, sX12_planned_30, r74, if_neg z74, if_pos c2, if_neg c3, if_neg c4])
  · exact st_join (v := -1) (Ma := M) (by simp only [sX11_planned, sX11_planned_32, if_neg c1, if_neg c2]) (by simp only [sX12_planned, r74, if_neg z74, if_neg c2, if_neg c1])
