def pJa (r id k : Nat) : Prop := id = r + 7 ∨ 38 ≤ id ∧ id < 158 ∧ (k = 4 ∨ k = 5) ∧ ∃ i, id = 38 + 2 * i
def jdN (r n : Nat) (C : Nat → List Cd) (M M' : Mm) (i : Nat) : Prop := ∃ (m : Nat) (D : Nat → Nat → Nat), lyOk m D ∧ xB_ i m D M ∧ mB_ i m D M ∧ M'.1 (38 + 2 * i) 4 = flV (fun l => vlV D m (C l)) n 0 ∧ M'.1 (38 + 2 * i) 5 = kiV (fun l => vlV D m (C l)) (fun l => M.1 (r + 5) l) n 0
theorem pJa_r {r id k : Nat} (h1 : id ≠ r + 7) (h2 : id < 38 ∨ 158 ≤ id ∨ k ≠ 4 ∧ k ≠ 5) : ¬ pJa r id k := fun q => by
  rcases q with q | ⟨q1, q2, q3, _⟩ <;> omega
theorem pJa_f {r i k : Nat} (h1 : r = 6 ∨ r = 14) : ¬ pJa r (39 + 2 * i) k := fun q => by
  rcases q with q | ⟨_, _, _, j, q⟩ <;> omega
theorem x_jall {r n N : Nat} {C : Nat → List Cd} {M : Mm} (hr : r = 6 ∨ r = 14) (hN : N ≤ 60) (h34 : M.1 34 1 = nI N) (hk : xK_ r n C M) (hD : ∀ i, i < N → M.1 (38 + 2 * i) 0 = -1 → ∃ (m : Nat) (D : Nat → Nat → Nat), lyOk m D ∧ xB_ i m D M ∧ mB_ i m D M) : ∀ (f j F : Nat) (M1 : Mm), j + f = N → f < F → Fr (pJa r) M M1 → (∀ i, i < j → M.1 (38 + 2 * i) 0 = -1 → jdN r n C M M1 i) → ∃ M', sX1_judgeAll_2 r F (nI j) M1 = some M' ∧ Fr (pJa r) M M' ∧ ∀ i, i < N → M.1 (38 + 2 * i) 0 = -1 → jdN r n C M M' i := by
  intro f
  induction f with
  | zero =>
    intro j F M1 h hF fM hj
    obtain ⟨F, rfl⟩ : ∃ F', F = F' + 1 := ⟨F - 1, by omega⟩
    have e : j = N := by omega
    subst e
    rw [sX1_judgeAll_2, (fM 34 1 (pJa_r (by omega) (by omega))).1, h34, if_pos (nI_le (Nat.le_refl _) (by omega))]
    exact ⟨M1, rfl, fM, hj⟩
  | succ f ih =>
    intro j F M1 h hF fM hj
    obtain ⟨F, rfl⟩ : ∃ F', F = F' + 1 := ⟨F - 1, by omega⟩
    have ij := inb_nI (show j < 60 by omega) (by decide)
    have e0 : M1.1 (38 + 2 * j) 0 = M.1 (38 + 2 * j) 0 := (fM _ _ (pJa_r (by omega) (by omega))).1
    rw [sX1_judgeAll_2, (fM 34 1 (pJa_r (by omega) (by omega))).1, h34, if_neg (nle_nI (by omega) (by omega)), ckT ij, nI_clamp (show j < 2 ^ 31 by omega), e0]
    unfold sX1_judgeAll_33
    rw [show nI j + 1 = nI (j + 1) by rw [nI_1]]
    by_cases q : M.1 (38 + 2 * j) 0 = -1
    · obtain ⟨m, D, l1, l2, l3⟩ := hD j (by omega) q
      have kJ : xK_ r n C M1 := xK_sm (fun a k z => (fM a k (pJa_r (by omega) (by omega))).1) hk
      have bJ : xB_ j m D M1 := ⟨(fM _ _ (pJa_r (by omega) (by omega))).1.trans l2.1, fun k i hk hi => (fM _ _ (pJa_f hr)).1.trans (l2.2 k i hk hi)⟩
      obtain ⟨G, e1, f1, g4, g5⟩ := x_judge hr (show j < 60 by omega) l1 kJ bJ
      have fG : Fr (pJa r) M G := Fr_tr fM (Fr_mo f1 (fun id k z => by
        rcases z with z | ⟨z1, z2⟩
        · exact Or.inl z
        · exact Or.inr ⟨by omega, by omega, z2, j, z1⟩))
      rw [if_pos q, ckT ij, e1, Option.bind_some]
      refine ih (j + 1) F G (by omega) (by omega) fG (fun i hi hb => ?_)
      by_cases z : i < j
      · obtain ⟨m', D', a1, a2, a3, a4, a5⟩ := hj i z hb
        exact ⟨m', D', a1, a2, a3, (f1 _ _ (by unfold pJu; omega)).1.trans a4, (f1 _ _ (by unfold pJu; omega)).1.trans a5⟩
      · have e : i = j := by omega
        subst e
        exact ⟨m, D, l1, l2, l3, g4, g5.trans (ki_ext n 0 (fun a _ => ⟨rfl, (fM _ _ (pJa_r (by omega) (by omega))).1⟩))⟩
    · rw [if_neg q]
      refine ih (j + 1) F M1 (by omega) (by omega) fM (fun i hi hb => ?_)
      by_cases z : i < j
      · exact hj i z hb
      · have e : i = j := by omega
        subst e
        exact absurd hb q
theorem x_judgeAll {r n N : Nat} {C : Nat → List Cd} {M : Mm} (hr : r = 6 ∨ r = 14) (hN : N ≤ 60) (h34 : M.1 34 1 = nI N) (hk : xK_ r n C M) (hD : ∀ i, i < N → M.1 (38 + 2 * i) 0 = -1 → ∃ (m : Nat) (D : Nat → Nat → Nat), lyOk m D ∧ xB_ i m D M ∧ mB_ i m D M) : ∃ M', sX1_judgeAll r M = some M' ∧ Fr (pJa r) M M' ∧ ∀ i, i < N → M.1 (38 + 2 * i) 0 = -1 → jdN r n C M M' i :=
  x_jall hr hN h34 hk hD N 0 4096 M (by omega) (by omega) (Fr_rf _ _) (fun i q => by omega)
