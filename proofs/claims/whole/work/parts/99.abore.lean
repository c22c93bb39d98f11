/-- what keys and notes read -/
def rKN (r id k : Nat) : Prop := r ≤ id ∧ id ≤ r + 5 ∨ 210 ≤ id ∧ id ≤ 218 ∨ id = 194 ∧ k = 34 ∨ id = 202 ∨ id = 205 ∨ id = 206 ∨ 38 ≤ id ∧ id < 158
theorem iKN_sm {r K N : Nat} {M M1 : Mm} (hN : N ≤ 60) (h : iKN r K N M) (g : ∀ a k, rKN r a k → M1.1 a k = M.1 a k) : iKN r K N M1 := by
  obtain ⟨n, C, Q, k1, k2, k3, k4⟩ := h
  have h210 : ∀ a k, 210 ≤ a ∧ a ≤ 218 → M1.1 a k = M.1 a k := fun a k q => g a k (by unfold rKN; omega)
  have h5 : ∀ l, M1.1 (r + 5) l = M.1 (r + 5) l := fun l => g _ _ (by unfold rKN; omega)
  refine ⟨n, C, Q, xK_sm (fun a k q => g a k (by unfold rKN; omega)) k1, mK_sm h210 (g _ _ (by unfold rKN; omega)) k2, fun l hl => ?_, fun i hi hb => ?_⟩
  · rw [h5, h210 210 l (by omega)]; exact k3 l hl
  · rw [g 202 i (by unfold rKN; omega)] at hb
    obtain ⟨m, D, l1, l2, l3, l4, l5⟩ := k4 i hi hb
    have hm := l1.2.1
    have gn : ∀ k, M1.1 (38 + 2 * i) k = M.1 (38 + 2 * i) k := fun k => g _ _ (by unfold rKN; omega)
    refine ⟨m, D, l1, ⟨(gn 3).trans l2.1, fun k j hk hj => (g _ _ (by unfold rKN; omega)).trans (l2.2 k j hk hj)⟩, ⟨(g _ _ (by unfold rKN; omega)).trans l3.1, fun k j hk hj => (g _ _ (by unfold rKN; omega)).trans (l3.2 k j hk hj)⟩, (gn 4).trans l4, (gn 5).trans (l5.trans (ki_ext n 0 (fun a _ => ⟨rfl, (h5 a).symm⟩)))⟩
/-- one more note -/
theorem iKN_up {r K N n m : Nat} {C : Nat → List Cd} {Q : Nat → List Nd} {D : Nat → Nat → Nat} {M : Mm} (k1 : xK_ r n C M) (k2 : mK_ n Q M) (k3 : ∀ l, l < n → M.1 (r + 5) l = M.1 210 l ∧ (∃ k, k < K ∧ M.1 (r + 5) l = nI k) ∧ ∀ D m, lyOk m D → vlV D m (C l) = vlV D m (cdI (Q l))) (k4 : ∀ i, i < N → M.1 202 i = -1 → ∃ (m : Nat) (D : Nat → Nat → Nat), lyOk m D ∧ xB_ i m D M ∧ mB_ i m D M ∧ M.1 (38 + 2 * i) 4 = flV (fun l => vlV D m (C l)) n 0 ∧ M.1 (38 + 2 * i) 5 = kiV (fun l => vlV D m (C l)) (fun l => M.1 (r + 5) l) n 0) (l1 : lyOk m D) (l2 : xB_ N m D M) (l3 : mB_ N m D M) (l4 : M.1 (38 + 2 * N) 4 = flV (fun l => vlV D m (C l)) n 0) (l5 : M.1 (38 + 2 * N) 5 = kiV (fun l => vlV D m (C l)) (fun l => M.1 (r + 5) l) n 0) : iKN r K (N + 1) M :=
  ⟨n, C, Q, k1, k2, k3, fun i hi hb => by
    by_cases z : i < N
    · exact k4 i z hb
    · have e : i = N := by omega
      subst e
      exact ⟨m, D, l1, l2, l3, l4, l5⟩⟩
theorem Bk_up {kq : Nat × Nat} {w h N K d c : Nat} {M M1 : Mm} (hr : kq.1 = 6 ∨ kq.1 = 14) (hN : N < 60) (b : Bk kq w h N K M) (f : Fr (pBo kq.1 N) M M1) (hk : iKN kq.1 K (N + 1) M1) (e1 : M1.1 34 1 = nI (N + 1)) (e2 : M1.1 194 26 = nI (N + 1)) (hd : d < 3) (hc : c < w * h) (x0 : M1.1 (38 + 2 * N) 0 = -1) (x1 : M1.1 (38 + 2 * N) 1 = nI d) (x2 : M1.1 (38 + 2 * N) 2 = nI c) (m0 : M1.1 202 N = -1) (m1 : M1.1 203 N = nI d) (m2 : M1.1 204 N = nI c) : Bk kq w h (N + 1) K M1 := by
  have g : ∀ a k, ¬ pBo kq.1 N a k → M1.1 a k = M.1 a k := fun a k q => (f a k q).1
  obtain ⟨b1, b2, b3, b4, b5, b6⟩ := b
  have sn : ∀ i, i < N → ∀ k, M1.1 (38 + 2 * i) k = M.1 (38 + 2 * i) k := fun i hi k => g _ _ (by unfold pBo pXb pMb; omega)
  have s2 : ∀ a i, 202 ≤ a ∧ a ≤ 204 → i < N → M1.1 a i = M.1 a i := fun a i ha hi => g _ _ (by unfold pBo pXb pMb; omega)
  refine ⟨iLandW_s b1 (fun id k q => g id k (by unfold rLand at q; unfold pBo pXb pMb; omega)), ⟨by omega, e1, e2⟩, fun i hi => ?_, ?_, fun i hi q => ?_, fun j hj => ?_⟩
  · by_cases z : i < N
    · rw [sn i z, s2 202 i (by omega) z]; exact b3 i z
    · rw [show i = N by omega, x0, m0]; exact ⟨rfl, Or.inl rfl⟩
  · rw [g kq.1 9 (by unfold pBo pXb pMb; omega), g 194 33 (by unfold pBo pXb pMb; omega), g 158 4 (by unfold pBo pXb pMb; omega)]; exact b4
  · obtain ⟨v1, v2⟩ := iKN_ev hk (by omega) hi q
    by_cases z : i < N
    · rw [s2 202 i (by omega) z] at q
      obtain ⟨c1, c2, c3, c4, c5, c6⟩ := b5 i z q
      refine ⟨v1, v2, ?_, ?_, ?_, ?_⟩
      · rw [sn i z]; exact c3
      · rw [sn i z]; exact c4
      · rw [sn i z, s2 203 i (by omega) z]; exact c5
      · rw [sn i z, s2 204 i (by omega) z]; exact c6
    · have e : i = N := by omega
      subst e
      exact ⟨v1, v2, ⟨d, hd, x1⟩, ⟨c, hc, x2⟩, m1.trans x1.symm, m2.trans x2.symm⟩
  · rw [g 224 j (by unfold pBo pXb pMb; omega), g 159 j (by unfold pBo pXb pMb; omega)]; exact b6 j hj
/-- the old notes stand, whatever happens to note N -/
theorem iNote_bo {r N i : Nat} {M M1 : Mm} (hr : r = 6 ∨ r = 14) (hi : i < N) (hN : N < 60) (f : Fr (pBo r N) M M1) (h : iNote M i) : iNote M1 i := by
  have g : ∀ a k, ¬ pBo r N a k → M1.1 a k = M.1 a k := fun a k q => (f a k q).1
  have sn : ∀ k, M1.1 (38 + 2 * i) k = M.1 (38 + 2 * i) k := fun k => g _ _ (by unfold pBo pXb pMb; omega)
  have s2 : ∀ a, 202 ≤ a ∧ a ≤ 205 → M1.1 a i = M.1 a i := fun a ha => g _ _ (by unfold pBo pXb pMb; omega)
  obtain ⟨h1, h2, h3⟩ := h
  unfold iNote
  rw [sn, sn, sn, sn, s2 202 (by omega), s2 203 (by omega), s2 204 (by omega), s2 205 (by omega)]
  refine ⟨h1, h2, fun q => ?_⟩
  obtain ⟨a1, a2, ly, b1, b2, b3, b4⟩ := h3 q
  exact ⟨a1, a2, ly, b1, b2, b3, fun k hk => by rw [g (39 + 2 * i) k (by unfold pBo pXb pMb; omega), g 206 (48 * i + k) (by unfold pBo pXb pMb; omega)]; exact b4 k hk⟩
