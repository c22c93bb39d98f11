/-- both keys, and what they made of the notes -/
def iKN (r K N : Nat) (M : Mm) : Prop := ∃ (n : Nat) (C : Nat → List Cd) (Q : Nat → List Nd), xK_ r n C M ∧ mK_ n Q M ∧ (∀ l, l < n → M.1 (r + 5) l = M.1 210 l ∧ (∃ k, k < K ∧ M.1 (r + 5) l = nI k) ∧ ∀ D m, lyOk m D → vlV D m (C l) = vlV D m (cdI (Q l))) ∧ ∀ i, i < N → M.1 202 i = -1 → ∃ (m : Nat) (D : Nat → Nat → Nat), lyOk m D ∧ xB_ i m D M ∧ mB_ i m D M ∧ M.1 (38 + 2 * i) 4 = flV (fun l => vlV D m (C l)) n 0 ∧ M.1 (38 + 2 * i) 5 = kiV (fun l => vlV D m (C l)) (fun l => M.1 (r + 5) l) n 0
theorem iKN_ev {r K N i : Nat} {M : Mm} (h : iKN r K N M) (hN : N ≤ 60) (hi : i < N) (hb : M.1 202 i = -1) : iEvN M i ∧ (M.1 (38 + 2 * i) 5 = -1 ∨ ∃ k, k < K ∧ M.1 (38 + 2 * i) 5 = nI k) := by
  obtain ⟨n, C, Q, k1, k2, k3, k4⟩ := h
  obtain ⟨m, D, l1, l2, l3, l4, l5⟩ := k4 i hi hb
  exact ev_mk (by omega) l1 l4 l5 k2 l3 k3
def pBo (r N id k : Nat) : Prop := pXb r N id k ∨ pMb N id k
theorem mN_sm {n : Nd} {M M' : Mm} (f : ∀ a k, 210 ≤ a ∧ a ≤ 218 → M'.1 a k = M.1 a k) (h : mN_ n M) : mN_ n M' := by
  obtain ⟨h1, ⟨c1, c2, c3, c4⟩, h3, h4, h5⟩ := h
  exact ⟨h1, ⟨(f _ _ (by omega)).trans c1, (f _ _ (by omega)).trans c2, (f _ _ (by omega)).trans c3, c4⟩, h3, fun q => (f _ _ (by omega)).trans (h4 q), fun q => (f _ _ (by omega)).trans (h5 q)⟩
theorem mNs_sm {M M' : Mm} (f : ∀ a k, 210 ≤ a ∧ a ≤ 218 → M'.1 a k = M.1 a k) : ∀ (ns : List Nd) (q : Nat), mNs M q ns → mNs M' q ns := by
  intro ns
  induction ns with
  | nil => intro q _; trivial
  | cons n ns ih => intro q h; exact ⟨(f _ _ (by omega)).trans h.1, mN_sm f h.2.1, ih (q + 1) h.2.2⟩
theorem mK_sm {n : Nat} {Q : Nat → List Nd} {M M' : Mm} (f : ∀ a k, 210 ≤ a ∧ a ≤ 218 → M'.1 a k = M.1 a k) (f4 : M'.1 194 34 = M.1 194 34) (h : mK_ n Q M) : mK_ n Q M' := by
  refine ⟨h.1, f4.trans h.2.1, fun l hl => ?_⟩
  obtain ⟨⟨q0, a1, a2, a3⟩, b, c⟩ := h.2.2 l hl
  exact ⟨⟨q0, a1, (f _ _ (by omega)).trans a2, mNs_sm f _ _ a3⟩, (f _ _ (by omega)).trans b, c⟩
/-- the notes and keys, when note N is written or tried -/
theorem iKN_bo {r K N : Nat} {M M1 : Mm} (hr : r = 6 ∨ r = 14) (hN : N < 60) (h : iKN r K N M) (f : Fr (pBo r N) M M1) : iKN r K N M1 := by
  have g : ∀ a k, ¬ pBo r N a k → M1.1 a k = M.1 a k := fun a k q => (f a k q).1
  obtain ⟨n, C, Q, k1, k2, k3, k4⟩ := h
  have h210 : ∀ a k, 210 ≤ a ∧ a ≤ 218 → M1.1 a k = M.1 a k := fun a k q => g a k (by unfold pBo pXb pMb; omega)
  have h5 : ∀ l, M1.1 (r + 5) l = M.1 (r + 5) l := fun l => g _ _ (by unfold pBo pXb pMb; omega)
  refine ⟨n, C, Q, xK_sm (fun a k q => g a k (by unfold pBo pXb pMb; omega)) k1, mK_sm h210 (g _ _ (by unfold pBo pXb pMb; omega)) k2, fun l hl => ?_, fun i hi hb => ?_⟩
  · rw [h5, h210 210 l (by omega)]; exact k3 l hl
  · rw [g 202 i (by unfold pBo pXb pMb; omega)] at hb
    obtain ⟨m, D, l1, l2, l3, l4, l5⟩ := k4 i hi hb
    have hm := l1.2.1
    have gn : ∀ k, M1.1 (38 + 2 * i) k = M.1 (38 + 2 * i) k := fun k => g _ _ (by unfold pBo pXb pMb; omega)
    refine ⟨m, D, l1, ⟨(gn 3).trans l2.1, fun k j hk hj => (g _ _ (by unfold pBo pXb pMb; omega)).trans (l2.2 k j hk hj)⟩, ⟨(g _ _ (by unfold pBo pXb pMb; omega)).trans l3.1, fun k j hk hj => (g _ _ (by unfold pBo pXb pMb; omega)).trans (l3.2 k j hk hj)⟩, (gn 4).trans l4, (gn 5).trans (l5.trans (ki_ext n 0 (fun a _ => ⟨rfl, (h5 a).symm⟩)))⟩
theorem Bk_bo {kq : Nat × Nat} {w h N K : Nat} {M M1 : Mm} (hr : kq.1 = 6 ∨ kq.1 = 14) (hN : N < 60) (b : Bk kq w h N K M) (f : Fr (pBo kq.1 N) M M1) (hk : iKN kq.1 K N M1) (e1 : M1.1 34 1 = nI N) (e2 : M1.1 194 26 = nI N) : Bk kq w h N K M1 := by
  have g : ∀ a k, ¬ pBo kq.1 N a k → M1.1 a k = M.1 a k := fun a k q => (f a k q).1
  obtain ⟨b1, b2, b3, b4, b5, b6⟩ := b
  have sn : ∀ i, i < N → ∀ k, M1.1 (38 + 2 * i) k = M.1 (38 + 2 * i) k := fun i hi k => g _ _ (by unfold pBo pXb pMb; omega)
  have s2 : ∀ a i, 202 ≤ a ∧ a ≤ 204 → i < N → M1.1 a i = M.1 a i := fun a i ha hi => g _ _ (by unfold pBo pXb pMb; omega)
  refine ⟨iLandW_s b1 (fun id k q => g id k (by unfold rLand at q; unfold pBo pXb pMb; omega)), ⟨b2.1, e1, e2⟩, fun i hi => ?_, ?_, fun i hi q => ?_, fun j hj => ?_⟩
  · rw [sn i hi, s2 202 i (by omega) hi]; exact b3 i hi
  · rw [g kq.1 9 (by unfold pBo pXb pMb; omega), g 194 33 (by unfold pBo pXb pMb; omega), g 158 4 (by unfold pBo pXb pMb; omega)]; exact b4
  · obtain ⟨v1, v2⟩ := iKN_ev hk (by omega) hi q
    rw [s2 202 i (by omega) hi] at q
    obtain ⟨c1, c2, c3, c4, c5, c6⟩ := b5 i hi q
    refine ⟨v1, v2, ?_, ?_, ?_, ?_⟩
    · rw [sn i hi]; exact c3
    · rw [sn i hi]; exact c4
    · rw [sn i hi, s2 203 i (by omega) hi]; exact c5
    · rw [sn i hi, s2 204 i (by omega) hi]; exact c6
  · rw [g 224 j (by unfold pBo pXb pMb; omega), g 159 j (by unfold pBo pXb pMb; omega)]; exact b6 j hj
