theorem mN_lo {n : Nd} {M M' : Mm} (f : ∀ a k, 213 ≤ a ∧ a ≤ 218 → k < 96 → M'.1 a k = M.1 a k) (h : mN_ n M) : mN_ n M' := by
  obtain ⟨h1, ⟨c1, c2, c3, c4⟩, h3, h4, h5⟩ := h
  exact ⟨h1, ⟨(f _ _ (by omega) h1).trans c1, (f _ _ (by omega) h1).trans c2, (f _ _ (by omega) h1).trans c3, c4⟩, h3, fun q => (f _ _ (by omega) h1).trans (h4 q), fun q => (f _ _ (by omega) h1).trans (h5 q)⟩
theorem mNs_lo {M M' : Mm} (f : ∀ a k, 213 ≤ a ∧ a ≤ 218 → k < 96 → M'.1 a k = M.1 a k) : ∀ (ns : List Nd) (q : Nat), q + ns.length ≤ 96 → mNs M q ns → mNs M' q ns := by
  intro ns
  induction ns with
  | nil => intro q _ _; trivial
  | cons n ns ih =>
    intro q hq h
    rw [List.length_cons] at hq
    exact ⟨(f _ _ (by omega) (by omega)).trans h.1, mN_lo f h.2.1, ih (q + 1) (by omega) h.2.2⟩
theorem mK_lo {n : Nat} {Q : Nat → List Nd} {M M' : Mm} (f : ∀ a k, 213 ≤ a ∧ a ≤ 218 → k < 96 → M'.1 a k = M.1 a k) (g : ∀ a k, 210 ≤ a ∧ a ≤ 212 → k < 16 → M'.1 a k = M.1 a k) (f4 : M'.1 194 34 = M.1 194 34) (h : mK_ n Q M) : mK_ n Q M' := by
  have h16 := h.1
  refine ⟨h.1, f4.trans h.2.1, fun l hl => ?_⟩
  obtain ⟨⟨q0, a1, a2, a3⟩, b, c⟩ := h.2.2 l hl
  exact ⟨⟨q0, a1, (g _ _ (by omega) (by omega)).trans a2, mNs_lo f _ _ a1 a3⟩, (g _ _ (by omega) (by omega)).trans b, c⟩
/-- keys and notes, where only upper halves have changed -/
theorem iKN_lo {r K N : Nat} {M M1 : Mm} (hN : N ≤ 60) (h : iKN r K N M) (g : ∀ a k, r ≤ a ∧ a ≤ r + 5 ∨ 213 ≤ a ∧ a ≤ 218 ∧ k < 96 ∨ 210 ≤ a ∧ a ≤ 212 ∧ k < 16 ∨ a = 194 ∧ k = 34 ∨ a = 202 ∨ a = 205 ∨ a = 206 ∨ 38 ≤ a ∧ a < 158 → M1.1 a k = M.1 a k) : iKN r K N M1 := by
  obtain ⟨n, C, Q, k1, k2, k3, k4⟩ := h
  have h16 := k1.1
  have h5 : ∀ l, M1.1 (r + 5) l = M.1 (r + 5) l := fun l => g _ _ (by omega)
  refine ⟨n, C, Q, xK_sm (fun a k q => g a k (by omega)) k1, mK_lo (fun a k q1 q2 => g a k (by omega)) (fun a k q1 q2 => g a k (by omega)) (g _ _ (by omega)) k2, fun l hl => ?_, fun i hi hb => ?_⟩
  · rw [h5, g 210 l (by omega)]; exact k3 l hl
  · rw [g 202 i (by omega)] at hb
    obtain ⟨m, D, l1, l2, l3, l4, l5⟩ := k4 i hi hb
    have hm := l1.2.1
    have gn : ∀ k, M1.1 (38 + 2 * i) k = M.1 (38 + 2 * i) k := fun k => g _ _ (by omega)
    exact ⟨m, D, l1, ⟨(gn 3).trans l2.1, fun k j hk hj => (g _ _ (by omega)).trans (l2.2 k j hk hj)⟩, ⟨(g _ _ (by omega)).trans l3.1, fun k j hk hj => (g _ _ (by omega)).trans (l3.2 k j hk hj)⟩, (gn 4).trans l4, (gn 5).trans (l5.trans (ki_ext n 0 (fun a _ => ⟨rfl, (h5 a).symm⟩)))⟩
def rBz (r id k : Nat) : Prop := rLand id k ∨ id = 34 ∧ k = 1 ∨ id = 194 ∧ (k = 26 ∨ k = 33) ∨ 202 ≤ id ∧ id ≤ 204 ∨ 38 ≤ id ∧ id < 158 ∨ id = r ∧ k = 9 ∨ id = 158 ∧ k = 4 ∨ id = 224 ∨ id = 159
theorem Bk_kn {kq : Nat × Nat} {w h N K : Nat} {M M1 : Mm} (b : Bk kq w h N K M) (hk : iKN kq.1 K N M1) (g : ∀ a k, rBz kq.1 a k → M1.1 a k = M.1 a k) : Bk kq w h N K M1 := by
  obtain ⟨b1, b2, b3, b4, b5, b6⟩ := b
  have hN := b2.1
  have sn : ∀ i, i < N → ∀ k, M1.1 (38 + 2 * i) k = M.1 (38 + 2 * i) k := fun i hi k => g _ _ (by unfold rBz; omega)
  have s2 : ∀ a i, 202 ≤ a ∧ a ≤ 204 → M1.1 a i = M.1 a i := fun a i ha => g _ _ (by unfold rBz; omega)
  refine ⟨iLandW_s b1 (fun id k q => g id k (Or.inl q)), ⟨b2.1, (g _ _ (by unfold rBz; omega)).trans b2.2.1, (g _ _ (by unfold rBz; omega)).trans b2.2.2⟩, fun i hi => ?_, ?_, fun i hi q => ?_, fun j hj => ?_⟩
  · rw [sn i hi, s2 202 i (by omega)]; exact b3 i hi
  · rw [g kq.1 9 (by unfold rBz; omega), g 194 33 (by unfold rBz; omega), g 158 4 (by unfold rBz; omega)]; exact b4
  · obtain ⟨v1, v2⟩ := iKN_ev hk (by omega) hi q
    rw [s2 202 i (by omega)] at q
    obtain ⟨c1, c2, c3, c4, c5, c6⟩ := b5 i hi q
    refine ⟨v1, v2, ?_, ?_, ?_, ?_⟩
    · rw [sn i hi]; exact c3
    · rw [sn i hi]; exact c4
    · rw [sn i hi, s2 203 i (by omega)]; exact c5
    · rw [sn i hi, s2 204 i (by omega)]; exact c6
  · rw [g 224 j (by unfold rBz; omega), g 159 j (by unfold rBz; omega)]; exact b6 j hj
theorem iNote_k {M M1 : Mm} {i : Nat} (hi : i < 60) (g : ∀ a k, 202 ≤ a ∧ a ≤ 206 ∨ 38 ≤ a ∧ a < 158 ∧ k ≠ 4 ∧ k ≠ 5 ∨ (∃ j, a = 39 + 2 * j) ∧ a < 158 → M1.1 a k = M.1 a k) (h : iNote M i) : iNote M1 i := by
  have sn : ∀ k, k ≠ 4 → k ≠ 5 → M1.1 (38 + 2 * i) k = M.1 (38 + 2 * i) k := fun k h1 h2 => g _ _ (by omega)
  have s2 : ∀ a k, 202 ≤ a ∧ a ≤ 206 → M1.1 a k = M.1 a k := fun a k ha => g _ _ (by omega)
  obtain ⟨h1, h2, h3⟩ := h
  unfold iNote
  rw [sn 0 (by omega) (by omega), sn 1 (by omega) (by omega), sn 2 (by omega) (by omega), sn 3 (by omega) (by omega), s2 202 i (by omega), s2 203 i (by omega), s2 204 i (by omega), s2 205 i (by omega)]
  refine ⟨h1, h2, fun q => ?_⟩
  obtain ⟨a1, a2, ly, b1, b2, b3, b4⟩ := h3 q
  exact ⟨a1, a2, ly, b1, b2, b3, fun k hk => by rw [g (39 + 2 * i) k (Or.inr (Or.inr ⟨⟨i, rfl⟩, by omega⟩)), s2 206 (48 * i + k) (by omega)]; exact b4 k hk⟩
theorem iNote_k2 {M M1 : Mm} {i : Nat} (hi : i < 60) (g : ∀ a k, 202 ≤ a ∧ a ≤ 206 ∨ 38 ≤ a ∧ a < 158 → M1.1 a k = M.1 a k) (h : iNote M i) : iNote M1 i := iNote_k hi (fun a k u => g a k (by rcases u with u | u | ⟨⟨j, u1⟩, u2⟩ <;> omega)) h
def pKy (id k : Nat) : Prop := id = 1 ∧ (k = 1 ∨ k = 5 ∨ k = 6) ∨ id = 3 ∨ 5 ≤ id ∧ id ≤ 21 ∨ 38 ≤ id ∧ id < 158 ∨ id = 158 ∧ k = 4 ∨ id = 159 ∨ id = 193 ∨ pMk id k
theorem rst_16 (p : Nat) : ∃ v, v ≤ 16 ∧ rst p = nI v := by
  unfold rst
  split
  · exact ⟨16, Nat.le_refl _, rfl⟩
  · exact ⟨0, Nat.zero_le _, rfl⟩
theorem step_key {kq : Nat × Nat} {w h N K : Nat} {M : Mm} (a1 a2 a3 a4 a5 a6 : Int32) (hq : isKq kq) (hne : kq.1 ≠ kq.2) (b : Bk kq w h N K M) (hk : iKN kq.1 K N M) (ht : iTapeB M) (hf : iFault M) (hn : iNotes M) (hv : iVal M) (h8 : M.1 kq.1 8 = M.1 194 34) (h10 : M.1 kq.1 10 = M.1 194 35) (hx : iWx M) (hm : iWm M) :
    ∃ kq' K' M1, st_key kq a1 a2 a3 a4 a5 a6 M = some (kq', M1) ∧ isKq kq' ∧ kq'.1 ≠ kq'.2 ∧ Bk kq' w h N K' M1 ∧ iKN kq'.1 K' N M1 ∧ iTapeB M1 ∧ iFault M1 ∧ iNotes M1 ∧ iVal M1 ∧ M1.1 kq'.1 8 = M1.1 194 34 ∧ M1.1 kq'.1 10 = M1.1 194 35 ∧ Fr pKy M M1 := by
  have hN := b.2.1.1
  have h34 := b.2.1.2.1
  have h26 := b.2.1.2.2
  have hr1 : kq.1 = 6 ∨ kq.1 = 14 := hq.1
  have hr2 : kq.2 = 6 ∨ kq.2 = 14 := hq.2
  obtain ⟨t, t1, t2, t3, t4⟩ := ht
  obtain ⟨no, n1, n2, n3, n4⟩ := hn
  have hno : no = N := nI_inj (by omega) (by omega) (n2.symm.trans h34)
  subst hno
  have r1 : (sI M 194 2 0).1 194 1 = nI t := by rw [rdN (by omega)]; exact t3
  have bad : sX11_key kq a1 M = some ((-2, M), kq) → sX12_key a1 M = some (-2, sI M 194 2 0) → ∃ kq' K' M1, st_key kq a1 a2 a3 a4 a5 a6 M = some (kq', M1) ∧ isKq kq' ∧ kq'.1 ≠ kq'.2 ∧ Bk kq' w h no K' M1 ∧ iKN kq'.1 K' no M1 ∧ iTapeB M1 ∧ iFault M1 ∧ iNotes M1 ∧ iVal M1 ∧ M1.1 kq'.1 8 = M1.1 194 34 ∧ M1.1 kq'.1 10 = M1.1 194 35 ∧ Fr pKy M M1 := fun h1 h2 => by
    have g : ∀ a k, ¬ (a = 194 ∧ k = 2) → (sI M 194 2 0).1 a k = M.1 a k := fun a k p => rdN p
    refine ⟨kq, K, sI M 194 2 0, ?_, hq, hne, ?_, iKN_lo hN hk (fun a k p => g a k (by omega)), ⟨t, t1, (g _ _ (by omega)).trans t2, r1, fun k hk => by rw [g _ _ (by omega), g _ _ (by omega)]; exact t4 k hk⟩, ⟨by rw [g _ _ (by omega), g _ _ (by omega)]; exact hf.1, by rw [g _ _ (by omega), g _ _ (by omega)]; exact hf.2⟩, ⟨no, n1, (g _ _ (by omega)).trans n2, (g _ _ (by omega)).trans n3, fun i hi => iNote_k2 (by omega) (fun a k p => g a k (by omega)) (n4 i hi)⟩, fun k hk => by rw [g _ _ (by omega), g _ _ (by omega)]; exact hv k hk, by rw [g _ _ (by omega), g _ _ (by omega)]; exact h8, by rw [g _ _ (by omega), g _ _ (by omega)]; exact h10, Fr_sI (Fr_rf _ _) (by unfold pKy pMk; omega)⟩
    · unfold st_key
      rw [h1, Option.bind_some]
      dsimp only
      rw [h2, Option.bind_some, if_pos rfl]
    · exact Bk_kn b (iKN_lo hN hk (fun a k p => g a k (by omega))) (fun a k p => g a k (by unfold rBz rLand at p; omega))
  by_cases c1 : a1 < 0
  · refine bad ?_ (by simp only [sX12_key, if_pos c1])
    unfold sX11_key sX11_key_f
    rw [if_pos c1, Option.bind_some]
  by_cases c2 : nI t < a1
  · have c2' : ¬ a1 ≤ nI t := Int32.not_le.mpr c2
    refine bad ?_ (by simp only [sX12_key, if_neg c1, r1, if_neg c2'])
    unfold sX11_key sX11_key_f
    rw [if_neg c1, t2, if_neg c2', Option.bind_some]
  obtain ⟨n, hn', rfl⟩ := nI_ex (n := t) c1 (Int32.not_lt.mp c2) (by omega)
  have Tx : Tp 2 (fun k => M.1 2 k) n M := ⟨by omega, fun _ _ => rfl⟩
  have TB : Tb (fun k => M.1 2 k) n := fun k q => (t4 k (by omega)).2
  rcases x_key1 (kq := kq) hr2 hn' t1 t2 Tx hx with ⟨z, p, A, q1, q2, q3, q4, q5, q6⟩ | ⟨k, L, K', R, A, q1, q2, q3, q4, q5, q6, q7⟩
  · have gA : ∀ a k, ¬ pX1 kq.2 a k → A.1 a k = M.1 a k := fun a k u => (q3 a k u).1
    have eX : sX11_key kq (nI n) M = some ((-1, A), kq) := by
      unfold sX11_key
      rw [q2, Option.bind_some]
    rcases m_key (M := A) (T := fun k => M.1 2 k) hn' t1 ((gA _ _ (by unfold pX1; omega)).trans t3) ⟨by omega, fun k hk => (gA _ _ (by unfold pX1; omega)).trans (t4 k (by omega)).1.symm⟩ TB (fun j hj => (gA _ _ (by unfold pX1; omega)).trans (hm j hj)) with ⟨z', p', B, s1, s2, s3, s4, s5, s6⟩ | ⟨_, _, _, _, _, s1, _⟩
    · rw [q1] at s1
      cases s1
      have g : ∀ a k, ¬ pX1 kq.2 a k → ¬ pMz a k → B.1 a k = M.1 a k := fun a k u1 u2 => (s3 a k u2).1.trans (gA a k u1)
      have xB : ∀ a k, a < 194 → B.1 a k = A.1 a k := fun a k u => (s3 a k (by unfold pMz; omega)).1
      have hkB : iKN kq.1 K no B := iKN_lo hN hk (fun a k u => g a k (by unfold pX1; omega) (by unfold pMz; omega))
      refine ⟨kq, K, B, ?_, hq, hne, Bk_kn b hkB (fun a k u => g a k (by unfold rBz rLand at u; unfold pX1; omega) (by unfold rBz rLand at u; unfold pMz; omega)), hkB, ⟨0, by omega, (xB _ _ (by omega)).trans q4, s4, fun k u => by omega⟩, ⟨((xB _ _ (by omega)).trans q5).trans s5.symm, ((xB _ _ (by omega)).trans q6).trans s6.symm⟩, ⟨no, n1, (g _ _ (by unfold pX1; omega) (by unfold pMz; omega)).trans n2, (g _ _ (by unfold pX1; omega) (by unfold pMz; omega)).trans n3, fun i hi => iNote_k2 (by omega) (fun a k u => g a k (by unfold pX1; omega) (by unfold pMz; omega)) (n4 i hi)⟩, fun k hk => ?_, ?_, ?_, ?_⟩
      · unfold st_key
        rw [eX, Option.bind_some]
        dsimp only
        rw [s2, Option.bind_some, if_pos rfl]
      · rw [g 193 k (by unfold pX1; omega) (by unfold pMz; omega), g 225 k (by unfold pX1; omega) (by unfold pMz; omega)]; exact hv k hk
      · rw [g kq.1 8 (by unfold pX1; omega) (by unfold pMz; omega), g 194 34 (by unfold pX1; omega) (by unfold pMz; omega)]; exact h8
      · rw [g kq.1 10 (by unfold pX1; omega) (by unfold pMz; omega), g 194 35 (by unfold pX1; omega) (by unfold pMz; omega)]; exact h10
      · exact Fr_tr (Fr_mo q3 (fun id k u => by unfold pX1 at u; unfold pKy pMk; omega)) (Fr_mo s3 (fun id k u => by unfold pMz at u; unfold pKy pMk; omega))
    · rw [q1] at s1; cases s1
  · have gA : ∀ a k, ¬ pX1 kq.2 a k → A.1 a k = M.1 a k := fun a k u => (q3 a k u).1
    have hG := dKy_g 17 0 0 0 0 nm0 R0_ _ q1 (fun l hl => by omega)
    dsimp only at hG
    obtain ⟨nl, C0, Q0, k1, k2, k3, k4⟩ := hk
    have iS := b.2.2.1
    obtain ⟨C, e1, f1, g4, g5, g6, g7, g8⟩ := x_key2 (kq := (kq.2, kq.1)) (N := no) (M := A) hr2 hN ((gA _ _ (by unfold pX1; omega)).trans h34) q7 hG (fun i hi u => by
      rw [gA _ _ (by unfold pX1; omega), (iS i hi).1] at u
      obtain ⟨m, D, l1, l2, l3, _, _⟩ := k4 i hi u
      have hm8 := l1.2.1
      exact ⟨m, D, l1, ⟨(gA _ _ (by unfold pX1; omega)).trans l2.1, fun k j hk hj => (gA _ _ (by unfold pX1; omega)).trans (l2.2 k j hk hj)⟩, ⟨(gA _ _ (by unfold pX1; omega)).trans l3.1, fun k j hk hj => (gA _ _ (by unfold pX1; omega)).trans (l3.2 k j hk hj)⟩⟩)
    dsimp only at f1 g7 g8
    have gC : ∀ a k, ¬ pX2 kq.2 a k → C.1 a k = A.1 a k := fun a k u => (f1 a k u).1
    have pj : ∀ a k, pJa kq.2 a k → a = kq.2 + 7 ∨ 38 ≤ a ∧ a < 158 ∧ (k = 4 ∨ k = 5) := fun a k u => by
      rcases u with u | ⟨u1, u2, u3, _⟩
      · exact Or.inl u
      · exact Or.inr ⟨u1, u2, u3⟩
    have nx2 : ∀ a k, ¬ (a = 158 ∧ k = 4 ∨ a = 159 ∨ a = 193 ∨ a = kq.2 + 7 ∨ 38 ≤ a ∧ a < 158 ∧ (k = 4 ∨ k = 5)) → ¬ pX2 kq.2 a k := fun a k u v => by
      rcases v with v | v | v | v
      · omega
      · omega
      · omega
      · have := pj a k v; omega
    have eX : sX11_key kq (nI n) M = some ((nI L, C), (kq.2, kq.1)) := by
      unfold sX11_key
      rw [q2, Option.bind_some]
      dsimp only
      rw [e1, Option.bind_some]
    have gCM : ∀ a k, ¬ (a = 158 ∧ k = 4 ∨ a = 159 ∨ a = 193 ∨ a = kq.2 + 7 ∨ 38 ≤ a ∧ a < 158 ∧ (k = 4 ∨ k = 5)) → ¬ pX1 kq.2 a k → C.1 a k = M.1 a k := fun a k u1 u2 => (gC a k (nx2 a k u1)).trans (gA a k u2)
    rcases m_key (M := C) (T := fun k => M.1 2 k) hn' t1 ((gCM _ _ (by omega) (by unfold pX1; omega)).trans t3) ⟨by omega, fun k hk => (gCM _ _ (by omega) (by unfold pX1; omega)).trans (t4 k (by omega)).1.symm⟩ TB (fun j hj => (gCM _ _ (by omega) (by unfold pX1; omega)).trans (hm j hj)) with ⟨_, _, _, s1, _⟩ | ⟨k', L', K2, R', J, s1, s2, s3, s4, s5, s6, s7, s8, s9, s10, s11, s12⟩
    · rw [q1] at s1; cases s1
    rw [q1] at s1
    cases s1
    have xJ : ∀ a k, a < 194 → J.1 a k = C.1 a k := fun a k u => (s3 a k (by unfold pMk; omega)).1
    have gJ : ∀ a k, ¬ (a = 158 ∧ k = 4 ∨ a = 159 ∨ a = 193 ∨ a = kq.2 + 7 ∨ 38 ≤ a ∧ a < 158 ∧ (k = 4 ∨ k = 5)) → ¬ pX1 kq.2 a k → ¬ pMk a k → J.1 a k = M.1 a k := fun a k u1 u2 u3 => (s3 a k u3).1.trans (gCM a k u1 u2)
    have kJ : KX kq.2 k L K' R J := KX_sm (fun a j u => xJ a j (by omega)) g7
    have r5 : ∀ l, A.1 (kq.2 + 5) l = J.1 (kq.2 + 5) l := fun l => ((xJ _ _ (by omega)).trans (gC _ _ (nx2 _ _ (by omega)))).symm
    have hkJ : iKN kq.2 K' no J := by
      refine ⟨L, cdR R, fun l => (R l).2.1, KX_k kJ hG, s9, fun l hl => ?_, fun i hi u => ?_⟩
      · have hl5 := (kJ.2.2.2.2.2.2.2 l hl).2.2
        obtain ⟨o1, o2, o3, o4, o5, o6⟩ := hG l hl
        exact ⟨hl5.trans (s10 l hl).symm, ⟨_, o1, hl5⟩, o6⟩
      · have u' : A.1 (38 + 2 * i) 0 = -1 := by
          rw [gA _ _ (by unfold pX1; omega), (iS i hi).1, ← gJ 202 i (by omega) (by unfold pX1; omega) (by unfold pMk; omega)]; exact u
        obtain ⟨m, D, l1, l2, l3, l4, l5⟩ := g8 i hi u'
        have hm8 := l1.2.1
        refine ⟨m, D, l1, ⟨?_, fun k j hk hj => ?_⟩, ⟨?_, fun k j hk hj => ?_⟩, (xJ _ _ (by omega)).trans l4, (xJ _ _ (by omega)).trans (l5.trans (ki_ext L 0 (fun a _ => ⟨rfl, r5 a⟩)))⟩
        · rw [xJ _ _ (by omega), gC _ _ (nx2 _ _ (by omega))]; exact l2.1
        · rw [xJ _ _ (by omega), (f1 (39 + 2 * i) (6 * k + j) (fun v => by
            rcases v with v | v | v | v
            · omega
            · omega
            · omega
            · exact pJa_f hr2 v)).1]; exact l2.2 k j hk hj
        · rw [(s3 _ _ (by unfold pMk; omega)).1, gC _ _ (nx2 _ _ (by omega))]; exact l3.1
        · rw [(s3 _ _ (by unfold pMk; omega)).1, gC _ _ (nx2 _ _ (by omega))]; exact l3.2 k j hk hj
    refine ⟨(kq.2, kq.1), K', J, ?_, ⟨hq.2, hq.1⟩, fun u => hne u.symm, ?_, hkJ, ⟨0, by omega, ?_, s4, fun k u => by omega⟩, ⟨?_, ?_⟩, ⟨no, n1, (gJ _ _ (by omega) (by unfold pX1; omega) (by unfold pMk; omega)).trans n2, (gJ _ _ (by omega) (by unfold pX1; omega) (by unfold pMk; omega)).trans n3, fun i hi => ?_⟩, fun u hu => ?_, ?_, ?_, ?_⟩
    · unfold st_key
      rw [eX, Option.bind_some]
      dsimp only
      rw [s2, Option.bind_some, if_pos rfl]
    · obtain ⟨b1, b2, b3, b4, b5, b6⟩ := b
      refine ⟨iLandW_s b1 (fun id k u => gJ id k (by unfold rLand at u; omega) (by unfold rLand at u; unfold pX1; omega) (by unfold rLand at u; unfold pMk; omega)), ⟨b2.1, (gJ _ _ (by omega) (by unfold pX1; omega) (by unfold pMk; omega)).trans h34, (gJ _ _ (by omega) (by unfold pX1; omega) (by unfold pMk; omega)).trans h26⟩, fun i hi => ?_, ⟨kJ.2.2.2.2.2.1, kJ.2.2.2.2.1, s7, (xJ _ _ (by omega)).trans g4⟩, fun i hi u => ?_, fun j hj => ?_⟩
      · rw [gJ (38 + 2 * i) 0 (by omega) (by unfold pX1; omega) (by unfold pMk; omega), gJ 202 i (by omega) (by unfold pX1; omega) (by unfold pMk; omega)]; exact b3 i hi
      · obtain ⟨v1, v2⟩ := iKN_ev hkJ (by omega) hi u
        rw [gJ 202 i (by omega) (by unfold pX1; omega) (by unfold pMk; omega)] at u
        obtain ⟨c1, c2, c3, c4, c5, c6⟩ := b5 i hi u
        have s1' : ∀ j, j = 1 ∨ j = 2 → J.1 (38 + 2 * i) j = M.1 (38 + 2 * i) j := fun j hj => gJ _ _ (by omega) (by unfold pX1; omega) (by unfold pMk; omega)
        have s2' : ∀ a, a = 203 ∨ a = 204 → J.1 a i = M.1 a i := fun a ha => gJ _ _ (by omega) (by unfold pX1; omega) (by unfold pMk; omega)
        refine ⟨v1, v2, ?_, ?_, ?_, ?_⟩
        · rw [s1' 1 (by omega)]; exact c3
        · rw [s1' 2 (by omega)]; exact c4
        · rw [s1' 1 (by omega), s2' 203 (by omega)]; exact c5
        · rw [s1' 2 (by omega), s2' 204 (by omega)]; exact c6
      · have j159 : J.1 159 j = rst j := (xJ _ _ (by omega)).trans (g5 j hj)
        rw [s11 j hj, j159]
        exact ⟨rfl, rst_16 j⟩
    · rw [xJ _ _ (by omega), gC _ _ (nx2 _ _ (by omega))]; exact q4
    · rw [xJ _ _ (by omega), gC _ _ (nx2 _ _ (by omega)), s5]; exact q5
    · rw [xJ _ _ (by omega), gC _ _ (nx2 _ _ (by omega)), s6]; exact q6
    · refine iNote_k (by omega) (fun a k u => ?_) (n4 i hi)
      rcases u with u | u | ⟨⟨j, u1⟩, u2⟩
      · exact gJ _ _ (by omega) (by unfold pX1; omega) (by unfold pMk; omega)
      · exact gJ _ _ (by omega) (by unfold pX1; omega) (by unfold pMk; omega)
      · subst u1
        rw [xJ _ _ (by omega), (f1 (39 + 2 * j) k (fun v => by
          rcases v with v | v | v | v
          · omega
          · omega
          · omega
          · exact pJa_f hr2 v)).1, gA _ _ (by unfold pX1; omega)]
    · rw [xJ _ _ (by omega), g6 u hu, s12 u hu]
      exact ⟨rfl, 0, by omega, rfl⟩
    · rw [kJ.2.2.1]; exact s9.2.1.symm
    · rw [kJ.1, s8]
    · exact Fr_tr (Fr_mo q3 (fun id k u => by unfold pX1 at u; unfold pKy pMk; omega)) (Fr_tr (Fr_mo f1 (fun id k u => by
        rcases u with u | u | u | u
        · unfold pKy; omega
        · unfold pKy; omega
        · unfold pKy; omega
        · have := pj id k u
          unfold pKy; omega)) (Fr_mo s3 (fun id k u => by unfold pKy; exact Or.inr (Or.inr (Or.inr (Or.inr (Or.inr (Or.inr (Or.inr u)))))))))
