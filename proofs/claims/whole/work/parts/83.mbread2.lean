theorem m_rdB {T : Nat → Int32} {n N : Nat} (hN : N < 60) : ∀ (f k q due F : Nat) (L : List Nat) (M : Mm), f + k = 8 → L.length = 6 * k → f < F → Ms T n q M → M.1 194 26 = nI N → M.1 205 N = nI k → (∀ z, z < 6 * k → M.1 206 (48 * N + z) = nI (L.getD z 0)) → due ≤ 300 →
    (∃ w p M', rdB T n f q due L = .inl (w, p) ∧ sX12_boreRead_12 F (nI due) M = some (0, M') ∧ Fr (pBm N) M M' ∧ Mf w p M') ∨
    (∃ L' m M', rdB T n f q due L = .inr L' ∧ L'.length = 6 * m ∧ 1 ≤ m ∧ m ≤ 8 ∧ sX12_boreRead_12 F (nI due) M = some (1, M') ∧ Fr (pBm N) M M' ∧ M'.1 205 N = nI m ∧ (∀ z, z < 6 * m → M'.1 206 (48 * N + z) = nI (L'.getD z 0)) ∧ M'.1 194 17 = 0 ∧ M'.1 194 18 = -1) := by
  intro f
  induction f with
  | zero =>
    intro k q due F L M hk hL hF x e26 e5 eL hd
    obtain ⟨F, rfl⟩ : ∃ G, F = G + 1 := ⟨F - 1, by omega⟩
    have : k = 8 := by omega
    subst this
    obtain ⟨k1, -⟩ := m_nk x
    rw [sX12_boreRead_12, rdB]
    by_cases c : tS T n q = 1
    · obtain ⟨A, a1, a2, a3⟩ := m_wr (w := 2) x
      have a1' : sX12_wrong 2 M = some (0, A) := a1
      have el : sX12_layerRead (nI due) M = some (0, A) := by
        unfold sX12_layerRead
        rw [if_pos (k1.mpr c), e26, ckT (inb_nI hN (by decide)), nI_clamp (by omega), e5, if_pos (show nI 8 = 8 from rfl), a1', Option.bind_some, ckT i0_]
      rw [el, Option.bind_some, if_pos c]
      dsimp only
      rw [if_pos rfl]
      exact Or.inl ⟨2, _, A, rfl, rfl, bm_r a2, a3⟩
    · obtain ⟨A, a1, a2, a3⟩ := m_wr (w := 1) x
      have a1' : sX12_wrong 1 M = some (0, A) := a1
      have el : sX12_layerRead (nI due) M = some (0, A) := by
        unfold sX12_layerRead sX12_layerRead_28
        rw [if_neg (fun z => c (k1.mp z)), e26, ckT (inb_nI hN (by decide)), if_neg (fun z => c (k1.mp z)), a1', Option.bind_some, ckT i0_]
      rw [el, Option.bind_some, if_neg c]
      dsimp only
      rw [if_pos rfl]
      exact Or.inl ⟨1, _, A, rfl, rfl, bm_r a2, a3⟩
  | succ f ih =>
    intro k q due F L M hk hL hF x e26 e5 eL hd
    obtain ⟨F, rfl⟩ : ∃ G, F = G + 1 := ⟨F - 1, by omega⟩
    rw [sX12_boreRead_12, rdB]
    rcases m_layer (k := k) (due := due) hN (by omega) hd e26 e5 x with ⟨w, p, A, r1, r2, r3, r4⟩ | ⟨q', l, A, r1, rl, re, r2, r3, r4, r5, r6⟩
    · rw [r1, r2, Option.bind_some]
      dsimp only
      rw [if_pos rfl]
      exact Or.inl ⟨w, p, A, rfl, rfl, r3, r4⟩
    rw [r1, r2, Option.bind_some]
    dsimp only
    have fA : Fr (pBm N) M A := Fr_mo r3 (fun id z q => by unfold pMr Gw at q; unfold pBm pMr; omega)
    have a26 : A.1 194 26 = nI N := by rw [(fA 194 26 (by unfold pBm pMr; omega)).1]; exact e26
    have ei : 48 * nI N + 6 * nI (k + 1) - 5 = nI (48 * N + 6 * k + 1) := by
      rw [show (48 : Int32) = nI 48 from rfl, show (6 : Int32) = nI 6 from rfl, show (5 : Int32) = nI 5 from rfl, nI_mul, nI_mul, nI_add, nI_sb (by omega)]
      congr 1
    rw [if_neg one_, a26, ckT (inb_nI hN (by decide)), nI_clamp (show N < 2 ^ 31 by omega), r6, ei, ckT (inb_nI (by omega) (by decide)), nI_clamp (show 48 * N + 6 * k + 1 < 2 ^ 31 by omega), r5 1 (by omega)]
    have hLl : (L ++ l).length = 6 * (k + 1) := by rw [List.length_append, hL, rl]; omega
    have AL : ∀ z, z < 6 * (k + 1) → A.1 206 (48 * N + z) = nI ((L ++ l).getD z 0) := fun z hz => by
      by_cases u : z < 6 * k
      · rw [(r3 _ _ (by unfold pMr Gw; omega)).1, eL z u, gD_ap (by omega)]
      · obtain ⟨j, rfl⟩ : ∃ j, z = 6 * k + j := ⟨z - 6 * k, by omega⟩
        rw [gD_ar (by omega), hL, Nat.add_sub_cancel_left, ← r5 j (by omega), Nat.add_assoc]
    have hend := m_end r4
    by_cases c1 : tS T n q' = 0
    · rw [if_pos (hend.mpr c1), if_pos c1]
      exact Or.inr ⟨_, k + 1, A, rfl, hLl, by omega, by omega, rfl, fA, r6, AL, r4.2.2.2.1, r4.2.2.2.2.1⟩
    · rw [if_neg (fun z => c1 (hend.mp z)), if_neg c1]
      have es : sX12_isSign 59 A = some (b2 (sgB T n q' 59), A) := m_isSg (c := 59) r4.2.2.2.2.2.1 r4.2.2.2.2.2.2 r4.1 (Or.inr (Or.inl rfl))
      rw [es, Option.bind_some]
      dsimp only
      cases c3 : sgB T n q' 59 with
      | false =>
        obtain ⟨B, b1, b2', b3⟩ := m_wr (w := 1) r4
        have b1' : sX12_wrong 1 A = some (0, B) := b1
        rw [if_pos b2f, if_pos rfl, b1', Option.bind_some, ckT i0_]
        exact Or.inl ⟨1, _, B, rfl, rfl, Fr_tr fA (bm_r b2'), b3⟩
      | true =>
        obtain ⟨B, b1, b2', xB⟩ := m_next r4
        rw [if_neg b2t0, if_neg (by decide), b1, Option.bind_some]
        have fB := Fr_tr fA (bm_r (N := N) (mt_r b2'))
        have B26 : B.1 194 26 = nI N := by rw [(b2' 194 26 (by unfold pMt; omega)).1]; exact a26
        have B5 : B.1 205 N = nI (k + 1) := by rw [(b2' 205 N (by unfold pMt; omega)).1]; exact r6
        have BL : ∀ z, z < 6 * (k + 1) → B.1 206 (48 * N + z) = nI ((L ++ l).getD z 0) := fun z hz => by rw [(b2' _ _ (by unfold pMt; omega)).1]; exact AL z hz
        have hend2 := m_end xB
        by_cases c5 : tS T n (tE T n q') = 0
        · rw [if_pos (hend2.mpr c5), if_pos c5]
          exact Or.inr ⟨_, k + 1, B, rfl, hLl, by omega, by omega, rfl, fB, B5, BL, xB.2.2.2.1, xB.2.2.2.2.1⟩
        · rw [if_neg (fun z => c5 (hend2.mp z)), if_neg c5]
          rcases ih (k + 1) (tE T n q') (l.getD 1 0) F (L ++ l) B (by omega) hLl (by omega) xB B26 B5 BL re with ⟨w, p, E, t1, t2, t3, t4⟩ | ⟨L', m, E, t1, t2, t3, t4, t5, t6, t7⟩
          · exact Or.inl ⟨w, p, E, t1, t2, Fr_tr fB t3, t4⟩
          · exact Or.inr ⟨L', m, E, t1, t2, t3, t4, t5, Fr_tr fB t6, t7⟩
/-- the start of a reading -/
theorem x_beg {T : Nat → Int32} {n : Nat} {M : Mm} (hT : Tp 2 T n M) (hw : iWx M) : ∃ M', sX10_start (nI n) M = some M' ∧ Fr (fun id k => id = 3 ∧ 2 ≤ k ∧ k ≤ 9) M M' ∧ Xs T n 0 M' := by
  have h8 := hT.1
  unfold sX10_start
  rw [if_neg (show ¬ (800 : Int32) < nI n from nlt_nI (a := 800) h8 (by omega))]
  obtain ⟨A, eA⟩ : ∃ A, A = sI (sI (sI (sI M 3 2 (nI n)) 3 3 0) 3 8 0) 3 9 (-1) := ⟨_, rfl⟩
  rw [← eA]
  have fA : Fr (fun id k => id = 3 ∧ 2 ≤ k ∧ k ≤ 9) M A := by
    rw [eA]
    exact Fr_sI (Fr_sI (Fr_sI (Fr_sI (Fr_rf _ _) (by omega)) (by omega)) (by omega)) (by omega)
  have aT : Tp 2 T n A := ⟨h8, fun k hk => by rw [(fA 2 k (by omega)).1]; exact hT.2 k hk⟩
  have aw : iWx A := fun i hi => by rw [(fA 4 i (by omega)).2]; exact hw i hi
  obtain ⟨B, b1, b2', b3⟩ := x_step (q := 0) (by omega) aT aw (by rw [eA, rdN (by omega), rdN (by omega), rdN (by omega), rdS]) (by rw [eA, rdN (by omega), rdN (by omega), rdS]; rfl)
  rw [b1, Option.bind_some]
  refine ⟨B, rfl, Fr_tr fA (Fr_mo b2' (fun id k q => by unfold pXs at q; omega)), b3, ⟨h8, fun k hk => ?_⟩, fun i hi => ?_, ?_, ?_, by omega⟩
  · rw [(b2' 2 k (by unfold pXs; omega)).1]; exact aT.2 k hk
  · rw [(b2' 4 i (by unfold pXs; omega)).2]; exact aw i hi
  · rw [(b2' 3 8 (by unfold pXs; omega)).1, eA, rdN (by omega), rdS]
  · rw [(b2' 3 9 (by unfold pXs; omega)).1, eA, rdS]
theorem m_beg {T : Nat → Int32} {n : Nat} {M : Mm} (hT : Tp 195 T n M) (hw : iWm M) (hb : Tb T n) : ∃ M', sX12_begins (nI n) M = some M' ∧ Fr (fun id k => id = 194 ∧ (k = 1 ∨ 17 ≤ k ∧ k ≤ 25)) M M' ∧ Ms T n 0 M' ∧ M'.1 194 1 = 0 := by
  have h8 := hT.1
  unfold sX12_begins
  obtain ⟨A, eA⟩ : ∃ A, A = sI (sI (sI (sI (sI M 194 19 (nI n)) 194 1 0) 194 17 0) 194 18 (-1)) 194 20 0 := ⟨_, rfl⟩
  rw [← eA]
  have fA : Fr (fun id k => id = 194 ∧ (k = 1 ∨ 17 ≤ k ∧ k ≤ 25)) M A := by
    rw [eA]
    exact Fr_sI (Fr_sI (Fr_sI (Fr_sI (Fr_sI (Fr_rf _ _) (by omega)) (by omega)) (by omega)) (by omega)) (by omega)
  have aT : Tp 195 T n A := ⟨h8, fun k hk => by rw [(fA 195 k (by omega)).1]; exact hT.2 k hk⟩
  have aw : iWm A := fun i hi => by rw [(fA 201 i (by omega)).1]; exact hw i hi
  obtain ⟨B, b1, b2', b3⟩ := m_take (q := 0) (by omega) aT aw (by rw [eA, rdN (by omega), rdN (by omega), rdN (by omega), rdN (by omega), rdS]) (by rw [eA, rdS]; rfl)
  rw [b1, Option.bind_some]
  refine ⟨B, rfl, Fr_tr fA (Fr_mo b2' (fun id k q => by unfold pMt at q; omega)), ⟨b3, ⟨h8, fun k hk => ?_⟩, fun i hi => ?_, ?_, ?_, by omega, hb⟩, ?_⟩
  · rw [(b2' 195 k (by unfold pMt; omega)).1]; exact aT.2 k hk
  · rw [(b2' 201 i (by unfold pMt; omega)).1]; exact aw i hi
  · rw [(b2' 194 17 (by unfold pMt; omega)).1, eA, rdN (by omega), rdN (by omega), rdS]
  · rw [(b2' 194 18 (by unfold pMt; omega)).1, eA, rdN (by omega), rdS]
  · rw [(b2' 194 1 (by unfold pMt; omega)).1, eA, rdN (by omega), rdN (by omega), rdN (by omega), rdS]
