def pMb (N id k : Nat) : Prop := id = 194 ∧ (k = 1 ∨ k = 2 ∨ 17 ≤ k ∧ k ≤ 26) ∨ id = 206 ∧ 48 * N ≤ k ∧ k < 48 * N + 48 ∨ 202 ≤ id ∧ id ≤ 205 ∧ k = N
theorem m_bore {t n d c w h N : Nat} {T : Nat → Int32} {M : Mm} (hn : n ≤ t) (ht : t ≤ 800) (h11 : M.1 194 1 = nI t) (hT : Tp 195 T n M) (hb : Tb T n) (hd : d < 3) (hc : c < w * h) (hW : w * h ≤ 64) (e3 : M.1 194 3 = nI w) (e4 : M.1 194 4 = nI h) (hN : N < 60) (h26 : M.1 194 26 = nI N) (hw : iWm M) :
    (∃ z p Ma, rdB T n 8 0 0 [] = .inl (z, p) ∧ sX12_bore (nI n) (nI d) (nI c) M = some (-1, Ma) ∧ Fr (pMb N) M Ma ∧ Ma.1 202 N = M.1 202 N ∧ Ma.1 194 26 = nI N ∧ Ma.1 194 1 = 0 ∧ Ma.1 194 17 = nI z ∧ Ma.1 194 18 = nI p) ∨
    (∃ L m Ma, rdB T n 8 0 0 [] = .inr L ∧ L.length = 6 * m ∧ sX12_bore (nI n) (nI d) (nI c) M = some (nI N, Ma) ∧ Fr (pMb N) M Ma ∧ Ma.1 194 26 = nI (N + 1) ∧ Ma.1 194 1 = 0 ∧ Ma.1 194 17 = 0 ∧ Ma.1 194 18 = -1 ∧ Ma.1 202 N = -1 ∧ Ma.1 203 N = nI d ∧ Ma.1 204 N = nI c ∧ Ma.1 205 N = nI m ∧ ∀ z, z < 6 * m → Ma.1 206 (48 * N + z) = nI (L.getD z 0)) := by
  have iN := inb_nI hN (by decide)
  have one : ¬ (1 : Int32) = 0 := by decide
  have r0 : ∀ {k}, k ≠ 2 → (sI M 194 2 0).1 194 k = M.1 194 k := fun {k} q => rdN (by omega)
  obtain ⟨B, b1, b2', b3, b4⟩ := m_beg (M := sI M 194 2 0) (T := T) (n := n) ⟨hT.1, fun k hk => by rw [rdN (by omega)]; exact hT.2 k hk⟩ (fun j hj => by rw [rdN (by omega)]; exact hw j hj) hb
  have B26 : B.1 194 26 = nI N := by rw [(b2' _ _ (by omega)).1, r0 (by omega)]; exact h26
  have x1 : Ms T n 0 (sI B 205 N 0) := Ms_sI b3 (by omega)
  have fB : Fr (pMb N) M (sI B 205 N 0) := Fr_sI (Fr_tr (Fr_sI (Fr_rf _ _) (by unfold pMb; omega)) (Fr_mo b2' (fun id k q => by unfold pMb; omega))) (by unfold pMb; omega)
  have pb : ∀ {X Y : Mm}, Fr (pBm N) X Y → Fr (pMb N) X Y := fun {X Y} f => Fr_mo f (fun id k q => by unfold pBm pMr at q; unfold pMb; omega)
  have unf : ∀ {R : Int32 × Mm}, sX12_boreRead_12 4096 (nI 0) (sI B 205 N 0) = some R → R.2.1 194 26 = nI N → sX12_bore (nI n) (nI d) (nI c) M = if R.1 = 0 then some (-1, R.2) else some (nI N, sI (sI (sI (sI R.2 202 N (-1)) 203 N (nI d)) 204 N (nI c)) 194 26 (nI (N + 1))) := fun {R} hR hR26 => by
    have hR' : sX12_boreRead_12 4096 0 (sI B 205 N 0) = some R := hR
    have a1 : ∀ {v}, (sI R.2 202 N v).1 194 26 = nI N := fun {v} => by rw [rdN (by omega)]; exact hR26
    have a2 : ∀ {v u}, (sI (sI R.2 202 N v) 203 N u).1 194 26 = nI N := fun {v u} => by rw [rdN (by omega)]; exact a1
    have a3 : ∀ {v u s}, (sI (sI (sI R.2 202 N v) 203 N u) 204 N s).1 194 26 = nI N := fun {v u s} => by rw [rdN (by omega)]; exact a2
    unfold sX12_bore
    rw [if_neg (show ¬ nI n < 0 from nlt_nI (b := 0) (by omega) (by omega)), r0 (by omega), h11, if_neg (nlt_nI hn (by omega)), if_neg (show ¬ nI d < 0 from nlt_nI (b := 0) (by omega) (by omega)), if_neg (show ¬ 2 < nI d from nlt_nI (a := 2) (by omega) (by omega)), m_cell (w := w) (h := h) (by rw [r0 (by omega)]; exact e3) (by rw [r0 (by omega)]; exact e4), Option.bind_some, if_neg (show ¬ nI c < 0 from nlt_nI (b := 0) (by omega) (by omega)), if_neg (nle_nI hc (by omega))]
    dsimp only
    rw [if_neg one, r0 (by omega), h26, if_neg (show ¬ nI N = 60 from ne_nI (b := 60) (by omega) (by omega) (by omega)), b1, Option.bind_some]
    unfold sX12_boreRead
    rw [B26, ckT iN, nI_clamp (show N < 2 ^ 31 by omega), hR', Option.bind_some]
    by_cases z : R.1 = 0
    · rw [if_pos z, if_pos z]
    · rw [if_neg z, if_neg z, hR26, ckT iN, nI_clamp (show N < 2 ^ 31 by omega), a1, ckT iN, nI_clamp (show N < 2 ^ 31 by omega), a2, ckT iN, nI_clamp (show N < 2 ^ 31 by omega), a3, nI_1, rdS, nI_dn]
  rcases m_rdB hN 8 0 0 0 4096 [] _ rfl rfl (by omega) x1 (by rw [rdN (by omega)]; exact B26) (by rw [rdS]; rfl) (fun z q => by omega) (by omega) with ⟨z, p, A, r1, r2, r3, r4⟩ | ⟨L, m, A, r1, rl, rm, rm8, r2, r3, r4, r5, r6, r7⟩
  · have A26 : A.1 194 26 = nI N := by rw [(r3 _ _ (by unfold pBm pMr; omega)).1, rdN (by omega)]; exact B26
    refine Or.inl ⟨z, p, A, r1, (unf r2 A26).trans (if_pos rfl), Fr_tr fB (pb r3), ?_, A26, ?_, r4.1, r4.2⟩
    · rw [(r3 _ _ (by unfold pBm pMr; omega)).1, rdN (by omega), (b2' _ _ (by omega)).1, rdN (by omega)]
    · rw [(r3 _ _ (by unfold pBm pMr; omega)).1, rdN (by omega)]; exact b4
  · have A26 : A.1 194 26 = nI N := by rw [(r3 _ _ (by unfold pBm pMr; omega)).1, rdN (by omega)]; exact B26
    refine Or.inr ⟨L, m, _, r1, rl, (unf r2 A26).trans (if_neg one), ?_, rdS _ _ _ _, ?_, ?_, ?_, ?_, ?_, ?_, ?_, ?_⟩
    · exact Fr_sI (Fr_sI (Fr_sI (Fr_sI (Fr_tr fB (pb r3)) (by unfold pMb; omega)) (by unfold pMb; omega)) (by unfold pMb; omega)) (by unfold pMb; omega)
    · rw [rdN (by omega), rdN (by omega), rdN (by omega), rdN (by omega), (r3 _ _ (by unfold pBm pMr; omega)).1, rdN (by omega)]; exact b4
    · rw [rdN (by omega), rdN (by omega), rdN (by omega), rdN (by omega)]; exact r6
    · rw [rdN (by omega), rdN (by omega), rdN (by omega), rdN (by omega)]; exact r7
    · rw [rdN (by omega), rdN (by omega), rdN (by omega), rdS]
    · rw [rdN (by omega), rdN (by omega), rdS]
    · rw [rdN (by omega), rdS]
    · rw [rdN (by omega), rdN (by omega), rdN (by omega), rdN (by omega)]; exact r4
    · intro z hz; rw [rdN (by omega), rdN (by omega), rdN (by omega), rdN (by omega)]; exact r5 z hz
