/-- what a bore at cell c would gain -/
def plG (w K : Nat) (M : Mm) (L : List Nat) (c : Nat) : Nat := dP w K M L c (bst (wt w M c L 60) K) * (M.1 199 c).toNatClampNeg
def plB (M : Mm) (L : List Nat) (c : Nat) : Bool := L.any (fun i => decide (cel M i = c))
def plT (G : Nat → Nat) (B : Nat → Bool) : Nat → Nat
  | 0 => 0
  | c + 1 => if B c = true then plT G B c else max (plT G B c) (G c)
theorem plT_ge {G : Nat → Nat} {B : Nat → Bool} : ∀ n c, c < n → B c = false → G c ≤ plT G B n := by
  intro n
  induction n with
  | zero => intro c h; omega
  | succ n ih =>
    intro c hc hb
    rw [plT]
    by_cases e : c = n
    · subst e
      rw [hb, if_neg (by decide)]
      omega
    · have := ih c (by omega) hb
      split
      · exact this
      · omega
theorem plT_le {G : Nat → Nat} {B : Nat → Bool} {b : Nat} (h : ∀ c, G c ≤ b) : ∀ n, plT G B n ≤ b := by
  intro n
  induction n with
  | zero => exact Nat.zero_le _
  | succ n ih =>
    rw [plT]
    have := h n
    split
    · exact ih
    · omega
theorem plG_le {w K : Nat} {M : Mm} {L : List Nat} {c : Nat} (hv : iVals M) (hc : c < 64) : plG w K M L c ≤ 99000 := by
  obtain ⟨v, hv, ev⟩ := (hv c hc).1
  unfold plG
  rw [ev, nI_clamp (by omega)]
  have h1 : dP w K M L c (bst (wt w M c L 60) K) ≤ 1000 := by unfold dP; omega
  exact Nat.le_trans (Nat.mul_le_mul h1 hv) (by omega)
def pGx (id k : Nat) : Prop := id = 175 ∨ id = 174 ∧ k = 2 ∨ id = 161 ∨ id = 158 ∧ (k = 6 ∨ k = 7)
theorem Xk_gx {kq : Nat × Nat} {M0 M M1 : Mm} {L : List Nat} (hq : isKq kq) (x : Xk kq M0 M L) (f : Fr pGx M M1) : Xk kq M0 M1 L := by
  have hk : kq.1 = 6 ∨ kq.1 = 14 := hq.1
  refine ⟨Sm_tr x.1 (Sm_fr f (fun id k q p => ?_)), ?_, fun j hj => ?_⟩
  · unfold pGx at p
    rcases p with rfl | ⟨rfl, rfl⟩ | rfl | ⟨rfl, rfl | rfl⟩ <;> (unfold rBk rLand at q; omega)
  · rw [(f 34 3 (by unfold pGx; omega)).1]; exact x.2.1
  · rw [(f 36 j (by unfold pGx; omega)).1]; exact x.2.2 j hj
theorem any_ap (M : Mm) (L : List Nat) (i c : Nat) : plB M (L ++ [i]) c = (plB M L c || decide (cel M i = c)) := by
  unfold plB
  rw [List.any_append]
  simp
theorem x_gains {kq : Nat × Nat} {w h N K n : Nat} {M0 M : Mm} (hq : isKq kq) (b : Bk kq w h N K M0) (hv : iVals M0) (h1 : 1 ≤ K) (hn : n ≤ N) (x : Xk kq M0 M (Lof M0 n)) : ∃ M', sX9_weighGains M = some M' ∧ Fr pGx M M' ∧ Xk kq M0 M' (Lof M0 n) ∧ (∀ c, c < w * h → M'.1 175 c = if plB M0 (Lof M0 n) c = true then -1 else nI (plG w K M0 (Lof M0 n) c)) ∧ M'.1 174 2 = nI (plT (plG w K M0 (Lof M0 n)) (plB M0 (Lof M0 n)) (w * h)) := by
  have hN := b.2.1.1
  have hK := b.2.2.2.1.1
  have h64 := wh64 b.1.1
  have hl := Lof_len M0 n
  have f0 : Fr pGx M (sI M 174 2 0) := Fr_sI (Fr_rf _ _) (by unfold pGx; omega)
  have z3 : inb 3 5 = true := by decide
  have e27 : 24 + (3 : Int32).toNatClampNeg = 27 := by decide
  -- gains
  obtain ⟨A, a1, a2, a3, a4⟩ := lp_M (f := fun F i M => sX9_weighGains_7 F i M) (n := w * h) (I := fun c M' => Fr pGx M M' ∧ M'.1 174 2 = 0 ∧ ∀ c', c' < c → M'.1 175 c' = nI (plG w K M0 (Lof M0 n) c')) (fun F c M1 hc hI => by
    obtain ⟨f, q2, q⟩ := hI
    have x1 := Xk_gx hq x f
    have b1 := Bk_sm b x1.1
    obtain ⟨A, e2, f2, x2, y2⟩ := xk_weigh (c := c) (wo := 60) (x2 := -1) hq b hn x1 hc (Lof_60 b hn)
    obtain ⟨-, t, t1, t2, t3⟩ := wt_sm2 (c := c) (wo := 60) b hn
    have hbK : bst (wt w M0 c (Lof M0 n) 60) K < K := by
      rcases bst_lt (wt w M0 c (Lof M0 n) 60) K with q | ⟨q, q2⟩ <;> omega
    obtain ⟨v, hv9, ev⟩ := (hv c (by omega)).1
    have e199 : A.1 27 c = nI v := by
      rw [x2.1 27 c (Or.inl (by unfold rLand; omega))]
      have := b.1.2.2.2.1 3 c (by omega) hc
      rw [show (24 + 3 : Nat) = 27 from rfl, show (196 + 3 : Nat) = 199 from rfl] at this
      rw [this, ev]
    refine ⟨sI A 175 c (nI (plG w K M0 (Lof M0 n) c)), ?_, Fr_sI (Fr_tr f (Fr_mo f2 (fun id k q => by unfold pW at q; unfold pGx; omega))) (by unfold pGx; omega), by rw [rdN (by omega), (f2 174 2 (by unfold pW; omega)).1]; exact q2, fun c' hc' => ?_⟩
    · show sX9_weighGains_7 (F + 1) (nI c) M1 = _
      rw [sX9_weighGains_7, b1.1.2.1.2.2.1, if_neg (nle_nI hc (by omega)), e2, Option.bind_some]
      unfold sX2_doubt
      rw [y2.2.2, x_part hK hbK t3 t1 t2 y2, Option.bind_some, Option.bind_some]
      dsimp only
      rw [ckT z3, ckT (inb_nI (by omega) (by decide)), ckT (inb_nI (by omega) (by decide)), nI_clamp (by omega), e27, e199, dP_eq b hn hbK, nI_mul, nI_1]
      unfold plG
      rw [ev, nI_clamp (show v < 2 ^ 31 by omega)]
    · by_cases u : c' = c
      · rw [u, rdS]
      · rw [rdN (by omega), (f2 175 c' (by unfold pW; omega)).1]; exact q c' (by omega)) (w * h) 0 4096 (sI M 174 2 0) (by omega) (by omega) ⟨f0, rdS _ _ _ _, fun c' hc' => absurd hc' (Nat.not_lt_zero c')⟩
  -- the bored cells
  obtain ⟨B, b1, b2', b3, b4⟩ := lp_M (f := fun F i M => sX9_weighGains_54 F i M) (n := (Lof M0 n).length) (I := fun j M' => Fr pGx M M' ∧ M'.1 174 2 = 0 ∧ ∀ c, c < w * h → M'.1 175 c = if plB M0 ((Lof M0 n).take j) c = true then -1 else nI (plG w K M0 (Lof M0 n) c)) (fun F j M1 hj hI => by
    obtain ⟨f, q2, q⟩ := hI
    have x1 := Xk_gx hq x f
    have hm := getD_in hj
    obtain ⟨i1, i2, i3, i4⟩ := Lof_cel b hn hm
    refine ⟨sI M1 175 (cel M0 ((Lof M0 n).getD j 0)) (-1), ?_, Fr_sI f (by unfold pGx; omega), by rw [rdN (by omega)]; exact q2, fun c hc => ?_⟩
    · show sX9_weighGains_54 (F + 1) (nI j) M1 = _
      rw [sX9_weighGains_54, x1.2.1, if_neg (nle_nI hj (by omega)), ckT (inb_nI (by omega) (by decide)), nI_clamp (show j < 2 ^ 31 by omega), x1.2.2 j hj, ckT (inb_nI i1 (by decide)), nI_clamp (show (Lof M0 n).getD j 0 < 2 ^ 31 by omega), x1.1 _ 2 (rBk_n i1), i3, ckT (inb_nI (by omega) (by decide)), nI_clamp (by omega), nI_1]
    · rw [take_sc hj, any_ap]
      by_cases u : c = cel M0 ((Lof M0 n).getD j 0)
      · rw [u, rdS]; simp
      · rw [rdN (by omega), q c hc, decide_eq_false (fun z => u z.symm), Bool.or_false]) (Lof M0 n).length 0 4096 A (by omega) (by omega) ⟨a2, a3, fun c hc => by rw [a4 c hc]; rfl⟩
  rw [List.take_length] at b4
  -- the top
  have hG : ∀ c, c < 64 → plG w K M0 (Lof M0 n) c ≤ 99000 := fun c hc => plG_le hv hc
  generalize hg : plG w K M0 (Lof M0 n) = G at b4 hG
  generalize hbd : plB M0 (Lof M0 n) = Bd at b4
  obtain ⟨D, d1, d2, d3, d4⟩ := lp_M (f := fun F i M => sX9_weighGains_90 F i M) (n := w * h) (I := fun j M' => Fr (fun id k => id = 174 ∧ k = 2) B M' ∧ M'.1 174 2 = nI (plT G Bd j) ∧ plT G Bd j ≤ 99000) (fun F j M1 hj hI => by
    obtain ⟨f, q, ql⟩ := hI
    have x1 := Xk_gx hq x (Fr_tr b2' (Fr_mo f (fun id k q => by unfold pGx; omega)))
    have hgj := hG j (by omega)
    refine ⟨sI M1 174 2 (nI (plT G Bd (j + 1))), ?_, Fr_sI f (by omega), rdS _ _ _ _, ?_⟩
    · show sX9_weighGains_90 (F + 1) (nI j) M1 = _
      rw [sX9_weighGains_90, (Bk_sm b x1.1).1.2.1.2.2.1, if_neg (nle_nI hj (by omega)), ckT (inb_nI (by omega) (by decide)), nI_clamp (by omega), q, (f 175 j (by omega)).1, b4 j hj, nI_1, plT]
      congr 2
      by_cases u : Bd j = true
      · rw [if_pos u, if_pos u, if_neg (fun p => absurd (Int32.lt_trans p (show (-1 : Int32) < 0 by decide)) (Int32.not_lt.mpr (nI_nn (by omega))))]
      · rw [if_neg u, if_neg u]
        exact max_nI (by omega) (by omega)
    · rw [plT]
      split
      · exact ql
      · omega) (w * h) 0 4096 B (by omega) (by omega) ⟨Fr_rf _ _, b3, Nat.zero_le _⟩
  have fD : Fr pGx M D := Fr_tr b2' (Fr_mo d2 (fun id k q => by unfold pGx; omega))
  have xD := Xk_gx hq x fD
  refine ⟨D, ?_, fD, xD, fun c hc => by rw [(d2 175 c (by omega)).1]; exact b4 c hc, d3⟩
  unfold sX9_weighGains
  refine Eq.trans a1 ?_
  show sX9_weighGains_7 (4096 - w * h) (nI (w * h)) A = _
  rw [show 4096 - w * h = (4095 - w * h) + 1 by omega, sX9_weighGains_7, (Bk_sm b (Xk_gx hq x a2).1).1.2.1.2.2.1, if_pos (nI_le (by omega) (by omega))]
  refine Eq.trans b1 ?_
  show sX9_weighGains_54 (4096 - (Lof M0 n).length) (nI (Lof M0 n).length) B = _
  rw [show 4096 - (Lof M0 n).length = (4095 - (Lof M0 n).length) + 1 by omega, sX9_weighGains_54, (Xk_gx hq x b2').2.1, if_pos (nI_le (by omega) (by omega))]
  refine Eq.trans d1 ?_
  show sX9_weighGains_90 (4096 - w * h) (nI (w * h)) D = _
  rw [show 4096 - w * h = (4095 - w * h) + 1 by omega, sX9_weighGains_90, (Bk_sm b xD.1).1.2.1.2.2.1, if_pos (nI_le (by omega) (by omega))]
def pGm (id k : Nat) : Prop := id = 233 ∨ id = 234 ∨ id = 228 ∨ id = 194 ∧ k = 66
theorem Mk_gm {kq : Nat × Nat} {N : Nat} {M0 M M1 : Mm} {L : List Nat} (hq : isKq kq) (x : Mk kq N M0 M L) (f : Fr pGm M M1) : Mk kq N M0 M1 L := by
  have hk : kq.1 = 6 ∨ kq.1 = 14 := hq.1
  refine ⟨Sm_tr x.1 (Sm_fr f (fun id k q p => ?_)), fun i hi => ?_⟩
  · unfold pGm at p
    rcases p with rfl | rfl | rfl | ⟨rfl, rfl⟩ <;> (unfold rBk rLand at q; omega)
  · rw [(f 227 i (by unfold pGm; omega)).1]; exact x.2 i hi
theorem m_gains {kq : Nat × Nat} {w h N K n : Nat} {x1 x2 x3 : Int32} {M0 M : Mm} (hq : isKq kq) (b : Bk kq w h N K M0) (hv : iVals M0) (h1 : 1 ≤ K) (hn : n ≤ N) (x : Mk kq N M0 M (Lof M0 n)) : ∃ M', sX12_plan_65 4096 x1 x2 x3 (nI (w * h)) 0 M = sX12_plan_174 4096 x1 x2 x3 (nI (w * h)) 0 (sI (sI M' 194 77 (-1)) 194 78 0) ∧ Fr pGm M M' ∧ Mk kq N M0 M' (Lof M0 n) ∧ ∀ c, c < w * h → M'.1 233 c = nI (plG w K M0 (Lof M0 n) c) ∧ M'.1 234 c = b2 (plB M0 (Lof M0 n) c) := by
  have hN := b.2.1.1
  have hK := b.2.2.2.1.1
  have h64 := wh64 b.1.1
  obtain ⟨A, a1, a2, a3⟩ := lp_M (f := fun F i M => sX12_plan_65 F x1 x2 x3 (nI (w * h)) i M) (n := w * h) (I := fun c M' => Fr pGm M M' ∧ ∀ c', c' < c → M'.1 233 c' = nI (plG w K M0 (Lof M0 n) c') ∧ M'.1 234 c' = 0) (fun F c M1 hc hI => by
    obtain ⟨f, q⟩ := hI
    have f1 : Fr pGm M1 (sI M1 234 c 0) := Fr_sI (Fr_rf _ _) (by unfold pGm; omega)
    have y1 := Mk_gm hq x (Fr_tr f f1)
    obtain ⟨A, e2, f2, x2', y2⟩ := mk_weigh (c := c) (wo := 60) (x2 := -1) hq b hn y1 hc (M_60 hN)
    obtain ⟨-, t, t1, t2, t3⟩ := wt_sm2 (c := c) (wo := 60) b hn
    have b2 := Bk_sm b x2'.1
    have hbK : bst (wt w M0 c (Lof M0 n) 60) K < K := by
      rcases bst_lt (wt w M0 c (Lof M0 n) 60) K with q | ⟨q, q2⟩ <;> omega
    obtain ⟨v, hv9, ev⟩ := (hv c (by omega)).1
    have e199 : A.1 199 c = nI v := by
      rw [x2'.1 199 c (Or.inl (by unfold rLand; omega)), ev]
    refine ⟨sI A 233 c (nI (plG w K M0 (Lof M0 n) c)), ?_, Fr_sI (Fr_tr f (Fr_tr f1 (Fr_mo f2 (fun id k q => by unfold pWm at q; unfold pGm; omega)))) (by unfold pGm; omega), fun c' hc' => ?_⟩
    · show sX12_plan_65 (F + 1) x1 x2 x3 (nI (w * h)) (nI c) M1 = _
      rw [sX12_plan_65, if_neg (nle_nI hc (by omega)), ckT (inb_nI (by omega) (by decide)), nI_clamp (show c < 2 ^ 31 by omega), e2, Option.bind_some, m_best hK h1 b2.2.2.2.1.2.2.1 y2.1, Option.bind_some]
      dsimp only
      rw [m_part hK hbK t3 t1 t2 y2, Option.bind_some]
      dsimp only
      rw [ckT (inb_nI (by omega) (by decide)), ckT (inb_nI (by omega) (by decide)), e199, dP_eq b hn hbK, nI_mul, nI_1]
      unfold plG
      rw [ev, nI_clamp (show v < 2 ^ 31 by omega)]
    · by_cases u : c' = c
      · rw [u]
        exact ⟨rdS _ _ _ _, by rw [rdN (by omega), (f2 234 c (by unfold pWm; omega)).1, rdS]⟩
      · rw [rdN (by omega), (f2 233 c' (by unfold pWm; omega)).1, rdN (by omega), rdN (by omega), (f2 234 c' (by unfold pWm; omega)).1, rdN (by omega)]
        exact q c' (by omega)) (w * h) 0 4096 M (by omega) (by omega) ⟨Fr_rf _ _, fun c' hc' => absurd hc' (Nat.not_lt_zero c')⟩
  obtain ⟨B, b1, b2', b3⟩ := lp_M (f := fun F i M => sX12_plan_123 F x1 x2 x3 (nI (w * h)) i M) (n := N) (I := fun j M' => Fr pGm M M' ∧ ∀ c, c < w * h → M'.1 233 c = nI (plG w K M0 (Lof M0 n) c) ∧ M'.1 234 c = b2 (plB M0 ((List.range j).filter (fun i => decide (i ∈ Lof M0 n))) c)) (fun F j M1 hj hI => by
    obtain ⟨f, q⟩ := hI
    have y1 := Mk_gm hq x f
    have bM := Bk_sm b y1.1
    have ib := inb_nI (show j < 60 by omega) (by decide)
    show ∃ M', sX12_plan_123 (F + 1) x1 x2 x3 (nI (w * h)) (nI j) M1 = _ ∧ _
    rw [sX12_plan_123, bM.2.1.2.2, if_neg (nle_nI hj (by omega)), ckT ib, nI_clamp (show j < 2 ^ 31 by omega), y1.2 j hj, List.range_succ, List.filter_append]
    unfold sX12_plan_155
    rw [show nI j + 1 = nI (j + 1) by rw [nI_1]]
    by_cases z : j ∈ Lof M0 n
    · obtain ⟨i1, i2, i3, i4⟩ := Lof_cel b hn z
      obtain ⟨kk, hkk, ekk⟩ := Lof_k8 b hn j z
      have hb := b.2.2.2.2.1 j hj (by
        obtain ⟨z1, z2⟩ := Lof_in.mp z
        unfold cnt at z2
        simp only [Bool.and_eq_true, decide_eq_true_eq, Bool.not_eq_true'] at z2
        exact z2.1.1)
      rw [if_pos z, ekk, if_neg (Int32.not_lt.mpr (nI_nn (by omega))), ckT ib, y1.1 204 j (by unfold rBk; omega), hb.2.2.2.2.2, i3, ckT (inb_nI (by omega) (by decide)), nI_clamp (by omega), List.filter_cons_of_pos (by simp [z]), List.filter_nil]
      refine ⟨_, rfl, Fr_sI f (by unfold pGm; omega), fun c hc => ⟨by rw [rdN (by omega)]; exact (q c hc).1, ?_⟩⟩
      rw [any_ap]
      by_cases u : c = cel M0 j
      · rw [u, rdS]; simp [b2]
      · rw [rdN (by omega), (q c hc).2, decide_eq_false (fun z => u z.symm), Bool.or_false]
    · rw [if_neg z, if_pos (by decide), List.filter_cons_of_neg (by simp [z]), List.filter_nil, List.append_nil]
      exact ⟨M1, rfl, f, q⟩) N 0 4096 A (by omega) (by omega) ⟨a2, fun c hc => ⟨(a3 c hc).1, by rw [(a3 c hc).2]; rfl⟩⟩
  rw [← Lof_rg hn] at b3
  have yB := Mk_gm hq x b2'
  refine ⟨B, ?_, b2', yB, b3⟩
  refine Eq.trans a1 ?_
  show sX12_plan_65 (4096 - w * h) x1 x2 x3 (nI (w * h)) (nI (w * h)) A = _
  rw [show 4096 - w * h = (4095 - w * h) + 1 by omega, sX12_plan_65, if_pos (nI_le (by omega) (by omega))]
  refine Eq.trans b1 ?_
  show sX12_plan_123 (4096 - N) x1 x2 x3 (nI (w * h)) (nI N) B = _
  rw [show 4096 - N = (4095 - N) + 1 by omega, sX12_plan_123, (Bk_sm b yB.1).2.1.2.2, if_pos (nI_le (by omega) (by omega))]
