theorem lp_S {σ α : Type} {f : Nat → σ → Int32 → Mm → Option α} {n : Nat} {I : Nat → σ → Mm → Prop} (st : ∀ (F i : Nat) (a : σ) (M : Mm), i < n → I i a M → ∃ a' M', f (F + 1) a (nI i) M = f F a' (nI (i + 1)) M' ∧ I (i + 1) a' M') : ∀ (d i F : Nat) (a : σ) (M : Mm), i + d = n → d ≤ F → I i a M → ∃ a' M', f F a (nI i) M = f (F - d) a' (nI n) M' ∧ I n a' M' := by
  intro d
  induction d with
  | zero =>
    intro i F a M hi hF h
    have : i = n := by omega
    subst this
    exact ⟨a, M, rfl, h⟩
  | succ d ih =>
    intro i F a M hi hF h
    obtain ⟨F, rfl⟩ : ∃ G, F = G + 1 := ⟨F - 1, by omega⟩
    obtain ⟨a', M', e, h'⟩ := st F i a M (by omega) h
    obtain ⟨a2, M2, e2, h2⟩ := ih (i + 1) F a' M' (by omega) (by omega) h'
    refine ⟨a2, M2, ?_, h2⟩
    rw [e, e2, show F + 1 - (d + 1) = F - d by omega]
def lsm (g : Nat → Int32) (L : List Nat) : Int32 := L.foldl (fun a i => a + g i) 0
theorem lsm_ap (g : Nat → Int32) (L : List Nat) (i : Nat) : lsm g (L ++ [i]) = lsm g L + g i := by
  unfold lsm
  rw [List.foldl_append]
  rfl
theorem Lof_nd {M : Mm} {n i j : Nat} (hi : i < (Lof M n).length) (hj : j < (Lof M n).length) : (Lof M n).getD i 0 = (Lof M n).getD j 0 ↔ i = j := by
  have hp : (Lof M n).Pairwise (fun a b => a < b) := List.Pairwise.filter _ List.pairwise_lt_range
  rw [List.pairwise_iff_getElem] at hp
  rw [List.getD_eq_getElem?_getD, List.getD_eq_getElem?_getD, List.getElem?_eq_getElem hi, List.getElem?_eq_getElem hj]
  constructor
  · intro q
    have q' : (Lof M n)[i] = (Lof M n)[j] := q
    rcases Nat.lt_trichotomy i j with u | u | u
    · have := hp i j hi hj u; omega
    · exact u
    · have := hp j i hj hi u; omega
  · intro q
    subst q
    rfl
def cel (M : Mm) (i : Nat) : Nat := (M.1 (38 + 2 * i) 2).toNatClampNeg
/-- bore i left out: is its kind the best; what was said of it -/
def lo1 (w K n : Nat) (M : Mm) (i : Nat) : Int32 := if nI (bst (wt w M (cel M i) (Lof M n) i) K) = M.1 (38 + 2 * i) 5 then 1 else 0
def lo2 (w K n : Nat) (M : Mm) (i : Nat) : Int32 := prt (wt w M (cel M i) (Lof M n) i) K (bst (wt w M (cel M i) (Lof M n) i) K)
theorem add_z (a : Int32) : a + 0 = a := by grind
theorem Lof_cel {kq : Nat × Nat} {w h N K n i : Nat} {M : Mm} (b : Bk kq w h N K M) (hn : n ≤ N) (hi : i ∈ Lof M n) : i < 60 ∧ cel M i < w * h ∧ M.1 (38 + 2 * i) 2 = nI (cel M i) ∧ 1 ≤ K := by
  obtain ⟨h1, h2, ⟨c, hc, ec⟩, k, hk, ek⟩ := Lof_ok b hn i hi
  have h64 := wh64 b.1.1
  unfold cel
  rw [ec, nI_clamp (by omega)]
  exact ⟨h1, hc, rfl, by omega⟩
theorem x_right {kq : Nat × Nat} {w h N K n : Nat} {M0 M : Mm} (hq : isKq kq) (b : Bk kq w h N K M0) (hn : n ≤ N) (x : Xk kq M0 M (Lof M0 n)) : ∃ M', sX11_countRight M = some (lsm (lo1 w K n M0) (Lof M0 n), M') ∧ Fr pSc M M' := by
  have hN := b.2.1.1
  have hl := Lof_len M0 n
  obtain ⟨a, M', e, f1, f2, f3⟩ := lp_A (f := fun F a j M => sX11_countRight_4 F a j M) (n := (Lof M0 n).length) (I := fun j a M' => Xk kq M0 M' (Lof M0 n) ∧ Fr pSc M M' ∧ a = lsm (lo1 w K n M0) ((Lof M0 n).take j)) (fun F j a M1 hj hI => by
    obtain ⟨x1, f1, rfl⟩ := hI
    have hm := getD_in hj
    obtain ⟨i1, i2, i3, i4⟩ := Lof_cel b hn hm
    obtain ⟨M2, e2, f2, x2, y2⟩ := xk_weigh (c := cel M0 ((Lof M0 n).getD j 0)) (wo := (Lof M0 n).getD j 0) (x2 := nI j) hq b hn x1 i2 (fun j' hj' => by
      rw [Lof_nd hj' hj]
      exact ⟨fun q => nI_inj (by omega) (by omega) q, fun q => by rw [q]⟩)
    refine ⟨lsm (lo1 w K n M0) ((Lof M0 n).take (j + 1)), M2, ?_, x2, Fr_tr f1 (sc_w f2), rfl⟩
    show sX11_countRight_4 (F + 1) _ (nI j) M1 = _
    rw [sX11_countRight_4, x1.2.1, if_neg (nle_nI hj (by omega)), ckT (inb_nI (by omega) (by decide)), nI_clamp (by omega), x1.2.2 j hj, ckT (inb_nI i1 (by decide)), nI_clamp (by omega), x1.1 _ 2 (rBk_n i1), i3, e2, Option.bind_some, y2.2.2, x2.1 _ 5 (rBk_n i1)]
    unfold sX11_countRight_62
    rw [nI_1, take_sc hj, lsm_ap]
    congr 1
    unfold lo1
    split
    · rfl
    · rw [add_z]) (Lof M0 n).length 0 4096 0 M (by omega) (by omega) ⟨x, Fr_rf _ _, rfl⟩
  refine ⟨M', ?_, f2⟩
  unfold sX11_countRight
  refine Eq.trans e ?_
  show sX11_countRight_4 (4096 - (Lof M0 n).length) a (nI (Lof M0 n).length) M' = _
  rw [show 4096 - (Lof M0 n).length = (4095 - (Lof M0 n).length) + 1 by omega, sX11_countRight_4, f1.2.1, if_pos (nI_le (by omega) (by omega)), f3, List.take_length]
theorem x_said {kq : Nat × Nat} {w h N K n : Nat} {M0 M : Mm} (hq : isKq kq) (b : Bk kq w h N K M0) (hn : n ≤ N) (x : Xk kq M0 M (Lof M0 n)) : ∃ M', sX11_sumSaid M = some (lsm (lo2 w K n M0) (Lof M0 n), M') ∧ Fr pSc M M' := by
  have hN := b.2.1.1
  have hK := b.2.2.2.1.1
  have hl := Lof_len M0 n
  obtain ⟨a, M', e, f1, f2, f3⟩ := lp_A (f := fun F a j M => sX11_sumSaid_4 F a j M) (n := (Lof M0 n).length) (I := fun j a M' => Xk kq M0 M' (Lof M0 n) ∧ Fr pSc M M' ∧ a = lsm (lo2 w K n M0) ((Lof M0 n).take j)) (fun F j a M1 hj hI => by
    obtain ⟨x1, f1, rfl⟩ := hI
    have hm := getD_in hj
    obtain ⟨i1, i2, i3, i4⟩ := Lof_cel b hn hm
    obtain ⟨M2, e2, f2, x2, y2⟩ := xk_weigh (c := cel M0 ((Lof M0 n).getD j 0)) (wo := (Lof M0 n).getD j 0) (x2 := nI j) hq b hn x1 i2 (fun j' hj' => by
      rw [Lof_nd hj' hj]
      exact ⟨fun q => nI_inj (by omega) (by omega) q, fun q => by rw [q]⟩)
    obtain ⟨-, t, t1, t2, t3⟩ := wt_sm2 (c := cel M0 ((Lof M0 n).getD j 0)) (wo := (Lof M0 n).getD j 0) b hn
    have hbK : bst (wt w M0 (cel M0 ((Lof M0 n).getD j 0)) (Lof M0 n) ((Lof M0 n).getD j 0)) K < K := by
      rcases bst_lt (wt w M0 (cel M0 ((Lof M0 n).getD j 0)) (Lof M0 n) ((Lof M0 n).getD j 0)) K with q | ⟨q, q2⟩ <;> omega
    refine ⟨lsm (lo2 w K n M0) ((Lof M0 n).take (j + 1)), M2, ?_, x2, Fr_tr f1 (sc_w f2), rfl⟩
    show sX11_sumSaid_4 (F + 1) _ (nI j) M1 = _
    rw [sX11_sumSaid_4, x1.2.1, if_neg (nle_nI hj (by omega)), ckT (inb_nI (by omega) (by decide)), nI_clamp (by omega), x1.2.2 j hj, ckT (inb_nI i1 (by decide)), nI_clamp (by omega), x1.1 _ 2 (rBk_n i1), i3, e2, Option.bind_some, y2.2.2, x_part hK hbK t3 t1 t2 y2, Option.bind_some]
    rw [nI_1, take_sc hj, lsm_ap]
    rfl) (Lof M0 n).length 0 4096 0 M (by omega) (by omega) ⟨x, Fr_rf _ _, rfl⟩
  refine ⟨M', ?_, f2⟩
  unfold sX11_sumSaid
  refine Eq.trans e ?_
  show sX11_sumSaid_4 (4096 - (Lof M0 n).length) a (nI (Lof M0 n).length) M' = _
  rw [show 4096 - (Lof M0 n).length = (4095 - (Lof M0 n).length) + 1 by omega, sX11_sumSaid_4, f1.2.1, if_pos (nI_le (by omega) (by omega)), f3, List.take_length]
theorem m_left {kq : Nat × Nat} {w h N K n : Nat} {a2 : Int32} {M0 M : Mm} (hq : isKq kq) (b : Bk kq w h N K M0) (hn : n ≤ N) (x : Mk kq N M0 M (Lof M0 n)) : ∃ M', sX12_leftOut_40 4096 a2 0 0 0 0 M = some (if a2 = 0 then nI (Lof M0 n).length else if a2 = 1 then lsm (lo1 w K n M0) (Lof M0 n) else lsm (lo2 w K n M0) (Lof M0 n), M') ∧ Fr pSc M M' := by
  have hN := b.2.1.1
  have hK := b.2.2.2.1.1
  obtain ⟨a, M', e, f1, f2, f3⟩ := lp_S (σ := Int32 × Int32 × Int32) (f := fun F a j M => sX12_leftOut_40 F a2 a.1 a.2.1 a.2.2 j M) (n := N) (I := fun j a M' => Mk kq N M0 M' (Lof M0 n) ∧ Fr pSc M M' ∧ a = (nI ((List.range j).filter (fun i => decide (i ∈ Lof M0 n))).length, lsm (lo1 w K n M0) ((List.range j).filter (fun i => decide (i ∈ Lof M0 n))), lsm (lo2 w K n M0) ((List.range j).filter (fun i => decide (i ∈ Lof M0 n))))) (fun F j a M1 hj hI => by
    obtain ⟨x1, f1, rfl⟩ := hI
    have b1 := Bk_sm b x1.1
    have ib := inb_nI (show j < 60 by omega) (by decide)
    have cj := nI_clamp (show j < 2 ^ 31 by omega)
    show ∃ a' M', sX12_leftOut_40 (F + 1) a2 _ _ _ (nI j) M1 = _ ∧ _
    rw [sX12_leftOut_40, b1.2.1.2.2, if_neg (nle_nI hj (by omega)), ckT ib, cj, x1.2 j hj, List.range_succ, List.filter_append]
    by_cases z : j ∈ Lof M0 n
    · obtain ⟨i1, i2, i3, i4⟩ := Lof_cel b hn z
      obtain ⟨kk, hkk, ekk⟩ := Lof_k8 b hn j z
      have hb := b.2.2.2.2.1 j hj (by
        obtain ⟨z1, z2⟩ := Lof_in.mp z
        unfold cnt at z2
        simp only [Bool.and_eq_true, decide_eq_true_eq, Bool.not_eq_true'] at z2
        exact z2.1.1)
      obtain ⟨M2, e2, f2, x2, y2⟩ := mk_weigh (c := cel M0 j) (wo := j) (x2 := nI j) hq b hn x1 i2 (fun i' hi' => ⟨fun q => nI_inj (by omega) (by omega) q, fun q => by rw [q]⟩)
      obtain ⟨-, t, t1, t2, t3⟩ := wt_sm2 (c := cel M0 j) (wo := j) b hn
      have b2 := Bk_sm b x2.1
      have mb := m_best hK i4 b2.2.2.2.1.2.2.1 y2.1
      have hbK : bst (wt w M0 (cel M0 j) (Lof M0 n) j) K < K := by
        rcases bst_lt (wt w M0 (cel M0 j) (Lof M0 n) j) K with q | ⟨q, q2⟩ <;> omega
      rw [if_pos z, ekk, if_pos (nI_nn (by omega)), ckT ib, x1.1 204 j (by unfold rBk; omega), hb.2.2.2.2.2, i3, e2, Option.bind_some, mb, Option.bind_some, ckT ib]
      dsimp only
      rw [x2.2 j hj, if_pos z]
      unfold sX12_leftOut_99
      rw [mb, Option.bind_some]
      dsimp only
      rw [m_part hK hbK t3 t1 t2 y2, Option.bind_some]
      unfold sX12_leftOut_115
      rw [nI_1, nI_1, List.filter_cons_of_pos (by simp [z]), List.filter_nil]
      refine ⟨(_, _, _), M2, rfl, x2, Fr_tr f1 (sc_wm f2), ?_⟩
      rw [lsm_ap, lsm_ap, List.length_append]
      rfl
    · rw [if_neg z, if_neg (by decide), List.filter_cons_of_neg (by simp [z]), List.filter_nil, List.append_nil]
      unfold sX12_leftOut_115
      rw [nI_1]
      exact ⟨(_, _, _), M1, rfl, x1, f1, rfl⟩) N 0 4096 (0, 0, 0) M (by omega) (by omega) ⟨x, Fr_rf _ _, rfl⟩
  refine ⟨M', ?_, f2⟩
  have b' := Bk_sm b f1.1
  refine Eq.trans e ?_
  show sX12_leftOut_40 (4096 - N) a2 a.1 a.2.1 a.2.2 (nI N) M' = _
  rw [show 4096 - N = (4095 - N) + 1 by omega, sX12_leftOut_40, b'.2.1.2.2, if_pos (nI_le (by omega) (by omega)), f3, ← Lof_rg hn]
theorem step_leftOut {kq : Nat × Nat} {w h N K : Nat} {M : Mm} (a1 a2 a3 a4 a5 a6 : Int32) (hq : isKq kq) (b : Bk kq w h N K M) : ∃ M1, st_leftOut kq a1 a2 a3 a4 a5 a6 M = some (kq, M1) ∧ Fr pSc M M1 := by
  have f0 := sc_2 M
  have one : ¬ (1 : Int32) = 0 := by decide
  have b0 := Bk_sm b (sc_sm hq f0)
  have xk := fun x => x_knows (x := x) b.2.1.2.1
  have mk := fun x => m_known (x := x) b0.2.1.2.2
  have hN := b.2.1.1
  by_cases c1 : a1 < 0
  · exact ⟨_, st_join (v := -1) (Ma := M) (by simp only [sX11_leftOut, xk, if_pos c1, Option.bind_some, if_true]) (by simp only [sX12_leftOut, mk, if_pos c1, Option.bind_some, if_true]), f0⟩
  by_cases c2 : nI N < a1
  · exact ⟨_, st_join (v := -1) (Ma := M) (by simp only [sX11_leftOut, xk, if_neg c1, if_pos c2, Option.bind_some, if_true]) (by simp only [sX12_leftOut, mk, if_neg c1, if_pos c2, Option.bind_some, if_true]), f0⟩
  by_cases d1 : a2 < 0
  · exact ⟨_, st_join (v := -1) (Ma := M) (by simp only [sX11_leftOut, xk, if_neg c1, if_neg c2, if_neg one, if_pos d1, Option.bind_some]) (by simp only [sX12_leftOut, mk, if_neg c1, if_neg c2, if_neg one, if_pos d1, Option.bind_some]), f0⟩
  by_cases d2 : a2 ≤ 2
  case neg => exact ⟨_, st_join (v := -1) (Ma := M) (by simp only [sX11_leftOut, xk, if_neg c1, if_neg c2, if_neg one, if_neg d1, if_neg d2, Option.bind_some]) (by simp only [sX12_leftOut, mk, if_neg c1, if_neg c2, if_neg one, if_neg d1, if_neg d2, Option.bind_some]), f0⟩
  obtain ⟨n, hn, en⟩ := nI_ex (n := N) c1 (Int32.not_lt.mp c2) (by omega)
  subst en
  obtain ⟨A, g1, f1, x1⟩ := xk_gather hq b (Sm_rf kq M) hn
  have ms : ∀ {X : Mm}, Fr pSc M X → ∃ M', sX12_leftOut (nI n) a2 X = some (if a2 = 0 then nI (Lof M n).length else if a2 = 1 then lsm (lo1 w K n M) (Lof M n) else lsm (lo2 w K n M) (Lof M n), M') ∧ Fr pSc M M' := by
    intro X fX
    have fX2 := Fr_tr fX (sc_2 X)
    have s2 := sc_sm hq fX2
    obtain ⟨B, e2, f2, x2⟩ := mk_know (n := n) hq b s2 hn
    obtain ⟨D, e3, f3⟩ := m_left (a2 := a2) hq b hn x2
    refine ⟨D, ?_, Fr_tr fX2 (Fr_tr (sc_kn f2) f3)⟩
    simp only [sX12_leftOut, m_known (x := nI n) (Bk_sm b s2).2.1.2.2, if_neg c1, if_neg c2, if_neg one, if_neg d1, if_pos d2, Option.bind_some, e2, e3]
  have fA : Fr pSc M A := sc_ga f1
  by_cases w0 : a2 = 0
  · obtain ⟨D, e3, f3⟩ := ms fA
    rw [if_pos w0] at e3
    exact ⟨D, st_join (v := nI (Lof M n).length) (Ma := A) (by simp only [sX11_leftOut, xk, if_neg c1, if_neg c2, if_neg one, if_neg d1, if_pos d2, Option.bind_some, g1, if_pos w0, x1.2.1]) e3, f3⟩
  by_cases w1 : a2 = 1
  · obtain ⟨A2, g2, f2⟩ := x_right hq b hn x1
    obtain ⟨D, e3, f3⟩ := ms (Fr_tr fA f2)
    rw [if_neg w0, if_pos w1] at e3
    exact ⟨D, st_join (Ma := A2) (by simp only [sX11_leftOut, xk, if_neg c1, if_neg c2, if_neg one, if_neg d1, if_pos d2, Option.bind_some, g1, if_neg w0, if_pos w1, g2]) e3, f3⟩
  · obtain ⟨A2, g2, f2⟩ := x_said hq b hn x1
    obtain ⟨D, e3, f3⟩ := ms (Fr_tr fA f2)
    rw [if_neg w0, if_neg w1] at e3
    exact ⟨D, st_join (Ma := A2) (by simp only [sX11_leftOut, xk, if_neg c1, if_neg c2, if_neg one, if_neg d1, if_pos d2, Option.bind_some, g1, if_neg w0, if_neg w1, g2]) e3, f3⟩
