/-- how many bores of the list say kind k where the old map says o -/
def tlc (M0 : Mm) (o k i : Nat) : Bool := decide (M0.1 200 (cel M0 i) = nI o) && decide (M0.1 (38 + 2 * i) 5 = nI k)
def tly (M0 : Mm) (L : List Nat) (o k : Nat) : Nat := (L.filter (tlc M0 o k)).length
theorem tly_ap (M0 : Mm) (L : List Nat) (o k i : Nat) : tly M0 (L ++ [i]) o k = tly M0 L o k + if tlc M0 o k i = true then 1 else 0 := by
  unfold tly
  rw [List.filter_append, List.length_append]
  congr 1
  by_cases q : tlc M0 o k i = true
  · rw [if_pos q, List.filter_cons_of_pos q]; rfl
  · rw [if_neg q, List.filter_cons_of_neg q]; rfl
theorem tly_le (M0 : Mm) (L : List Nat) (o k : Nat) : tly M0 L o k ≤ L.length := List.length_filter_le _ _
def mtd (g : Nat → Nat) : Nat → Option Nat
  | 0 => none
  | k + 1 => match mtd g k with
    | none => if g k ≤ 0 then none else some k
    | some b => if g k ≤ g b then some b else some k
def oI (o : Option Nat) : Int32 := match o with
  | none => -1
  | some b => nI b
theorem oI_n : oI none = -1 := rfl
theorem oI_s (b : Nat) : oI (some b) = nI b := rfl
theorem mtd_lt {g : Nat → Nat} : ∀ k b, mtd g k = some b → b < k := by
  intro k
  induction k with
  | zero => intro b h; cases h
  | succ k ih =>
    intro b h
    rw [mtd] at h
    cases hm : mtd g k with
    | none =>
      rw [hm] at h
      dsimp only at h
      split at h
      · cases h
      · cases h; omega
    | some c =>
      rw [hm] at h
      have := ih c hm
      dsimp only at h
      split at h
      · cases h; omega
      · cases h; omega
theorem mtd_0 {g : Nat → Nat} {K : Nat} (h : ∀ k, K ≤ k → g k = 0) : ∀ d, mtd g (K + d) = mtd g K := by
  intro d
  induction d with
  | zero => rfl
  | succ d ih =>
    rw [← Nat.add_assoc, mtd, ih, h (K + d) (by omega)]
    cases mtd g K with
    | none => rfl
    | some b => dsimp only; rw [if_pos (Nat.zero_le _)]
def Tx (M0 M : Mm) (L : List Nat) : Prop := (∀ c k, c < 6 → k < 8 → M.1 (181 + c) k = nI (tly M0 L c k)) ∧ ∀ c, c < 6 → M.1 187 c = oI (mtd (tly M0 L c) 8)
def pTl (id _k : Nat) : Prop := 181 ≤ id ∧ id ≤ 187
theorem sc_tl {M M1 : Mm} (f : Fr pTl M M1) : Fr pSc M M1 := Fr_mo f (fun id k q => Or.inr (Or.inr (Or.inr (Or.inr (Or.inr (Or.inl (by unfold pTl at q; omega)))))))
theorem x_tl10 {k2 : Int32 → Mm → Option Mm} {i : Nat} (hi : i < 6) (M1 : Mm) : ∃ M2, sX8_tallyBores_10 k2 4096 (nI i) 0 M1 = k2 (nI (i + 1)) M2 ∧ Fr (fun id _ => id = 181 + i) M1 M2 ∧ ∀ k, k < 8 → M2.1 (181 + i) k = 0 := by
  obtain ⟨M2, e2, f2, q2⟩ := lp_M (f := fun F j M => sX8_tallyBores_10 k2 F (nI i) j M) (n := 8) (I := fun j M' => Fr (fun id _ => id = 181 + i) M1 M' ∧ ∀ k, k < j → M'.1 (181 + i) k = 0) (fun F j M3 hj h => by
    refine ⟨sI M3 (181 + i) j 0, ?_, Fr_sI h.1 rfl, fun k hk => ?_⟩
    · show sX8_tallyBores_10 k2 (F + 1) (nI i) (nI j) M3 = _
      rw [sX8_tallyBores_10, if_neg (lit_nle (v := 8) (n := 8) rfl hj (by decide)), ckT (inb_nI hi (by decide)), ckT (inb_nI hj (by decide)), nI_clamp (show i < 2 ^ 31 by omega), nI_clamp (show j < 2 ^ 31 by omega), nI_1]
    · by_cases u : k = j
      · rw [u, rdS]
      · rw [rdN (by omega)]; exact h.2 k (by omega)) 8 0 4096 M1 (by omega) (by omega) ⟨Fr_rf _ _, fun k hk => absurd hk (Nat.not_lt_zero k)⟩
  refine ⟨M2, ?_, f2, q2⟩
  refine Eq.trans e2 ?_
  show sX8_tallyBores_10 k2 (4087 + 1) (nI i) (nI 8) M2 = _
  rw [sX8_tallyBores_10, if_pos (by decide), nI_1]
theorem x_tl0 (M : Mm) : ∃ M', sX8_tallyBores_2 4096 0 M = sX8_tallyBores_39 4096 0 M' ∧ Fr pTl M M' ∧ ∀ c k, c < 6 → k < 8 → M'.1 (181 + c) k = 0 := by
  obtain ⟨M', e, f, h⟩ := lp_M (f := fun F i M => sX8_tallyBores_2 F i M) (n := 6) (I := fun i M' => Fr pTl M M' ∧ ∀ c k, c < i → k < 8 → M'.1 (181 + c) k = 0) (fun F i M1 hi h => by
    obtain ⟨M2, e2, f2, q2⟩ := x_tl10 (k2 := sX8_tallyBores_2 F) hi M1
    refine ⟨M2, ?_, Fr_tr h.1 (Fr_mo f2 (fun id k q => by unfold pTl; omega)), fun c k hc hk => ?_⟩
    · show sX8_tallyBores_2 (F + 1) (nI i) M1 = _
      rw [sX8_tallyBores_2, if_neg (lit_nle (v := 6) (n := 6) rfl hi (by decide)), e2]
    · by_cases u : c = i
      · rw [u]; exact q2 k hk
      · rw [(f2 _ _ (by omega)).1]; exact h.2 c k (by omega) hk) 6 0 4096 M (by omega) (by omega) ⟨Fr_rf _ _, fun c k hk => by omega⟩
  refine ⟨M', ?_, f, h⟩
  refine Eq.trans e ?_
  show sX8_tallyBores_2 (4089 + 1) (nI 6) M' = _
  rw [sX8_tallyBores_2, if_pos (by decide)]
theorem x_most {c : Nat} {g : Nat → Nat} {M : Mm} (hc : c < 6) (hg : ∀ k, k < 8 → M.1 (181 + c) k = nI (g k) ∧ g k ≤ 60) : sX8_mostTold (nI c) M = some (oI (mtd g 8), M) := by
  obtain ⟨a, M', e, f1, f2⟩ := lp_A (f := fun F a j M => sX8_mostTold_4 F (nI c) a j M) (n := 8) (I := fun j a M' => M' = M ∧ a = oI (mtd g j)) (fun F j a M1 hj hI => by
    obtain ⟨rfl, rfl⟩ := hI
    refine ⟨_, M1, ?_, rfl, rfl⟩
    show sX8_mostTold_4 (F + 1) (nI c) (oI (mtd g j)) (nI j) M1 = _
    have gj := hg j hj
    rw [sX8_mostTold_4, if_neg (lit_nle (v := 8) (n := 8) rfl hj (by decide)), ckT (inb_nI hc (by decide)), ckT (inb_nI hj (by decide)), nI_clamp (show c < 2 ^ 31 by omega), nI_clamp (show j < 2 ^ 31 by omega), gj.1]
    unfold sX8_mostTold_35 sX8_mostTold_40
    rw [nI_1, mtd]
    cases hm : mtd g j with
    | none =>
      dsimp only
      rw [oI_n, if_pos rfl]
      congr 1
      by_cases z : g j ≤ 0
      · rw [if_pos (show nI (g j) ≤ 0 from nI_le (b := 0) z (by omega)), if_pos z, oI_n]
      · rw [if_neg (show ¬ nI (g j) ≤ 0 from nle_nI (b := 0) (by omega) (by omega)), if_neg z, oI_s]
    | some d =>
      have hd := mtd_lt j d hm
      have gd := hg d (by omega)
      dsimp only
      rw [oI_s, if_neg (nI_ne1 (by omega)), ckT (inb_nI hc (by decide)), ckT (inb_nI (by omega) (by decide)), nI_clamp (by omega), gd.1]
      congr 1
      by_cases z : g j ≤ g d
      · rw [if_pos (nI_le z (by omega)), if_pos z, oI_s]
      · rw [if_neg (nle_nI (by omega) (by omega)), if_neg z, oI_s]) 8 0 4096 (-1) M (by omega) (by omega) ⟨rfl, rfl⟩
  obtain ⟨rfl, rfl⟩ := And.intro f1 f2
  unfold sX8_mostTold
  refine Eq.trans e ?_
  show sX8_mostTold_4 (4087 + 1) (nI c) _ (nI 8) M' = _
  rw [sX8_mostTold_4, if_pos (by decide)]
theorem x_tally {kq : Nat × Nat} {w h N K n : Nat} {M0 M : Mm} (hq : isKq kq) (b : Bk kq w h N K M0) (hv : iVals M0) (hn : n ≤ N) (x : Xk kq M0 M (Lof M0 n)) : ∃ M', sX8_tallyBores M = some M' ∧ Fr pTl M M' ∧ Xk kq M0 M' (Lof M0 n) ∧ Tx M0 M' (Lof M0 n) := by
  have hN := b.2.1.1
  have hK := b.2.2.2.1.1
  have h64 := wh64 b.1.1
  have hl := Lof_len M0 n
  have xf : ∀ {M' : Mm}, Fr pTl M M' → Xk kq M0 M' (Lof M0 n) := fun {M'} f => ⟨Sm_tr x.1 (sc_sm hq (sc_tl f)), by rw [(f 34 3 (by unfold pTl; omega)).1]; exact x.2.1, fun j hj => by rw [(f 36 j (by unfold pTl; omega)).1]; exact x.2.2 j hj⟩
  obtain ⟨A, a1, a2, a3⟩ := x_tl0 M
  obtain ⟨B, b1, b2', b3⟩ := lp_M (f := fun F j M => sX8_tallyBores_39 F j M) (n := (Lof M0 n).length) (I := fun j M' => Fr pTl M M' ∧ ∀ c k, c < 6 → k < 8 → M'.1 (181 + c) k = nI (tly M0 ((Lof M0 n).take j) c k)) (fun F j M1 hj hI => by
    obtain ⟨f, q⟩ := hI
    have hm := getD_in hj
    obtain ⟨i1, i2, i3, i4⟩ := Lof_cel b hn hm
    obtain ⟨kk, hkk, ekk⟩ := Lof_k8 b hn _ hm
    have x1 := xf f
    have z4 : inb 4 5 = true := by decide
    have e28 : 24 + (4 : Int32).toNatClampNeg = 28 := by decide
    have s28 : ∀ c, c < w * h → M1.1 28 c = M0.1 200 c := fun c hc => by
      rw [x1.1 28 c (Or.inl (by unfold rLand; omega))]
      exact b.1.2.2.2.1 4 c (by omega) hc
    show ∃ M', sX8_tallyBores_39 (F + 1) (nI j) M1 = _ ∧ _
    rw [sX8_tallyBores_39, x1.2.1, if_neg (nle_nI hj (by omega)), ckT (inb_nI (by omega) (by decide)), nI_clamp (show j < 2 ^ 31 by omega), x1.2.2 j hj, ckT (inb_nI i1 (by decide)), nI_clamp (show (Lof M0 n).getD j 0 < 2 ^ 31 by omega), ckT z4, x1.1 _ 2 (rBk_n i1), i3, ckT (inb_nI (by omega) (by decide)), nI_clamp (show cel M0 ((Lof M0 n).getD j 0) < 2 ^ 31 by omega), e28, s28 _ i2, x1.1 _ 5 (rBk_n i1), ekk, take_sc hj]
    generalize hi : (Lof M0 n).getD j 0 = i at i1 i2 i3 ekk
    unfold sX8_tallyBores_103
    rw [nI_1]
    rcases (hv (cel M0 i) (by omega)).2 with o | ⟨o, ho, eo⟩
    · rw [if_pos o]
      refine ⟨M1, rfl, f, fun c k hc hk => ?_⟩
      rw [tly_ap, if_neg (fun p => ?_), q c k hc hk, Nat.add_zero]
      unfold tlc at p
      rw [o] at p
      simp only [Bool.and_eq_true, decide_eq_true_eq] at p
      exact nI_ne1 (show c < 2 ^ 31 by omega) p.1.symm
    · rw [eo, if_neg (nI_ne1 (by omega)), ckT (inb_nI (by omega) (by decide)), ckT (inb_nI hkk (by decide)), ckT (inb_nI hkk (by decide)), nI_clamp (show o < 2 ^ 31 by omega), nI_clamp (show kk < 2 ^ 31 by omega), q o kk (by omega) hkk, nI_1]
      refine ⟨_, rfl, Fr_sI f (by unfold pTl; omega), fun c k hc hk => ?_⟩
      rw [tly_ap]
      by_cases u : c = o ∧ k = kk
      · obtain ⟨rfl, rfl⟩ := u
        rw [rdS, if_pos (by unfold tlc; rw [eo, ekk]; simp)]
      · rw [rdN (by omega), q c k hc hk, if_neg (fun p => ?_), Nat.add_zero]
        unfold tlc at p
        rw [eo, ekk] at p
        simp only [Bool.and_eq_true, decide_eq_true_eq] at p
        have p1 := nI_inj (show o < 2 ^ 31 by omega) (show c < 2 ^ 31 by omega) p.1
        have p2 := nI_inj (show kk < 2 ^ 31 by omega) (show k < 2 ^ 31 by omega) p.2
        omega) (Lof M0 n).length 0 4096 A (by omega) (by omega) ⟨a2, fun c k hc hk => by rw [a3 c k hc hk]; rfl⟩
  rw [List.take_length] at b3
  obtain ⟨D, d1, d2, d3⟩ := lp_M (f := fun F j M => sX8_tallyBores_111 F j M) (n := 6) (I := fun j M' => Fr (fun id _ => id = 187) B M' ∧ ∀ c, c < j → M'.1 187 c = oI (mtd (tly M0 (Lof M0 n) c) 8)) (fun F j M1 hj hI => by
    obtain ⟨f, q⟩ := hI
    refine ⟨sI M1 187 j (oI (mtd (tly M0 (Lof M0 n) j) 8)), ?_, Fr_sI f rfl, fun c hc => ?_⟩
    · show sX8_tallyBores_111 (F + 1) (nI j) M1 = _
      rw [sX8_tallyBores_111, if_neg (lit_nle (v := 6) (n := 6) rfl hj (by decide)), x_most (g := tly M0 (Lof M0 n) j) hj (fun k hk => ⟨by rw [(f _ _ (by omega)).1]; exact b3 j k hj hk, Nat.le_trans (tly_le _ _ _ _) (by omega)⟩), Option.bind_some]
      dsimp only
      rw [ckT (inb_nI hj (by decide)), nI_clamp (by omega), nI_1]
    · by_cases u : c = j
      · rw [u, rdS]
      · rw [rdN (by omega)]; exact q c (by omega)) 6 0 4096 B (by omega) (by omega) ⟨Fr_rf _ _, fun c hc => absurd hc (Nat.not_lt_zero c)⟩
  have fD : Fr pTl M D := Fr_tr b2' (Fr_mo d2 (fun id k q => by unfold pTl; omega))
  refine ⟨D, ?_, fD, xf fD, fun c k hc hk => ?_, d3⟩
  · unfold sX8_tallyBores
    rw [a1]
    refine Eq.trans b1 ?_
    show sX8_tallyBores_39 (4096 - (Lof M0 n).length) (nI (Lof M0 n).length) B = _
    rw [show 4096 - (Lof M0 n).length = (4095 - (Lof M0 n).length) + 1 by omega, sX8_tallyBores_39, (xf b2').2.1, if_pos (nI_le (by omega) (by omega))]
    refine Eq.trans d1 ?_
    show sX8_tallyBores_111 (4089 + 1) (nI 6) D = _
    rw [sX8_tallyBores_111, if_pos (by decide)]
  · rw [(d2 _ _ (by omega)).1]; exact b3 c k hc hk
theorem m_bores {kq : Nat × Nat} {w h N K n o k : Nat} {M0 M : Mm} (hq : isKq kq) (b : Bk kq w h N K M0) (ho : o < 6) (hk : k < 8) (hn : n ≤ N) (x : Mk kq N M0 M (Lof M0 n)) : sX12_boresOf (nI o) (nI k) M = some (nI (tly M0 (Lof M0 n) o k), M) := by
  have hN := b.2.1.1
  have h64 := wh64 b.1.1
  have b' := Bk_sm b x.1
  obtain ⟨a, M', e, f1, f2⟩ := lp_A (f := fun F a j M => sX12_boresOf_5 F (nI o) (nI k) a j M) (n := N) (I := fun j a M' => M' = M ∧ a = nI (tly M0 ((List.range j).filter (fun i => decide (i ∈ Lof M0 n))) o k)) (fun F j a M1 hj hI => by
    obtain ⟨rfl, rfl⟩ := hI
    have ib := inb_nI (show j < 60 by omega) (by decide)
    refine ⟨_, M1, ?_, rfl, rfl⟩
    show sX12_boresOf_5 (F + 1) (nI o) (nI k) _ (nI j) M1 = _
    rw [sX12_boresOf_5, b'.2.1.2.2, if_neg (nle_nI hj (by omega)), ckT ib, nI_clamp (show j < 2 ^ 31 by omega), x.2 j hj, List.range_succ, List.filter_append]
    unfold sX12_boresOf_46 sX12_boresOf_47
    rw [show nI j + 1 = nI (j + 1) by rw [nI_1]]
    by_cases z : j ∈ Lof M0 n
    · obtain ⟨i1, i2, i3, i4⟩ := Lof_cel b hn z
      have hb := b.2.2.2.2.1 j hj (by
        obtain ⟨z1, z2⟩ := Lof_in.mp z
        unfold cnt at z2
        simp only [Bool.and_eq_true, decide_eq_true_eq, Bool.not_eq_true'] at z2
        exact z2.1.1)
      rw [if_pos z, List.filter_cons_of_pos (by simp [z]), List.filter_nil, tly_ap]
      by_cases c1 : M0.1 (38 + 2 * j) 5 = nI k
      · rw [if_pos c1, ckT ib, x.1 204 j (by unfold rBk; omega), hb.2.2.2.2.2, i3, ckT (inb_nI (by omega) (by decide)), nI_clamp (by omega), x.1 200 _ (Or.inl (by unfold rLand; omega))]
        by_cases c2 : M0.1 200 (cel M0 j) = nI o
        · rw [if_pos c2, if_pos (by unfold tlc; simp [c1, c2]), nI_1]
        · rw [if_neg c2, if_neg (by unfold tlc; simp [c2]), add_z]; rfl
      · rw [if_neg c1, if_neg (by unfold tlc; simp [c1]), add_z]; rfl
    · rw [if_neg z, if_neg (fun p => nI_ne1 (show k < 2 ^ 31 by omega) p.symm), List.filter_cons_of_neg (by simp [z]), List.filter_nil, List.append_nil, add_z]) N 0 4096 0 M (by omega) (by omega) ⟨rfl, rfl⟩
  obtain ⟨rfl, rfl⟩ := And.intro f1 f2
  unfold sX12_boresOf
  refine Eq.trans e ?_
  show sX12_boresOf_5 (4096 - N) (nI o) (nI k) _ (nI N) M' = _
  rw [show 4096 - N = (4095 - N) + 1 by omega, sX12_boresOf_5, b'.2.1.2.2, if_pos (nI_le (by omega) (by omega)), ← Lof_rg hn]
theorem m_turn {kq : Nat × Nat} {w h N K n o : Nat} {M0 M : Mm} (hq : isKq kq) (b : Bk kq w h N K M0) (ho : o < 6) (hn : n ≤ N) (x : Mk kq N M0 M (Lof M0 n)) : sX12_turnedTo (nI o) M = some (oI (mtd (tly M0 (Lof M0 n) o) K), M) := by
  have hN := b.2.1.1
  have hK := b.2.2.2.1.1
  have hl := Lof_len M0 n
  have b' := Bk_sm b x.1
  have hb : ∀ k, k < 8 → sX12_boresOf (nI o) (nI k) M = some (nI (tly M0 (Lof M0 n) o k), M) := fun k hk => m_bores hq b ho hk hn x
  have hg : ∀ k, tly M0 (Lof M0 n) o k ≤ 60 := fun k => Nat.le_trans (tly_le _ _ _ _) (by omega)
  generalize tly M0 (Lof M0 n) o = g at hb hg
  obtain ⟨a, M', e, f1, f2⟩ := lp_A (f := fun F a j M => sX12_turnedTo_4 F (nI o) a j M) (n := K) (I := fun j a M' => M' = M ∧ a = oI (mtd g j)) (fun F j a M1 hj hI => by
    obtain ⟨rfl, rfl⟩ := hI
    refine ⟨_, M1, ?_, rfl, rfl⟩
    show sX12_turnedTo_4 (F + 1) (nI o) (oI (mtd g j)) (nI j) M1 = _
    have gj := hg j
    rw [sX12_turnedTo_4, b'.2.2.2.1.2.2.1, if_neg (nle_nI hj (by omega)), hb j (by omega), Option.bind_some]
    dsimp only
    unfold sX12_turnedTo_40 sX12_turnedTo_42
    rw [nI_1, mtd]
    cases hm : mtd g j with
    | none =>
      dsimp only
      rw [oI_n]
      by_cases z : g j ≤ 0
      · rw [if_pos (show nI (g j) ≤ 0 from nI_le (b := 0) z (by omega)), if_pos z, oI_n]
      · rw [if_neg (show ¬ nI (g j) ≤ 0 from nle_nI (b := 0) (by omega) (by omega)), if_neg z, oI_s, if_pos (by decide)]
    | some d =>
      have hd := mtd_lt j d hm
      have gd := hg d
      dsimp only
      rw [oI_s]
      by_cases z0 : g j ≤ 0
      · rw [if_pos (show nI (g j) ≤ 0 from nI_le (b := 0) z0 (by omega)), if_pos (show g j ≤ g d by omega), oI_s]
      · rw [if_neg (show ¬ nI (g j) ≤ 0 from nle_nI (b := 0) (by omega) (by omega)), if_neg (Int32.not_lt.mpr (nI_nn (by omega))), hb d (by omega), Option.bind_some]
        dsimp only
        by_cases z : g j ≤ g d
        · rw [if_pos (nI_le z (by omega)), if_pos z, oI_s]
        · rw [if_neg (nle_nI (by omega) (by omega)), if_neg z, oI_s]) K 0 4096 (-1) M (by omega) (by omega) ⟨rfl, rfl⟩
  obtain ⟨rfl, rfl⟩ := And.intro f1 f2
  unfold sX12_turnedTo
  refine Eq.trans e ?_
  show sX12_turnedTo_4 (4096 - K) (nI o) _ (nI K) M' = _
  rw [show 4096 - K = (4095 - K) + 1 by omega, sX12_turnedTo_4, b'.2.2.2.1.2.2.1, if_pos (nI_le (by omega) (by omega))]
theorem tly_K {kq : Nat × Nat} {w h N K n : Nat} {M0 : Mm} (b : Bk kq w h N K M0) (hn : n ≤ N) (o k : Nat) (hk : K ≤ k) (hk2 : k < 2 ^ 31) : tly M0 (Lof M0 n) o k = 0 := by
  unfold tly
  rw [List.length_eq_zero_iff, List.filter_eq_nil_iff]
  intro i hi p
  obtain ⟨-, -, -, kk, h1, h2⟩ := Lof_ok b hn i hi
  unfold tlc at p
  rw [h2] at p
  simp only [Bool.and_eq_true, decide_eq_true_eq] at p
  have := nI_inj (by omega) hk2 p.2
  omega
