/-- the latest kind that hand a told at cell c -/
def lat (M0 : Mm) (a c : Nat) (L : List Nat) : Int32 := L.foldl (fun v i => if M0.1 (38 + 2 * i) 1 = nI a ∧ cel M0 i = c then M0.1 (38 + 2 * i) 5 else v) (-1)
theorem lat_ap (M0 : Mm) (a c i : Nat) (L : List Nat) : lat M0 a c (L ++ [i]) = if M0.1 (38 + 2 * i) 1 = nI a ∧ cel M0 i = c then M0.1 (38 + 2 * i) 5 else lat M0 a c L := by
  unfold lat
  rw [List.foldl_append]
  rfl
theorem lat_rg {M0 : Mm} {a c : Nat} : ∀ L : List Nat, (∀ i ∈ L, ∃ k, k < 8 ∧ M0.1 (38 + 2 * i) 5 = nI k) → lat M0 a c L = -1 ∨ ∃ k, k < 8 ∧ lat M0 a c L = nI k := by
  have : ∀ (L : List Nat) (v : Int32), (v = -1 ∨ ∃ k, k < 8 ∧ v = nI k) → (∀ i ∈ L, ∃ k, k < 8 ∧ M0.1 (38 + 2 * i) 5 = nI k) → (L.foldl (fun v i => if M0.1 (38 + 2 * i) 1 = nI a ∧ cel M0 i = c then M0.1 (38 + 2 * i) 5 else v) v = -1 ∨ ∃ k, k < 8 ∧ L.foldl (fun v i => if M0.1 (38 + 2 * i) 1 = nI a ∧ cel M0 i = c then M0.1 (38 + 2 * i) 5 else v) v = nI k) := by
    intro L
    induction L with
    | nil => intro v hv _; exact hv
    | cons x L ih =>
      intro v hv hL
      rw [List.foldl_cons]
      refine ih _ ?_ (fun i hi => hL i (List.mem_cons_of_mem _ hi))
      split
      · exact Or.inr (hL x (List.mem_cons_self ..))
      · exact hv
  exact fun L hL => this L (-1) (Or.inl rfl) hL
theorem lat_no {M0 : Mm} {a c : Nat} : ∀ L : List Nat, (∀ i ∈ L, cel M0 i ≠ c) → lat M0 a c L = -1 := by
  have : ∀ (L : List Nat) (v : Int32), (∀ i ∈ L, cel M0 i ≠ c) → L.foldl (fun v i => if M0.1 (38 + 2 * i) 1 = nI a ∧ cel M0 i = c then M0.1 (38 + 2 * i) 5 else v) v = v := by
    intro L
    induction L with
    | nil => intro v _; rfl
    | cons x L ih =>
      intro v hL
      rw [List.foldl_cons, if_neg (fun p => hL x (List.mem_cons_self ..) p.2)]
      exact ih _ (fun i hi => hL i (List.mem_cons_of_mem _ hi))
  exact fun L hL => this L (-1) hL
theorem x_lat {kq : Nat × Nat} {w h N K n r a : Nat} {M0 M : Mm} (hq : isKq kq) (b : Bk kq w h N K M0) (hr : r = 189 ∨ r = 190) (hn : n ≤ N) (x : Xk kq M0 M (Lof M0 n)) : ∃ M', sX0_findLatest r (nI a) M = some M' ∧ Fr (fun id _ => id = r) M M' ∧ Xk kq M0 M' (Lof M0 n) ∧ ∀ c, c < 64 → M'.1 r c = lat M0 a c (Lof M0 n) := by
  have hN := b.2.1.1
  have h64 := wh64 b.1.1
  have hl := Lof_len M0 n
  have xf : ∀ {M' : Mm}, Fr (fun id _ => id = r) M M' → Xk kq M0 M' (Lof M0 n) := fun {M'} f => ⟨Sm_tr x.1 (sc_sm hq (Fr_mo f (fun id k q => Or.inr (Or.inr (Or.inr (Or.inr (Or.inr (Or.inl (by omega))))))))), by rw [(f 34 3 (by omega)).1]; exact x.2.1, fun j hj => by rw [(f 36 j (by omega)).1]; exact x.2.2 j hj⟩
  obtain ⟨A, a1, a2, a3⟩ := lp_M (f := fun F i M => sX0_findLatest_2 r F (nI a) i M) (n := 64) (I := fun i M' => Fr (fun id _ => id = r) M M' ∧ ∀ c, c < i → M'.1 r c = -1) (fun F i M1 hi h => by
    refine ⟨sI M1 r i (-1), ?_, Fr_sI h.1 rfl, fun c hc => ?_⟩
    · show sX0_findLatest_2 r (F + 1) (nI a) (nI i) M1 = _
      rw [sX0_findLatest_2, if_neg (lit_nle (v := 64) (n := 64) rfl hi (by decide)), ckT (inb_nI hi (by decide)), nI_clamp (by omega), nI_1]
    · by_cases u : c = i
      · rw [u, rdS]
      · rw [rdN (by omega)]; exact h.2 c (by omega)) 64 0 4096 M (by omega) (by omega) ⟨Fr_rf _ _, fun c hc => absurd hc (Nat.not_lt_zero c)⟩
  obtain ⟨B, b1, b2', b3⟩ := lp_M (f := fun F i M => sX0_findLatest_20 r F (nI a) i M) (n := (Lof M0 n).length) (I := fun j M' => Fr (fun id _ => id = r) M M' ∧ ∀ c, c < 64 → M'.1 r c = lat M0 a c ((Lof M0 n).take j)) (fun F j M1 hj hI => by
    obtain ⟨f, q⟩ := hI
    have hm := getD_in hj
    obtain ⟨i1, i2, i3, i4⟩ := Lof_cel b hn hm
    have x1 := xf f
    show ∃ M', sX0_findLatest_20 r (F + 1) (nI a) (nI j) M1 = _ ∧ _
    rw [sX0_findLatest_20, x1.2.1, if_neg (nle_nI hj (by omega)), ckT (inb_nI (by omega) (by decide)), nI_clamp (show j < 2 ^ 31 by omega), x1.2.2 j hj, ckT (inb_nI i1 (by decide)), nI_clamp (show (Lof M0 n).getD j 0 < 2 ^ 31 by omega), x1.1 _ 1 (rBk_n i1), x1.1 _ 2 (rBk_n i1), i3, x1.1 _ 5 (rBk_n i1), nI_clamp (show cel M0 ((Lof M0 n).getD j 0) < 2 ^ 31 by omega), take_sc hj]
    generalize hi : (Lof M0 n).getD j 0 = i at i1 i2 i3
    unfold sX0_findLatest_71
    rw [show nI j + 1 = nI (j + 1) by rw [nI_1]]
    by_cases z : M0.1 (38 + 2 * i) 1 = nI a
    · rw [if_pos z, ckT (inb_nI (by omega) (by decide))]
      refine ⟨_, rfl, Fr_sI f rfl, fun c hc => ?_⟩
      rw [lat_ap]
      by_cases u : c = cel M0 i
      · rw [u, rdS, if_pos ⟨z, rfl⟩]
      · rw [rdN (by omega), if_neg (fun p => u p.2.symm)]; exact q c hc
    · rw [if_neg z]
      refine ⟨M1, rfl, f, fun c hc => ?_⟩
      rw [lat_ap, if_neg (fun p => z p.1)]; exact q c hc) (Lof M0 n).length 0 4096 A (by omega) (by omega) ⟨a2, fun c hc => a3 c hc⟩
  rw [List.take_length] at b3
  refine ⟨B, ?_, b2', xf b2', b3⟩
  unfold sX0_findLatest
  refine Eq.trans a1 ?_
  show sX0_findLatest_2 r (4031 + 1) (nI a) (nI 64) A = _
  rw [sX0_findLatest_2, if_pos (by decide)]
  refine Eq.trans b1 ?_
  show sX0_findLatest_20 r (4096 - (Lof M0 n).length) (nI a) (nI (Lof M0 n).length) B = _
  rw [show 4096 - (Lof M0 n).length = (4095 - (Lof M0 n).length) + 1 by omega, sX0_findLatest_20, (xf b2').2.1, if_pos (nI_le (by omega) (by omega))]
theorem m_lat {kq : Nat × Nat} {w h N K n a c : Nat} {M0 M : Mm} (hq : isKq kq) (b : Bk kq w h N K M0) (hc : c < 64) (hn : n ≤ N) (x : Mk kq N M0 M (Lof M0 n)) : sX12_latestOf (nI a) (nI c) M = some (lat M0 a c (Lof M0 n), M) := by
  have hN := b.2.1.1
  have h64 := wh64 b.1.1
  have b' := Bk_sm b x.1
  have go : ∀ (j F : Nat), j ≤ N → j < F → sX12_latestOf_7 F (nI a) (nI c) (nI j - 1) M = some (lat M0 a c ((List.range j).filter (fun i => decide (i ∈ Lof M0 n))), M) := by
    intro j
    induction j with
    | zero =>
      intro F hj hF
      obtain ⟨F, rfl⟩ : ∃ G, F = G + 1 := ⟨F - 1, by omega⟩
      rw [sX12_latestOf_7, if_pos (by decide)]
      rfl
    | succ j ih =>
      intro F hj hF
      obtain ⟨F, rfl⟩ : ∃ G, F = G + 1 := ⟨F - 1, by omega⟩
      have ib := inb_nI (show j < 60 by omega) (by decide)
      have hi := ih F (by omega) (by omega)
      rw [nI_dn, sX12_latestOf_7, if_neg (Int32.not_lt.mpr (nI_nn (by omega))), ckT ib, nI_clamp (by omega), x.2 j (by omega), List.range_succ, List.filter_append]
      unfold sX12_latestOf_47
      rw [nI_dn2]
      by_cases z : j ∈ Lof M0 n
      · obtain ⟨i1, i2, i3, i4⟩ := Lof_cel b hn z
        obtain ⟨kk, hkk, ekk⟩ := Lof_k8 b hn j z
        have hb := b.2.2.2.2.1 j (by omega) (by
          obtain ⟨z1, z2⟩ := Lof_in.mp z
          unfold cnt at z2
          simp only [Bool.and_eq_true, decide_eq_true_eq, Bool.not_eq_true'] at z2
          exact z2.1.1)
        rw [if_pos z, if_neg (by rw [ekk]; exact Int32.not_lt.mpr (nI_nn (by omega))), List.filter_cons_of_pos (by simp [z]), List.filter_nil, lat_ap, ckT ib, x.1 203 j (by unfold rBk; omega), hb.2.2.2.2.1, x.1 204 j (by unfold rBk; omega), hb.2.2.2.2.2, i3]
        by_cases c1 : M0.1 (38 + 2 * j) 1 = nI a
        · rw [if_pos c1, ckT ib]
          by_cases c2 : cel M0 j = c
          · rw [if_pos (by rw [c2]), ckT ib, if_pos ⟨c1, c2⟩]
          · rw [if_neg (ne_nI c2 (by omega) (by omega)), if_neg (fun p => c2 p.2)]; exact hi
        · rw [if_neg c1, if_neg (fun p => c1 p.1)]; exact hi
      · rw [if_neg z, if_pos (by decide), List.filter_cons_of_neg (by simp [z]), List.filter_nil, List.append_nil]
        exact hi
  unfold sX12_latestOf
  rw [b'.2.1.2.2, go N 4096 (Nat.le_refl N) (by omega), ← Lof_rg hn]
theorem nI0 : nI 0 = 0 := rfl
theorem ne0_nI {a : Nat} (h : a ≠ 0) (ha : a < 2 ^ 31) : ¬ nI a = 0 := ne_nI (b := 0) h ha (by omega)
/-- Euclid's way ends -/
theorem md_half {y r : Nat} (hr : 0 < r) (h : r < y) : 2 * (y % r) < y := by
  have h1 := Nat.mod_lt y hr
  have h2 := Nat.div_add_mod y r
  have h3 : 1 ≤ y / r := (Nat.one_le_div_iff hr).mpr (Nat.le_of_lt h)
  have h4 : r * 1 ≤ r * (y / r) := Nat.mul_le_mul_left r h3
  omega
theorem gcd_st (x y : Nat) : Nat.gcd x y = Nat.gcd y (x % y) := by
  rw [Nat.gcd_comm, Nat.gcd_rec, Nat.gcd_comm]
theorem x_gcd {M : Mm} : ∀ (k x y i F : Nat), x < 2 ^ 31 → y < 2 ^ 31 → y < 2 ^ k → i + 2 * k < 64 → 2 * k < F → sX0_greatestDivisor_13 F (nI x) (nI y) (nI i) M = some (nI (Nat.gcd x y), M) := by
  intro k
  induction k with
  | zero =>
    intro x y i F hx hy hk hi hF
    obtain ⟨F, rfl⟩ : ∃ G, F = G + 1 := ⟨F - 1, by omega⟩
    have : y = 0 := by simpa using hk
    subst this
    rw [sX0_greatestDivisor_13, if_neg (lit_nle (v := 64) (n := 64) rfl (by omega) (by decide)), if_pos nI0, Nat.gcd_zero_right]
  | succ k ih =>
    intro x y i F hx hy hk hi hF
    obtain ⟨F, rfl⟩ : ∃ G, F = G + 1 := ⟨F - 1, by omega⟩
    rw [sX0_greatestDivisor_13, if_neg (lit_nle (v := 64) (n := 64) rfl (by omega) (by decide))]
    by_cases y0 : y = 0
    · subst y0
      rw [if_pos nI0, Nat.gcd_zero_right]
    · rw [if_neg (ne0_nI y0 hy), ckT (nz_nI (by omega) hy), nI_md hx hy, nI_1]
      have hr := Nat.mod_lt x (show 0 < y by omega)
      rw [gcd_st x y]
      generalize x % y = r at hr
      obtain ⟨F, rfl⟩ : ∃ G, F = G + 1 := ⟨F - 1, by omega⟩
      rw [sX0_greatestDivisor_13, if_neg (lit_nle (v := 64) (n := 64) rfl (by omega) (by decide))]
      by_cases r0 : r = 0
      · subst r0
        rw [if_pos nI0, Nat.gcd_zero_right]
      · rw [if_neg (ne0_nI r0 (by omega)), ckT (nz_nI (by omega) (by omega)), nI_md hy (by omega), nI_1, gcd_st y r]
        have h2 := md_half (show 0 < r by omega) hr
        exact ih r (y % r) (i + 1 + 1) F (by omega) (by omega) (by rw [Nat.pow_succ] at hk; omega) (by omega) (by omega)
theorem m_gcd {M : Mm} {x3 x7 x8 : Int32} : ∀ (k x y F : Nat), x < 2 ^ 31 → y < 2 ^ 31 → y < 2 ^ k → 2 * k < F → sX12_hands_283 F x3 x7 x8 (nI x) (nI y) M = some (if Nat.gcd x y = 0 then 0 else if x3 = 3 then x7 / nI (Nat.gcd x y) else x8 / nI (Nat.gcd x y), M) := by
  have fin : ∀ (x F : Nat), x < 2 ^ 31 → sX12_hands_283 (F + 1) x3 x7 x8 (nI x) (nI 0) M = some (if x = 0 then 0 else if x3 = 3 then x7 / nI x else x8 / nI x, M) := by
    intro x F hx
    rw [sX12_hands_283, if_pos nI0]
    by_cases x0 : x = 0
    · subst x0
      rw [if_pos nI0, if_pos rfl]
    · rw [if_neg (ne0_nI x0 hx), if_neg x0, ckT (nz_nI (by omega) hx), ckT (nz_nI (by omega) hx)]
      split <;> rfl
  intro k
  induction k with
  | zero =>
    intro x y F hx hy hk hF
    obtain ⟨F, rfl⟩ : ∃ G, F = G + 1 := ⟨F - 1, by omega⟩
    have : y = 0 := by simpa using hk
    subst this
    rw [fin x F hx, Nat.gcd_zero_right]
  | succ k ih =>
    intro x y F hx hy hk hF
    obtain ⟨F, rfl⟩ : ∃ G, F = G + 1 := ⟨F - 1, by omega⟩
    by_cases y0 : y = 0
    · subst y0
      rw [fin x F hx, Nat.gcd_zero_right]
    · rw [sX12_hands_283, if_neg (ne0_nI y0 hy), ckT (nz_nI (by omega) hy), nI_md hx hy]
      have hr := Nat.mod_lt x (show 0 < y by omega)
      rw [gcd_st x y]
      generalize x % y = r at hr
      obtain ⟨F, rfl⟩ : ∃ G, F = G + 1 := ⟨F - 1, by omega⟩
      by_cases r0 : r = 0
      · subst r0
        rw [fin y F hy, Nat.gcd_zero_right]
      · rw [sX12_hands_283, if_neg (ne0_nI r0 (by omega)), ckT (nz_nI (by omega) (by omega)), nI_md hy (by omega), gcd_st y r]
        have h2 := md_half (show 0 < r by omega) hr
        exact ih r (y % r) F (by omega) (by omega) (by rw [Nat.pow_succ] at hk; omega) (by omega)
theorem tot_01 {g : Nat → Int32} : ∀ n, (∀ c, c < n → g c = 0 ∨ g c = 1) → ∃ v, v ≤ n ∧ tot g n = nI v := by
  intro n
  induction n with
  | zero => intro _; exact ⟨0, by omega, rfl⟩
  | succ n ih =>
    intro h
    obtain ⟨v, v1, v2⟩ := ih (fun c hc => h c (by omega))
    rcases h n (by omega) with q | q
    · exact ⟨v, by omega, by rw [tot, v2, q, add_z]⟩
    · exact ⟨v + 1, by omega, by rw [tot, v2, q, nI_1]⟩
theorem tot_z {g : Nat → Int32} {n : Nat} (h : ∀ c, n ≤ c → g c = 0) : ∀ d, tot g (n + d) = tot g n := by
  intro d
  induction d with
  | zero => rfl
  | succ d ih => rw [← Nat.add_assoc, tot, ih, h _ (by omega), add_z]
