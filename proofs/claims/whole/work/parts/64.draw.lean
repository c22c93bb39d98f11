def amn (g : Nat → Nat) : Nat → Nat
  | 0 => 0
  | k + 1 => if g (amn g k) ≤ g k then amn g k else k
theorem amn_lt (g : Nat → Nat) : ∀ k, amn g k < k ∨ k = 0 ∧ amn g k = 0 := by
  intro k
  induction k with
  | zero => exact Or.inr ⟨rfl, rfl⟩
  | succ k ih =>
    rw [amn]
    split
    · omega
    · omega
theorem amn_min (g : Nat → Nat) : ∀ k j, j < k → g (amn g k) ≤ g j := by
  intro k
  induction k with
  | zero => intro j h; omega
  | succ k ih =>
    intro j hj
    rw [amn]
    by_cases e : j = k
    · subst e
      split
      · assumption
      · exact Nat.le_refl _
    · have h9 := ih j (by omega)
      split
      · exact h9
      · omega
theorem amn_fst (g : Nat → Nat) : ∀ k j, j < amn g k → g (amn g k) < g j := by
  intro k
  induction k with
  | zero => intro j h; exact absurd h (Nat.not_lt_zero j)
  | succ k ih =>
    intro j hj
    rw [amn] at hj ⊢
    by_cases e : g (amn g k) ≤ g k
    · rw [if_pos e] at hj ⊢; exact ih j hj
    · rw [if_neg e] at hj ⊢
      have := amn_min g k j hj
      omega
theorem amn_cg {g g' : Nat → Nat} : ∀ k, (∀ j, j < k → g j = g' j) → amn g k = amn g' k := by
  intro k
  induction k with
  | zero => intro _; rfl
  | succ k ih =>
    intro h
    have e := ih (fun j hj => h j (by omega))
    have hb := amn_lt g' k
    rw [amn, amn, e, h k (by omega), h (amn g' k) (by omega)]
/-- least cost from d cells before the last on -/
def dcc (P : Nat → Nat → Nat) (ch : Nat → Nat) (K S : Nat) : Nat → Nat → Nat
  | 0, k => P (S - 1) k
  | d + 1, k => P (S - 2 - d) k + (dcc P ch K S d (amn (fun j => dcc P ch K S d j + if k = j then 0 else ch (S - 2 - d)) K) + if k = amn (fun j => dcc P ch K S d j + if k = j then 0 else ch (S - 2 - d)) K then 0 else ch (S - 2 - d))
def dC (P : Nat → Nat → Nat) (ch : Nat → Nat) (K S i k : Nat) : Nat := dcc P ch K S (S - 1 - i) k
def dB (P : Nat → Nat → Nat) (ch : Nat → Nat) (K S i k j : Nat) : Nat := dC P ch K S (i + 1) j + if k = j then 0 else ch i
theorem dC_st {P : Nat → Nat → Nat} {ch : Nat → Nat} {K S i k : Nat} (h : i + 1 < S) : dC P ch K S i k = P i k + dB P ch K S i k (amn (dB P ch K S i k) K) := by
  unfold dB dC
  rw [show S - 1 - i = (S - 1 - (i + 1)) + 1 by omega, dcc, show S - 2 - (S - 1 - (i + 1)) = i by omega]
theorem dcc_le {P : Nat → Nat → Nat} {ch : Nat → Nat} {K S : Nat} (hP : ∀ i k, k < K → P i k ≤ 1000) : ∀ d k, k < K → dcc P ch K S d k ≤ 1000 * (d + 1) := by
  intro d
  induction d with
  | zero => intro k hk; rw [dcc]; exact hP _ k hk
  | succ d ih =>
    intro k hk
    rw [dcc]
    have h1 := amn_min (fun j => dcc P ch K S d j + if k = j then 0 else ch (S - 2 - d)) K k hk
    have h2 := ih k hk
    have h3 := hP (S - 2 - d) k hk
    rw [if_pos rfl] at h1
    omega
theorem dC_le {P : Nat → Nat → Nat} {ch : Nat → Nat} {K S i k : Nat} (hP : ∀ i k, k < K → P i k ≤ 1000) (hS : S ≤ 8) (hk : k < K) : dC P ch K S i k ≤ 8000 := by
  have := dcc_le (ch := ch) (S := S) hP (S - 1 - i) k hk
  unfold dC
  by_cases z : S = 0
  · subst z; omega
  · omega
theorem dB_le {P : Nat → Nat → Nat} {ch : Nat → Nat} {K S i k j : Nat} (hP : ∀ i k, k < K → P i k ≤ 1000) (hc : ∀ i, ch i ≤ 9999) (hS : S ≤ 8) (hj : j < K) : dB P ch K S i k j ≤ 17999 := by
  have h1 := dC_le (ch := ch) (i := i + 1) hP hS hj
  have h2 := hc i
  unfold dB
  split <;> omega
def dln (P : Nat → Nat → Nat) (ch : Nat → Nat) (K S : Nat) : Nat → Nat
  | 0 => amn (dC P ch K S 0) K
  | i + 1 => amn (dB P ch K S i (dln P ch K S i)) K
theorem dln_lt {P : Nat → Nat → Nat} {ch : Nat → Nat} {K S : Nat} (h1 : 1 ≤ K) : ∀ i, dln P ch K S i < K := by
  intro i
  cases i with
  | zero => have := amn_lt (dC P ch K S 0) K; rw [dln]; omega
  | succ i => have := amn_lt (dB P ch K S i (dln P ch K S i)) K; rw [dln]; omega
theorem tot_ge {f : Nat → Int32} {B : Nat} : ∀ K, (∀ k, k < K → ∃ v, v ≤ B ∧ f k = nI v) → B * K < 2 ^ 31 → ∃ t, t ≤ B * K ∧ tot f K = nI t ∧ ∀ k v, k < K → v < 2 ^ 31 → f k = nI v → v ≤ t := by
  intro K
  induction K with
  | zero => intro _ _; exact ⟨0, by omega, rfl, fun k v h => by omega⟩
  | succ K ih =>
    intro h hB
    rw [Nat.mul_succ] at hB
    obtain ⟨t, t1, t2, t3⟩ := ih (fun k hk => h k (by omega)) (by omega)
    obtain ⟨u, u1, u2⟩ := h K (by omega)
    refine ⟨t + u, by rw [Nat.mul_succ]; omega, by rw [tot, t2, u2, nI_add], fun k v hk hv ev => ?_⟩
    by_cases e : k = K
    · subst e
      have := nI_inj (show u < 2 ^ 31 by omega) hv (u2.symm.trans ev)
      omega
    · have := t3 k v (by omega) hv ev
      omega
theorem prt_sm {f : Nat → Int32} {K k : Nat} (hK : K ≤ 8) (h : ∀ k, k < K → ∃ v, 1 ≤ v ∧ v ≤ 13441 ∧ f k = nI v) (hk : k < K) : ∃ p, p ≤ 1000 ∧ prt f K k = nI p := by
  obtain ⟨t, t1, t2, t3⟩ := tot_ge (f := f) (B := 13441) K (fun k hk => by obtain ⟨v, v1, v2, v3⟩ := h k hk; exact ⟨v, v2, v3⟩) (by omega)
  obtain ⟨v, v1, v2, v3⟩ := h k hk
  have hv := t3 k v hk (by omega) v3
  refine ⟨1000 * v / t, Nat.div_le_of_le_mul (by rw [Nat.mul_comm t]; exact Nat.mul_le_mul_left 1000 hv), ?_⟩
  unfold prt
  rw [v3, t2, show (1000 : Int32) = nI 1000 from rfl, nI_mul, nI_dv (by omega) (by omega)]
/-- what kind k costs at cell c -/
def dP (w K : Nat) (M : Mm) (L : List Nat) (c k : Nat) : Nat := 1000 - (prt (wt w M c L 60) K k).toNatClampNeg
theorem dP_eq {kq : Nat × Nat} {w h N K n c k : Nat} {M0 : Mm} (b : Bk kq w h N K M0) (hn : n ≤ N) (hk : k < K) : 1000 - prt (wt w M0 c (Lof M0 n) 60) K k = nI (dP w K M0 (Lof M0 n) c k) := by
  obtain ⟨h1, -⟩ := wt_sm2 (c := c) (wo := 60) b hn
  obtain ⟨p, p1, p2⟩ := prt_sm b.2.2.2.1.1 h1 hk
  unfold dP
  rw [p2, nI_clamp (by omega), show (1000 : Int32) = nI 1000 from rfl, nI_sb p1]
def pDx (id k : Nat) : Prop := 164 ≤ id ∧ id ≤ 173 ∨ id = 162 ∧ k = 7 ∨ id = 161 ∨ id = 158 ∧ (k = 6 ∨ k = 7)
theorem Xk_dx {kq : Nat × Nat} {M0 M M1 : Mm} {L : List Nat} (hq : isKq kq) (x : Xk kq M0 M L) (f : Fr pDx M M1) : Xk kq M0 M1 L := by
  have hk : kq.1 = 6 ∨ kq.1 = 14 := hq.1
  refine ⟨Sm_tr x.1 (Sm_fr f (fun id k q p => ?_)), ?_, fun j hj => ?_⟩
  · unfold pDx at p
    rcases p with p | ⟨rfl, rfl⟩ | rfl | ⟨rfl, rfl | rfl⟩ <;> (unfold rBk rLand at q; omega)
  · rw [(f 34 3 (by unfold pDx; omega)).1]; exact x.2.1
  · rw [(f 36 j (by unfold pDx; omega)).1]; exact x.2.2 j hj
theorem x_cb {K i k j chi : Nat} {C : Nat → Nat} {M : Mm} (hi : i + 1 < 8) (hk : k < 8) (hj : j < 8) (e1 : M.1 (164 + (i + 1)) j = nI (C j)) (e2 : M.1 172 i = nI chi) : sX3_costBehind (nI i) (nI k) (nI j) M = some (nI (C j + if k = j then 0 else chi), M) := by
  unfold sX3_costBehind
  rw [nI_1, ckT (inb_nI hi (by decide)), ckT (inb_nI hj (by decide)), nI_clamp (by omega), nI_clamp (by omega), e1]
  by_cases z : k = j
  · subst z
    rw [if_pos rfl, if_pos rfl, add_z]
    rfl
  · rw [if_neg (ne_nI z (by omega) (by omega)), if_neg z, ckT (inb_nI (by omega) (by decide)), nI_clamp (by omega), e2, nI_add]
theorem x_fol {K i k chi : Nat} {C : Nat → Nat} {M : Mm} (hK : K ≤ 8) (h1 : 1 ≤ K) (eK : M.1 158 4 = nI K) (hi : i + 1 < 8) (hk : k < 8) (e1 : ∀ j, j < K → M.1 (164 + (i + 1)) j = nI (C j)) (e2 : M.1 172 i = nI chi) (hC : ∀ j, j < K → C j ≤ 8000) (hc : chi ≤ 9999) : sX3_followerOf (nI i) (nI k) M = some (nI (amn (fun j => C j + if k = j then 0 else chi) K), M) := by
  obtain ⟨a, M', e, f1, f2⟩ := lp_A (f := fun F a j M => sX3_followerOf_5 F (nI i) (nI k) a j M) (n := K) (I := fun j a M' => M' = M ∧ a = nI (amn (fun j => C j + if k = j then 0 else chi) j)) (fun F j a M1 hj hI => by
    obtain ⟨rfl, rfl⟩ := hI
    have hb := amn_lt (fun j => C j + if k = j then 0 else chi) j
    refine ⟨_, M1, ?_, rfl, rfl⟩
    show sX3_followerOf_5 (F + 1) (nI i) (nI k) _ (nI j) M1 = _
    rw [sX3_followerOf_5, eK, if_neg (nle_nI hj (by omega)), x_cb (K := K) hi hk (by omega) (e1 j hj) e2, Option.bind_some]
    dsimp only
    rw [amn]
    generalize ha : amn (fun j => C j + if k = j then 0 else chi) j = a at hb
    have haK : a < K := by omega
    rw [x_cb (K := K) hi hk (by omega) (e1 a haK) e2, Option.bind_some]
    unfold sX3_followerOf_41
    dsimp only
    rw [nI_1]
    congr 1
    have l1 := hC a haK
    have l2 := hC j hj
    by_cases z : (C a + if k = a then 0 else chi) ≤ C j + if k = j then 0 else chi
    · rw [if_pos (nI_le z (by split <;> omega)), if_pos z]
    · rw [if_neg (nle_nI (by omega) (by split <;> omega)), if_neg z]) (K - 1) 1 4096 (nI (amn (fun j => C j + if k = j then 0 else chi) 1)) M (by omega) (by omega) ⟨rfl, rfl⟩
  have e0 : amn (fun j => C j + if k = j then 0 else chi) 1 = 0 := by
    have := amn_lt (fun j => C j + if k = j then 0 else chi) 1
    omega
  obtain ⟨rfl, rfl⟩ := And.intro f1 f2
  unfold sX3_followerOf
  rw [e0] at e
  refine Eq.trans e ?_
  show sX3_followerOf_5 (4096 - (K - 1)) (nI i) (nI k) _ (nI K) M' = _
  rw [show 4096 - (K - 1) = (4095 - (K - 1)) + 1 by omega, sX3_followerOf_5, eK, if_pos (nI_le (by omega) (by omega))]
/-- one cell's costs: the last cell's -/
theorem x_160l {K i : Nat} {x3 x4 : Int32} {f : Nat → Int32} {P : Nat → Nat} {t : Nat} {M : Mm} {k68 : Int32 → Int32 → Int32 → Mm → Option (Int32 × Mm)} (hK : K ≤ 8) (hi : i < 8) (eK : M.1 158 4 = nI K) (ht : tot f K = nI t) (t1 : K ≤ t) (t2 : t ≤ 107528) (y : Wx K f M) (hP : ∀ k, k < K → 1000 - prt f K k = nI (P k)) : ∃ M', sX3_drawLine_160 k68 4096 x3 x4 (nI i) 1 0 M = k68 x3 x4 (nI i - 1) M' ∧ Fr (fun id _ => id = 164 + i) M M' ∧ ∀ k, k < K → M'.1 (164 + i) k = nI (P k) := by
  obtain ⟨M', e, f', q⟩ := lp_M (f := fun F j M => sX3_drawLine_160 k68 F x3 x4 (nI i) 1 j M) (n := K) (I := fun j M' => Fr (fun id _ => id = 164 + i) M M' ∧ ∀ k, k < j → M'.1 (164 + i) k = nI (P k)) (fun F j M1 hj h => by
    have y1 : Wx K f M1 := ⟨fun k hk => by rw [(h.1 161 k (by omega)).1]; exact y.1 k hk, by rw [(h.1 158 6 (by omega)).1]; exact y.2.1, by rw [(h.1 158 7 (by omega)).1]; exact y.2.2⟩
    refine ⟨sI M1 (164 + i) j (nI (P j)), ?_, Fr_sI h.1 rfl, fun k hk => ?_⟩
    · show sX3_drawLine_160 k68 (F + 1) x3 x4 (nI i) 1 (nI j) M1 = _
      rw [sX3_drawLine_160, (h.1 158 4 (by omega)).1, eK, if_neg (nle_nI hj (by omega)), ckT (inb_nI hi (by decide)), x_part hK hj ht t1 t2 y1, Option.bind_some]
      dsimp only
      rw [if_neg (by decide), hP j hj]
      unfold sX3_drawLine_219
      rw [ckT (inb_nI (by omega) (by decide)), nI_clamp (by omega), nI_clamp (by omega), nI_1, add_z]
    · by_cases u : k = j
      · rw [u, rdS]
      · rw [rdN (by omega)]; exact h.2 k (by omega)) K 0 4096 M (by omega) (by omega) ⟨Fr_rf _ _, fun k hk => absurd hk (Nat.not_lt_zero k)⟩
  refine ⟨M', ?_, f', q⟩
  refine Eq.trans e ?_
  show sX3_drawLine_160 k68 (4096 - K) x3 x4 (nI i) 1 (nI K) M' = _
  rw [show 4096 - K = (4095 - K) + 1 by omega, sX3_drawLine_160, (f' 158 4 (by omega)).1, eK, if_pos (nI_le (by omega) (by omega)), nI_dn2]
/-- .. another's -/
theorem x_160 {K i chi : Nat} {x3 x4 : Int32} {f : Nat → Int32} {P C : Nat → Nat} {t : Nat} {M : Mm} {k68 : Int32 → Int32 → Int32 → Mm → Option (Int32 × Mm)} (hK : K ≤ 8) (h1 : 1 ≤ K) (hi : i + 1 < 8) (eK : M.1 158 4 = nI K) (ht : tot f K = nI t) (t1 : K ≤ t) (t2 : t ≤ 107528) (y : Wx K f M) (hP : ∀ k, k < K → 1000 - prt f K k = nI (P k)) (e1 : ∀ j, j < K → M.1 (164 + (i + 1)) j = nI (C j)) (e2 : M.1 172 i = nI chi) (hC : ∀ j, j < K → C j ≤ 8000) (hc : chi ≤ 9999) : ∃ M', sX3_drawLine_160 k68 4096 x3 x4 (nI i) 0 0 M = k68 x3 x4 (nI i - 1) M' ∧ Fr (fun id _ => id = 164 + i) M M' ∧ ∀ k, k < K → M'.1 (164 + i) k = nI (P k + (C (amn (fun j => C j + if k = j then 0 else chi) K) + if k = amn (fun j => C j + if k = j then 0 else chi) K then 0 else chi)) := by
  obtain ⟨M', e, f', q⟩ := lp_M (f := fun F j M => sX3_drawLine_160 k68 F x3 x4 (nI i) 0 j M) (n := K) (I := fun j M' => Fr (fun id _ => id = 164 + i) M M' ∧ ∀ k, k < j → M'.1 (164 + i) k = nI (P k + (C (amn (fun j => C j + if k = j then 0 else chi) K) + if k = amn (fun j => C j + if k = j then 0 else chi) K then 0 else chi))) (fun F j M1 hj h => by
    have y1 : Wx K f M1 := ⟨fun k hk => by rw [(h.1 161 k (by omega)).1]; exact y.1 k hk, by rw [(h.1 158 6 (by omega)).1]; exact y.2.1, by rw [(h.1 158 7 (by omega)).1]; exact y.2.2⟩
    have g1 : ∀ j, j < K → M1.1 (164 + (i + 1)) j = nI (C j) := fun j hj => by rw [(h.1 _ j (by omega)).1]; exact e1 j hj
    have g2 : M1.1 172 i = nI chi := by rw [(h.1 172 i (by omega)).1]; exact e2
    have gK : M1.1 158 4 = nI K := by rw [(h.1 158 4 (by omega)).1]; exact eK
    have hb := amn_lt (fun z => C z + if j = z then 0 else chi) K
    refine ⟨sI M1 (164 + i) j (nI (P j + (C (amn (fun z => C z + if j = z then 0 else chi) K) + if j = amn (fun z => C z + if j = z then 0 else chi) K then 0 else chi))), ?_, Fr_sI h.1 rfl, fun k hk => ?_⟩
    · show sX3_drawLine_160 k68 (F + 1) x3 x4 (nI i) 0 (nI j) M1 = _
      rw [sX3_drawLine_160, gK, if_neg (nle_nI hj (by omega)), ckT (inb_nI (by omega) (by decide)), x_part hK hj ht t1 t2 y1, Option.bind_some]
      dsimp only
      rw [if_pos rfl, x_fol hK h1 gK hi (by omega) g1 g2 hC hc, Option.bind_some]
      dsimp only
      rw [x_cb (K := K) hi (by omega) (by omega) (g1 _ (by omega)) g2, Option.bind_some, hP j hj]
      unfold sX3_drawLine_219
      rw [ckT (inb_nI (by omega) (by decide)), nI_clamp (by omega), nI_clamp (by omega), nI_1, nI_add]
    · by_cases u : k = j
      · rw [u, rdS]
      · rw [rdN (by omega)]; exact h.2 k (by omega)) K 0 4096 M (by omega) (by omega) ⟨Fr_rf _ _, fun k hk => absurd hk (Nat.not_lt_zero k)⟩
  refine ⟨M', ?_, f', q⟩
  refine Eq.trans e ?_
  show sX3_drawLine_160 k68 (4096 - K) x3 x4 (nI i) 0 (nI K) M' = _
  rw [show 4096 - K = (4095 - K) + 1 by omega, sX3_drawLine_160, (f' 158 4 (by omega)).1, eK, if_pos (nI_le (by omega) (by omega)), nI_dn2]
/-- the price of a change behind cell i -/
def dch (M : Mm) (cl : Nat → Nat) (bd be : Nat) (i : Nat) : Nat := if M.1 194 10 ≤ nI (absN (hgt M (cl i)) (hgt M (cl (i + 1)))) then be else bd
theorem x_hg {w h a b : Nat} {M0 M : Mm} {kq : Nat × Nat} {N K : Nat} (bk : Bk kq w h N K M0) (s : Sm kq M0 M) (ha : a < w * h) (hb : b < w * h) : sX6_heightGap (nI a) (nI b) M = some (nI (absN (hgt M0 a) (hgt M0 b)), M) := by
  refine x_gap (H := hgt M0) (wh64 bk.1.1) (fun c hc => ?_) ha hb
  have e : M.1 24 c = M0.1 24 c := s 24 c (Or.inl (by unfold rLand; omega))
  have e2 : M0.1 24 c = M0.1 196 c := bk.1.2.2.2.1 0 c (by omega) hc
  rw [e, e2]
  exact bk.1.2.2.2.2.1 c hc
