def p228 (id _k : Nat) : Prop := id = 228
def pWm (id k : Nat) : Prop := id = 228 ∨ id = 194 ∧ k = 66
/-- the list that a model's memory holds -/
def Lm (w h K N : Nat) (M : Mm) (L : List Nat) : Prop := ∃ p : Nat → Bool, L = (List.range N).filter p ∧ (∀ i, i < N → M.1 227 i = if p i = true then M.1 (38 + 2 * i) 5 else -1) ∧ (∀ i ∈ L, M.1 203 i = M.1 (38 + 2 * i) 1 ∧ M.1 204 i = M.1 (38 + 2 * i) 2)
theorem m_add {K c i : Nat} {w : Nat} {x2 a : Int32} {M : Mm} {k30 : Int32 → Int32 → Int32 → Mm → Option Mm} (hK : K ≤ 8) (eK : M.1 194 33 = nI K) (hi : i < 60) (ea : a = nI (alk w M c (M.1 (38 + 2 * i) 2).toNatClampNeg)) (h1 : ∃ d, d < 3 ∧ M.1 (38 + 2 * i) 1 = nI d ∧ M.1 203 i = nI d) (h3 : ∃ k, k < K ∧ M.1 (38 + 2 * i) 5 = nI k ∧ M.1 227 i = nI k) (hr : ∀ j, j < 192 → M.1 224 j = M.1 159 j) : ∃ M', sX12_weigh_71 k30 4096 (nI c) x2 (nI i) a 0 M = k30 (nI c) x2 (nI (i + 1)) M' ∧ Fr p228 M M' ∧ ∀ k, k < K → M'.1 228 k = M.1 228 k + wad w M c k i := by
  obtain ⟨d, hd, ed, ed'⟩ := h1
  obtain ⟨kk, hkk, ekk, ekk'⟩ := h3
  have ew : ∀ k, wad w M c k i = a * M.1 159 (64 * d + 8 * k + kk) := fun k => by
    unfold wad
    rw [ed, ekk, nI_clamp (show d < 2 ^ 31 by omega), nI_clamp (show kk < 2 ^ 31 by omega), ← ea]
  obtain ⟨M', e, f, q1, q2⟩ := lp_M (f := fun F j M => sX12_weigh_71 k30 F (nI c) x2 (nI i) a j M) (n := K) (I := fun j M' => Fr p228 M M' ∧ (∀ k, k < j → M'.1 228 k = M.1 228 k + wad w M c k i) ∧ ∀ k, j ≤ k → M'.1 228 k = M.1 228 k) (fun F j M1 hj hI => by
    obtain ⟨f, q1, q2⟩ := hI
    refine ⟨sI M1 228 j (M.1 228 j + wad w M c j i), ?_, Fr_sI f rfl, fun k hk => ?_, fun k hk => ?_⟩
    · show sX12_weigh_71 k30 (F + 1) (nI c) x2 (nI i) a (nI j) M1 = _
      have e1 : M1.1 194 33 = nI K := by rw [(f 194 33 (by unfold p228; omega)).1]; exact eK
      have e2 : M1.1 203 i = nI d := by rw [(f _ _ (by unfold p228; omega)).1]; exact ed'
      have e3 : M1.1 227 i = nI kk := by rw [(f _ _ (by unfold p228; omega)).1]; exact ekk'
      have ep : 64 * nI d + 8 * nI j + nI kk = nI (64 * d + 8 * j + kk) := by
        rw [show (8 : Int32) = nI 8 from rfl, show (64 : Int32) = nI 64 from rfl, nI_mul, nI_mul, nI_add, nI_add]
      rw [sX12_weigh_71, e1, if_neg (nle_nI hj (by omega)), ckT (inb_nI (by omega) (by decide)), ckT (inb_nI (by omega) (by decide)), ckT (inb_nI (by omega) (by decide)), nI_clamp (show i < 2 ^ 31 by omega), e2, e3, ep, ckT (inb_nI (by omega) (by decide)), ckT (inb_nI (by omega) (by decide)), nI_clamp (by omega), nI_clamp (by omega), nI_1, q2 j (Nat.le_refl j), (f 224 _ (by unfold p228; omega)).1, hr _ (by omega), ew j]
    · by_cases u : k = j
      · rw [u, rdS]
      · rw [rdN (by omega)]; exact q1 k (by omega)
    · rw [rdN (by omega)]; exact q2 k (by omega)) K 0 4096 M (by omega) (by omega) ⟨Fr_rf _ _, fun k hk => absurd hk (Nat.not_lt_zero k), fun _ _ => rfl⟩
  refine ⟨M', ?_, f, q1⟩
  refine Eq.trans e ?_
  show sX12_weigh_71 k30 (4096 - K) (nI c) x2 (nI i) a (nI K) M' = _
  rw [show 4096 - K = (4095 - K) + 1 by omega, sX12_weigh_71, (f 194 33 (by unfold p228; omega)).1, eK, if_pos (nI_le (by omega) (by omega))]
  unfold sX12_weigh_126
  rw [nI_1]
theorem m_weigh {w h K N c wo : Nat} {x2 : Int32} {M : Mm} {L : List Nat} (g : iLandW w h M) (hK : K ≤ 8) (eK : M.1 194 33 = nI K) (hN : N ≤ 60) (eN : M.1 194 26 = nI N) (hc : c < w * h) (hL : Lok w h K M L) (hm : Lm w h K N M L) (hr : ∀ j, j < 192 → M.1 224 j = M.1 159 j) (hx : ∀ i, i < N → (nI i = x2 ↔ i = wo)) :
    ∃ M', sX12_weigh (nI c) x2 M = some M' ∧ Fr pWm M M' ∧ (∀ k, k < K → M'.1 228 k = wv w M c (L.filter (fun i => i ≠ wo)) k) ∧ M'.1 194 66 = tot (wv w M c (L.filter (fun i => i ≠ wo))) K := by
  obtain ⟨p, eL, h227, h203⟩ := hm
  obtain ⟨A, a1, a2, a3, a4⟩ := lp_M (f := fun F j M => sX12_weigh_7 F (nI c) x2 j M) (n := K) (I := fun j M' => Fr pWm M M' ∧ M'.1 194 66 = 0 ∧ ∀ k, k < j → M'.1 228 k = 1) (fun F j M1 hj hI => by
    refine ⟨sI M1 228 j 1, ?_, Fr_sI hI.1 (by unfold pWm; omega), by rw [rdN (by omega)]; exact hI.2.1, fun k hk => ?_⟩
    · show sX12_weigh_7 (F + 1) (nI c) x2 (nI j) M1 = _
      rw [sX12_weigh_7, (hI.1 194 33 (by unfold pWm; omega)).1, eK, if_neg (nle_nI hj (by omega)), ckT (inb_nI (by omega) (by decide)), nI_clamp (by omega), nI_1]
    · by_cases u : k = j
      · rw [u, rdS]
      · rw [rdN (by omega)]; exact hI.2.2 k (by omega)) K 0 4096 (sI M 194 66 0) (by omega) (by omega) ⟨Fr_sI (Fr_rf _ _) (by unfold pWm; omega), rdS _ _ _ _, fun k hk => absurd hk (Nat.not_lt_zero k)⟩
  obtain ⟨B, b1, b2', b3, b4⟩ := lp_M (f := fun F j M => sX12_weigh_30 F (nI c) x2 j M) (n := N) (I := fun i M' => Fr pWm M M' ∧ M'.1 194 66 = 0 ∧ ∀ k, k < K → M'.1 228 k = wv w M c (((List.range i).filter p).filter (fun i => i ≠ wo)) k) (fun F i M1 hi hI => by
    obtain ⟨f, z6, q⟩ := hI
    have fx : ∀ id k, id ≠ 228 → ¬ (id = 194 ∧ k = 66) → M1.1 id k = M.1 id k := fun id k z z' => (f id k (by unfold pWm; omega)).1
    have ib := inb_nI (show i < 60 by omega) (by decide)
    have cI := nI_clamp (show i < 2 ^ 31 by omega)
    show ∃ M', sX12_weigh_30 (F + 1) (nI c) x2 (nI i) M1 = _ ∧ _
    rw [sX12_weigh_30, fx _ _ (by omega) (by omega), eN, if_neg (nle_nI hi (by omega)), ckT ib, cI, fx _ _ (by omega) (by omega), h227 i hi, List.range_succ, List.filter_append, List.filter_append]
    by_cases pi : p i = true
    · have hmem : i ∈ L := by rw [eL]; exact List.mem_filter.mpr ⟨List.mem_range.mpr hi, pi⟩
      obtain ⟨k1, ⟨d, hd, ed⟩, ⟨c2, hc2, ec2⟩, ⟨kk, hkk, ekk⟩⟩ := hL _ hmem
      obtain ⟨r1, r2⟩ := h203 i hmem
      rw [if_pos pi, ekk, if_neg (Int32.not_lt.mpr (nI_nn (by omega))), List.filter_cons_of_pos pi, List.filter_nil]
      by_cases u : i = wo
      · rw [if_pos ((hx i hi).mpr u), List.filter_cons_of_neg (by simp only [u]; simp), List.filter_nil, List.append_nil]
        unfold sX12_weigh_126
        rw [nI_1]
        exact ⟨M1, rfl, f, z6, q⟩
      · rw [if_neg (fun p => u ((hx i hi).mp p)), List.filter_cons_of_pos (by simp only [ne_eq, decide_not, Bool.not_eq_true', decide_eq_false_iff_not]; exact u), List.filter_nil, ckT ib, fx _ _ (by omega) (by omega), r2, ec2]
        have g1 : iLandW w h M1 := iLandW_fr g f (fun id k q p => by unfold rLand at q; unfold pWm at p; omega)
        rw [m_like g1 hc hc2, Option.bind_some]
        dsimp only
        obtain ⟨M2, m1, m2, m3⟩ := m_add (K := K) (c := c) (i := i) (w := w) (x2 := x2) (a := nI (alk w M1 c c2)) (M := M1) (k30 := sX12_weigh_30 F) hK (by rw [fx _ _ (by omega) (by omega)]; exact eK) k1 (by rw [fx _ _ (by omega) (by omega), ec2, nI_clamp (by have := wh64 g.1; omega)]) ⟨d, hd, by rw [fx _ _ (by omega) (by omega)]; exact ed, by rw [fx _ _ (by omega) (by omega), r1]; exact ed⟩ ⟨kk, hkk, by rw [fx _ _ (by omega) (by omega)]; exact ekk, by rw [fx _ _ (by omega) (by omega), h227 i hi, if_pos pi]; exact ekk⟩ (fun j hj => by rw [fx _ _ (by omega) (by omega), fx _ _ (by omega) (by omega)]; exact hr j hj)
        rw [m1]
        refine ⟨M2, rfl, Fr_tr f (Fr_mo m2 (fun id k q => Or.inl q)), by rw [(m2 194 66 (by unfold p228; omega)).1]; exact z6, fun k hk => ?_⟩
        rw [m3 k hk, q k hk, wad_fr k1 (fun id k z => fx id k (by unfold rW at z; omega) (by unfold rW at z; omega))]
        unfold wv
        rw [List.foldl_append]
        rfl
    · rw [if_neg pi, if_pos (by decide), List.filter_cons_of_neg pi, List.filter_nil, List.filter_nil, List.append_nil]
      unfold sX12_weigh_126
      rw [nI_1]
      exact ⟨M1, rfl, f, z6, q⟩) N 0 4096 A (by omega) (by omega) ⟨a2, a3, fun k hk => a4 k hk⟩
  rw [← eL] at b4
  obtain ⟨D, d1, d2, d3⟩ := lp_M (f := fun F j M => sX12_weigh_134 F j M) (n := K) (I := fun j M' => Fr (fun id k => id = 194 ∧ k = 66) B M' ∧ M'.1 194 66 = tot (wv w M c (L.filter (fun i => i ≠ wo))) j) (fun F j M1 hj hI => by
    refine ⟨sI M1 194 66 (tot (wv w M c (L.filter (fun i => i ≠ wo))) (j + 1)), ?_, Fr_sI hI.1 (by omega), rdS _ _ _ _⟩
    show sX12_weigh_134 (F + 1) (nI j) M1 = _
    rw [sX12_weigh_134, (hI.1 194 33 (by omega)).1, (b2' 194 33 (by unfold pWm; omega)).1, eK, if_neg (nle_nI hj (by omega)), ckT (inb_nI (by omega) (by decide)), nI_clamp (by omega), nI_1, hI.2, (hI.1 228 j (by omega)).1, b4 j hj]
    rfl) K 0 4096 B (by omega) (by omega) ⟨Fr_rf _ _, by rw [b3]; rfl⟩
  refine ⟨D, ?_, Fr_tr b2' (Fr_mo d2 (fun id k q => Or.inr q)), fun k hk => by rw [(d2 228 k (by omega)).1]; exact b4 k hk, d3⟩
  unfold sX12_weigh
  refine Eq.trans a1 ?_
  show sX12_weigh_7 (4096 - K) (nI c) x2 (nI K) A = _
  rw [show 4096 - K = (4095 - K) + 1 by omega, sX12_weigh_7, (a2 194 33 (by unfold pWm; omega)).1, eK, if_pos (nI_le (by omega) (by omega))]
  refine Eq.trans b1 ?_
  show sX12_weigh_30 (4096 - N) (nI c) x2 (nI N) B = _
  rw [show 4096 - N = (4095 - N) + 1 by omega, sX12_weigh_30, (b2' 194 26 (by unfold pWm; omega)).1, eN, if_pos (nI_le (by omega) (by omega))]
  refine Eq.trans d1 ?_
  show sX12_weigh_134 (4096 - K) (nI K) D = _
  rw [show 4096 - K = (4095 - K) + 1 by omega, sX12_weigh_134, (d2 194 33 (by omega)).1, (b2' 194 33 (by unfold pWm; omega)).1, eK, if_pos (nI_le (by omega) (by omega))]
theorem m_best {K : Nat} {M : Mm} {f : Nat → Int32} (hK : K ≤ 8) (h1 : 1 ≤ K) (eK : M.1 194 33 = nI K) (hf : ∀ k, k < K → M.1 228 k = f k) : sX12_bestHere M = some (nI (bst f K), M) := by
  obtain ⟨a, M', e, f1, f2⟩ := lp_A (f := fun F a j M => sX12_bestHere_4 F a j M) (n := K) (I := fun j a M' => M' = M ∧ a = nI (bst f j)) (fun F j a M1 hj hI => by
    obtain ⟨rfl, rfl⟩ := hI
    have hb : bst f j < K := by
      rcases bst_lt f j with q | ⟨q, q2⟩ <;> omega
    refine ⟨nI (bst f (j + 1)), M1, ?_, rfl, rfl⟩
    show sX12_bestHere_4 (F + 1) (nI (bst f j)) (nI j) M1 = _
    rw [sX12_bestHere_4, eK, if_neg (nle_nI hj (by omega)), ckT (inb_nI (by omega) (by decide)), ckT (inb_nI (by omega) (by decide)), nI_clamp (by omega), nI_clamp (by omega), hf j hj, hf _ hb]
    unfold sX12_bestHere_32
    rw [nI_1, bst]
    congr 1
    split <;> rfl) (K - 1) 1 4096 (nI (bst f 1)) M (by omega) (by omega) ⟨rfl, rfl⟩
  have e0 : bst f 1 = 0 := by
    rcases bst_lt f 1 with q | ⟨q, q2⟩ <;> omega
  unfold sX12_bestHere
  rw [e0] at e
  refine Eq.trans e ?_
  show sX12_bestHere_4 (4096 - (K - 1)) a (nI K) M' = _
  obtain ⟨rfl, rfl⟩ := And.intro f1 f2
  rw [show 4096 - (K - 1) = (4095 - (K - 1)) + 1 by omega, sX12_bestHere_4, eK, if_pos (nI_le (by omega) (by omega))]
/-- the weights are small: their total is above 0 -/
theorem wad_sm {w c k i K h : Nat} {M : Mm} (h1 : ∃ d, d < 3 ∧ M.1 (38 + 2 * i) 1 = nI d) (h3 : ∃ k, k < K ∧ M.1 (38 + 2 * i) 5 = nI k) (hK : K ≤ 8) (hk : k < 8) (hr : ∀ j, j < 192 → ∃ v, v ≤ 16 ∧ M.1 159 j = nI v) : ∃ v, v ≤ 224 ∧ wad w M c k i = nI v := by
  obtain ⟨d, hd, ed⟩ := h1
  obtain ⟨kk, hkk, ekk⟩ := h3
  unfold wad
  rw [ed, ekk, nI_clamp (show d < 2 ^ 31 by omega), nI_clamp (show kk < 2 ^ 31 by omega)]
  obtain ⟨v, hv, ev⟩ := hr (64 * d + 8 * k + kk) (by omega)
  rw [ev, nI_mul]
  exact ⟨_, Nat.le_trans (Nat.mul_le_mul (alk_le _ _ _ _) hv) (by omega), rfl⟩
theorem wv_sm {w h c k K : Nat} {M : Mm} (hK : K ≤ 8) (hk : k < 8) (hr : ∀ j, j < 192 → ∃ v, v ≤ 16 ∧ M.1 159 j = nI v) : ∀ (L : List Nat), Lok w h K M L → ∃ v, 1 ≤ v ∧ v ≤ 1 + 224 * L.length ∧ wv w M c L k = nI v := by
  have : ∀ (L : List Nat) (a : Nat), Lok w h K M L → ∃ v, a ≤ v ∧ v ≤ a + 224 * L.length ∧ L.foldl (fun a i => a + wad w M c k i) (nI a) = nI v := by
    intro L
    induction L with
    | nil => intro a _; exact ⟨a, by omega, by simp, rfl⟩
    | cons x L ih =>
      intro a hL
      obtain ⟨k1, k2, k3, k4⟩ := hL x (List.mem_cons_self ..)
      obtain ⟨u, hu, eu⟩ := wad_sm (w := w) (c := c) (k := k) (h := h) k2 k4 hK hk hr
      obtain ⟨v, v1, v2, v3⟩ := ih (a + u) (fun i hi => hL i (List.mem_cons_of_mem _ hi))
      refine ⟨v, by omega, by rw [List.length_cons]; omega, ?_⟩
      rw [List.foldl_cons, eu, nI_add]
      exact v3
  intro L hL
  exact this L 1 hL
theorem tot_sm {f : Nat → Int32} {B : Nat} : ∀ K, (∀ k, k < K → ∃ v, 1 ≤ v ∧ v ≤ B ∧ f k = nI v) → ∃ v, K ≤ v ∧ v ≤ B * K ∧ tot f K = nI v := by
  intro K
  induction K with
  | zero => intro _; exact ⟨0, by omega, by omega, rfl⟩
  | succ K ih =>
    intro h
    obtain ⟨v, v1, v2, v3⟩ := ih (fun k hk => h k (by omega))
    obtain ⟨u, u1, u2, u3⟩ := h K (by omega)
    refine ⟨v + u, by omega, by rw [Nat.mul_succ]; omega, ?_⟩
    rw [tot, v3, u3, nI_add]
