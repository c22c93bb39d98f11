def pDm (id k : Nat) : Prop := 228 ≤ id ∧ id ≤ 232 ∨ id = 194 ∧ (k = 66 ∨ k = 70)
theorem Mk_dm {kq : Nat × Nat} {N : Nat} {M0 M M1 : Mm} {L : List Nat} (hq : isKq kq) (x : Mk kq N M0 M L) (f : Fr pDm M M1) : Mk kq N M0 M1 L := by
  have hk : kq.1 = 6 ∨ kq.1 = 14 := hq.1
  refine ⟨Sm_tr x.1 (Sm_fr f (fun id k q p => ?_)), fun i hi => ?_⟩
  · unfold pDm at p
    rcases p with p | ⟨rfl, rfl | rfl⟩ <;> (unfold rBk rLand at q; omega)
  · rw [(f 227 i (by unfold pDm; omega)).1]; exact x.2 i hi
theorem m_124 {K i : Nat} {x2 x3 x4 : Int32} {f : Nat → Int32} {P : Nat → Nat} {t : Nat} {M : Mm} {k70 : Int32 → Int32 → Int32 → Int32 → Mm → Option (Int32 × Mm)} (hK : K ≤ 8) (hi : i < 8) (eK : M.1 194 33 = nI K) (ht : tot f K = nI t) (t1 : K ≤ t) (t2 : t ≤ 107528) (y : Wm K f M) (hP : ∀ k, k < K → 1000 - prt f K k = nI (P k)) : ∃ M', sX12_draw_124 k70 4096 x2 x3 x4 (nI i) 0 M = k70 x2 x3 x4 (nI (i + 1)) M' ∧ Fr (fun id z => id = 230 ∧ 8 * i ≤ z ∧ z < 8 * i + 8) M M' ∧ ∀ k, k < K → M'.1 230 (8 * i + k) = nI (P k) := by
  obtain ⟨M', e, f', q⟩ := lp_M (f := fun F j M => sX12_draw_124 k70 F x2 x3 x4 (nI i) j M) (n := K) (I := fun j M' => Fr (fun id z => id = 230 ∧ 8 * i ≤ z ∧ z < 8 * i + 8) M M' ∧ ∀ k, k < j → M'.1 230 (8 * i + k) = nI (P k)) (fun F j M1 hj h => by
    have y1 : Wm K f M1 := ⟨fun k hk => by rw [(h.1 228 k (by omega)).1]; exact y.1 k hk, by rw [(h.1 194 66 (by omega)).1]; exact y.2⟩
    have ep : 8 * nI i + nI j = nI (8 * i + j) := by rw [show (8 : Int32) = nI 8 from rfl, nI_mul, nI_add]
    refine ⟨sI M1 230 (8 * i + j) (nI (P j)), ?_, Fr_sI h.1 (by omega), fun k hk => ?_⟩
    · show sX12_draw_124 k70 (F + 1) x2 x3 x4 (nI i) (nI j) M1 = _
      rw [sX12_draw_124, (h.1 194 33 (by omega)).1, eK, if_neg (nle_nI hj (by omega)), m_part hK hj ht t1 t2 y1, Option.bind_some]
      dsimp only
      rw [ep, ckT (inb_nI (by omega) (by decide)), nI_clamp (by omega), nI_1, hP j hj]
    · by_cases u : k = j
      · rw [u, rdS]
      · rw [rdN (by omega)]; exact h.2 k (by omega)) K 0 4096 M (by omega) (by omega) ⟨Fr_rf _ _, fun k hk => absurd hk (Nat.not_lt_zero k)⟩
  refine ⟨M', ?_, f', q⟩
  refine Eq.trans e ?_
  show sX12_draw_124 k70 (4096 - K) x2 x3 x4 (nI i) (nI K) M' = _
  rw [show 4096 - K = (4095 - K) + 1 by omega, sX12_draw_124, (f' 194 33 (by omega)).1, eK, if_pos (nI_le (by omega) (by omega)), nI_1]
theorem m_70 {kq : Nat × Nat} {w h N K n S bd be : Nat} {cl : Nat → Nat} {x2 x3 : Int32} {M0 M : Mm} (hq : isKq kq) (d : Dr kq w h N K n S bd be cl M0) (hcx : ∀ i, i < S → (if x2 = 0 then nI w * x3 + nI i else nI w * nI i + x3) = nI (cl i)) (x : Mk kq N M0 M (Lof M0 n)) :
    ∃ M', sX12_draw_70 4096 x2 x3 (nI S) 0 M = sX12_draw_174 4096 (nI S) (nI S - 1) M' ∧ Fr pDm M M' ∧ Mk kq N M0 M' (Lof M0 n) ∧ ∀ i, i < S → M'.1 231 i = nI (cl i) ∧ ∀ k, k < K → M'.1 230 (8 * i + k) = nI (DP w K n cl M0 i k) := by
  obtain ⟨b, hn, h1, hS, hcl, hpr, ebd, ebe, -, -⟩ := d
  have hK := b.2.2.2.1.1
  have hN := b.2.1.1
  obtain ⟨M', e, f, x', q⟩ := lp_M (f := fun F j M => sX12_draw_70 F x2 x3 (nI S) j M) (n := S) (I := fun j M' => Fr pDm M M' ∧ Mk kq N M0 M' (Lof M0 n) ∧ ∀ i, i < j → M'.1 231 i = nI (cl i) ∧ ∀ k, k < K → M'.1 230 (8 * i + k) = nI (DP w K n cl M0 i k)) (fun F i M1 hi hI => by
    obtain ⟨f, x1, q⟩ := hI
    have b1 := Bk_sm b x1.1
    have ib := inb_nI (show i < 8 by omega) (by decide)
    have f1 : Fr pDm M1 (sI M1 231 i (nI (cl i))) := Fr_sI (Fr_rf _ _) (by unfold pDm; omega)
    obtain ⟨A, a1, a2, a3, a4⟩ := mk_weigh (c := cl i) (wo := 60) (x2 := -1) hq b hn (Mk_dm hq x1 f1) (hcl i hi) (M_60 hN)
    obtain ⟨hw, t, t1, t2, t3⟩ := wt_sm2 (c := cl i) (wo := 60) b hn
    obtain ⟨D, d1, d2, d3⟩ := m_124 (i := i) (x2 := x2) (x3 := x3) (x4 := nI S) (P := DP w K n cl M0 i) (k70 := sX12_draw_70 F) hK (by omega) (Bk_sm b a3.1).2.2.2.1.2.2.1 t3 t1 t2 a4 (fun k hk => dP_eq b hn hk)
    have fD : Fr pDm M1 D := Fr_tr f1 (Fr_tr (Fr_mo a2 (fun id k q => by unfold pWm at q; unfold pDm; omega)) (Fr_mo d2 (fun id k q => by unfold pDm; omega)))
    refine ⟨D, ?_, Fr_tr f fD, Mk_dm hq x1 fD, fun i' hi' => ⟨?_, fun k hk => ?_⟩⟩
    · show sX12_draw_70 (F + 1) x2 x3 (nI S) (nI i) M1 = _
      rw [sX12_draw_70, if_neg (nle_nI hi (by omega)), b1.1.2.1.2.2.2.1, hcx i hi]
      unfold sX12_draw_108
      rw [ckT ib, ckT ib, nI_clamp (by omega), rdS, a1, Option.bind_some, d1]
    · rw [(d2 231 i' (by omega)).1, (a2 231 i' (by unfold pWm; omega)).1]
      by_cases u : i' = i
      · rw [u, rdS]
      · rw [rdN (by omega)]; exact (q i' (by omega)).1
    · by_cases u : i' = i
      · rw [u]; exact d3 k hk
      · rw [(d2 230 _ (by omega)).1, (a2 230 _ (by unfold pWm; omega)).1, rdN (by omega)]; exact (q i' (by omega)).2 k hk) S 0 4096 M (by omega) (by omega) ⟨Fr_rf _ _, x, fun i hi => absurd hi (Nat.not_lt_zero i)⟩
  refine ⟨M', ?_, f, x', q⟩
  refine Eq.trans e ?_
  show sX12_draw_70 (4096 - S) x2 x3 (nI S) (nI S) M' = _
  rw [show 4096 - S = (4095 - S) + 1 by omega, sX12_draw_70, if_pos (nI_le (by omega) (by omega))]
theorem m_chg {kq : Nat × Nat} {w h N K n S bd be i a c : Nat} {cl : Nat → Nat} {M0 M : Mm} (d : Dr kq w h N K n S bd be cl M0) (s : Sm kq M0 M) (hi : i + 1 < S) (ha : a < 8) (hc : c < 8) (e1 : M.1 231 i = nI (cl i)) (e2 : M.1 231 (i + 1) = nI (cl (i + 1))) : sX12_change (nI i) (nI a) (nI c) M = some (nI (if a = c then 0 else dch M0 cl bd be i), M) := by
  obtain ⟨b, hn, h1, hS, hcl, hpr, ebd, ebe, ebd', ebe'⟩ := d
  have h64 := wh64 b.1.1
  have l1 := hcl i (by omega)
  have l2 := hcl (i + 1) hi
  unfold sX12_change
  by_cases z : a = c
  · rw [if_pos (by rw [z]), if_pos z]; rfl
  · rw [if_neg (ne_nI z (by omega) (by omega)), if_neg z, ckT (inb_nI (by omega) (by decide)), nI_clamp (by omega), e1, ckT (inb_nI (by omega) (by decide)), nI_1, ckT (inb_nI (by omega) (by decide)), nI_clamp (by omega), e2, ckT (inb_nI (by omega) (by decide)), nI_clamp (by omega), nI_clamp (by omega), s 196 _ (Or.inl (by unfold rLand; omega)), s 196 _ (Or.inl (by unfold rLand; omega))]
    obtain ⟨g1, g2⟩ := b.1.2.2.2.2.1 _ l1
    obtain ⟨g3, g4⟩ := b.1.2.2.2.2.1 _ l2
    rw [g1, g3, m_size (by omega) (by omega), Option.bind_some]
    dsimp only
    rw [s 194 10 (Or.inl (by unfold rLand; omega)), s 194 14 (by unfold rBk; omega), s 194 15 (by unfold rBk; omega), ebd', ebe']
    unfold dch
    by_cases y : M0.1 194 10 ≤ nI (absN (hgt M0 (cl i)) (hgt M0 (cl (i + 1))))
    · rw [if_neg (Int32.not_lt.mpr y), if_pos y]
    · rw [if_pos (Int32.not_le.mp y), if_neg y]
theorem m_onw {kq : Nat × Nat} {w h N K n S bd be i k : Nat} {cl : Nat → Nat} {M0 M : Mm} (d : Dr kq w h N K n S bd be cl M0) (s : Sm kq M0 M) (hi : i + 1 < S) (hk : k < K) (e1 : M.1 231 i = nI (cl i)) (e2 : M.1 231 (i + 1) = nI (cl (i + 1))) (e3 : M.1 230 (8 * i + k) = nI (DP w K n cl M0 i k)) (e4 : ∀ j, j < K → M.1 229 (8 * (i + 1) + j) = nI (dC (DP w K n cl M0) (dch M0 cl bd be) K S (i + 1) j)) : sX12_onward (nI i) (nI k) (nI S) M = some (nI (dC (DP w K n cl M0) (dch M0 cl bd be) K S i k), M) := by
  have d0 := d
  obtain ⟨b, hn, h1, hS, hcl, hpr, ebd, ebe, ebd', ebe'⟩ := d
  have hK := b.2.2.2.1.1
  have eK : M.1 194 33 = nI K := (Bk_sm b s).2.2.2.1.2.2.1
  have hle := DP_le (w := w) (K := K) (n := n) (cl := cl) (M0 := M0)
  have hch := dch_le (M0 := M0) (cl := cl) hpr
  have hP := hle i k hk
  have hchg : ∀ j, j < K → sX12_change (nI i) (nI k) (nI j) M = some (nI (if k = j then 0 else dch M0 cl bd be i), M) := fun j hj => m_chg d0 s hi (by omega) (by omega) e1 e2
  have hB : ∀ j, j < K → dB (DP w K n cl M0) (dch M0 cl bd be) K S i k j ≤ 17999 := fun j hj => dB_le hle hch hS.2 hj
  rw [dC_st hi]
  obtain ⟨a, M', e, f1, f2⟩ := lp_A (f := fun F a j M => sX12_onward_25 F (nI i) (nI k) a j M) (n := K) (I := fun j a M' => M' = M ∧ a = if j = 0 then -1 else nI (DP w K n cl M0 i k + dB (DP w K n cl M0) (dch M0 cl bd be) K S i k (amn (dB (DP w K n cl M0) (dch M0 cl bd be) K S i k) j))) (fun F j a M1 hj hI => by
    obtain ⟨rfl, rfl⟩ := hI
    have ep : 8 * nI i + nI k = nI (8 * i + k) := by rw [show (8 : Int32) = nI 8 from rfl, nI_mul, nI_add]
    have eq : 8 * nI i + 8 + nI j = nI (8 * (i + 1) + j) := by
      rw [show (8 : Int32) = nI 8 from rfl, nI_mul, nI_add, nI_add, show 8 * i + 8 + j = 8 * (i + 1) + j by omega]
    have es : nI (DP w K n cl M0 i k) + nI (if k = j then 0 else dch M0 cl bd be i) + nI (dC (DP w K n cl M0) (dch M0 cl bd be) K S (i + 1) j) = nI (DP w K n cl M0 i k + dB (DP w K n cl M0) (dch M0 cl bd be) K S i k j) := by
      rw [nI_add, nI_add]
      unfold dB
      congr 1
      omega
    refine ⟨_, M1, ?_, rfl, rfl⟩
    show sX12_onward_25 (F + 1) (nI i) (nI k) _ (nI j) M1 = _
    rw [sX12_onward_25, eK, if_neg (nle_nI hj (by omega)), ep, ckT (inb_nI (by omega) (by decide)), hchg j hj, Option.bind_some]
    dsimp only
    rw [eq, ckT (inb_nI (by omega) (by decide)), nI_clamp (by omega), nI_clamp (by omega), e3, e4 j hj, es, if_neg (show ¬ j + 1 = 0 by omega), amn]
    unfold sX12_onward_84 sX12_onward_91
    rw [nI_1]
    by_cases z : j = 0
    · subst z
      rw [if_pos rfl, if_pos (by decide)]
      congr 3
      rw [amn, if_pos (Nat.le_refl _)]
    · have hb := amn_lt (dB (DP w K n cl M0) (dch M0 cl bd be) K S i k) j
      have l1 := hB _ (show amn (dB (DP w K n cl M0) (dch M0 cl bd be) K S i k) j < K by omega)
      have l2 := hB j hj
      rw [if_neg z, if_neg (Int32.not_lt.mpr (nI_nn (by omega)))]
      by_cases y : dB (DP w K n cl M0) (dch M0 cl bd be) K S i k (amn (dB (DP w K n cl M0) (dch M0 cl bd be) K S i k) j) ≤ dB (DP w K n cl M0) (dch M0 cl bd be) K S i k j
      · rw [if_pos (nI_le (by omega) (by omega)), if_pos y]
      · rw [if_neg (nle_nI (by omega) (by omega)), if_neg y]) K 0 4096 (-1) M (by omega) (by omega) ⟨rfl, rfl⟩
  obtain ⟨rfl, rfl⟩ := And.intro f1 f2
  unfold sX12_onward
  rw [if_neg (by rw [show nI S - 1 = nI (S - 1) from nI_sb (b := 1) (by omega)]; exact ne_nI (by omega) (by omega) (by omega))]
  refine Eq.trans e ?_
  show sX12_onward_25 (4096 - K) (nI i) (nI k) _ (nI K) M' = _
  rw [show 4096 - K = (4095 - K) + 1 by omega, sX12_onward_25, eK, if_pos (nI_le (by omega) (by omega)), if_neg (by omega)]
theorem m_182 {kq : Nat × Nat} {w h N K n S bd be i : Nat} {cl : Nat → Nat} {M0 M : Mm} {k174 : Int32 → Int32 → Mm → Option (Int32 × Mm)} (hq : isKq kq) (d : Dr kq w h N K n S bd be cl M0) (x : Mk kq N M0 M (Lof M0 n)) (hi : i < S) (e1 : ∀ i, i < S → M.1 231 i = nI (cl i) ∧ ∀ k, k < K → M.1 230 (8 * i + k) = nI (DP w K n cl M0 i k)) (e4 : i + 1 < S → ∀ j, j < K → M.1 229 (8 * (i + 1) + j) = nI (dC (DP w K n cl M0) (dch M0 cl bd be) K S (i + 1) j)) :
    ∃ M', sX12_draw_182 k174 4096 (nI S) (nI i) 0 M = k174 (nI S) (nI i - 1) M' ∧ Fr (fun id z => id = 229 ∧ 8 * i ≤ z ∧ z < 8 * i + 8) M M' ∧ ∀ k, k < K → M'.1 229 (8 * i + k) = nI (dC (DP w K n cl M0) (dch M0 cl bd be) K S i k) := by
  have d0 := d
  obtain ⟨b, hn, h1, hS, hcl, hpr, ebd, ebe, ebd', ebe'⟩ := d
  have hK := b.2.2.2.1.1
  have eK : M.1 194 33 = nI K := (Bk_sm b x.1).2.2.2.1.2.2.1
  obtain ⟨M', e, f, q⟩ := lp_M (f := fun F j M => sX12_draw_182 k174 F (nI S) (nI i) j M) (n := K) (I := fun j M' => Fr (fun id z => id = 229 ∧ 8 * i ≤ z ∧ z < 8 * i + 8) M M' ∧ ∀ k, k < j → M'.1 229 (8 * i + k) = nI (dC (DP w K n cl M0) (dch M0 cl bd be) K S i k)) (fun F j M1 hj h => by
    have s1 : Sm kq M0 M1 := (Mk_dm hq x (Fr_mo h.1 (fun id k q => by unfold pDm; omega))).1
    have ep : 8 * nI i + nI j = nI (8 * i + j) := by rw [show (8 : Int32) = nI 8 from rfl, nI_mul, nI_add]
    have eo : sX12_onward (nI i) (nI j) (nI S) M1 = some (nI (dC (DP w K n cl M0) (dch M0 cl bd be) K S i j), M1) := by
      by_cases z : i + 1 < S
      · exact m_onw d0 s1 z hj (by rw [(h.1 231 i (by omega)).1]; exact (e1 i hi).1) (by rw [(h.1 231 (i + 1) (by omega)).1]; exact (e1 (i + 1) z).1) (by rw [(h.1 230 _ (by omega)).1]; exact (e1 i hi).2 j hj) (fun j' hj' => by rw [(h.1 229 _ (by omega)).1]; exact e4 z j' hj')
      · unfold sX12_onward
        rw [if_pos (by rw [show nI S - 1 = nI (S - 1) from nI_sb (b := 1) (by omega), show S - 1 = i by omega]), ep, ckT (inb_nI (by omega) (by decide)), nI_clamp (by omega), (h.1 230 _ (by omega)).1, (e1 i hi).2 j hj]
        unfold dC
        rw [show S - 1 - i = 0 by omega, dcc, show S - 1 = i by omega]
    refine ⟨sI M1 229 (8 * i + j) (nI (dC (DP w K n cl M0) (dch M0 cl bd be) K S i j)), ?_, Fr_sI h.1 (by omega), fun k hk => ?_⟩
    · show sX12_draw_182 k174 (F + 1) (nI S) (nI i) (nI j) M1 = _
      rw [sX12_draw_182, (h.1 194 33 (by omega)).1, eK, if_neg (nle_nI hj (by omega)), eo, Option.bind_some]
      dsimp only
      rw [ep, ckT (inb_nI (by omega) (by decide)), nI_clamp (by omega), nI_1]
    · by_cases u : k = j
      · rw [u, rdS]
      · rw [rdN (by omega)]; exact h.2 k (by omega)) K 0 4096 M (by omega) (by omega) ⟨Fr_rf _ _, fun k hk => absurd hk (Nat.not_lt_zero k)⟩
  refine ⟨M', ?_, f, q⟩
  refine Eq.trans e ?_
  show sX12_draw_182 k174 (4096 - K) (nI S) (nI i) (nI K) M' = _
  rw [show 4096 - K = (4095 - K) + 1 by omega, sX12_draw_182, (f 194 33 (by omega)).1, eK, if_pos (nI_le (by omega) (by omega)), nI_dn2]
theorem m_174 {kq : Nat × Nat} {w h N K n S bd be : Nat} {cl : Nat → Nat} {M0 : Mm} (hq : isKq kq) (d : Dr kq w h N K n S bd be cl M0) :
    ∀ (i F : Nat) (M : Mm), i ≤ S → i < F → Mk kq N M0 M (Lof M0 n) → (∀ i, i < S → M.1 231 i = nI (cl i) ∧ ∀ k, k < K → M.1 230 (8 * i + k) = nI (DP w K n cl M0 i k)) → (∀ i' k, i ≤ i' → i' < S → k < K → M.1 229 (8 * i' + k) = nI (dC (DP w K n cl M0) (dch M0 cl bd be) K S i' k)) →
    ∃ M', sX12_draw_174 F (nI S) (nI i - 1) M = sX12_draw_232 4096 (nI S) 0 1 M' ∧ Fr pDm M M' ∧ Mk kq N M0 M' (Lof M0 n) ∧ (∀ i, i < S → M'.1 231 i = nI (cl i) ∧ ∀ k, k < K → M'.1 230 (8 * i + k) = nI (DP w K n cl M0 i k)) ∧ (∀ i' k, i' < S → k < K → M'.1 229 (8 * i' + k) = nI (dC (DP w K n cl M0) (dch M0 cl bd be) K S i' k)) := by
  have hK := d.1.2.2.2.1.1
  have hS := d.2.2.2.1
  intro i
  induction i with
  | zero =>
    intro F M hi hF x e1 e2
    obtain ⟨F, rfl⟩ : ∃ G, F = G + 1 := ⟨F - 1, by omega⟩
    exact ⟨M, by rw [sX12_draw_174, if_pos (by decide)], Fr_rf _ _, x, e1, fun i' k h1 h2 => e2 i' k (Nat.zero_le _) h1 h2⟩
  | succ i ih =>
    intro F M hi hF x e1 e2
    obtain ⟨F, rfl⟩ : ∃ G, F = G + 1 := ⟨F - 1, by omega⟩
    obtain ⟨D, d1, d2, d3⟩ := m_182 (i := i) (k174 := sX12_draw_174 F) hq d x (by omega) e1 (fun z j hj => e2 (i + 1) j (by omega) z hj)
    rw [nI_dn, sX12_draw_174, if_neg (Int32.not_lt.mpr (nI_nn (by omega))), d1]
    have fD : Fr pDm M D := Fr_mo d2 (fun id k q => by unfold pDm; omega)
    obtain ⟨M', m1, m2, m3⟩ := ih F D (by omega) (by omega) (Mk_dm hq x fD) (fun i' hi' => by
      rw [(d2 231 i' (by omega)).1]
      exact ⟨(e1 i' hi').1, fun k hk => by rw [(d2 230 _ (by omega)).1]; exact (e1 i' hi').2 k hk⟩) (fun i' k u1 u2 u3 => by
      by_cases e : i' = i
      · rw [e]; exact d3 k u3
      · rw [(d2 229 _ (by omega)).1]; exact e2 i' k (by omega) u2 u3)
    exact ⟨M', m1, Fr_tr fD m2, m3⟩
