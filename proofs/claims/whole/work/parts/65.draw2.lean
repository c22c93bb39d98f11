/-- what a drawing is of -/
def Dr (kq : Nat × Nat) (w h N K n S bd be : Nat) (cl : Nat → Nat) (M0 : Mm) : Prop := Bk kq w h N K M0 ∧ n ≤ N ∧ 1 ≤ K ∧ (2 ≤ S ∧ S ≤ 8) ∧ (∀ i, i < S → cl i < w * h) ∧ (bd ≤ 9999 ∧ be ≤ 9999) ∧ M0.1 162 2 = nI bd ∧ M0.1 162 3 = nI be ∧ M0.1 194 14 = nI bd ∧ M0.1 194 15 = nI be
def DP (w K n : Nat) (cl : Nat → Nat) (M0 : Mm) (i k : Nat) : Nat := dP w K M0 (Lof M0 n) (cl i) k
theorem DP_le {w K n : Nat} {cl : Nat → Nat} {M0 : Mm} : ∀ i k, k < K → DP w K n cl M0 i k ≤ 1000 := fun i k _ => by unfold DP dP; omega
theorem dch_le {M0 : Mm} {cl : Nat → Nat} {bd be : Nat} (h : bd ≤ 9999 ∧ be ≤ 9999) : ∀ i, dch M0 cl bd be i ≤ 9999 := fun i => by unfold dch; split; exact h.2; exact h.1
theorem x_68 {kq : Nat × Nat} {w h N K n S bd be : Nat} {cl : Nat → Nat} {x3 x4 : Int32} {M0 : Mm} (hq : isKq kq) (d : Dr kq w h N K n S bd be cl M0) (h3 : ∀ i, i < S → x3 + nI i * x4 = nI (cl i)) (h4 : ∀ i, i + 1 < S → nI (cl i) + x4 = nI (cl (i + 1))) :
    ∀ (i F : Nat) (M : Mm), i ≤ S → i < F → Xk kq M0 M (Lof M0 n) → M.1 162 7 = nI S → (∀ i' k, i ≤ i' → i' < S → k < K → M.1 (164 + i') k = nI (dC (DP w K n cl M0) (dch M0 cl bd be) K S i' k)) → (∀ i', i ≤ i' → i' + 1 < S → M.1 172 i' = nI (dch M0 cl bd be i')) →
    ∃ M', sX3_drawLine_68 F x3 x4 (nI i - 1) M = (sX3_chooseKinds M').bind (fun (q234 : Int32 × Mm) => some (q234.1, q234.2)) ∧ Fr pDx M M' ∧ Xk kq M0 M' (Lof M0 n) ∧ M'.1 162 7 = nI S ∧ (∀ i' k, i' < S → k < K → M'.1 (164 + i') k = nI (dC (DP w K n cl M0) (dch M0 cl bd be) K S i' k)) ∧ (∀ i', i' + 1 < S → M'.1 172 i' = nI (dch M0 cl bd be i')) := by
  obtain ⟨b, hn, h1, hS, hcl, hpr, ebd, ebe, -, -⟩ := d
  have hK := b.2.2.2.1.1
  have h64 := wh64 b.1.1
  have hle := DP_le (w := w) (K := K) (n := n) (cl := cl) (M0 := M0)
  have hch := dch_le (M0 := M0) (cl := cl) hpr
  intro i
  induction i with
  | zero =>
    intro F M hi hF x e7 hc hg
    obtain ⟨F, rfl⟩ : ∃ G, F = G + 1 := ⟨F - 1, by omega⟩
    exact ⟨M, by rw [sX3_drawLine_68, if_pos (by decide)], Fr_rf _ _, x, e7, fun i' k h1 h2 => hc i' k (Nat.zero_le _) h1 h2, fun i' h1 => hg i' (Nat.zero_le _) h1⟩
  | succ i ih =>
    intro F M hi hF x e7 hc hg
    obtain ⟨F, rfl⟩ : ∃ G, F = G + 1 := ⟨F - 1, by omega⟩
    have bM := Bk_sm b x.1
    rw [nI_dn, sX3_drawLine_68, if_neg (Int32.not_lt.mpr (nI_nn (by omega))), h3 i (by omega), e7, show nI S - 1 = nI (S - 1) from nI_sb (b := 1) (by omega)]
    obtain ⟨hw, t, t1, t2, t3⟩ := wt_sm2 (c := cl i) (wo := 60) b hn
    -- the weights
    have weigh : ∀ {A : Mm}, Fr pDx M A → ∃ A', sX2_weigh (nI (cl i)) (-1) A = some A' ∧ Fr pW A A' ∧ Xk kq M0 A' (Lof M0 n) ∧ Wx K (wt w M0 (cl i) (Lof M0 n) 60) A' ∧ A'.1 158 4 = nI K := fun {A} fA => by
      obtain ⟨A', a1, a2, a3, a4⟩ := xk_weigh (c := cl i) (wo := 60) (x2 := -1) hq b hn (Xk_dx hq x fA) (hcl i (by omega)) (Lof_60 b hn)
      exact ⟨A', a1, a2, a3, a4, (Bk_sm b a3.1).2.2.2.1.2.2.2⟩
    have ib := inb_nI (show i < 8 by omega) (by decide)
    have ci := nI_clamp (show i < 2 ^ 31 by omega)
    have hPk : ∀ k, k < K → 1000 - prt (wt w M0 (cl i) (Lof M0 n) 60) K k = nI (DP w K n cl M0 i k) := fun k hk => dP_eq b hn hk
    by_cases last : i = S - 1
    · rw [if_pos (show nI i = nI (S - 1) by rw [last])]
      unfold sX3_drawLine_98
      rw [if_neg (by decide)]
      unfold sX3_drawLine_135 sX3_drawLine_146
      rw [ckT ib, ci]
      have fA : Fr pDx M (sI M 172 i (M.1 162 2)) := Fr_sI (Fr_rf _ _) (by unfold pDx; omega)
      obtain ⟨A', a1, a2, a3, a4, a5⟩ := weigh fA
      rw [a1, Option.bind_some]
      obtain ⟨D, d1, d2, d3⟩ := x_160l (i := i) (x3 := x3) (x4 := x4) (k68 := sX3_drawLine_68 F) hK (by omega) a5 t3 t1 t2 a4 hPk
      rw [d1]
      have fD : Fr pDx M D := Fr_tr fA (Fr_tr (Fr_mo a2 (fun id k q => by unfold pW at q; unfold pDx; omega)) (Fr_mo d2 (fun id k q => by unfold pDx; omega)))
      obtain ⟨M', m1, m2, m3⟩ := ih F D (by omega) (by omega) (Xk_dx hq x fD) (by rw [(d2 162 7 (by omega)).1, (a2 162 7 (by unfold pW; omega)).1, rdN (by omega)]; exact e7) (fun i' k u1 u2 u3 => by
        have : i' = i := by omega
        subst this
        rw [d3 k u3]
        unfold dC
        rw [show S - 1 - i' = 0 by omega, dcc, last]) (fun i' u1 u2 => by omega)
      exact ⟨M', m1, Fr_tr fD m2, m3⟩
    · rw [if_neg (ne_nI last (by omega) (by omega))]
      unfold sX3_drawLine_98
      have hi1 : i + 1 < S := by omega
      rw [if_pos rfl, h4 i hi1, x_hg b x.1 (hcl i (by omega)) (hcl (i + 1) hi1), Option.bind_some]
      dsimp only
      have e9 : M.1 22 9 = M0.1 194 10 := by
        rw [x.1 22 9 (Or.inl (by unfold rLand; omega))]
        exact b.1.2.2.2.2.2.2.1.1
      have e62 : M.1 162 2 = nI bd := by rw [x.1 162 2 (by unfold rBk; omega)]; exact ebd
      have e63 : M.1 162 3 = nI be := by rw [x.1 162 3 (by unfold rBk; omega)]; exact ebe
      have e146 : ∀ (v : Int32), v = nI (dch M0 cl bd be i) → ∃ D, sX3_drawLine_146 (sX3_drawLine_68 F) x3 x4 (nI i) (nI (cl i)) 0 (nI i) v M = sX3_drawLine_68 F x3 x4 (nI i - 1) D ∧ Fr pDx M D ∧ D.1 162 7 = nI S ∧ D.1 172 i = nI (dch M0 cl bd be i) ∧ (∀ id k, i < id → M.1 (164 + id) k = D.1 (164 + id) k ∨ 8 ≤ id) ∧ (∀ i', i' ≠ i → D.1 172 i' = M.1 172 i') ∧ ∀ k, k < K → D.1 (164 + i) k = nI (dC (DP w K n cl M0) (dch M0 cl bd be) K S i k) := by
        intro v hv
        unfold sX3_drawLine_146
        rw [ckT ib, ci, hv]
        have fA : Fr pDx M (sI M 172 i (nI (dch M0 cl bd be i))) := Fr_sI (Fr_rf _ _) (by unfold pDx; omega)
        obtain ⟨A', a1, a2, a3, a4, a5⟩ := weigh fA
        rw [a1, Option.bind_some]
        obtain ⟨D, d1, d2, d3⟩ := x_160 (i := i) (chi := dch M0 cl bd be i) (x3 := x3) (x4 := x4) (C := dC (DP w K n cl M0) (dch M0 cl bd be) K S (i + 1)) (k68 := sX3_drawLine_68 F) hK h1 (by omega) a5 t3 t1 t2 a4 hPk (fun j hj => by rw [(a2 _ j (by unfold pW; omega)).1, rdN (by omega)]; exact hc (i + 1) j (by omega) hi1 hj) (by rw [(a2 172 i (by unfold pW; omega)).1, rdS]) (fun j hj => dC_le hle hS.2 hj) (hch i)
        refine ⟨D, d1, Fr_tr fA (Fr_tr (Fr_mo a2 (fun id k q => by unfold pW at q; unfold pDx; omega)) (Fr_mo d2 (fun id k q => by unfold pDx; omega))), ?_, ?_, fun id k hid => ?_, fun i' hi' => ?_, fun k hk => ?_⟩
        · rw [(d2 162 7 (by omega)).1, (a2 162 7 (by unfold pW; omega)).1, rdN (by omega)]; exact e7
        · rw [(d2 172 i (by omega)).1, (a2 172 i (by unfold pW; omega)).1, rdS]
        · by_cases z : 8 ≤ id
          · exact Or.inr z
          · exact Or.inl (by rw [(d2 _ k (by omega)).1, (a2 _ k (by unfold pW; omega)).1, rdN (by omega)])
        · rw [(d2 172 i' (by omega)).1, (a2 172 i' (by unfold pW; omega)).1, rdN (by omega)]
        · rw [d3 k hk, dC_st hi1]
          rfl
      have fin : ∀ {D : Mm}, Fr pDx M D → D.1 162 7 = nI S → D.1 172 i = nI (dch M0 cl bd be i) → (∀ id k, i < id → M.1 (164 + id) k = D.1 (164 + id) k ∨ 8 ≤ id) → (∀ i', i' ≠ i → D.1 172 i' = M.1 172 i') → (∀ k, k < K → D.1 (164 + i) k = nI (dC (DP w K n cl M0) (dch M0 cl bd be) K S i k)) → ∃ M', sX3_drawLine_68 F x3 x4 (nI i - 1) D = (sX3_chooseKinds M').bind (fun (q234 : Int32 × Mm) => some (q234.1, q234.2)) ∧ Fr pDx M M' ∧ Xk kq M0 M' (Lof M0 n) ∧ M'.1 162 7 = nI S ∧ (∀ i' k, i' < S → k < K → M'.1 (164 + i') k = nI (dC (DP w K n cl M0) (dch M0 cl bd be) K S i' k)) ∧ (∀ i', i' + 1 < S → M'.1 172 i' = nI (dch M0 cl bd be i')) := fun {D} fD d7 d17 dk d172 dc => by
        obtain ⟨M', m1, m2, m3⟩ := ih F D (by omega) (by omega) (Xk_dx hq x fD) d7 (fun i' k u1 u2 u3 => by
          by_cases e : i' = i
          · rw [e]; exact dc k u3
          · rcases dk i' k (by omega) with q | q
            · rw [← q]; exact hc i' k (by omega) u2 u3
            · omega) (fun i' u1 u2 => by
          by_cases e : i' = i
          · rw [e]; exact d17
          · rw [d172 i' e]; exact hg i' (by omega) u2)
        exact ⟨M', m1, Fr_tr fD m2, m3⟩
      rw [e9]
      by_cases z : M0.1 194 10 ≤ nI (absN (hgt M0 (cl i)) (hgt M0 (cl (i + 1))))
      · rw [if_pos z]
        obtain ⟨D, d1, d2, d3, d4, d5, d6, d7⟩ := e146 (M.1 162 3) (by rw [e63]; unfold dch; rw [if_pos z])
        rw [d1]
        exact fin d2 d3 d4 d5 d6 d7
      · rw [if_neg z]
        unfold sX3_drawLine_135
        obtain ⟨D, d1, d2, d3, d4, d5, d6, d7⟩ := e146 (M.1 162 2) (by rw [e62]; unfold dch; rw [if_neg z])
        rw [d1]
        exact fin d2 d3 d4 d5 d6 d7
theorem x_choose {kq : Nat × Nat} {w h N K n S bd be : Nat} {cl : Nat → Nat} {M0 M : Mm} (hq : isKq kq) (d : Dr kq w h N K n S bd be cl M0) (x : Xk kq M0 M (Lof M0 n)) (e7 : M.1 162 7 = nI S) (hc : ∀ i' k, i' < S → k < K → M.1 (164 + i') k = nI (dC (DP w K n cl M0) (dch M0 cl bd be) K S i' k)) (hg : ∀ i', i' + 1 < S → M.1 172 i' = nI (dch M0 cl bd be i')) :
    ∃ M', sX3_chooseKinds M = some (nI (dC (DP w K n cl M0) (dch M0 cl bd be) K S 0 (dln (DP w K n cl M0) (dch M0 cl bd be) K S 0)), M') ∧ Fr (fun id _ => id = 173) M M' ∧ ∀ i, i < S → M'.1 173 i = nI (dln (DP w K n cl M0) (dch M0 cl bd be) K S i) := by
  obtain ⟨b, hn, h1, hS, hcl, hpr, ebd, ebe, -, -⟩ := d
  have hK := b.2.2.2.1.1
  have bM := Bk_sm b x.1
  have eK : M.1 158 4 = nI K := bM.2.2.2.1.2.2.2
  have hle := DP_le (w := w) (K := K) (n := n) (cl := cl) (M0 := M0)
  have hch := dch_le (M0 := M0) (cl := cl) hpr
  generalize DP w K n cl M0 = P at hc hle
  generalize dch M0 cl bd be = ch at hc hg hch
  have z0 : inb 0 8 = true := by decide
  have e164 : 164 + (0 : Int32).toNatClampNeg = 164 := by decide
  have hc0 : ∀ k, k < K → M.1 164 k = nI (dC P ch K S 0 k) := fun k hk => hc 0 k (by omega) hk
  obtain ⟨a, M', e, f1, f2⟩ := lp_A (f := fun F a j M => sX3_chooseKinds_4 F a j M) (n := K) (I := fun j a M' => M' = M ∧ a = nI (amn (dC P ch K S 0) j)) (fun F j a M1 hj hI => by
    obtain ⟨rfl, rfl⟩ := hI
    have hb := amn_lt (dC P ch K S 0) j
    refine ⟨_, M1, ?_, rfl, rfl⟩
    show sX3_chooseKinds_4 (F + 1) _ (nI j) M1 = _
    rw [sX3_chooseKinds_4, eK, if_neg (nle_nI hj (by omega)), ckT z0, ckT (inb_nI (by omega) (by decide)), ckT z0, ckT (inb_nI (by omega) (by decide)), e164, nI_clamp (by omega), nI_clamp (by omega), hc0 j hj, hc0 _ (by omega)]
    unfold sX3_chooseKinds_39
    rw [nI_1, amn]
    congr 1
    have l1 := dC_le (ch := ch) (i := 0) hle hS.2 hj
    have l2 := dC_le (ch := ch) (i := 0) hle hS.2 (show amn (dC P ch K S 0) j < K by omega)
    by_cases z : dC P ch K S 0 (amn (dC P ch K S 0) j) ≤ dC P ch K S 0 j
    · rw [if_pos (nI_le z (by omega)), if_pos z]
    · rw [if_neg (nle_nI (by omega) (by omega)), if_neg z]) (K - 1) 1 4096 (nI (amn (dC P ch K S 0) 1)) M (by omega) (by omega) ⟨rfl, rfl⟩
  have e0 : amn (dC P ch K S 0) 1 = 0 := by
    have := amn_lt (dC P ch K S 0) 1
    omega
  rw [e0] at e
  obtain ⟨rfl, rfl⟩ := And.intro f1 f2
  have hb := amn_lt (dC P ch K S 0) K
  have e4 : sX3_chooseKinds M' = sX3_chooseKinds_64 4096 (nI (dC P ch K S 0 (amn (dC P ch K S 0) K))) 1 (sI M' 173 0 (nI (amn (dC P ch K S 0) K))) := by
    unfold sX3_chooseKinds
    refine Eq.trans e ?_
    show sX3_chooseKinds_4 (4096 - (K - 1)) _ (nI K) M' = _
    rw [show 4096 - (K - 1) = (4095 - (K - 1)) + 1 by omega, sX3_chooseKinds_4, eK, if_pos (nI_le (by omega) (by omega)), ckT z0, ckT (inb_nI (by omega) (by decide)), ckT z0, e164, nI_clamp (by omega), hc0 _ (by omega)]
    rfl
  obtain ⟨D, d1, d2, d3, d4⟩ := lp_M (f := fun F j M => sX3_chooseKinds_64 F (nI (dC P ch K S 0 (amn (dC P ch K S 0) K))) j M) (n := S) (I := fun j D => 1 ≤ j ∧ Fr (fun id _ => id = 173) M' D ∧ ∀ i, i < j → D.1 173 i = nI (dln P ch K S i)) (fun F j M1 hj h => by
    obtain ⟨h0, h2, h3⟩ := h
    obtain ⟨i, rfl⟩ : ∃ i, j = i + 1 := ⟨j - 1, by omega⟩
    have hl := dln_lt (P := P) (ch := ch) (S := S) h1 i
    refine ⟨sI M1 173 (i + 1) (nI (dln P ch K S (i + 1))), ?_, by omega, Fr_sI h2 rfl, fun i' hi' => ?_⟩
    · show sX3_chooseKinds_64 (F + 1) _ (nI (i + 1)) M1 = _
      have ef := x_fol (K := K) (i := i) (k := dln P ch K S i) (chi := ch i) (C := dC P ch K S (i + 1)) (M := M1) hK h1 (by rw [(h2 158 4 (by omega)).1]; exact eK) (by omega) (by omega) (fun j hj => by rw [(h2 _ j (by omega)).1]; exact hc (i + 1) j (by omega) hj) (by rw [(h2 172 i (by omega)).1]; exact hg i (by omega)) (fun j hj => dC_le hle hS.2 hj) (hch i)
      rw [sX3_chooseKinds_64, (h2 162 7 (by omega)).1, e7, if_neg (nle_nI hj (by omega)), nI_dn, ckT (inb_nI (by omega) (by decide)), nI_clamp (by omega), h3 i (by omega), ef, Option.bind_some]
      dsimp only
      rw [ckT (inb_nI (by omega) (by decide)), nI_clamp (by omega), nI_1]
      rfl
    · by_cases u : i' = i + 1
      · rw [u, rdS]
      · rw [rdN (by omega)]; exact h3 i' (by omega)) (S - 1) 1 4096 (sI M' 173 0 (nI (amn (dC P ch K S 0) K))) (by omega) (by omega) ⟨Nat.le_refl 1, Fr_sI (Fr_rf _ _) rfl, fun i hi => by
    have : i = 0 := by omega
    subst this
    rw [rdS, dln]⟩
  refine ⟨D, ?_, d3, d4⟩
  rw [e4, dln]
  refine Eq.trans d1 ?_
  show sX3_chooseKinds_64 (4096 - (S - 1)) _ (nI S) D = _
  rw [show 4096 - (S - 1) = (4095 - (S - 1)) + 1 by omega, sX3_chooseKinds_64, (d3 162 7 (by omega)).1, e7, if_pos (nI_le (by omega) (by omega))]
