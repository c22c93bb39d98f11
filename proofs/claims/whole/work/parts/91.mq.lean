theorem shr0 : ∀ k, k < 8 → ∀ x, x < 256 → (((nI x >>> (nI k &&& 31)) &&& 1) = 0 ↔ x.testBit k = false) := by decide +kernel
theorem shr_msk (v : Nat → Bool) {m k : Nat} (hm : m ≤ 8) (hk : k < m) : ((nI (msk v m) >>> (nI k &&& 31)) &&& 1) = 0 ↔ v k = false := by
  rw [shr0 k (by omega) _ (msk256 v hm), msk_tb, decide_eq_true hk, Bool.true_and]
theorem m_q {p i m : Nat} {c : Cd} {v : Nat → Bool} {D : Nat → Nat → Nat} {M : Mm} (hp : p < 96) (hi : i < 60) (hc : mC_ p c M) (hs : sOk c) (hb : mB_ i m D M) (hl : lyOk m D) (hw : 18 ≤ c.1 ∧ c.1 ≤ 22) : ∀ (k F t b : Nat) (z : Bool), k ≤ m → k < F → t + thV v D k = thV v D m → b = fbV v D (m - k) k → (z || atV v D c.2.2 k) = atV v D c.2.2 m → sX12_isSo_21 F (nI i) (nI p) (nI (msk v m)) (nI t) (nI b) (b2 z) (nI k - 1) M = some (b2 (qvV c v D m), M) := by
  have ib := inb_nI (show p < 192 by omega) (by decide)
  have ii := inb_nI hi (by decide)
  have hm := hl.2.1
  have h256 := msk256 v hm
  have h2m := msk_lt v m
  have h28 : 2 ^ m ≤ 2 ^ 8 := Nat.pow_le_pow_right (by omega) hm
  have hth := thV_le (v := v) hl m (Nat.le_refl m)
  obtain ⟨c1, c2, c3, c4, c5, c6⟩ := hc
  have hmn : mn c.1 = c.1 - 1 := by unfold mn; rw [if_neg (by omega), if_neg (by omega)]
  intro k
  induction k with
  | zero =>
    intro F t b z _ hF ht hfb hz
    obtain ⟨F, rfl⟩ : ∃ F', F = F' + 1 := ⟨F - 1, by omega⟩
    rw [thV, Nat.add_zero] at ht
    rw [atV, Bool.or_false] at hz
    rw [Nat.sub_zero] at hfb
    have hf := fbV_le (v := v) hl m 0 (by omega)
    rw [sX12_isSo_21, if_pos (show nI 0 - 1 < 0 by decide), ckT ib, nI_clamp (show p < 2 ^ 31 by omega), c1, hmn]
    have ne : ∀ a, c.1 - 1 ≠ a → a < 100 → ¬ nI (c.1 - 1) = nI a := fun a h1 h2 => ne_nI h1 (by omega) (by omega)
    unfold qvV
    by_cases c18 : c.1 = 18
    · rw [if_pos (show nI (c.1 - 1) = 17 by rw [c18]; rfl), if_pos c18]
      cases ha : anV v m with
      | false => rw [if_pos (show nI (msk v m) = 0 by rw [(an_msk v m).mpr ha]; rfl)]; rfl
      | true => rw [if_neg (ne0_nI (fun q => by have := (an_msk v m).mp q; rw [ha] at this; cases this) (by omega))]; rfl
    rw [if_neg (show ¬ nI (c.1 - 1) = 17 from ne 17 (by omega) (by omega)), if_neg c18]
    by_cases c19 : c.1 = 19
    · rw [if_pos (show nI (c.1 - 1) = 18 by rw [c19]; rfl), if_pos c19, ckT ii, nI_clamp (show i < 2 ^ 31 by omega), hb.1, sh_all m (by omega)]
      have h9 := msk_not v m
      cases ha : anV (fun k => !v k) m with
      | false =>
        have h0 := (an_msk (fun k => !v k) m).mpr ha
        rw [if_pos (by rw [show msk v m = 2 ^ m - 1 by omega])]; rfl
      | true =>
        have h0 : msk (fun k => !v k) m ≠ 0 := fun q => by have := (an_msk (fun k => !v k) m).mp q; rw [ha] at this; cases this
        rw [if_neg (ne_nI (by omega) (by omega) (by omega))]; rfl
    rw [if_neg (show ¬ nI (c.1 - 1) = 18 from ne 18 (by omega) (by omega)), if_neg c19]
    by_cases c20 : c.1 = 20
    · rw [if_pos (show nI (c.1 - 1) = 19 by rw [c20]; rfl), if_pos c20, ckT (isb_b2 _), hz]
    rw [if_neg (show ¬ nI (c.1 - 1) = 19 from ne 19 (by omega) (by omega)), if_neg c20]
    by_cases c21 : c.1 = 21
    · rw [if_pos (show nI (c.1 - 1) = 20 by rw [c21]; rfl), if_pos c21, ckT ib, ckT ib, c2, c3, m_cmp (hs (by omega)) c5 (by omega) c6, Option.bind_some, ckT (isb_b2 _), ht]
    · rw [if_neg (show ¬ nI (c.1 - 1) = 20 from ne 20 (by omega) (by omega)), if_neg c21, ckT ib, ckT ib, c2, c3, m_cmp (hs (by omega)) c5 (by omega) c6, Option.bind_some, ckT (isb_b2 _), hfb]
  | succ k ih =>
    intro F t b z hk hF ht hfb hz
    obtain ⟨F, rfl⟩ : ∃ F', F = F' + 1 := ⟨F - 1, by omega⟩
    obtain ⟨l1, l2, l3⟩ := hl.2.2.2.1 k (by omega)
    have g1 : sX12_layerOf (nI i) (nI k) 1 M = some (nI (D k 1), M) := m_lay (j := 1) hb hi hm (by omega) (by omega)
    have g0 : sX12_layerOf (nI i) (nI k) 0 M = some (nI (D k 0), M) := m_lay (j := 0) hb hi hm (by omega) (by omega)
    have hmk : m - k = (m - (k + 1)) + 1 := by omega
    rw [thV] at ht
    rw [atV] at hz
    rw [sX12_isSo_21, nI_dn, if_neg (show ¬ nI k < 0 from nlt_nI (b := 0) (by omega) (by omega))]
    unfold sX12_isSo_113 sX12_isSo_109 sX12_isSo_114 sX12_isSo_116
    rw [nI_dn2]
    cases hv : v k with
    | false =>
      rw [hv, if_neg ff_, Nat.add_zero] at ht
      rw [hv, Bool.false_and, Bool.false_and, Bool.or_false] at hz
      rw [if_pos ((shr_msk v hm (by omega)).mpr hv)]
      exact ih F t b z (by omega) (by omega) ht (by rw [hfb, hmk, fbV, hv, if_neg ff_]) hz
    | true =>
      rw [hv, if_pos rfl] at ht
      rw [hv, Bool.true_and] at hz
      rw [if_neg (fun q => by have := (shr_msk v hm (by omega)).mp q; rw [hv] at this; cases this), g1, Option.bind_some]
      dsimp only
      rw [g0, Option.bind_some]
      dsimp only
      rw [g0, Option.bind_some]
      dsimp only
      rw [nI_sb (by omega), nI_add]
      have go : ∀ z' : Bool, (z' || atV v D c.2.2 k) = atV v D c.2.2 m → sX12_isSo_21 F (nI i) (nI p) (nI (msk v m)) (nI (t + (D k 1 - D k 0))) (nI (D k 0)) (b2 z') (nI k - 1) M = some (b2 (qvV c v D m), M) := fun z' hz' => ih F _ _ z' (by omega) (by omega) (by omega) (by rw [hmk, fbV, hv, if_pos rfl]) hz'
      cases z with
      | true =>
        rw [if_neg b2t0]
        exact go true (by rw [Bool.true_or] at hz; rw [Bool.true_or]; exact hz)
      | false =>
        rw [Bool.false_or] at hz
        rw [if_pos b2f, g0, Option.bind_some]
        dsimp only
        rw [ckT ib, nI_clamp (show p < 2 ^ 31 by omega), c3]
        by_cases q1 : c.2.2 < D k 0
        · rw [if_pos (nI_lt q1 (by omega))]
          rw [decide_eq_false (show ¬ D k 0 ≤ c.2.2 by omega), Bool.false_and, Bool.or_false] at hz
          exact go false (by rw [Bool.false_or]; exact hz)
        rw [if_neg (nlt_nI (by omega) (by omega)), ckT ib, g1, Option.bind_some]
        dsimp only
        rw [decide_eq_true (show D k 0 ≤ c.2.2 by omega), Bool.true_and] at hz
        by_cases q2 : D k 1 ≤ c.2.2
        · rw [if_pos (nI_le q2 (by omega))]
          rw [decide_eq_false (show ¬ c.2.2 < D k 1 by omega), Bool.or_false] at hz
          exact go false (by rw [Bool.false_or]; exact hz)
        · rw [if_neg (nle_nI (by omega) (by omega))]
          rw [decide_eq_true (show c.2.2 < D k 1 by omega), Bool.or_true] at hz
          exact go true (by rw [Bool.true_or]; exact hz)
theorem m_isSo {p i m : Nat} {c : Cd} {v : Nat → Bool} {D : Nat → Nat → Nat} {M : Mm} (hp : p < 96) (hi : i < 60) (hc : mC_ p c M) (hs : sOk c) (hb : mB_ i m D M) (hl : lyOk m D) (hw : 18 ≤ c.1 ∧ c.1 ≤ 22) : sX12_isSo (nI i) (nI p) (nI (msk v m)) M = some (b2 (qvV c v D m), M) := by
  have hm := hl.2.1
  unfold sX12_isSo
  rw [ckT (inb_nI hi (by decide)), nI_clamp (by omega), hb.1]
  exact m_q hp hi hc hs hb hl hw m 4096 0 999 false (Nat.le_refl m) (by omega) (Nat.zero_add _) (by rw [Nat.sub_self]; rfl) (Bool.false_or _)
