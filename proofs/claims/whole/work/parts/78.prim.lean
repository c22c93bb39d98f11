def tN (T : Nat → Int32) (n q : Nat) : Nat := mN T (tA T n q) (tE T n q - tA T n q)
theorem tS_1 {T : Nat → Int32} {n q : Nat} (hq : q ≤ n) (h : tS T n q = 1) : xV T n q = nI (min (tN T n q) 1000) ∧ mK T n q = 3 ∧ mW T n q = nI (tN T n q) ∧ tN T n q ≤ 100000 := by
  unfold tS at h
  by_cases c : tA T n q < n
  · rw [if_pos c] at h
    by_cases c1 : isD (T (tA T n q)) = true
    · unfold xV mK mW tN
      rw [if_pos c1, if_pos c, if_pos c1, if_pos c1]
      refine ⟨rfl, rfl, rfl, mN_le _ (fun j hj => ?_)⟩
      have h2 : tE T n q = rnE isD T n (tA T n q) := by unfold tE; rw [if_pos c, if_pos c1]
      obtain ⟨k1, k2, k3, k4⟩ := rnE_b (p := isD) (T := T) (n := n) (n - tA T n q) (tA T n q) rfl (by omega)
      rw [h2] at hj
      exact k4 _ (by omega) (by omega)
    · rw [if_neg c1] at h
      split at h <;> omega
  · rw [if_neg c] at h; omega
theorem tS_0 {T : Nat → Int32} {n q : Nat} (h : tS T n q = 0) : mK T n q = 0 := by
  unfold tS at h
  unfold mK
  by_cases c : tA T n q < n
  · rw [if_pos c] at h
    split at h
    · omega
    · split at h <;> omega
  · rw [if_neg c]
/-- the number of a known word, as the class counts -/
def wdx (T : Nat → Int32) (n q : Nat) : Option Nat := if tS T n q = 2 ∧ ¬ xV T n q < 0 then some (xV T n q).toNatClampNeg else none
theorem tS_2 {T : Nat → Int32} {n q : Nat} (hq : q ≤ n) (h : tS T n q = 2) : (xV T n q = -2 ∧ mK T n q = 5 ∧ wdx T n q = none) ∨ (xV T n q = -1 ∧ mK T n q = 2 ∧ wdx T n q = none ∧ tE T n q - tA T n q ≤ 8) ∨ ∃ i, i < 24 ∧ xV T n q = nI i ∧ mK T n q = 1 ∧ mW T n q = nI (prm i) ∧ wdx T n q = some i := by
  have h0 := h
  unfold tS at h
  by_cases c : tA T n q < n
  · rw [if_pos c] at h
    by_cases c1 : isD (T (tA T n q)) = true
    · rw [if_pos c1] at h; omega
    · rw [if_neg c1] at h
      by_cases c2 : isL (T (tA T n q)) = true
      · have ex : xV T n q = if tE T n q - tA T n q ≤ 8 then xwn (enc T (tA T n q) (tE T n q - tA T n q)) else -2 := by unfold xV; rw [if_neg c1, if_pos c2]
        have em : mW T n q = mwn (enc T (tA T n q) (tE T n q - tA T n q)) := by unfold mW; rw [if_neg c1, if_pos c2]
        have ek : mK T n q = if mW T n q < 0 then (if tE T n q - tA T n q ≤ 8 then 2 else 5) else 1 := by unfold mK; rw [if_pos c, if_neg c1, if_pos c2]
        have he : tE T n q = rnE isL T n (tA T n q) := by unfold tE; rw [if_pos c, if_neg c1, if_pos c2]
        obtain ⟨k1, k2, k3, k4⟩ := rnE_b (p := isL) (T := T) (n := n) (n - tA T n q) (tA T n q) rfl (by omega)
        rw [← he] at k1 k2 k3 k4
        by_cases u : tE T n q - tA T n q ≤ 8
        · rw [if_pos u] at ex ek
          rcases wn_rel (enc T (tA T n q) (tE T n q - tA T n q)) with ⟨w1, w2⟩ | ⟨i, hi, w1, w2⟩
          · refine Or.inr (Or.inl ⟨ex.trans w1, ?_, ?_, u⟩)
            · rw [ek, em, w2]; rfl
            · unfold wdx; rw [ex, w1, if_neg (fun p => p.2 (by decide))]
          · refine Or.inr (Or.inr ⟨i, hi, ex.trans w1, ?_, em.trans w2, ?_⟩)
            · rw [ek, em, w2, if_neg (Int32.not_lt.mpr (nI_nn (by have := (cmw_eq i hi).1; omega)))]
            · unfold wdx
              rw [ex, w1, if_pos ⟨h0, Int32.not_lt.mpr (nI_nn (by omega))⟩, nI_clamp (by omega)]
        · rw [if_neg u] at ex ek
          refine Or.inl ⟨ex, ?_, ?_⟩
          · have : mwn (enc T (tA T n q) (tE T n q - tA T n q)) = -1 := by
              unfold mwn
              refine fxw_no 24 0 (fun j _ h2 => decide_eq_false (fun z => ?_))
              obtain ⟨-, f2, f3, f4, f5, f6⟩ := w_fact j (by omega)
              rw [f6] at z
              obtain ⟨i1, -⟩ := enc_inj _ _ (fun i hi => w_let j (by omega) i (by omega) hi) (fun i hi => k4 (tA T n q + i) (by omega) (by omega)) z
              omega
            rw [ek, em, this]; rfl
          · unfold wdx; rw [ex, if_neg (fun p => p.2 (by decide))]
      · rw [if_neg c2] at h; omega
  · rw [if_neg c] at h; omega
theorem wdx_n {T : Nat → Int32} {n q : Nat} (h : tS T n q ≠ 2) : wdx T n q = none := by
  unfold wdx
  rw [if_neg (fun p => h p.1)]
/-- bytes -/
def Tb (T : Nat → Int32) (n : Nat) : Prop := ∀ k, k < n → ∃ v, v ≤ 255 ∧ T k = nI v
/-- signs -/
theorem tS_3 {T : Nat → Int32} {n q : Nat} (hb : Tb T n) (h : tS T n q = 3) : (mK T n q = 5 ∧ ¬ (xV T n q = 45 ∨ xV T n q = 59 ∨ xV T n q = 58 ∨ xV T n q = 40 ∨ xV T n q = 41) ∧ ¬ (xV T n q = 60 ∨ xV T n q = 61 ∨ xV T n q = 62 ∨ xV T n q = 316 ∨ xV T n q = 318)) ∨ (mK T n q = 4 ∧ ((mW T n q = 1 ∧ xV T n q = 60) ∨ (mW T n q = 2 ∧ xV T n q = 316) ∨ (mW T n q = 3 ∧ xV T n q = 61) ∨ (mW T n q = 4 ∧ xV T n q = 318) ∨ (mW T n q = 5 ∧ xV T n q = 62) ∨ (mW T n q = xV T n q ∧ (xV T n q = 45 ∨ xV T n q = 59 ∨ xV T n q = 58 ∨ xV T n q = 40 ∨ xV T n q = 41)))) := by
  unfold tS at h
  by_cases c : tA T n q < n
  · rw [if_pos c] at h
    by_cases c1 : isD (T (tA T n q)) = true
    · rw [if_pos c1] at h; omega
    · rw [if_neg c1] at h
      by_cases c2 : isL (T (tA T n q)) = true
      · rw [if_pos c2] at h; omega
      · have ex : xV T n q = if sgE T n (tA T n q) = true then T (tA T n q) + 256 else T (tA T n q) := by unfold xV; rw [if_neg c1, if_neg c2]
        have em : mW T n q = sgW T n (tA T n q) := by unfold mW; rw [if_neg c1, if_neg c2]
        have ek : mK T n q = if 0 ≤ mW T n q then 4 else 5 := by unfold mK; rw [if_pos c, if_neg c1, if_neg c2]
        rw [ek, em, ex]
        unfold sgW
        obtain ⟨v, hv, ev⟩ := hb _ c
        generalize tA T n q = a at ev
        by_cases d1 : T a = 60
        · rw [if_pos d1, d1]
          cases sgE T n a
          · exact Or.inr ⟨rfl, Or.inl ⟨rfl, rfl⟩⟩
          · exact Or.inr ⟨rfl, Or.inr (Or.inl ⟨rfl, rfl⟩)⟩
        · rw [if_neg d1]
          by_cases d2 : T a = 62
          · rw [if_pos d2, d2]
            cases sgE T n a
            · exact Or.inr ⟨rfl, Or.inr (Or.inr (Or.inr (Or.inr (Or.inl ⟨rfl, rfl⟩))))⟩
            · exact Or.inr ⟨rfl, Or.inr (Or.inr (Or.inr (Or.inl ⟨rfl, rfl⟩)))⟩
          · have hf : sgE T n a = false := by unfold sgE; simp [d1, d2]
            rw [if_neg d2, hf, if_neg ff_]
            by_cases d3 : T a = 61
            · rw [if_pos d3, d3]
              exact Or.inr ⟨rfl, Or.inr (Or.inr (Or.inl ⟨rfl, rfl⟩))⟩
            · rw [if_neg d3]
              by_cases d4 : T a = 45 ∨ T a = 59 ∨ T a = 58 ∨ T a = 40 ∨ T a = 41
              · rw [if_pos d4]
                refine Or.inr ⟨?_, Or.inr (Or.inr (Or.inr (Or.inr (Or.inr ⟨rfl, d4⟩))))⟩
                rcases d4 with q | q | q | q | q <;> (rw [q]; rfl)
              · rw [if_neg d4]
                by_cases d5 : T a = 316 ∨ T a = 318
                · exfalso
                  rw [ev] at d5
                  rcases d5 with q | q
                  · exact ne_nI (b := 316) (by omega) (by omega) (by omega) q
                  · exact ne_nI (b := 318) (by omega) (by omega) (by omega) q
                · exact Or.inl ⟨rfl, d4, by simp only [d1, d2, d3]; simpa using d5⟩
  · rw [if_neg c] at h; omega

theorem and_255 (x : Int32) : ∃ v, v ≤ 255 ∧ x &&& 255 = nI v := by
  refine ⟨(x.toBitVec &&& 255#32).toNat, ?_, ?_⟩
  · rw [BitVec.toNat_and]
    exact Nat.and_le_right
  · apply Int32.toBitVec_inj.mp
    rw [Int32.toBitVec_and]
    unfold nI
    show _ = BitVec.ofNat 32 _
    rw [BitVec.ofNat_toNat, BitVec.setWidth_eq]
    rfl
/-- the tapes, with their bytes -/
def iTapeB (M : Mm) : Prop := ∃ t : Nat, t ≤ 800 ∧ M.1 1 1 = nI t ∧ M.1 194 1 = nI t ∧ ∀ k, k < t → M.1 2 k = M.1 195 k ∧ ∃ v, v ≤ 255 ∧ M.1 2 k = nI v
theorem fdl_b (x1 x2 x3 x4 x5 : Int32) (k : Nat) (hk : k < 20) : ∃ v, v ≤ 255 ∧ (fdl x1 x2 x3 x4 x5).getD k 0 = nI v := by
  have hb : ∀ x s, ∃ v, v ≤ 255 ∧ bt x s = nI v := fun x s => and_255 _
  match k, hk with
  | 0, _ => exact hb _ _
  | 1, _ => exact hb _ _
  | 2, _ => exact hb _ _
  | 3, _ => exact hb _ _
  | 4, _ => exact hb _ _
  | 5, _ => exact hb _ _
  | 6, _ => exact hb _ _
  | 7, _ => exact hb _ _
  | 8, _ => exact hb _ _
  | 9, _ => exact hb _ _
  | 10, _ => exact hb _ _
  | 11, _ => exact hb _ _
  | 12, _ => exact hb _ _
  | 13, _ => exact hb _ _
  | 14, _ => exact hb _ _
  | 15, _ => exact hb _ _
  | 16, _ => exact hb _ _
  | 17, _ => exact hb _ _
  | 18, _ => exact hb _ _
  | 19, _ => exact hb _ _
  | k + 20, h => omega
theorem step_feedB {kq : Nat × Nat} {M : Mm} (a1 a2 a3 a4 a5 a6 : Int32) (h : iTapeB M) : ∃ M1, st_feed kq a1 a2 a3 a4 a5 a6 M = some (kq, M1) ∧ iTapeB M1 ∧ Fr pFeed M M1 := by
  obtain ⟨t, h0, h1, h2, h3⟩ := h
  unfold st_feed
  by_cases ht : t + 20 ≤ 800
  · obtain ⟨A, eA, pA, fA, gA⟩ := fx_eq (x1 := a1) (x2 := a2) (x3 := a3) (x4 := a4) (x5 := a5) h1 ht
    obtain ⟨B, eB, pB, gB, fB⟩ := mf_eq (x1 := a1) (x2 := a2) (x3 := a3) (x4 := a4) (x5 := a5) (M := A) (t := t) (by rw [(fA 194 1 (by unfold pFd; omega)).1]; exact h2) ht
    refine ⟨B, ?_, ⟨t + 20, ht, ?_, gB, fun k hk => ?_⟩, ?_⟩
    · rw [eA, Option.bind_some, eB, Option.bind_some, if_pos rfl]
    · rw [(fB 1 1 (by unfold pMd; omega)).1]; exact gA
    · rw [(fB 2 k (by unfold pMd; omega)).1]
      rcases Nat.lt_or_ge k t with q | q
      · rw [pA.1 k q, pB.1 k q, (fA 195 k (by unfold pFd; omega)).1]
        exact h3 k q
      · have e9 : k = t + (k - t) := by omega
        rw [e9, pA.2 (k - t) (by show k - t < 20; omega), pB.2 (k - t) (by show k - t < 20; omega)]
        exact ⟨rfl, fdl_b _ _ _ _ _ _ (by omega)⟩
    · exact Fr_tr (Fr_mo fA (fun id k q => by unfold pFd at q; unfold pFeed; omega)) (Fr_mo fB (fun id k q => by unfold pMd at q; unfold pFeed; omega))
  · refine ⟨sI M 194 2 0, ?_, ⟨t, h0, by rw [rdN (by omega)]; exact h1, by rw [rdN (by omega)]; exact h2, fun k hk => by rw [rdN (by omega), rdN (by omega)]; exact h3 k hk⟩, Fr_sI (Fr_rf _ _) (by unfold pFeed; omega)⟩
    rw [fx_no h1 h0 ht, Option.bind_some, mf_no h2 h0 ht, Option.bind_some, if_pos rfl]
/-- is the token a known word from f on, c of them -/
def wdR (T : Nat → Int32) (n q f c : Nat) : Bool := match wdx T n q with
  | none => false
  | some i => decide (f ≤ i) && decide (i < f + c)
def sgB (T : Nat → Int32) (n q c : Nat) : Bool := decide (tS T n q = 3) && decide (xV T n q = nI c)
theorem x_isW {T : Nat → Int32} {n q f c : Nat} {M : Mm} (hq : q ≤ n) (x : XT T n q M) (hf : f + c < 1000) : sX10_isWord (nI f) (nI c) M = some (b2 (wdR T n q f c), M) := by
  obtain ⟨-, -, -, e4, e6, -⟩ := x
  unfold sX10_isWord wdR
  rw [e4]
  by_cases h : tS T n q = 2
  · rw [h, if_pos (show nI 2 = 2 from rfl), e6 (by omega), nI_add]
    rcases tS_2 hq h with ⟨v, -, w⟩ | ⟨v, -, w, -⟩ | ⟨i, hi, v, -, -, w⟩
    · rw [v, w, if_pos (Int32.lt_of_lt_of_le (show (-2 : Int32) < 0 by decide) (nI_nn (by omega)))]; rfl
    · rw [v, w, if_pos (Int32.lt_of_lt_of_le (show (-1 : Int32) < 0 by decide) (nI_nn (by omega)))]; rfl
    · rw [v, w]
      dsimp only
      by_cases c1 : i < f
      · rw [if_pos (nI_lt c1 (by omega)), decide_eq_false (by omega)]; rfl
      · rw [if_neg (nlt_nI (by omega) (by omega)), decide_eq_true (show f ≤ i by omega)]
        by_cases c2 : f + c ≤ i
        · rw [if_pos (nI_le c2 (by omega)), decide_eq_false (by omega)]; rfl
        · rw [if_neg (nle_nI (by omega) (by omega)), decide_eq_true (by omega)]; rfl
  · have h3 : tS T n q < 4 := by unfold tS; split; split; omega; split <;> omega; omega
    rw [if_neg (show ¬ nI (tS T n q) = 2 from ne_nI (b := 2) h (by omega) (by omega)), wdx_n h]
    rfl
theorem tS_lt (T : Nat → Int32) (n q : Nat) : tS T n q < 4 := by
  unfold tS
  split
  · split
    · omega
    · split <;> omega
  · omega
theorem mK_2 {T : Nat → Int32} {n q : Nat} (hq : q ≤ n) (hb : Tb T n) : mK T n q = 1 ↔ ∃ i, wdx T n q = some i := by
  have h4 := tS_lt T n q
  by_cases h0 : tS T n q = 0
  · rw [tS_0 h0, wdx_n (by omega)]
    exact ⟨fun q => absurd q (by decide), fun ⟨i, q⟩ => by cases q⟩
  by_cases h1 : tS T n q = 1
  · rw [(tS_1 hq h1).2.1, wdx_n (by omega)]
    exact ⟨fun q => absurd q (by decide), fun ⟨i, q⟩ => by cases q⟩
  by_cases h2 : tS T n q = 2
  · rcases tS_2 hq h2 with ⟨-, v, w⟩ | ⟨-, v, w, -⟩ | ⟨i, hi, -, v, -, w⟩
    · rw [v, w]; exact ⟨fun q => absurd q (by decide), fun ⟨i, q⟩ => by cases q⟩
    · rw [v, w]; exact ⟨fun q => absurd q (by decide), fun ⟨i, q⟩ => by cases q⟩
    · rw [v, w]; exact ⟨fun _ => ⟨i, rfl⟩, fun _ => rfl⟩
  · rw [wdx_n h2]
    rcases tS_3 hb (show tS T n q = 3 by omega) with ⟨v, -⟩ | ⟨v, -⟩
    · rw [v]; exact ⟨fun q => absurd q (by decide), fun ⟨i, q⟩ => by cases q⟩
    · rw [v]; exact ⟨fun q => absurd q (by decide), fun ⟨i, q⟩ => by cases q⟩
theorem wdx_r {T : Nat → Int32} {n q i : Nat} (hq : q ≤ n) (h : wdx T n q = some i) : i < 24 ∧ tS T n q = 2 ∧ xV T n q = nI i ∧ mK T n q = 1 ∧ mW T n q = nI (prm i) := by
  have h2 : tS T n q = 2 := by
    by_cases z : tS T n q = 2
    · exact z
    · rw [wdx_n z] at h; cases h
  rcases tS_2 hq h2 with ⟨-, -, w⟩ | ⟨-, -, w, -⟩ | ⟨j, hj, v1, v2, v3, w⟩
  · rw [w] at h; cases h
  · rw [w] at h; cases h
  · rw [w] at h; cases h; exact ⟨hj, h2, v1, v2, v3⟩
theorem prm_inj {i j : Nat} (hi : i < 24) (hj : j < 24) (h : prm i = prm j) : i = j := by
  unfold prm at h
  split at h <;> split at h <;> (try split at h) <;> (try split at h) <;> omega
theorem prm_lt {i : Nat} (hi : i < 24) : prm i < 24 := (cmw_eq i hi).1
theorem m_isW {T : Nat → Int32} {n q i : Nat} {M : Mm} (hq : q ≤ n) (hb : Tb T n) (x : MT T n q M) (hi : i < 24) : sX12_isWord (nI (prm i)) M = some (b2 (wdR T n q i 1), M) := by
  obtain ⟨-, -, -, -, e1, e2⟩ := x
  have hp := prm_lt hi
  unfold sX12_isWord wdR
  rw [e1]
  cases hw : wdx T n q with
  | none =>
    rw [if_neg (fun q => by obtain ⟨i, z⟩ := (mK_2 hq hb).mp q; rw [hw] at z; cases z)]
    rfl
  | some j =>
    obtain ⟨h1, h2, h3, h4, h5⟩ := wdx_r hq hw
    have hpj := prm_lt h1
    dsimp only
    rw [h4, if_pos rfl, e2 (by omega), h5]
    by_cases c : j = i
    · subst c
      rw [if_pos rfl, decide_eq_true (Nat.le_refl j), decide_eq_true (by omega)]; rfl
    · rw [if_neg (ne_nI (fun z => c (prm_inj h1 hi z)) (by omega) (by omega))]
      by_cases c2 : i ≤ j
      · rw [decide_eq_true c2, decide_eq_false (by omega)]; rfl
      · rw [decide_eq_false c2]; rfl
theorem x_isSg {T : Nat → Int32} {n q c : Nat} {M : Mm} (x : XT T n q M) : sX10_isSign (nI c) M = some (b2 (sgB T n q c), M) := by
  obtain ⟨-, -, -, e4, e6, -⟩ := x
  have h4 := tS_lt T n q
  unfold sX10_isSign sgB
  rw [e4]
  by_cases h : tS T n q = 3
  · rw [h, if_pos (show nI 3 = 3 from rfl), e6 (by omega), decide_eq_true rfl, Bool.true_and]
    by_cases c1 : xV T n q = nI c
    · rw [if_pos c1, decide_eq_true c1]; rfl
    · rw [if_neg c1, decide_eq_false c1]; rfl
  · rw [if_neg (show ¬ nI (tS T n q) = 3 from ne_nI (b := 3) h (by omega) (by omega)), decide_eq_false h]; rfl
theorem m_isSg {T : Nat → Int32} {n q c : Nat} {M : Mm} (hq : q ≤ n) (hb : Tb T n) (x : MT T n q M) (hc : c = 45 ∨ c = 59 ∨ c = 58 ∨ c = 40 ∨ c = 41) : sX12_isSign (nI c) M = some (b2 (sgB T n q c), M) := by
  obtain ⟨-, -, -, -, e1, e2⟩ := x
  have h4 := tS_lt T n q
  unfold sX12_isSign sgB
  rw [e1]
  by_cases h : tS T n q = 3
  · rw [e2 (by omega), h, decide_eq_true rfl, Bool.true_and]
    rcases tS_3 hb h with ⟨k, v, -⟩ | ⟨k, v⟩
    · rw [k, if_neg (by decide), decide_eq_false (fun z => v (by
        rw [z]
        rcases hc with q | q | q | q | q <;> subst q
        · exact Or.inl rfl
        · exact Or.inr (Or.inl rfl)
        · exact Or.inr (Or.inr (Or.inl rfl))
        · exact Or.inr (Or.inr (Or.inr (Or.inl rfl)))
        · exact Or.inr (Or.inr (Or.inr (Or.inr rfl)))))]
      rfl
    · rw [k, if_pos rfl]
      rcases v with ⟨v1, v2⟩ | ⟨v1, v2⟩ | ⟨v1, v2⟩ | ⟨v1, v2⟩ | ⟨v1, v2⟩ | ⟨v1, v2⟩
      · rw [v1, v2, if_neg (show ¬ (1 : Int32) = nI c from fun z => ne_nI (a := 1) (b := c) (by omega) (by omega) (by omega) z), decide_eq_false (show ¬ (60 : Int32) = nI c from fun z => ne_nI (a := 60) (b := c) (by omega) (by omega) (by omega) z)]; rfl
      · rw [v1, v2, if_neg (show ¬ (2 : Int32) = nI c from fun z => ne_nI (a := 2) (b := c) (by omega) (by omega) (by omega) z), decide_eq_false (show ¬ (316 : Int32) = nI c from fun z => ne_nI (a := 316) (b := c) (by omega) (by omega) (by omega) z)]; rfl
      · rw [v1, v2, if_neg (show ¬ (3 : Int32) = nI c from fun z => ne_nI (a := 3) (b := c) (by omega) (by omega) (by omega) z), decide_eq_false (show ¬ (61 : Int32) = nI c from fun z => ne_nI (a := 61) (b := c) (by omega) (by omega) (by omega) z)]; rfl
      · rw [v1, v2, if_neg (show ¬ (4 : Int32) = nI c from fun z => ne_nI (a := 4) (b := c) (by omega) (by omega) (by omega) z), decide_eq_false (show ¬ (318 : Int32) = nI c from fun z => ne_nI (a := 318) (b := c) (by omega) (by omega) (by omega) z)]; rfl
      · rw [v1, v2, if_neg (show ¬ (5 : Int32) = nI c from fun z => ne_nI (a := 5) (b := c) (by omega) (by omega) (by omega) z), decide_eq_false (show ¬ (62 : Int32) = nI c from fun z => ne_nI (a := 62) (b := c) (by omega) (by omega) (by omega) z)]; rfl
      · rw [v1]
        by_cases c1 : xV T n q = nI c
        · rw [if_pos c1, decide_eq_true c1]; rfl
        · rw [if_neg c1, decide_eq_false c1]; rfl
  · rw [decide_eq_false h]
    have hk : ¬ mK T n q = 4 := by
      by_cases h0 : tS T n q = 0
      · rw [tS_0 h0]; decide
      by_cases h1 : tS T n q = 1
      · rw [(tS_1 hq h1).2.1]; decide
      rcases tS_2 hq (show tS T n q = 2 by omega) with ⟨-, v, w⟩ | ⟨-, v, w, -⟩ | ⟨i, hi, -, v, -, w⟩ <;> (rw [v]; decide)
    rw [if_neg hk]; rfl
