def wmc (j : Nat) : Int32 := wml.getD j 0
def ofw (k : Nat) : Nat := ofl.getD k 0
def lnw (k : Nat) : Nat := lnl.getD k 0
theorem w_fact : ∀ k, k < 24 → ofw (k + 1) = ofw k + lnw k + 1 ∧ lnw k ≤ 8 ∧ 1 ≤ lnw k ∧ ofw k + lnw k < 121 ∧ wmc (ofw k + lnw k) = 32 ∧ mwE k = enc wmc (ofw k) (lnw k) := by decide
theorem w_let : ∀ k, k < 24 → ∀ j, j < 8 → j < lnw k → isL (wmc (ofw k + j)) = true := by decide
theorem enc_pos {T : Nat → Int32} {a d : Nat} (h : isL (T (a + d)) = true) : 1 ≤ enc T a (d + 1) := by
  obtain ⟨k, k1, k2, k3⟩ := isL_ex h
  rw [enc, k3, nI_clamp (by omega)]
  omega
theorem enc_inj {T W : Nat → Int32} {a o : Nat} : ∀ d d', (∀ j, j < d → isL (T (a + j)) = true) → (∀ j, j < d' → isL (W (o + j)) = true) → enc T a d = enc W o d' → d = d' ∧ ∀ j, j < d → T (a + j) = W (o + j) := by
  intro d
  induction d with
  | zero =>
    intro d' h1 h2 e
    cases d' with
    | zero => exact ⟨rfl, fun j hj => by omega⟩
    | succ d' =>
      have := enc_pos (T := W) (a := o) (d := d') (h2 d' (by omega))
      rw [← e, enc] at this
      omega
  | succ d ih =>
    intro d' h1 h2 e
    cases d' with
    | zero =>
      have := enc_pos (T := T) (a := a) (d := d) (h1 d (by omega))
      rw [e, enc] at this
      omega
    | succ d' =>
      obtain ⟨k, k1, k2, k3⟩ := isL_ex (h1 d (by omega))
      obtain ⟨l, l1, l2, l3⟩ := isL_ex (h2 d' (by omega))
      rw [enc, enc, k3, l3, nI_clamp (by omega), nI_clamp (by omega)] at e
      have hkl : k = l := by omega
      obtain ⟨i1, i2⟩ := ih d' (fun j hj => h1 j (by omega)) (fun j hj => h2 j (by omega)) (by omega)
      refine ⟨by omega, fun j hj => ?_⟩
      by_cases u : j = d
      · rw [u, k3, i1, l3, hkl]
      · exact i2 j (by omega)
theorem enc_cg {T W : Nat → Int32} {a o : Nat} : ∀ d, (∀ j, j < d → T (a + j) = W (o + j)) → enc T a d = enc W o d := by
  intro d
  induction d with
  | zero => intro _; rfl
  | succ d ih => intro h; rw [enc, enc, ih (fun j hj => h j (by omega)), h d (by omega)]
def afw (T : Nat → Int32) (a o : Nat) : Nat → Nat → Bool
  | 0, _ => true
  | d + 1, i => decide (wmc (o + i) = T (a + i)) && afw T a o d (i + 1)
theorem afw_iff {T : Nat → Int32} {a o : Nat} : ∀ d i, afw T a o d i = true ↔ ∀ j, i ≤ j → j < i + d → wmc (o + j) = T (a + j) := by
  intro d
  induction d with
  | zero => intro i; exact ⟨fun _ j h1 h2 => by omega, fun _ => rfl⟩
  | succ d ih =>
    intro i
    rw [afw, Bool.and_eq_true, ih, decide_eq_true_eq]
    constructor
    · intro h j h1 h2
      by_cases e : j = i
      · rw [e]; exact h.1
      · exact h.2 j (by omega) (by omega)
    · intro h
      exact ⟨h i (Nat.le_refl i) (by omega), fun j h1 h2 => h j (by omega) (by omega)⟩
def iWm (M : Mm) : Prop := ∀ j, j < 121 → M.1 201 j = wmc j
theorem m_57 {T : Nat → Int32} {n a b k : Nat} {M : Mm} {k5 : Int32 → Int32 → Int32 → Int32 → Mm → Option (Int32 × Mm)} (hk : k < 24) (hT : Tp 195 T n M) (hw : iWm M) (hb : b ≤ n) (hab : a ≤ b) : ∀ (d i F : Nat) (fl : Bool), i + d = lnw k → d < F → (fl = true → lnw k = b - a) → sX12_wordAt_57 k5 F (nI a) (nI b) (nI k) (nI (ofw k)) (nI (lnw k)) (b2 fl) (nI i) M = sX12_wordAt_104 k5 (nI a) (nI b) (nI k) (nI (ofw k)) (nI (lnw k)) (b2 (fl && afw T a (ofw k) d i)) M := by
  obtain ⟨-, f2, f3, f4, -, -⟩ := w_fact k hk
  have h8 := hT.1
  intro d
  induction d with
  | zero =>
    intro i F fl hi hF hfl
    obtain ⟨F, rfl⟩ : ∃ G, F = G + 1 := ⟨F - 1, by omega⟩
    rw [sX12_wordAt_57, if_pos (nI_le (by omega) (by omega)), afw, Bool.and_true]
  | succ d ih =>
    intro i F fl hi hF hfl
    obtain ⟨F, rfl⟩ : ∃ G, F = G + 1 := ⟨F - 1, by omega⟩
    rw [sX12_wordAt_57, if_neg (nle_nI (by omega) (by omega))]
    cases fl with
    | false => rw [if_pos b2f]; rfl
    | true =>
      have hl := hfl rfl
      rw [if_neg b2t0, nI_add, ckT (inb_nI (by omega) (by decide)), nI_add, ckT (inb_nI (by omega) (by decide)), nI_clamp (by omega), nI_clamp (by omega), hw _ (by omega), hT.2 _ (by omega)]
      unfold sX12_wordAt_96
      rw [nI_1, afw]
      have ef : (if wmc (ofw k + i) = T (a + i) then (1 : Int32) else 0) = b2 (decide (wmc (ofw k + i) = T (a + i))) := by
        by_cases c : wmc (ofw k + i) = T (a + i)
        · rw [if_pos c, decide_eq_true c]; rfl
        · rw [if_neg c, decide_eq_false c]; rfl
      rw [ef, ih (i + 1) F _ (by omega) (by omega) (fun _ => hl), Bool.true_and]
theorem m_18 {T : Nat → Int32} {n a b k : Nat} {M : Mm} {k5 : Int32 → Int32 → Int32 → Int32 → Mm → Option (Int32 × Mm)} (hk : k < 24) (hT : Tp 195 T n M) (hw : iWm M) (hb : b ≤ n) (hab : a ≤ b) : ∀ (d i F : Nat), i + d = lnw k → d < F → sX12_wordAt_18 k5 F (nI a) (nI b) (nI k) (nI (ofw k)) (nI i) M = sX12_wordAt_104 k5 (nI a) (nI b) (nI k) (nI (ofw k)) (nI (lnw k)) (b2 (decide (lnw k = b - a) && afw T a (ofw k) (lnw k) 0)) M := by
  obtain ⟨-, f2, f3, f4, f5, -⟩ := w_fact k hk
  have h8 := hT.1
  intro d
  induction d with
  | zero =>
    intro i F hi hF
    obtain ⟨F, rfl⟩ : ∃ G, F = G + 1 := ⟨F - 1, by omega⟩
    have : i = lnw k := by omega
    subst this
    rw [sX12_wordAt_18, nI_add, ckT (inb_nI (by omega) (by decide)), nI_clamp (by omega), hw _ (by omega), f5, if_pos rfl, nI_sb hab]
    unfold sX12_wordAt_52
    have ef : (if nI (lnw k) = nI (b - a) then (1 : Int32) else 0) = b2 (decide (lnw k = b - a)) := by
      by_cases c : lnw k = b - a
      · rw [if_pos (by rw [c]), decide_eq_true c]; rfl
      · rw [if_neg (ne_nI c (by omega) (by omega)), decide_eq_false c]; rfl
    rw [ef]
    exact m_57 hk hT hw hb hab (lnw k) 0 4096 _ (by omega) (by omega) (fun q => by simpa using q)
  | succ d ih =>
    intro i F hi hF
    obtain ⟨F, rfl⟩ : ∃ G, F = G + 1 := ⟨F - 1, by omega⟩
    have hl := w_let k hk i (by omega) (by omega)
    obtain ⟨c, c1, c2, c3⟩ := isL_ex hl
    rw [sX12_wordAt_18, nI_add, ckT (inb_nI (by omega) (by decide)), nI_clamp (by omega), hw _ (by omega), c3, if_neg (show ¬ nI c = 32 from ne_nI (b := 32) (by omega) (by omega) (by omega)), nI_1]
    exact ih (i + 1) F (by omega) (by omega)
theorem m_wat {T : Nat → Int32} {n a b : Nat} {M : Mm} (hT : Tp 195 T n M) (hw : iWm M) (hb : b ≤ n) (hab : a ≤ b) (hl : ∀ j, j < b - a → isL (T (a + j)) = true) : sX12_wordAt (nI a) (nI b) M = some (mwn (enc T a (b - a)), M) := by
  have mt : ∀ k, k < 24 → (decide (lnw k = b - a) && afw T a (ofw k) (lnw k) 0) = decide (mwE k = enc T a (b - a)) := by
    intro k hk
    obtain ⟨-, f2, f3, f4, f5, f6⟩ := w_fact k hk
    rw [f6]
    by_cases c : enc wmc (ofw k) (lnw k) = enc T a (b - a)
    · rw [decide_eq_true c]
      obtain ⟨i1, i2⟩ := enc_inj (lnw k) (b - a) (fun j hj => w_let k hk j (by omega) hj) hl c
      rw [decide_eq_true i1, Bool.true_and, afw_iff]
      exact fun j _ h2 => i2 j (by omega)
    · rw [decide_eq_false c]
      by_cases c1 : lnw k = b - a
      · rw [decide_eq_true c1, Bool.true_and]
        cases hh : afw T a (ofw k) (lnw k) 0 with
        | false => rfl
        | true =>
          rw [afw_iff] at hh
          exact absurd (by rw [← c1]; exact enc_cg (lnw k) (fun j hj => hh j (Nat.zero_le j) (by omega))) c
      · rw [decide_eq_false c1]; rfl
  have go : ∀ (f k F : Nat), k + f = 24 → f < F → sX12_wordAt_5 F (nI a) (nI b) (nI k) (nI (ofw k)) M = some (fxw (fun i => decide (mwE i = enc T a (b - a))) f k, M) := by
    intro f
    induction f with
    | zero =>
      intro k F hk hF
      obtain ⟨F, rfl⟩ : ∃ G, F = G + 1 := ⟨F - 1, by omega⟩
      have : k = 24 := by omega
      subst this
      rw [sX12_wordAt_5, if_pos (by decide)]
      rfl
    | succ f ih =>
      intro k F hk hF
      obtain ⟨F, rfl⟩ : ∃ G, F = G + 1 := ⟨F - 1, by omega⟩
      obtain ⟨f1, f2, f3, f4, -, -⟩ := w_fact k (by omega)
      rw [sX12_wordAt_5, if_neg (lit_nle (v := 121) (n := 121) rfl (by omega) (by decide))]
      refine Eq.trans (m_18 (k5 := sX12_wordAt_5 F) (by omega) hT hw hb hab (lnw k) 0 4096 (by omega) (by omega)) ?_
      rw [mt k (by omega), fxw]
      unfold sX12_wordAt_104
      by_cases c : mwE k = enc T a (b - a)
      · rw [decide_eq_true c, if_neg b2t0, if_pos rfl]
      · rw [decide_eq_false c, if_pos b2f, if_neg ff_, nI_1, nI_1, nI_add, show ofw k + (lnw k + 1) = ofw (k + 1) by omega]
        exact ih (k + 1) F (by omega) (by omega)
  exact go 24 0 4096 (by omega) (by omega)
theorem m_isS {T : Nat → Int32} {n p : Nat} {M : Mm} (hT : Tp 195 T n M) (hp : p ≤ n) (e : M.1 194 19 = nI n) : sX12_isSmall (nI p) M = some (b2 (decide (p < n) && isL (T p)), M) := by
  have h8 := hT.1
  unfold sX12_isSmall
  rw [e]
  by_cases c : p < n
  · rw [if_neg (nle_nI c (by omega)), ckT (inb_nI (by omega) (by decide)), nI_clamp (by omega), hT.2 p c, decide_eq_true c, Bool.true_and]
    unfold isL
    by_cases c1 : T p < 97
    · rw [if_pos c1]; simp [c1, b2]
    · rw [if_neg c1, ckT (inb_nI (by omega) (by decide))]
      by_cases c2 : 122 < T p
      · rw [if_pos c2]; simp [c2, b2]
      · rw [if_neg c2]; simp [c1, c2, b2]
  · rw [if_pos (nI_le (by omega) (by omega)), decide_eq_false c]; rfl
theorem m_isDg {T : Nat → Int32} {n p : Nat} {M : Mm} (hT : Tp 195 T n M) (hp : p ≤ n) (e : M.1 194 19 = nI n) : sX12_isDigit (nI p) M = some (b2 (decide (p < n) && isD (T p)), M) := by
  have h8 := hT.1
  unfold sX12_isDigit
  rw [e]
  by_cases c : p < n
  · rw [if_neg (nle_nI c (by omega)), ckT (inb_nI (by omega) (by decide)), nI_clamp (by omega), hT.2 p c, decide_eq_true c, Bool.true_and]
    unfold isD
    by_cases c1 : T p < 48
    · rw [if_pos c1]; simp [c1, b2]
    · rw [if_neg c1, ckT (inb_nI (by omega) (by decide))]
      by_cases c2 : 57 < T p
      · rw [if_pos c2]; simp [c2, b2]
      · rw [if_neg c2]; simp [c1, c2, b2]
  · rw [if_pos (nI_le (by omega) (by omega)), decide_eq_false c]; rfl
theorem m_blank {T : Nat → Int32} {n : Nat} : ∀ (d q F : Nat) (M : Mm), n - q = d → q ≤ n → d < F → Tp 195 T n M → M.1 194 19 = nI n → M.1 194 20 = nI q → ∃ M', sX12_take_0 F M = sX12_take_52 M' ∧ Fr (fun id k => id = 194 ∧ k = 20) M M' ∧ M'.1 194 20 = nI (rnE isB T n q) := by
  intro d
  induction d with
  | zero =>
    intro q F M hd hq hF hT e2 e3
    obtain ⟨F, rfl⟩ : ∃ G, F = G + 1 := ⟨F - 1, by omega⟩
    have h8 := hT.1
    refine ⟨M, ?_, Fr_rf _ _, by rw [rnE_n (by omega)]; exact e3⟩
    rw [sX12_take_0, e2, e3, if_pos (nI_le (by omega) (by omega))]
  | succ d ih =>
    intro q F M hd hq hF hT e2 e3
    obtain ⟨F, rfl⟩ : ∃ G, F = G + 1 := ⟨F - 1, by omega⟩
    have h8 := hT.1
    have ib := inb_nI (show q < 800 by omega) (by decide)
    have eT := hT.2 q (by omega)
    rw [sX12_take_0, e2, e3, if_neg (nle_nI (by omega) (by omega)), ckT ib, nI_clamp (by omega), eT, ckT ib]
    have go : isB (T q) = true → ∃ M', sX12_take_39 (sX12_take_0 F) M = sX12_take_52 M' ∧ Fr (fun id k => id = 194 ∧ k = 20) M M' ∧ M'.1 194 20 = nI (rnE isB T n q) := by
      intro z
      unfold sX12_take_39
      rw [e3, nI_1]
      obtain ⟨M', m1, m2, m3⟩ := ih (q + 1) F (sI M 194 20 (nI (q + 1))) (by omega) (by omega) (by omega) ⟨h8, fun k hk => by rw [rdN (by omega)]; exact hT.2 k hk⟩ (by rw [rdN (by omega)]; exact e2) (rdS _ _ _ _)
      exact ⟨M', m1, Fr_tr (Fr_sI (Fr_rf _ _) ⟨rfl, rfl⟩) m2, by rw [rnE_y (by omega) z]; exact m3⟩
    by_cases c2 : T q = 10
    · rw [if_pos c2]; exact go (by unfold isB; simp [c2])
    · rw [if_neg c2]
      by_cases c1 : T q = 32
      · rw [if_pos c1]; exact go (by unfold isB; simp [c1])
      · rw [if_neg c1]
        exact ⟨M, rfl, Fr_rf _ _, by rw [rnE_n (fun p => by have := p.2; unfold isB at this; simp [c1, c2] at this)]; exact e3⟩
theorem m_num {T : Nat → Int32} {n a : Nat} : ∀ (z d F : Nat) (M : Mm), n - (a + d) = z → a + d ≤ n → z < F → (∀ j, j < d → isD (T (a + j)) = true) → Tp 195 T n M → M.1 194 19 = nI n → M.1 194 20 = nI (a + d) → M.1 194 22 = nI (mN T a d) → ∃ M', sX12_take_188 F M = sX12_take_324 M' ∧ Fr (fun id k => id = 194 ∧ (k = 20 ∨ k = 22)) M M' ∧ M'.1 194 20 = nI (rnE isD T n (a + d)) ∧ M'.1 194 22 = nI (mN T a (rnE isD T n (a + d) - a)) := by
  have stop : ∀ {d F : Nat} {M : Mm}, a + d ≤ n → Tp 195 T n M → M.1 194 19 = nI n → M.1 194 20 = nI (a + d) → M.1 194 22 = nI (mN T a d) → (decide (a + d < n) && isD (T (a + d))) = false → ∃ M', sX12_take_188 (F + 1) M = sX12_take_324 M' ∧ Fr (fun id k => id = 194 ∧ (k = 20 ∨ k = 22)) M M' ∧ M'.1 194 20 = nI (rnE isD T n (a + d)) ∧ M'.1 194 22 = nI (mN T a (rnE isD T n (a + d) - a)) := fun {d F M} hq hT e2 e3 e6 c => by
    have hn : ¬ (a + d < n ∧ isD (T (a + d)) = true) := fun p => by
      rw [decide_eq_true p.1, p.2] at c
      exact absurd c (by decide)
    refine ⟨M, ?_, Fr_rf _ _, by rw [rnE_n hn]; exact e3, by rw [rnE_n hn, Nat.add_sub_cancel_left]; exact e6⟩
    rw [sX12_take_188, e3, m_isDg hT hq e2, Option.bind_some, c]
    dsimp only
    rw [if_pos b2f]
  intro z
  induction z with
  | zero =>
    intro d F M hd hq hF hD hT e2 e3 e6
    obtain ⟨F, rfl⟩ : ∃ G, F = G + 1 := ⟨F - 1, by omega⟩
    exact stop hq hT e2 e3 e6 (by rw [decide_eq_false (by omega)]; rfl)
  | succ z ih =>
    intro d F M hd hq hF hD hT e2 e3 e6
    obtain ⟨F, rfl⟩ : ∃ G, F = G + 1 := ⟨F - 1, by omega⟩
    have h8 := hT.1
    by_cases c : isD (T (a + d)) = true
    · obtain ⟨k, k1, k2, k3⟩ := isD_ex c
      have hm := mN_le (T := T) (a := a) d hD
      have hD' : ∀ j, j < d + 1 → isD (T (a + j)) = true := fun j hj => by
        by_cases u : j = d
        · rw [u]; exact c
        · exact hD j (by omega)
      rw [sX12_take_188, e3, m_isDg hT hq e2, Option.bind_some, decide_eq_true (show a + d < n by omega), c]
      dsimp only
      rw [if_neg (show ¬ b2 (true && true) = 0 by decide), e6, rnE_y (by omega) c]
      unfold sX12_take_237
      have ib := inb_nI (show a + d < 800 by omega) (by decide)
      have fin : ∀ v, v = nI (mN T a (d + 1)) → ∃ M', sX12_take_188 F (sI (sI M 194 22 v) 194 20 ((sI M 194 22 v).1 194 20 + 1)) = sX12_take_324 M' ∧ Fr (fun id k => id = 194 ∧ (k = 20 ∨ k = 22)) M M' ∧ M'.1 194 20 = nI (rnE isD T n (a + d + 1)) ∧ M'.1 194 22 = nI (mN T a (rnE isD T n (a + d + 1) - a)) := fun v hv => by
        rw [rdN (by omega), e3, nI_1, hv]
        obtain ⟨M', m1, m2, m3, m4⟩ := ih (d + 1) F (sI (sI M 194 22 (nI (mN T a (d + 1)))) 194 20 (nI (a + d + 1))) (by omega) (by omega) (by omega) hD' ⟨h8, fun k hk => by rw [rdN (by omega), rdN (by omega)]; exact hT.2 k hk⟩ (by rw [rdN (by omega), rdN (by omega)]; exact e2) (rdS _ _ _ _) (by rw [rdN (by omega), rdS])
        exact ⟨M', m1, Fr_tr (Fr_sI (Fr_sI (Fr_rf _ _) (by omega)) (by omega)) m2, m3, m4⟩
      by_cases u : mN T a d ≤ 9999
      · rw [if_pos (show nI (mN T a d) ≤ 9999 from nI_le (b := 9999) u (by omega)), e3, ckT ib, nI_clamp (by omega), hT.2 _ (by omega), k3]
        refine fin _ ?_
        rw [show (10 : Int32) = nI 10 from rfl, show (48 : Int32) = nI 48 from rfl, nI_mul, nI_add, nI_sb (by omega), mN, if_neg (by omega), k3, nI_clamp (by omega)]
        congr 1
        omega
      · rw [if_neg (show ¬ nI (mN T a d) ≤ 9999 from nle_nI (b := 9999) (by omega) (by omega))]
        exact fin _ (by rw [mN, if_pos (by omega)])
    · have c' : isD (T (a + d)) = false := by cases hh : isD (T (a + d)) <;> simp_all
      exact stop hq hT e2 e3 e6 (by rw [c', Bool.and_false])
theorem m_let {T : Nat → Int32} {n : Nat} : ∀ (z p F : Nat) (M : Mm), n - p = z → p ≤ n → z < F → Tp 195 T n M → M.1 194 19 = nI n → M.1 194 20 = nI p → ∃ M', sX12_take_90 F M = ((sX12_wordAt (M'.1 194 23) (M'.1 194 20) M').bind fun (q124 : Int32 × Mm) => sX12_take_161 (if ((sI q124.2 194 22 q124.1).1 194 22) < 0 then (if (((sI q124.2 194 22 q124.1).1 194 20) - ((sI q124.2 194 22 q124.1).1 194 23)) ≤ 8 then 2 else 5) else 1) (sI q124.2 194 22 q124.1)) ∧ Fr (fun id k => id = 194 ∧ k = 20) M M' ∧ M'.1 194 20 = nI (rnE isL T n p) := by
  have stop : ∀ {p F : Nat} {M : Mm}, p ≤ n → Tp 195 T n M → M.1 194 19 = nI n → M.1 194 20 = nI p → (decide (p < n) && isL (T p)) = false → ∃ M', sX12_take_90 (F + 1) M = ((sX12_wordAt (M'.1 194 23) (M'.1 194 20) M').bind fun (q124 : Int32 × Mm) => sX12_take_161 (if ((sI q124.2 194 22 q124.1).1 194 22) < 0 then (if (((sI q124.2 194 22 q124.1).1 194 20) - ((sI q124.2 194 22 q124.1).1 194 23)) ≤ 8 then 2 else 5) else 1) (sI q124.2 194 22 q124.1)) ∧ Fr (fun id k => id = 194 ∧ k = 20) M M' ∧ M'.1 194 20 = nI (rnE isL T n p) := fun {p F M} hp hT e2 e3 c => by
    have hn : ¬ (p < n ∧ isL (T p) = true) := fun q => by
      rw [decide_eq_true q.1, q.2] at c
      exact absurd c (by decide)
    refine ⟨M, ?_, Fr_rf _ _, by rw [rnE_n hn]; exact e3⟩
    have hs := m_isS hT hp e2
    rw [c] at hs
    rw [sX12_take_90, e3, hs, Option.bind_some]
    dsimp only
    rw [if_pos b2f, e3]
  intro z
  induction z with
  | zero =>
    intro p F M hd hp hF hT e2 e3
    obtain ⟨F, rfl⟩ : ∃ G, F = G + 1 := ⟨F - 1, by omega⟩
    exact stop hp hT e2 e3 (by rw [decide_eq_false (by omega)]; rfl)
  | succ z ih =>
    intro p F M hd hp hF hT e2 e3
    obtain ⟨F, rfl⟩ : ∃ G, F = G + 1 := ⟨F - 1, by omega⟩
    have h8 := hT.1
    by_cases c : isL (T p) = true
    · have hs := m_isS hT hp e2
      rw [decide_eq_true (show p < n by omega), c] at hs
      rw [sX12_take_90, e3, hs, Option.bind_some]
      dsimp only
      rw [if_neg (by decide), e3, nI_1, rnE_y (by omega) c]
      obtain ⟨M', m1, m2, m3⟩ := ih (p + 1) F (sI M 194 20 (nI (p + 1))) (by omega) (by omega) (by omega) ⟨h8, fun k hk => by rw [rdN (by omega)]; exact hT.2 k hk⟩ (by rw [rdN (by omega)]; exact e2) (rdS _ _ _ _)
      exact ⟨M', m1, Fr_tr (Fr_sI (Fr_rf _ _) ⟨rfl, rfl⟩) m2, m3⟩
    · have c' : isL (T p) = false := by cases hh : isL (T p) <;> simp_all
      exact stop hp hT e2 e3 (by rw [c', Bool.and_false])
