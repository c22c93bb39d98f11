/-- a name: a new word -/
def nwB (T : Nat → Int32) (n q : Nat) : Bool := decide (tS T n q = 2) && decide (xV T n q = -1)
def lnT (T : Nat → Int32) (n q : Nat) : Nat := tE T n q - tA T n q
def nmO (T : Nat → Int32) (n a : Nat) : Prop := a ≤ n ∧ tS T n a = 2 ∧ lnT T n a ≤ 8
theorem nw_o {T : Nat → Int32} {n q : Nat} (hq : q ≤ n) (h : nwB T n q = true) : nmO T n q ∧ mK T n q = 2 := by
  unfold nwB at h
  rw [Bool.and_eq_true, decide_eq_true_eq, decide_eq_true_eq] at h
  rcases tS_2 hq h.1 with ⟨v, -, -⟩ | ⟨-, k, -, l⟩ | ⟨i, hi, v, -, -, -⟩
  · rw [h.2] at v; exact absurd v (by decide)
  · exact ⟨⟨hq, h.1, l⟩, k⟩
  · rw [h.2] at v; exact absurd v.symm (nI_ne1 (by omega))
theorem nw_k {T : Nat → Int32} {n q : Nat} (hq : q ≤ n) (hb : Tb T n) : mK T n q = 2 ↔ nwB T n q = true := by
  refine ⟨fun h => ?_, fun h => (nw_o hq h).2⟩
  have h4 := tS_lt T n q
  by_cases h0 : tS T n q = 0
  · rw [tS_0 h0] at h; exact absurd h (by decide)
  by_cases h1 : tS T n q = 1
  · rw [(tS_1 hq h1).2.1] at h; exact absurd h (by decide)
  by_cases h2 : tS T n q = 2
  · rcases tS_2 hq h2 with ⟨-, k, -⟩ | ⟨v, -, -, -⟩ | ⟨i, hi, -, k, -, -⟩
    · rw [k] at h; exact absurd h (by decide)
    · unfold nwB; rw [decide_eq_true h2, decide_eq_true v]; rfl
    · rw [k] at h; exact absurd h (by decide)
  · rcases tS_3 hb (show tS T n q = 3 by omega) with ⟨k, -⟩ | ⟨k, -⟩ <;> (rw [k] at h; exact absurd h (by decide))
theorem nm_let {T : Nat → Int32} {n q : Nat} (hq : q ≤ n) (h : tS T n q = 2) : tA T n q ≤ tE T n q ∧ tE T n q ≤ n ∧ ∀ j, j < lnT T n q → isL (T (tA T n q + j)) = true := by
  have hE := tE_le (T := T) hq
  refine ⟨hE.2.1, hE.2.2.1, fun j hj => ?_⟩
  unfold tS at h
  unfold lnT at hj
  by_cases c : tA T n q < n
  · rw [if_pos c] at h
    by_cases c1 : isD (T (tA T n q)) = true
    · rw [if_pos c1] at h; omega
    · rw [if_neg c1] at h
      by_cases c2 : isL (T (tA T n q)) = true
      · have he : tE T n q = rnE isL T n (tA T n q) := by unfold tE; rw [if_pos c, if_neg c1, if_pos c2]
        obtain ⟨k1, k2, k3, k4⟩ := rnE_b (p := isL) (T := T) (n := n) (n - tA T n q) (tA T n q) rfl (by omega)
        rw [← he] at k1 k2 k3 k4
        exact k4 _ (by omega) (by omega)
      · rw [if_neg c2] at h; omega
  · rw [if_neg c] at h; omega
/-- the same name, as either side sees it -/
theorem nm_eq {T : Nat → Int32} {n a b : Nat} (ha : nmO T n a) (hb : nmO T n b) : xLt T n a = xLt T n b ↔ lnT T n a = lnT T n b ∧ ∀ i, i < lnT T n a → T (tA T n a + i) = T (tA T n b + i) := by
  obtain ⟨a1, a2, a3⟩ := ha
  obtain ⟨b1, b2, b3⟩ := hb
  obtain ⟨c1, c2, c3⟩ := nm_let a1 a2
  obtain ⟨d1, d2, d3⟩ := nm_let b1 b2
  have ea : min (tE T n a - tA T n a) 8 = lnT T n a := by unfold lnT at *; omega
  have eb : min (tE T n b - tA T n b) 8 = lnT T n b := by unfold lnT at *; omega
  unfold xLt
  rw [ea, eb]
  have la : enc T (tA T n a) (lnT T n a) < 2 ^ 63 := Nat.lt_of_lt_of_le (enc_lt _ c3) (Nat.le_trans (Nat.pow_le_pow_right (by omega) a3) (by decide))
  have lb : enc T (tA T n b) (lnT T n b) < 2 ^ 63 := Nat.lt_of_lt_of_le (enc_lt _ d3) (Nat.le_trans (Nat.pow_le_pow_right (by omega) b3) (by decide))
  rw [ofN_inj la lb]
  constructor
  · intro h; exact enc_inj _ _ c3 d3 h
  · intro h; rw [← h.1]; exact enc_cg _ h.2
def fnN (T : Nat → Int32) (n : Nat) (nm : Nat → Nat) (q : Nat) : Nat → Nat → Option Nat
  | 0, _ => none
  | f + 1, j => if xLt T n (nm j) = xLt T n q then some j else fnN T n nm q f (j + 1)
theorem fn_lt {T : Nat → Int32} {n q : Nat} {nm : Nat → Nat} : ∀ (f j i : Nat), fnN T n nm q f j = some i → i < j + f := by
  intro f
  induction f with
  | zero => intro j i h; cases h
  | succ f ih =>
    intro j i h
    rw [fnN] at h
    by_cases c : xLt T n (nm j) = xLt T n q
    · rw [if_pos c] at h; cases h; omega
    · rw [if_neg c] at h; have := ih _ _ h; omega
theorem x_nb {T : Nat → Int32} {n q r K : Nat} {nm : Nat → Nat} {M : Mm} (hK : K ≤ 8) (h9 : M.1 r 9 = nI K) (hn : ∀ j, j < K → M.2 (r + 6) j = xLt T n (nm j)) : ∀ (f j F : Nat), j + f = K → f < F → sX4_numberOf_2 r F (xLt T n q) (nI j) M = (match fnN T n nm q f j with
    | some i => some (nI i, M)
    | none => if K < 8 then some (nI K, sI (sL M (r + 6) K (xLt T n q)) r 9 (nI (K + 1))) else some (-1, M)) := by
  intro f
  induction f with
  | zero =>
    intro j F hj hF
    obtain ⟨F, rfl⟩ : ∃ F', F = F' + 1 := ⟨F - 1, by omega⟩
    have e : j = K := by omega
    subst e
    rw [sX4_numberOf_2, h9, if_pos (nI_le (Nat.le_refl _) (by omega)), fnN]
    dsimp only
    by_cases c : j < 8
    · rw [if_pos c, if_pos (show nI j < 8 from nI_lt (b := 8) c (by omega)), ckT (inb_nI c (by decide)), nI_clamp (by omega)]
      have r9 : (sL M (r + 6) j (xLt T n q)).1 r 9 = nI j := h9
      rw [r9, nI_1, rdS, nI_dn]
    · rw [if_neg c, if_neg (show ¬ nI j < 8 from nlt_nI (b := 8) (by omega) (by omega))]
  | succ f ih =>
    intro j F hj hF
    obtain ⟨F, rfl⟩ : ∃ F', F = F' + 1 := ⟨F - 1, by omega⟩
    rw [sX4_numberOf_2, h9, if_neg (nle_nI (by omega) (by omega)), ckT (inb_nI (show j < 8 by omega) (by decide)), nI_clamp (by omega), hn j (by omega), fnN]
    by_cases c : xLt T n (nm j) = xLt T n q
    · rw [if_pos c, if_pos (lg_eq.mpr c)]
    · rw [if_neg c, if_neg (fun z => c (lg_eq.mp z)), nI_1]
      exact ih (j + 1) F (by omega) (by omega)
/-- the model's names -/
def mNm (T : Nat → Int32) (n : Nat) (nm : Nat → Nat) (K : Nat) (M : Mm) : Prop := ∀ j, j < K → M.1 209 (8 + j) = nI (lnT T n (nm j)) ∧ ∀ i, i < lnT T n (nm j) → M.1 208 (64 + 8 * j + i) = T (tA T n (nm j) + i)
theorem m_39 {T : Nat → Int32} {n q j a : Nat} {k2 : Int32 → Mm → Option (Int32 × Mm)} {M : Mm} (x : Ms T n q M) (hj : j < 8) (ho : nmO T n q) (ha : nmO T n a) (h9 : M.1 209 (8 + j) = nI (lnT T n a)) (h8 : ∀ i, i < lnT T n a → M.1 208 (64 + 8 * j + i) = T (tA T n a + i)) (hl : lnT T n a = lnT T n q) : ∀ (d i F : Nat), i + d = lnT T n a → d + 1 < F → (∀ u, u < i → T (tA T n a + u) = T (tA T n q + u)) → sX12_kindAt_39 k2 F (nI j) 1 (nI i) M = if xLt T n a = xLt T n q then some (nI j, M) else k2 (nI (j + 1)) M := by
  have l8 := ha.2.2
  obtain ⟨c1, c2, c3⟩ := nm_let ho.1 ho.2.1
  have hT := x.2.1
  have hnT := hT.1
  have ib := inb_nI (show 8 + j < 16 by omega) (by decide)
  have cl : (nI (8 + j)).toNatClampNeg = 8 + j := nI_clamp (by omega)
  have e8 : (8 : Int32) = nI 8 := rfl
  intro d
  induction d with
  | zero =>
    intro i F hi hF hu
    obtain ⟨F, rfl⟩ : ∃ F', F = F' + 1 := ⟨F - 1, by omega⟩
    rw [sX12_kindAt_39, e8, nI_add, ckT ib, cl, h9, if_pos (nI_le (by omega) (by omega))]
    unfold sX12_kindAt_96
    rw [if_neg (show ¬ (1 : Int32) = 0 by decide), if_pos ((nm_eq ha ho).mpr ⟨hl, fun u hu' => hu u (by omega)⟩)]
  | succ d ih =>
    intro i F hi hF hu
    obtain ⟨F, rfl⟩ : ∃ F', F = F' + 1 := ⟨F - 1, by omega⟩
    have hlq : lnT T n q = tE T n q - tA T n q := rfl
    rw [sX12_kindAt_39, e8, nI_add, ckT ib, cl, h9, if_neg (nle_nI (by omega) (by omega)), if_neg (show ¬ (1 : Int32) = 0 by decide), nI_mul, show (64 : Int32) = nI 64 from rfl, nI_add, nI_add, ckT (inb_nI (show 64 + 8 * j + i < 128 by omega) (by decide)), x.1.2.2.1, nI_add, ckT (inb_nI (show tA T n q + i < 800 by omega) (by decide)), nI_clamp (show 64 + 8 * j + i < 2 ^ 31 by omega), nI_clamp (show tA T n q + i < 2 ^ 31 by omega), h8 i (by omega), hT.2 _ (show tA T n q + i < n by omega)]
    unfold sX12_kindAt_89
    rw [nI_1]
    by_cases c : T (tA T n a + i) = T (tA T n q + i)
    · rw [if_pos c]
      exact ih (i + 1) F (by omega) (by omega) (fun u hu' => by
        by_cases e : u = i
        · rw [e]; exact c
        · exact hu u (by omega))
    · rw [if_neg c, if_neg (fun z => c (((nm_eq ha ho).mp z).2 i (by omega)))]
      obtain ⟨F, rfl⟩ : ∃ F', F = F' + 1 := ⟨F - 1, by omega⟩
      rw [sX12_kindAt_39, e8, nI_add, ckT ib]
      unfold sX12_kindAt_96
      rw [if_pos rfl, nI_1]
      split
      · rfl
      · rw [if_pos rfl]
theorem m_142 {T : Nat → Int32} {n q K : Nat} (hK : K < 8) (ho : nmO T n q) : ∀ (d i F : Nat) (M : Mm), i + d = lnT T n q → d < F → Ms T n q M → M.1 194 36 = nI K → (∀ u, u < i → M.1 208 (64 + 8 * K + u) = T (tA T n q + u)) → ∃ M', sX12_kindAt_142 F (nI i) M = some (nI K, M') ∧ Fr (fun id k => id = 194 ∧ k = 36 ∨ id = 208 ∧ 64 + 8 * K ≤ k ∧ k < 64 + 8 * K + 8) M M' ∧ Ms T n q M' ∧ M'.1 194 36 = nI (K + 1) ∧ ∀ u, u < lnT T n q → M'.1 208 (64 + 8 * K + u) = T (tA T n q + u) := by
  have l8 := ho.2.2
  obtain ⟨c1, c2, c3⟩ := nm_let ho.1 ho.2.1
  have hlq : lnT T n q = tE T n q - tA T n q := rfl
  intro d
  induction d with
  | zero =>
    intro i F M hi hF x h36 hu
    obtain ⟨F, rfl⟩ : ∃ F', F = F' + 1 := ⟨F - 1, by omega⟩
    rw [sX12_kindAt_142, x.1.2.2.2.1, x.1.2.2.1, nI_sb c1, if_pos (nI_le (by omega) (by omega)), h36, nI_1, rdS, nI_dn]
    exact ⟨_, rfl, Fr_sI (Fr_rf _ _) (by omega), Ms_s1 x (by omega), rdS _ _ _ _, fun u hu' => by rw [rdN (by omega)]; exact hu u (by omega)⟩
  | succ d ih =>
    intro i F M hi hF x h36 hu
    obtain ⟨F, rfl⟩ : ∃ F', F = F' + 1 := ⟨F - 1, by omega⟩
    have hnT := x.2.1.1
    rw [sX12_kindAt_142, x.1.2.2.2.1, x.1.2.2.1, nI_sb c1, if_neg (nle_nI (by omega) (by omega)), h36, nI_add, ckT (inb_nI (show tA T n q + i < 800 by omega) (by decide)), show (8 : Int32) = nI 8 from rfl, nI_mul, show (64 : Int32) = nI 64 from rfl, nI_add, nI_add, ckT (inb_nI (show 64 + 8 * K + i < 128 by omega) (by decide)), nI_clamp (show 64 + 8 * K + i < 2 ^ 31 by omega), nI_clamp (show tA T n q + i < 2 ^ 31 by omega), x.2.1.2 _ (show tA T n q + i < n by omega), nI_1]
    obtain ⟨M', e1, f1, g1, g2, g3⟩ := ih (i + 1) F (sI M 208 (64 + 8 * K + i) (T (tA T n q + i))) (by omega) (by omega) (Ms_sI x (by omega)) (by rw [rdN (by omega)]; exact h36) (fun u hu' => by
      by_cases e : u = i
      · rw [e, rdS]
      · rw [rdN (by omega)]; exact hu u (by omega))
    exact ⟨M', e1, Fr_tr (Fr_sI (Fr_rf _ _) (by omega)) f1, g1, g2, g3⟩
def pKa (K id k : Nat) : Prop := id = 194 ∧ k = 36 ∨ id = 208 ∧ 64 + 8 * K ≤ k ∧ k < 64 + 8 * K + 8 ∨ id = 209 ∧ k = 8 + K
theorem m_ka {T : Nat → Int32} {n q K : Nat} {nm : Nat → Nat} {M : Mm} (x : Ms T n q M) (hK : K ≤ 8) (h36 : M.1 194 36 = nI K) (ho : nmO T n q) (hn : ∀ j, j < K → nmO T n (nm j)) (hm : mNm T n nm K M) : ∀ (f j F : Nat), j + f = K → f < F →
    (∃ i, fnN T n nm q f j = some i ∧ sX12_kindAt_2 F (nI j) M = some (nI i, M)) ∨
    (fnN T n nm q f j = none ∧ K = 8 ∧ sX12_kindAt_2 F (nI j) M = some (-1, M)) ∨
    (fnN T n nm q f j = none ∧ K < 8 ∧ ∃ M', sX12_kindAt_2 F (nI j) M = some (nI K, M') ∧ Fr (pKa K) M M' ∧ Ms T n q M' ∧ M'.1 194 36 = nI (K + 1) ∧ M'.1 209 (8 + K) = nI (lnT T n q) ∧ ∀ u, u < lnT T n q → M'.1 208 (64 + 8 * K + u) = T (tA T n q + u)) := by
  obtain ⟨c1, c2, c3⟩ := nm_let ho.1 ho.2.1
  have l8 := ho.2.2
  have hlq : lnT T n q = tE T n q - tA T n q := rfl
  have e8 : (8 : Int32) = nI 8 := rfl
  intro f
  induction f with
  | zero =>
    intro j F hj hF
    obtain ⟨F, rfl⟩ : ∃ F', F = F' + 1 := ⟨F - 1, by omega⟩
    have e : j = K := by omega
    subst e
    rw [sX12_kindAt_2, h36, if_pos (nI_le (Nat.le_refl _) (by omega)), fnN]
    by_cases c : j = 8
    · exact Or.inr (Or.inl ⟨rfl, c, by rw [if_pos (by rw [c]; rfl)]⟩)
    · have cc : j < 8 := by omega
      rw [if_neg (show ¬ nI j = 8 from ne_nI (b := 8) c (by omega) (by omega)), e8, nI_add, ckT (inb_nI (show 8 + j < 16 by omega) (by decide)), nI_clamp (show 8 + j < 2 ^ 31 by omega), x.1.2.2.2.1, x.1.2.2.1, nI_sb c1]
      obtain ⟨M', e1, f1, g1, g2, g3⟩ := m_142 cc ho (lnT T n q) 0 4096 (sI M 209 (8 + j) (nI (tE T n q - tA T n q))) (by omega) (by omega) (Ms_sI x (by omega)) (by rw [rdN (by omega)]; exact h36) (fun u hu => by omega)
      refine Or.inr (Or.inr ⟨rfl, cc, M', e1, Fr_tr (Fr_sI (Fr_rf _ _) (by unfold pKa; omega)) (Fr_mo f1 (fun id k p => by unfold pKa; omega)), g1, g2, ?_, g3⟩)
      rw [(f1 _ _ (by omega)).1, rdS]; rfl
  | succ f ih =>
    intro j F hj hF
    obtain ⟨F, rfl⟩ : ∃ F', F = F' + 1 := ⟨F - 1, by omega⟩
    obtain ⟨m1, m2⟩ := hm j (by omega)
    have hnj := hn j (by omega)
    have ib := inb_nI (show 8 + j < 16 by omega) (by decide)
    have cl : (nI (8 + j)).toNatClampNeg = 8 + j := nI_clamp (by omega)
    rw [sX12_kindAt_2, h36, if_neg (nle_nI (by omega) (by omega)), e8, nI_add, ckT ib, cl, m1, x.1.2.2.2.1, x.1.2.2.1, nI_sb c1, fnN]
    unfold sX12_kindAt_36
    by_cases c : lnT T n (nm j) = lnT T n q
    · rw [if_pos (show nI (lnT T n (nm j)) = nI (tE T n q - tA T n q) by rw [c]; rfl)]
      have e39 : sX12_kindAt_39 (sX12_kindAt_2 F) 4096 (nI j) 1 0 M = _ := m_39 (k2 := sX12_kindAt_2 F) x (show j < 8 by omega) ho hnj m1 m2 c (lnT T n (nm j)) 0 4096 (by omega) (by have := hnj.2.2; omega) (fun u hu => by omega)
      rw [e39]
      by_cases c' : xLt T n (nm j) = xLt T n q
      · rw [if_pos c', if_pos c']; exact Or.inl ⟨j, rfl, rfl⟩
      · rw [if_neg c', if_neg c']; exact ih (j + 1) F (by omega) (by omega)
    · have n8 := hnj.2.2
      rw [if_neg (show ¬ nI (lnT T n (nm j)) = nI (tE T n q - tA T n q) from ne_nI c (by omega) (by omega)), if_neg (fun z => c ((nm_eq hnj ho).mp z).1)]
      have e39 : sX12_kindAt_39 (sX12_kindAt_2 F) 4096 (nI j) 0 0 M = sX12_kindAt_2 F (nI (j + 1)) M := by
        rw [show (4096 : Nat) = 4095 + 1 from rfl, sX12_kindAt_39, e8, nI_add, ckT ib]
        unfold sX12_kindAt_96
        rw [if_pos rfl, nI_1, if_pos rfl]
        split <;> rfl
      rw [e39]
      exact ih (j + 1) F (by omega) (by omega)
