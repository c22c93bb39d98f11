def isB (c : Int32) : Bool := decide (c = 32) || decide (c = 10)
def isD (c : Int32) : Bool := decide (¬ c < 48) && decide (¬ 57 < c)
def isL (c : Int32) : Bool := decide (¬ c < 97) && decide (¬ 122 < c)
def rn (p : Int32 → Bool) (T : Nat → Int32) (n : Nat) : Nat → Nat → Nat
  | 0, q => q
  | f + 1, q => if q < n ∧ p (T q) = true then rn p T n f (q + 1) else q
/-- the first place from q on where p ends -/
def rnE (p : Int32 → Bool) (T : Nat → Int32) (n q : Nat) : Nat := rn p T n (n - q) q
theorem rnE_y {p : Int32 → Bool} {T : Nat → Int32} {n q : Nat} (h : q < n) (hp : p (T q) = true) : rnE p T n q = rnE p T n (q + 1) := by
  unfold rnE
  rw [show n - q = (n - (q + 1)) + 1 by omega, rn, if_pos ⟨h, hp⟩]
theorem rnE_n {p : Int32 → Bool} {T : Nat → Int32} {n q : Nat} (h : ¬ (q < n ∧ p (T q) = true)) : rnE p T n q = q := by
  unfold rnE
  cases hh : n - q with
  | zero => rw [rn]
  | succ k => rw [rn, if_neg h]
theorem rnE_b {p : Int32 → Bool} {T : Nat → Int32} {n : Nat} : ∀ (d q : Nat), n - q = d → q ≤ n → q ≤ rnE p T n q ∧ rnE p T n q ≤ n ∧ ¬ (rnE p T n q < n ∧ p (T (rnE p T n q)) = true) ∧ ∀ k, q ≤ k → k < rnE p T n q → p (T k) = true := by
  intro d
  induction d with
  | zero =>
    intro q hd hq
    rw [rnE_n (by omega)]
    exact ⟨Nat.le_refl _, hq, by omega, fun k h1 h2 => by omega⟩
  | succ d ih =>
    intro q hd hq
    by_cases z : p (T q) = true
    · rw [rnE_y (by omega) z]
      obtain ⟨h1, h2, h3, h4⟩ := ih (q + 1) (by omega) (by omega)
      exact ⟨by omega, h2, h3, fun k k1 k2 => by
        by_cases e : k = q
        · rw [e]; exact z
        · exact h4 k (by omega) k2⟩
    · rw [rnE_n (fun q => z q.2)]
      exact ⟨Nat.le_refl _, hq, fun q => z q.2, fun k h1 h2 => by omega⟩
/-- a number as the model reads it -/
def mN (T : Nat → Int32) (a : Nat) : Nat → Nat
  | 0 => 0
  | d + 1 => if 9999 < mN T a d then mN T a d else 10 * mN T a d + ((T (a + d)).toNatClampNeg - 48)
theorem isD_ex {c : Int32} (h : isD c = true) : ∃ k, 48 ≤ k ∧ k ≤ 57 ∧ c = nI k := by
  unfold isD at h
  simp only [Bool.and_eq_true, decide_eq_true_eq] at h
  obtain ⟨k, hk, ek⟩ := nI_ex (x := c) (n := 57) (fun q => h.1 (Int32.lt_trans q (show (0 : Int32) < 48 by decide))) (Int32.not_lt.mp h.2) (by decide)
  refine ⟨k, ?_, hk, ek⟩
  rcases Nat.lt_or_ge k 48 with q | q
  · exact absurd (by rw [ek]; exact nI_lt (b := 48) q (by decide)) h.1
  · exact q
theorem isL_ex {c : Int32} (h : isL c = true) : ∃ k, 97 ≤ k ∧ k ≤ 122 ∧ c = nI k := by
  unfold isL at h
  simp only [Bool.and_eq_true, decide_eq_true_eq] at h
  obtain ⟨k, hk, ek⟩ := nI_ex (x := c) (n := 122) (fun q => h.1 (Int32.lt_trans q (show (0 : Int32) < 97 by decide))) (Int32.not_lt.mp h.2) (by decide)
  refine ⟨k, ?_, hk, ek⟩
  rcases Nat.lt_or_ge k 97 with q | q
  · exact absurd (by rw [ek]; exact nI_lt (b := 97) q (by decide)) h.1
  · exact q
theorem mN_le {T : Nat → Int32} {a : Nat} : ∀ d, (∀ j, j < d → isD (T (a + j)) = true) → mN T a d ≤ 100000 := by
  intro d
  induction d with
  | zero => intro _; rw [mN]; omega
  | succ d ih =>
    intro h
    have h1 := ih (fun j hj => h j (by omega))
    obtain ⟨k, k1, k2, k3⟩ := isD_ex (h d (by omega))
    rw [mN, k3, nI_clamp (by omega)]
    split <;> omega
/-- letters, five bits each -/
def enc (T : Nat → Int32) (a : Nat) : Nat → Nat
  | 0 => 0
  | d + 1 => enc T a d * 32 + ((T (a + d)).toNatClampNeg - 96)
theorem enc_lt {T : Nat → Int32} {a : Nat} : ∀ d, (∀ j, j < d → isL (T (a + j)) = true) → enc T a d < 32 ^ d := by
  intro d
  induction d with
  | zero => intro _; rw [enc]; decide
  | succ d ih =>
    intro h
    have h1 := ih (fun j hj => h j (by omega))
    obtain ⟨k, k1, k2, k3⟩ := isL_ex (h d (by omega))
    rw [enc, k3, nI_clamp (by omega), Nat.pow_succ]
    omega
/-- where the scanner's text is -/
def Tp (id : Nat) (T : Nat → Int32) (n : Nat) (M : Mm) : Prop := n ≤ 800 ∧ ∀ k, k < n → M.1 id k = T k
theorem x_blank {T : Nat → Int32} {n : Nat} : ∀ (d q F : Nat) (M : Mm), n - q = d → q ≤ n → d < F → Tp 2 T n M → M.1 3 2 = nI n → M.1 3 3 = nI q → ∃ M', sX10_step_0 F M = sX10_step_52 M' ∧ Fr (fun id k => id = 3 ∧ k = 3) M M' ∧ M'.1 3 3 = nI (rnE isB T n q) := by
  intro d
  induction d with
  | zero =>
    intro q F M hd hq hF hT e2 e3
    obtain ⟨F, rfl⟩ : ∃ G, F = G + 1 := ⟨F - 1, by omega⟩
    have h8 := hT.1
    refine ⟨M, ?_, Fr_rf _ _, by rw [rnE_n (by omega)]; exact e3⟩
    rw [sX10_step_0, e2, e3, if_pos (nI_le (by omega) (by omega))]
  | succ d ih =>
    intro q F M hd hq hF hT e2 e3
    obtain ⟨F, rfl⟩ : ∃ G, F = G + 1 := ⟨F - 1, by omega⟩
    have h8 := hT.1
    have ib := inb_nI (show q < 800 by omega) (by decide)
    have eT := hT.2 q (by omega)
    rw [sX10_step_0, e2, e3, if_neg (nle_nI (by omega) (by omega)), ckT ib, nI_clamp (by omega), eT, ckT ib]
    have go : isB (T q) = true → ∃ M', sX10_step_39 (sX10_step_0 F) M = sX10_step_52 M' ∧ Fr (fun id k => id = 3 ∧ k = 3) M M' ∧ M'.1 3 3 = nI (rnE isB T n q) := by
      intro z
      unfold sX10_step_39
      rw [e3, nI_1]
      obtain ⟨M', m1, m2, m3⟩ := ih (q + 1) F (sI M 3 3 (nI (q + 1))) (by omega) (by omega) (by omega) ⟨h8, fun k hk => by rw [rdN (by omega)]; exact hT.2 k hk⟩ (by rw [rdN (by omega)]; exact e2) (rdS _ _ _ _)
      exact ⟨M', m1, Fr_tr (Fr_sI (Fr_rf _ _) ⟨rfl, rfl⟩) m2, by rw [rnE_y (by omega) z]; exact m3⟩
    by_cases c1 : T q = 32
    · rw [if_pos c1]; exact go (by unfold isB; simp [c1])
    · rw [if_neg c1]
      by_cases c2 : T q = 10
      · rw [if_pos c2]; exact go (by unfold isB; simp [c2])
      · rw [if_neg c2]
        exact ⟨M, rfl, Fr_rf _ _, by rw [rnE_n (fun p => by have := p.2; unfold isB at this; simp [c1, c2] at this)]; exact e3⟩
theorem x_isD {c : Int32} {M : Mm} : sX10_isDigit c M = some (b2 (isD c), M) := by
  unfold sX10_isDigit isD
  by_cases c1 : c < 48
  · rw [if_pos c1]; simp [c1, b2]
  · rw [if_neg c1]
    by_cases c2 : 57 < c
    · rw [if_pos c2]; simp [c2, b2]
    · rw [if_neg c2]; simp [c1, c2, b2]
theorem x_isL {c : Int32} {M : Mm} : sX10_isLetter c M = some (b2 (isL c), M) := by
  unfold sX10_isLetter isL
  by_cases c1 : c < 97
  · rw [if_pos c1]; simp [c1, b2]
  · rw [if_neg c1]
    by_cases c2 : 122 < c
    · rw [if_pos c2]; simp [c2, b2]
    · rw [if_neg c2]; simp [c1, c2, b2]
theorem b2f : b2 false = 0 := rfl
theorem b2t : b2 true = 1 := rfl
theorem b2t0 : ¬ b2 true = 0 := by decide
theorem x_num {T : Nat → Int32} {n a : Nat} : ∀ (z d F : Nat) (M : Mm), n - (a + d) = z → a + d ≤ n → z < F → (∀ j, j < d → isD (T (a + j)) = true) → Tp 2 T n M → M.1 3 2 = nI n → M.1 3 3 = nI (a + d) → M.1 3 6 = nI (min (mN T a d) 1000) → ∃ M', sX10_cutNumber_10 F M = some M' ∧ Fr (fun id k => id = 3 ∧ (k = 3 ∨ k = 6)) M M' ∧ M'.1 3 3 = nI (rnE isD T n (a + d)) ∧ M'.1 3 6 = nI (min (mN T a (rnE isD T n (a + d) - a)) 1000) := by
  intro z
  induction z with
  | zero =>
    intro d F M hd hq hF hD hT e2 e3 e6
    obtain ⟨F, rfl⟩ : ∃ G, F = G + 1 := ⟨F - 1, by omega⟩
    have h8 := hT.1
    refine ⟨M, ?_, Fr_rf _ _, by rw [rnE_n (by omega)]; exact e3, by rw [rnE_n (by omega), Nat.add_sub_cancel_left]; exact e6⟩
    rw [sX10_cutNumber_10, e2, e3, if_pos (nI_le (by omega) (by omega))]
  | succ z ih =>
    intro d F M hd hq hF hD hT e2 e3 e6
    obtain ⟨F, rfl⟩ : ∃ G, F = G + 1 := ⟨F - 1, by omega⟩
    have h8 := hT.1
    have ib := inb_nI (show a + d < 800 by omega) (by decide)
    have eT := hT.2 (a + d) (by omega)
    rw [sX10_cutNumber_10, e2, e3, if_neg (nle_nI (by omega) (by omega)), ckT ib, nI_clamp (by omega), eT, x_isD, Option.bind_some]
    dsimp only
    by_cases c : isD (T (a + d)) = true
    · obtain ⟨k, k1, k2, k3⟩ := isD_ex c
      have hm := mN_le (T := T) (a := a) d hD
      rw [c, if_neg b2t0, e3, ckT ib, nI_clamp (by omega), eT, e6, k3]
      have ev : nI (min (mN T a d) 1000) * 10 + nI k - 48 = nI (min (mN T a d) 1000 * 10 + (k - 48)) := by
        rw [show (10 : Int32) = nI 10 from rfl, show (48 : Int32) = nI 48 from rfl, nI_mul, nI_add, nI_sb (by omega)]
        congr 1
        omega
      have ew : (if 1000 < nI (min (mN T a d) 1000 * 10 + (k - 48)) then (1000 : Int32) else nI (min (mN T a d) 1000 * 10 + (k - 48))) = nI (min (mN T a (d + 1)) 1000) := by
        rw [mN, k3, nI_clamp (by omega)]
        by_cases u : 1000 < min (mN T a d) 1000 * 10 + (k - 48)
        · rw [if_pos (show (1000 : Int32) < nI _ from nI_lt (a := 1000) u (by omega))]
          show nI 1000 = _
          congr 1
          split <;> omega
        · rw [if_neg (show ¬ (1000 : Int32) < nI _ from nlt_nI (a := 1000) (by omega) (by omega))]
          congr 1
          split <;> omega
      rw [ev, ew, rdN (by omega), e3, nI_1]
      obtain ⟨M', m1, m2, m3, m4⟩ := ih (d + 1) F (sI (sI M 3 6 (nI (min (mN T a (d + 1)) 1000))) 3 3 (nI (a + d + 1))) (by omega) (by omega) (by omega) (fun j hj => by
        by_cases u : j = d
        · rw [u]; exact c
        · exact hD j (by omega)) ⟨h8, fun k hk => by rw [rdN (by omega), rdN (by omega)]; exact hT.2 k hk⟩ (by rw [rdN (by omega), rdN (by omega)]; exact e2) (rdS _ _ _ _) (by rw [rdN (by omega), rdS])
      rw [rnE_y (by omega) c]
      exact ⟨M', m1, Fr_tr (Fr_sI (Fr_sI (Fr_rf _ _) (by omega)) (by omega)) m2, m3, m4⟩
    · have c' : isD (T (a + d)) = false := by cases hh : isD (T (a + d)) <;> simp_all
      rw [c', if_pos b2f]
      exact ⟨M, rfl, Fr_rf _ _, by rw [rnE_n (fun p => c p.2)]; exact e3, by rw [rnE_n (fun p => c p.2), Nat.add_sub_cancel_left]; exact e6⟩
theorem ofN_add (a b : Nat) : Int64.ofNat a + Int64.ofNat b = Int64.ofNat (a + b) := (Int64.ofNat_add a b).symm
theorem ofN_mul (a b : Nat) : Int64.ofNat a * Int64.ofNat b = Int64.ofNat (a * b) := (Int64.ofNat_mul a b).symm
theorem nI_64 {k : Nat} (h : k < 2 ^ 31) : (nI k).toInt64 = Int64.ofNat k := by
  apply Int64.toInt_inj.mp
  rw [Int32.toInt_toInt64, nI_toI h, Int64.toInt_ofNat_of_lt (by omega)]
theorem x_let {T : Nat → Int32} {n a : Nat} : ∀ (z d F : Nat) (M : Mm), n - (a + d) = z → a + d ≤ n → z < F → (∀ j, j < d → isL (T (a + j)) = true) → Tp 2 T n M → M.1 3 2 = nI n → M.1 3 3 = nI (a + d) → M.1 3 5 = nI a → M.2 3 7 = Int64.ofNat (enc T a (min d 8)) → ∃ M', sX10_cutWord_10 F M = sX10_cutWord_83 M' ∧ Fr (fun id k => id = 3 ∧ (k = 3 ∨ k = 7)) M M' ∧ M'.1 3 3 = nI (rnE isL T n (a + d)) ∧ M'.2 3 7 = Int64.ofNat (enc T a (min (rnE isL T n (a + d) - a) 8)) := by
  intro z
  induction z with
  | zero =>
    intro d F M hd hq hF hD hT e2 e3 e5 e7
    obtain ⟨F, rfl⟩ : ∃ G, F = G + 1 := ⟨F - 1, by omega⟩
    have h8 := hT.1
    refine ⟨M, ?_, Fr_rf _ _, by rw [rnE_n (by omega)]; exact e3, by rw [rnE_n (by omega), Nat.add_sub_cancel_left]; exact e7⟩
    rw [sX10_cutWord_10, e2, e3, if_pos (nI_le (by omega) (by omega))]
  | succ z ih =>
    intro d F M hd hq hF hD hT e2 e3 e5 e7
    obtain ⟨F, rfl⟩ : ∃ G, F = G + 1 := ⟨F - 1, by omega⟩
    have h8 := hT.1
    have ib := inb_nI (show a + d < 800 by omega) (by decide)
    have eT := hT.2 (a + d) (by omega)
    rw [sX10_cutWord_10, e2, e3, if_neg (nle_nI (by omega) (by omega)), ckT ib, nI_clamp (by omega), eT, x_isL, Option.bind_some]
    dsimp only
    by_cases c : isL (T (a + d)) = true
    · obtain ⟨k, k1, k2, k3⟩ := isL_ex c
      rw [c, if_neg b2t0, e3, e5, nI_sb (by omega), Nat.add_sub_cancel_left]
      unfold sX10_cutWord_70
      have hD' : ∀ j, j < d + 1 → isL (T (a + j)) = true := fun j hj => by
        by_cases u : j = d
        · rw [u]; exact c
        · exact hD j (by omega)
      rw [rnE_y (by omega) c]
      by_cases u : 8 ≤ d
      · rw [if_pos (show (8 : Int32) ≤ nI d from nI_le (a := 8) u (by omega)), e3, nI_1]
        obtain ⟨M', m1, m2, m3, m4⟩ := ih (d + 1) F (sI M 3 3 (nI (a + d + 1))) (by omega) (by omega) (by omega) hD' ⟨h8, fun k hk => by rw [rdN (by omega)]; exact hT.2 k hk⟩ (by rw [rdN (by omega)]; exact e2) (rdS _ _ _ _) (by rw [rdN (by omega)]; exact e5) (by
          show M.2 3 7 = _
          rw [e7, show min (d + 1) 8 = min d 8 by omega])
        exact ⟨M', m1, Fr_tr (Fr_sI (Fr_rf _ _) (by omega)) m2, m3, m4⟩
      · rw [if_neg (show ¬ (8 : Int32) ≤ nI d from nle_nI (a := 8) (by omega) (by omega)), ckT ib, nI_clamp (by omega), eT, k3, e7]
        unfold sX10_joined
        rw [Option.bind_some]
        dsimp only
        have ev : Int64.ofNat (enc T a (min d 8)) * 32 + (nI k - 97 + 1).toInt64 = Int64.ofNat (enc T a (min (d + 1) 8)) := by
          rw [show (97 : Int32) = nI 97 from rfl, nI_sb (by omega), nI_1, nI_64 (by omega), show (32 : Int64) = Int64.ofNat 32 from rfl, ofN_mul, ofN_add, show min (d + 1) 8 = min d 8 + 1 by omega, enc, show a + min d 8 = a + d by omega, k3, nI_clamp (by omega)]
          congr 1
          omega
        have r3 : (sL M 3 7 (Int64.ofNat (enc T a (min d 8)) * 32 + (nI k - 97 + 1).toInt64)).1 3 3 = nI (a + d) := e3
        rw [r3, nI_1, ev]
        obtain ⟨M', m1, m2, m3, m4⟩ := ih (d + 1) F (sI (sL M 3 7 (Int64.ofNat (enc T a (min (d + 1) 8)))) 3 3 (nI (a + d + 1))) (by omega) (by omega) (by omega) hD' ⟨h8, fun k hk => by rw [rdN (by omega)]; exact hT.2 k hk⟩ (by rw [rdN (by omega)]; exact e2) (rdS _ _ _ _) (by rw [rdN (by omega)]; exact e5) (by simp [sI, sL, up2])
        exact ⟨M', m1, Fr_tr (Fr_sI (Fr_sL (Fr_rf _ _) (by omega)) (by omega)) m2, m3, m4⟩
    · have c' : isL (T (a + d)) = false := by cases hh : isL (T (a + d)) <;> simp_all
      rw [c', if_pos b2f]
      exact ⟨M, rfl, Fr_rf _ _, by rw [rnE_n (fun p => c p.2)]; exact e3, by rw [rnE_n (fun p => c p.2), Nat.add_sub_cancel_left]; exact e7⟩
