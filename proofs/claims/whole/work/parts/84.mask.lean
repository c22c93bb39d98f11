/-- a set of layers as bits -/
def msk (v : Nat → Bool) : Nat → Nat
  | 0 => 0
  | k + 1 => (if v k = true then 2 ^ k else 0) + msk v k
theorem msk_lt (v : Nat → Bool) : ∀ m, msk v m < 2 ^ m := by
  intro m
  induction m with
  | zero => exact Nat.one_pos
  | succ k ih =>
    rw [msk, Nat.pow_succ]
    split <;> omega
theorem msk_tb (v : Nat → Bool) : ∀ m j, (msk v m).testBit j = (decide (j < m) && v j) := by
  intro m
  induction m with
  | zero => intro j; rw [msk, Nat.zero_testBit, decide_eq_false (by omega)]; rfl
  | succ k ih =>
    intro j
    have hl := msk_lt v k
    rw [msk]
    by_cases c : v k = true
    · rw [if_pos c]
      rcases Nat.lt_trichotomy j k with q | q | q
      · rw [Nat.testBit_two_pow_add_gt q, ih, decide_eq_true q, decide_eq_true (by omega)]
      · subst q
        rw [Nat.testBit_two_pow_add_eq, Nat.testBit_lt_two_pow hl, c, decide_eq_true (by omega)]; rfl
      · rw [decide_eq_false (by omega), Nat.testBit_lt_two_pow]
        · rfl
        · have h9 : 2 ^ (k + 1) ≤ 2 ^ j := Nat.pow_le_pow_right (by omega) (by omega)
          rw [Nat.pow_succ] at h9
          omega
    · have c' : v k = false := by cases hh : v k <;> simp_all
      rw [if_neg c, Nat.zero_add, ih]
      by_cases q : j = k
      · subst q
        rw [c', Bool.and_false, Bool.and_false]
      · by_cases q2 : j < k
        · rw [decide_eq_true q2, decide_eq_true (by omega)]
        · rw [decide_eq_false q2, decide_eq_false (by omega)]
theorem msk_ext {u v : Nat → Bool} {m : Nat} (h : ∀ k, k < m → u k = v k) : msk u m = msk v m := by
  apply Nat.eq_of_testBit_eq
  intro j
  rw [msk_tb, msk_tb]
  by_cases q : j < m
  · rw [h j q]
  · rw [decide_eq_false q]; rfl
theorem msk_and (u v : Nat → Bool) (m : Nat) : msk u m &&& msk v m = msk (fun k => u k && v k) m := by
  apply Nat.eq_of_testBit_eq
  intro j
  rw [Nat.testBit_and, msk_tb, msk_tb, msk_tb]
  cases decide (j < m) <;> simp
theorem msk_or (u v : Nat → Bool) (m : Nat) : msk u m ||| msk v m = msk (fun k => u k || v k) m := by
  apply Nat.eq_of_testBit_eq
  intro j
  rw [Nat.testBit_or, msk_tb, msk_tb, msk_tb]
  cases decide (j < m) <;> simp
theorem msk_not (v : Nat → Bool) : ∀ m, msk (fun k => !v k) m + msk v m + 1 = 2 ^ m := by
  intro m
  induction m with
  | zero => rfl
  | succ k ih =>
    rw [msk, msk, Nat.pow_succ]
    cases v k
    · rw [if_pos (show (!false) = true from rfl), if_neg (by decide)]; omega
    · rw [if_neg (by decide), if_pos rfl]; omega
theorem msk_all (m : Nat) : msk (fun _ => true) m + 1 = 2 ^ m := by
  induction m with
  | zero => rfl
  | succ k ih => rw [msk, if_pos rfl, Nat.pow_succ]; omega
theorem msk_no (m : Nat) : msk (fun _ => false) m = 0 := by
  induction m with
  | zero => rfl
  | succ k ih => rw [msk, if_neg (by decide), ih]
theorem nI_and {a b : Nat} (ha : a < 2 ^ 32) (hb : b < 2 ^ 32) : nI a &&& nI b = nI (a &&& b) := by
  apply Int32.toBitVec_inj.mp
  rw [Int32.toBitVec_and]
  unfold nI
  show BitVec.ofNat 32 a &&& BitVec.ofNat 32 b = BitVec.ofNat 32 (a &&& b)
  apply BitVec.eq_of_toNat_eq
  have h1 : a &&& b < 2 ^ 32 := Nat.lt_of_le_of_lt Nat.and_le_left ha
  rw [BitVec.toNat_and, BitVec.toNat_ofNat, BitVec.toNat_ofNat, BitVec.toNat_ofNat, Nat.mod_eq_of_lt ha, Nat.mod_eq_of_lt hb, Nat.mod_eq_of_lt h1]
theorem nI_or {a b : Nat} (ha : a < 2 ^ 32) (hb : b < 2 ^ 32) : nI a ||| nI b = nI (a ||| b) := by
  apply Int32.toBitVec_inj.mp
  rw [Int32.toBitVec_or]
  unfold nI
  show BitVec.ofNat 32 a ||| BitVec.ofNat 32 b = BitVec.ofNat 32 (a ||| b)
  apply BitVec.eq_of_toNat_eq
  have h1 : a ||| b < 2 ^ 32 := Nat.or_lt_two_pow ha hb
  rw [BitVec.toNat_or, BitVec.toNat_ofNat, BitVec.toNat_ofNat, BitVec.toNat_ofNat, Nat.mod_eq_of_lt ha, Nat.mod_eq_of_lt hb, Nat.mod_eq_of_lt h1]
theorem sh_all : ∀ m, m < 9 → (1 <<< (nI m &&& 31)) - 1 = nI (2 ^ m - 1) := by decide
theorem sh_one : ∀ k, k < 8 → 1 <<< (nI k &&& 31) = nI (2 ^ k) := by decide
theorem not_msk0 : ∀ m, m < 9 → ∀ x, x < 256 → x < 2 ^ m → (nI (2 ^ m - 1) &&& (nI x ^^^ (-1))) = nI (2 ^ m - 1 - x) := by decide +kernel
theorem msk256 (v : Nat → Bool) {m : Nat} (hm : m ≤ 8) : msk v m < 256 := by
  have h1 := msk_lt v m
  have h2 : 2 ^ m ≤ 2 ^ 8 := Nat.pow_le_pow_right (by omega) hm
  omega
theorem not_msk (v : Nat → Bool) {m : Nat} (hm : m ≤ 8) : (nI (2 ^ m - 1) &&& (nI (msk v m) ^^^ (-1))) = nI (msk (fun k => !v k) m) := by
  rw [not_msk0 m (by omega) (msk v m) (msk256 v hm) (msk_lt v m)]
  have := msk_not v m
  congr 1
  omega
theorem bit_msk (v : Nat → Bool) {m k : Nat} (hm : m ≤ 8) (hk : k < m) : (nI (msk v m) &&& (1 <<< (nI k &&& 31))) = 0 ↔ v k = false := by
  have h1 := msk256 v hm
  have h2 : 2 ^ k < 256 := by
    have : 2 ^ k < 2 ^ 8 := Nat.pow_lt_pow_right (by omega) (by omega)
    omega
  rw [sh_one k (by omega), nI_and (by omega) (by omega)]
  have h3 : msk v m &&& 2 ^ k = if v k = true then 2 ^ k else 0 := by
    apply Nat.eq_of_testBit_eq
    intro j
    rw [Nat.testBit_and, msk_tb, Nat.testBit_two_pow]
    by_cases q : k = j
    · subst q
      rw [decide_eq_true hk, decide_eq_true rfl]
      cases v k
      · rw [if_neg (by decide), Nat.zero_testBit]; rfl
      · rw [if_pos rfl, Nat.testBit_two_pow_self]; rfl
    · rw [decide_eq_false q, Bool.and_false]
      cases v k
      · rw [if_neg (by decide), Nat.zero_testBit]
      · rw [if_pos rfl, Nat.testBit_two_pow, decide_eq_false q]
  rw [h3]
  cases v k
  · rw [if_neg (by decide)]; exact ⟨fun _ => rfl, fun _ => rfl⟩
  · rw [if_pos rfl]
    have hp : 0 < 2 ^ k := Nat.pow_pos (by omega)
    exact ⟨fun z => absurd z (ne0_nI (by omega) (by omega)), fun z => by cases z⟩
theorem or_msk (v : Nat → Bool) {k : Nat} (hk : k < 8) : nI (msk v k) ||| (1 <<< (nI k &&& 31)) = nI (msk v k + 2 ^ k) := by
  have h1 := msk256 v (m := k) (by omega)
  have h0 := msk_lt v k
  have h2 : 2 ^ k < 256 := by
    have : 2 ^ k < 2 ^ 8 := Nat.pow_lt_pow_right (by omega) (by omega)
    omega
  rw [sh_one k hk, nI_or (by omega) (by omega), Nat.or_comm, Nat.add_comm]
  congr 1
  have h9 := Nat.two_pow_add_eq_or_of_lt h0 1
  rw [Nat.mul_one] at h9
  exact h9.symm
