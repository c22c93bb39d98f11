def absN (a b : Nat) : Nat := (a - b) + (b - a)
theorem nI_sb {a b : Nat} (h : b ≤ a) : nI a - nI b = nI (a - b) := by
  have e : nI a = nI (a - b) + nI b := by rw [nI_add, Nat.sub_add_cancel h]
  rw [e]
  exact Int32.add_sub_cancel _ _
theorem nI_ng {a b : Nat} (h : a ≤ b) : 0 - (nI a - nI b) = nI (b - a) := by
  rw [← nI_sb h]
  grind
theorem nI_sgn {a b : Nat} (h : a < b) (hb : b < 2 ^ 31) : ¬ 0 ≤ nI a - nI b := by
  have ea : (nI a).toInt = a := by
    unfold nI
    rw [Int32.toInt_ofNat_of_lt (by omega)]
  have eb : (nI b).toInt = b := by
    unfold nI
    rw [Int32.toInt_ofNat_of_lt (by omega)]
  have e3 : (nI a - nI b).toInt = (a : Int) - b := by
    rw [Int32.toInt_sub, ea, eb]
    rw [Int.bmod_eq_of_le] <;> omega
  rw [Int32.le_iff_toInt_le, e3]
  have h2 : (0 : Int32).toInt = 0 := rfl
  rw [h2]
  omega
theorem abs_nI {a b : Nat} (ha : a < 2 ^ 31) (hb : b < 2 ^ 31) : (if 0 ≤ nI a - nI b then nI a - nI b else 0 - (nI a - nI b)) = nI (absN a b) := by
  unfold absN
  rcases Nat.lt_or_ge a b with h | h
  · rw [if_neg (nI_sgn h hb), nI_ng (by omega), show a - b + (b - a) = b - a by omega]
  · rw [nI_sb h, if_pos (nI_nn (by omega)), show a - b + (b - a) = a - b by omega]
theorem max_nI {a b : Nat} (ha : a < 2 ^ 31) (hb : b < 2 ^ 31) : (if nI a < nI b then nI b else nI a) = nI (max a b) := by
  by_cases h : a < b
  · rw [if_pos ((nI_ltI ha hb).mpr h), Nat.max_eq_right (by omega)]
  · rw [if_neg (fun q => h ((nI_ltI ha hb).mp q)), Nat.max_eq_left (by omega)]
/-- the greatest gap to a neighbour -/
def slN (w n : Nat) (H : Nat → Nat) (c : Nat) : Nat := max (max (max (if 0 < c % w then absN (H c) (H (c - 1)) else 0) (if c % w + 1 < w then absN (H c) (H (c + 1)) else 0)) (if w ≤ c then absN (H c) (H (c - w)) else 0)) (if c + w < n then absN (H c) (H (c + w)) else 0)
theorem x_gap {M : Mm} {H : Nat → Nat} {n a b : Nat} (hn : n ≤ 64) (hH : ∀ c, c < n → M.1 24 c = nI (H c) ∧ H c ≤ 999) (ha : a < n) (hb : b < n) : sX6_heightGap (nI a) (nI b) M = some (nI (absN (H a) (H b)), M) := by
  have z : inb 0 5 = true := by decide
  have e0 : 24 + (0 : Int32).toNatClampNeg = 24 := by decide
  simp only [sX6_heightGap, ckT z, ckT (inb_nI (show a < 64 by omega) (by decide)), ckT (inb_nI (show b < 64 by omega) (by decide)), e0, nI_clamp (show a < 2 ^ 31 by omega), nI_clamp (show b < 2 ^ 31 by omega), (hH a ha).1, (hH b hb).1]
  rw [abs_nI (by have := (hH a ha).2; omega) (by have := (hH b hb).2; omega)]
theorem absN_le {a b : Nat} (ha : a ≤ 999) (hb : b ≤ 999) : absN a b ≤ 999 := by unfold absN; omega
theorem x_sl4 {M : Mm} {a b : Nat} (ha : a ≤ 999) (hb : b ≤ 999) : sX6_slopeOf_111 (nI a) (nI b) M = some (nI (max a b), M) := by
  unfold sX6_slopeOf_111
  rw [max_nI (by omega) (by omega)]
theorem x_sl3 {M : Mm} {H : Nat → Nat} {w n c a b : Nat} (hn : n ≤ 64) (hH : ∀ c, c < n → M.1 24 c = nI (H c) ∧ H c ≤ 999) (e0 : M.1 22 0 = nI w) (e2 : M.1 22 2 = nI n) (hw : w ≤ 8) (hc : c < n) (ha : a ≤ 999) (hb : b ≤ 999) :
    sX6_slopeOf_78 (nI c) (nI a) (nI b) M = some (nI (max (max a b) (if c + w < n then absN (H c) (H (c + w)) else 0)), M) := by
  unfold sX6_slopeOf_78
  rw [e0, e2, nI_add, max_nI (by omega) (by omega)]
  by_cases h : c + w < n
  · rw [if_neg (fun q => by have := (nI_leI (by omega) (by omega)).mp q; omega), x_gap hn hH hc h, Option.bind_some, if_pos h]
    exact x_sl4 (by omega) (absN_le (hH c hc).2 (hH _ h).2)
  · rw [if_pos (nI_le (by omega) (by omega)), if_neg h]
    exact x_sl4 (b := 0) (by omega) (by omega)
theorem x_sl2 {M : Mm} {H : Nat → Nat} {w n c a b : Nat} (hn : n ≤ 64) (hH : ∀ c, c < n → M.1 24 c = nI (H c) ∧ H c ≤ 999) (e0 : M.1 22 0 = nI w) (e2 : M.1 22 2 = nI n) (hw : w ≤ 8) (hc : c < n) (ha : a ≤ 999) (hb : b ≤ 999) :
    sX6_slopeOf_50 (nI c) (nI a) (nI b) M = some (nI (max (max (max a b) (if w ≤ c then absN (H c) (H (c - w)) else 0)) (if c + w < n then absN (H c) (H (c + w)) else 0)), M) := by
  unfold sX6_slopeOf_50
  rw [e0, max_nI (by omega) (by omega)]
  by_cases h : w ≤ c
  · rw [if_neg (fun q => by have := (nI_ltI (by omega) (by omega)).mp q; omega), nI_sb h, x_gap hn hH hc (by omega), Option.bind_some, if_pos h]
    exact x_sl3 hn hH e0 e2 hw hc (by omega) (absN_le (hH c hc).2 (hH _ (by omega)).2)
  · rw [if_pos (nI_lt (by omega) (by omega)), if_neg h]
    exact x_sl3 (b := 0) hn hH e0 e2 hw hc (by omega) (by omega)
theorem x_sl1 {M : Mm} {H : Nat → Nat} {w n c a : Nat} (hn : n ≤ 64) (hH : ∀ c, c < n → M.1 24 c = nI (H c) ∧ H c ≤ 999) (e0 : M.1 22 0 = nI w) (e2 : M.1 22 2 = nI n) (h1 : 1 ≤ w) (hw : w ≤ 8) (hd : w ∣ n) (h29 : ∀ c, c < n → M.1 29 c = nI (c % w)) (hc : c < n) (ha : a ≤ 999) :
    sX6_slopeOf_21 (nI c) (nI a) M = some (nI (max (max (max a (if c % w + 1 < w then absN (H c) (H (c + 1)) else 0)) (if w ≤ c then absN (H c) (H (c - w)) else 0)) (if c + w < n then absN (H c) (H (c + w)) else 0)), M) := by
  unfold sX6_slopeOf_21
  rw [ckT (inb_nI (by omega) (by decide)), nI_clamp (by omega), h29 c hc, e0, show nI w - 1 = nI (w - 1) from nI_sb (b := 1) h1]
  have hm : c % w < w := Nat.mod_lt _ h1
  by_cases h : c % w + 1 < w
  · have hc1 : c + 1 < n := by
      obtain ⟨k, rfl⟩ := hd
      have e9 := Nat.div_add_mod c w
      have h8 : c / w < k := Nat.div_lt_of_lt_mul hc
      have h7 : w * (c / w) + w ≤ w * k := by
        rw [← Nat.mul_succ]
        exact Nat.mul_le_mul_left w h8
      omega
    rw [if_neg (fun q => by have := (nI_leI (by omega) (by omega)).mp q; omega), nI_1, x_gap hn hH hc hc1, Option.bind_some, if_pos h]
    exact x_sl2 hn hH e0 e2 hw hc ha (absN_le (hH c hc).2 (hH _ hc1).2)
  · rw [if_pos (nI_le (by omega) (by omega)), if_neg h]
    exact x_sl2 (b := 0) hn hH e0 e2 hw hc ha (by omega)
theorem x_slope {M : Mm} {H : Nat → Nat} {w n c : Nat} (hn : n ≤ 64) (hH : ∀ c, c < n → M.1 24 c = nI (H c) ∧ H c ≤ 999) (e0 : M.1 22 0 = nI w) (e2 : M.1 22 2 = nI n) (h1 : 1 ≤ w) (hw : w ≤ 8) (hd : w ∣ n) (h29 : ∀ c, c < n → M.1 29 c = nI (c % w)) (hc : c < n) :
    sX6_slopeOf (nI c) M = some (nI (slN w n H c), M) := by
  unfold sX6_slopeOf slN
  have hm : c % w ≤ c := Nat.mod_le _ _
  rw [ckT (inb_nI (by omega) (by decide)), nI_clamp (by omega), h29 c hc]
  by_cases h : 0 < c % w
  · rw [if_neg (fun q => by have := (nI_leI (b := 0) (by omega) (by omega)).mp q; omega), show nI c - 1 = nI (c - 1) from nI_sb (b := 1) (by omega), x_gap hn hH hc (by omega), Option.bind_some, if_pos h]
    exact x_sl1 hn hH e0 e2 h1 hw hd h29 hc (absN_le (hH c hc).2 (hH _ (by omega)).2)
  · rw [if_pos (show nI (c % w) ≤ 0 from lit_le (n := 0) (by decide) (by omega) (by decide)), if_neg h]
    exact x_sl1 (a := 0) hn hH e0 e2 h1 hw hd h29 hc (by omega)
theorem nI_toI {a : Nat} (h : a < 2 ^ 31) : (nI a).toInt = a := by
  unfold nI
  rw [Int32.toInt_ofNat_of_lt h]
theorem nI_dv {a b : Nat} (ha : a < 2 ^ 31) (hb : b < 2 ^ 31) : nI a / nI b = nI (a / b) := by
  have hd : a / b ≤ a := Nat.div_le_self a b
  have e : (a : Int).tdiv b = ((a / b : Nat) : Int) := (Int.ofNat_tdiv a b).symm ▸ rfl
  apply Int32.toInt_inj.mp
  rw [Int32.toInt_div, nI_toI ha, nI_toI hb, nI_toI (by omega), e]
  generalize a / b = q at hd ⊢
  rw [Int.bmod_eq_of_le] <;> omega
theorem nI_md {a b : Nat} (ha : a < 2 ^ 31) (hb : b < 2 ^ 31) : nI a - nI a / nI b * nI b = nI (a % b) := by
  have h1 : a / b * b ≤ a := Nat.div_mul_le_self a b
  rw [nI_dv ha hb, nI_mul, nI_sb h1]
  congr 1
  have := Nat.div_add_mod a b
  rw [Nat.mul_comm] at this
  omega
theorem m_no {k12 : Int32 → Int32 → Int32 → Int32 → Mm → Option (Int32 × Mm)} {M : Mm} {x1 x2 x3 x4 s0 : Int32} {w h : Nat} (e3 : M.1 194 3 = nI w) (e4 : M.1 194 4 = nI h) (hs : s0 < 0 ∨ nI (w * h) ≤ s0) : sX12_slope_84 k12 x1 x2 x3 x4 s0 M = k12 x1 x2 x3 (x4 + 1) M := by
  have hi : sX12_isCell s0 M = some (0, M) := by
    unfold sX12_isCell
    rw [e3, e4, nI_mul]
    rcases hs with q | q
    · rw [if_pos q]
    · rw [if_pos q]
      simp
  unfold sX12_slope_84
  rw [hi, Option.bind_some]
  rfl
theorem m_yes {k12 : Int32 → Int32 → Int32 → Int32 → Mm → Option (Int32 × Mm)} {M : Mm} {x2 x4 : Int32} {w h c d a : Nat} {H : Nat → Nat} (e3 : M.1 194 3 = nI w) (e4 : M.1 194 4 = nI h) (hn : w * h ≤ 64) (hH : ∀ c, c < w * h → M.1 196 c = nI (H c) ∧ H c ≤ 999) (hc : c < w * h) (hd : d < w * h) (ha : a ≤ 999) :
    sX12_slope_84 k12 (nI c) x2 (nI a) x4 (nI d) M = k12 (nI c) x2 (nI (max a (absN (H c) (H d)))) (x4 + 1) M := by
  have one : ¬ (1 : Int32) = 0 := by decide
  have hi : sX12_isCell (nI d) M = some (1, M) := by
    unfold sX12_isCell
    rw [e3, e4, nI_mul, if_neg (Int32.not_lt.mpr (nI_nn (by omega))), if_neg (fun q => by have := (nI_leI (by omega) (by omega)).mp q; omega)]
  have h1 := (hH c hc).2
  have h2 := (hH d hd).2
  have h3 := absN_le h1 h2
  have hz : sX12_size (nI (H c) - nI (H d)) M = some (nI (absN (H c) (H d)), M) := by
    unfold sX12_size
    rw [show -(nI (H c) - nI (H d)) = 0 - (nI (H c) - nI (H d)) by grind, abs_nI (by omega) (by omega)]
  simp only [sX12_slope_84, hi, Option.bind_some, if_neg one, ckT (inb_nI (show c < 64 by omega) (by decide)), ckT (inb_nI (show d < 64 by omega) (by decide)), nI_clamp (show c < 2 ^ 31 by omega), nI_clamp (show d < 2 ^ 31 by omega), (hH c hc).1, (hH d hd).1, hz]
  unfold sX12_slope_129 sX12_slope_130
  congr 1
  by_cases q : absN (H c) (H d) ≤ a
  · rw [if_pos (nI_le q (by omega)), Nat.max_eq_left q]
  · rw [if_neg (fun p => q ((nI_leI (by omega) (by omega)).mp p)), Nat.max_eq_right (by omega)]
theorem m_slope {M : Mm} {H : Nat → Nat} {w h c : Nat} (e3 : M.1 194 3 = nI w) (e4 : M.1 194 4 = nI h) (h1 : 1 ≤ w) (hw : w ≤ 8) (hn : w * h ≤ 64) (hH : ∀ c, c < w * h → M.1 196 c = nI (H c) ∧ H c ≤ 999) (hc : c < w * h) : sX12_slope (nI c) M = some (nI (slN w (w * h) H c), M) := by
  have hnz : nz (nI w) = true := decide_eq_true (fun q => by
    have := congrArg Int32.toNatClampNeg q
    rw [nI_clamp (by omega)] at this
    have e : (0 : Int32).toNatClampNeg = 0 := rfl
    omega)
  have hm : c % w < w := Nat.mod_lt _ h1
  have hm2 : c % w ≤ c := Nat.mod_le _ _
  have hg : ∀ d, d < w * h → absN (H c) (H d) ≤ 999 := fun d hd => absN_le (hH c hc).2 (hH d hd).2
  unfold sX12_slope
  rw [e3, ckT hnz, nI_md (by omega) (by omega)]
  -- the first
  have s0 : ∀ F, sX12_slope_12 (F + 1) (nI c) (nI (c % w)) 0 0 M = sX12_slope_12 F (nI c) (nI (c % w)) (nI (if 0 < c % w then absN (H c) (H (c - 1)) else 0)) 1 M := by
    intro F
    rw [sX12_slope_12, if_neg (by decide), if_pos rfl]
    by_cases q : 0 < c % w
    · rw [if_neg (fun p => by have := (nI_leI (b := 0) (by omega) (by omega)).mp p; omega), show nI c - 1 = nI (c - 1) from nI_sb (b := 1) (by omega), if_pos q]
      have := m_yes (k12 := sX12_slope_12 F) (x2 := nI (c % w)) (x4 := 0) (a := 0) e3 e4 hn hH hc (show c - 1 < w * h by omega) (by omega)
      rw [Nat.zero_max] at this
      exact this
    · rw [if_pos (show nI (c % w) ≤ 0 from lit_le (n := 0) (by decide) (by omega) (by decide)), if_neg q]
      exact m_no e3 e4 (Or.inl (by decide))
  generalize hA : (if 0 < c % w then absN (H c) (H (c - 1)) else 0) = A at s0
  have hA9 : A ≤ 999 := by
    rw [← hA]
    split
    · exact hg _ (by omega)
    · omega
  have s1 : ∀ F, sX12_slope_12 (F + 1) (nI c) (nI (c % w)) (nI A) 1 M = sX12_slope_12 F (nI c) (nI (c % w)) (nI (max A (if c % w + 1 < w then absN (H c) (H (c + 1)) else 0))) 2 M := by
    intro F
    rw [sX12_slope_12, if_neg (by decide), if_neg (by decide), if_pos rfl, e3, show nI w - 1 = nI (w - 1) from nI_sb (b := 1) h1]
    by_cases q : c % w + 1 < w
    · have hc1 : c + 1 < w * h := by
        have e9 := Nat.div_add_mod c w
        have h8 : c / w < h := Nat.div_lt_of_lt_mul hc
        have h7 : w * (c / w) + w ≤ w * h := by
          rw [← Nat.mul_succ]
          exact Nat.mul_le_mul_left w h8
        omega
      rw [if_neg (fun p => by have := (nI_leI (by omega) (by omega)).mp p; omega), nI_1, if_pos q]
      exact m_yes e3 e4 hn hH hc hc1 hA9
    · rw [if_pos (nI_le (by omega) (by omega)), if_neg q, Nat.max_zero]
      exact m_no e3 e4 (Or.inl (by decide))
  generalize hB : (if c % w + 1 < w then absN (H c) (H (c + 1)) else 0) = B at s1
  have hB9 : max A B ≤ 999 := by
    have : B ≤ 999 := by
      rw [← hB]
      split
      · rename_i q
        have e9 := Nat.div_add_mod c w
        have h8 : c / w < h := Nat.div_lt_of_lt_mul hc
        have h7 : w * (c / w) + w ≤ w * h := by
          rw [← Nat.mul_succ]
          exact Nat.mul_le_mul_left w h8
        exact hg _ (by omega)
      · omega
    omega
  have s2 : ∀ F, sX12_slope_12 (F + 1) (nI c) (nI (c % w)) (nI (max A B)) 2 M = sX12_slope_12 F (nI c) (nI (c % w)) (nI (max (max A B) (if w ≤ c then absN (H c) (H (c - w)) else 0))) 3 M := by
    intro F
    rw [sX12_slope_12, if_neg (by decide), if_neg (by decide), if_neg (by decide), if_pos rfl, e3]
    by_cases q : w ≤ c
    · rw [nI_sb q, if_pos q]
      exact m_yes e3 e4 hn hH hc (by omega) hB9
    · rw [if_neg q, Nat.max_zero]
      exact m_no e3 e4 (Or.inl (Int32.not_le.mp (nI_sgn (by omega) (by omega))))
  generalize hC : (if w ≤ c then absN (H c) (H (c - w)) else 0) = C at s2
  have hC9 : max (max A B) C ≤ 999 := by
    have : C ≤ 999 := by
      rw [← hC]
      split
      · exact hg _ (by omega)
      · omega
    omega
  have s3 : ∀ F, sX12_slope_12 (F + 1) (nI c) (nI (c % w)) (nI (max (max A B) C)) 3 M = sX12_slope_12 F (nI c) (nI (c % w)) (nI (max (max (max A B) C) (if c + w < w * h then absN (H c) (H (c + w)) else 0))) 4 M := by
    intro F
    rw [sX12_slope_12, if_neg (by decide), if_neg (by decide), if_neg (by decide), if_neg (by decide), e3, nI_add]
    by_cases q : c + w < w * h
    · rw [if_pos q]
      exact m_yes e3 e4 hn hH hc q hC9
    · rw [if_neg q, Nat.max_zero]
      exact m_no e3 e4 (Or.inr (nI_le (by omega) (by omega)))
  refine (s0 4095).trans ((s1 4094).trans ((s2 4093).trans ((s3 4092).trans ?_)))
  rw [show 4092 = 4091 + 1 from rfl, sX12_slope_12, if_pos (by decide)]
  unfold slN
  rw [hA, hB, hC]
