/-- the readings at first -/
def rst (p : Nat) : Int32 := nI (if (p / 8) % 8 = p % 8 then 16 else 0)
theorem m_rs_3 {h i : Nat} {ka : Int32 → Mm → Option (Int32 × Mm)} {kb : Int32 → Int32 → Mm → Option (Int32 × Mm)} (hh : h < 3) (hi : i < 8) : ∀ (d j F : Nat) (M : Mm), j + d = 8 → d < F → ∃ M', sX12_key_279 ka kb F (nI h) (nI i) (nI j) M = kb (nI h) (nI (i + 1)) M' ∧ Fr (fun id p => id = 224 ∧ 64 * h + 8 * i + j ≤ p ∧ p < 64 * h + 8 * i + 8) M M' ∧ ∀ u, j ≤ u → u < 8 → M'.1 224 (64 * h + 8 * i + u) = rst (64 * h + 8 * i + u) := by
  intro d
  induction d with
  | zero =>
    intro j F M hj hF
    obtain ⟨F, rfl⟩ : ∃ F', F = F' + 1 := ⟨F - 1, by omega⟩
    rw [sX12_key_279, if_pos (show 8 ≤ nI j from nI_le (a := 8) (by omega) (by omega)), nI_1]
    exact ⟨M, rfl, Fr_rf _ _, fun u h1 h2 => by omega⟩
  | succ d ih =>
    intro j F M hj hF
    obtain ⟨F, rfl⟩ : ∃ F', F = F' + 1 := ⟨F - 1, by omega⟩
    have ev : (if nI i = nI j then (16 : Int32) else 0) = rst (64 * h + 8 * i + j) := by
      unfold rst
      rw [show (64 * h + 8 * i + j) / 8 = 8 * h + i by omega, show (8 * h + i) % 8 = i by omega, show (64 * h + 8 * i + j) % 8 = j by omega]
      by_cases c : i = j
      · rw [if_pos (by rw [c]), if_pos c]; rfl
      · rw [if_neg (ne_nI c (by omega) (by omega)), if_neg c]; rfl
    rw [sX12_key_279, if_neg (show ¬ 8 ≤ nI j from nle_nI (a := 8) (by omega) (by omega))]
    unfold sX12_key_314
    rw [ev, show (64 : Int32) = nI 64 from rfl, show (8 : Int32) = nI 8 from rfl, nI_mul, nI_mul, nI_add, nI_add, ckT (inb_nI (show 64 * h + 8 * i + j < 192 by omega) (by decide)), nI_clamp (show 64 * h + 8 * i + j < 2 ^ 31 by omega), nI_1]
    obtain ⟨M', e1, f1, g1⟩ := ih (j + 1) F (sI M 224 (64 * h + 8 * i + j) (rst (64 * h + 8 * i + j))) (by omega) (by omega)
    refine ⟨M', e1, Fr_tr (Fr_sI (Fr_rf _ _) (by omega)) (Fr_mo f1 (fun id p q => by omega)), fun u h1 h2 => ?_⟩
    by_cases c : u = j
    · rw [c, (f1 _ _ (by omega)).1, rdS]
    · exact g1 u (by omega) h2
theorem m_rs_2 {h : Nat} {ka : Int32 → Mm → Option (Int32 × Mm)} (hh : h < 3) : ∀ (d i F : Nat) (M : Mm), i + d = 8 → d < F → ∃ M', sX12_key_270 ka F (nI h) (nI i) M = ka (nI (h + 1)) M' ∧ Fr (fun id p => id = 224 ∧ 64 * h + 8 * i ≤ p ∧ p < 64 * h + 64) M M' ∧ ∀ p, 64 * h + 8 * i ≤ p → p < 64 * h + 64 → M'.1 224 p = rst p := by
  intro d
  induction d with
  | zero =>
    intro i F M hi hF
    obtain ⟨F, rfl⟩ : ∃ F', F = F' + 1 := ⟨F - 1, by omega⟩
    rw [sX12_key_270, if_pos (show 8 ≤ nI i from nI_le (a := 8) (by omega) (by omega)), nI_1]
    exact ⟨M, rfl, Fr_rf _ _, fun u h1 h2 => by omega⟩
  | succ d ih =>
    intro i F M hi hF
    obtain ⟨F, rfl⟩ : ∃ F', F = F' + 1 := ⟨F - 1, by omega⟩
    rw [sX12_key_270, if_neg (show ¬ 8 ≤ nI i from nle_nI (a := 8) (by omega) (by omega))]
    obtain ⟨A, e1, f1, g1⟩ := m_rs_3 (ka := ka) (kb := sX12_key_270 ka F) hh (show i < 8 by omega) 8 0 4096 M (by omega) (by omega)
    obtain ⟨M', e2, f2, g2⟩ := ih (i + 1) F A (by omega) (by omega)
    refine ⟨M', e1.trans e2, Fr_tr (Fr_mo f1 (fun id p q => by omega)) (Fr_mo f2 (fun id p q => by omega)), fun p h1 h2 => ?_⟩
    by_cases c : p < 64 * h + 8 * i + 8
    · rw [(f2 _ _ (by omega)).1, show p = 64 * h + 8 * i + (p - (64 * h + 8 * i)) by omega]
      exact g1 _ (by omega) (by omega)
    · exact g2 p (by omega) h2
theorem m_rs_1 : ∀ (d h F : Nat) (M : Mm), h + d = 3 → d < F → ∃ M', sX12_key_263 F (nI h) M = sX12_key_335 4096 0 M' ∧ Fr (fun id p => id = 224 ∧ 64 * h ≤ p ∧ p < 192) M M' ∧ ∀ p, 64 * h ≤ p → p < 192 → M'.1 224 p = rst p := by
  intro d
  induction d with
  | zero =>
    intro h F M hh hF
    obtain ⟨F, rfl⟩ : ∃ F', F = F' + 1 := ⟨F - 1, by omega⟩
    rw [sX12_key_263, if_pos (show 3 ≤ nI h from nI_le (a := 3) (by omega) (by omega))]
    exact ⟨M, rfl, Fr_rf _ _, fun u h1 h2 => by omega⟩
  | succ d ih =>
    intro h F M hh hF
    obtain ⟨F, rfl⟩ : ∃ F', F = F' + 1 := ⟨F - 1, by omega⟩
    rw [sX12_key_263, if_neg (show ¬ 3 ≤ nI h from nle_nI (a := 3) (by omega) (by omega))]
    obtain ⟨A, e1, f1, g1⟩ := m_rs_2 (ka := sX12_key_263 F) (show h < 3 by omega) 8 0 4096 M (by omega) (by omega)
    obtain ⟨M', e2, f2, g2⟩ := ih (h + 1) F A (by omega) (by omega)
    refine ⟨M', e1.trans e2, Fr_tr (Fr_mo f1 (fun id p q => by omega)) (Fr_mo f2 (fun id p q => by omega)), fun p h1 h2 => ?_⟩
    by_cases c : p < 64 * h + 64
    · rw [(f2 _ _ (by omega)).1]
      exact g1 _ (by omega) (by omega)
    · exact g2 p (by omega) h2
theorem x_rs_3 {h i : Nat} {ka : Int32 → Mm → Option Mm} {kb : Int32 → Int32 → Mm → Option Mm} (hh : h < 3) (hi : i < 8) : ∀ (d j F : Nat) (M : Mm), j + d = 8 → d < F → ∃ M', sX2_resetReads_23 ka kb F (nI h) (nI i) (nI j) M = kb (nI h) (nI (i + 1)) M' ∧ Fr (fun id p => id = 159 ∧ 64 * h + 8 * i + j ≤ p ∧ p < 64 * h + 8 * i + 8) M M' ∧ ∀ u, j ≤ u → u < 8 → M'.1 159 (64 * h + 8 * i + u) = rst (64 * h + 8 * i + u) := by
  intro d
  induction d with
  | zero =>
    intro j F M hj hF
    obtain ⟨F, rfl⟩ : ∃ F', F = F' + 1 := ⟨F - 1, by omega⟩
    rw [sX2_resetReads_23, if_pos (show 8 ≤ nI j from nI_le (a := 8) (by omega) (by omega)), nI_1]
    exact ⟨M, rfl, Fr_rf _ _, fun u h1 h2 => by omega⟩
  | succ d ih =>
    intro j F M hj hF
    obtain ⟨F, rfl⟩ : ∃ F', F = F' + 1 := ⟨F - 1, by omega⟩
    have ev : (if nI i = nI j then (16 : Int32) else 0) = rst (64 * h + 8 * i + j) := by
      unfold rst
      rw [show (64 * h + 8 * i + j) / 8 = 8 * h + i by omega, show (8 * h + i) % 8 = i by omega, show (64 * h + 8 * i + j) % 8 = j by omega]
      by_cases c : i = j
      · rw [if_pos (by rw [c]), if_pos c]; rfl
      · rw [if_neg (ne_nI c (by omega) (by omega)), if_neg c]; rfl
    rw [sX2_resetReads_23, if_neg (show ¬ 8 ≤ nI j from nle_nI (a := 8) (by omega) (by omega)), sX2_place, Option.bind_some]
    unfold sX2_resetReads_53
    rw [ev, show (8 : Int32) = nI 8 from rfl, nI_mul, nI_add, nI_mul, nI_add, show (h * 8 + i) * 8 + j = 64 * h + 8 * i + j by omega, ckT (inb_nI (show 64 * h + 8 * i + j < 192 by omega) (by decide)), nI_clamp (show 64 * h + 8 * i + j < 2 ^ 31 by omega), nI_1]
    obtain ⟨M', e1, f1, g1⟩ := ih (j + 1) F (sI M 159 (64 * h + 8 * i + j) (rst (64 * h + 8 * i + j))) (by omega) (by omega)
    refine ⟨M', e1, Fr_tr (Fr_sI (Fr_rf _ _) (by omega)) (Fr_mo f1 (fun id p q => by omega)), fun u h1 h2 => ?_⟩
    by_cases c : u = j
    · rw [c, (f1 _ _ (by omega)).1, rdS]
    · exact g1 u (by omega) h2
theorem x_rs_2 {h : Nat} {ka : Int32 → Mm → Option Mm} (hh : h < 3) : ∀ (d i F : Nat) (M : Mm), i + d = 8 → d < F → ∃ M', sX2_resetReads_14 ka F (nI h) (nI i) M = ka (nI (h + 1)) M' ∧ Fr (fun id p => id = 159 ∧ 64 * h + 8 * i ≤ p ∧ p < 64 * h + 64) M M' ∧ ∀ p, 64 * h + 8 * i ≤ p → p < 64 * h + 64 → M'.1 159 p = rst p := by
  intro d
  induction d with
  | zero =>
    intro i F M hi hF
    obtain ⟨F, rfl⟩ : ∃ F', F = F' + 1 := ⟨F - 1, by omega⟩
    rw [sX2_resetReads_14, if_pos (show 8 ≤ nI i from nI_le (a := 8) (by omega) (by omega)), nI_1]
    exact ⟨M, rfl, Fr_rf _ _, fun u h1 h2 => by omega⟩
  | succ d ih =>
    intro i F M hi hF
    obtain ⟨F, rfl⟩ : ∃ F', F = F' + 1 := ⟨F - 1, by omega⟩
    rw [sX2_resetReads_14, if_neg (show ¬ 8 ≤ nI i from nle_nI (a := 8) (by omega) (by omega))]
    obtain ⟨A, e1, f1, g1⟩ := x_rs_3 (ka := ka) (kb := sX2_resetReads_14 ka F) hh (show i < 8 by omega) 8 0 4096 M (by omega) (by omega)
    obtain ⟨M', e2, f2, g2⟩ := ih (i + 1) F A (by omega) (by omega)
    refine ⟨M', e1.trans e2, Fr_tr (Fr_mo f1 (fun id p q => by omega)) (Fr_mo f2 (fun id p q => by omega)), fun p h1 h2 => ?_⟩
    by_cases c : p < 64 * h + 8 * i + 8
    · rw [(f2 _ _ (by omega)).1, show p = 64 * h + 8 * i + (p - (64 * h + 8 * i)) by omega]
      exact g1 _ (by omega) (by omega)
    · exact g2 p (by omega) h2
theorem x_rs_1 : ∀ (d h F : Nat) (M : Mm), h + d = 3 → d < F → ∃ M', sX2_resetReads_7 F (nI h) M = some M' ∧ Fr (fun id p => id = 159 ∧ 64 * h ≤ p ∧ p < 192) M M' ∧ ∀ p, 64 * h ≤ p → p < 192 → M'.1 159 p = rst p := by
  intro d
  induction d with
  | zero =>
    intro h F M hh hF
    obtain ⟨F, rfl⟩ : ∃ F', F = F' + 1 := ⟨F - 1, by omega⟩
    rw [sX2_resetReads_7, if_pos (show 3 ≤ nI h from nI_le (a := 3) (by omega) (by omega))]
    exact ⟨M, rfl, Fr_rf _ _, fun u h1 h2 => by omega⟩
  | succ d ih =>
    intro h F M hh hF
    obtain ⟨F, rfl⟩ : ∃ F', F = F' + 1 := ⟨F - 1, by omega⟩
    rw [sX2_resetReads_7, if_neg (show ¬ 3 ≤ nI h from nle_nI (a := 3) (by omega) (by omega))]
    obtain ⟨A, e1, f1, g1⟩ := x_rs_2 (ka := sX2_resetReads_7 F) (show h < 3 by omega) 8 0 4096 M (by omega) (by omega)
    obtain ⟨M', e2, f2, g2⟩ := ih (h + 1) F A (by omega) (by omega)
    refine ⟨M', e1.trans e2, Fr_tr (Fr_mo f1 (fun id p q => by omega)) (Fr_mo f2 (fun id p q => by omega)), fun p h1 h2 => ?_⟩
    by_cases c : p < 64 * h + 64
    · rw [(f2 _ _ (by omega)).1]
      exact g1 _ (by omega) (by omega)
    · exact g2 p (by omega) h2
theorem m_335 : ∀ (d x F : Nat) (M : Mm), x + d = 8 → d < F → (∀ u, u < x → M.1 225 u = 0) → ∃ M', sX12_key_335 F (nI x) M = some (M.1 194 34, M') ∧ Fr (fun id _ => id = 225) M M' ∧ ∀ u, u < 8 → M'.1 225 u = 0 := by
  intro d
  induction d with
  | zero =>
    intro x F M hx hF h0
    obtain ⟨F, rfl⟩ : ∃ F', F = F' + 1 := ⟨F - 1, by omega⟩
    rw [sX12_key_335, if_pos (show 8 ≤ nI x from nI_le (a := 8) (by omega) (by omega))]
    exact ⟨M, rfl, Fr_rf _ _, fun u h1 => h0 u (by omega)⟩
  | succ d ih =>
    intro x F M hx hF h0
    obtain ⟨F, rfl⟩ : ∃ F', F = F' + 1 := ⟨F - 1, by omega⟩
    rw [sX12_key_335, if_neg (show ¬ 8 ≤ nI x from nle_nI (a := 8) (by omega) (by omega)), ckT (inb_nI (show x < 8 by omega) (by decide)), nI_clamp (show x < 2 ^ 31 by omega), nI_1]
    obtain ⟨M', e1, f1, g1⟩ := ih (x + 1) F (sI M 225 x 0) (by omega) (by omega) (fun u hu => by
      by_cases c : u = x
      · rw [c, rdS]
      · rw [rdN (by omega)]; exact h0 u (by omega))
    rw [rdN (by omega)] at e1
    exact ⟨M', e1, Fr_tr (Fr_sI (Fr_rf _ _) rfl) f1, g1⟩
def cp0 (id x : Nat) (M : Mm) : Mm := sI M id x (M.1 id (96 + x))
def cp1 (id x : Nat) (M : Mm) : Mm := sI M id x (M.1 id (96 + x) - 96)
def cp2 (id x : Nat) (M : Mm) : Mm := sI M id x (M.1 id (16 + x))
/-- the nodes that were read are copied down -/
theorem m_87 {k : Nat} (hk : k ≤ 96) : ∀ (d x F : Nat) (M : Mm), x + d = k → d < F → M.1 194 35 = nI k → ∃ M', sX12_key_87 F (nI x) M = sX12_key_202 4096 0 M' ∧ Fr (fun id p => 213 ≤ id ∧ id ≤ 218 ∧ x ≤ p ∧ p < 96) M M' ∧ ∀ u, x ≤ u → u < k → (∀ a, 213 ≤ a ∧ a ≤ 215 → M'.1 a u = M.1 a (96 + u)) ∧ ∀ a, 216 ≤ a ∧ a ≤ 218 → M'.1 a u = M.1 a (96 + u) - 96 := by
  intro d
  induction d with
  | zero =>
    intro x F M hx hF h35
    obtain ⟨F, rfl⟩ : ∃ F', F = F' + 1 := ⟨F - 1, by omega⟩
    rw [sX12_key_87, h35, if_pos (nI_le (by omega) (by omega))]
    exact ⟨M, rfl, Fr_rf _ _, fun u h1 h2 => by omega⟩
  | succ d ih =>
    intro x F M hx hF h35
    obtain ⟨F, rfl⟩ : ∃ F', F = F' + 1 := ⟨F - 1, by omega⟩
    have ia := inb_nI (show 96 + x < 192 by omega) (by decide)
    have ib := inb_nI (show x < 192 by omega) (by decide)
    have f0 : Fr (fun id p => 213 ≤ id ∧ id ≤ 218 ∧ p = x) M (cp1 218 x (cp1 217 x (cp1 216 x (cp0 215 x (cp0 214 x (cp0 213 x M)))))) := Fr_sI (Fr_sI (Fr_sI (Fr_sI (Fr_sI (Fr_sI (Fr_rf _ _) (by omega)) (by omega)) (by omega)) (by omega)) (by omega)) (by omega)
    have w : (∀ a, 213 ≤ a ∧ a ≤ 215 → (cp1 218 x (cp1 217 x (cp1 216 x (cp0 215 x (cp0 214 x (cp0 213 x M)))))).1 a x = M.1 a (96 + x)) ∧ ∀ a, 216 ≤ a ∧ a ≤ 218 → (cp1 218 x (cp1 217 x (cp1 216 x (cp0 215 x (cp0 214 x (cp0 213 x M)))))).1 a x = M.1 a (96 + x) - 96 := by
      unfold cp1 cp0
      constructor
      · intro a ha
        have : a = 213 ∨ a = 214 ∨ a = 215 := by omega
        rcases this with h | h | h <;> subst h
        · rw [rdN (by omega), rdN (by omega), rdN (by omega), rdN (by omega), rdN (by omega), rdS]
        · rw [rdN (by omega), rdN (by omega), rdN (by omega), rdN (by omega), rdS, rdN (by omega)]
        · rw [rdN (by omega), rdN (by omega), rdN (by omega), rdS, rdN (by omega), rdN (by omega)]
      · intro a ha
        have : a = 216 ∨ a = 217 ∨ a = 218 := by omega
        rcases this with h | h | h <;> subst h
        · rw [rdN (by omega), rdN (by omega), rdS, rdN (by omega), rdN (by omega), rdN (by omega)]
        · rw [rdN (by omega), rdS, rdN (by omega), rdN (by omega), rdN (by omega), rdN (by omega)]
        · rw [rdS, rdN (by omega), rdN (by omega), rdN (by omega), rdN (by omega), rdN (by omega)]
    have e0 : sX12_key_87 (F + 1) (nI x) M = sX12_key_87 F (nI (x + 1)) (cp1 218 x (cp1 217 x (cp1 216 x (cp0 215 x (cp0 214 x (cp0 213 x M)))))) := by
      have e96 : (96 : Int32) + nI x = nI (96 + x) := by rw [show (96 : Int32) = nI 96 from rfl, nI_add]
      rw [sX12_key_87, h35, if_neg (nle_nI (by omega) (by omega)), e96, ckT ia, ckT ib, ckT ia, ckT ib, ckT ia, ckT ib, ckT ia, ckT ib, ckT ia, ckT ib, ckT ia, ckT ib, nI_clamp (show x < 2 ^ 31 by omega), nI_clamp (show 96 + x < 2 ^ 31 by omega), nI_1]
      rfl
    obtain ⟨M', e1, f1, g1⟩ := ih (x + 1) F _ (by omega) (by omega) ((f0 194 35 (by omega)).1.trans h35)
    refine ⟨M', e0.trans e1, Fr_tr (Fr_mo f0 (fun id p q => by omega)) (Fr_mo f1 (fun id p q => by omega)), fun u h1 h2 => ?_⟩
    by_cases c : u = x
    · subst c
      exact ⟨fun a ha => (f1 _ _ (by omega)).1.trans (w.1 a ha), fun a ha => (f1 _ _ (by omega)).1.trans (w.2 a ha)⟩
    · obtain ⟨g2, g3⟩ := g1 u (by omega) h2
      exact ⟨fun a ha => (g2 a ha).trans (f0 _ _ (by omega)).1, fun a ha => (g3 a ha).trans (by rw [(f0 _ _ (by omega)).1])⟩
theorem m_202 {L : Nat} (hL : L ≤ 16) : ∀ (d x F : Nat) (M : Mm), x + d = L → d < F → M.1 194 34 = nI L → ∃ M', sX12_key_202 F (nI x) M = sX12_key_263 4096 0 M' ∧ Fr (fun id p => 210 ≤ id ∧ id ≤ 212 ∧ x ≤ p ∧ p < 16) M M' ∧ ∀ u, x ≤ u → u < L → ∀ a, 210 ≤ a ∧ a ≤ 212 → M'.1 a u = M.1 a (16 + u) := by
  intro d
  induction d with
  | zero =>
    intro x F M hx hF h34
    obtain ⟨F, rfl⟩ : ∃ F', F = F' + 1 := ⟨F - 1, by omega⟩
    rw [sX12_key_202, h34, if_pos (nI_le (by omega) (by omega))]
    exact ⟨M, rfl, Fr_rf _ _, fun u h1 h2 => by omega⟩
  | succ d ih =>
    intro x F M hx hF h34
    obtain ⟨F, rfl⟩ : ∃ F', F = F' + 1 := ⟨F - 1, by omega⟩
    have ia := inb_nI (show 16 + x < 32 by omega) (by decide)
    have ib := inb_nI (show x < 32 by omega) (by decide)
    have f0 : Fr (fun id p => 210 ≤ id ∧ id ≤ 212 ∧ p = x) M (cp2 212 x (cp2 211 x (cp2 210 x M))) := Fr_sI (Fr_sI (Fr_sI (Fr_rf _ _) (by omega)) (by omega)) (by omega)
    have w : ∀ a, 210 ≤ a ∧ a ≤ 212 → (cp2 212 x (cp2 211 x (cp2 210 x M))).1 a x = M.1 a (16 + x) := by
      unfold cp2
      intro a ha
      have : a = 210 ∨ a = 211 ∨ a = 212 := by omega
      rcases this with h | h | h <;> subst h
      · rw [rdN (by omega), rdN (by omega), rdS]
      · rw [rdN (by omega), rdS, rdN (by omega)]
      · rw [rdS, rdN (by omega), rdN (by omega)]
    have e0 : sX12_key_202 (F + 1) (nI x) M = sX12_key_202 F (nI (x + 1)) (cp2 212 x (cp2 211 x (cp2 210 x M))) := by
      have e16 : (16 : Int32) + nI x = nI (16 + x) := by rw [show (16 : Int32) = nI 16 from rfl, nI_add]
      rw [sX12_key_202, h34, if_neg (nle_nI (by omega) (by omega)), e16, ckT ia, ckT ib, ckT ia, ckT ib, ckT ia, ckT ib, nI_clamp (show x < 2 ^ 31 by omega), nI_clamp (show 16 + x < 2 ^ 31 by omega), nI_1]
      rfl
    obtain ⟨M', e1, f1, g1⟩ := ih (x + 1) F _ (by omega) (by omega) ((f0 194 34 (by omega)).1.trans h34)
    refine ⟨M', e0.trans e1, Fr_tr (Fr_mo f0 (fun id p q => by omega)) (Fr_mo f1 (fun id p q => by omega)), fun u h1 h2 a ha => ?_⟩
    by_cases c : u = x
    · subst c
      exact (f1 _ _ (by omega)).1.trans (w a ha)
    · exact (g1 u (by omega) h2 a ha).trans (f0 _ _ (by omega)).1
