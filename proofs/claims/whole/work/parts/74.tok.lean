def cwl : List Nat := [624068, 632212, 408621, 110649, 529460, 3409291, 2491499, 2703086, 18596, 247993, 24389253, 14483599524, 659011763, 109, 498, 1476, 14836, 46892851, 1497, 1420, 52, 21242987, 215533, 136368]
def mwl : List Nat := [624068, 632212, 408621, 110649, 529460, 3409291, 2491499, 2703086, 18596, 247993, 24389253, 14483599524, 659011763, 498, 1476, 14836, 46892851, 1497, 1420, 52, 21242987, 215533, 136368, 109]
def wml : List Int32 := [115, 97, 110, 100, 32, 115, 105, 108, 116, 32, 108, 111, 97, 109, 32, 99, 108, 97, 121, 32, 112, 101, 97, 116, 32, 99, 104, 97, 108, 107, 32, 98, 108, 97, 99, 107, 32, 98, 114, 111, 119, 110, 32, 114, 101, 100, 32, 103, 114, 101, 121, 32, 119, 104, 105, 116, 101, 32, 109, 111, 116, 116, 108, 101, 100, 32, 115, 116, 111, 110, 101, 115, 32, 111, 114, 32, 97, 110, 100, 32, 110, 111, 116, 32, 97, 108, 119, 97, 121, 115, 32, 97, 110, 121, 32, 97, 108, 108, 32, 97, 116, 32, 116, 104, 105, 99, 107, 32, 102, 114, 111, 109, 32, 100, 101, 101, 112, 32, 99, 109, 32]
def ofl : List Nat := [0, 5, 10, 15, 20, 25, 31, 37, 43, 47, 52, 58, 66, 73, 76, 80, 84, 91, 95, 99, 102, 108, 113, 118, 121]
def lnl : List Nat := [4, 4, 4, 4, 4, 5, 5, 5, 3, 4, 5, 7, 6, 2, 3, 3, 6, 3, 3, 2, 5, 4, 4, 2]
def cwE (i : Nat) : Nat := cwl.getD i 0
def mwE (i : Nat) : Nat := mwl.getD i 0
def prm (i : Nat) : Nat := if i ≤ 12 then i else if i = 13 then 23 else i - 1
def iWx (M : Mm) : Prop := ∀ i, i < 24 → M.2 4 i = Int64.ofNat (cwE i)
def fxw (p : Nat → Bool) : Nat → Nat → Int32
  | 0, _ => -1
  | f + 1, i => if p i = true then nI i else fxw p f (i + 1)
theorem lg_eq {x y : Int64} : lg_cmp x y = 0 ↔ x = y := by
  unfold lg_cmp
  by_cases c1 : x > y
  · rw [if_pos c1]
    exact ⟨fun q => absurd q (by decide), fun q => by rw [q] at c1; exact absurd c1 Int64.lt_irrefl⟩
  · rw [if_neg c1]
    by_cases c2 : x = y
    · rw [if_pos c2]; exact ⟨fun _ => c2, fun _ => rfl⟩
    · rw [if_neg c2]; exact ⟨fun q => absurd q (by decide), fun q => absurd q c2⟩
theorem ofN_inj {a b : Nat} (ha : a < 2 ^ 63) (hb : b < 2 ^ 63) : Int64.ofNat a = Int64.ofNat b ↔ a = b := by
  constructor
  · intro h
    have := congrArg Int64.toInt h
    rw [Int64.toInt_ofNat_of_lt (by omega), Int64.toInt_ofNat_of_lt (by omega)] at this
    omega
  · intro h; rw [h]
theorem cwE_lt : ∀ i, i < 24 → cwE i < 2 ^ 40 := by decide
theorem mwE_lt : ∀ i, i < 24 → mwE i < 2 ^ 40 := by decide
theorem cmw_eq : ∀ i, i < 24 → prm i < 24 ∧ cwE i = mwE (prm i) := by decide
theorem mc_ex : ∀ j, j < 24 → ∃ i, i < 24 ∧ prm i = j := by decide
theorem mw_inj : ∀ i, i < 24 → ∀ j, j < 24 → mwE i = mwE j → i = j := by decide
theorem fxw_no {p : Nat → Bool} : ∀ f i, (∀ j, i ≤ j → j < i + f → p j = false) → fxw p f i = -1 := by
  intro f
  induction f with
  | zero => intro i _; rfl
  | succ f ih =>
    intro i h
    rw [fxw, h i (Nat.le_refl i) (by omega), if_neg (by decide)]
    exact ih (i + 1) (fun j h1 h2 => h j (by omega) (by omega))
theorem fxw_yes {p : Nat → Bool} {k : Nat} (hk : p k = true) : ∀ f i, i ≤ k → k < i + f → (∀ j, i ≤ j → j < k → p j = false) → fxw p f i = nI k := by
  intro f
  induction f with
  | zero => intro i h1 h2; omega
  | succ f ih =>
    intro i h1 h2 h3
    rw [fxw]
    by_cases e : i = k
    · rw [e, if_pos hk]
    · rw [h3 i (Nat.le_refl i) (by omega), if_neg (by decide)]
      exact ih (i + 1) (by omega) (by omega) (fun j h1 h2 => h3 j (by omega) h2)
/-- the word's number, as the class and as the model count them -/
def xwn (e : Nat) : Int32 := fxw (fun i => decide (cwE i = e)) 24 0
def mwn (e : Nat) : Int32 := fxw (fun i => decide (mwE i = e)) 24 0
theorem wn_rel (e : Nat) : (xwn e = -1 ∧ mwn e = -1) ∨ ∃ i, i < 24 ∧ xwn e = nI i ∧ mwn e = nI (prm i) := by
  by_cases h : ∃ i, i < 24 ∧ cwE i = e
  · obtain ⟨i, hi, ei⟩ := h
    obtain ⟨p1, p2⟩ := cmw_eq i hi
    have hc : ∀ j, j < 24 → cwE j = e → j = i := fun j hj ej => by
      obtain ⟨q1, q2⟩ := cmw_eq j hj
      have h9 := mw_inj _ q1 _ p1 (by rw [← q2, ← p2, ej, ei])
      unfold prm at h9
      split at h9 <;> split at h9 <;> (try split at h9) <;> (try split at h9) <;> omega
    refine Or.inr ⟨i, hi, fxw_yes (by simp [ei]) 24 0 (by omega) (by omega) (fun j _ h2 => ?_), fxw_yes (by simp [← p2, ei]) 24 0 (by omega) (by omega) (fun j _ h2 => ?_)⟩
    · exact decide_eq_false (fun q => by have := hc j (by omega) q; omega)
    · exact decide_eq_false (fun q => by have := mw_inj j (by omega) _ p1 (by rw [q, ← p2, ei]); omega)
  · refine Or.inl ⟨fxw_no 24 0 (fun j _ h2 => decide_eq_false (fun q => h ⟨j, by omega, q⟩)), fxw_no 24 0 (fun j _ h2 => decide_eq_false (fun q => ?_))⟩
    obtain ⟨i, hi, ep⟩ := mc_ex j (by omega)
    exact h ⟨i, hi, by rw [(cmw_eq i hi).2, ep]; exact q⟩
theorem x_wno {e : Nat} {M : Mm} (hw : iWx M) (he : e < 2 ^ 40) (e7 : M.2 3 7 = Int64.ofNat e) : sX10_wordNumber M = some (xwn e, M) := by
  have go : ∀ (f i F : Nat), i + f = 24 → f < F → sX10_wordNumber_2 F (nI i) M = some (fxw (fun i => decide (cwE i = e)) f i, M) := by
    intro f
    induction f with
    | zero =>
      intro i F hi hF
      obtain ⟨F, rfl⟩ : ∃ G, F = G + 1 := ⟨F - 1, by omega⟩
      have : i = 24 := by omega
      subst this
      rw [sX10_wordNumber_2, if_pos (by decide)]
      rfl
    | succ f ih =>
      intro i F hi hF
      obtain ⟨F, rfl⟩ : ∃ G, F = G + 1 := ⟨F - 1, by omega⟩
      have h9 := cwE_lt i (by omega)
      rw [sX10_wordNumber_2, if_neg (lit_nle (v := 24) (n := 24) rfl (by omega) (by decide)), ckT (inb_nI (by omega) (by decide)), nI_clamp (by omega), hw i (by omega), e7, nI_1, fxw]
      by_cases c : cwE i = e
      · rw [if_pos (lg_eq.mpr (by rw [c])), if_pos (decide_eq_true c)]
      · rw [if_neg (fun q => c ((ofN_inj (by omega) (by omega)).mp (lg_eq.mp q))), if_neg (by simp [c])]
        exact ih (i + 1) F (by omega) (by omega)
  exact go 24 0 4096 (by omega) (by omega)
/-- the token that is read from place q on -/
def tA (T : Nat → Int32) (n q : Nat) : Nat := rnE isB T n q
def tS (T : Nat → Int32) (n q : Nat) : Nat := if tA T n q < n then (if isD (T (tA T n q)) = true then 1 else if isL (T (tA T n q)) = true then 2 else 3) else 0
def sgE (T : Nat → Int32) (n a : Nat) : Bool := (decide (T a = 60) || decide (T a = 62)) && decide (a + 1 < n) && decide (T (a + 1) = 61)
def tE (T : Nat → Int32) (n q : Nat) : Nat := if tA T n q < n then (if isD (T (tA T n q)) = true then rnE isD T n (tA T n q) else if isL (T (tA T n q)) = true then rnE isL T n (tA T n q) else if sgE T n (tA T n q) = true then tA T n q + 2 else tA T n q + 1) else tA T n q
def xV (T : Nat → Int32) (n q : Nat) : Int32 := if isD (T (tA T n q)) = true then nI (min (mN T (tA T n q) (tE T n q - tA T n q)) 1000) else if isL (T (tA T n q)) = true then (if tE T n q - tA T n q ≤ 8 then xwn (enc T (tA T n q) (tE T n q - tA T n q)) else -2) else if sgE T n (tA T n q) = true then T (tA T n q) + 256 else T (tA T n q)
def xLt (T : Nat → Int32) (n q : Nat) : Int64 := Int64.ofNat (enc T (tA T n q) (min (tE T n q - tA T n q) 8))
/-- the class's scanner stands on it -/
def XT (T : Nat → Int32) (n q : Nat) (M : Mm) : Prop := M.1 3 2 = nI n ∧ M.1 3 3 = nI (tE T n q) ∧ M.1 3 5 = nI (tA T n q) ∧ M.1 3 4 = nI (tS T n q) ∧ (tS T n q ≠ 0 → M.1 3 6 = xV T n q) ∧ (tS T n q = 2 → M.2 3 7 = xLt T n q)
def pXs (id k : Nat) : Prop := id = 3 ∧ 3 ≤ k ∧ k ≤ 7
theorem tE_le {T : Nat → Int32} {n q : Nat} (hq : q ≤ n) : q ≤ tA T n q ∧ tA T n q ≤ tE T n q ∧ tE T n q ≤ n ∧ (tS T n q ≠ 0 → q < tE T n q) := by
  obtain ⟨h1, h2, h3, h4⟩ := rnE_b (p := isB) (T := T) (n := n) (n - q) q rfl hq
  unfold tS tE tA
  generalize rnE isB T n q = a at h1 h2 h3 h4
  by_cases c : a < n
  · rw [if_pos c, if_pos c]
    by_cases c1 : isD (T a) = true
    · obtain ⟨k1, k2, k3, k4⟩ := rnE_b (p := isD) (T := T) (n := n) (n - a) a rfl h2
      rw [if_pos c1, if_pos c1]
      have : a < rnE isD T n a := by
        rcases Nat.lt_or_ge a (rnE isD T n a) with q | q
        · exact q
        · have e : rnE isD T n a = a := by omega
          rw [e] at k3
          exact absurd ⟨c, c1⟩ k3
      exact ⟨h1, by omega, k2, fun _ => by omega⟩
    · rw [if_neg c1, if_neg c1]
      by_cases c2 : isL (T a) = true
      · obtain ⟨k1, k2, k3, k4⟩ := rnE_b (p := isL) (T := T) (n := n) (n - a) a rfl h2
        rw [if_pos c2, if_pos c2]
        have : a < rnE isL T n a := by
          rcases Nat.lt_or_ge a (rnE isL T n a) with q | q
          · exact q
          · have e : rnE isL T n a = a := by omega
            rw [e] at k3
            exact absurd ⟨c, c2⟩ k3
        exact ⟨h1, by omega, k2, fun _ => by omega⟩
      · rw [if_neg c2, if_neg c2]
        by_cases c3 : sgE T n a = true
        · rw [if_pos c3]
          unfold sgE at c3
          simp only [Bool.and_eq_true, decide_eq_true_eq] at c3
          exact ⟨h1, by omega, by omega, fun _ => by omega⟩
        · rw [if_neg c3]
          exact ⟨h1, by omega, by omega, fun _ => by omega⟩
  · rw [if_neg c, if_neg c]
    exact ⟨h1, Nat.le_refl _, h2, fun q => absurd rfl q⟩
