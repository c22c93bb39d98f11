/-- a knot: word (as the class counts), sign 1..5, number -/
abbrev Cd := Nat × Nat × Nat
abbrev Sv := List (Bool × (Nat → Bool))
def cmpN (s x a : Nat) : Bool := if s = 1 then decide (x < a) else if s = 2 then decide (x ≤ a) else if s = 3 then decide (x = a) else if s = 4 then decide (a ≤ x) else decide (a < x)
def sgx (s : Nat) : Int32 := if s = 1 then 60 else if s = 2 then 316 else if s = 3 then 61 else if s = 4 then 318 else if s = 5 then 62 else 0
def lfV (c : Cd) (D : Nat → Nat → Nat) (k : Nat) : Bool := if c.1 ≤ 5 then decide (D k 2 = c.1) else if c.1 ≤ 10 then decide (D k 3 = c.1 - 6) else if c.1 = 11 then decide (D k 4 = 1) else if c.1 = 12 then cmpN c.2.1 (D k 5) c.2.2 else cmpN c.2.1 (D k 1 - D k 0) c.2.2
def anV (v : Nat → Bool) : Nat → Bool
  | 0 => false
  | k + 1 => anV v k || v k
def thV (v : Nat → Bool) (D : Nat → Nat → Nat) : Nat → Nat
  | 0 => 0
  | k + 1 => thV v D k + if v k = true then D k 1 - D k 0 else 0
def atV (v : Nat → Bool) (D : Nat → Nat → Nat) (a : Nat) : Nat → Bool
  | 0 => false
  | k + 1 => atV v D a k || (v k && decide (D k 0 ≤ a) && decide (a < D k 1))
/-- where the first layer of the set begins, from layer k on -/
def fbV (v : Nat → Bool) (D : Nat → Nat → Nat) : Nat → Nat → Nat
  | 0, _ => 999
  | f + 1, k => if v k = true then D k 0 else fbV v D f (k + 1)
def qvV (c : Cd) (v : Nat → Bool) (D : Nat → Nat → Nat) (m : Nat) : Bool := if c.1 = 18 then anV v m else if c.1 = 19 then !anV (fun k => !v k) m else if c.1 = 20 then atV v D c.2.2 m else if c.1 = 21 then cmpN c.2.1 (thV v D m) c.2.2 else cmpN c.2.1 (fbV v D m 0) c.2.2
/-- one knot over a stack of sets -/
def opV (c : Cd) (D : Nat → Nat → Nat) (m : Nat) (st : Sv) : Option Sv :=
  if c.1 ≤ 13 then some ((true, lfV c D) :: st) else
  if c.1 = 14 ∨ c.1 = 15 then (match st with
    | y :: x :: r => if x.1 = y.1 then some ((x.1, fun k => if c.1 = 15 then x.2 k && y.2 k else x.2 k || y.2 k) :: r) else none
    | _ => none) else
  if c.1 = 16 then (match st with
    | x :: r => some ((x.1, fun k => !x.2 k) :: r)
    | _ => none) else
  if c.1 = 17 then some ((false, fun _ => true) :: st) else
  if c.1 = 23 then some ((false, fun _ => cmpN c.2.1 (D (m - 1) 1) c.2.2) :: st) else
  (match st with
    | x :: r => if x.1 = true then some ((false, fun _ => qvV c x.2 D m) :: r) else none
    | _ => none)
def rnV (D : Nat → Nat → Nat) (m : Nat) : List Cd → Sv → Option Sv
  | [], st => some st
  | c :: cs, st => (opV c D m st).bind (rnV D m cs)
theorem rnV_ap {D : Nat → Nat → Nat} {m : Nat} : ∀ (a b : List Cd) (st : Sv), rnV D m (a ++ b) st = (rnV D m a st).bind (rnV D m b) := by
  intro a
  induction a with
  | nil => intro b st; rfl
  | cons c a ih =>
    intro b st
    show (opV c D m st).bind (rnV D m (a ++ b)) = ((opV c D m st).bind (rnV D m a)).bind (rnV D m b)
    cases opV c D m st with
    | none => rfl
    | some s => exact ih b s
def cstV (st : Sv) : Prop := ∀ x ∈ st, x.1 = false → ∀ k, x.2 k = x.2 0
theorem opV_c {c : Cd} {D : Nat → Nat → Nat} {m : Nat} {st st' : Sv} (h : opV c D m st = some st') (hc : cstV st) : cstV st' := by
  unfold opV at h
  by_cases c1 : c.1 ≤ 13
  · rw [if_pos c1] at h
    cases h
    intro x hx hf
    rcases List.mem_cons.mp hx with q | q
    · rw [q] at hf; cases hf
    · exact hc x q hf
  rw [if_neg c1] at h
  by_cases c2 : c.1 = 14 ∨ c.1 = 15
  · rw [if_pos c2] at h
    match st, h, hc with
    | y :: x :: r, h, hc =>
      dsimp only at h
      by_cases e : x.1 = y.1
      · rw [if_pos e] at h
        cases h
        intro z hz hf k
        rcases List.mem_cons.mp hz with q | q
        · subst q
          have h1 := hc x (by simp) hf k
          have h2 := hc y (by simp) (e ▸ hf) k
          dsimp only
          rw [h1, h2]
        · exact hc z (by simp [q]) hf k
      · rw [if_neg e] at h; cases h
    | [], h, hc => cases h
    | [_], h, hc => cases h
  rw [if_neg c2] at h
  by_cases c3 : c.1 = 16
  · rw [if_pos c3] at h
    match st, h, hc with
    | x :: r, h, hc =>
      cases h
      intro z hz hf k
      rcases List.mem_cons.mp hz with q | q
      · subst q
        have h1 := hc x (by simp) hf k
        dsimp only
        rw [h1]
      · exact hc z (by simp [q]) hf k
    | [], h, hc => cases h
  rw [if_neg c3] at h
  by_cases c4 : c.1 = 17
  · rw [if_pos c4] at h
    cases h
    intro z hz hf k
    rcases List.mem_cons.mp hz with q | q
    · subst q; rfl
    · exact hc z q hf k
  rw [if_neg c4] at h
  by_cases c5 : c.1 = 23
  · rw [if_pos c5] at h
    cases h
    intro z hz hf k
    rcases List.mem_cons.mp hz with q | q
    · subst q; rfl
    · exact hc z q hf k
  rw [if_neg c5] at h
  match st, h, hc with
  | x :: r, h, hc =>
    dsimp only at h
    by_cases e : x.1 = true
    · rw [if_pos e] at h
      cases h
      intro z hz hf k
      rcases List.mem_cons.mp hz with q | q
      · subst q; rfl
      · exact hc z (by simp [q]) hf k
    · rw [if_neg e] at h; cases h
  | [], h, hc => cases h
/-- a bore's layers, as they may be -/
def lyOk (m : Nat) (D : Nat → Nat → Nat) : Prop := 1 ≤ m ∧ m ≤ 8 ∧ D 0 0 = 0 ∧ (∀ k, k < m → D k 0 < D k 1 ∧ D k 1 ≤ 300 ∧ ∀ j, j < 6 → D k j ≤ 300) ∧ ∀ k, k + 1 < m → D (k + 1) 0 = D k 1
/-- the class's note and key -/
def xB_ (i m : Nat) (D : Nat → Nat → Nat) (M : Mm) : Prop := M.1 (38 + 2 * i) 3 = nI m ∧ ∀ k j, k < m → j < 6 → M.1 (39 + 2 * i) (6 * k + j) = nI (D k j)
def xC_ (r p : Nat) (c : Cd) (M : Mm) : Prop := M.1 (r + 1) p = nI c.1 ∧ M.1 (r + 2) p = sgx c.2.1 ∧ M.1 (r + 3) p = nI c.2.2 ∧ c.1 < 24 ∧ c.2.1 ≤ 5 ∧ c.2.2 ≤ 999
theorem x_get {i m k j : Nat} {D : Nat → Nat → Nat} {M : Mm} (h : xB_ i m D M) (hm : m ≤ 8) (hk : k < m) (hj : j < 6) : sX7_get (38 + 2 * i) (nI k) (nI j) M = some (nI (D k j), M) := by
  unfold sX7_get
  rw [show (6 : Int32) = nI 6 from rfl, nI_mul, nI_add, ckT (inb_nI (by omega) (by decide)), nI_clamp (by omega), show 38 + 2 * i + 1 = 39 + 2 * i by omega, Nat.mul_comm k 6, h.2 k j hk hj]
theorem cmp_1 (x a : Nat) : cmpN 1 x a = decide (x < a) := rfl
theorem cmp_2 (x a : Nat) : cmpN 2 x a = decide (x ≤ a) := rfl
theorem cmp_3 (x a : Nat) : cmpN 3 x a = decide (x = a) := rfl
theorem cmp_4 (x a : Nat) : cmpN 4 x a = decide (a ≤ x) := rfl
theorem cmp_5 (x a : Nat) : cmpN 5 x a = decide (a < x) := rfl
theorem x_cmp {r p x : Nat} {c : Cd} {M : Mm} (hp : p < 96) (hc : xC_ r p c M) (hs : 1 ≤ c.2.1) (hx : x ≤ 10000) : sX4_compares r (nI x) (nI p) M = some (b2 (cmpN c.2.1 x c.2.2), M) := by
  obtain ⟨h1, h2, h3, h4, h5, h6⟩ := hc
  have ib := inb_nI hp (by decide)
  unfold sX4_compares
  simp only [ckT ib, nI_clamp (show p < 2 ^ 31 by omega), h2, h3]
  have hs5 : c.2.1 = 1 ∨ c.2.1 = 2 ∨ c.2.1 = 3 ∨ c.2.1 = 4 ∨ c.2.1 = 5 := by omega
  rcases hs5 with q | q | q | q | q
  · rw [q, cmp_1, show sgx 1 = 60 from rfl, if_pos rfl]
    by_cases z : x < c.2.2
    · rw [if_neg (nle_nI z (by omega)), decide_eq_true z]; rfl
    · rw [if_pos (nI_le (by omega) (by omega)), decide_eq_false z]; rfl
  · rw [q, cmp_2, show sgx 2 = 316 from rfl, if_neg (show ¬ (316 : Int32) = 60 by decide), if_neg (show ¬ (316 : Int32) = 61 by decide), if_pos rfl]
    by_cases z : x ≤ c.2.2
    · rw [if_neg (nlt_nI z (by omega)), decide_eq_true z]; rfl
    · rw [if_pos (nI_lt (by omega) (by omega)), decide_eq_false z]; rfl
  · rw [q, cmp_3, show sgx 3 = 61 from rfl, if_neg (show ¬ (61 : Int32) = 60 by decide), if_pos rfl]
    by_cases z : x = c.2.2
    · rw [if_pos (by rw [z]), decide_eq_true z]; rfl
    · rw [if_neg (ne_nI z (by omega) (by omega)), decide_eq_false z]; rfl
  · rw [q, cmp_4, show sgx 4 = 318 from rfl, if_neg (show ¬ (318 : Int32) = 60 by decide), if_neg (show ¬ (318 : Int32) = 61 by decide), if_neg (show ¬ (318 : Int32) = 316 by decide), if_pos rfl]
    by_cases z : c.2.2 ≤ x
    · rw [if_neg (nlt_nI z (by omega)), decide_eq_true z]; rfl
    · rw [if_pos (nI_lt (by omega) (by omega)), decide_eq_false z]; rfl
  · rw [q, cmp_5, show sgx 5 = 62 from rfl, if_neg (show ¬ (62 : Int32) = 60 by decide), if_neg (show ¬ (62 : Int32) = 61 by decide), if_neg (show ¬ (62 : Int32) = 316 by decide), if_neg (show ¬ (62 : Int32) = 318 by decide)]
    by_cases z : c.2.2 < x
    · rw [if_neg (nle_nI z (by omega)), decide_eq_true z]; rfl
    · rw [if_pos (nI_le (by omega) (by omega)), decide_eq_false z]; rfl
