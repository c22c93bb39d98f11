/-- a node of the model's key: knot, number, left, right -/
abbrev Nd := Cd × Nat × Nat × Nat
def mN_ (n : Nd) (M : Mm) : Prop := n.2.1 < 96 ∧ mC_ n.2.1 n.1 M ∧ sOk n.1 ∧ (n.1.1 = 14 ∨ n.1.1 = 15 → M.1 217 n.2.1 = nI n.2.2.2) ∧ (14 ≤ n.1.1 ∧ n.1.1 ≠ 17 ∧ n.1.1 ≠ 23 → M.1 216 n.2.1 = nI n.2.2.1)
/-- one node over a stack of numbers -/
def opI (n : Nd) (s : List Nat) : Option (List Nat) :=
  if n.1.1 ≤ 13 ∨ n.1.1 = 17 ∨ n.1.1 = 23 then (if n.2.1 ∈ s then none else some (n.2.1 :: s)) else
  if n.1.1 = 14 ∨ n.1.1 = 15 then (match s with
    | y :: x :: r => if n.2.2.1 = x ∧ n.2.2.2 = y ∧ n.2.1 ∉ r then some (n.2.1 :: r) else none
    | _ => none) else
  (match s with
    | x :: r => if n.2.2.1 = x ∧ n.2.1 ∉ r then some (n.2.1 :: r) else none
    | _ => none)
def mV (m : Nat) (x : Bool × (Nat → Bool)) : Int32 := if x.1 = true then nI (msk x.2 m) else b2 (x.2 0)
/-- the model's stack -/
def Mk (m : Nat) (M : Mm) : List Nat → Sv → Prop
  | [], [] => True
  | p :: s, x :: st => p < 96 ∧ M.1 222 p = mV m x ∧ M.1 223 p = b2 x.1 ∧ Mk m M s st
  | _, _ => False
theorem Mk_sI {m a p : Nat} {v : Int32} {M : Mm} : ∀ (s : List Nat) (st : Sv), p ∉ s → Mk m M s st → Mk m (sI M a p v) s st := by
  intro s
  induction s with
  | nil =>
    intro st hp h
    match st, h with
    | [], _ => trivial
  | cons q s ih =>
    intro st hp h
    match st, h with
    | x :: st, h =>
      have hq : p ≠ q := fun e => hp (by rw [e]; exact List.mem_cons_self)
      exact ⟨h.1, by rw [rdN (by omega)]; exact h.2.1, by rw [rdN (by omega)]; exact h.2.2.1, ih st (fun e => hp (List.mem_cons_of_mem _ e)) h.2.2.2⟩
theorem b2_not (b : Bool) : (1 &&& (b2 b ^^^ (-1))) = b2 (!b) := by cases b <;> decide
theorem b2_and (a b : Bool) : b2 a &&& b2 b = b2 (a && b) := by cases a <;> cases b <;> decide
theorem b2_or (a b : Bool) : b2 a ||| b2 b = b2 (a || b) := by cases a <;> cases b <;> decide
theorem b2_01 (b : Bool) : (if b2 b = 0 then (0 : Int32) else 1) = b2 b := by cases b <;> decide
theorem m_op {i m l q0 j N F : Nat} {n : Nd} {D : Nat → Nat → Nat} {s s' : List Nat} {st st' : Sv} {M : Mm} {x4 : Int32} {k13 : Int32 → Int32 → Int32 → Mm → Option (Int32 × Mm)} (hi : i < 60) (hl16 : l < 16) (hN : N ≤ 96) (hq : q0 + N ≤ 96) (hj : j < N) (h212 : M.1 212 l = nI N) (h211 : M.1 211 l = nI q0) (h218 : M.1 218 (q0 + j) = nI n.2.1) (hn : mN_ n M) (hb : mB_ i m D M) (hl : lyOk m D) (hk : Mk m M s st) (hI : opI n s = some s') (ho : opV n.1 D m st = some st') : ∃ M', sX12_lineOf_27 k13 (F + 1) (nI i) (nI (2 ^ m - 1)) (nI l) x4 (nI j) M = sX12_lineOf_27 k13 F (nI i) (nI (2 ^ m - 1)) (nI l) (nI n.2.1) (nI (j + 1)) M' ∧ Fr pEv M M' ∧ Mk m M' s' st' := by
  obtain ⟨c, p, lf, rg⟩ := n
  obtain ⟨hp, hc, hs, h217, h216⟩ := hn
  dsimp only at hp hc hs h217 h216 h218 ho ⊢
  have i96 := inb_nI hp (by decide)
  have ib := inb_nI (show p < 192 by omega) (by decide)
  have il := inb_nI (show l < 32 by omega) (by decide)
  have ii := inb_nI hi (by decide)
  have hm := hl.2.1
  have c24 := hc.2.2.2.1
  have hc1 := hc.1
  have cp : (nI p).toNatClampNeg = p := nI_clamp (by omega)
  have wr : ∀ (x : Bool × (Nat → Bool)) (s : List Nat) (st : Sv) (a b : Int32), a = mV m x → b = b2 x.1 → p ∉ s → Mk m M s st → Fr pEv M (sI (sI M 222 p a) 223 p b) ∧ Mk m (sI (sI M 222 p a) 223 p b) (p :: s) (x :: st) := fun x s st a b h1 h2 h3 h4 =>
    ⟨Fr_sI (Fr_sI (Fr_rf _ _) (Or.inl rfl)) (Or.inr rfl), hp, by rw [rdN (by omega), rdS, h1], by rw [rdS, h2], Mk_sI _ _ h3 (Mk_sI _ _ h3 h4)⟩
  have wr2 : ∀ (x : Bool × (Nat → Bool)) (s : List Nat) (st : Sv) (a b : Int32), a = mV m x → b = b2 x.1 → p ∉ s → Mk m M s st → Fr pEv M (sI (sI M 223 p b) 222 p a) ∧ Mk m (sI (sI M 223 p b) 222 p a) (p :: s) (x :: st) := fun x s st a b h1 h2 h3 h4 =>
    ⟨Fr_sI (Fr_sI (Fr_rf _ _) (Or.inr rfl)) (Or.inl rfl), hp, by rw [rdS, h1], by rw [rdN (by omega), rdS, h2], Mk_sI _ _ h3 (Mk_sI _ _ h3 h4)⟩
  rw [sX12_lineOf_27, ckT il, nI_clamp (show l < 2 ^ 31 by omega), h212, if_neg (nle_nI hj (by omega)), ckT il, h211, nI_add, ckT (inb_nI (show q0 + j < 192 by omega) (by decide)), nI_clamp (show q0 + j < 2 ^ 31 by omega), h218, ckT ib, cp, hc1]
  unfold sX12_lineOf_81 sX12_lineOf_356 sX12_lineOf_360 sX12_lineOf_361 sX12_lineOf_379 sX12_lineOf_380
  rw [cp, show nI j + 1 = nI (j + 1) by rw [nI_1]]
  unfold opI at hI
  unfold opV at ho
  dsimp only at hI
  by_cases c13 : c.1 ≤ 13
  · rw [if_pos c13] at ho
    cases ho
    rw [if_pos (Or.inl c13)] at hI
    by_cases hps : p ∈ s
    · rw [if_pos hps] at hI; cases hI
    rw [if_neg hps] at hI
    cases hI
    rw [m_leaf hp hi hc hs hb hl c13, Option.bind_some]
    dsimp only
    rw [ckT i96, ckT i96]
    have w := wr (true, lfV c D) s st (nI (msk (lfV c D) m)) 1 rfl rfl hps hk
    by_cases c12 : c.1 ≤ 12
    · rw [if_pos (show nI (mn c.1) ≤ 12 by rw [show mn c.1 = c.1 from if_pos c12]; exact nI_le (b := 12) c12 (by omega))]
      exact ⟨_, rfl, w⟩
    · have : mn c.1 = 23 := by rw [show c.1 = 13 by omega]; rfl
      rw [if_neg (show ¬ nI (mn c.1) ≤ 12 by rw [this]; decide), if_pos (show nI (mn c.1) = 23 by rw [this]; rfl)]
      exact ⟨_, rfl, w⟩
  sorry
