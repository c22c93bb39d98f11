/-- a node of the model's key: knot, number, left, right -/
abbrev Nd := Cd × Nat × Nat × Nat
def mN_ (n : Nd) (M : Mm) : Prop := n.2.1 < 96 ∧ mC_ n.2.1 n.1 M ∧ sOk n.1 ∧ (n.1.1 = 14 ∨ n.1.1 = 15 → M.1 217 n.2.1 = nI n.2.2.2) ∧ (14 ≤ n.1.1 ∧ n.1.1 ≠ 17 ∧ n.1.1 ≠ 23 → M.1 216 n.2.1 = nI n.2.2.1)
/-- one node over a stack of numbers -/
def opI (n : Nd) (s : List Nat) : Option (List Nat) :=
  if n.1.1 ≤ 13 ∨ n.1.1 = 17 ∨ n.1.1 = 23 then (if n.2.1 ∈ s then none else some (n.2.1 :: s)) else
  if n.1.1 = 14 ∨ n.1.1 = 15 then (match s with
    | y :: x :: r => if n.2.2.1 = x ∧ n.2.2.2 = y ∧ n.2.1 ∉ r then some (n.2.1 :: r) else none
    | _ => none) else
  (match s with
    | x :: r => if n.2.2.1 = x ∧ n.2.1 ∉ r then some (n.2.1 :: r) else none
    | _ => none)
def mV (m : Nat) (x : Bool × (Nat → Bool)) : Int32 := if x.1 = true then nI (msk x.2 m) else b2 (x.2 0)
/-- the model's stack -/
def Mk_ (m : Nat) (M : Mm) : List Nat → Sv → Prop
  | [], [] => True
  | p :: s, x :: st => p < 96 ∧ M.1 222 p = mV m x ∧ M.1 223 p = b2 x.1 ∧ Mk_ m M s st
  | _, _ => False
theorem Mk__sI {m a p : Nat} {v : Int32} {M : Mm} : ∀ (s : List Nat) (st : Sv), p ∉ s → Mk_ m M s st → Mk_ m (sI M a p v) s st := by
  intro s
  induction s with
  | nil =>
    intro st hp h
    match st, h with
    | [], _ => trivial
  | cons q s ih =>
    intro st hp h
    match st, h with
    | x :: st, h =>
      have hq : p ≠ q := fun e => hp (by rw [e]; exact List.mem_cons_self)
      exact ⟨h.1, by rw [rdN (by omega)]; exact h.2.1, by rw [rdN (by omega)]; exact h.2.2.1, ih st (fun e => hp (List.mem_cons_of_mem _ e)) h.2.2.2⟩
theorem b2_not (b : Bool) : (1 &&& (b2 b ^^^ (-1))) = b2 (!b) := by cases b <;> decide
theorem b2_and (a b : Bool) : b2 a &&& b2 b = b2 (a && b) := by cases a <;> cases b <;> decide
theorem b2_or (a b : Bool) : b2 a ||| b2 b = b2 (a || b) := by cases a <;> cases b <;> decide
theorem b2_01 (b : Bool) : (if b2 b = 0 then (0 : Int32) else 1) = b2 b := by cases b <;> decide
theorem mV_or {m : Nat} {x y : Bool × (Nat → Bool)} (hm : m ≤ 8) (h : x.1 = y.1) : mV m x ||| mV m y = mV m (x.1, fun k => x.2 k || y.2 k) := by
  have l1 := msk256 x.2 hm
  have l2 := msk256 y.2 hm
  unfold mV
  rw [← h]
  by_cases q : x.1 = true
  · rw [if_pos q, if_pos q, if_pos q, nI_or (by omega) (by omega), msk_or]
  · rw [if_neg q, if_neg q, if_neg q, b2_or]
theorem mV_and {m : Nat} {x y : Bool × (Nat → Bool)} (hm : m ≤ 8) (h : x.1 = y.1) : mV m x &&& mV m y = mV m (x.1, fun k => x.2 k && y.2 k) := by
  have l1 := msk256 x.2 hm
  have l2 := msk256 y.2 hm
  unfold mV
  rw [← h]
  by_cases q : x.1 = true
  · rw [if_pos q, if_pos q, if_pos q, nI_and (by omega) (by omega), msk_and]
  · rw [if_neg q, if_neg q, if_neg q, b2_and]
theorem mV_not {m : Nat} {x : Bool × (Nat → Bool)} (hm : m ≤ 8) : (if b2 x.1 = 0 then (1 : Int32) else nI (2 ^ m - 1)) &&& (mV m x ^^^ (-1)) = mV m (x.1, fun k => !x.2 k) := by
  unfold mV
  by_cases q : x.1 = true
  · rw [if_pos q, if_pos q, q, if_neg b2t0, not_msk x.2 hm]
  · have q' : x.1 = false := by cases h : x.1 with
      | false => rfl
      | true => exact absurd h q
    rw [if_neg q, if_neg q, q', if_pos b2f, b2_not]
theorem m_op {i m l q0 j N F : Nat} {n : Nd} {D : Nat → Nat → Nat} {s s' : List Nat} {st st' : Sv} {M : Mm} {x4 : Int32} {k13 : Int32 → Int32 → Int32 → Mm → Option (Int32 × Mm)} (hi : i < 60) (hl16 : l < 16) (hN : N ≤ 96) (hq : q0 + N ≤ 96) (hj : j < N) (h212 : M.1 212 l = nI N) (h211 : M.1 211 l = nI q0) (h218 : M.1 218 (q0 + j) = nI n.2.1) (hn : mN_ n M) (hb : mB_ i m D M) (hl : lyOk m D) (hk : Mk_ m M s st) (hI : opI n s = some s') (ho : opV n.1 D m st = some st') : ∃ M', sX12_lineOf_27 k13 (F + 1) (nI i) (nI (2 ^ m - 1)) (nI l) x4 (nI j) M = sX12_lineOf_27 k13 F (nI i) (nI (2 ^ m - 1)) (nI l) (nI n.2.1) (nI (j + 1)) M' ∧ Fr pEv M M' ∧ Mk_ m M' s' st' := by
  obtain ⟨c, p, lf, rg⟩ := n
  obtain ⟨hp, hc, hs, h217, h216⟩ := hn
  dsimp only at hp hc hs h217 h216 h218 ho ⊢
  have i96 := inb_nI hp (by decide)
  have ib := inb_nI (show p < 192 by omega) (by decide)
  have il := inb_nI (show l < 32 by omega) (by decide)
  have ii := inb_nI hi (by decide)
  have hm := hl.2.1
  have c24 := hc.2.2.2.1
  have hc1 := hc.1
  have cp : (nI p).toNatClampNeg = p := nI_clamp (by omega)
  have wr : ∀ (x : Bool × (Nat → Bool)) (s : List Nat) (st : Sv) (a b : Int32), a = mV m x → b = b2 x.1 → p ∉ s → Mk_ m M s st → Fr pEv M (sI (sI M 222 p a) 223 p b) ∧ Mk_ m (sI (sI M 222 p a) 223 p b) (p :: s) (x :: st) := fun x s st a b h1 h2 h3 h4 =>
    ⟨Fr_sI (Fr_sI (Fr_rf _ _) (Or.inl rfl)) (Or.inr rfl), hp, by rw [rdN (by omega), rdS, h1], by rw [rdS, h2], Mk__sI _ _ h3 (Mk__sI _ _ h3 h4)⟩
  have wr2 : ∀ (x : Bool × (Nat → Bool)) (s : List Nat) (st : Sv) (a b : Int32), a = mV m x → b = b2 x.1 → p ∉ s → Mk_ m M s st → Fr pEv M (sI (sI M 223 p b) 222 p a) ∧ Mk_ m (sI (sI M 223 p b) 222 p a) (p :: s) (x :: st) := fun x s st a b h1 h2 h3 h4 =>
    ⟨Fr_sI (Fr_sI (Fr_rf _ _) (Or.inr rfl)) (Or.inl rfl), hp, by rw [rdS, h1], by rw [rdN (by omega), rdS, h2], Mk__sI _ _ h3 (Mk__sI _ _ h3 h4)⟩
  rw [sX12_lineOf_27, ckT il, nI_clamp (show l < 2 ^ 31 by omega), h212, if_neg (nle_nI hj (by omega)), ckT il, h211, nI_add, ckT (inb_nI (show q0 + j < 192 by omega) (by decide)), nI_clamp (show q0 + j < 2 ^ 31 by omega), h218, ckT ib, cp, hc1]
  unfold sX12_lineOf_81 sX12_lineOf_356 sX12_lineOf_360 sX12_lineOf_361 sX12_lineOf_379 sX12_lineOf_380
  rw [cp, show nI j + 1 = nI (j + 1) by rw [nI_1]]
  unfold opI at hI
  unfold opV at ho
  dsimp only at hI
  by_cases c13 : c.1 ≤ 13
  · rw [if_pos c13] at ho
    cases ho
    rw [if_pos (Or.inl c13)] at hI
    by_cases hps : p ∈ s
    · rw [if_pos hps] at hI; cases hI
    rw [if_neg hps] at hI
    cases hI
    rw [m_leaf hp hi hc hs hb hl c13, Option.bind_some]
    dsimp only
    rw [ckT i96, ckT i96]
    have w := wr (true, lfV c D) s st (nI (msk (lfV c D) m)) 1 rfl rfl hps hk
    by_cases c12 : c.1 ≤ 12
    · rw [if_pos (show nI (mn c.1) ≤ 12 by rw [show mn c.1 = c.1 from if_pos c12]; exact nI_le (b := 12) c12 (by omega))]
      exact ⟨_, rfl, w⟩
    · have : mn c.1 = 23 := by rw [show c.1 = 13 by omega]; rfl
      rw [if_neg (show ¬ nI (mn c.1) ≤ 12 by rw [this]; decide), if_pos (show nI (mn c.1) = 23 by rw [this]; rfl)]
      exact ⟨_, rfl, w⟩
  have ne : ∀ a b, a ≠ b → a < 100 → b < 100 → ¬ nI a = nI b := fun a b h1 h2 h3 => ne_nI h1 (by omega) (by omega)
  have hmn : mn c.1 = c.1 - 1 := by unfold mn; rw [if_neg (by omega), if_neg (by omega)]
  rw [hmn]
  rw [if_neg (show ¬ nI (c.1 - 1) ≤ 12 from nle_nI (b := 12) (by omega) (by omega)), if_neg (show ¬ nI (c.1 - 1) = 23 from ne _ 23 (by omega) (by omega) (by omega))]
  rw [if_neg c13] at ho
  by_cases c45 : c.1 = 14 ∨ c.1 = 15
  · rw [if_neg (by omega), if_pos c45] at hI
    rw [if_pos c45] at ho
    have e216 := h216 (by omega)
    have e217 := h217 c45
    match s, st, hI, ho, hk with
    | a :: b :: r, y :: x :: rest, hI, ho, hk =>
      dsimp only at hI ho
      obtain ⟨a1, a2, a3, b1, b2_, b3, hr⟩ := hk
      by_cases eI : lf = b ∧ rg = a ∧ p ∉ r
      · rw [if_pos eI] at hI
        cases hI
        obtain ⟨rfl, rfl, hpr⟩ := eI
        by_cases ef : x.1 = y.1
        · rw [if_pos ef] at ho
          cases ho
          have r6 : ∀ w, (sI M 223 p w).1 216 p = nI lf := fun w => by rw [rdN (by omega)]; exact e216
          have r7 : ∀ w, (sI M 223 p w).1 217 p = nI rg := fun w => by rw [rdN (by omega)]; exact e217
          have r2 : ∀ w k, (sI M 223 p w).1 222 k = M.1 222 k := fun w k => by rw [rdN (by omega)]
          have ilf := inb_nI b1 (by decide)
          have irg := inb_nI a1 (by decide)
          have cl : (nI lf).toNatClampNeg = lf := nI_clamp (by omega)
          have cg : (nI rg).toNatClampNeg = rg := nI_clamp (by omega)
          have l1 := msk256 x.2 hm
          have l2 := msk256 y.2 hm
          rw [if_neg (show ¬ nI (c.1 - 1) = 15 from ne _ 15 (by omega) (by omega) (by omega))]
          unfold sX12_lineOf_186 sX12_lineOf_271 sX12_lineOf_380
          rw [cp, e216, cl, b3, ckT ib, ckT ilf, ckT i96, ckT (isb_b2 _), ckT ib, r6, r7, ckT ilf, ckT ib, ckT irg, ckT i96, cl, cg, r2, r2, b2_, a2, show nI j + 1 = nI (j + 1) by rw [nI_1]]
          rcases c45 with q | q
          · rw [if_neg (show ¬ nI (c.1 - 1) = 14 from ne _ 14 (by omega) (by omega) (by omega)), if_pos (show nI (c.1 - 1) = 13 by rw [q]; rfl)]
            rw [if_neg (show ¬ nI (c.1 - 1) = 14 from ne _ 14 (by omega) (by omega) (by omega)), ckT ib, ckT ilf, ckT ib, ckT irg, ckT i96]
            exact ⟨_, rfl, wr2 _ _ _ (mV m x ||| mV m y) _ (by rw [mV_or hm ef]; simp only [if_neg (show ¬ c.1 = 15 by omega)]) rfl hpr hr⟩
          · rw [if_pos (show nI (c.1 - 1) = 14 by rw [q]; rfl), if_pos (show nI (c.1 - 1) = 14 by rw [q]; rfl)]
            exact ⟨_, rfl, wr2 _ _ _ (mV m x &&& mV m y) _ (by rw [mV_and hm ef]; simp only [if_pos q]) rfl hpr hr⟩
        · rw [if_neg ef] at ho; cases ho
      · rw [if_neg eI] at hI; cases hI
    | [], _, hI, _, _ => cases hI
    | [_], _, hI, _, _ => cases hI
    | _ :: _ :: _, [], _, ho, _ => cases ho
    | _ :: _ :: _, [_], _, ho, _ => cases ho
  rw [if_neg c45] at ho
  by_cases c16 : c.1 = 16
  · rw [if_neg (by omega), if_neg c45] at hI
    rw [if_pos c16] at ho
    have e216 := h216 (by omega)
    match s, st, hI, ho, hk with
    | a :: r, x :: rest, hI, ho, hk =>
      dsimp only at hI ho
      obtain ⟨a1, a2, a3, hr⟩ := hk
      by_cases eI : lf = a ∧ p ∉ r
      · rw [if_pos eI] at hI
        cases hI
        cases ho
        obtain ⟨rfl, hpr⟩ := eI
        have ilf := inb_nI a1 (by decide)
        have cl : (nI lf).toNatClampNeg = lf := nI_clamp (by omega)
        rw [if_pos (show nI (c.1 - 1) = 15 by rw [c16]; rfl), ckT ib, e216, ckT ilf, ckT i96, cl, a3, ckT (isb_b2 _), ckT i96]
        unfold sX12_lineOf_153 sX12_lineOf_380
        have r6 : ∀ w, (sI M 223 p w).1 216 p = nI lf := fun w => by rw [rdN (by omega)]; exact e216
        have r2 : ∀ w k, (sI M 223 p w).1 222 k = M.1 222 k := fun w k => by rw [rdN (by omega)]
        rw [cp, r6, ckT ib, ckT ilf, ckT i96, cl, r2, a2, rdS, show nI j + 1 = nI (j + 1) by rw [nI_1]]
        exact ⟨_, rfl, wr2 _ _ _ _ _ (mV_not hm) rfl hpr hr⟩
      · rw [if_neg eI] at hI; cases hI
    | [], _, hI, _, _ => cases hI
    | _ :: _, [], _, ho, _ => cases ho
  rw [if_neg c16] at ho
  rw [if_neg (show ¬ nI (c.1 - 1) = 15 from ne _ 15 (by omega) (by omega) (by omega)), if_neg (show ¬ nI (c.1 - 1) = 14 from ne _ 14 (by omega) (by omega) (by omega)), if_neg (show ¬ nI (c.1 - 1) = 13 from ne _ 13 (by omega) (by omega) (by omega)), ckT i96]
  by_cases c17 : c.1 = 17
  · rw [if_pos c17] at ho
    cases ho
    rw [if_pos (Or.inr (Or.inl c17))] at hI
    by_cases hps : p ∈ s
    · rw [if_pos hps] at hI; cases hI
    rw [if_neg hps] at hI
    cases hI
    rw [if_pos (show nI (c.1 - 1) = 16 by rw [c17]; rfl), ckT i96]
    exact ⟨_, rfl, wr2 _ _ _ _ _ rfl rfl hps hk⟩
  rw [if_neg c17] at ho
  rw [if_neg (show ¬ nI (c.1 - 1) = 16 from ne _ 16 (by omega) (by omega) (by omega))]
  have f2 : ∀ w, Fr pEv M (sI M 223 p w) := fun w => Fr_sI (Fr_rf _ _) (Or.inr rfl)
  have hbw : mB_ i m D (sI M 223 p 0) := ⟨by rw [rdN (by omega)]; exact hb.1, fun k j hk hj => by rw [rdN (by omega)]; exact hb.2 k j hk hj⟩
  have hcw : mC_ p c (sI M 223 p 0) := ⟨by rw [rdN (by omega)]; exact hc.1, by rw [rdN (by omega)]; exact hc.2.1, by rw [rdN (by omega)]; exact hc.2.2.1, hc.2.2.2⟩
  by_cases c23 : c.1 = 23
  · rw [if_pos c23] at ho
    cases ho
    rw [if_pos (Or.inr (Or.inr c23))] at hI
    by_cases hps : p ∈ s
    · rw [if_pos hps] at hI; cases hI
    rw [if_neg hps] at hI
    cases hI
    have m1 := hl.1
    have l3 := (hl.2.2.2.1 (m - 1) (by omega)).2.1
    have g1 : sX12_layerOf (nI i) (nI (m - 1)) 1 (sI M 223 p 0) = some (nI (D (m - 1) 1), sI M 223 p 0) := m_lay (j := 1) hbw hi hm (by omega) (by omega)
    rw [if_pos (show nI (c.1 - 1) = 22 by rw [c23]; rfl), ckT ii, nI_clamp (show i < 2 ^ 31 by omega), hbw.1, show nI m - 1 = nI (m - 1) from nI_sb (b := 1) m1, g1, Option.bind_some]
    dsimp only
    rw [ckT ib, ckT ib, hcw.2.1, hcw.2.2.1, m_cmp (hs (by omega)) hc.2.2.2.2.1 (by omega) hc.2.2.2.2.2, Option.bind_some]
    dsimp only
    rw [ckT i96, ckT i96]
    cases hv : cmpN c.2.1 (D (m - 1) 1) c.2.2 with
    | true => rw [if_neg b2t0]; exact ⟨_, rfl, wr2 _ _ _ _ _ rfl rfl hps hk⟩
    | false => rw [if_pos b2f]; exact ⟨_, rfl, wr2 _ _ _ _ _ rfl rfl hps hk⟩
  rw [if_neg c23] at ho
  rw [if_neg (show ¬ nI (c.1 - 1) = 22 from ne _ 22 (by omega) (by omega) (by omega))]
  rw [if_neg (by omega), if_neg c45] at hI
  have e216 := h216 (by omega)
  match s, st, hI, ho, hk with
  | a :: r, x :: rest, hI, ho, hk =>
    dsimp only at hI ho
    obtain ⟨a1, a2, a3, hr⟩ := hk
    by_cases eI : lf = a ∧ p ∉ r
    · rw [if_pos eI] at hI
      cases hI
      obtain ⟨rfl, hpr⟩ := eI
      by_cases ef : x.1 = true
      · rw [if_pos ef] at ho
        cases ho
        have ilf := inb_nI a1 (by decide)
        have cl : (nI lf).toNatClampNeg = lf := nI_clamp (by omega)
        have r6 : (sI M 223 p 0).1 216 p = nI lf := by rw [rdN (by omega)]; exact e216
        have r2 : (sI M 223 p 0).1 222 lf = nI (msk x.2 m) := by rw [rdN (by omega), a2]; unfold mV; rw [if_pos ef]
        rw [ckT ib, r6, ckT ilf, cl, r2, m_isSo hp hi hcw hs hbw hl (by omega), Option.bind_some]
        dsimp only
        rw [ckT i96, ckT i96]
        cases hv : qvV c x.2 D m with
        | true => rw [if_neg b2t0]; exact ⟨_, rfl, wr2 _ _ _ _ _ rfl rfl hpr hr⟩
        | false => rw [if_pos b2f]; exact ⟨_, rfl, wr2 _ _ _ _ _ rfl rfl hpr hr⟩
      · rw [if_neg ef] at ho; cases ho
    · rw [if_neg eI] at hI; cases hI
  | [], _, hI, _, _ => cases hI
  | _ :: _, [], _, ho, _ => cases ho
