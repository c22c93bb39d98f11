/-- what a part of an expression is read to: where it goes on, knots so far, the knots in the order in which they are done, the top one's number, the class's code -/
abbrev Ex := Nat × Nat × List Nd × Nat × List Cd
def rB {α β : Type} (x : Rs α) (f : α → Rs β) : Rs β := match x with
  | .inl e => .inl e
  | .inr a => f a
def dQn (c : Cd) (q k : Nat) (e : Ex) : Ex := (q, e.2.1, e.2.2.1 ++ [(c, k, e.2.2.2.1, 0)], k, e.2.2.2.2 ++ [c])
def dLf (c : Cd) (q k : Nat) : Ex := (q, k + 1, [(c, k, 0, 0)], k, [c])
/-- what is said of a bore -/
def dBo (T : Nat → Int32) (n : Nat) (B : Nat → Nat → Rs Ex) (q k : Nat) : Rs Ex :=
  if wdR T n q 17 7 = false then .inl (1, tA T n q) else if k = 96 then .inl (2, tA T n q) else
  if wdn T n q = 17 then .inr (dLf (17, 0, 0) (tE T n q) k) else
  if wdn T n q = 23 then rB (rdC T n (tE T n q)) (fun c => .inr (dLf (23, c.2.1, c.2.2) c.1 k)) else
  if wdn T n q = 20 then (if nmF T n (tE T n q) 999 ≠ 0 then .inl (nmF T n (tE T n q) 999, tA T n (tE T n q)) else rB (B (tE T n (tE T n q)) (k + 1)) (fun e => .inr (dQn (20, 0, tN T n (tE T n q)) e.1 k e))) else
  if wdn T n q = 18 ∨ wdn T n q = 19 then rB (B (tE T n q) (k + 1)) (fun e => .inr (dQn (wdn T n q, 0, 0) e.1 k e)) else
  rB (B (tE T n q) (k + 1)) (fun e => rB (rdC T n e.1) (fun c => .inr (dQn (wdn T n q, c.2.1, c.2.2) c.1 k e)))
def dVa (T : Nat → Int32) (n : Nat) (B : Bool → Nat → Nat → Rs Ex) (o : Bool) (q k : Nat) : Rs Ex :=
  if sgB T n q 40 = true then B o q k else if o = true then rB (rdF T n q k) (fun c => .inr (dLf c.2 c.1 k)) else dBo T n (B true) q k
def dNo (T : Nat → Int32) (n : Nat) : Nat → Nat → Nat → Rs (Nat × Nat)
  | 0, _, _ => .inl (0, 0)
  | g + 1, q, k => if wdR T n q 16 1 = true then (if k = 96 then .inl (2, tA T n q) else dNo T n g (tE T n q) (k + 1)) else .inr (q, k)
/-- c nots, the innermost first -/
def wrN (k : Nat) : Nat → List Nd → Nat → List Nd × Nat
  | 0, ns, t => (ns, t)
  | c + 1, ns, t => wrN k c (ns ++ [((16, 0, 0), k + c, t, 0)]) (k + c)
def dMn (T : Nat → Int32) (n : Nat) (B : Bool → Nat → Nat → Rs Ex) (o : Bool) (q k : Nat) : Rs Ex :=
  rB (dNo T n 97 q k) (fun s => rB (dVa T n B o s.1 s.2) (fun e => .inr (e.1, e.2.1, (wrN k (s.2 - k) e.2.2.1 e.2.2.2.1).1, (wrN k (s.2 - k) e.2.2.1 e.2.2.2.1).2, e.2.2.2.2 ++ (if (s.2 - k) % 2 = 1 then [(16, 0, 0)] else []))))
def dJn (w : Nat) (e e' : Ex) : Ex := (e'.1, e'.2.1, e.2.2.1 ++ e'.2.2.1 ++ [((w, 0, 0), e.2.1, e.2.2.2.1, e'.2.2.2.1)], e.2.1, e.2.2.2.2 ++ e'.2.2.2.2 ++ [(w, 0, 0)])
def dLp (T : Nat → Int32) (n : Nat) (P : Nat → Nat → Rs Ex) (w : Nat) : Nat → Ex → Rs Ex
  | 0, _ => .inl (0, 0)
  | g + 1, e => if wdR T n e.1 w 1 = true then (if e.2.1 = 96 then .inl (2, tA T n e.1) else rB (P (tE T n e.1) (e.2.1 + 1)) (fun e' => dLp T n P w g (dJn w e e'))) else .inr e
def dBt (T : Nat → Int32) (n : Nat) (B : Bool → Nat → Nat → Rs Ex) (o : Bool) (q k : Nat) : Rs Ex := rB (dMn T n B o q k) (dLp T n (dMn T n B o) 15 97)
def dEi (T : Nat → Int32) (n : Nat) (B : Bool → Nat → Nat → Rs Ex) (o : Bool) (q k : Nat) : Rs Ex := rB (dBt T n B o q k) (dLp T n (dBt T n B o) 14 97)
/-- a bracket, where f more may be open -/
def dBr (T : Nat → Int32) (n : Nat) : Nat → Bool → Nat → Nat → Rs Ex
  | 0, _, q, _ => if sgB T n q 40 = false then .inl (1, tA T n q) else .inl (2, tA T n q)
  | f + 1, o, q, k => if sgB T n q 40 = false then .inl (1, tA T n q) else rB (dEi T n (dBr T n f) o (tE T n q) k) (fun e => if sgB T n e.1 41 = true then .inr (tE T n e.1, e.2) else .inl (1, tA T n e.1))
/-- the class's reader: place q, k knots, this line's code cs from p on, b open -/
def Xq (r : Nat) (T : Nat → Int32) (n q k p : Nat) (cs : List Cd) (b : Nat) (M : Mm) : Prop := Xs T n q M ∧ M.1 r 3 = nI (p + cs.length) ∧ M.1 r 10 = nI k ∧ k ≤ 96 ∧ p + cs.length ≤ k ∧ xCs r M p cs ∧ M.1 5 2 = nI b ∧ b ≤ 8
def pKf (r p id k : Nat) : Prop := pXr id k ∨ r + 1 ≤ id ∧ id ≤ r + 3 ∧ p ≤ k ∨ id = r ∧ (k = 3 ∨ k = 10) ∨ id = 5 ∧ k = 2
theorem kf_kx {r p : Nat} {M M1 : Mm} (f : Fr (pKf r p) M M1) : Fr (pKx r) M M1 := Fr_mo f (fun id k q => by
  rcases q with q | q | q | q
  · exact Or.inl q
  · exact Or.inr (Or.inl (by omega))
  · exact Or.inr (Or.inr (Or.inl q))
  · exact Or.inr (Or.inr (Or.inr q)))
theorem xr_kx {r : Nat} {M M1 : Mm} (f : Fr pXr M M1) : Fr (pKx r) M M1 := Fr_mo f (fun _ _ q => Or.inl q)
theorem xr_kf {r p : Nat} {M M1 : Mm} (f : Fr pXr M M1) : Fr (pKf r p) M M1 := Fr_mo f (fun _ _ q => Or.inl q)
def XR (r : Nat) (T : Nat → Int32) (n p : Nat) (cs : List Cd) (b : Nat) (M : Mm) (k : Nat) (R : Rs Ex) (res : Option (Int32 × Mm)) : Prop :=
  (∃ w a M', R = .inl (w, a) ∧ res = some (0, M') ∧ Fr (pKx r) M M' ∧ Xf w a M') ∨
  (∃ (e : Ex) (M' : Mm), R = .inr e ∧ res = some (1, M') ∧ k < e.2.1 ∧ k + e.2.2.2.2.length ≤ e.2.1 ∧ Fr (pKf r p) M M' ∧ Xq r T n e.1 e.2.1 p (cs ++ e.2.2.2.2) b M')
theorem Xq_mk {r n q q' k p b b' : Nat} {T : Nat → Int32} {cs : List Cd} {M M' : Mm} (x : Xq r T n q k p cs b M) (x' : Xs T n q' M') (f : ∀ a j, a = r ∧ (j = 3 ∨ j = 10) ∨ a = r + 1 ∨ a = r + 2 ∨ a = r + 3 → M'.1 a j = M.1 a j) (h5 : M'.1 5 2 = nI b') (hb : b' ≤ 8) : Xq r T n q' k p cs b' M' := by
  obtain ⟨_, x3, x10, xk, xl, xc, _, _⟩ := x
  exact ⟨x', (f _ _ (by omega)).trans x3, (f _ _ (by omega)).trans x10, xk, xl, xCs_sm (fun a j z => f a j (by omega)) _ _ xc, h5, hb⟩
theorem x_kn {kq : Nat × Nat} {T : Nat → Int32} {n q k p b : Nat} {cs : List Cd} {M : Mm} (hr : kq.2 = 6 ∨ kq.2 = 14) (x : Xq kq.2 T n q k p cs b M) : (k < 96 ∧ ∃ M', sX5_takeKnot kq M = some (1, M') ∧ Fr (pKf kq.2 p) M M' ∧ Xq kq.2 T n (tE T n q) (k + 1) p cs b M') ∨ (k = 96 ∧ ∃ M', sX5_takeKnot kq M = some (0, M') ∧ Fr (pKx kq.2) M M' ∧ Xf 2 (tA T n q) M') := by
  obtain ⟨x1, x3, x10, xk, xl, xc, x5, xb⟩ := x
  rcases x_knot hr x1 x10 xk with ⟨c1, B, e1, f1, y1, g1⟩ | ⟨c1, B, e1, f1, g1⟩
  · refine Or.inl ⟨c1, B, e1, Fr_mo f1 (fun id z q => by rcases q with q | q; exact Or.inl q; exact Or.inr (Or.inr (Or.inl (by omega)))), y1, ?_, g1, by omega, by omega, ?_, ?_, xb⟩
    · exact (f1 _ _ (by unfold pXr; omega)).1.trans x3
    · exact xCs_sm (fun a k z => (f1 a k (by unfold pXr; omega)).1) _ _ xc
    · exact (f1 _ _ (by unfold pXr; omega)).1.trans x5
  · exact Or.inr ⟨c1, B, e1, xr_kx f1, g1⟩
theorem x_em {kq : Nat × Nat} {T : Nat → Int32} {n q k p b : Nat} {cs : List Cd} {c : Cd} {M : Mm} (hr : kq.2 = 6 ∨ kq.2 = 14) (x : Xq kq.2 T n q k p cs b M) (hz : p + cs.length < k) (hc : c.1 < 24 ∧ c.2.1 ≤ 5 ∧ c.2.2 ≤ 999) (hs : sOk c) : ∃ M', sX4_emit kq.2 (nI c.1) (sgx c.2.1) (nI c.2.2) M = some M' ∧ Fr (pKf kq.2 p) M M' ∧ Xq kq.2 T n q k p (cs ++ [c]) b M' := by
  obtain ⟨x1, x3, x10, xk, xl, xc, x5, xb⟩ := x
  obtain ⟨C, e3, f3, g3, k3⟩ := x_emit (c := c) x3 (by omega) xc hc hs
  refine ⟨C, e3, Fr_mo f3 (fun id z q => by rcases q with q | q; exact Or.inr (Or.inl (by omega)); exact Or.inr (Or.inr (Or.inl (by omega)))), Xs_fr x1 f3 (fun id k z w => by omega), g3, (f3 _ _ (by omega)).1.trans x10, xk, ?_, k3, (f3 _ _ (by omega)).1.trans x5, xb⟩
  rw [List.length_append, List.length_singleton]; omega
theorem x_cq {kq : Nat × Nat} {T : Nat → Int32} {n q k p b wd : Nat} {cs : List Cd} {M : Mm} (hr : kq.2 = 6 ∨ kq.2 = 14) (x : Xq kq.2 T n q k p cs b M) (hz : p + cs.length < k) (hw : wd < 24) :
    (∃ w a M', rdC T n q = .inl (w, a) ∧ sX5_readCompare kq (nI wd) M = some (0, M') ∧ Fr (pKx kq.2) M M' ∧ Xf w a M') ∨
    (∃ c M', rdC T n q = .inr c ∧ sX5_readCompare kq (nI wd) M = some (1, M') ∧ Fr (pKf kq.2 p) M M' ∧ Xq kq.2 T n c.1 k p (cs ++ [(wd, c.2.1, c.2.2)]) b M') := by
  obtain ⟨x1, x3, x10, xk, xl, xc, x5, xb⟩ := x
  rcases x_cmpR hr x1 x3 (by omega) xc hw with ⟨w, a, C, r1, r2, r3, r4⟩ | ⟨q', s, a, C, r1, r2, r3, r4, r5, r6⟩
  · exact Or.inl ⟨w, a, C, r1, r2, r3, r4⟩
  · refine Or.inr ⟨(q', s, a), C, r1, r2, Fr_mo r3 (fun id z q => by rcases q with q | q | q; exact Or.inl q; exact Or.inr (Or.inl (by omega)); exact Or.inr (Or.inr (Or.inl (by omega)))), r4, r5, (r3 _ _ (by unfold pXr; omega)).1.trans x10, xk, ?_, r6, (r3 _ _ (by unfold pXr; omega)).1.trans x5, xb⟩
    rw [List.length_append, List.length_singleton]; omega
theorem x_ly {kq : Nat × Nat} {T : Nat → Int32} {n q k p b : Nat} {cs : List Cd} {M : Mm} (hr : kq.2 = 6 ∨ kq.2 = 14) (x : Xq kq.2 T n q k p cs b M) : XR kq.2 T n p cs b M k (rB (rdF T n q k) (fun c => .inr (dLf c.2 c.1 k))) (sX5_readOfLayer kq M) := by
  obtain ⟨x1, x3, x10, xk, xl, xc, x5, xb⟩ := x
  rcases x_lay hr x1 x3 x10 xk xl xc with ⟨w, a, C, r1, r2, r3, r4⟩ | ⟨q', c, C, r1, r2, r3, r4, r5, r6, r7⟩
  · rw [r1]; exact Or.inl ⟨w, a, C, rfl, r2, r3, r4⟩
  · have hk : k ≠ 96 := fun z => by
      unfold rdF at r1
      rw [if_pos z] at r1
      split at r1 <;> cases r1
    rw [r1]
    refine Or.inr ⟨_, C, rfl, r2, Nat.lt_succ_self k, Nat.le_refl _, Fr_mo r3 (fun id z q => by rcases q with q | q | q; exact Or.inl q; exact Or.inr (Or.inl (by omega)); exact Or.inr (Or.inr (Or.inl (by omega)))), r4, r5, r6, by show k + 1 ≤ 96; omega, ?_, r7, (r3 _ _ (by unfold pKe pXr; omega)).1.trans x5, xb⟩
    show p + (cs ++ [c]).length ≤ k + 1
    rw [List.length_append, List.length_singleton]; omega
