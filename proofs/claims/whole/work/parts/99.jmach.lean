/-- what waits in the model: its word (15, 14, 13; 100, 101, 102), number, knot -/
abbrev Wt := Nat × Nat × Cd
abbrev Mc := List Wt × List Nat × List Nd
def wgt (w : Nat) : Nat := if w = 15 then 3 else if w = 14 then 2 else if w = 13 then 1 else 0
def twt : List Wt → Nat
  | [] => 0
  | e :: _ => wgt e.1
def pp1 (H : List Nat) (f : Nat → List Nat → Option Mc) : Option Mc := match H with
  | t :: H' => f t H'
  | [] => none
def pp2 (H : List Nat) (f : Nat → Nat → List Nat → Option Mc) : Option Mc := match H with
  | y :: z :: H' => f y z H'
  | _ => none
def bnd (x : Nat) : List Wt → List Nat → List Nd → Option Mc
  | [], H, O => some ([], H, O)
  | e :: W, H, O => if wgt e.1 < x then some (e :: W, H, O) else
    if e.1 = 15 then pp1 H (fun t H' => bnd x W (e.2.1 :: H') (O ++ [(e.2.2, e.2.1, t, 0)])) else pp2 H (fun y z H' => bnd x W (e.2.1 :: H') (O ++ [(e.2.2, e.2.1, z, y)]))
abbrev Kr := Nat → Nat → Nat → Bool → Bool → Mc → Option (Rs (Nat × Nat × Mc))
def oB {α β : Type} (x : Rs α) (g : α → Option (Rs β)) : Option (Rs β) := match x with
  | .inl f => some (.inl f)
  | .inr c => g c
def mOp (T : Nat → Int32) (n : Nat) (K : Kr) (w : Nat) (c : Cd) (q k b : Nat) (m : Mc) : Option (Rs (Nat × Nat × Mc)) :=
  if sgB T n q 40 = false then some (.inl (1, tA T n q)) else if b = 8 then some (.inl (2, tA T n q)) else K (tE T n q) (k + 1) (b + 1) true true ((w, k, c) :: m.1, m.2)
def mDn (K : Kr) (l : Bool) (c : Cd) (q k b : Nat) (m : Mc) : Option (Rs (Nat × Nat × Mc)) := K q (k + 1) b l false (m.1, k :: m.2.1, m.2.2 ++ [(c, k, 0, 0)])
def mBo (T : Nat → Int32) (n : Nat) (K : Kr) (q k b : Nat) (m : Mc) : Option (Rs (Nat × Nat × Mc)) :=
  if wdR T n q 17 7 = false then some (.inl (1, tA T n q)) else if k = 96 then some (.inl (2, tA T n q)) else
  if wdn T n q = 17 then mDn K false (17, 0, 0) (tE T n q) k b m else
  if wdn T n q = 23 then oB (rdC T n (tE T n q)) (fun c => mDn K false (23, c.2.1, c.2.2) c.1 k b m) else
  if wdn T n q = 20 then (if nmF T n (tE T n q) 999 ≠ 0 then some (.inl (nmF T n (tE T n q) 999, tA T n (tE T n q))) else mOp T n K 101 (20, 0, tN T n (tE T n q)) (tE T n (tE T n q)) k b m) else
  if wdn T n q = 18 ∨ wdn T n q = 19 then mOp T n K 101 (wdn T n q, 0, 0) (tE T n q) k b m else mOp T n K 102 (wdn T n q, 0, 0) (tE T n q) k b m
def mVa (T : Nat → Int32) (n : Nat) (K : Kr) (q k b : Nat) (l : Bool) (m : Mc) : Option (Rs (Nat × Nat × Mc)) :=
  if sgB T n q 40 = true then (if b = 8 then some (.inl (2, tA T n q)) else K (tE T n q) k (b + 1) l true ((100, 0, (0, 0, 0)) :: m.1, m.2)) else
  if wdR T n q 16 1 = true then (if k = 96 then some (.inl (2, tA T n q)) else K (tE T n q) (k + 1) b l true ((15, k, (16, 0, 0)) :: m.1, m.2)) else
  if l = true then oB (rdF T n q k) (fun c => mDn K true c.2 c.1 k b m) else mBo T n K q k b m
def mCl (T : Nat → Int32) (n : Nat) (K : Kr) (q k b : Nat) (l : Bool) (m : Mc) : Option (Rs (Nat × Nat × Mc)) := match bnd 1 m.1 m.2.1 m.2.2 with
  | some (e :: W, t :: H, O) => if e.1 = 100 then K (tE T n q) k (b - 1) l false (W, t :: H, O) else
    if e.1 = 102 then oB (rdC T n (tE T n q)) (fun c => K c.1 k (b - 1) false false (W, e.2.1 :: H, O ++ [((e.2.2.1, c.2.1, c.2.2), e.2.1, t, 0)])) else
    K (tE T n q) k (b - 1) false false (W, e.2.1 :: H, O ++ [(e.2.2, e.2.1, t, 0)])
  | _ => none
def mJo (T : Nat → Int32) (n : Nat) (K : Kr) (w q k b : Nat) (l : Bool) (m : Mc) : Option (Rs (Nat × Nat × Mc)) :=
  if k = 96 then some (.inl (2, tA T n q)) else (bnd (w - 13) m.1 m.2.1 m.2.2).bind (fun m' => K (tE T n q) (k + 1) b l true ((w - 1, k, (w, 0, 0)) :: m'.1, m'.2))
def mrun (T : Nat → Int32) (n : Nat) : Nat → Kr
  | 0, _, _, _, _, _, _ => none
  | F + 1, q, k, b, l, v, m => if v = true then mVa T n (mrun T n F) q k b l m else
    if wdR T n q 14 1 = true then mJo T n (mrun T n F) 14 q k b l m else
    if wdR T n q 15 1 = true then mJo T n (mrun T n F) 15 q k b l m else
    if b = 0 then (bnd 1 m.1 m.2.1 m.2.2).bind (fun m' => some (.inr (q, k, m'))) else
    if sgB T n q 41 = true then mCl T n (mrun T n F) q k b l m else some (.inl (1, tA T n q))
theorem bnd_st {x : Nat} {H : List Nat} {O : List Nd} : ∀ W : List Wt, twt W < x → bnd x W H O = some (W, H, O)
  | [], _ => rfl
  | e :: W, h => by rw [bnd]; exact if_pos h
def Vs (T : Nat → Int32) (n x : Nat) (P : Rs Ex) (q k b : Nat) (l : Bool) (m : Mc) : Prop := ∀ F, q ≤ n → k ≤ 96 → n - q < F →
  (∀ f, P = .inl f → mrun T n F q k b l true m = some (.inl f)) ∧
  (∀ e, P = .inr e → k < e.2.1 ∧ e.2.1 ≤ 96 ∧ q < e.1 ∧ e.1 ≤ n ∧ ∃ F' m', n - e.1 < F' ∧ mrun T n F q k b l true m = mrun T n F' e.1 e.2.1 b l false m' ∧ ∀ y, 1 ≤ y → y ≤ x → bnd y m'.1 m'.2.1 m'.2.2 = bnd y m.1 (e.2.2.2.1 :: m.2.1) (m.2.2 ++ e.2.2.1))
theorem sg_e {T : Nat → Int32} {n q c : Nat} (hq : q ≤ n) (h : sgB T n q c = true) : q < tE T n q ∧ tE T n q ≤ n := by
  have := tE_le (T := T) hq
  exact ⟨this.2.2.2 (by rw [sg_s h]; omega), this.2.2.1⟩
theorem wd_e {T : Nat → Int32} {n q f c : Nat} (hq : q ≤ n) (h : wdR T n q f c = true) : q < tE T n q ∧ tE T n q ≤ n := by
  have := tE_le (T := T) hq
  obtain ⟨i, i1, i2, i3, i4, i5, i6, i7⟩ := wdR_n hq h
  exact ⟨this.2.2.2 (by omega), this.2.2.1⟩
theorem nmf_e {T : Nat → Int32} {n q c : Nat} (hq : q ≤ n) (h : nmF T n q c = 0) : q < tE T n q ∧ tE T n q ≤ n := by
  have := tE_le (T := T) hq
  unfold nmF at h
  by_cases z : tS T n q = 1
  · exact ⟨this.2.2.2 (by omega), this.2.2.1⟩
  · rw [if_neg z] at h; omega
theorem wd_sg {T : Nat → Int32} {n q f c d : Nat} (hq : q ≤ n) (h : wdR T n q f c = true) : sgB T n q d = false := by
  obtain ⟨i, i1, i2, i3, i4, i5, i6, i7⟩ := wdR_n hq h
  refine Bool.eq_false_iff.mpr (fun z => ?_)
  have := sg_s z
  omega
theorem wd_wd {T : Nat → Int32} {n q f c d e : Nat} (h : wdR T n q f c = true) (hd : f + c ≤ d ∨ d + e ≤ f) : wdR T n q d e = false := by
  obtain ⟨i, i1, i2, i3⟩ := wdR_i.mp h
  refine Bool.eq_false_iff.mpr (fun z => ?_)
  obtain ⟨j, j1, j2, j3⟩ := wdR_i.mp z
  rw [i1] at j1
  cases j1
  omega
theorem rdC_e {T : Nat → Int32} {n q : Nat} {c : Nat × Nat × Nat} (hq : q ≤ n) (h : rdC T n q = .inr c) : q < c.1 ∧ c.1 ≤ n := by
  unfold rdC at h
  have := tE_le (T := T) hq
  by_cases z : sgT T n q = 0
  · rw [if_pos z] at h; cases h
  · rw [if_neg z] at h
    by_cases y : nmF T n (tE T n q) 999 = 0
    · rw [if_neg (fun v => v y)] at h
      cases h
      have := nmf_e this.2.2.1 y
      show q < tE T n (tE T n q) ∧ tE T n (tE T n q) ≤ n
      omega
    · rw [if_pos y] at h; cases h
theorem rdF_e {T : Nat → Int32} {n q k : Nat} {c : Nat × Cd} (hq : q ≤ n) (h : rdF T n q k = .inr c) : q < c.1 ∧ c.1 ≤ n ∧ k ≠ 96 := by
  unfold rdF at h
  by_cases z : wdR T n q 0 14 = true
  · have e := wd_e hq z
    rw [if_neg (by rw [z]; decide)] at h
    by_cases y : k = 96
    · rw [if_pos y] at h; cases h
    rw [if_neg y] at h
    by_cases u : wdR T n q 12 2 = true
    · rw [if_pos u] at h
      cases hc : rdC T n (tE T n q) with
      | inl f => rw [hc] at h; cases h
      | inr c' =>
        rw [hc] at h
        cases h
        have := rdC_e e.2 hc
        show q < c'.1 ∧ c'.1 ≤ n ∧ k ≠ 96
        omega
    · rw [if_neg u] at h
      cases h
      exact ⟨e.1, e.2, y⟩
  · rw [if_pos (Bool.eq_false_iff.mpr z)] at h; cases h
theorem dLp_end {T : Nat → Int32} {n w : Nat} {P : Nat → Nat → Rs Ex} : ∀ (g : Nat) (e e2 : Ex), dLp T n P w g e = .inr e2 → wdR T n e2.1 w 1 = false := by
  intro g
  induction g with
  | zero => intro e e2 h; cases h
  | succ g ih =>
    intro e e2 h
    rw [dLp] at h
    by_cases z : wdR T n e.1 w 1 = true
    · rw [if_pos z] at h
      by_cases y : e.2.1 = 96
      · rw [if_pos y] at h; cases h
      · rw [if_neg y] at h
        cases hP : P (tE T n e.1) (e.2.1 + 1) with
        | inl f => rw [hP] at h; cases h
        | inr e' => rw [hP] at h; exact ih _ _ h
    · rw [if_neg z] at h
      cases h
      exact Bool.eq_false_iff.mpr z
theorem dLp_p {T : Nat → Int32} {n w : Nat} {P : Nat → Nat → Rs Ex} {Q : Nat → Prop} (hP : ∀ q k e, P q k = .inr e → Q e.1) : ∀ (g : Nat) (e e2 : Ex), Q e.1 → dLp T n P w g e = .inr e2 → Q e2.1 := by
  intro g
  induction g with
  | zero => intro e e2 _ h; cases h
  | succ g ih =>
    intro e e2 hq h
    rw [dLp] at h
    by_cases z : wdR T n e.1 w 1 = true
    · rw [if_pos z] at h
      by_cases y : e.2.1 = 96
      · rw [if_pos y] at h; cases h
      · rw [if_neg y] at h
        cases hP' : P (tE T n e.1) (e.2.1 + 1) with
        | inl f => rw [hP'] at h; cases h
        | inr e' => rw [hP'] at h; exact ih (dJn w e e') _ (show Q e'.1 from hP _ _ _ hP') h
    · rw [if_neg z] at h
      cases h
      exact hq
theorem dBt_end {T : Nat → Int32} {n q k : Nat} {B : Bool → Nat → Nat → Rs Ex} {o : Bool} {e : Ex} (h : dBt T n B o q k = .inr e) : wdR T n e.1 15 1 = false := by
  unfold dBt at h
  cases hM : dMn T n B o q k with
  | inl f => rw [hM] at h; cases h
  | inr e' => rw [hM] at h; exact dLp_end _ _ _ h
theorem dEi_end {T : Nat → Int32} {n q k : Nat} {B : Bool → Nat → Nat → Rs Ex} {o : Bool} {e : Ex} (h : dEi T n B o q k = .inr e) : wdR T n e.1 15 1 = false ∧ wdR T n e.1 14 1 = false := by
  unfold dEi at h
  cases hM : dBt T n B o q k with
  | inl f => rw [hM] at h; cases h
  | inr e' =>
    rw [hM] at h
    exact ⟨dLp_p (T := T) (n := n) (w := 14) (P := dBt T n B o) (Q := fun z => wdR T n z 15 1 = false) (fun q k e z => dBt_end z) 97 e' e (dBt_end hM) h, dLp_end _ _ _ h⟩
