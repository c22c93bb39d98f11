/-- what reading an expression may change, on the class's side -/
def pKx (r id k : Nat) : Prop := pXr id k ∨ r + 1 ≤ id ∧ id ≤ r + 3 ∨ id = r ∧ (k = 3 ∨ k = 10) ∨ id = 5 ∧ k = 2
theorem xCs_ap {r : Nat} {M : Mm} : ∀ (a b : List Cd) (p : Nat), xCs r M p a → xCs r M (p + a.length) b → xCs r M p (a ++ b) := by
  intro a
  induction a with
  | nil => intro b p _ h; exact h
  | cons c a ih =>
    intro b p h1 h2
    rw [List.length_cons, show p + (a.length + 1) = p + 1 + a.length by omega] at h2
    exact ⟨h1.1, h1.2.1, ih b (p + 1) h1.2.2 h2⟩
theorem xCs_lo {r : Nat} {M M' : Mm} {z : Nat} (f : ∀ a k, a = r + 1 ∨ a = r + 2 ∨ a = r + 3 → k < z → M'.1 a k = M.1 a k) : ∀ (cs : List Cd) (p : Nat), p + cs.length ≤ z → xCs r M p cs → xCs r M' p cs := by
  intro cs
  induction cs with
  | nil => intro p _ _; trivial
  | cons c cs ih =>
    intro p hp h
    rw [List.length_cons] at hp
    obtain ⟨⟨h1, h2, h3, h4⟩, h5, h6⟩ := h
    exact ⟨⟨(f _ _ (by omega) (by omega)).trans h1, (f _ _ (by omega) (by omega)).trans h2, (f _ _ (by omega) (by omega)).trans h3, h4⟩, h5, ih (p + 1) (by omega) h6⟩
/-- a knot goes into the class's key -/
theorem x_emit {r p : Nat} {cs : List Cd} {c : Cd} {M : Mm} (h3 : M.1 r 3 = nI (p + cs.length)) (hz : p + cs.length < 96) (h : xCs r M p cs) (hc : c.1 < 24 ∧ c.2.1 ≤ 5 ∧ c.2.2 ≤ 999) (hs : sOk c) : ∃ M', sX4_emit r (nI c.1) (sgx c.2.1) (nI c.2.2) M = some M' ∧ Fr (fun id k => r + 1 ≤ id ∧ id ≤ r + 3 ∧ p + cs.length ≤ k ∨ id = r ∧ k = 3) M M' ∧ M'.1 r 3 = nI (p + (cs ++ [c]).length) ∧ xCs r M' p (cs ++ [c]) := by
  have iz := inb_nI hz (by decide)
  have cz : (nI (p + cs.length)).toNatClampNeg = p + cs.length := nI_clamp (by omega)
  have a1 : ∀ {v}, (sI M (r + 1) (p + cs.length) v).1 r 3 = nI (p + cs.length) := fun {v} => by rw [rdN (by omega)]; exact h3
  have a2 : ∀ {v u}, (sI (sI M (r + 1) (p + cs.length) v) (r + 2) (p + cs.length) u).1 r 3 = nI (p + cs.length) := fun {v u} => by rw [rdN (by omega)]; exact a1
  have a3 : ∀ {v u s}, (sI (sI (sI M (r + 1) (p + cs.length) v) (r + 2) (p + cs.length) u) (r + 3) (p + cs.length) s).1 r 3 = nI (p + cs.length) := fun {v u s} => by rw [rdN (by omega)]; exact a2
  unfold sX4_emit
  rw [h3, if_neg (show ¬ 96 ≤ nI (p + cs.length) from nle_nI (a := 96) hz (by omega)), ckT iz, cz, a1, ckT iz, cz, a2, ckT iz, cz, a3, nI_1]
  have f : Fr (fun id k => r + 1 ≤ id ∧ id ≤ r + 3 ∧ p + cs.length ≤ k ∨ id = r ∧ k = 3) M (sI (sI (sI (sI M (r + 1) (p + cs.length) (nI c.1)) (r + 2) (p + cs.length) (sgx c.2.1)) (r + 3) (p + cs.length) (nI c.2.2)) r 3 (nI (p + cs.length + 1))) := Fr_sI (Fr_sI (Fr_sI (Fr_sI (Fr_rf _ _) (by omega)) (by omega)) (by omega)) (by omega)
  refine ⟨_, rfl, f, ?_, ?_⟩
  · rw [rdS, List.length_append, List.length_singleton, Nat.add_assoc]
  · refine xCs_ap _ _ _ (xCs_lo (z := p + cs.length) (fun a k q hk => (f a k (by omega)).1) _ _ (Nat.le_refl _) h) ⟨⟨?_, ?_, ?_, hc⟩, hs, trivial⟩
    · rw [rdN (by omega), rdN (by omega), rdN (by omega), rdS]
    · rw [rdN (by omega), rdN (by omega), rdS]
    · rw [rdN (by omega), rdS]
theorem x_knot {kq : Nat × Nat} {T : Nat → Int32} {n q k : Nat} {M : Mm} (hr : kq.2 = 6 ∨ kq.2 = 14) (x : Xs T n q M) (h : M.1 kq.2 10 = nI k) (hk : k ≤ 96) : (k < 96 ∧ ∃ M', sX5_takeKnot kq M = some (1, M') ∧ Fr (fun id z => pXr id z ∨ id = kq.2 ∧ z = 10) M M' ∧ Xs T n (tE T n q) M' ∧ M'.1 kq.2 10 = nI (k + 1)) ∨ (k = 96 ∧ ∃ M', sX5_takeKnot kq M = some (0, M') ∧ Fr pXr M M' ∧ Xf 2 (tA T n q) M') := by
  unfold sX5_takeKnot
  rw [h]
  by_cases z : k < 96
  · refine Or.inl ⟨z, ?_⟩
    obtain ⟨B, e, f, y⟩ := x_next (Xs_sI (a := kq.2) (j := 10) (v := nI (k + 1)) x (by omega))
    rw [if_pos (show nI k < 96 from nI_lt (b := 96) z (by omega)), nI_1, e, Option.bind_some]
    refine ⟨B, rfl, Fr_tr (Fr_sI (Fr_rf _ _) (Or.inr ⟨rfl, rfl⟩)) (Fr_mo (xs_r f) (fun _ _ q => Or.inl q)), y, ?_⟩
    rw [(f _ _ (by unfold pXs; omega)).1, rdS]
  · refine Or.inr ⟨by omega, ?_⟩
    obtain ⟨B, e, f, y⟩ := x_ref (w := 2) x
    have e' : sX10_refuse 2 M = some (0, B) := e
    rw [if_neg (show ¬ nI k < 96 from nlt_nI (b := 96) (by omega) (by omega)), e', Option.bind_some]
    exact ⟨B, rfl, f, y⟩
