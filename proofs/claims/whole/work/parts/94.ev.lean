theorem fl_ext {B B' : Nat → Bool} : ∀ f l, (∀ a, a < l + f → B a = B' a) → flV B f l = flV B' f l := by
  intro f
  induction f with
  | zero => intro l _; rfl
  | succ f ih =>
    intro l h
    rw [flV, flV, h l (by omega), ih (l + 1) (fun a q => h a (by omega))]
theorem ki_ext {B B' : Nat → Bool} {K K' : Nat → Int32} : ∀ f l, (∀ a, a < l + f → B a = B' a ∧ K a = K' a) → kiV B K f l = kiV B' K' f l := by
  intro f
  induction f with
  | zero => intro l _; rfl
  | succ f ih =>
    intro l h
    rw [kiV, kiV, (h l (by omega)).1, (h l (by omega)).2, ih (l + 1) (fun a q => h a (by omega))]
/-- both keys say the same -/
def iKey (r K : Nat) (M : Mm) : Prop := ∃ (n : Nat) (C : Nat → List Cd) (Q : Nat → List Nd), xK_ r n C M ∧ mK_ n Q M ∧ ∀ l, l < n → M.1 (r + 5) l = M.1 210 l ∧ (∃ k, k < K ∧ M.1 (r + 5) l = nI k) ∧ ∀ D m, lyOk m D → vlV D m (C l) = vlV D m (cdI (Q l))
theorem j_ev {r K i m : Nat} {D : Nat → Nat → Nat} {M : Mm} (hr : r = 6 ∨ r = 14) (hi : i < 60) (hl : lyOk m D) (hk : iKey r K M) (hx : xB_ i m D M) (hb : mB_ i m D M) : ∃ M', sX7_judge (38 + 2 * i) r M = some M' ∧ Fr (pJu r i) M M' ∧ iEvN M' i ∧ (M'.1 (38 + 2 * i) 5 = -1 ∨ ∃ k, k < K ∧ M'.1 (38 + 2 * i) 5 = nI k) := by
  obtain ⟨n, C, Q, k1, k2, k3⟩ := hk
  obtain ⟨M1, e1, f1, g4, g5⟩ := x_judge hr hi hl k1 hx
  have ag : agE M M1 := fun id k h => (f1 id k (by unfold pJu; unfold rEv at h; omega)).1
  refine ⟨M1, e1, f1, fun M2 h2 => ?_, ?_⟩
  · have ag2 : agE M M2 := fun id k h => (h2 id k h).trans (ag id k h)
    obtain ⟨A, e2, f2⟩ := m_line hi hl (mK_ag ag2 k2) (mB_ag ag2 hb)
    obtain ⟨A', e3, f3⟩ := m_kind hi hl (mK_ag ag2 k2) (mB_ag ag2 hb)
    refine ⟨⟨A, ?_, f2⟩, ⟨A', ?_, f3⟩⟩
    · rw [e2, g4, fl_ext n 0 (fun a q => ((k3 a (by omega)).2.2 D m hl))]
    · rw [e3, g5, ki_ext n 0 (fun a q => ⟨(k3 a (by omega)).2.2 D m hl, (k3 a (by omega)).1.trans (ag2 210 a (by unfold rEv; omega)).symm⟩)]
  · rcases fl_ki (B := fun l => vlV D m (C l)) (K := fun l => M.1 (r + 5) l) n 0 with ⟨_, q2⟩ | ⟨a, q0, _, q2⟩
    · exact Or.inl (g5.trans q2)
    · obtain ⟨k, h1, h2⟩ := (k3 a (by omega)).2.1
      exact Or.inr ⟨k, h1, (g5.trans q2).trans h2⟩
