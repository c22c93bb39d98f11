/-- the kind of the first line that holds -/
def kiV (B : Nat → Bool) (K : Nat → Int32) : Nat → Nat → Int32
  | 0, _ => -1
  | f + 1, l => if B l = true then K l else kiV B K f (l + 1)
theorem fl_ki {B : Nat → Bool} {K : Nat → Int32} : ∀ f l, flV B f l = -1 ∧ kiV B K f l = -1 ∨ ∃ a, a < l + f ∧ flV B f l = nI a ∧ kiV B K f l = K a := by
  intro f
  induction f with
  | zero => intro l; exact Or.inl ⟨rfl, rfl⟩
  | succ f ih =>
    intro l
    rw [flV, kiV]
    by_cases q : B l = true
    · rw [if_pos q, if_pos q]; exact Or.inr ⟨l, by omega, rfl, rfl⟩
    · rw [if_neg q, if_neg q]
      rcases ih (l + 1) with q | ⟨a, q1, q2⟩
      · exact Or.inl q
      · exact Or.inr ⟨a, by omega, q2⟩
theorem nI_nm {a : Nat} (h : a < 2 ^ 31) : ¬ nI a = -1 := fun q => by
  have h1 : (0 : Int32) ≤ nI a := nI_le (a := 0) (b := a) (by omega) (by omega)
  rw [q] at h1
  exact neg1 h1
def pJu (r i id k : Nat) : Prop := id = r + 7 ∨ id = 38 + 2 * i ∧ (k = 4 ∨ k = 5)
theorem x_judge {r n i m : Nat} {C : Nat → List Cd} {D : Nat → Nat → Nat} {M : Mm} (hr : r = 6 ∨ r = 14) (hi : i < 60) (hl : lyOk m D) (hk : xK_ r n C M) (hb : xB_ i m D M) : ∃ M', sX7_judge (38 + 2 * i) r M = some M' ∧ Fr (pJu r i) M M' ∧ M'.1 (38 + 2 * i) 4 = flV (fun l => vlV D m (C l)) n 0 ∧ M'.1 (38 + 2 * i) 5 = kiV (fun l => vlV D m (C l)) (fun l => M.1 (r + 5) l) n 0 := by
  have h16 := hk.1
  obtain ⟨M1, e1, f1⟩ := x_fl hr hi hl n 0 4096 M (by omega) (by omega) hk hb
  have f1' : Fr (pJu r i) M M1 := Fr_mo f1 fun _ _ q => Or.inl q
  unfold sX7_judge sX4_firstLineOf sX7_judge_31
  rw [show sX4_firstLineOf_4 r (38 + 2 * i) 4096 0 0 M = _ from e1, Option.bind_some]
  dsimp only
  rw [rdS]
  rcases fl_ki (B := fun l => vlV D m (C l)) (K := fun l => M.1 (r + 5) l) n 0 with ⟨q1, q2⟩ | ⟨a, q0, q1, q2⟩
  · rw [q1, q2, if_pos rfl]
    exact ⟨_, rfl, Fr_sI (Fr_sI f1' (Or.inr ⟨rfl, Or.inl rfl⟩)) (Or.inr ⟨rfl, Or.inr rfl⟩), by rw [rdN (by omega), rdS], rdS _ _ _ _⟩
  · rw [q1, q2, if_neg (nI_nm (by omega)), ckT (inb_nI (show a < 16 by omega) (by decide)), nI_clamp (by omega)]
    refine ⟨_, rfl, Fr_sI (Fr_sI f1' (Or.inr ⟨rfl, Or.inl rfl⟩)) (Or.inr ⟨rfl, Or.inr rfl⟩), by rw [rdN (by omega), rdS], ?_⟩
    rw [rdS, rdN (by omega)]
    exact (f1 _ _ (by omega)).1
