/-- which places may have changed -/
def Fr (P : Nat → Nat → Prop) (M M' : Mm) : Prop := ∀ id k, ¬ P id k → M'.1 id k = M.1 id k ∧ M'.2 id k = M.2 id k
theorem Fr_rf (P : Nat → Nat → Prop) (M : Mm) : Fr P M M := fun _ _ _ => ⟨rfl, rfl⟩
theorem Fr_tr {P : Nat → Nat → Prop} {M M1 M2 : Mm} (h1 : Fr P M M1) (h2 : Fr P M1 M2) : Fr P M M2 := fun id k h => ⟨(h2 id k h).1.trans (h1 id k h).1, (h2 id k h).2.trans (h1 id k h).2⟩
theorem Fr_mo {P P' : Nat → Nat → Prop} {M M1 : Mm} (h1 : Fr P M M1) (h : ∀ id k, P id k → P' id k) : Fr P' M M1 := fun id k hn => h1 id k (fun q => hn (h id k q))
theorem Fr_sI {P : Nat → Nat → Prop} {M M1 : Mm} {a j : Nat} {v : Int32} (h : Fr P M M1) (hp : P a j) : Fr P M (sI M1 a j v) := fun id k hn => by
  have hne : ¬ (id = a ∧ k = j) := fun q => hn (by rw [q.1, q.2]; exact hp)
  refine ⟨?_, (h id k hn).2⟩
  show up2 M1.1 a j v id k = _
  unfold up2
  rw [if_neg hne]
  exact (h id k hn).1
theorem Fr_sL {P : Nat → Nat → Prop} {M M1 : Mm} {a j : Nat} {v : Int64} (h : Fr P M M1) (hp : P a j) : Fr P M (sL M1 a j v) := fun id k hn => by
  have hne : ¬ (id = a ∧ k = j) := fun q => hn (by rw [q.1, q.2]; exact hp)
  refine ⟨(h id k hn).1, ?_⟩
  show up2 M1.2 a j v id k = _
  unfold up2
  rw [if_neg hne]
  exact (h id k hn).2
theorem rdS (M : Mm) (a j : Nat) (v : Int32) : (sI M a j v).1 a j = v := by simp [sI, up2]
theorem rdN {M : Mm} {a j b k : Nat} {v : Int32} (h : ¬ (b = a ∧ k = j)) : (sI M a j v).1 b k = M.1 b k := by simp only [sI, up2]; rw [if_neg h]
theorem inb_nI {i N : Nat} (h : i < N) (hN : N < 2 ^ 31) : inb (nI i) N = true := by
  have := vp_in_nI h hN
  unfold inb
  simp [vp_in] at this
  simp [this]
theorem ckT {α : Type} {b : Bool} {x : Option α} (h : b = true) : ck b x = x := by unfold ck; rw [if_pos h]
