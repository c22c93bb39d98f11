/-- the model's memory while it reads: what waits, what is held, what is done -/
def wE (M : Mm) (i : Nat) (e : Wt) : Prop := e.1 ≤ 102 ∧ M.1 219 i = nI e.1 ∧ (e.1 = 100 ∨ M.1 220 i = nI (96 + e.2.1) ∧ M.1 213 (96 + e.2.1) = nI (mn e.2.2.1) ∧ M.1 214 (96 + e.2.1) = nI e.2.2.2.1 ∧ M.1 215 (96 + e.2.1) = nI e.2.2.2.2)
def wW (M : Mm) : List Wt → Prop
  | [] => True
  | e :: W => wE M W.length e ∧ wW M W
def hH (M : Mm) : List Nat → Prop
  | [] => True
  | t :: H => M.1 221 H.length = nI (96 + t) ∧ hH M H
def oN (M : Mm) (d : Nd) : Prop := M.1 213 (96 + d.2.1) = nI (mn d.1.1) ∧ M.1 214 (96 + d.2.1) = nI d.1.2.1 ∧ M.1 215 (96 + d.2.1) = nI d.1.2.2 ∧ (d.1.1 = 14 ∨ d.1.1 = 15 → M.1 217 (96 + d.2.1) = nI (96 + d.2.2.2)) ∧ (14 ≤ d.1.1 ∧ d.1.1 ≠ 17 ∧ d.1.1 ≠ 23 → M.1 216 (96 + d.2.1) = nI (96 + d.2.2.1))
def oO (M : Mm) : Nat → List Nd → Prop
  | _, [] => True
  | i, d :: O => M.1 218 (96 + i) = nI (96 + d.2.1) ∧ oN M d ∧ oO M (i + 1) O
def nW : List Wt → Nat
  | [] => 0
  | e :: W => nW W + if e.1 = 100 then 0 else 1
def dW (z k : Nat) (O : List Nd) : List Wt → Prop
  | [] => True
  | e :: W => (e.1 = 100 ∨ z ≤ e.2.1 ∧ e.2.1 < k ∧ (∀ d ∈ O, d.2.1 ≠ e.2.1) ∧ (∀ e' ∈ W, e'.1 = 100 ∨ e'.2.1 ≠ e.2.1) ∧ (e.1 = 13 ∨ e.1 = 14 ∨ e.2.2.1 ≠ 14 ∧ e.2.2.1 ≠ 15)) ∧ dW z k O W
def Ym (z : Nat) (m : Mc) (M : Mm) : Prop := M.1 194 53 = nI m.1.length ∧ wW M m.1 ∧ M.1 194 55 = nI m.2.1.length ∧ hH M m.2.1 ∧ M.1 194 50 = nI (z + m.2.2.length) ∧ oO M z m.2.2
def Yi (z k b : Nat) (m : Mc) : Prop := dW z k m.2.2 m.1 ∧ (∀ d ∈ m.2.2, d.2.1 < k) ∧ m.1.length ≤ k + b ∧ m.2.1.length ≤ m.2.2.length ∧ z + m.2.2.length + nW m.1 = k ∧ k ≤ 96 ∧ b ≤ 8
theorem wW_g {M M' : Mm} {L : Nat} (h9 : ∀ i, i < L → M'.1 219 i = M.1 219 i ∧ M'.1 220 i = M.1 220 i) : ∀ (W : List Wt), W.length ≤ L → (∀ e ∈ W, e.1 ≠ 100 → ∀ a, 213 ≤ a ∧ a ≤ 215 → M'.1 a (96 + e.2.1) = M.1 a (96 + e.2.1)) → wW M W → wW M' W := by
  intro W
  induction W with
  | nil => intro _ _ _; trivial
  | cons e W ih =>
    intro hL hn h
    rw [List.length_cons] at hL
    obtain ⟨⟨a1, a2, a3⟩, b⟩ := h
    refine ⟨⟨a1, (h9 _ (by omega)).1.trans a2, ?_⟩, ih (by omega) (fun e' he => hn e' (List.mem_cons_of_mem _ he)) b⟩
    by_cases z : e.1 = 100
    · exact Or.inl z
    · rcases a3 with q | ⟨q1, q2, q3, q4⟩
      · exact absurd q z
      · have g := hn e List.mem_cons_self z
        exact Or.inr ⟨(h9 _ (by omega)).2.trans q1, (g _ (by omega)).trans q2, (g _ (by omega)).trans q3, (g _ (by omega)).trans q4⟩
theorem hH_g {M M' : Mm} {L : Nat} (h : ∀ i, i < L → M'.1 221 i = M.1 221 i) : ∀ (H : List Nat), H.length ≤ L → hH M H → hH M' H := by
  intro H
  induction H with
  | nil => intro _ _; trivial
  | cons t H ih =>
    intro hL q
    rw [List.length_cons] at hL
    exact ⟨(h _ (by omega)).trans q.1, ih (by omega) q.2⟩
theorem oN_g {M M' : Mm} {d : Nd} (h : ∀ a, 213 ≤ a ∧ a ≤ 217 → M'.1 a (96 + d.2.1) = M.1 a (96 + d.2.1)) (q : oN M d) : oN M' d := by
  obtain ⟨q1, q2, q3, q4, q5⟩ := q
  exact ⟨(h _ (by omega)).trans q1, (h _ (by omega)).trans q2, (h _ (by omega)).trans q3, fun y => (h _ (by omega)).trans (q4 y), fun y => (h _ (by omega)).trans (q5 y)⟩
theorem oO_g {M M' : Mm} {L : Nat} (h8 : ∀ j, j < L → M'.1 218 (96 + j) = M.1 218 (96 + j)) : ∀ (O : List Nd) (i : Nat), i + O.length ≤ L → (∀ d ∈ O, ∀ a, 213 ≤ a ∧ a ≤ 217 → M'.1 a (96 + d.2.1) = M.1 a (96 + d.2.1)) → oO M i O → oO M' i O := by
  intro O
  induction O with
  | nil => intro i _ _ _; trivial
  | cons d O ih =>
    intro i hL hn h
    rw [List.length_cons] at hL
    exact ⟨(h8 _ (by omega)).trans h.1, oN_g (hn d List.mem_cons_self) h.2.1, ih (i + 1) (by omega) (fun d' hd => hn d' (List.mem_cons_of_mem _ hd)) h.2.2⟩
theorem oO_ap {M : Mm} {d : Nd} : ∀ (O : List Nd) (i : Nat), oO M i O → M.1 218 (96 + (i + O.length)) = nI (96 + d.2.1) → oN M d → oO M i (O ++ [d]) := by
  intro O
  induction O with
  | nil => intro i _ h1 h2; exact ⟨h1, h2, trivial⟩
  | cons d' O ih =>
    intro i h h1 h2
    rw [List.length_cons] at h1
    exact ⟨h.1, h.2.1, ih (i + 1) h.2.2 (by rw [show i + 1 + O.length = i + (O.length + 1) by omega]; exact h1) h2⟩
/-- nothing that it reads has changed -/
theorem Ym_sm {z : Nat} {m : Mc} {M M' : Mm} (h : ∀ a j, a = 194 ∧ (j = 50 ∨ j = 53 ∨ j = 55) ∨ 213 ≤ a ∧ a ≤ 221 → M'.1 a j = M.1 a j) (y : Ym z m M) : Ym z m M' := by
  obtain ⟨y1, y2, y3, y4, y5, y6⟩ := y
  exact ⟨(h _ _ (by omega)).trans y1, wW_g (L := m.1.length) (fun i _ => ⟨h _ _ (by omega), h _ _ (by omega)⟩) _ (Nat.le_refl _) (fun e _ _ a q => h _ _ (by omega)) y2, (h _ _ (by omega)).trans y3, hH_g (L := m.2.1.length) (fun i _ => h _ _ (by omega)) _ (Nat.le_refl _) y4, (h _ _ (by omega)).trans y5, oO_g (L := z + m.2.2.length) (fun j _ => h _ _ (by omega)) _ _ (Nat.le_refl _) (fun d _ a q => h _ _ (by omega)) y6⟩
def pBd (z id k : Nat) : Prop := id = 194 ∧ (k = 50 ∨ k = 53 ∨ k = 55) ∨ 216 ≤ id ∧ id ≤ 218 ∧ 96 + z ≤ k ∨ id = 221
theorem y_hold {z t : Nat} {W : List Wt} {H : List Nat} {O : List Nd} {M : Mm} (y : Ym z (W, H, O) M) (hl : H.length < 120) : sX12_hold (nI (96 + t)) M = some (sI (sI M 221 H.length (nI (96 + t))) 194 55 (nI (H.length + 1))) ∧ Ym z (W, t :: H, O) (sI (sI M 221 H.length (nI (96 + t))) 194 55 (nI (H.length + 1))) := by
  obtain ⟨y1, y2, y3, y4, y5, y6⟩ := y
  dsimp only at y1 y2 y3 y4 y5 y6
  have r : ∀ a j, ¬ (a = 194 ∧ j = 55) → ¬ (a = 221 ∧ j = H.length) → (sI (sI M 221 H.length (nI (96 + t))) 194 55 (nI (H.length + 1))).1 a j = M.1 a j := fun a j h1 h2 => by rw [rdN h1, rdN h2]
  constructor
  · unfold sX12_hold
    rw [y3, ckT (inb_nI hl (by decide)), nI_clamp (by omega), rdN (by omega), y3, nI_1]
  · refine ⟨(r _ _ (by omega) (by omega)).trans y1, wW_g (L := W.length) (fun i _ => ⟨r _ _ (by omega) (by omega), r _ _ (by omega) (by omega)⟩) _ (Nat.le_refl _) (fun e _ _ a q => r _ _ (by omega) (by omega)) y2, ?_, ⟨?_, hH_g (L := H.length) (fun i q => r _ _ (by omega) (by omega)) _ (Nat.le_refl _) y4⟩, (r _ _ (by omega) (by omega)).trans y5, oO_g (L := z + O.length) (fun j _ => r _ _ (by omega) (by omega)) _ _ (Nat.le_refl _) (fun d _ a q => r _ _ (by omega) (by omega)) y6⟩
    · rw [rdS]; rfl
    · rw [rdN (by omega), rdS]
theorem y_drop {z t : Nat} {W : List Wt} {H : List Nat} {O : List Nd} {M : Mm} (y : Ym z (W, t :: H, O) M) (hl : H.length < 120) : sX12_drop M = some (nI (96 + t), sI M 194 55 (nI H.length)) ∧ Ym z (W, H, O) (sI M 194 55 (nI H.length)) := by
  obtain ⟨y1, y2, y3, y4, y5, y6⟩ := y
  dsimp only at y1 y2 y3 y4 y5 y6
  rw [List.length_cons] at y3
  have r : ∀ a j, ¬ (a = 194 ∧ j = 55) → (sI M 194 55 (nI H.length)).1 a j = M.1 a j := fun a j h1 => by rw [rdN h1]
  constructor
  · unfold sX12_drop
    rw [y3, nI_dn, rdS, ckT (inb_nI hl (by decide)), nI_clamp (by omega), rdN (by omega), y4.1]
  · exact ⟨(r _ _ (by omega)).trans y1, wW_g (L := W.length) (fun i _ => ⟨r _ _ (by omega), r _ _ (by omega)⟩) _ (Nat.le_refl _) (fun e _ _ a q => r _ _ (by omega)) y2, rdS _ _ _ _, hH_g (L := H.length) (fun i q => r _ _ (by omega)) _ (Nat.le_refl _) y4.2, (r _ _ (by omega)).trans y5, oO_g (L := z + O.length) (fun j _ => r _ _ (by omega)) _ _ (Nat.le_refl _) (fun d _ a q => r _ _ (by omega)) y6⟩
theorem y_done {z : Nat} {d : Nd} {W : List Wt} {H : List Nat} {O : List Nd} {M : Mm} (y : Ym z (W, H, O) M) (hd : oN M d) (hl : H.length < 120) (ho : z + O.length < 96) : ∃ M', sX12_done (nI (96 + d.2.1)) M = some M' ∧ Fr (pBd z) M M' ∧ Ym z (W, d.2.1 :: H, O ++ [d]) M' := by
  obtain ⟨y1, y2, y3, y4, y5, y6⟩ := y
  dsimp only at y1 y2 y3 y4 y5 y6
  have r : ∀ a j, ¬ (a = 194 ∧ j = 50) → ¬ (a = 218 ∧ j = 96 + (z + O.length)) → (sI (sI M 218 (96 + (z + O.length)) (nI (96 + d.2.1))) 194 50 (nI (z + O.length + 1))).1 a j = M.1 a j := fun a j h1 h2 => by rw [rdN h1, rdN h2]
  have y' : Ym z (W, H, O ++ [d]) (sI (sI M 218 (96 + (z + O.length)) (nI (96 + d.2.1))) 194 50 (nI (z + O.length + 1))) := by
    refine ⟨(r _ _ (by omega) (by omega)).trans y1, wW_g (L := W.length) (fun i _ => ⟨r _ _ (by omega) (by omega), r _ _ (by omega) (by omega)⟩) _ (Nat.le_refl _) (fun e _ _ a q => r _ _ (by omega) (by omega)) y2, (r _ _ (by omega) (by omega)).trans y3, hH_g (L := H.length) (fun i q => r _ _ (by omega) (by omega)) _ (Nat.le_refl _) y4, ?_, ?_⟩
    · rw [rdS]
      dsimp only
      rw [List.length_append, List.length_singleton, Nat.add_assoc]
    · refine oO_ap _ _ (oO_g (L := z + O.length) (fun j q => r _ _ (by omega) (by omega)) _ _ (Nat.le_refl _) (fun d _ a q => r _ _ (by omega) (by omega)) y6) ?_ (oN_g (fun a q => r _ _ (by omega) (by omega)) hd)
      rw [rdN (by omega), rdS]
  obtain ⟨e1, y2'⟩ := y_hold (t := d.2.1) y' hl
  refine ⟨_, ?_, ?_, y2'⟩
  · unfold sX12_done
    rw [y5, show (96 : Int32) = nI 96 from rfl, nI_add, ckT (inb_nI (show 96 + (z + O.length) < 192 by omega) (by decide)), nI_clamp (by omega), rdN (by omega), y5, nI_1, e1, Option.bind_some]
  · exact Fr_sI (Fr_sI (Fr_sI (Fr_sI (Fr_rf _ _) (by unfold pBd; omega)) (by unfold pBd; omega)) (by unfold pBd; omega)) (by unfold pBd; omega)
/-- a link of a node that waited -/
theorem y_lnk {z a id : Nat} {v : Int32} {m : Mc} {M : Mm} (y : Ym z m M) (h : id = 216 ∨ id = 217) (ha : ∀ d ∈ m.2.2, d.2.1 ≠ a) : Ym z m (sI M id (96 + a) v) := by
  obtain ⟨y1, y2, y3, y4, y5, y6⟩ := y
  have r : ∀ b j, ¬ (b = id ∧ j = 96 + a) → (sI M id (96 + a) v).1 b j = M.1 b j := fun b j h1 => by rw [rdN h1]
  refine ⟨(r _ _ (by omega)).trans y1, wW_g (L := m.1.length) (fun i _ => ⟨r _ _ (by omega), r _ _ (by omega)⟩) _ (Nat.le_refl _) (fun e _ _ a q => r _ _ (by omega)) y2, (r _ _ (by omega)).trans y3, hH_g (L := m.2.1.length) (fun i q => r _ _ (by omega)) _ (Nat.le_refl _) y4, (r _ _ (by omega)).trans y5, oO_g (L := z + m.2.2.length) (fun j q => r _ _ (by omega)) _ _ (Nat.le_refl _) (fun d hd b q => r _ _ (fun p => ?_)) y6⟩
  have := ha d hd
  omega
/-- what waits on top is taken off -/
theorem y_pop {z : Nat} {e : Wt} {W : List Wt} {H : List Nat} {O : List Nd} {M : Mm} (y : Ym z (e :: W, H, O) M) : M.1 194 53 - 1 = nI W.length ∧ Ym z (W, H, O) (sI M 194 53 (nI W.length)) ∧ wE (sI M 194 53 (nI W.length)) W.length e := by
  obtain ⟨y1, y2, y3, y4, y5, y6⟩ := y
  dsimp only at y1 y2 y3 y4 y5 y6
  rw [List.length_cons] at y1
  have r : ∀ a j, ¬ (a = 194 ∧ j = 53) → (sI M 194 53 (nI W.length)).1 a j = M.1 a j := fun a j h1 => by rw [rdN h1]
  refine ⟨by rw [y1, nI_dn], ⟨rdS _ _ _ _, wW_g (L := W.length) (fun i _ => ⟨r _ _ (by omega), r _ _ (by omega)⟩) _ (Nat.le_refl _) (fun e _ _ a q => r _ _ (by omega)) y2.2, (r _ _ (by omega)).trans y3, hH_g (L := H.length) (fun i q => r _ _ (by omega)) _ (Nat.le_refl _) y4, (r _ _ (by omega)).trans y5, oO_g (L := z + O.length) (fun j _ => r _ _ (by omega)) _ _ (Nat.le_refl _) (fun d _ a q => r _ _ (by omega)) y6⟩, ?_⟩
  obtain ⟨a1, a2, a3⟩ := y2.1
  refine ⟨a1, (r _ _ (by omega)).trans a2, ?_⟩
  rcases a3 with q | ⟨q1, q2, q3, q4⟩
  · exact Or.inl q
  · exact Or.inr ⟨(r _ _ (by omega)).trans q1, (r _ _ (by omega)).trans q2, (r _ _ (by omega)).trans q3, (r _ _ (by omega)).trans q4⟩
theorem dW_up {z k : Nat} {O : List Nd} {d : Nd} : ∀ (W : List Wt), (∀ e ∈ W, e.1 = 100 ∨ e.2.1 ≠ d.2.1) → dW z k O W → dW z k (O ++ [d]) W := by
  intro W
  induction W with
  | nil => intro _ _; trivial
  | cons e W ih =>
    intro h q
    refine ⟨?_, ih (fun e' he => h e' (List.mem_cons_of_mem _ he)) q.2⟩
    rcases q.1 with p | ⟨p1, p2, p3, p4⟩
    · exact Or.inl p
    · rcases h e List.mem_cons_self with u | u
      · exact Or.inl u
      · refine Or.inr ⟨p1, p2, fun d' hd => ?_, p4⟩
        rcases List.mem_append.mp hd with v | v
        · exact p3 d' v
        · rcases List.mem_singleton.mp v with rfl
          exact fun x => u x.symm
