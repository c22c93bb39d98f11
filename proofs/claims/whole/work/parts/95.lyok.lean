theorem wdR_b {T : Nat → Int32} {n q f c : Nat} (h : wdR T n q f c = true) : f ≤ wdn T n q ∧ wdn T n q < f + c := by
  unfold wdR at h
  unfold wdn
  cases e : wdx T n q with
  | none => rw [e] at h; cases h
  | some i =>
    rw [e] at h
    have h' : (decide (f ≤ i) && decide (i < f + c)) = true := h
    rw [Bool.and_eq_true] at h'
    exact ⟨of_decide_eq_true h'.1, of_decide_eq_true h'.2⟩
theorem nmF_b {T : Nat → Int32} {n q m : Nat} (h : nmF T n q m = 0) : tN T n q ≤ m := by
  unfold nmF at h
  by_cases q1 : tS T n q = 1
  · rw [if_pos q1] at h
    by_cases q2 : tN T n q ≤ m
    · exact q2
    · rw [if_neg q2] at h; cases h
  · rw [if_neg q1] at h; cases h
theorem rd1_b {T : Nat → Int32} {n q due q3 e : Nat} (h : rd1 T n q due = .inr (q3, e)) : due < e ∧ e ≤ 300 := by
  unfold rd1 at h
  split at h
  · cases h
  split at h
  · cases h
  split at h
  · cases h
  split at h
  · cases h
  next h4 =>
    split at h
    · cases h
    next h5 =>
      cases h
      exact ⟨by omega, nmF_b (by omega)⟩
theorem rd3_b {T : Nat → Int32} {n q q' s : Nat} (h : rd3 T n q = .inr (q', s)) : s ≤ 99 := by
  unfold rd3 at h
  split at h
  · cases h; omega
  split at h
  · cases h
  next h4 => cases h; exact nmF_b (by omega)
theorem rd2_b {T : Nat → Int32} {n q q' : Nat} {l : List Nat} (h : rd2 T n q = .inr (q', l)) : ∃ a b c d, l = [a, b, c, d] ∧ a ≤ 300 ∧ b ≤ 300 ∧ c ≤ 300 ∧ d ≤ 300 := by
  unfold rd2 at h
  split at h
  · cases h
  next h1 =>
    split at h
    · cases h
    next h2 =>
      have w1 := wdR_b (show wdR T n q 0 6 = true by cases z : wdR T n q 0 6 with
        | true => rfl
        | false => exact absurd z h1)
      have w2 := wdR_b (show wdR T n (tE T n q) 6 5 = true by cases z : wdR T n (tE T n q) 6 5 with
        | true => rfl
        | false => exact absurd z h2)
      cases h3 : rd3 T n (rdm T n (tE T n (tE T n q))) with
      | inl f => rw [h3] at h; cases h
      | inr z =>
        obtain ⟨z1, z2⟩ := z
        have w3 := rd3_b h3
        rw [h3] at h
        cases h
        refine ⟨_, _, _, _, rfl, by omega, by omega, ?_, by omega⟩
        split <;> omega
theorem rdL_b {T : Nat → Int32} {n q due q' : Nat} {l : List Nat} (h : rdL T n q due = .inr (q', l)) (hd : due ≤ 300) : l.length = 6 ∧ l.getD 0 0 = due ∧ due < l.getD 1 0 ∧ l.getD 1 0 ≤ 300 ∧ ∀ j, j < 6 → l.getD j 0 ≤ 300 := by
  unfold rdL at h
  cases h1 : rd1 T n q due with
  | inl f => rw [h1] at h; cases h
  | inr z =>
    obtain ⟨q3, e⟩ := z
    rw [h1] at h
    dsimp only at h
    have b1 := rd1_b h1
    cases h2 : rd2 T n q3 with
    | inl f => rw [h2] at h; cases h
    | inr z =>
      obtain ⟨q4, l'⟩ := z
      rw [h2] at h
      cases h
      obtain ⟨a, b, c, d, rfl, ha, hb, hc, hd'⟩ := rd2_b h2
      refine ⟨rfl, rfl, b1.1, b1.2, fun j hj => ?_⟩
      match j, hj with
      | 0, _ => exact hd
      | 1, _ => exact b1.2
      | 2, _ => exact ha
      | 3, _ => exact hb
      | 4, _ => exact hc
      | 5, _ => exact hd'
/-- the layers of a list of fields -/
def DL (L : List Nat) (k j : Nat) : Nat := L.getD (6 * k + j) 0
def lyP (m : Nat) (L : List Nat) : Prop := L.length = 6 * m ∧ (1 ≤ m → DL L 0 0 = 0) ∧ (∀ k, k < m → DL L k 0 < DL L k 1 ∧ DL L k 1 ≤ 300 ∧ ∀ j, j < 6 → DL L k j ≤ 300) ∧ ∀ k, k + 1 < m → DL L (k + 1) 0 = DL L k 1
theorem lyP_ok {m : Nat} {L : List Nat} (h : lyP m L) (h1 : 1 ≤ m) (h8 : m ≤ 8) : lyOk m (DL L) := ⟨h1, h8, h.2.1 h1, h.2.2.1, h.2.2.2⟩
theorem lyP_ap {m due : Nat} {L l : List Nat} (h : lyP m L) (hl : l.length = 6) (h0 : l.getD 0 0 = due) (h1 : due < l.getD 1 0) (h3 : l.getD 1 0 ≤ 300) (hj : ∀ j, j < 6 → l.getD j 0 ≤ 300) (d0 : m = 0 → due = 0) (d1 : m ≠ 0 → due = DL L (m - 1) 1) : lyP (m + 1) (L ++ l) := by
  obtain ⟨a, b, c, d⟩ := h
  have old : ∀ k j, k < m → j < 6 → DL (L ++ l) k j = DL L k j := fun k j hk hj => gD_ap (by omega)
  have new : ∀ j, j < 6 → DL (L ++ l) m j = l.getD j 0 := fun j hj => by
    unfold DL
    rw [gD_ar (by omega), a, Nat.add_sub_cancel_left]
  refine ⟨by rw [List.length_append, a, hl]; omega, fun _ => ?_, fun k hk => ?_, fun k hk => ?_⟩
  · by_cases z : m = 0
    · subst z; rw [new 0 (by omega), h0, d0 rfl]
    · rw [old 0 0 (by omega) (by omega)]; exact b (by omega)
  · by_cases z : k < m
    · rw [old k 0 z (by omega), old k 1 z (by omega)]
      exact ⟨(c k z).1, (c k z).2.1, fun j hj => by rw [old k j z hj]; exact (c k z).2.2 j hj⟩
    · rw [show k = m by omega, new 0 (by omega), new 1 (by omega), h0]
      exact ⟨h1, h3, fun j q => by rw [new j q]; exact hj j q⟩
  · by_cases z : k + 1 < m
    · rw [old (k + 1) 0 z (by omega), old k 1 (by omega) (by omega)]; exact d k z
    · have hm : k + 1 = m := by omega
      rw [hm, new 0 (by omega), old k 1 (by omega) (by omega), h0, d1 (by omega), ← hm, Nat.add_sub_cancel]
theorem rdB_ly {T : Nat → Int32} {n : Nat} : ∀ (f m q due : Nat) (L L' : List Nat), lyP m L → due ≤ 300 → (m = 0 → due = 0) → (m ≠ 0 → due = DL L (m - 1) 1) → rdB T n f q due L = .inr L' → ∃ m', m + 1 ≤ m' ∧ m' ≤ m + f ∧ lyP m' L' := by
  intro f
  induction f with
  | zero => intro m q due L L' _ _ _ _ h; rw [rdB] at h; cases h
  | succ f ih =>
    intro m q due L L' hL hd d0 d1 h
    rw [rdB] at h
    cases hr : rdL T n q due with
    | inl z => rw [hr] at h; cases h
    | inr z =>
      obtain ⟨q', l⟩ := z
      rw [hr] at h
      dsimp only at h
      obtain ⟨b1, b2', b3, b4, b5⟩ := rdL_b hr hd
      have hn := lyP_ap hL b1 b2' b3 b4 b5 d0 d1
      split at h
      · cases h; exact ⟨m + 1, by omega, by omega, hn⟩
      split at h
      · cases h
      split at h
      · cases h; exact ⟨m + 1, by omega, by omega, hn⟩
      obtain ⟨m', g1, g2, g3⟩ := ih (m + 1) _ _ _ L' hn b4 (by omega) (fun _ => by
        unfold DL
        rw [Nat.add_sub_cancel, gD_ar (by rw [hL.1]; omega), hL.1, Nat.add_sub_cancel_left]) h
      exact ⟨m', by omega, by omega, g3⟩
theorem rdB_ok {T : Nat → Int32} {n m : Nat} {L : List Nat} (h : rdB T n 8 0 0 [] = .inr L) (hm : L.length = 6 * m) : lyOk m (DL L) := by
  obtain ⟨m', g1, g2, g3⟩ := rdB_ly 8 0 0 0 [] L ⟨rfl, fun q => by omega, fun k q => by omega, fun k q => by omega⟩ (by omega) (fun _ => rfl) (fun q => absurd rfl q) h
  have : m' = m := by have := g3.1; omega
  rw [← this]
  exact lyP_ok g3 (by omega) (by omega)
