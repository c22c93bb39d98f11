def Xs (T : Nat → Int32) (n q : Nat) (M : Mm) : Prop := XT T n q M ∧ Tp 2 T n M ∧ iWx M ∧ M.1 3 8 = 0 ∧ M.1 3 9 = -1 ∧ q ≤ n
def Xf (w p : Nat) (M : Mm) : Prop := M.1 3 8 = nI w ∧ M.1 3 9 = nI p
def pXr (id k : Nat) : Prop := id = 3 ∧ 3 ≤ k ∧ k ≤ 9
theorem Xs_fr {P : Nat → Nat → Prop} {T : Nat → Int32} {n q : Nat} {M M1 : Mm} (x : Xs T n q M) (f : Fr P M M1) (h : ∀ id k, id = 2 ∨ id = 3 ∨ id = 4 → ¬ P id k) : Xs T n q M1 := by
  obtain ⟨⟨x1, x2, x3, x4, x5, x6⟩, y, z, u, v, w⟩ := x
  have e : ∀ k, M1.1 3 k = M.1 3 k := fun k => (f 3 k (h 3 k (by omega))).1
  refine ⟨⟨?_, ?_, ?_, ?_, fun q => ?_, fun q => ?_⟩, ⟨y.1, fun k hk => ?_⟩, fun i hi => ?_, ?_, ?_, w⟩
  · rw [e]; exact x1
  · rw [e]; exact x2
  · rw [e]; exact x3
  · rw [e]; exact x4
  · rw [e]; exact x5 q
  · rw [(f 3 7 (h 3 7 (by omega))).2]; exact x6 q
  · rw [(f 2 k (h 2 k (by omega))).1]; exact y.2 k hk
  · rw [(f 4 i (h 4 i (by omega))).2]; exact z i hi
  · rw [e]; exact u
  · rw [e]; exact v
theorem x_next {T : Nat → Int32} {n q : Nat} {M : Mm} (x : Xs T n q M) : ∃ M', sX10_step M = some M' ∧ Fr pXs M M' ∧ Xs T n (tE T n q) M' := by
  obtain ⟨⟨x1, x2, x3, x4, x5, x6⟩, y, z, u, v, w⟩ := x
  have hE := tE_le (T := T) w
  obtain ⟨M', e, f, g⟩ := x_step hE.2.2.1 y z x1 x2
  refine ⟨M', e, f, g, ⟨y.1, fun k hk => ?_⟩, fun i hi => ?_, ?_, ?_, hE.2.2.1⟩
  · rw [(f 2 k (by unfold pXs; omega)).1]; exact y.2 k hk
  · rw [(f 4 i (by unfold pXs; omega)).2]; exact z i hi
  · rw [(f 3 8 (by unfold pXs; omega)).1]; exact u
  · rw [(f 3 9 (by unfold pXs; omega)).1]; exact v
theorem xs_r {M M1 : Mm} (f : Fr pXs M M1) : Fr pXr M M1 := Fr_mo f (fun id k q => by unfold pXs at q; unfold pXr; omega)
theorem x_ref {T : Nat → Int32} {n q w : Nat} {M : Mm} (x : Xs T n q M) : ∃ M', sX10_refuse (nI w) M = some (0, M') ∧ Fr pXr M M' ∧ Xf w (tA T n q) M' := by
  refine ⟨_, rfl, Fr_sI (Fr_sI (Fr_rf _ _) (by unfold pXr; omega)) (by unfold pXr; omega), ?_, ?_⟩
  · rw [rdN (by omega), rdS]
  · rw [rdS, rdN (by omega)]; exact x.1.2.2.1
/-- what is wrong with the token as a number of at most m: 0 nothing -/
def nmF (T : Nat → Int32) (n q m : Nat) : Nat := if tS T n q = 1 then (if tN T n q ≤ m then 0 else 2) else 1
theorem i0_ : isb 0 = true := by decide
theorem i1_ : isb 1 = true := by decide
theorem one_ : ¬ (1 : Int32) = 0 := by decide
theorem x_nto {T : Nat → Int32} {n q m : Nat} {M : Mm} (x : Xs T n q M) (hm : m ≤ 999) : (nmF T n q m = 0 ∧ sX10_isNumberTo (nI m) M = some (1, M) ∧ M.1 3 6 = nI (tN T n q) ∧ tN T n q ≤ m) ∨ (nmF T n q m ≠ 0 ∧ ∃ M', sX10_isNumberTo (nI m) M = some (0, M') ∧ Fr pXr M M' ∧ Xf (nmF T n q m) (tA T n q) M') := by
  have h4 := tS_lt T n q
  have hq := x.2.2.2.2.2
  unfold nmF sX10_isNumberTo sX10_isNumberTo_30
  rw [x.1.2.2.2.1]
  by_cases h : tS T n q = 1
  · obtain ⟨v1, -, -, v4⟩ := tS_1 hq h
    have e6 := x.1.2.2.2.2.1 (by omega)
    rw [if_pos h, h, if_pos (show nI 1 = 1 from rfl), e6, v1]
    by_cases c : tN T n q ≤ m
    · rw [if_pos c, if_pos (nI_le (by omega) (by omega)), show min (tN T n q) 1000 = tN T n q by omega]
      exact Or.inl ⟨rfl, rfl, rfl, c⟩
    · rw [if_neg c, if_neg (nle_nI (by omega) (by omega))]
      obtain ⟨M', e, f, g⟩ := x_ref (w := 2) x
      refine Or.inr ⟨by omega, M', ?_, f, g⟩
      have e' : sX10_refuse 2 M = some (0, M') := e
      rw [e', Option.bind_some, if_pos rfl]
  · rw [if_neg h, if_neg (show ¬ nI (tS T n q) = 1 from ne_nI (b := 1) h (by omega) (by omega))]
    obtain ⟨M', e, f, g⟩ := x_ref (w := 1) x
    refine Or.inr ⟨by omega, M', ?_, f, g⟩
    have e' : sX10_refuse 1 M = some (0, M') := e
    rw [e', Option.bind_some, ckT i0_]
theorem x_tsg {T : Nat → Int32} {n q c : Nat} {M : Mm} (x : Xs T n q M) : (sgB T n q c = true ∧ ∃ M', sX10_takeSign (nI c) M = some (1, M') ∧ Fr pXs M M' ∧ Xs T n (tE T n q) M') ∨ (sgB T n q c = false ∧ ∃ M', sX10_takeSign (nI c) M = some (0, M') ∧ Fr pXr M M' ∧ Xf 1 (tA T n q) M') := by
  unfold sX10_takeSign
  rw [x_isSg x.1, Option.bind_some]
  dsimp only
  cases hs : sgB T n q c with
  | true =>
    obtain ⟨M', e, f, g⟩ := x_next x
    rw [if_neg b2t0, e, Option.bind_some]
    exact Or.inl ⟨rfl, M', rfl, f, g⟩
  | false =>
    obtain ⟨M', e, f, g⟩ := x_ref (w := 1) x
    have e' : sX10_refuse 1 M = some (0, M') := e
    rw [if_pos b2f, e', Option.bind_some, ckT i0_]
    exact Or.inr ⟨rfl, M', rfl, f, g⟩
/-- the same of the model -/
def Ms (T : Nat → Int32) (n q : Nat) (M : Mm) : Prop := MT T n q M ∧ Tp 195 T n M ∧ iWm M ∧ M.1 194 17 = 0 ∧ M.1 194 18 = -1 ∧ q ≤ n ∧ Tb T n
def Mf (w p : Nat) (M : Mm) : Prop := M.1 194 17 = nI w ∧ M.1 194 18 = nI p
def pMr (id k : Nat) : Prop := id = 194 ∧ (17 ≤ k ∧ k ≤ 18 ∨ 20 ≤ k ∧ k ≤ 25)
theorem Ms_fr {P : Nat → Nat → Prop} {T : Nat → Int32} {n q : Nat} {M M1 : Mm} (x : Ms T n q M) (f : Fr P M M1) (h : ∀ id k, id = 194 ∧ 17 ≤ k ∧ k ≤ 24 ∨ id = 195 ∨ id = 201 → ¬ P id k) : Ms T n q M1 := by
  obtain ⟨⟨x1, x2, x3, x4, x5, x6⟩, y, z, u, v, w⟩ := x
  have e : ∀ k, 17 ≤ k → k ≤ 24 → M1.1 194 k = M.1 194 k := fun k h1 h2 => (f 194 k (h 194 k (by omega))).1
  refine ⟨⟨?_, ?_, ?_, ?_, ?_, fun q => ?_⟩, ⟨y.1, fun k hk => ?_⟩, fun i hi => ?_, ?_, ?_, w⟩
  · rw [e _ (by omega) (by omega)]; exact x1
  · rw [e _ (by omega) (by omega)]; exact x2
  · rw [e _ (by omega) (by omega)]; exact x3
  · rw [e _ (by omega) (by omega)]; exact x4
  · rw [e _ (by omega) (by omega)]; exact x5
  · rw [e _ (by omega) (by omega)]; exact x6 q
  · rw [(f 195 k (h 195 k (by omega))).1]; exact y.2 k hk
  · rw [(f 201 i (h 201 i (by omega))).1]; exact z i hi
  · rw [e _ (by omega) (by omega)]; exact u
  · rw [e _ (by omega) (by omega)]; exact v
theorem m_next {T : Nat → Int32} {n q : Nat} {M : Mm} (x : Ms T n q M) : ∃ M', sX12_take M = some M' ∧ Fr pMt M M' ∧ Ms T n (tE T n q) M' := by
  obtain ⟨⟨x1, x2, x3, x4, x5, x6⟩, y, z, u, v, w, hb⟩ := x
  have hE := tE_le (T := T) w
  obtain ⟨M', e, f, g⟩ := m_take hE.2.2.1 y z x1 x2
  refine ⟨M', e, f, g, ⟨y.1, fun k hk => ?_⟩, fun i hi => ?_, ?_, ?_, hE.2.2.1, hb⟩
  · rw [(f 195 k (by unfold pMt; omega)).1]; exact y.2 k hk
  · rw [(f 201 i (by unfold pMt; omega)).1]; exact z i hi
  · rw [(f 194 17 (by unfold pMt; omega)).1]; exact u
  · rw [(f 194 18 (by unfold pMt; omega)).1]; exact v
theorem mt_r {M M1 : Mm} (f : Fr pMt M M1) : Fr pMr M M1 := Fr_mo f (fun id k q => by unfold pMt at q; unfold pMr; omega)
theorem m_wr {T : Nat → Int32} {n q w : Nat} {M : Mm} (x : Ms T n q M) : ∃ M', sX12_wrong (nI w) M = some (0, M') ∧ Fr pMr M M' ∧ Mf w (tA T n q) M' := by
  refine ⟨_, rfl, Fr_sI (Fr_sI (Fr_rf _ _) (by unfold pMr; omega)) (by unfold pMr; omega), ?_, ?_⟩
  · rw [rdN (by omega), rdS]
  · rw [rdS, rdN (by omega)]; exact x.1.2.2.1
/-- how the model asks for a number -/
theorem m_nk {T : Nat → Int32} {n q : Nat} {M : Mm} (x : Ms T n q M) : (M.1 194 21 = 3 ↔ tS T n q = 1) ∧ (tS T n q = 1 → M.1 194 22 = nI (tN T n q) ∧ tN T n q ≤ 100000) := by
  have h4 := tS_lt T n q
  obtain ⟨⟨x1, x2, x3, x4, x5, x6⟩, y, z, u, v, w, hb⟩ := x
  rw [x5]
  refine ⟨⟨fun e => ?_, fun e => (tS_1 w e).2.1⟩, fun e => ⟨by rw [x6 (by omega)]; exact (tS_1 w e).2.2.1, (tS_1 w e).2.2.2⟩⟩
  by_cases h0 : tS T n q = 0
  · rw [tS_0 h0] at e; exact absurd e (by decide)
  by_cases h1 : tS T n q = 1
  · exact h1
  by_cases h2 : tS T n q = 2
  · rcases tS_2 w h2 with ⟨-, k, -⟩ | ⟨-, k, -, -⟩ | ⟨i, hi, -, k, -, -⟩ <;> (rw [k] at e; exact absurd e (by decide))
  · rcases tS_3 hb (show tS T n q = 3 by omega) with ⟨k, -⟩ | ⟨k, -⟩ <;> (rw [k] at e; exact absurd e (by decide))
theorem m_num_ {T : Nat → Int32} {n q m : Nat} {M : Mm} (x : Ms T n q M) (hm : m ≤ 999) : (nmF T n q m = 0 ∧ tN T n q ≤ m ∧ ∃ M', sX12_number (nI m) M = some (1, M') ∧ Fr pMr M M' ∧ M'.1 194 25 = nI (tN T n q) ∧ Ms T n (tE T n q) M') ∨ (nmF T n q m ≠ 0 ∧ ∃ M', sX12_number (nI m) M = some (0, M') ∧ Fr pMr M M' ∧ Mf (nmF T n q m) (tA T n q) M') := by
  obtain ⟨k1, k2⟩ := m_nk x
  unfold nmF sX12_number
  by_cases h : tS T n q = 1
  · obtain ⟨v1, v2⟩ := k2 h
    rw [if_pos h, if_pos (k1.mpr h), v1]
    by_cases c : tN T n q ≤ m
    · rw [if_pos c, if_pos (nI_le c (by omega))]
      have fx := Fr_sI (P := fun id k => id = 194 ∧ k = 25) (v := nI (tN T n q)) (Fr_rf _ M) (show (194 : Nat) = 194 ∧ (25 : Nat) = 25 from ⟨rfl, rfl⟩)
      obtain ⟨M', e, f, g⟩ := m_next (Ms_fr x fx (fun id k q p => by omega))
      refine Or.inl ⟨rfl, c, M', by rw [e, Option.bind_some], Fr_tr (Fr_mo fx (fun id k q => by unfold pMr; omega)) (mt_r f), ?_, g⟩
      rw [(f 194 25 (by unfold pMt; omega)).1, rdS]
    · rw [if_neg c, if_neg (nle_nI (by omega) (by omega))]
      obtain ⟨M', e, f, g⟩ := m_wr (w := 2) x
      have e' : sX12_wrong 2 M = some (0, M') := e
      exact Or.inr ⟨by omega, M', by rw [e', Option.bind_some, ckT i0_], f, g⟩
  · rw [if_neg h, if_neg (fun q => h (k1.mp q))]
    obtain ⟨M', e, f, g⟩ := m_wr (w := 1) x
    have e' : sX12_wrong 1 M = some (0, M') := e
    exact Or.inr ⟨by omega, M', by rw [e', Option.bind_some, ckT i0_], f, g⟩
theorem m_end {T : Nat → Int32} {n q : Nat} {M : Mm} (x : Ms T n q M) : M.1 194 21 = 0 ↔ tS T n q = 0 := by
  have h4 := tS_lt T n q
  obtain ⟨⟨x1, x2, x3, x4, x5, x6⟩, y, z, u, v, w, hb⟩ := x
  rw [x5]
  refine ⟨fun e => ?_, fun e => tS_0 e⟩
  by_cases h0 : tS T n q = 0
  · exact h0
  by_cases h1 : tS T n q = 1
  · rw [(tS_1 w h1).2.1] at e; exact absurd e (by decide)
  by_cases h2 : tS T n q = 2
  · rcases tS_2 w h2 with ⟨-, k, -⟩ | ⟨-, k, -, -⟩ | ⟨i, hi, -, k, -, -⟩ <;> (rw [k] at e; exact absurd e (by decide))
  · rcases tS_3 hb (show tS T n q = 3 by omega) with ⟨k, -⟩ | ⟨k, -⟩ <;> (rw [k] at e; exact absurd e (by decide))
