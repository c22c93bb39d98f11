/-- what is said of a layer: where it goes on, and the knot -/
def rdF (T : Nat → Int32) (n q k : Nat) : Rs (Nat × Cd) :=
  if wdR T n q 0 14 = false then .inl (1, tA T n q) else if k = 96 then .inl (2, tA T n q) else
  if wdR T n q 12 2 = true then (match rdC T n (tE T n q) with
    | .inl f => .inl f
    | .inr (q', s, a) => .inr (q', (wdn T n q, s, a))) else .inr (tE T n q, (wdn T n q, 0, 0))
theorem wdR_i {T : Nat → Int32} {n q f c : Nat} : wdR T n q f c = true ↔ ∃ i, wdx T n q = some i ∧ f ≤ i ∧ i < f + c := by
  unfold wdR
  cases wdx T n q with
  | none => exact ⟨(fun h => by cases h), (fun ⟨i, h, _⟩ => by cases h)⟩
  | some i =>
    dsimp only
    rw [Bool.and_eq_true, decide_eq_true_eq, decide_eq_true_eq]
    exact ⟨(fun h => ⟨i, rfl, h⟩), (fun ⟨j, h1, h2⟩ => by cases h1; exact h2)⟩
def pKe (r z id k : Nat) : Prop := pXr id k ∨ r + 1 ≤ id ∧ id ≤ r + 3 ∧ z ≤ k ∨ id = r ∧ (k = 3 ∨ k = 10)
theorem x_lay {kq : Nat × Nat} {T : Nat → Int32} {n q p k : Nat} {cs : List Cd} {M : Mm} (hr : kq.2 = 6 ∨ kq.2 = 14) (x : Xs T n q M) (h3 : M.1 kq.2 3 = nI (p + cs.length)) (hk : M.1 kq.2 10 = nI k) (hk96 : k ≤ 96) (hz : p + cs.length ≤ k) (h : xCs kq.2 M p cs) :
    (∃ w a M', rdF T n q k = .inl (w, a) ∧ sX5_readOfLayer kq M = some (0, M') ∧ Fr (pKx kq.2) M M' ∧ Xf w a M') ∨
    (∃ q' c M', rdF T n q k = .inr (q', c) ∧ sX5_readOfLayer kq M = some (1, M') ∧ Fr (pKe kq.2 (p + cs.length)) M M' ∧ Xs T n q' M' ∧ M'.1 kq.2 3 = nI (p + (cs ++ [c]).length) ∧ M'.1 kq.2 10 = nI (k + 1) ∧ xCs kq.2 M' p (cs ++ [c])) := by
  have one : ¬ (1 : Int32) = 0 := by decide
  have hq := x.2.2.2.2.2
  have e12 : sX10_isWord 12 1 M = some (b2 (wdR T n q 12 1), M) := x_isW (f := 12) (c := 1) hq x.1 (by omega)
  have e13 : sX10_isWord 13 1 M = some (b2 (wdR T n q 13 1), M) := x_isW (f := 13) (c := 1) hq x.1 (by omega)
  have e0 : sX10_isWord 0 12 M = some (b2 (wdR T n q 0 12), M) := x_isW (f := 0) (c := 12) hq x.1 (by omega)
  have fx : ∀ {X Y : Mm}, Fr pXr X Y → Fr (pKx kq.2) X Y := fun {X Y} f => Fr_mo f (fun _ _ q => Or.inl q)
  have big : wdR T n q 0 14 = true → ∀ s0 : Int32, (s0 = 0 ↔ wdR T n q 12 2 = false) → sX5_readOfLayer kq M = sX5_readOfLayer_58 kq s0 M → (∃ w a M', rdF T n q k = .inl (w, a) ∧ sX5_readOfLayer kq M = some (0, M') ∧ Fr (pKx kq.2) M M' ∧ Xf w a M') ∨
    (∃ q' c M', rdF T n q k = .inr (q', c) ∧ sX5_readOfLayer kq M = some (1, M') ∧ Fr (pKe kq.2 (p + cs.length)) M M' ∧ Xs T n q' M' ∧ M'.1 kq.2 3 = nI (p + (cs ++ [c]).length) ∧ M'.1 kq.2 10 = nI (k + 1) ∧ xCs kq.2 M' p (cs ++ [c])) := fun hw s0 hs0 he => by
    obtain ⟨i, i1, i2, i3, i4, i5, i6, i7⟩ := wdR_n hq hw
    have v6 : M.1 3 6 = nI (wdn T n q) := by rw [i2]; exact (x.1.2.2.2.2.1 (by omega)).trans i7
    have hwd : wdn T n q < 14 := by omega
    rw [he]
    unfold rdF sX5_readOfLayer_58
    rw [if_neg (by rw [hw]; decide)]
    rcases x_knot hr x hk hk96 with ⟨c1, B, e1, f1, x1, g1⟩ | ⟨c1, B, e1, f1, g1⟩
    · have b3 : B.1 kq.2 3 = nI (p + cs.length) := (f1 _ _ (by unfold pXr; omega)).1.trans h3
      have bc : xCs kq.2 B p cs := xCs_sm (fun a k z => (f1 a k (by unfold pXr; omega)).1) _ _ h
      have f1e : Fr (pKe kq.2 (p + cs.length)) M B := Fr_mo f1 (fun id z q => by rcases q with q | q; exact Or.inl q; exact Or.inr (Or.inr (by omega)))
      rw [if_neg (by omega), e1, Option.bind_some]
      dsimp only
      rw [if_neg one, v6]
      by_cases z : wdR T n q 12 2 = true
      · rw [if_neg (show ¬ s0 = 0 from fun y => by have := hs0.mp y; rw [z] at this; cases this), if_pos z]
        rcases x_cmpR hr x1 b3 (by omega) bc (show wdn T n q < 24 by omega) with ⟨w, a, C, r1, r2, r3, r4⟩ | ⟨q', s, a, C, r1, r2, r3, r4, r5, r6⟩
        · rw [r1, r2, Option.bind_some]
          exact Or.inl ⟨w, a, C, rfl, rfl, Fr_tr (Fr_mo f1 (fun id z q => by rcases q with q | q; exact Or.inl q; exact Or.inr (Or.inr (Or.inl (by omega))))) r3, r4⟩
        · rw [r1, r2, Option.bind_some]
          exact Or.inr ⟨q', _, C, rfl, rfl, Fr_tr f1e (Fr_mo r3 (fun id z q => by rcases q with q | q | q; exact Or.inl q; exact Or.inr (Or.inl q); exact Or.inr (Or.inr (by omega)))), r4, r5, (r3 _ _ (by unfold pXr; omega)).1.trans g1, r6⟩
      · have z' := Bool.eq_false_iff.mpr z
        rw [if_pos (hs0.mpr z'), if_neg z]
        have hn12 : wdn T n q < 12 := by
          have : ¬ (12 ≤ i ∧ i < 12 + 2) := fun y => z (wdR_i.mpr ⟨i, i1, y⟩)
          omega
        obtain ⟨C, e3, f3, g3, k3⟩ := x_emit (c := (wdn T n q, 0, 0)) b3 (by omega) bc ⟨show wdn T n q < 24 by omega, Nat.zero_le _, Nat.zero_le _⟩ (fun y => by dsimp only at y; omega)
        have e3' : sX4_emit kq.2 (nI (wdn T n q)) 0 0 B = some C := e3
        rw [e3', Option.bind_some]
        exact Or.inr ⟨_, _, C, rfl, rfl, Fr_tr f1e (Fr_mo f3 (fun id z q => by rcases q with q | q; exact Or.inr (Or.inl q); exact Or.inr (Or.inr (by omega)))), Xs_fr x1 f3 (fun id k z w => by omega), g3, (f3 _ _ (by omega)).1.trans g1, k3⟩
    · rw [if_pos c1, e1, Option.bind_some]
      exact Or.inl ⟨_, _, B, rfl, by rw [if_pos rfl], fx f1, g1⟩
  by_cases d1 : wdR T n q 12 1 = true
  · obtain ⟨i, i1, i2⟩ := wdR_i.mp d1
    exact big (wdR_i.mpr ⟨i, i1, by omega⟩) 1 ⟨fun y => absurd y one, fun y => by rw [wdR_i.mpr ⟨i, i1, by omega⟩] at y; cases y⟩ (by unfold sX5_readOfLayer sX5_readOfLayer_26 sX5_readOfLayer_31; rw [e12, d1, Option.bind_some]; dsimp only; rw [if_neg b2t0, if_neg one])
  have d1' := Bool.eq_false_iff.mpr d1
  by_cases d2 : wdR T n q 13 1 = true
  · obtain ⟨i, i1, i2⟩ := wdR_i.mp d2
    exact big (wdR_i.mpr ⟨i, i1, by omega⟩) 1 ⟨fun y => absurd y one, fun y => by rw [wdR_i.mpr ⟨i, i1, by omega⟩] at y; cases y⟩ (by unfold sX5_readOfLayer sX5_readOfLayer_26 sX5_readOfLayer_31; rw [e12, d1', Option.bind_some]; dsimp only; rw [if_pos b2f, e13, d2, Option.bind_some]; dsimp only; rw [if_neg b2t0, if_neg one])
  have d2' := Bool.eq_false_iff.mpr d2
  have u : sX5_readOfLayer kq M = sX5_readOfLayer_31 kq 0 M := by
    unfold sX5_readOfLayer
    rw [e12, d1', Option.bind_some]; dsimp only; rw [if_pos b2f, e13, d2', Option.bind_some]; dsimp only; rw [if_pos b2f]
  have no2 : ∀ i, wdx T n q = some i → i ≠ 12 ∧ i ≠ 13 := fun i hi => ⟨fun y => d1 (wdR_i.mpr ⟨i, hi, by omega⟩), fun y => d2 (wdR_i.mpr ⟨i, hi, by omega⟩)⟩
  by_cases d3 : wdR T n q 0 12 = true
  · obtain ⟨i, i1, i2⟩ := wdR_i.mp d3
    refine big (wdR_i.mpr ⟨i, i1, by omega⟩) 0 ⟨fun _ => Bool.eq_false_iff.mpr (fun y => ?_), fun _ => rfl⟩ (by rw [u]; unfold sX5_readOfLayer_31; rw [if_pos rfl, e0, d3, Option.bind_some]; dsimp only; rw [if_neg b2t0])
    obtain ⟨j, j1, j2⟩ := wdR_i.mp y
    have := no2 j j1
    omega
  have d3' := Bool.eq_false_iff.mpr d3
  obtain ⟨B, e, f, y⟩ := x_ref (w := 1) x
  have e' : sX10_refuse 1 M = some (0, B) := e
  refine Or.inl ⟨1, tA T n q, B, ?_, ?_, fx f, y⟩
  · unfold rdF
    rw [if_pos (Bool.eq_false_iff.mpr (fun y => by
      obtain ⟨j, j1, j2⟩ := wdR_i.mp y
      have := no2 j j1
      exact d3 (wdR_i.mpr ⟨j, j1, by omega⟩)))]
  · rw [u]
    unfold sX5_readOfLayer_31
    rw [if_pos rfl, e0, d3', Option.bind_some]; dsimp only; rw [if_pos b2f, e', Option.bind_some]
    rfl
