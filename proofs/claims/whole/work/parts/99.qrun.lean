theorem v145_d {p : Nat} {x3 : Int32} {M : Mm} (hp : p < 24) (h : p ≤ 11 ∨ p = 16) : sX12_valueRead_145 (nI p) x3 M = sX12_valueRead_254 x3 M := by
  unfold sX12_valueRead_145
  rw [if_neg (show ¬ nI p = 17 from ne_nI (b := 17) (by omega) (by omega) (by omega)), if_neg (show ¬ nI p = 18 from ne_nI (b := 18) (by omega) (by omega) (by omega)), if_neg (show ¬ nI p = 19 from ne_nI (b := 19) (by omega) (by omega) (by omega)), if_neg (show ¬ nI p = 20 from ne_nI (b := 20) (by omega) (by omega) (by omega)), if_neg (show ¬ nI p = 21 from ne_nI (b := 21) (by omega) (by omega) (by omega)), if_neg (show ¬ nI p = 22 from ne_nI (b := 22) (by omega) (by omega) (by omega)), if_neg (show ¬ nI p = 12 from ne_nI (b := 12) (by omega) (by omega) (by omega)), if_neg (show ¬ nI p = 23 from ne_nI (b := 23) (by omega) (by omega) (by omega))]
theorem v145_c {p : Nat} {x3 : Int32} {M : Mm} (h : p = 12 ∨ p = 22 ∨ p = 23) : sX12_valueRead_145 (nI p) x3 M = sX12_valueRead_244 x3 M := by
  unfold sX12_valueRead_145
  rcases h with h | h | h <;> subst h
  · rw [if_neg (by decide), if_neg (by decide), if_neg (by decide), if_neg (by decide), if_neg (by decide), if_neg (by decide), if_pos (by decide)]
  · rw [if_neg (by decide), if_neg (by decide), if_neg (by decide), if_neg (by decide), if_neg (by decide), if_pos (by decide)]
  · rw [if_neg (by decide), if_neg (by decide), if_neg (by decide), if_neg (by decide), if_neg (by decide), if_neg (by decide), if_neg (by decide), if_pos (by decide)]
theorem v145_q {p : Nat} {x3 : Int32} {M : Mm} (h : 17 ≤ p ∧ p ≤ 21) : sX12_valueRead_145 (nI p) x3 M = sX12_valueRead_175 (nI p) x3 M := by
  unfold sX12_valueRead_145
  have h' : p = 17 ∨ p = 18 ∨ p = 19 ∨ p = 20 ∨ p = 21 := by omega
  rcases h' with h | h | h | h | h <;> subst h
  · rw [if_pos (by decide)]
  · rw [if_neg (by decide), if_pos (by decide)]
  · rw [if_neg (by decide), if_neg (by decide), if_pos (by decide)]
  · rw [if_neg (by decide), if_neg (by decide), if_neg (by decide), if_pos (by decide)]
  · rw [if_neg (by decide), if_neg (by decide), if_neg (by decide), if_neg (by decide), if_pos (by decide)]
theorem n0_ {a : Nat} (h : a < 2 ^ 31) : (0 : Int32) ≤ nI a := nI_nn h
theorem wd_some {T : Nat → Int32} {n q i f c : Nat} (h : wdx T n q = some i) : wdR T n q f c = (decide (f ≤ i) && decide (i < f + c)) := by
  unfold wdR
  rw [h]
/-- a not -/
theorem y_86n {T : Nat → Int32} {n z q k b : Nat} {l : Bool} {m : Mc} {K : Kr} {M : Mm} (y : Yq T n z q k b l true m M) : YV T n z K M (if k = 96 then some (.inl (2, tA T n q)) else K (tE T n q) (k + 1) b l true ((15, k, (16, 0, 0)) :: m.1, m.2)) (sX12_valueRead_86 (nI 15) M) := by
  unfold sX12_valueRead_86
  have yi := y.2.2.2.2.2.2
  have i3 := yi.2.2.1
  have i6 := yi.2.2.2.2.2.1
  have b8 := yi.2.2.2.2.2.2
  rcases y_g (i := 16) y with ⟨c1, A, B, e1, e2, f2, g⟩ | ⟨c1, A, e1, f1, g1⟩
  · obtain ⟨x, g38, g56, g57, g58, ym, g3, g4, g5⟩ := g
    have e1' : sX12_grown (nI 15) M = some (nI (96 + k), A) := e1
    obtain ⟨C, e3, f3, y3⟩ := y_push (w := 15) (a := k) (c := (16, 0, 0)) (v := nI (96 + k)) (W := m.1) (H := m.2.1) (O := m.2.2) ym (by omega) (by omega) (Or.inr ⟨rfl, g3, g4, g5⟩)
    have e3' : sX12_waitFor 15 (nI (96 + k)) B = some C := e3
    rw [if_neg (by omega), e1', Option.bind_some]
    dsimp only
    rw [if_pos (n0_ (by omega)), e2, Option.bind_some, if_pos (show nI 15 = 15 from rfl), e3', Option.bind_some]
    have r : ∀ j, j = 38 ∨ j = 56 ∨ j = 57 ∨ j = 58 → C.1 194 j = B.1 194 j := fun j p => (f3 _ _ (by omega)).1
    refine Or.inr ⟨_, _, _, _, _, _, C, rfl, rfl, Fr_tr f2 (Fr_mo f3 (fun id j p => by rcases p with p | p; exact Or.inr (Or.inl (by omega)); exact Or.inr (Or.inr (Or.inr (by omega))))), Ms_fr x f3 (fun id j p u => by omega), (r _ (by omega)).trans g38, (r _ (by omega)).trans g56, (r _ (by omega)).trans g57, (r _ (by omega)).trans g58, y3, yi_push yi c1 (by omega) (Nat.le_refl b) b8 (Or.inr (Or.inr (by dsimp only; omega)))⟩
  · have e1' : sX12_grown (nI 15) M = some (-1, A) := e1
    rw [if_pos c1, e1', Option.bind_some]
    dsimp only
    rw [if_neg neg1]
    exact Or.inl ⟨_, _, A, rfl, rfl, f1, g1⟩
/-- what is said of a layer -/
theorem y_86l {T : Nat → Int32} {n z q k b i : Nat} {m : Mc} {K : Kr} {M : Mm} (y : Yq T n z q k b true true m M) (hi : wdx T n q = some i) (h13 : i ≤ 13) : YV T n z K M (oB (rdF T n q k) (fun c => mDn K true c.2 c.1 k b m)) (sX12_valueRead_86 (nI (prm i)) M) := by
  unfold sX12_valueRead_86 rdF
  have yi := y.2.2.2.2.2.2
  have i6 := yi.2.2.2.2.2.1
  have iw : wdn T n q = i := by unfold wdn; rw [hi]; rfl
  have pi : prm i ≤ 12 ∧ prm i = i ∧ i ≤ 12 ∨ prm i = 23 ∧ i = 13 := by unfold prm; split <;> (try split) <;> omega
  rw [if_neg (show ¬ wdR T n q 0 14 = false by rw [wd_some hi, decide_eq_true (Nat.zero_le i), decide_eq_true (show i < 0 + 14 by omega)]; decide)]
  rcases y_g (i := i) y with ⟨c1, A, B, e1, e2, f2, g⟩ | ⟨c1, A, e1, f1, g1⟩
  · rw [if_neg (show ¬ k = 96 by omega), e1, Option.bind_some]
    dsimp only
    rw [if_pos (n0_ (by omega)), e2, Option.bind_some, if_neg (show ¬ nI (prm i) = 15 from ne_nI (b := 15) (by omega) (by omega) (by omega)), if_neg (show ¬ nI (prm i) = 19 from ne_nI (b := 19) (by omega) (by omega) (by omega)), iw]
    by_cases c2 : 12 ≤ i
    · rw [if_pos (show wdR T n q 12 2 = true by rw [wd_some hi, decide_eq_true c2, decide_eq_true (show i < 12 + 2 by omega)]; rfl), v145_c (by omega)]
      have := YV_fr f2 (y_244 (K := K) g yi c1 (Or.inl h13))
      cases hc : rdC T n (tE T n q) with
      | inl f => rw [hc] at this; exact this
      | inr d => rw [hc] at this; exact this
    · rw [if_neg (show ¬ wdR T n q 12 2 = true by rw [wd_some hi, decide_eq_false c2, Bool.false_and]; decide), v145_d (by omega) (by omega)]
      exact YV_fr f2 (y_254 g yi c1 (Or.inl h13))
  · rw [if_pos c1, e1, Option.bind_some]
    dsimp only
    rw [if_neg neg1]
    exact Or.inl ⟨_, _, A, rfl, rfl, f1, g1⟩
/-- what is said of a bore -/
theorem y_86b {T : Nat → Int32} {n z q k b i : Nat} {m : Mc} {K : Kr} {M : Mm} (y : Yq T n z q k b false true m M) (hi : wdx T n q = some i) (h17 : 17 ≤ i) (h23 : i ≤ 23) : YV T n z K M (mBo T n K q k b m) (sX12_valueRead_86 (nI (prm i)) M) := by
  unfold sX12_valueRead_86 mBo
  have yi := y.2.2.2.2.2.2
  have i6 := yi.2.2.2.2.2.1
  have iw : wdn T n q = i := by unfold wdn; rw [hi]; rfl
  have pi : prm i = i - 1 := by unfold prm; rw [if_neg (by omega), if_neg (by omega)]
  rw [if_neg (show ¬ wdR T n q 17 7 = false by rw [wd_some hi, decide_eq_true h17, decide_eq_true (show i < 17 + 7 by omega)]; decide), iw]
  rcases y_g (i := i) y with ⟨c1, A, B, e1, e2, f2, g⟩ | ⟨c1, A, e1, f1, g1⟩
  · rw [if_neg (show ¬ k = 96 by omega), e1, Option.bind_some]
    dsimp only
    rw [if_pos (n0_ (by omega)), e2, Option.bind_some, if_neg (show ¬ nI (prm i) = 15 from ne_nI (b := 15) (by omega) (by omega) (by omega)), pi]
    by_cases d1 : i = 17
    · subst d1
      rw [if_pos rfl, if_neg (show ¬ nI (17 - 1) = 19 by decide), v145_d (by omega) (by omega)]
      exact YV_fr f2 (y_254 g yi c1 (Or.inr (Or.inl rfl)))
    rw [if_neg d1]
    by_cases d2 : i = 23
    · subst d2
      rw [if_pos rfl, if_neg (show ¬ nI (23 - 1) = 19 by decide), v145_c (by omega)]
      exact YV_fr f2 (y_244 g yi c1 (Or.inr (Or.inr rfl)))
    rw [if_neg d2]
    by_cases d3 : i = 20
    · subst d3
      rw [if_pos rfl, if_pos (show nI (20 - 1) = 19 by decide)]
      rcases m_num_ (m := 999) g.1 (by omega) with ⟨c2, l1, C, e3, f3, g3, x3⟩ | ⟨c2, C, e3, f3, g3⟩
      · have e3' : sX12_number 999 B = some (1, C) := e3
        rw [if_neg (fun v => v c2), e3', Option.bind_some]
        dsimp only
        rw [if_neg (show ¬ (1 : Int32) = 0 by decide), ckT (inb_nI (show 96 + k < 192 by omega) (by decide)), nI_clamp (show 96 + k < 2 ^ 31 by omega), g3, v145_q (by omega)]
        obtain ⟨x, g38, g56, g57, g58, ym, g3', g4, g5⟩ := g
        have hz : z ≤ k := by have := yi.2.2.2.2.1; omega
        have r : ∀ a j, ¬ pMr a j → C.1 a j = B.1 a j := fun a j p => (f3 a j p).1
        have fz : Fr (pMx z) B (sI C 215 (96 + k) (nI (tN T n (tE T n q)))) := Fr_sI (mr_mx f3) (Or.inr (Or.inr (Or.inl (by omega))))
        have := y_175 (K := K) (p := 19) (c := (20, 0, tN T n (tE T n q))) (M := sI C 215 (96 + k) (nI (tN T n (tE T n q)))) ⟨Ms_sI x3 (by omega), by rw [rdN (by omega)]; exact (r _ _ (by unfold pMr; omega)).trans g38, by rw [rdN (by omega)]; exact (r _ _ (by unfold pMr; omega)).trans g56, by rw [rdN (by omega)]; exact (r _ _ (by unfold pMr; omega)).trans g57, by rw [rdN (by omega)]; exact (r _ _ (by unfold pMr; omega)).trans g58, Ym_k yi (fun a j p => by rw [rdN (by omega)]; exact r _ _ (by unfold pMr; omega)) ym, by rw [rdN (by omega)]; exact (r _ _ (by unfold pMr; omega)).trans g3', by rw [rdN (by omega)]; exact (r _ _ (by unfold pMr; omega)).trans g4, rdS _ _ _ _⟩ yi c1 (by omega) (by dsimp only; omega)
        exact YV_fr (Fr_tr f2 fz) this
      · have e3' : sX12_number 999 B = some (0, C) := e3
        rw [if_pos c2, e3', Option.bind_some]
        dsimp only
        rw [if_pos rfl]
        exact Or.inl ⟨_, _, C, rfl, rfl, Fr_tr f2 (mr_mx f3), g3⟩
    rw [if_neg d3, if_neg (show ¬ nI (i - 1) = 19 from ne_nI (b := 19) (by omega) (by omega) (by omega)), v145_q (by omega)]
    have := YV_fr f2 (y_175 (K := K) (p := i - 1) g yi c1 (by omega) (by dsimp only; omega))
    by_cases d4 : i = 18 ∨ i = 19
    · rw [if_neg (show ¬ (i - 1 = 20 ∨ i - 1 = 21) by omega)] at this
      rw [if_pos d4]; exact this
    · rw [if_pos (show (i - 1 = 20 ∨ i - 1 = 21) by omega)] at this
      rw [if_neg d4]; exact this
  · rw [if_pos c1, e1, Option.bind_some]
    dsimp only
    rw [if_neg neg1]
    exact Or.inl ⟨_, _, A, rfl, rfl, f1, g1⟩
theorem v53 {p : Nat} {s0 : Int32} {M : Mm} (hp : p < 24) : sX12_valueRead_53 (nI p) s0 M = if p = 13 ∨ p = 14 then sX12_valueRead_80 M else if p = 15 ∨ s0 = M.1 194 57 then sX12_valueRead_86 (nI p) M else sX12_valueRead_80 M := by
  unfold sX12_valueRead_53
  by_cases h1 : p = 13
  · subst h1; rw [if_pos (by decide), if_pos (by omega)]
  by_cases h2 : p = 14
  · subst h2; rw [if_neg (by decide), if_pos (by decide), if_pos (by omega)]
  rw [if_neg (show ¬ nI p = 13 from ne_nI (b := 13) h1 (by omega) (by omega)), if_neg (show ¬ nI p = 14 from ne_nI (b := 14) h2 (by omega) (by omega)), if_neg (show ¬ (p = 13 ∨ p = 14) by omega)]
  by_cases h3 : p = 15
  · subst h3; rw [if_pos (by decide), if_pos (Or.inl rfl)]
  rw [if_neg (show ¬ nI p = 15 from ne_nI (b := 15) h3 (by omega) (by omega))]
  by_cases h4 : s0 = M.1 194 57
  · rw [if_pos h4, if_pos (Or.inr h4)]
  · rw [if_neg h4, if_neg (fun q => q.elim h3 h4)]
theorem y_80 {T : Nat → Int32} {n z q : Nat} {K : Kr} {M : Mm} (x : Ms T n q M) : YV T n z K M (some (.inl (1, tA T n q))) (sX12_valueRead_80 M) := y_wr (w := 1) x
theorem y_va {T : Nat → Int32} {n z q k b : Nat} {l : Bool} {m : Mc} {K : Kr} {M : Mm} (y : Yq T n z q k b l true m M) : YV T n z K M (mVa T n K q k b l m) (sX12_valueRead M) := by
  have x := y.1
  have hq := x.2.2.2.2.2.1
  have hb := x.2.2.2.2.2.2
  have yi := y.2.2.2.2.2.2
  have i3 := yi.2.2.1
  have i6 := yi.2.2.2.2.2.1
  have b8 := yi.2.2.2.2.2.2
  have e40 : sX12_isSign 40 M = some (b2 (sgB T n q 40), M) := m_isSg (c := 40) hq hb x.1 (by omega)
  unfold sX12_valueRead mVa
  rw [e40, Option.bind_some]
  dsimp only
  by_cases hs : sgB T n q 40 = true
  · rw [if_neg (show ¬ b2 (sgB T n q 40) = 0 by rw [hs]; exact b2t0), if_pos hs]
    obtain ⟨_, h38, h56, h57, h58, ym, _⟩ := y
    rcases y_opn (w := 100) (a := 0) (c := (0, 0, 0)) (v := -1) (W := m.1) (H := m.2.1) (O := m.2.2) x h56 b8 ym (by omega) (by omega) (Or.inl rfl) with ⟨c8, A, r1, r2, r3⟩ | ⟨c8, A, r1, r2, r3, r4, r5⟩
    · have r1' : sX12_opens 100 (-1) M = some (0, A) := r1
      rw [if_pos c8, r1', Option.bind_some, ckT i0_]
      exact Or.inl ⟨2, _, A, rfl, rfl, mr_mx r2, r3⟩
    · have r1' : sX12_opens 100 (-1) M = some (1, A) := r1
      rw [if_neg (by omega), r1', Option.bind_some, ckT i1_]
      have r : ∀ j, j = 38 ∨ j = 57 ∨ j = 58 → A.1 194 j = M.1 194 j := fun j p => (r2 _ _ (by unfold pMr; omega)).1
      refine Or.inr ⟨_, _, _, _, _, _, A, rfl, rfl, Fr_mo r2 (fun id j p => ?_), r3, (r _ (by omega)).trans h38, r4, (r _ (by omega)).trans h57, (r _ (by omega)).trans h58, r5, yi_op yi c8⟩
      rcases p with p | p | p
      · exact Or.inl p
      · exact Or.inr (Or.inl (by omega))
      · exact Or.inr (Or.inr (Or.inr (by omega)))
  have hs' := Bool.eq_false_iff.mpr hs
  rw [if_pos (show b2 (sgB T n q 40) = 0 by rw [hs']; rfl), if_neg hs, x.1.2.2.2.2.1]
  cases hi : wdx T n q with
  | none =>
    have nw : ∀ f c, wdR T n q f c = false := fun f c => by unfold wdR; rw [hi]
    rw [if_neg (show ¬ mK T n q = 1 from fun p => by obtain ⟨i, p⟩ := (mK_2 hq hb).mp p; rw [hi] at p; cases p), if_neg (show ¬ wdR T n q 16 1 = true by rw [nw]; decide)]
    have := y_wr (w := 1) (K := K) (z := z) x
    cases l with
    | true =>
      rw [if_pos rfl]
      unfold rdF
      rw [if_pos (nw _ _)]
      exact this
    | false =>
      rw [if_neg (show ¬ false = true by decide)]
      unfold mBo
      rw [if_pos (nw _ _)]
      exact this
  | some i =>
    obtain ⟨i24, i2, i3', i4, i5⟩ := wdx_r hq hi
    have pl := prm_lt i24
    have pm : prm i = i ∧ i ≤ 12 ∨ prm i = 23 ∧ i = 13 ∨ prm i = i - 1 ∧ 14 ≤ i := by unfold prm; split <;> (try split) <;> omega
    have h57 := y.2.2.2.1
    rw [i4, if_pos rfl, x.1.2.2.2.2.2 (by omega), i5]
    have ev : (if nI (prm i) ≤ 12 then sX12_valueRead_48 (nI (prm i)) M else if nI (prm i) = 23 then sX12_valueRead_48 (nI (prm i)) M else sX12_valueRead_53 (nI (prm i)) 0 M) = sX12_valueRead_53 (nI (prm i)) (b2 (decide (i ≤ 13))) M := by
      unfold sX12_valueRead_48
      by_cases c1 : prm i ≤ 12
      · rw [if_pos (show nI (prm i) ≤ 12 from nI_le (b := 12) c1 (by omega)), decide_eq_true (show i ≤ 13 by omega)]; rfl
      rw [if_neg (show ¬ nI (prm i) ≤ 12 from nle_nI (b := 12) (by omega) (by omega))]
      by_cases c2 : prm i = 23
      · rw [if_pos (by rw [c2]; rfl), decide_eq_true (show i ≤ 13 by omega)]; rfl
      · rw [if_neg (show ¬ nI (prm i) = 23 from ne_nI (b := 23) c2 (by omega) (by omega)), decide_eq_false (show ¬ i ≤ 13 by omega)]; rfl
    rw [ev, v53 pl, h57]
    by_cases d16 : i = 16
    · subst d16
      rw [if_pos (show wdR T n q 16 1 = true by rw [wd_some hi]; rfl), if_neg (show ¬ (prm 16 = 13 ∨ prm 16 = 14) by decide), if_pos (Or.inl (show prm 16 = 15 by decide))]
      exact y_86n y
    rw [if_neg (show ¬ wdR T n q 16 1 = true by rw [wd_some hi]; intro p; rw [Bool.and_eq_true, decide_eq_true_eq, decide_eq_true_eq] at p; omega)]
    have p15 : prm i ≠ 15 := fun p => d16 (prm_inj i24 (by omega) p)
    cases l with
    | true =>
      rw [if_pos (show true = true from rfl)]
      by_cases c13 : i ≤ 13
      · rw [if_neg (show ¬ (prm i = 13 ∨ prm i = 14) by omega), decide_eq_true c13, if_pos (Or.inr rfl)]
        exact y_86l y hi c13
      · have e80 : (if prm i = 13 ∨ prm i = 14 then sX12_valueRead_80 M else if prm i = 15 ∨ b2 (decide (i ≤ 13)) = b2 true then sX12_valueRead_86 (nI (prm i)) M else sX12_valueRead_80 M) = sX12_valueRead_80 M := by
          rw [if_neg (show ¬ (prm i = 15 ∨ b2 (decide (i ≤ 13)) = b2 true) by rw [decide_eq_false c13]; exact fun p => p.elim p15 (by decide))]
          split <;> rfl
        rw [e80]
        unfold rdF
        rw [if_pos (show wdR T n q 0 14 = false by rw [wd_some hi, decide_eq_false (show ¬ i < 0 + 14 by omega), Bool.and_false])]
        exact y_80 x
    | false =>
      rw [if_neg (show ¬ false = true by decide)]
      by_cases c17 : 17 ≤ i
      · rw [if_neg (show ¬ (prm i = 13 ∨ prm i = 14) by omega), decide_eq_false (show ¬ i ≤ 13 by omega), if_pos (Or.inr rfl)]
        exact y_86b y hi c17 (by omega)
      · have e80 : (if prm i = 13 ∨ prm i = 14 then sX12_valueRead_80 M else if prm i = 15 ∨ b2 (decide (i ≤ 13)) = b2 false then sX12_valueRead_86 (nI (prm i)) M else sX12_valueRead_80 M) = sX12_valueRead_80 M := by
          by_cases c13 : i ≤ 13
          · rw [if_neg (show ¬ (prm i = 15 ∨ b2 (decide (i ≤ 13)) = b2 false) by rw [decide_eq_true c13]; exact fun p => p.elim p15 (by decide))]
            split <;> rfl
          · rw [if_pos (show prm i = 13 ∨ prm i = 14 by omega)]
        rw [e80]
        unfold mBo
        rw [if_pos (show wdR T n q 17 7 = false by rw [wd_some hi, decide_eq_false c17, Bool.false_and])]
        exact y_80 x
