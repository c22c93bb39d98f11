theorem XR_bd {kq : Nat × Nat} {T : Nat → Int32} {n p b k : Nat} {cs : List Cd} {M : Mm} {R R' : Rs Ex} {res res' : Option (Int32 × Mm)} (h : XR kq.2 T n p cs b M k R res)
    (h0 : ∀ w a, R = .inl (w, a) → R' = .inl (w, a)) (h1 : ∀ M', res = some (0, M') → res' = some (0, M'))
    (h2 : ∀ e M1, R = .inr e → res = some (1, M1) → k < e.2.1 → k + e.2.2.2.2.length ≤ e.2.1 → Fr (pKf kq.2 p) M M1 → Xq kq.2 T n e.1 e.2.1 p (cs ++ e.2.2.2.2) b M1 → XR kq.2 T n p cs b M k R' res') : XR kq.2 T n p cs b M k R' res' := by
  rcases h with ⟨w, a, C, r1, r2, r3, r4⟩ | ⟨e, C, r1, r2, r3, r4, r5, r6⟩
  · exact Or.inl ⟨w, a, C, h0 w a r1, h1 C r2, r3, r4⟩
  · exact h2 e C r1 r2 r3 r4 r5 r6
theorem x_36 {kq : Nat × Nat} {T : Nat → Int32} {n q k p b : Nat} {cs : List Cd} {o : Bool} {x2 : Int32} {rec : Int32 → Mm → Option (Int32 × Mm)} {B : Bool → Nat → Nat → Rs Ex} {M : Mm} (hr : kq.2 = 6 ∨ kq.2 = 14) (x : Xq kq.2 T n q k p cs b M) (hB : ∀ o q k M, Xq kq.2 T n q k p cs b M → XR kq.2 T n p cs b M k (B o q k) (sX5_readBracket rec kq (b2 o) M)) :
    ∃ res, sX5_readMaybeNot_36 rec kq (b2 o) x2 M = res.bind (fun (q : Int32 × Mm) => sX5_readMaybeNot_71 rec kq x2 q.1 q.2) ∧ XR kq.2 T n p cs b M k (dVa T n B o q k) res := by
  have e40 : sX10_isSign 40 M = some (b2 (sgB T n q 40), M) := x_isSg (c := 40) x.1.1
  unfold sX5_readMaybeNot_36 dVa
  rw [e40, Option.bind_some]
  dsimp only
  cases hs : sgB T n q 40 with
  | true =>
    rw [if_neg b2t0, if_pos rfl]
    exact ⟨_, rfl, hB o q k M x⟩
  | false =>
    rw [if_pos b2f, if_neg (show ¬ false = true by decide)]
    cases o with
    | true => rw [if_neg b2t0, if_pos rfl]; exact ⟨_, rfl, x_ly hr x⟩
    | false => rw [if_pos b2f, if_neg (show ¬ false = true by decide)]; exact ⟨_, rfl, x_bor hr x (hB true)⟩
theorem x_nots {kq : Nat × Nat} {T : Nat → Int32} {n p b : Nat} {cs : List Cd} {o : Bool} {rec : Int32 → Mm → Option (Int32 × Mm)} (hr : kq.2 = 6 ∨ kq.2 = 14) : ∀ (g F c q k : Nat) (M : Mm), Xq kq.2 T n q k p cs b M → 96 < k + g → g ≤ F → c ≤ k →
    (∃ w a M', dNo T n g q k = .inl (w, a) ∧ sX5_readMaybeNot_2 rec kq F (b2 o) (nI c) M = some (0, M') ∧ Fr (pKx kq.2) M M' ∧ Xf w a M') ∨
    (∃ q1 k1 M', dNo T n g q k = .inr (q1, k1) ∧ k ≤ k1 ∧ sX5_readMaybeNot_2 rec kq F (b2 o) (nI c) M = sX5_readMaybeNot_36 rec kq (b2 o) (nI (c + (k1 - k))) M' ∧ Fr (pKf kq.2 p) M M' ∧ Xq kq.2 T n q1 k1 p cs b M') := by
  intro g
  induction g with
  | zero => intro F c q k M x h1 _ _; have := x.2.2.2.1; omega
  | succ g ih =>
    intro F c q k M x h1 h2 hc
    obtain ⟨F, rfl⟩ : ∃ F', F = F' + 1 := ⟨F - 1, by omega⟩
    have one : ¬ (1 : Int32) = 0 := by decide
    have h96 := x.2.2.2.1
    have e0 : sX10_isWord 16 1 M = some (b2 (wdR T n q 16 1), M) := x_isW (f := 16) (c := 1) x.1.2.2.2.2.2 x.1.1 (by omega)
    rw [dNo, sX5_readMaybeNot_2, if_neg (show ¬ 96 < nI c from nlt_nI (a := 96) (by omega) (by omega)), e0, Option.bind_some]
    dsimp only
    cases hw : wdR T n q 16 1 with
    | false =>
      rw [if_pos b2f, if_neg (by decide)]
      refine Or.inr ⟨q, k, M, rfl, Nat.le_refl _, ?_, Fr_rf _ _, x⟩
      rw [Nat.sub_self, Nat.add_zero]
    | true =>
      rw [if_neg b2t0, if_pos rfl]
      rcases x_kn hr x with ⟨c1, A, e1, f1, x1⟩ | ⟨c1, A, e1, f1, g1⟩
      · rw [if_neg (by omega), e1, Option.bind_some]
        dsimp only
        rw [if_neg one, nI_1]
        rcases ih F (c + 1) (tE T n q) (k + 1) A x1 (by omega) (by omega) (by omega) with ⟨w, a, C, r1, r2, r3, r4⟩ | ⟨q1, k1, C, r1, r2, r3, r4, r5⟩
        · exact Or.inl ⟨w, a, C, r1, r2, Fr_tr (kf_kx f1) r3, r4⟩
        · refine Or.inr ⟨q1, k1, C, r1, by omega, ?_, Fr_tr f1 r4, r5⟩
          rw [r3, show c + 1 + (k1 - (k + 1)) = c + (k1 - k) by omega]
      · rw [if_pos c1, e1, Option.bind_some]
        dsimp only
        rw [if_pos rfl]
        exact Or.inl ⟨_, _, A, rfl, rfl, f1, g1⟩
theorem x_mn {kq : Nat × Nat} {T : Nat → Int32} {n q k p b : Nat} {cs : List Cd} {o : Bool} {rec : Int32 → Mm → Option (Int32 × Mm)} {B : Bool → Nat → Nat → Rs Ex} {M : Mm} (hr : kq.2 = 6 ∨ kq.2 = 14) (hB : ∀ o q k M, Xq kq.2 T n q k p cs b M → XR kq.2 T n p cs b M k (B o q k) (sX5_readBracket rec kq (b2 o) M)) (x : Xq kq.2 T n q k p cs b M) :
    XR kq.2 T n p cs b M k (dMn T n B o q k) (sX5_readMaybeNot rec kq (b2 o) M) := by
  have h96 := x.2.2.2.1
  have hp := x.2.2.2.2.1
  unfold sX5_readMaybeNot dMn
  rcases x_nots (o := o) (rec := rec) hr 97 4096 0 q k M x (by omega) (by omega) (by omega) with ⟨w, a, C, r1, r2, r3, r4⟩ | ⟨q1, k1, C, r1, r2, r3, r4, r5⟩
  · have r2' : sX5_readMaybeNot_2 rec kq 4096 (b2 o) 0 M = some (0, C) := r2
    rw [r1, r2']
    exact Or.inl ⟨w, a, C, rfl, rfl, r3, r4⟩
  · have r3' : sX5_readMaybeNot_2 rec kq 4096 (b2 o) 0 M = sX5_readMaybeNot_36 rec kq (b2 o) (nI (0 + (k1 - k))) C := r3
    rw [r1, r3', Nat.zero_add]
    dsimp only [rB]
    obtain ⟨res, s1, s2⟩ := x_36 (o := o) (x2 := nI (k1 - k)) hr r5 hB
    have k96 := r5.2.2.2.1
    rw [s1]
    rcases s2 with ⟨w, a, G, z1, z2, z3, z4⟩ | ⟨e, M1, z1, z2, z3, z4, z5, z6⟩
    · rw [z1, z2, Option.bind_some]
      unfold sX5_readMaybeNot_71
      dsimp only
      rw [if_pos rfl, ckT i0_]
      exact Or.inl ⟨w, a, G, rfl, rfl, Fr_tr (kf_kx r4) z3, z4⟩
    · rw [z1, z2, Option.bind_some]
      unfold sX5_readMaybeNot_71
      dsimp only
      rw [if_neg (show ¬ (1 : Int32) = 0 by decide), show (2 : Int32) = nI 2 from rfl, nI_md (by omega) (by omega)]
      have e96 := z6.2.2.2.1
      by_cases c : (k1 - k) % 2 = 1
      · obtain ⟨G, g1, g2, g3⟩ := x_em (c := (16, 0, 0)) hr z6 (by rw [List.length_append]; omega) ⟨show 16 < 24 by omega, Nat.zero_le _, Nat.zero_le _⟩ (fun y => by dsimp only at y; omega)
        have g1' : sX4_emit kq.2 16 0 0 M1 = some G := g1
        rw [c, if_pos (show nI 1 = 1 from rfl), if_pos rfl, g1', Option.bind_some, ckT i1_]
        refine Or.inr ⟨_, G, rfl, rfl, show k < e.2.1 by omega, ?_, Fr_tr r4 (Fr_tr z5 g2), ?_⟩
        · show k + (e.2.2.2.2 ++ [(16, 0, 0)]).length ≤ e.2.1
          rw [List.length_append, List.length_singleton]; omega
        · show Xq kq.2 T n e.1 e.2.1 p (cs ++ (e.2.2.2.2 ++ [(16, 0, 0)])) b G
          rw [← List.append_assoc]; exact g3
      · rw [if_neg (show ¬ nI ((k1 - k) % 2) = 1 from ne_nI (b := 1) c (by omega) (by omega)), if_neg c, ckT i1_]
        refine Or.inr ⟨_, M1, rfl, rfl, show k < e.2.1 by omega, ?_, Fr_tr r4 z5, ?_⟩
        · show k + (e.2.2.2.2 ++ []).length ≤ e.2.1
          rw [List.append_nil]; omega
        · show Xq kq.2 T n e.1 e.2.1 p (cs ++ (e.2.2.2.2 ++ [])) b M1
          rw [List.append_nil]; exact z6
theorem x_lp {kq : Nat × Nat} {T : Nat → Int32} {n p b w : Nat} {P : Nat → Nat → Rs Ex} {S : Mm → Option (Int32 × Mm)} {L : Nat → Int32 → Mm → Option (Int32 × Mm)} (hr : kq.2 = 6 ∨ kq.2 = 14) (hw : w < 16)
    (hw2 : 14 ≤ w) (hL : ∀ F x2 M, L (F + 1) x2 M = if 96 ≤ x2 then some (1, M) else ((sX10_isWord (nI w) 1 M).bind fun (q25 : Int32 × Mm) => if q25.1 = 0 then some (1, q25.2) else ((sX5_takeKnot kq q25.2).bind fun (q32 : Int32 × Mm) => if q32.1 = 0 then some (0, q32.2) else ((S q32.2).bind fun (q40 : Int32 × Mm) => if q40.1 = 0 then some (0, q40.2) else ((sX4_emit kq.2 (nI w) 0 0 q40.2).bind fun (M56 : Mm) => L F (x2 + 1) M56)))))
    (hS : ∀ cs q k M, Xq kq.2 T n q k p cs b M → XR kq.2 T n p cs b M k (P q k) (S M)) (cs : List Cd) (k : Nat) (hp : p + cs.length ≤ k) : ∀ (g F i : Nat) (e : Ex) (M : Mm), 96 < e.2.1 + g → g ≤ F → i < e.2.1 → k < e.2.1 → k + e.2.2.2.2.length ≤ e.2.1 → Xq kq.2 T n e.1 e.2.1 p (cs ++ e.2.2.2.2) b M → XR kq.2 T n p cs b M k (dLp T n P w g e) (L F (nI i) M) := by
  intro g
  induction g with
  | zero => intro F i e M h1 _ _ _ _ x; have := x.2.2.2.1; omega
  | succ g ih =>
    intro F i e M h1 h2 hi h3 h4 x
    obtain ⟨F, rfl⟩ : ∃ F', F = F' + 1 := ⟨F - 1, by omega⟩
    have one : ¬ (1 : Int32) = 0 := by decide
    have h96 := x.2.2.2.1
    have e0 : sX10_isWord (nI w) 1 M = some (b2 (wdR T n e.1 w 1), M) := x_isW (f := w) (c := 1) x.1.2.2.2.2.2 x.1.1 (by omega)
    rw [dLp, hL, if_neg (show ¬ 96 ≤ nI i from nle_nI (a := 96) (by omega) (by omega)), e0, Option.bind_some]
    dsimp only
    cases hw : wdR T n e.1 w 1 with
    | false =>
      rw [if_pos b2f, if_neg (by decide)]
      exact Or.inr ⟨e, M, rfl, rfl, h3, h4, Fr_rf _ _, x⟩
    | true =>
      rw [if_neg b2t0, if_pos rfl]
      rcases x_kn hr x with ⟨c1, A, e1, f1, x1⟩ | ⟨c1, A, e1, f1, g1⟩
      · rw [if_neg (by omega), e1, Option.bind_some]
        dsimp only
        rw [if_neg one]
        rcases hS _ _ _ _ x1 with ⟨w', a, C, r1, r2, r3, r4⟩ | ⟨e', C, r1, r2, r3, r4, r5, r6⟩
        · rw [r1, r2, Option.bind_some]
          dsimp only
          rw [if_pos rfl]
          exact Or.inl ⟨w', a, C, rfl, rfl, Fr_tr (kf_kx f1) r3, r4⟩
        · rw [r1, r2, Option.bind_some]
          dsimp only [rB]
          have hl := List.length_append (as := cs ++ e.2.2.2.2) (bs := e'.2.2.2.2)
          have hl2 := List.length_append (as := cs) (bs := e.2.2.2.2)
          obtain ⟨G, g1, g2, g3⟩ := x_em (c := (w, 0, 0)) hr r6 (by omega) ⟨show w < 24 by omega, Nat.zero_le _, Nat.zero_le _⟩ (fun y => by dsimp only at y; omega)
          have g1' : sX4_emit kq.2 (nI w) 0 0 C = some G := g1
          rw [if_neg one, g1', Option.bind_some, nI_1]
          have hl3 : (dJn w e e').2.2.2.2.length = e.2.2.2.2.length + e'.2.2.2.2.length + 1 := by
            show (e.2.2.2.2 ++ e'.2.2.2.2 ++ [(w, 0, 0)]).length = _
            rw [List.length_append, List.length_append, List.length_singleton]
          refine XR_fr (Fr_tr f1 (Fr_tr r5 g2)) (Nat.le_refl _) (ih F (i + 1) (dJn w e e') G (show 96 < e'.2.1 + g by omega) (by omega) (show i + 1 < e'.2.1 by omega) (show k < e'.2.1 by omega) ?_ ?_)
          · rw [hl3]; show _ ≤ e'.2.1; omega
          · show Xq kq.2 T n e'.1 e'.2.1 p (cs ++ (e.2.2.2.2 ++ e'.2.2.2.2 ++ [(w, 0, 0)])) b G
            rw [← List.append_assoc, ← List.append_assoc]; exact g3
      · rw [if_pos c1, e1, Option.bind_some]
        dsimp only
        rw [if_pos rfl]
        exact Or.inl ⟨_, _, A, rfl, rfl, f1, g1⟩
theorem x_bt {kq : Nat × Nat} {T : Nat → Int32} {n p b : Nat} {o : Bool} {rec : Int32 → Mm → Option (Int32 × Mm)} {B : Bool → Nat → Nat → Rs Ex} (hr : kq.2 = 6 ∨ kq.2 = 14) (hB : ∀ cs o q k M, Xq kq.2 T n q k p cs b M → XR kq.2 T n p cs b M k (B o q k) (sX5_readBracket rec kq (b2 o) M)) (cs : List Cd) (q k : Nat) (M : Mm) (x : Xq kq.2 T n q k p cs b M) :
    XR kq.2 T n p cs b M k (dBt T n B o q k) (sX5_readBoth rec kq (b2 o) M) := by
  unfold sX5_readBoth dBt
  rcases x_mn (o := o) hr (hB cs) x with ⟨w', a, C, r1, r2, r3, r4⟩ | ⟨e, C, r1, r2, r3, r4, r5, r6⟩
  · rw [r1, r2, Option.bind_some]
    dsimp only
    rw [if_pos rfl]
    exact Or.inl ⟨w', a, C, rfl, rfl, r3, r4⟩
  · rw [r1, r2, Option.bind_some]
    dsimp only [rB]
    rw [if_neg (show ¬ (1 : Int32) = 0 by decide)]
    exact XR_fr r5 (Nat.le_refl _) (x_lp (L := fun F x2 M => sX5_readBoth_12 rec kq F (b2 o) x2 M) (S := fun M => sX5_readMaybeNot rec kq (b2 o) M) hr (show 15 < 16 by omega) (by omega) (fun F x2 M => rfl) (fun cs q k M x => x_mn hr (hB cs) x) cs k x.2.2.2.2.1 97 4096 0 e C (by omega) (by omega) (by omega) r3 r4 r6)
theorem x_ei {kq : Nat × Nat} {T : Nat → Int32} {n p b : Nat} {o : Bool} {rec : Int32 → Mm → Option (Int32 × Mm)} {B : Bool → Nat → Nat → Rs Ex} (hr : kq.2 = 6 ∨ kq.2 = 14) (hB : ∀ cs o q k M, Xq kq.2 T n q k p cs b M → XR kq.2 T n p cs b M k (B o q k) (sX5_readBracket rec kq (b2 o) M)) (cs : List Cd) (q k : Nat) (M : Mm) (x : Xq kq.2 T n q k p cs b M) :
    XR kq.2 T n p cs b M k (dEi T n B o q k) (sX5_readEither_o rec kq (b2 o) M) := by
  unfold sX5_readEither_o dEi
  rcases x_bt (o := o) hr hB cs q k M x with ⟨w', a, C, r1, r2, r3, r4⟩ | ⟨e, C, r1, r2, r3, r4, r5, r6⟩
  · rw [r1, r2, Option.bind_some]
    dsimp only
    rw [if_pos rfl]
    exact Or.inl ⟨w', a, C, rfl, rfl, r3, r4⟩
  · rw [r1, r2, Option.bind_some]
    dsimp only [rB]
    rw [if_neg (show ¬ (1 : Int32) = 0 by decide)]
    exact XR_fr r5 (Nat.le_refl _) (x_lp (L := fun F x2 M => sX5_readEither_o_12 rec kq F (b2 o) x2 M) (S := fun M => sX5_readBoth rec kq (b2 o) M) hr (show 14 < 16 by omega) (by omega) (fun F x2 M => rfl) (fun cs q k M x => x_bt hr hB cs q k M x) cs k x.2.2.2.2.1 97 4096 0 e C (by omega) (by omega) (by omega) r3 r4 r6)
/-- the class reads an expression -/
theorem x_xp {kq : Nat × Nat} {T : Nat → Int32} {n p : Nat} (hr : kq.2 = 6 ∨ kq.2 = 14) : ∀ (f b F : Nat), b + f = 8 → f < F → ∀ (o : Bool) (cs : List Cd) (q k : Nat) (M : Mm), Xq kq.2 T n q k p cs b M → XR kq.2 T n p cs b M k (dEi T n (dBr T n f) o q k) (sX5_readEither kq F (b2 o) M) := by
  intro f
  induction f with
  | zero =>
    intro b F hb hF o cs q k M x
    obtain ⟨F, rfl⟩ : ∃ F', F = F' + 1 := ⟨F - 1, by omega⟩
    exact x_ei hr (fun cs o q k M x => x_bra hr x hb (fun g z => by omega)) cs q k M x
  | succ f ih =>
    intro b F hb hF o cs q k M x
    obtain ⟨F, rfl⟩ : ∃ F', F = F' + 1 := ⟨F - 1, by omega⟩
    exact x_ei hr (fun cs o q k M x => x_bra hr x hb (fun g z q k M x => by
      have : g = f := by omega
      subst this
      exact ih (b + 1) F (by omega) (by omega) o cs q k M x)) cs q k M x
