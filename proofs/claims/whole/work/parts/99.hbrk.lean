theorem x_bra {kq : Nat × Nat} {T : Nat → Int32} {n q k p b f : Nat} {cs : List Cd} {o : Bool} {rec : Int32 → Mm → Option (Int32 × Mm)} {M : Mm} (hr : kq.2 = 6 ∨ kq.2 = 14) (x : Xq kq.2 T n q k p cs b M) (hf : b + f = 8) (hR : ∀ g, f = g + 1 → ∀ q k M, Xq kq.2 T n q k p cs (b + 1) M → XR kq.2 T n p cs (b + 1) M k (dEi T n (dBr T n g) o q k) (rec (b2 o) M)) : XR kq.2 T n p cs b M k (dBr T n f o q k) (sX5_readBracket rec kq (b2 o) M) := by
  have one : ¬ (1 : Int32) = 0 := by decide
  have e40 : sX10_isSign 40 M = some (b2 (sgB T n q 40), M) := x_isSg (c := 40) x.1.1
  have x5 := x.2.2.2.2.2.2.1
  unfold sX5_readBracket
  rw [e40, Option.bind_some]
  dsimp only
  cases hs : sgB T n q 40 with
  | false =>
    rw [if_pos b2f]
    unfold sX5_readBracket_30
    rcases x_tsg (c := 40) x.1 with ⟨c1, -⟩ | ⟨-, A, e1, f1, g1⟩
    · rw [hs] at c1; cases c1
    · have e1' : sX10_takeSign 40 M = some (0, A) := e1
      rw [e1', Option.bind_some]
      refine Or.inl ⟨1, tA T n q, A, ?_, by rw [if_pos rfl], xr_kx f1, g1⟩
      cases f with
      | zero => rw [dBr, if_pos hs]
      | succ g => rw [dBr, if_pos hs]
  | true =>
    rw [if_neg b2t0, x5]
    cases f with
    | zero =>
      obtain ⟨A, e1, f1, g1⟩ := x_ref (w := 2) x.1
      have e1' : sX10_refuse 2 M = some (0, A) := e1
      rw [if_neg (show ¬ nI b < 8 from nlt_nI (b := 8) (by omega) (by omega)), e1', Option.bind_some]
      refine Or.inl ⟨2, tA T n q, A, ?_, by rw [ckT i0_], xr_kx f1, g1⟩
      rw [dBr, if_neg (by rw [hs]; decide)]
    | succ g =>
      rw [if_pos (show nI b < 8 from nI_lt (b := 8) (by omega) (by omega)), dBr, if_neg (by rw [hs]; decide)]
      unfold sX5_readBracket_30
      rcases x_tsg (c := 40) x.1 with ⟨-, A, e1, f1, xA⟩ | ⟨c1, -⟩
      · have e1' : sX10_takeSign 40 M = some (1, A) := e1
        have a5 : A.1 5 2 = nI b := (f1 _ _ (by unfold pXs; omega)).1.trans x5
        rw [e1', Option.bind_some]
        dsimp only
        rw [if_neg one, a5, nI_1]
        have fA : Fr (pKf kq.2 p) M (sI A 5 2 (nI (b + 1))) := Fr_sI (xr_kf (xs_r f1)) (Or.inr (Or.inr (Or.inr ⟨rfl, rfl⟩)))
        have q1 : Xq kq.2 T n (tE T n q) k p cs (b + 1) (sI A 5 2 (nI (b + 1))) := Xq_mk x (Xs_sI xA (by omega)) (fun a j z => by rw [rdN (by omega)]; exact (f1 a j (by unfold pXs; omega)).1) (rdS _ _ _ _) (by omega)
        rcases hR g rfl _ _ _ q1 with ⟨w, a, B, r1, r2, r3, r4⟩ | ⟨e, B, r1, r2, r3, r4, r5, r6⟩
        · rw [r1, r2, Option.bind_some]
          dsimp only
          rw [if_pos rfl]
          unfold sX5_readBracket_78 sX5_readBracket_79
          refine Or.inl ⟨w, a, _, rfl, by rw [ckT i0_], Fr_sI (Fr_tr (kf_kx fA) r3) (Or.inr (Or.inr (Or.inr ⟨rfl, rfl⟩))), ?_, ?_⟩
          · rw [rdN (by omega)]; exact r4.1
          · rw [rdN (by omega)]; exact r4.2
        · rw [r1, r2, Option.bind_some]
          dsimp only [rB]
          rw [if_neg one]
          have b5 := r6.2.2.2.2.2.2.1
          rcases x_tsg (c := 41) r6.1 with ⟨c2, C, e2, f2, xC⟩ | ⟨c2, C, e2, f2, g2⟩
          · have e2' : sX10_takeSign 41 B = some (1, C) := e2
            have c5 : C.1 5 2 = nI (b + 1) := (f2 _ _ (by unfold pXs; omega)).1.trans b5
            rw [e2', Option.bind_some, if_pos c2]
            dsimp only
            rw [if_neg one]
            unfold sX5_readBracket_79
            rw [ckT i1_, c5, nI_dn]
            refine Or.inr ⟨_, _, rfl, rfl, r3, r4, Fr_sI (Fr_tr fA (Fr_tr r5 (xr_kf (xs_r f2)))) (Or.inr (Or.inr (Or.inr ⟨rfl, rfl⟩))), ?_⟩
            exact Xq_mk r6 (Xs_sI xC (by omega)) (fun a j z => by rw [rdN (by omega)]; exact (f2 a j (by unfold pXs; omega)).1) (rdS _ _ _ _) (by omega)
          · have e2' : sX10_takeSign 41 B = some (0, C) := e2
            rw [e2', Option.bind_some, if_neg (by rw [c2]; decide)]
            dsimp only
            rw [if_pos rfl]
            unfold sX5_readBracket_78 sX5_readBracket_79
            refine Or.inl ⟨1, _, _, rfl, by rw [ckT i0_], Fr_sI (Fr_tr (kf_kx (Fr_tr fA r5)) (xr_kx f2)) (Or.inr (Or.inr (Or.inr ⟨rfl, rfl⟩))), ?_, ?_⟩
            · rw [rdN (by omega)]; exact g2.1
            · rw [rdN (by omega)]; exact g2.2
      · rw [hs] at c1; cases c1
theorem XR_fr {kq : Nat × Nat} {T : Nat → Int32} {n p b k k' : Nat} {cs : List Cd} {M M1 : Mm} {R : Rs Ex} {res : Option (Int32 × Mm)} (f : Fr (pKf kq.2 p) M M1) (hk : k ≤ k') (h : XR kq.2 T n p cs b M1 k' R res) : XR kq.2 T n p cs b M k R res := by
  rcases h with ⟨w, a, B, r1, r2, r3, r4⟩ | ⟨e, B, r1, r2, r3, r4, r5, r6⟩
  · exact Or.inl ⟨w, a, B, r1, r2, Fr_tr (kf_kx f) r3, r4⟩
  · exact Or.inr ⟨e, B, r1, r2, by omega, by omega, Fr_tr f r5, r6⟩
/-- the last knot of what is said of a bore -/
theorem x_b100 {kq : Nat × Nat} {T : Nat → Int32} {n q k k0 p b w d : Nat} {cs c0 : List Cd} {rec : Int32 → Mm → Option (Int32 × Mm)} {M : Mm} (hr : kq.2 = 6 ∨ kq.2 = 14) (x : Xq kq.2 T n q k p (cs ++ c0) b M) (hz : k0 + 1 + c0.length ≤ k) (hp : p + cs.length ≤ k0) (hw : 17 ≤ w ∧ w ≤ 23) (hd : d ≤ 999) (F : Nat × Nat × Nat → Ex) (hF : ∀ c, (F c).1 = c.1 ∧ (F c).2.1 = k ∧ (F c).2.2.2.2 = c0 ++ [(w, c.2)]) :
    XR kq.2 T n p cs b M k0 (if w = 21 ∨ w = 22 ∨ w = 23 then rB (rdC T n q) (fun c => .inr (F c)) else .inr (F (q, 0, d))) (sX5_readOfBore_100 rec kq (nI w) (nI d) M) := by
  have hl : p + (cs ++ c0).length < k := by rw [List.length_append]; omega
  have go : w = 21 ∨ w = 22 ∨ w = 23 → sX5_readOfBore_100 rec kq (nI w) (nI d) M = (sX5_readCompare kq (nI w) M).bind fun (q120 : Int32 × Mm) => ck (isb q120.1) (some (q120.1, q120.2)) := fun h => by
    unfold sX5_readOfBore_100 sX5_readOfBore_118
    rcases h with h | h | h <;> subst h
    · rw [if_pos (show nI 21 = 21 from rfl)]
    · rw [if_neg (show ¬ nI 22 = 21 by decide), if_pos (show nI 22 = 22 from rfl)]
    · rw [if_neg (show ¬ nI 23 = 21 by decide), if_neg (show ¬ nI 23 = 22 by decide), if_pos (show nI 23 = 23 from rfl)]
  by_cases h : w = 21 ∨ w = 22 ∨ w = 23
  · rw [if_pos h, go h]
    rcases x_cq hr x hl (show w < 24 by omega) with ⟨w', a, C, r1, r2, r3, r4⟩ | ⟨c, C, r1, r2, r3, r4⟩
    · rw [r1, r2, Option.bind_some, ckT i0_]
      exact Or.inl ⟨w', a, C, rfl, rfl, r3, r4⟩
    · rw [r1, r2, Option.bind_some, ckT i1_]
      refine Or.inr ⟨F c, C, rfl, rfl, ?_, ?_, r3, ?_⟩
      · rw [(hF c).2.1]; omega
      · rw [(hF c).2.1, (hF c).2.2, List.length_append, List.length_singleton]; omega
      · rw [(hF c).1, (hF c).2.1, (hF c).2.2, ← List.append_assoc]; exact r4
  · rw [if_neg h]
    obtain ⟨C, r2, r3, r4⟩ := x_em (c := (w, 0, d)) hr x hl ⟨show w < 24 by omega, Nat.zero_le _, hd⟩ (fun y => by dsimp only at y; omega)
    have r2' : sX4_emit kq.2 (nI w) 0 (nI d) M = some C := r2
    unfold sX5_readOfBore_100
    rw [if_neg (show ¬ nI w = 21 from ne_nI (b := 21) (by omega) (by omega) (by omega)), if_neg (show ¬ nI w = 22 from ne_nI (b := 22) (by omega) (by omega) (by omega)), if_neg (show ¬ nI w = 23 from ne_nI (b := 23) (by omega) (by omega) (by omega)), r2', Option.bind_some]
    refine Or.inr ⟨_, C, rfl, rfl, ?_, ?_, r3, ?_⟩
    · rw [(hF _).2.1]; omega
    · rw [(hF _).2.1, (hF _).2.2, List.length_append, List.length_singleton]; omega
    · rw [(hF _).1, (hF _).2.1, (hF _).2.2, ← List.append_assoc]; exact r4
theorem x_b78 {kq : Nat × Nat} {T : Nat → Int32} {n q k p b w d : Nat} {cs : List Cd} {rec : Int32 → Mm → Option (Int32 × Mm)} {B : Nat → Nat → Rs Ex} {M : Mm} (hr : kq.2 = 6 ∨ kq.2 = 14) (x : Xq kq.2 T n q (k + 1) p cs b M) (hp : p + cs.length ≤ k) (hw : 18 ≤ w ∧ w ≤ 22) (hd : d ≤ 999) (hB : ∀ q k M, Xq kq.2 T n q k p cs b M → XR kq.2 T n p cs b M k (B q k) (sX5_readBracket rec kq 1 M)) :
    XR kq.2 T n p cs b M k (rB (B q (k + 1)) (fun e => if w = 21 ∨ w = 22 ∨ w = 23 then rB (rdC T n e.1) (fun c => .inr (dQn (w, c.2.1, c.2.2) c.1 k e)) else .inr (dQn (w, 0, d) e.1 k e))) (sX5_readOfBore_78 rec kq (nI w) (nI d) M) := by
  have one : ¬ (1 : Int32) = 0 := by decide
  unfold sX5_readOfBore_78
  rw [if_neg (show ¬ nI w = 17 from ne_nI (b := 17) (by omega) (by omega) (by omega)), if_neg (show ¬ nI w = 23 from ne_nI (b := 23) (by omega) (by omega) (by omega))]
  rcases hB q (k + 1) M x with ⟨w', a, C, r1, r2, r3, r4⟩ | ⟨e, C, r1, r2, r3, r4, r5, r6⟩
  · rw [r1, r2, Option.bind_some]
    dsimp only
    rw [if_pos rfl]
    exact Or.inl ⟨w', a, C, rfl, rfl, r3, r4⟩
  · rw [r1, r2, Option.bind_some]
    dsimp only [rB]
    rw [if_neg one]
    exact XR_fr r5 (Nat.le_refl _) (x_b100 hr r6 r4 hp (by omega) hd (fun c => dQn (w, c.2.1, c.2.2) c.1 k e) (fun c => ⟨rfl, rfl, rfl⟩))
theorem x_bor {kq : Nat × Nat} {T : Nat → Int32} {n q k p b : Nat} {cs : List Cd} {rec : Int32 → Mm → Option (Int32 × Mm)} {B : Nat → Nat → Rs Ex} {M : Mm} (hr : kq.2 = 6 ∨ kq.2 = 14) (x : Xq kq.2 T n q k p cs b M) (hB : ∀ q k M, Xq kq.2 T n q k p cs b M → XR kq.2 T n p cs b M k (B q k) (sX5_readBracket rec kq 1 M)) :
    XR kq.2 T n p cs b M k (dBo T n B q k) (sX5_readOfBore rec kq M) := by
  have one : ¬ (1 : Int32) = 0 := by decide
  have hq := x.1.2.2.2.2.2
  have hp := x.2.2.2.2.1
  have e0 : sX10_isWord 17 7 M = some (b2 (wdR T n q 17 7), M) := x_isW (f := 17) (c := 7) hq x.1.1 (by omega)
  unfold sX5_readOfBore dBo
  rw [e0, Option.bind_some]
  dsimp only
  by_cases hw : wdR T n q 17 7 = true
  · obtain ⟨i, i1, i2, i3, i4, i5, i6, i7⟩ := wdR_n hq hw
    have v6 : M.1 3 6 = nI (wdn T n q) := by rw [i2]; exact (x.1.1.2.2.2.2.1 (by omega)).trans i7
    rw [if_neg (show ¬ wdR T n q 17 7 = false by rw [hw]; decide), if_neg (show ¬ b2 (wdR T n q 17 7) = 0 by rw [hw]; exact b2t0)]
    rcases x_kn hr x with ⟨c1, A, e1, f1, x1⟩ | ⟨c1, A, e1, f1, g1⟩
    · rw [if_neg (by omega), e1, Option.bind_some]
      dsimp only
      rw [if_neg one, v6]
      have h17 : 17 ≤ wdn T n q ∧ wdn T n q ≤ 23 := by omega
      generalize wdn T n q = w at h17 ⊢
      by_cases d1 : w = 17
      · subst d1
        rw [if_pos rfl, if_neg (show ¬ nI 17 = 20 by decide)]
        unfold sX5_readOfBore_78
        rw [if_pos (show nI 17 = 17 from rfl)]
        have := x_b100 (rec := rec) (k0 := k) (w := 17) (d := 0) (c0 := []) hr (by rw [List.append_nil]; exact x1) (by show k + 1 + 0 ≤ k + 1; omega) hp (by omega) (by omega) (fun c => dLf (17, c.2.1, c.2.2) c.1 k) (fun c => ⟨rfl, rfl, rfl⟩)
        rw [if_neg (by omega)] at this
        exact XR_fr f1 (Nat.le_refl _) this
      rw [if_neg d1]
      by_cases d2 : w = 23
      · subst d2
        rw [if_pos rfl, if_neg (show ¬ nI 23 = 20 by decide)]
        unfold sX5_readOfBore_78
        rw [if_neg (show ¬ nI 23 = 17 by decide), if_pos (show nI 23 = 23 from rfl)]
        have := x_b100 (rec := rec) (k0 := k) (w := 23) (d := 0) (c0 := []) hr (by rw [List.append_nil]; exact x1) (by show k + 1 + 0 ≤ k + 1; omega) hp (by omega) (by omega) (fun c => dLf (23, c.2.1, c.2.2) c.1 k) (fun c => ⟨rfl, rfl, rfl⟩)
        rw [if_pos (by omega)] at this
        exact XR_fr f1 (Nat.le_refl _) this
      rw [if_neg d2]
      by_cases d3 : w = 20
      · subst d3
        rw [if_pos rfl, if_pos (show nI 20 = 20 from rfl)]
        rcases x_nto (m := 999) x1.1 (by omega) with ⟨c2, e2, v1, l1⟩ | ⟨c2, C, e2, f2, g2⟩
        · have e2' : sX10_isNumberTo 999 A = some (1, A) := e2
          obtain ⟨C, e3, f3, y3⟩ := x_next x1.1
          rw [if_neg (fun z => z c2), e2', Option.bind_some]
          dsimp only
          rw [if_neg one, e3, Option.bind_some, v1]
          have q3 : Xq kq.2 T n (tE T n (tE T n q)) (k + 1) p cs b C := Xq_mk x1 y3 (fun a j z => (f3 a j (by unfold pXs; omega)).1) ((f3 _ _ (by unfold pXs; omega)).1.trans x1.2.2.2.2.2.2.1) x1.2.2.2.2.2.2.2
          have := x_b78 (w := 20) (d := tN T n (tE T n q)) hr q3 hp (by omega) l1 hB
          simp only [if_neg (show ¬ (20 = 21 ∨ 20 = 22 ∨ 20 = 23) by omega)] at this
          exact XR_fr (Fr_tr f1 (xr_kf (xs_r f3))) (Nat.le_refl _) this
        · have e2' : sX10_isNumberTo 999 A = some (0, C) := e2
          rw [if_pos c2, e2', Option.bind_some]
          dsimp only
          rw [if_pos rfl]
          exact Or.inl ⟨_, _, C, rfl, rfl, Fr_tr (kf_kx f1) (xr_kx f2), g2⟩
      rw [if_neg d3, if_neg (show ¬ nI w = 20 from ne_nI (b := 20) (by omega) (by omega) (by omega))]
      have := x_b78 (w := w) (d := 0) hr x1 hp (by omega) (by omega) hB
      by_cases d4 : w = 18 ∨ w = 19
      · simp only [if_neg (show ¬ (w = 21 ∨ w = 22 ∨ w = 23) by omega)] at this
        rw [if_pos d4]
        exact XR_fr f1 (Nat.le_refl _) this
      · simp only [if_pos (show (w = 21 ∨ w = 22 ∨ w = 23) by omega)] at this
        rw [if_neg d4]
        exact XR_fr f1 (Nat.le_refl _) this
    · rw [if_pos c1, e1, Option.bind_some]
      exact Or.inl ⟨_, _, A, rfl, by rw [if_pos rfl], f1, g1⟩
  · have hw' := Bool.eq_false_iff.mpr hw
    obtain ⟨A, e1, f1, g1⟩ := x_ref (w := 1) x.1
    have e1' : sX10_refuse 1 M = some (0, A) := e1
    rw [if_pos hw', hw', if_pos b2f, e1', Option.bind_some]
    exact Or.inl ⟨1, tA T n q, A, rfl, by rw [ckT i0_], xr_kx f1, g1⟩
