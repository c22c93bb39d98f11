def ntW (k : Nat) : Nat → List Wt
  | 0 => []
  | c + 1 => (15, k + c, (16, 0, 0)) :: ntW k c
theorem ntW_s {k : Nat} {W : List Wt} : ∀ c, ntW (k + 1) c ++ ((15, k, (16, 0, 0)) :: W) = ntW k (c + 1) ++ W := by
  intro c
  induction c with
  | zero => rfl
  | succ c ih =>
    show (15, k + 1 + c, (16, 0, 0)) :: (ntW (k + 1) c ++ ((15, k, (16, 0, 0)) :: W)) = (15, k + (c + 1), (16, 0, 0)) :: (ntW k (c + 1) ++ W)
    rw [ih, show k + 1 + c = k + (c + 1) by omega]
theorem bnd_nt {y k : Nat} {W : List Wt} {H : List Nat} {O : List Nd} (hy : y ≤ 3) : ∀ (c : Nat) (ns : List Nd) (t : Nat), bnd y (ntW k c ++ W) (t :: H) (O ++ ns) = bnd y W ((wrN k c ns t).2 :: H) (O ++ (wrN k c ns t).1) := by
  intro c
  induction c with
  | zero => intro ns t; rfl
  | succ c ih =>
    intro ns t
    show bnd y ((15, k + c, (16, 0, 0)) :: (ntW k c ++ W)) (t :: H) (O ++ ns) = _
    rw [bnd, if_neg (show ¬ wgt 15 < y by show ¬ 3 < y; omega), if_pos rfl]
    show bnd y (ntW k c ++ W) ((k + c) :: H) (O ++ ns ++ [((16, 0, 0), k + c, t, 0)]) = _
    rw [List.append_assoc, ih]
    rfl
theorem vs_nots {T : Nat → Int32} {n b : Nat} {l : Bool} {H : List Nat} {O : List Nd} : ∀ (g q k F : Nat) (W : List Wt), q ≤ n → k ≤ 96 → 96 < k + g → n - q < F →
    (∀ f, dNo T n g q k = .inl f → mrun T n F q k b l true (W, H, O) = some (.inl f)) ∧
    (∀ s, dNo T n g q k = .inr s → k ≤ s.2 ∧ s.2 ≤ 96 ∧ q ≤ s.1 ∧ s.1 ≤ n ∧ wdR T n s.1 16 1 = false ∧ ∃ F', n - s.1 < F' ∧ mrun T n F q k b l true (W, H, O) = mrun T n F' s.1 s.2 b l true (ntW k (s.2 - k) ++ W, H, O)) := by
  intro g
  induction g with
  | zero => intro q k F W _ _ _ _; omega
  | succ g ih =>
    intro q k F W hq hk hg hF
    rw [dNo]
    by_cases hw : wdR T n q 16 1 = true
    · obtain ⟨F, rfl⟩ : ∃ F', F = F' + 1 := ⟨F - 1, by omega⟩
      have he := wd_e hq hw
      have st : mrun T n (F + 1) q k b l true (W, H, O) = if k = 96 then some (.inl (2, tA T n q)) else mrun T n F (tE T n q) (k + 1) b l true ((15, k, (16, 0, 0)) :: W, H, O) := by
        rw [mrun, if_pos rfl, mVa, if_neg (by rw [wd_sg hq hw]; decide), if_pos hw]
      rw [if_pos hw, st]
      by_cases z : k = 96
      · rw [if_pos z, if_pos z]
        exact ⟨fun f h => by cases h; rfl, fun s h => by cases h⟩
      · rw [if_neg z, if_neg z]
        obtain ⟨a1, a2⟩ := ih (tE T n q) (k + 1) F ((15, k, (16, 0, 0)) :: W) he.2 (by omega) (by omega) (by omega)
        refine ⟨a1, fun s h => ?_⟩
        obtain ⟨b1, b2, b3, b4, b5, F', b6, b7⟩ := a2 s h
        refine ⟨by omega, b2, by omega, b4, b5, F', b6, ?_⟩
        rw [b7, ntW_s, show s.2 - (k + 1) + 1 = s.2 - k by omega]
    · rw [if_neg hw]
      refine ⟨fun f h => (by cases h), fun s h => ?_⟩
      cases h
      exact ⟨Nat.le_refl _, hk, Nat.le_refl _, hq, Bool.eq_false_iff.mpr hw, F, hF, by rw [Nat.sub_self]; rfl⟩
/-- from an open bracket to its end -/
theorem vs_br {T : Nat → Int32} {n b g q k : Nat} {o : Bool} {e0 : Wt} {W : List Wt} {H : List Nat} {O : List Nd} (hI : ∀ q k m, twt m.1 < 1 → Vs T n 1 (dEi T n (dBr T n g) o q k) q k (b + 1) o m) (h0 : wgt e0.1 = 0) (hs : sgB T n q 40 = true) (hq : q ≤ n) (hk : k ≤ 96) : ∀ F, n - tE T n q < F →
    (∀ f, dBr T n (g + 1) o q k = .inl f → mrun T n F (tE T n q) k (b + 1) o true (e0 :: W, H, O) = some (.inl f)) ∧
    (∀ e, dBr T n (g + 1) o q k = .inr e → k < e.2.1 ∧ e.2.1 ≤ 96 ∧ q < e.1 ∧ e.1 ≤ n ∧ ∃ q1 F' m', tE T n q1 = e.1 ∧ n - e.1 < F' ∧ bnd 1 m'.1 m'.2.1 m'.2.2 = some (e0 :: W, e.2.2.2.1 :: H, O ++ e.2.2.1) ∧ mrun T n F (tE T n q) k (b + 1) o true (e0 :: W, H, O) = mCl T n (mrun T n F') q1 e.2.1 (b + 1) o m') := by
  intro F hF
  have he := sg_e hq hs
  rw [dBr, if_neg (by rw [hs]; decide)]
  have tw : twt (e0 :: W) < 1 := by show wgt e0.1 < 1; omega
  obtain ⟨a1, a2⟩ := hI (tE T n q) k (e0 :: W, H, O) tw F he.2 hk hF
  cases hE : dEi T n (dBr T n g) o (tE T n q) k with
  | inl f =>
    dsimp only [rB]
    exact ⟨fun f' h => by cases h; exact a1 f hE, fun e h => by cases h⟩
  | inr e =>
    dsimp only [rB]
    obtain ⟨c1, c2, c3, c4, F', m', c5, c6, c7⟩ := a2 e hE
    obtain ⟨w15, w14⟩ := dEi_end hE
    obtain ⟨F', rfl⟩ : ∃ F'', F' = F'' + 1 := ⟨F' - 1, by omega⟩
    have st : mrun T n (F' + 1) e.1 e.2.1 (b + 1) o false m' = if sgB T n e.1 41 = true then mCl T n (mrun T n F') e.1 e.2.1 (b + 1) o m' else some (.inl (1, tA T n e.1)) := by
      rw [mrun, if_neg (by decide), if_neg (by rw [w14]; decide), if_neg (by rw [w15]; decide), if_neg (by omega)]
    rw [c6, st]
    by_cases z : sgB T n e.1 41 = true
    · rw [if_pos z, if_pos z]
      have hz := sg_e c4 z
      refine ⟨fun f h => (by cases h), fun e' h => ?_⟩
      cases h
      refine ⟨c1, c2, show q < tE T n e.1 by omega, hz.2, e.1, F', m', rfl, show n - tE T n e.1 < F' by omega, ?_, rfl⟩
      rw [c7 1 (by omega) (by omega), bnd_st _ tw]
    · rw [if_neg z, if_neg z]
      exact ⟨fun f h => by cases h; rfl, fun e h => by cases h⟩
theorem vs_op {T : Nat → Int32} {n b f q k F w : Nat} {c : Cd} {m : Mc} (hb : b + f = 8) (hI : ∀ g, f = g + 1 → ∀ o q k m, twt m.1 < 1 → Vs T n 1 (dEi T n (dBr T n g) o q k) q k (b + 1) o m) (hw : w = 101 ∨ w = 102) (hq : q ≤ n) (hk : k < 96) (hF : n - q ≤ F) :
    (∀ f', dBr T n f true q (k + 1) = .inl f' → mOp T n (mrun T n F) w c q k b m = some (.inl f')) ∧
    (∀ e, dBr T n f true q (k + 1) = .inr e → k + 1 < e.2.1 ∧ e.2.1 ≤ 96 ∧ q < e.1 ∧ e.1 ≤ n ∧ ∃ F', n - e.1 < F' ∧ mOp T n (mrun T n F) w c q k b m = if w = 102 then oB (rdC T n e.1) (fun d => mrun T n F' d.1 e.2.1 b false false (m.1, k :: m.2.1, m.2.2 ++ e.2.2.1 ++ [((c.1, d.2.1, d.2.2), k, e.2.2.2.1, 0)])) else mrun T n F' e.1 e.2.1 b false false (m.1, k :: m.2.1, m.2.2 ++ e.2.2.1 ++ [(c, k, e.2.2.2.1, 0)])) := by
  unfold mOp
  by_cases hs : sgB T n q 40 = true
  · have he := sg_e hq hs
    rw [if_neg (show ¬ sgB T n q 40 = false by rw [hs]; decide)]
    cases f with
    | zero =>
      rw [dBr, if_neg (by rw [hs]; decide), if_pos (by omega)]
      exact ⟨fun f' h => by cases h; rfl, fun e h => by cases h⟩
    | succ g =>
      rw [if_neg (by omega)]
      obtain ⟨a1, a2⟩ := vs_br (e0 := (w, k, c)) (W := m.1) (H := m.2.1) (O := m.2.2) (hI g rfl true) (by unfold wgt; dsimp only; rw [if_neg (by omega), if_neg (by omega), if_neg (by omega)]) hs hq (show k + 1 ≤ 96 by omega) F (by omega)
      refine ⟨a1, fun e h => ?_⟩
      obtain ⟨c1, c2, c3, c4, q1, F', m', c5, c6, c7, c8⟩ := a2 e h
      refine ⟨c1, c2, c3, c4, F', c6, ?_⟩
      have c8' : mrun T n F (tE T n q) (k + 1) (b + 1) true true ((w, k, c) :: m.1, m.2) = _ := c8
      rw [c8', mCl, c7]
      dsimp only
      rw [if_neg (by omega), c5, Nat.add_sub_cancel]
  · have hs' := Bool.eq_false_iff.mpr hs
    rw [if_pos hs']
    have : dBr T n f true q (k + 1) = .inl (1, tA T n q) := by
      cases f with
      | zero => rw [dBr, if_pos hs']
      | succ g => rw [dBr, if_pos hs']
    rw [this]
    exact ⟨fun f' h => by cases h; rfl, fun e h => by cases h⟩
theorem vs_bo {T : Nat → Int32} {n b f q k : Nat} {m : Mc} (hb : b + f = 8) (hI : ∀ g, f = g + 1 → ∀ o q k m, twt m.1 < 1 → Vs T n 1 (dEi T n (dBr T n g) o q k) q k (b + 1) o m) (hs : sgB T n q 40 = false) (hn : wdR T n q 16 1 = false) : Vs T n 3 (dBo T n (dBr T n f true) q k) q k b false m := by
  intro F hq hk hF
  obtain ⟨F, rfl⟩ : ∃ F', F = F' + 1 := ⟨F - 1, by omega⟩
  have st : mrun T n (F + 1) q k b false true m = mBo T n (mrun T n F) q k b m := by
    rw [mrun, if_pos rfl, mVa, if_neg (by rw [hs]; decide), if_neg (by rw [hn]; decide), if_neg (by decide)]
  rw [st]
  unfold dBo mBo
  by_cases hw : wdR T n q 17 7 = true
  · have he := wd_e hq hw
    rw [if_neg (show ¬ wdR T n q 17 7 = false by rw [hw]; decide), if_neg (show ¬ wdR T n q 17 7 = false by rw [hw]; decide)]
    by_cases z : k = 96
    · rw [if_pos z, if_pos z]
      exact ⟨fun f' h => by cases h; rfl, fun e h => by cases h⟩
    rw [if_neg z, if_neg z]
    by_cases d1 : wdn T n q = 17
    · rw [if_pos d1, if_pos d1]
      refine ⟨fun f' h => (by cases h), fun e h => ?_⟩
      cases h
      exact ⟨Nat.lt_succ_self k, show k + 1 ≤ 96 by omega, he.1, he.2, F, _, show n - tE T n q < F by omega, rfl, fun y _ _ => rfl⟩
    rw [if_neg d1, if_neg d1]
    by_cases d2 : wdn T n q = 23
    · rw [if_pos d2, if_pos d2]
      cases hc : rdC T n (tE T n q) with
      | inl f' => exact ⟨fun f'' h => by cases h; rfl, fun e h => by cases h⟩
      | inr c =>
        have hc' := rdC_e he.2 hc
        refine ⟨fun f' h => (by cases h), fun e h => ?_⟩
        cases h
        exact ⟨Nat.lt_succ_self k, show k + 1 ≤ 96 by omega, show q < c.1 by omega, hc'.2, F, _, show n - c.1 < F by omega, rfl, fun y _ _ => rfl⟩
    rw [if_neg d2, if_neg d2]
    by_cases d3 : wdn T n q = 20
    · rw [if_pos d3, if_pos d3]
      by_cases u : nmF T n (tE T n q) 999 = 0
      · have hu := nmf_e he.2 u
        rw [if_neg (fun v => v u), if_neg (fun v => v u)]
        obtain ⟨a1, a2⟩ := vs_op (F := F) (w := 101) (c := (20, 0, tN T n (tE T n q))) (m := m) (q := tE T n (tE T n q)) (k := k) hb hI (by omega) hu.2 (by omega) (by omega)
        cases hB : dBr T n f true (tE T n (tE T n q)) (k + 1) with
        | inl f' => exact ⟨fun f'' h => by cases h; exact a1 f' hB, fun e h => by cases h⟩
        | inr e =>
          obtain ⟨c1, c2, c3, c4, F', c5, c6⟩ := a2 e hB
          refine ⟨fun f' h => (by cases h), fun e' h => ?_⟩
          cases h
          refine ⟨show k < e.2.1 by omega, c2, show q < e.1 by omega, c4, F', _, c5, by rw [c6, if_neg (by omega)]; rfl, fun y _ _ => ?_⟩
          show bnd y m.1 (k :: m.2.1) (m.2.2 ++ e.2.2.1 ++ _) = bnd y m.1 (k :: m.2.1) (m.2.2 ++ (e.2.2.1 ++ _))
          rw [List.append_assoc]
      · rw [if_pos u, if_pos u]
        exact ⟨fun f' h => by cases h; rfl, fun e h => by cases h⟩
    rw [if_neg d3, if_neg d3]
    by_cases d4 : wdn T n q = 18 ∨ wdn T n q = 19
    · rw [if_pos d4, if_pos d4]
      obtain ⟨a1, a2⟩ := vs_op (F := F) (w := 101) (c := (wdn T n q, 0, 0)) (m := m) (q := tE T n q) (k := k) hb hI (by omega) he.2 (by omega) (by omega)
      cases hB : dBr T n f true (tE T n q) (k + 1) with
      | inl f' => exact ⟨fun f'' h => by cases h; exact a1 f' hB, fun e h => by cases h⟩
      | inr e =>
        obtain ⟨c1, c2, c3, c4, F', c5, c6⟩ := a2 e hB
        refine ⟨fun f' h => (by cases h), fun e' h => ?_⟩
        cases h
        refine ⟨show k < e.2.1 by omega, c2, show q < e.1 by omega, c4, F', _, c5, by rw [c6, if_neg (by omega)]; rfl, fun y _ _ => ?_⟩
        show bnd y m.1 (k :: m.2.1) (m.2.2 ++ e.2.2.1 ++ _) = bnd y m.1 (k :: m.2.1) (m.2.2 ++ (e.2.2.1 ++ _))
        rw [List.append_assoc]
    · rw [if_neg d4, if_neg d4]
      obtain ⟨a1, a2⟩ := vs_op (F := F) (w := 102) (c := (wdn T n q, 0, 0)) (m := m) (q := tE T n q) (k := k) hb hI (by omega) he.2 (by omega) (by omega)
      cases hB : dBr T n f true (tE T n q) (k + 1) with
      | inl f' => exact ⟨fun f'' h => by cases h; exact a1 f' hB, fun e h => by cases h⟩
      | inr e =>
        obtain ⟨c1, c2, c3, c4, F', c5, c6⟩ := a2 e hB
        rw [c6, if_pos rfl]
        dsimp only [rB]
        cases hc : rdC T n e.1 with
        | inl f' => exact ⟨fun f'' h => by cases h; rfl, fun e h => by cases h⟩
        | inr c =>
          have hc' := rdC_e c4 hc
          refine ⟨fun f' h => (by cases h), fun e' h => ?_⟩
          cases h
          refine ⟨show k < e.2.1 by omega, c2, show q < c.1 by omega, hc'.2, F', _, show n - c.1 < F' by omega, rfl, fun y _ _ => ?_⟩
          show bnd y m.1 (k :: m.2.1) (m.2.2 ++ e.2.2.1 ++ _) = bnd y m.1 (k :: m.2.1) (m.2.2 ++ (e.2.2.1 ++ _))
          rw [List.append_assoc]
  · rw [if_pos (Bool.eq_false_iff.mpr hw), if_pos (Bool.eq_false_iff.mpr hw)]
    exact ⟨fun f' h => by cases h; rfl, fun e h => by cases h⟩
theorem vs_va {T : Nat → Int32} {n b f q k : Nat} {o : Bool} {m : Mc} (hb : b + f = 8) (hI : ∀ g, f = g + 1 → ∀ o q k m, twt m.1 < 1 → Vs T n 1 (dEi T n (dBr T n g) o q k) q k (b + 1) o m) (hn : wdR T n q 16 1 = false) : Vs T n 3 (dVa T n (dBr T n f) o q k) q k b o m := by
  unfold dVa
  by_cases hs : sgB T n q 40 = true
  · rw [if_pos hs]
    intro F hq hk hF
    have he := sg_e hq hs
    obtain ⟨F, rfl⟩ : ∃ F', F = F' + 1 := ⟨F - 1, by omega⟩
    have st : mrun T n (F + 1) q k b o true m = if b = 8 then some (.inl (2, tA T n q)) else mrun T n F (tE T n q) k (b + 1) o true ((100, 0, (0, 0, 0)) :: m.1, m.2) := by
      rw [mrun, if_pos rfl, mVa, if_pos hs]
    rw [st]
    cases f with
    | zero =>
      rw [dBr, if_neg (by rw [hs]; decide), if_pos (by omega)]
      exact ⟨fun f' h => by cases h; rfl, fun e h => by cases h⟩
    | succ g =>
      rw [if_neg (by omega)]
      obtain ⟨a1, a2⟩ := vs_br (e0 := (100, 0, (0, 0, 0))) (W := m.1) (H := m.2.1) (O := m.2.2) (hI g rfl o) rfl hs hq hk F (by omega)
      refine ⟨a1, fun e h => ?_⟩
      obtain ⟨c1, c2, c3, c4, q1, F', m', c5, c6, c7, c8⟩ := a2 e h
      have c8' : mrun T n F (tE T n q) k (b + 1) o true ((100, 0, (0, 0, 0)) :: m.1, m.2) = _ := c8
      refine ⟨c1, c2, c3, c4, F', (m.1, e.2.2.2.1 :: m.2.1, m.2.2 ++ e.2.2.1), c6, ?_, fun y _ _ => rfl⟩
      rw [c8', mCl, c7]
      dsimp only
      rw [if_pos rfl, c5, Nat.add_sub_cancel]
  · have hs' := Bool.eq_false_iff.mpr hs
    rw [if_neg hs]
    cases o with
    | false => rw [if_neg (by decide)]; exact vs_bo hb hI hs' hn
    | true =>
      rw [if_pos rfl]
      intro F hq hk hF
      obtain ⟨F, rfl⟩ : ∃ F', F = F' + 1 := ⟨F - 1, by omega⟩
      have st : mrun T n (F + 1) q k b true true m = oB (rdF T n q k) (fun c => mDn (mrun T n F) true c.2 c.1 k b m) := by
        rw [mrun, if_pos rfl, mVa, if_neg hs, if_neg (by rw [hn]; decide), if_pos rfl]
      rw [st]
      cases hc : rdF T n q k with
      | inl f' => exact ⟨fun f'' h => by cases h; rfl, fun e h => by cases h⟩
      | inr c =>
        have hc' := rdF_e hq hc
        refine ⟨fun f' h => (by cases h), fun e' h => ?_⟩
        cases h
        exact ⟨Nat.lt_succ_self k, show k + 1 ≤ 96 by omega, hc'.1, hc'.2.1, F, _, show n - c.1 < F by omega, rfl, fun y _ _ => rfl⟩
theorem vs_mn {T : Nat → Int32} {n b f q k : Nat} {o : Bool} {m : Mc} (hb : b + f = 8) (hI : ∀ g, f = g + 1 → ∀ o q k m, twt m.1 < 1 → Vs T n 1 (dEi T n (dBr T n g) o q k) q k (b + 1) o m) : Vs T n 3 (dMn T n (dBr T n f) o q k) q k b o m := by
  intro F hq hk hF
  unfold dMn
  obtain ⟨a1, a2⟩ := vs_nots (T := T) (b := b) (l := o) (H := m.2.1) (O := m.2.2) 97 q k F m.1 hq hk (by omega) hF
  cases hN : dNo T n 97 q k with
  | inl f' => exact ⟨fun f'' h => by cases h; exact a1 f' hN, fun e h => by cases h⟩
  | inr s =>
    obtain ⟨b1, b2, b3, b4, b5, F', b6, b7⟩ := a2 s hN
    have b7' : mrun T n F q k b o true m = _ := b7
    rw [b7']
    dsimp only [rB]
    obtain ⟨d1, d2⟩ := vs_va (o := o) (k := s.2) (m := (ntW k (s.2 - k) ++ m.1, m.2.1, m.2.2)) hb hI b5 F' b4 b2 b6
    cases hV : dVa T n (dBr T n f) o s.1 s.2 with
    | inl f' => exact ⟨fun f'' h => by cases h; exact d1 f' hV, fun e h => by cases h⟩
    | inr e =>
      obtain ⟨c1, c2, c3, c4, G, m', c5, c6, c7⟩ := d2 e hV
      refine ⟨fun f' h => (by cases h), fun e' h => ?_⟩
      cases h
      refine ⟨show k < e.2.1 by omega, c2, show q < e.1 by omega, c4, G, m', c5, c6, fun y h1 h2 => ?_⟩
      rw [c7 y h1 h2]
      exact bnd_nt h2 _ _ _
theorem vs_lp {T : Nat → Int32} {n b x w : Nat} {l : Bool} {P : Nat → Nat → Rs Ex} (hw : w = 14 ∧ x = 1 ∨ w = 15 ∧ x = 2) (hP : ∀ q k m, twt m.1 < x + 1 → Vs T n (x + 1) (P q k) q k b l m) (m0 : Mc) (h0 : twt m0.1 < x) : ∀ (g : Nat) (e : Ex) (F : Nat) (m' : Mc), 96 < e.2.1 + g → e.2.1 ≤ 96 → e.1 ≤ n → n - e.1 < F → (∀ y, 1 ≤ y → y ≤ x → bnd y m'.1 m'.2.1 m'.2.2 = bnd y m0.1 (e.2.2.2.1 :: m0.2.1) (m0.2.2 ++ e.2.2.1)) →
    (∀ f, dLp T n P w g e = .inl f → mrun T n F e.1 e.2.1 b l false m' = some (.inl f)) ∧
    (∀ e2, dLp T n P w g e = .inr e2 → e.2.1 ≤ e2.2.1 ∧ e2.2.1 ≤ 96 ∧ e.1 ≤ e2.1 ∧ e2.1 ≤ n ∧ ∃ F' m'', n - e2.1 < F' ∧ mrun T n F e.1 e.2.1 b l false m' = mrun T n F' e2.1 e2.2.1 b l false m'' ∧ ∀ y, 1 ≤ y → y ≤ x → bnd y m''.1 m''.2.1 m''.2.2 = bnd y m0.1 (e2.2.2.2.1 :: m0.2.1) (m0.2.2 ++ e2.2.2.1)) := by
  intro g
  induction g with
  | zero => intro e F m' _ _ _ _ _; omega
  | succ g ih =>
    intro e F m' hg hk hq hF hy
    rw [dLp]
    by_cases z : wdR T n e.1 w 1 = true
    · obtain ⟨F, rfl⟩ : ∃ F', F = F' + 1 := ⟨F - 1, by omega⟩
      have he := wd_e hq z
      have hx : w - 13 = x := by omega
      have st : mrun T n (F + 1) e.1 e.2.1 b l false m' = mJo T n (mrun T n F) w e.1 e.2.1 b l m' := by
        rw [mrun, if_neg (by decide)]
        rcases hw with ⟨q1, q2⟩ | ⟨q1, q2⟩
        · subst q1; rw [if_pos z]
        · subst q1; rw [if_neg (by rw [wd_wd z (by omega)]; decide), if_pos z]
      rw [if_pos z, st]
      unfold mJo
      by_cases u : e.2.1 = 96
      · rw [if_pos u, if_pos u]
        exact ⟨fun f h => by cases h; rfl, fun e h => by cases h⟩
      rw [if_neg u, if_neg u, hx, hy x (by omega) (Nat.le_refl _), bnd_st _ h0, Option.bind_some]
      have tw : wgt (w - 1) = x := by
        rcases hw with ⟨q1, q2⟩ | ⟨q1, q2⟩ <;> (subst q1; subst q2; rfl)
      obtain ⟨a1, a2⟩ := hP (tE T n e.1) (e.2.1 + 1) ((w - 1, e.2.1, (w, 0, 0)) :: m0.1, e.2.2.2.1 :: m0.2.1, m0.2.2 ++ e.2.2.1) (by show wgt (w - 1) < x + 1; omega) F he.2 (by omega) (by omega)
      cases hPe : P (tE T n e.1) (e.2.1 + 1) with
      | inl f' => exact ⟨fun f'' h => by cases h; exact a1 f' hPe, fun e h => by cases h⟩
      | inr e' =>
        obtain ⟨c1, c2, c3, c4, F', m2, c5, c6, c7⟩ := a2 e' hPe
        dsimp only [rB]
        rw [c6]
        obtain ⟨i1, i2⟩ := ih (dJn w e e') F' m2 (show 96 < e'.2.1 + g by omega) c2 c4 c5 (fun y h1 h2 => by
          rw [c7 y h1 (by omega)]
          dsimp only
          rw [bnd, if_neg (by dsimp only; omega), if_neg (show ¬ w - 1 = 15 by omega)]
          show bnd y m0.1 (e.2.1 :: m0.2.1) (m0.2.2 ++ e.2.2.1 ++ e'.2.2.1 ++ [((w, 0, 0), e.2.1, e.2.2.2.1, e'.2.2.2.1)]) = bnd y m0.1 (e.2.1 :: m0.2.1) (m0.2.2 ++ (e.2.2.1 ++ e'.2.2.1 ++ [((w, 0, 0), e.2.1, e.2.2.2.1, e'.2.2.2.1)]))
          rw [List.append_assoc, List.append_assoc, List.append_assoc])
        refine ⟨i1, fun e2 h => ?_⟩
        obtain ⟨j1, j2, j3, j4, j5⟩ := i2 e2 h
        have j1' : e'.2.1 ≤ e2.2.1 := j1
        have j3' : e'.1 ≤ e2.1 := j3
        exact ⟨by omega, j2, by omega, j4, j5⟩
    · rw [if_neg z]
      refine ⟨fun f h => (by cases h), fun e2 h => ?_⟩
      cases h
      exact ⟨Nat.le_refl _, hk, Nat.le_refl _, hq, F, m', hF, rfl, hy⟩
theorem vs_jn {T : Nat → Int32} {n b x w q k : Nat} {l : Bool} {P : Nat → Nat → Rs Ex} (hw : w = 14 ∧ x = 1 ∨ w = 15 ∧ x = 2) (hP : ∀ q k m, twt m.1 < x + 1 → Vs T n (x + 1) (P q k) q k b l m) (m : Mc) (h0 : twt m.1 < x) : Vs T n x (rB (P q k) (dLp T n P w 97)) q k b l m := by
  intro F hq hk hF
  obtain ⟨a1, a2⟩ := hP q k m (by omega) F hq hk hF
  cases hPe : P q k with
  | inl f' => exact ⟨fun f'' h => by cases h; exact a1 f' hPe, fun e h => by cases h⟩
  | inr e =>
    obtain ⟨c1, c2, c3, c4, F', m2, c5, c6, c7⟩ := a2 e hPe
    dsimp only [rB]
    rw [c6]
    obtain ⟨i1, i2⟩ := vs_lp hw hP m h0 97 e F' m2 (by omega) c2 c4 c5 (fun y h1 h2 => c7 y h1 (by omega))
    refine ⟨i1, fun e2 h => ?_⟩
    obtain ⟨j1, j2, j3, j4, j5⟩ := i2 e2 h
    exact ⟨by omega, j2, by omega, j4, j5⟩
/-- the machine reads what the descent reads -/
theorem vs_all {T : Nat → Int32} {n : Nat} : ∀ f b, b + f = 8 → ∀ o q k m, twt m.1 < 1 → Vs T n 1 (dEi T n (dBr T n f) o q k) q k b o m := by
  have go : ∀ f b, b + f = 8 → (∀ g, f = g + 1 → ∀ o q k m, twt m.1 < 1 → Vs T n 1 (dEi T n (dBr T n g) o q k) q k (b + 1) o m) → ∀ o q k m, twt m.1 < 1 → Vs T n 1 (dEi T n (dBr T n f) o q k) q k b o m := fun f b hb hI o q k m h =>
    vs_jn (Or.inl ⟨rfl, rfl⟩) (fun q k m h => vs_jn (Or.inr ⟨rfl, rfl⟩) (fun q k m _ => vs_mn hb hI) m h) m h
  intro f
  induction f with
  | zero => intro b hb; exact go 0 b hb (fun g z => by omega)
  | succ f ih =>
    intro b hb
    exact go (f + 1) b hb (fun g z => by
      have : g = f := by omega
      subst this
      exact ih (b + 1) (by omega))
