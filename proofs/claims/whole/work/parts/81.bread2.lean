theorem x_rd2 {T : Nat → Int32} {n q i k : Nat} {M : Mm} (hi : i < 60) (hk : k < 8) (x : Xs T n q M) :
    (∃ w p M', rd2 T n q = .inl (w, p) ∧ sX7_readLook (38 + 2 * i) (nI k) M = some (0, M') ∧ Fr (pBr i) M M' ∧ Xf w p M') ∨
    (∃ q' l M', rd2 T n q = .inr (q', l) ∧ l.length = 4 ∧ sX7_readLook (38 + 2 * i) (nI k) M = some (1, M') ∧ Fr (fun id z => pXr id z ∨ Fw i (6 * k + 2) (6 * k + 6) id z) M M' ∧ Xs T n q' M' ∧ ∀ j, j < 4 → M'.1 (39 + 2 * i) (6 * k + 2 + j) = nI (l.getD j 0)) := by
  have fall : ∀ {X Y : Mm}, Fr (fun id z => pXr id z ∨ Fw i (6 * k + 2) (6 * k + 6) id z) X Y → Fr (pBr i) X Y := fun {X Y} f => Fr_mo f (fun id z q => by unfold pXr Fw at q; unfold pBr; omega)
  unfold sX7_readLook rd2
  rcases x_rdW (j := 2) (f := 0) (c := 6) hi hk (by omega) (by omega) x with ⟨c1, A, e1, f1, g1⟩ | ⟨c1, A, e1, f1, x1, v1⟩
  · have e1' : sX7_readWord (38 + 2 * i) (nI k) 2 0 6 M = some (0, A) := e1
    rw [if_pos c1, e1', Option.bind_some]
    dsimp only
    rw [if_pos rfl]
    exact Or.inl ⟨1, _, A, rfl, rfl, f1, g1⟩
  have e1' : sX7_readWord (38 + 2 * i) (nI k) 2 0 6 M = some (1, A) := e1
  rw [if_neg (by rw [c1]; decide), e1', Option.bind_some]
  dsimp only
  rw [if_neg one_]
  have fA : Fr (fun id z => pXr id z ∨ Fw i (6 * k + 2) (6 * k + 6) id z) M A := Fr_mo f1 (fun id z q => by unfold pXr Fw at q ⊢; omega)
  rcases x_rdW (j := 3) (f := 6) (c := 5) hi hk (by omega) (by omega) x1 with ⟨c2, B, e2, f2, g2⟩ | ⟨c2, B, e2, f2, x2, v2⟩
  · have e2' : sX7_readWord (38 + 2 * i) (nI k) 3 6 5 A = some (0, B) := e2
    rw [if_pos c2, e2', Option.bind_some]
    dsimp only
    rw [if_pos rfl]
    exact Or.inl ⟨1, _, B, rfl, rfl, Fr_tr (fall fA) f2, g2⟩
  have e2' : sX7_readWord (38 + 2 * i) (nI k) 3 6 5 A = some (1, B) := e2
  rw [if_neg (by rw [c2]; decide), e2', Option.bind_some]
  dsimp only
  rw [if_neg one_]
  have fB : Fr (fun id z => pXr id z ∨ Fw i (6 * k + 2) (6 * k + 6) id z) M B := Fr_tr fA (Fr_mo f2 (fun id z q => by unfold pXr Fw at q ⊢; omega))
  have b2v : B.1 (39 + 2 * i) (6 * k + 2) = nI (wdn T n q) := by rw [(f2 _ _ (by unfold pXr Fw; omega)).1]; exact v1
  have hq2 := x2.2.2.2.2.2
  have ew : sX10_isWord 11 1 B = some (b2 (wdR T n (tE T n (tE T n q)) 11 1), B) := x_isW (f := 11) (c := 1) hq2 x2.1 (by omega)
  rw [ew, Option.bind_some]
  dsimp only
  unfold sX7_readLook_48 sX7_readLook_59
  generalize hm : wdR T n (tE T n (tE T n q)) 11 1 = mo
  have ef : (if b2 mo = 0 then (0 : Int32) else 1) = nI (if mo = true then 1 else 0) := by cases mo <;> rfl
  have es : sX7_set (38 + 2 * i) (nI k) 4 (nI (if mo = true then 1 else 0)) B = some (sI B (39 + 2 * i) (6 * k + 4) (nI (if mo = true then 1 else 0))) := x_set (j := 4) hi hk (by omega)
  rw [ef, es, Option.bind_some]
  obtain ⟨C, eC⟩ : ∃ C, C = sI B (39 + 2 * i) (6 * k + 4) (nI (if mo = true then 1 else 0)) := ⟨_, rfl⟩
  rw [← eC]
  have xC : Xs T n (tE T n (tE T n q)) C := by rw [eC]; exact Xs_sI x2 (by omega)
  have fC : Fr (fun id z => pXr id z ∨ Fw i (6 * k + 2) (6 * k + 6) id z) M C := by
    rw [eC]; exact Fr_sI fB (Or.inr (by unfold Fw; omega))
  have c2v : C.1 (39 + 2 * i) (6 * k + 2) = nI (wdn T n q) := by rw [eC, rdN (by omega)]; exact b2v
  have c3v : C.1 (39 + 2 * i) (6 * k + 3) = nI (wdn T n (tE T n q) - 6) := by rw [eC, rdN (by omega)]; exact v2
  have c4v : C.1 (39 + 2 * i) (6 * k + 4) = nI (if mo = true then 1 else 0) := by rw [eC, rdS]
  obtain ⟨D, eD, fD, xD⟩ : ∃ D, (if b2 mo = 0 then (sX7_readStones (38 + 2 * i) (nI k) C).bind (fun (q62 : Int32 × Mm) => ck (isb q62.1) (some (q62.1, q62.2))) else (sX10_step C).bind (fun (M56 : Mm) => (sX7_readStones (38 + 2 * i) (nI k) M56).bind (fun (q62 : Int32 × Mm) => ck (isb q62.1) (some (q62.1, q62.2))))) = (sX7_readStones (38 + 2 * i) (nI k) D).bind (fun (q62 : Int32 × Mm) => ck (isb q62.1) (some (q62.1, q62.2))) ∧ Fr pXs C D ∧ Xs T n (rdm T n (tE T n (tE T n q))) D := by
    unfold rdm
    rw [hm]
    cases mo with
    | false => exact ⟨C, by rw [if_pos b2f], Fr_rf _ _, by rw [if_neg ff_]; exact xC⟩
    | true =>
      obtain ⟨D, e, f, g⟩ := x_next xC
      exact ⟨D, by rw [if_neg b2t0, e, Option.bind_some], f, by rw [if_pos rfl]; exact g⟩
  rw [eD]
  have fD' := Fr_tr fC (Fr_mo (xs_r fD) (fun id k q => Or.inl q))
  have dv : ∀ z, D.1 (39 + 2 * i) z = C.1 (39 + 2 * i) z := fun z => (fD _ _ (by unfold pXs; omega)).1
  rcases x_rd3 hi hk xD with ⟨w, p, E, r1, r2, r3, r4⟩ | ⟨q', s, E, r1, r2, r3, r4, r5⟩
  · rw [r1, r2, Option.bind_some, ckT i0_]
    exact Or.inl ⟨w, p, E, rfl, rfl, Fr_tr (fall fD') r3, r4⟩
  · rw [r1, r2, Option.bind_some, ckT i1_]
    have ev : ∀ z, z < 6 * k + 5 → E.1 (39 + 2 * i) z = C.1 (39 + 2 * i) z := fun z hz => by
      rw [(r3 _ _ (by unfold pXr Fw; omega)).1, dv]
    refine Or.inr ⟨q', _, E, rfl, rfl, rfl, Fr_tr fD' (Fr_mo r3 (fun id z q => by unfold pXr Fw at q ⊢; omega)), r4, fun j hj => ?_⟩
    match j, hj with
    | 0, _ => rw [ev _ (by omega)]; exact c2v
    | 1, _ => rw [ev _ (by omega)]; exact c3v
    | 2, _ => rw [ev _ (by omega)]; exact c4v
    | 3, _ => exact r5
theorem gD_ap {L l : List Nat} {z : Nat} (h : z < L.length) : (L ++ l).getD z 0 = L.getD z 0 := by
  rw [List.getD_eq_getElem?_getD, List.getD_eq_getElem?_getD, List.getElem?_append_left h]
theorem gD_ar {L l : List Nat} {z : Nat} (h : L.length ≤ z) : (L ++ l).getD z 0 = l.getD (z - L.length) 0 := by
  rw [List.getD_eq_getElem?_getD, List.getD_eq_getElem?_getD, List.getElem?_append_right h]
theorem x_rdB {T : Nat → Int32} {n i : Nat} (hi : i < 60) : ∀ (f k q due F : Nat) (L : List Nat) (M : Mm), f + k = 8 → L.length = 6 * k → f < F → Xs T n q M → M.1 (38 + 2 * i) 3 = nI k → (∀ z, z < 6 * k → M.1 (39 + 2 * i) z = nI (L.getD z 0)) → (k = 0 → due = 0) → (k ≠ 0 → due = L.getD (6 * (k - 1) + 1) 0) → due ≤ 300 →
    (∃ w p M', rdB T n f q due L = .inl (w, p) ∧ sX7_readFrom_7 (38 + 2 * i) F (nI k) M = some (0, M') ∧ Fr (pBr i) M M' ∧ Xf w p M') ∨
    (∃ L' m M', rdB T n f q due L = .inr L' ∧ L'.length = 6 * m ∧ 1 ≤ m ∧ m ≤ 8 ∧ sX7_readFrom_7 (38 + 2 * i) F (nI k) M = some (1, M') ∧ Fr (pBr i) M M' ∧ M'.1 (38 + 2 * i) 3 = nI m ∧ (∀ z, z < 6 * m → M'.1 (39 + 2 * i) z = nI (L'.getD z 0)) ∧ M'.1 3 8 = 0 ∧ M'.1 3 9 = -1) := by
  intro f
  induction f with
  | zero =>
    intro k q due F L M hk hL hF x e3 eL h0 h1 hd
    obtain ⟨F, rfl⟩ : ∃ G, F = G + 1 := ⟨F - 1, by omega⟩
    have h4 := tS_lt T n q
    have : k = 8 := by omega
    subst this
    rw [sX7_readFrom_7, if_pos (by decide), rdB]
    unfold sX7_readFrom_89
    rw [x.1.2.2.2.1]
    have ew : (if nI (tS T n q) = 1 then (2 : Int32) else 1) = nI (if tS T n q = 1 then 2 else 1) := by
      by_cases c : tS T n q = 1
      · rw [if_pos (show nI (tS T n q) = 1 by rw [c]; rfl), if_pos c]; rfl
      · rw [if_neg (show ¬ nI (tS T n q) = 1 from ne_nI (b := 1) c (by omega) (by omega)), if_neg c]; rfl
    obtain ⟨A, e, fA, g⟩ := x_ref (w := if tS T n q = 1 then 2 else 1) x
    rw [ew, e, Option.bind_some, ckT i0_]
    exact Or.inl ⟨_, _, A, rfl, rfl, br_r fA, g⟩
  | succ f ih =>
    intro k q due F L M hk hL hF x e3 eL h0 h1 hd
    obtain ⟨F, rfl⟩ : ∃ G, F = G + 1 := ⟨F - 1, by omega⟩
    rw [sX7_readFrom_7, if_neg (lit_nle (v := 8) (n := 8) rfl (by omega) (by decide)), rdB]
    unfold rdL
    rcases x_rd1 (k := k) (due := due) hi (by omega) x e3 h0 (fun z => by rw [eL _ (by omega), h1 z]) hd with ⟨w, p, A, r1, r2, r3, r4⟩ | ⟨q3, e, A, r1, re, r2, r3, r4, r5, r6⟩
    · rw [r1, r2, Option.bind_some]
      dsimp only
      rw [if_pos rfl]
      exact Or.inl ⟨w, p, A, rfl, rfl, r3, r4⟩
    rw [r1, r2, Option.bind_some]
    dsimp only
    rw [if_neg one_]
    have fA : Fr (pBr i) M A := Fr_mo r3 (fun id z q => by unfold pXr Fw at q; unfold pBr; omega)
    rcases x_rd2 (k := k) hi (by omega) r4 with ⟨w, p, B, s1, s2, s3, s4⟩ | ⟨q', l, B, s1, sl, s2, s3, s4, s5⟩
    · rw [s1, s2, Option.bind_some]
      dsimp only
      rw [if_pos rfl]
      exact Or.inl ⟨w, p, B, rfl, rfl, Fr_tr fA s3, s4⟩
    rw [s1, s2, Option.bind_some]
    dsimp only
    rw [if_neg one_, show nI k + 1 = nI (k + 1) by rw [nI_1]]
    obtain ⟨C, eC⟩ : ∃ C, C = sI B (38 + 2 * i) 3 (nI (k + 1)) := ⟨_, rfl⟩
    rw [← eC]
    have xC : Xs T n q' C := by rw [eC]; exact Xs_sI s4 (by omega)
    have fC : Fr (pBr i) M C := by
      rw [eC]
      exact Fr_sI (Fr_tr fA (Fr_mo s3 (fun id z q => by unfold pXr Fw at q; unfold pBr; omega))) (by unfold pBr; omega)
    have C3 : C.1 (38 + 2 * i) 3 = nI (k + 1) := by rw [eC, rdS]
    have hLl : (L ++ (due :: e :: l)).length = 6 * (k + 1) := by
      rw [List.length_append, hL, List.length_cons, List.length_cons, sl]; omega
    have CL : ∀ z, z < 6 * (k + 1) → C.1 (39 + 2 * i) z = nI ((L ++ (due :: e :: l)).getD z 0) := fun z hz => by
      rw [eC, rdN (by omega)]
      by_cases u : z < 6 * k
      · rw [(s3 _ _ (by unfold pXr Fw; omega)).1, (r3 _ _ (by unfold pXr Fw; omega)).1, eL z u, gD_ap (by omega)]
      · rw [gD_ar (by omega), hL]
        by_cases u0 : z = 6 * k
        · rw [u0, (s3 _ _ (by unfold pXr Fw; omega)).1, r5, Nat.sub_self]; rfl
        · by_cases u1 : z = 6 * k + 1
          · rw [u1, (s3 _ _ (by unfold pXr Fw; omega)).1, r6, Nat.add_sub_cancel_left]; rfl
          · obtain ⟨j, rfl⟩ : ∃ j, z = 6 * k + 2 + j := ⟨z - (6 * k + 2), by omega⟩
            rw [s5 j (by omega), show 6 * k + 2 + j - 6 * k = j + 1 + 1 by omega]
            rfl
    have h4 := tS_lt T n q'
    rw [xC.1.2.2.2.1]
    by_cases c1 : tS T n q' = 0
    · rw [if_pos c1, if_pos (show nI (tS T n q') = 0 by rw [c1]; rfl)]
      exact Or.inr ⟨_, k + 1, C, rfl, hLl, by omega, by omega, rfl, fC, C3, CL, xC.2.2.2.1, xC.2.2.2.2.1⟩
    · rw [if_neg c1, if_neg (show ¬ nI (tS T n q') = 0 from ne0_nI c1 (by omega))]
      rcases x_tsg (c := 59) xC with ⟨c3, D, e4, f4, x4⟩ | ⟨c3, D, e4, f4, g4⟩
      · have e4' : sX10_takeSign 59 C = some (1, D) := e4
        rw [if_neg (by rw [c3]; decide), e4', Option.bind_some]
        dsimp only
        have h4' := tS_lt T n (tE T n q')
        rw [if_neg one_, x4.1.2.2.2.1]
        have fD := Fr_tr fC (br_r (i := i) (xs_r f4))
        have D3 : D.1 (38 + 2 * i) 3 = nI (k + 1) := by rw [(f4 _ _ (by unfold pXs; omega)).1]; exact C3
        have DL : ∀ z, z < 6 * (k + 1) → D.1 (39 + 2 * i) z = nI ((L ++ (due :: e :: l)).getD z 0) := fun z hz => by rw [(f4 _ _ (by unfold pXs; omega)).1]; exact CL z hz
        by_cases c5 : tS T n (tE T n q') = 0
        · rw [if_pos c5, if_pos (show nI (tS T n (tE T n q')) = 0 by rw [c5]; rfl)]
          exact Or.inr ⟨_, k + 1, D, rfl, hLl, by omega, by omega, rfl, fD, D3, DL, x4.2.2.2.1, x4.2.2.2.2.1⟩
        · rw [if_neg c5, if_neg (show ¬ nI (tS T n (tE T n q')) = 0 from ne0_nI c5 (by omega))]
          have hge : (due :: e :: l).getD 1 0 = e := rfl
          rw [hge]
          rcases ih (k + 1) (tE T n q') e F (L ++ (due :: e :: l)) D (by omega) hLl (by omega) x4 D3 DL (fun z => by omega) (fun _ => by
            rw [gD_ar (by omega), hL, show 6 * (k + 1 - 1) + 1 - 6 * k = 1 by omega]
            rfl) re with ⟨w, p, E, t1, t2, t3, t4⟩ | ⟨L', m, E, t1, t2, t3, t4, t5, t6, t7⟩
          · exact Or.inl ⟨w, p, E, t1, t2, Fr_tr fD t3, t4⟩
          · exact Or.inr ⟨L', m, E, t1, t2, t3, t4, t5, Fr_tr fD t6, t7⟩
      · have e4' : sX10_takeSign 59 C = some (0, D) := e4
        rw [if_pos c3, e4', Option.bind_some]
        dsimp only
        rw [if_pos rfl]
        exact Or.inl ⟨1, _, D, rfl, rfl, Fr_tr fC (br_r f4), g4⟩
