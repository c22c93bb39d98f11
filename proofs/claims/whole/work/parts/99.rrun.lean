theorem y_jo {T : Nat → Int32} {n z q k b w : Nat} {l : Bool} {m : Mc} {K : Kr} {M : Mm} (hw : w = 14 ∨ w = 15) (y : Yq T n z q k b l false m M) (hn : mJo T n K w q k b l m ≠ none) : YV T n z K M (mJo T n K w q k b l m) (sX12_joins (nI (w - 1)) M) := by
  obtain ⟨x, h38, h56, h57, h58, ym, yi⟩ := y
  have b8 := yi.2.2.2.2.2.2
  have i6 := yi.2.2.2.2.2.1
  have hmn : mn w = w - 1 := by rcases hw with h | h <;> (subst h; rfl)
  have hwg : wgt (w - 1) = w - 13 := by rcases hw with h | h <;> (subst h; rfl)
  unfold sX12_joins mJo
  unfold mJo at hn
  rcases y_grow (x1 := nI (w - 1)) x h38 ym yi with ⟨c1, A, e1, f1, a1, a2, a3, a4, a5, a6⟩ | ⟨c1, A, e1, f1, g1⟩
  · rw [if_neg (show ¬ k = 96 by omega)] at hn ⊢
    cases hB : bnd (w - 13) m.1 m.2.1 m.2.2 with
    | none => rw [hB] at hn; exact absurd rfl hn
    | some m' =>
      rw [e1, Option.bind_some, Option.bind_some]
      dsimp only
      rw [if_pos (n0_ (by omega)), y_wt (by omega), Option.bind_some, hwg]
      dsimp only
      obtain ⟨B, e2, f2, y2, yi2⟩ := y_bind (z := z) (k := k) (b := b) (x := w - 13) (by omega) a5 yi hB
      have j3 := yi2.2.2.1
      have rB : ∀ a j, ¬ pBd z a j → B.1 a j = A.1 a j := fun a j p => (f2 a j p).1
      have hz : z ≤ k := by have := yi.2.2.2.2.1; omega
      obtain ⟨C, e3, f3, y3⟩ := y_push (w := w - 1) (a := k) (c := (w, 0, 0)) (v := nI (96 + k)) (W := m'.1) (H := m'.2.1) (O := m'.2.2) y2 (by omega) (by omega) (Or.inr ⟨rfl, (rB _ _ (by unfold pBd; omega)).trans (a2.trans (by rw [hmn])), (rB _ _ (by unfold pBd; omega)).trans a3, (rB _ _ (by unfold pBd; omega)).trans a4⟩)
      rw [e2, Option.bind_some, e3, Option.bind_some]
      have xC : Ms T n q C := Ms_fr (bd_ms a6 f2) f3 (fun id j p u => by omega)
      obtain ⟨E, e4, f4, x4⟩ := m_next (Ms_s1 (j := 58) (v := 1) xC (by omega))
      rw [e4, Option.bind_some]
      have r : ∀ j, j = 38 ∨ j = 56 ∨ j = 57 → E.1 194 j = A.1 194 j := fun j p => by
        rw [(f4 _ _ (by unfold pMt; omega)).1, rdN (by omega), (f3 _ _ (by omega)).1]
        exact rB _ _ (by unfold pBd; omega)
      refine Or.inr ⟨_, _, _, _, _, _, E, rfl, rfl, ?_, x4, (r _ (by omega)).trans a1, ?_, ?_, ?_, Ym_sm (fun a j p => by rw [(f4 _ _ (by unfold pMt; omega)).1, rdN (by omega)]) y3, yi_push yi2 c1 (by omega) (Nat.le_refl b) b8 (by omega)⟩
      · refine Fr_tr (Fr_mo f1 (fun id j p => by rcases p with p | p; exact Or.inr (Or.inl (by omega)); exact Or.inr (Or.inr (Or.inl (by omega))))) (Fr_tr (bd_mx f2) (Fr_tr (Fr_sI (Fr_mo f3 (fun id j p => by rcases p with p | p; exact Or.inr (Or.inl (by omega)); exact Or.inr (Or.inr (Or.inr (by omega))))) (Or.inr (Or.inl (by omega)))) (mt_mx f4)))
      · rw [r _ (by omega), (f1 _ _ (by omega)).1]; exact h56
      · rw [r _ (by omega), (f1 _ _ (by omega)).1]; exact h57
      · rw [(f4 _ _ (by unfold pMt; omega)).1, rdS]; rfl
  · rw [if_pos c1, e1, Option.bind_some]
    dsimp only
    rw [if_neg neg1]
    exact Or.inl ⟨_, _, A, rfl, rfl, mr_mx f1, g1⟩
theorem y_sgn {z a : Nat} {m : Mc} {M M' : Mm} (f : Fr (pSg a) M M') (y : Ym z m M) (h1 : ∀ d ∈ m.2.2, d.2.1 ≠ a) (h2 : ∀ e ∈ m.1, e.1 = 100 ∨ e.2.1 ≠ a) : Ym z m M' := by
  obtain ⟨y1, y2, y3, y4, y5, y6⟩ := y
  have r : ∀ b j, ¬ pSg a b j → M'.1 b j = M.1 b j := fun b j p => (f b j p).1
  refine ⟨(r _ _ (by unfold pSg pMr; omega)).trans y1, wW_g (L := m.1.length) (fun i _ => ⟨r _ _ (by unfold pSg pMr; omega), r _ _ (by unfold pSg pMr; omega)⟩) _ (Nat.le_refl _) (fun e he h a q => r _ _ ?_) y2, (r _ _ (by unfold pSg pMr; omega)).trans y3, hH_g (L := m.2.1.length) (fun i q => r _ _ (by unfold pSg pMr; omega)) _ (Nat.le_refl _) y4, (r _ _ (by unfold pSg pMr; omega)).trans y5, oO_g (L := z + m.2.2.length) (fun j q => r _ _ (by unfold pSg pMr; omega)) _ _ (Nat.le_refl _) (fun d hd b q => r _ _ ?_) y6⟩
  · have := h2 e he
    unfold pSg pMr; omega
  · have := h1 d hd
    unfold pSg pMr; omega
theorem y_cl {T : Nat → Int32} {n z q k b : Nat} {l : Bool} {m : Mc} {K : Kr} {M : Mm} (y : Yq T n z q k (b + 1) l false m M) (hn : mCl T n K q k (b + 1) l m ≠ none) : YV T n z K M (mCl T n K q k (b + 1) l m) (sX12_closes M) := by
  obtain ⟨x, h38, h56, h57, h58, ym, yi⟩ := y
  have hz : z ≤ k := by have := yi.2.2.2.2.1; omega
  unfold mCl at hn ⊢
  cases hB : bnd 1 m.1 m.2.1 m.2.2 with
  | none => rw [hB] at hn; exact absurd rfl hn
  | some m' =>
    obtain ⟨A, e1, f1, y1, yi1⟩ := y_bind (z := z) (k := k) (b := b + 1) (x := 1) (by omega) ym yi hB
    rw [hB] at hn
    match m', hn, y1, yi1 with
    | (e :: W, t :: H, O), _, y1, yi1 =>
      obtain ⟨i1, i2, i3, i4, i5, i6, i7⟩ := yi1
      dsimp only at i1 i2 i3 i4 i5
      rw [List.length_cons] at i3
      rw [List.length_cons] at i4
      have e1' : sX12_bind 1 M = some A := e1
      have ib := inb_nI (show W.length < 120 by omega) (by decide)
      have cl : (nI W.length).toNatClampNeg = W.length := nI_clamp (by omega)
      obtain ⟨p1, p2, p3⟩ := y_pop y1
      have a56 : (sI A 194 53 (nI W.length)).1 194 56 - 1 = nI b := by
        rw [rdN (by omega), (f1 _ _ (by unfold pBd; omega)).1, h56, nI_dn]
      have n53 : (sI (sI A 194 53 (nI W.length)) 194 56 (nI b)).1 194 53 = nI W.length := by rw [rdN (by omega), rdS]
      have rN : ∀ a j, ¬ (a = 194 ∧ j = 56) → (sI (sI A 194 53 (nI W.length)) 194 56 (nI b)).1 a j = (sI A 194 53 (nI W.length)).1 a j := fun a j p => by rw [rdN p]
      have yN : Ym z (W, t :: H, O) (sI (sI A 194 53 (nI W.length)) 194 56 (nI b)) := Ym_sm (fun a j p => rN a j (by omega)) p2
      have n219 : (sI (sI A 194 53 (nI W.length)) 194 56 (nI b)).1 219 W.length = nI e.1 := (rN _ _ (by omega)).trans p3.2.1
      have fN : Fr (pMx z) M (sI (sI A 194 53 (nI W.length)) 194 56 (nI b)) := Fr_sI (Fr_sI (bd_mx f1) (Or.inr (Or.inl (by omega)))) (Or.inr (Or.inl (by omega)))
      obtain ⟨B, e2, f2, x2⟩ := m_next (Ms_s1 (j := 56) (v := nI b) (Ms_s1 (j := 53) (v := nI W.length) (bd_ms x f1) (by omega)) (by omega))
      have rB : ∀ a j, ¬ (a = 194 ∧ 20 ≤ j ∧ j ≤ 24) → B.1 a j = (sI (sI A 194 53 (nI W.length)) 194 56 (nI b)).1 a j := fun a j p => (f2 _ _ (by unfold pMt; omega)).1
      have yB : Ym z (W, t :: H, O) B := Ym_sm (fun a j p => rB a j (by omega)) yN
      have b38 : B.1 194 38 = nI k := by rw [rB _ _ (by omega), rN _ _ (by omega), rdN (by omega), (f1 _ _ (by unfold pBd; omega)).1]; exact h38
      have b56 : B.1 194 56 = nI b := by rw [rB _ _ (by omega), rdS]
      have b57 : B.1 194 57 = b2 l := by rw [rB _ _ (by omega), rN _ _ (by omega), rdN (by omega), (f1 _ _ (by unfold pBd; omega)).1]; exact h57
      have b58 : B.1 194 58 = b2 false := by rw [rB _ _ (by omega), rN _ _ (by omega), rdN (by omega), (f1 _ _ (by unfold pBd; omega)).1]; exact h58
      have e102 : e.1 ≤ 102 := p3.1
      unfold sX12_closes
      rw [e1', Option.bind_some, p1, a56, n53, ckT ib, ckT ib, e2, Option.bind_some, cl, n219]
      dsimp only
      by_cases c100 : e.1 = 100
      · rw [if_pos c100, if_pos (show nI e.1 = 100 by rw [c100]; rfl)]
        refine Or.inr ⟨_, _, _, _, _, _, B, rfl, rfl, Fr_tr fN (mt_mx f2), x2, b38, ?_, b57, b58, yB, i1.2, i2, by dsimp only; omega, by dsimp only; rw [List.length_cons]; omega, ?_, i6, by omega⟩
        · rw [Nat.add_sub_cancel]; exact b56
        · dsimp only; rw [nW, if_pos c100] at i5; omega
      rw [if_neg c100, if_neg (show ¬ nI e.1 = 100 from ne_nI (b := 100) c100 (by omega) (by omega))]
      rcases p3.2.2 with q | ⟨q0, q1, q2, q3⟩
      · exact absurd q c100
      rcases i1.1 with q | ⟨d1, d2, d3, d4, d5⟩
      · exact absurd q c100
      rw [nW, if_neg c100] at i5
      have n220 : (sI (sI A 194 53 (nI W.length)) 194 56 (nI b)).1 220 W.length = nI (96 + e.2.1) := (rN _ _ (by omega)).trans q0
      obtain ⟨e3, y3⟩ := y_drop yB (by omega)
      have y4 := y_lnk (a := e.2.1) (v := nI (96 + t)) y3 (Or.inl rfl) d3
      have rS : ∀ a j, ¬ (a = 194 ∧ (j = 55 ∨ j = 57)) → ¬ (a = 216 ∧ j = 96 + e.2.1) → (sI (sI (sI B 194 55 (nI H.length)) 216 (96 + e.2.1) (nI (96 + t))) 194 57 0).1 a j = B.1 a j := fun a j h1 h2 => by rw [rdN (by omega), rdN h2, rdN (by omega)]
      have y5 : Ym z (W, H, O) (sI (sI (sI B 194 55 (nI H.length)) 216 (96 + e.2.1) (nI (96 + t))) 194 57 0) := Ym_sm (fun a j p => by rw [rdN (by omega)]) y4
      have x5 : Ms T n (tE T n q) (sI (sI (sI B 194 55 (nI H.length)) 216 (96 + e.2.1) (nI (96 + t))) 194 57 0) := Ms_s1 (Ms_sI (Ms_s1 x2 (by omega)) (by omega)) (by omega)
      have f5 : Fr (pMx z) M (sI (sI (sI B 194 55 (nI H.length)) 216 (96 + e.2.1) (nI (96 + t))) 194 57 0) := Fr_sI (Fr_sI (Fr_sI (Fr_tr fN (mt_mx f2)) (Or.inr (Or.inl (by omega)))) (Or.inr (Or.inr (Or.inl (by omega))))) (Or.inr (Or.inl (by omega)))
      have s3 : ∀ a, 213 ≤ a ∧ a ≤ 215 → (sI (sI (sI B 194 55 (nI H.length)) 216 (96 + e.2.1) (nI (96 + t))) 194 57 0).1 a (96 + e.2.1) = (sI A 194 53 (nI W.length)).1 a (96 + e.2.1) := fun a h => by rw [rS _ _ (by omega) (by omega), rB _ _ (by omega), rN _ _ (by omega)]
      have s6 : (sI (sI (sI B 194 55 (nI H.length)) 216 (96 + e.2.1) (nI (96 + t))) 194 57 0).1 216 (96 + e.2.1) = nI (96 + t) := by rw [rdN (by omega), rdS]
      have s38 : (sI (sI (sI B 194 55 (nI H.length)) 216 (96 + e.2.1) (nI (96 + t))) 194 57 0).1 194 38 = nI k := by rw [rS _ _ (by omega) (by omega)]; exact b38
      have s56 : (sI (sI (sI B 194 55 (nI H.length)) 216 (96 + e.2.1) (nI (96 + t))) 194 57 0).1 194 56 = nI b := by rw [rS _ _ (by omega) (by omega)]; exact b56
      have s57 : (sI (sI (sI B 194 55 (nI H.length)) 216 (96 + e.2.1) (nI (96 + t))) 194 57 0).1 194 57 = b2 false := rdS _ _ _ _
      have s58 : (sI (sI (sI B 194 55 (nI H.length)) 216 (96 + e.2.1) (nI (96 + t))) 194 57 0).1 194 58 = b2 false := by rw [rS _ _ (by omega) (by omega)]; exact b58
      have c14 : e.1 ≠ 13 ∧ e.1 ≠ 14 := by
        have t1 : wgt e.1 < 1 := by
          have : ∀ (W' : List Wt) (H' : List Nat) (O' : List Nd), bnd 1 W' H' O' = some (e :: W, t :: H, O) → wgt e.1 < 1 := by
            intro W'
            induction W' with
            | nil => intro H' O' h; cases h
            | cons e' W' ih =>
              intro H' O' h
              rw [bnd] at h
              by_cases u : wgt e'.1 < 1
              · rw [if_pos u] at h; cases h; exact u
              · rw [if_neg u] at h
                by_cases v : e'.1 = 15
                · rw [if_pos v] at h
                  match H', h with
                  | s :: H', h => exact ih _ _ h
                  | [], h => cases h
                · rw [if_neg v] at h
                  match H', h with
                  | s :: r :: H', h => exact ih _ _ h
                  | [], h => cases h
                  | [_], h => cases h
          exact this _ _ _ hB
        constructor
        · intro u; rw [u] at t1; exact absurd t1 (by decide)
        · intro u; rw [u] at t1; exact absurd t1 (by decide)
      have yiF : ∀ d : Nd, d.2.1 = e.2.1 → Yi z k b (W, e.2.1 :: H, O ++ [d]) := fun d hd => by
        refine ⟨dW_up W (fun e' he => by rw [hd]; exact d4 e' he) i1.2, fun d' hd' => ?_, by dsimp only; omega, ?_, ?_, i6, by omega⟩
        · rcases List.mem_append.mp hd' with v | v
          · exact i2 d' v
          · rcases List.mem_singleton.mp v with rfl
            omega
        · dsimp only
          rw [List.length_cons, List.length_append, List.length_singleton]; omega
        · dsimp only
          rw [List.length_append, List.length_singleton]; omega
      have fin : ∀ (c : Cd) (q' : Nat) (G : Mm), c.1 = e.2.2.1 → Ms T n q' G → Fr (pMx z) M G → Ym z (W, H, O) G → G.1 213 (96 + e.2.1) = nI (mn c.1) → G.1 214 (96 + e.2.1) = nI c.2.1 → G.1 215 (96 + e.2.1) = nI c.2.2 → G.1 216 (96 + e.2.1) = nI (96 + t) → G.1 194 38 = nI k → G.1 194 56 = nI b → G.1 194 57 = b2 false → G.1 194 58 = b2 false → YV T n z K M (K q' k (b + 1 - 1) false false (W, e.2.1 :: H, O ++ [(c, e.2.1, t, 0)])) (sX12_closes_88 (nI (96 + e.2.1)) G) := fun c q' G hc xg fg yg g3 g4 g5 g6 g38 g56 g57 g58 => by
        obtain ⟨E, e6, f6, y6⟩ := y_done (d := (c, e.2.1, t, 0)) yg ⟨g3, g4, g5, fun u => by dsimp only at u; omega, fun _ => g6⟩ (by omega) (by omega)
        have e6' : sX12_done (nI (96 + e.2.1)) G = some E := e6
        unfold sX12_closes_88
        rw [e6', Option.bind_some, Nat.add_sub_cancel]
        have rE : ∀ j, j = 38 ∨ j = 56 ∨ j = 57 ∨ j = 58 → E.1 194 j = G.1 194 j := fun j p => (f6 _ _ (by unfold pBd; omega)).1
        exact Or.inr ⟨_, _, _, _, _, _, E, rfl, rfl, Fr_tr fg (bd_mx f6), bd_ms xg f6, (rE _ (by omega)).trans g38, (rE _ (by omega)).trans g56, (rE _ (by omega)).trans g57, (rE _ (by omega)).trans g58, y6, yiF _ rfl⟩
      rw [e3, Option.bind_some, n220, ckT (inb_nI (show 96 + e.2.1 < 192 by omega) (by decide)), nI_clamp (show 96 + e.2.1 < 2 ^ 31 by omega)]
      dsimp only
      by_cases c102 : e.1 = 102
      · rw [if_pos c102, if_pos (show nI e.1 = 102 by rw [c102]; rfl)]
        rcases y_cmp x5 (show e.2.1 < 96 by omega) with ⟨w, p, G, r1, r2, r3, r4⟩ | ⟨d, G, r1, r2, r3, r4, r5, r6⟩
        · rw [r1, r2, Option.bind_some]
          dsimp only
          rw [if_pos rfl]
          refine Or.inl ⟨w, p, G, rfl, rfl, Fr_tr f5 (Fr_mo r3 (fun id j p => ?_)), r4⟩
          rcases p with p | p
          · exact Or.inl p
          · exact Or.inr (Or.inr (Or.inl (by omega)))
        · rw [r1, r2, Option.bind_some]
          dsimp only [oB]
          rw [if_neg (show ¬ (1 : Int32) = 0 by decide)]
          have rG : ∀ a j, ¬ pSg e.2.1 a j → G.1 a j = _ := fun a j p => (r3 a j p).1
          exact fin (e.2.2.1, d.2.1, d.2.2) d.1 G rfl r4 (Fr_tr f5 (Fr_mo r3 (fun id j p => by
            rcases p with p | p
            · exact Or.inl p
            · exact Or.inr (Or.inr (Or.inl (by omega)))))) (y_sgn r3 y5 d3 d4) ((rG _ _ (by unfold pSg pMr; omega)).trans ((s3 _ (by omega)).trans q1)) r5 r6 ((rG _ _ (by unfold pSg pMr; omega)).trans s6) ((rG _ _ (by unfold pSg pMr; omega)).trans s38) ((rG _ _ (by unfold pSg pMr; omega)).trans s56) ((rG _ _ (by unfold pSg pMr; omega)).trans s57) ((rG _ _ (by unfold pSg pMr; omega)).trans s58)
      · rw [if_neg c102, if_neg (show ¬ nI e.1 = 102 from ne_nI (b := 102) c102 (by omega) (by omega))]
        exact fin e.2.2 (tE T n q) _ rfl x5 f5 y5 ((s3 _ (by omega)).trans q1) ((s3 _ (by omega)).trans q2) ((s3 _ (by omega)).trans q3) s6 s38 s56 s57 s58
    | ([], _, _), hn, _, _ => exact absurd rfl hn
    | (_ :: _, [], _), hn, _, _ => exact absurd rfl hn
