def YV (T : Nat → Int32) (n z : Nat) (K : Kr) (M : Mm) (Rv : Option (Rs (Nat × Nat × Mc))) (res : Option (Int32 × Mm)) : Prop :=
  (∃ w a M', Rv = some (.inl (w, a)) ∧ res = some (0, M') ∧ Fr (pMx z) M M' ∧ Mf w a M') ∨
  (∃ q k b l v m M', Rv = K q k b l v m ∧ res = some (1, M') ∧ Fr (pMx z) M M' ∧ Yq T n z q k b l v m M')
theorem YV_fr {T : Nat → Int32} {n z : Nat} {K : Kr} {M M1 : Mm} {Rv : Option (Rs (Nat × Nat × Mc))} {res : Option (Int32 × Mm)} (f : Fr (pMx z) M M1) (h : YV T n z K M1 Rv res) : YV T n z K M Rv res := by
  rcases h with ⟨w, a, B, r1, r2, r3, r4⟩ | ⟨q, k, b, l, v, m, B, r1, r2, r3, r4⟩
  · exact Or.inl ⟨w, a, B, r1, r2, Fr_tr f r3, r4⟩
  · exact Or.inr ⟨q, k, b, l, v, m, B, r1, r2, Fr_tr f r3, r4⟩
theorem y_wr {T : Nat → Int32} {n z q w : Nat} {K : Kr} {M : Mm} (x : Ms T n q M) : YV T n z K M (some (.inl (w, tA T n q))) ((sX12_wrong (nI w) M).bind fun (q11 : Int32 × Mm) => ck (isb q11.1) (some (q11.1, q11.2))) := by
  obtain ⟨A, e1, f1, g1⟩ := m_wr (w := w) x
  rw [e1, Option.bind_some, ckT i0_]
  exact Or.inl ⟨w, _, A, rfl, rfl, mr_mx f1, g1⟩
theorem y_opn {T : Nat → Int32} {n z q b w a : Nat} {c : Cd} {v : Int32} {W : List Wt} {H : List Nat} {O : List Nd} {M : Mm} (x : Ms T n q M) (hb : M.1 194 56 = nI b) (hb8 : b ≤ 8) (y : Ym z (W, H, O) M) (hl : W.length < 120) (hw : w ≤ 102) (hv : w = 100 ∨ v = nI (96 + a) ∧ M.1 213 (96 + a) = nI (mn c.1) ∧ M.1 214 (96 + a) = nI c.2.1 ∧ M.1 215 (96 + a) = nI c.2.2) :
    (b = 8 ∧ ∃ M', sX12_opens (nI w) v M = some (0, M') ∧ Fr pMr M M' ∧ Mf 2 (tA T n q) M') ∨
    (b < 8 ∧ ∃ M', sX12_opens (nI w) v M = some (1, M') ∧ Fr (fun id k => pMr id k ∨ id = 194 ∧ (k = 53 ∨ k = 56) ∨ id = 219 ∨ id = 220) M M' ∧ Ms T n (tE T n q) M' ∧ M'.1 194 56 = nI (b + 1) ∧ Ym z ((w, a, c) :: W, H, O) M') := by
  unfold sX12_opens
  rw [hb]
  by_cases c8 : b = 8
  · obtain ⟨A, e1, f1, g1⟩ := m_wr (w := 2) x
    have e1' : sX12_wrong 2 M = some (0, A) := e1
    refine Or.inl ⟨c8, A, ?_, f1, g1⟩
    rw [if_pos (show nI b = 8 by rw [c8]; rfl), e1', Option.bind_some, ckT i0_]
  · rw [if_neg (show ¬ nI b = 8 from ne_nI (b := 8) c8 (by omega) (by omega)), nI_1]
    have f0 : Fr (fun id k => id = 194 ∧ k = 56) M (sI M 194 56 (nI (b + 1))) := Fr_sI (Fr_rf _ _) ⟨rfl, rfl⟩
    have r : ∀ a j, ¬ (a = 194 ∧ j = 56) → (sI M 194 56 (nI (b + 1))).1 a j = M.1 a j := fun a j h => (f0 a j h).1
    have y0 : Ym z (W, H, O) (sI M 194 56 (nI (b + 1))) := Ym_sm (fun a j p => r a j (by omega)) y
    obtain ⟨A, e1, f1, y1⟩ := y_push (w := w) (a := a) (c := c) (v := v) y0 hl hw (by
      rcases hv with p | ⟨p1, p2, p3, p4⟩
      · exact Or.inl p
      · exact Or.inr ⟨p1, (r _ _ (by omega)).trans p2, (r _ _ (by omega)).trans p3, (r _ _ (by omega)).trans p4⟩)
    have xA : Ms T n q A := Ms_fr (Ms_s1 x (by omega)) f1 (fun id k p u => by omega)
    obtain ⟨B, e2, f2, x2⟩ := m_next xA
    refine Or.inr ⟨by omega, B, ?_, ?_, x2, ?_, ?_⟩
    · rw [e1, Option.bind_some, e2, Option.bind_some]
    · refine Fr_tr (Fr_mo f0 (fun id k p => Or.inr (Or.inl (by omega)))) (Fr_tr (Fr_mo f1 (fun id k p => by omega)) (Fr_mo (mt_r f2) (fun id k p => Or.inl p)))
    · rw [(f2 _ _ (by unfold pMt; omega)).1, (f1 _ _ (by omega)).1, rdS]
    · exact Ym_sm (fun a j p => (f2 _ _ (by unfold pMt; omega)).1) y1
/-- a node has grown, and its word is taken -/
def Yg (T : Nat → Int32) (n z q k b : Nat) (l : Bool) (c : Cd) (m : Mc) (M : Mm) : Prop := Ms T n q M ∧ M.1 194 38 = nI (k + 1) ∧ M.1 194 56 = nI b ∧ M.1 194 57 = b2 l ∧ M.1 194 58 = 1 ∧ Ym z m M ∧ M.1 213 (96 + k) = nI (mn c.1) ∧ M.1 214 (96 + k) = nI c.2.1 ∧ M.1 215 (96 + k) = nI c.2.2
theorem y_g {T : Nat → Int32} {n z q k b i : Nat} {l : Bool} {m : Mc} {M : Mm} (y : Yq T n z q k b l true m M) :
    (k < 96 ∧ ∃ M1 M2, sX12_grown (nI (prm i)) M = some (nI (96 + k), M1) ∧ sX12_take M1 = some M2 ∧ Fr (pMx z) M M2 ∧ Yg T n z (tE T n q) k b l (i, 0, 0) m M2) ∨
    (k = 96 ∧ ∃ M', sX12_grown (nI (prm i)) M = some (-1, M') ∧ Fr (pMx z) M M' ∧ Mf 2 (tA T n q) M') := by
  obtain ⟨x, h38, h56, h57, h58, ym, yi⟩ := y
  rcases y_grow (x1 := nI (prm i)) x h38 ym yi with ⟨c1, A, e1, f1, a1, a2, a3, a4, a5, a6⟩ | ⟨c1, A, e1, f1, g1⟩
  · obtain ⟨B, e2, f2, x2⟩ := m_next a6
    have r : ∀ a j, ¬ (a = 194 ∧ 20 ≤ j ∧ j ≤ 24) → B.1 a j = A.1 a j := fun a j p => (f2 _ _ (by unfold pMt; omega)).1
    have hz : z ≤ k := by have := yi.2.2.2.2.1; omega
    refine Or.inl ⟨c1, A, B, e1, e2, Fr_tr (Fr_mo f1 (fun id j p => by rcases p with p | p; exact Or.inr (Or.inl (by omega)); exact Or.inr (Or.inr (Or.inl (by omega))))) (mt_mx f2), x2, (r _ _ (by omega)).trans a1, ?_, ?_, ?_, Ym_sm (fun a j p => r _ _ (by omega)) a5, (r _ _ (by omega)).trans a2, (r _ _ (by omega)).trans a3, (r _ _ (by omega)).trans a4⟩
    · rw [r _ _ (by omega), (f1 _ _ (by omega)).1]; exact h56
    · rw [r _ _ (by omega), (f1 _ _ (by omega)).1]; exact h57
    · rw [r _ _ (by omega), (f1 _ _ (by omega)).1]; exact h58
  · exact Or.inr ⟨c1, A, e1, mr_mx f1, g1⟩
theorem y_254 {T : Nat → Int32} {n z q k b : Nat} {l : Bool} {c : Cd} {m : Mc} {K : Kr} {M : Mm} (g : Yg T n z q k b l c m M) (i : Yi z k b m) (hk : k < 96) (hc : c.1 ≤ 13 ∨ c.1 = 17 ∨ c.1 = 23) : YV T n z K M (mDn K l c q k b m) (sX12_valueRead_254 (nI (96 + k)) M) := by
  obtain ⟨x, g38, g56, g57, g58, ym, g3, g4, g5⟩ := g
  have i4 := i.2.2.2.1
  have i5 := i.2.2.2.2.1
  obtain ⟨A, e1, f1, y1⟩ := y_done (d := (c, k, 0, 0)) (W := m.1) (H := m.2.1) (O := m.2.2) ym ⟨g3, g4, g5, fun p => by dsimp only at p; omega, fun p => by dsimp only at p; omega⟩ (by omega) (by omega)
  have e1' : sX12_done (nI (96 + k)) M = some A := e1
  unfold sX12_valueRead_254
  rw [e1', Option.bind_some]
  have r : ∀ j, j = 38 ∨ j = 56 ∨ j = 57 → (sI A 194 58 0).1 194 j = M.1 194 j := fun j p => by rw [rdN (by omega)]; exact (f1 _ _ (by unfold pBd; omega)).1
  refine Or.inr ⟨q, k + 1, b, l, false, _, _, rfl, rfl, Fr_sI (bd_mx f1) (Or.inr (Or.inl (by omega))), Ms_s1 (bd_ms x f1) (by omega), (r _ (by omega)).trans g38, (r _ (by omega)).trans g56, (r _ (by omega)).trans g57, rdS _ _ _ _, Ym_sm (fun a j p => by rw [rdN (by omega)]) y1, yi_leaf i hk rfl⟩
theorem y_244 {T : Nat → Int32} {n z q k b : Nat} {l : Bool} {c : Cd} {m : Mc} {K : Kr} {M : Mm} (g : Yg T n z q k b l c m M) (i : Yi z k b m) (hk : k < 96) (hc : c.1 ≤ 13 ∨ c.1 = 17 ∨ c.1 = 23) : YV T n z K M (oB (rdC T n q) (fun d => mDn K l (c.1, d.2.1, d.2.2) d.1 k b m)) (sX12_valueRead_244 (nI (96 + k)) M) := by
  obtain ⟨x, g38, g56, g57, g58, ym, g3, g4, g5⟩ := g
  have hz : z ≤ k := by have := i.2.2.2.2.1; omega
  have fx : ∀ {A : Mm}, Fr (pSg k) M A → Fr (pMx z) M A := fun {A} f => Fr_mo f (fun id j p => by
    rcases p with p | p
    · exact Or.inl p
    · exact Or.inr (Or.inr (Or.inl (by omega))))
  unfold sX12_valueRead_244
  rcases y_cmp x hk with ⟨w, p, A, r1, r2, r3, r4⟩ | ⟨d, A, r1, r2, r3, r4, r5, r6⟩
  · rw [r1, r2, Option.bind_some]
    dsimp only
    rw [if_pos rfl]
    exact Or.inl ⟨w, p, A, rfl, rfl, fx r3, r4⟩
  · rw [r1, r2, Option.bind_some]
    dsimp only [oB]
    rw [if_neg (show ¬ (1 : Int32) = 0 by decide)]
    have r : ∀ a j, ¬ pSg k a j → A.1 a j = M.1 a j := fun a j p => (r3 a j p).1
    refine YV_fr (fx r3) (y_254 (c := (c.1, d.2.1, d.2.2)) ⟨r4, (r _ _ (by unfold pSg pMr; omega)).trans g38, (r _ _ (by unfold pSg pMr; omega)).trans g56, (r _ _ (by unfold pSg pMr; omega)).trans g57, (r _ _ (by unfold pSg pMr; omega)).trans g58, Ym_k i (fun a j p => r _ _ (by unfold pSg pMr; omega)) ym, (r _ _ (by unfold pSg pMr; omega)).trans g3, r5, r6⟩ i hk hc)
theorem y_210 {T : Nat → Int32} {n z q k b w : Nat} {c : Cd} {m : Mc} {K : Kr} {M : Mm} (g : Yg T n z q k b false c m M) (i : Yi z k b m) (hk : k < 96) (hw : w = 101 ∨ w = 102) (hc : c.1 ≠ 14 ∧ c.1 ≠ 15) (hs : sgB T n q 40 = true) : YV T n z K M (mOp T n K w c q k b m) (sX12_valueRead_210 (nI (96 + k)) (nI w) M) := by
  obtain ⟨x, g38, g56, g57, g58, ym, g3, g4, g5⟩ := g
  have i3 := i.2.2.1
  have b8 := i.2.2.2.2.2.2
  unfold sX12_valueRead_210 mOp
  rw [if_neg (show ¬ sgB T n q 40 = false by rw [hs]; decide)]
  rcases y_opn (w := w) (a := k) (c := c) (v := nI (96 + k)) (W := m.1) (H := m.2.1) (O := m.2.2) x g56 b8 ym (by omega) (by omega) (Or.inr ⟨rfl, g3, g4, g5⟩) with ⟨c8, A, r1, r2, r3⟩ | ⟨c8, A, r1, r2, r3, r4, r5⟩
  · rw [if_pos c8, r1, Option.bind_some]
    dsimp only
    rw [if_pos rfl]
    exact Or.inl ⟨2, _, A, rfl, rfl, mr_mx r2, r3⟩
  · rw [if_neg (by omega), r1, Option.bind_some]
    dsimp only
    rw [if_neg (show ¬ (1 : Int32) = 0 by decide)]
    have r : ∀ j, j = 38 ∨ j = 58 → (sI A 194 57 1).1 194 j = M.1 194 j := fun j p => by rw [rdN (by omega)]; exact (r2 _ _ (by unfold pMr; omega)).1
    refine Or.inr ⟨_, _, _, _, _, _, _, rfl, rfl, ?_, Ms_s1 r3 (by omega), (r _ (by omega)).trans g38, ?_, rdS _ _ _ _, (r _ (by omega)).trans g58, Ym_sm (fun a j p => by rw [rdN (by omega)]) r5, yi_push i hk (by omega) (Nat.le_succ b) (by omega) (Or.inr (Or.inr hc))⟩
    · refine Fr_sI (Fr_mo r2 (fun id j p => ?_)) (Or.inr (Or.inl (by omega)))
      rcases p with p | p | p
      · exact Or.inl p
      · exact Or.inr (Or.inl (by omega))
      · exact Or.inr (Or.inr (Or.inr (by omega)))
    · rw [rdN (by omega)]; exact r4
theorem y_175 {T : Nat → Int32} {n z q k b p : Nat} {c : Cd} {m : Mc} {K : Kr} {M : Mm} (g : Yg T n z q k b false c m M) (i : Yi z k b m) (hk : k < 96) (hp : p < 24) (hc : c.1 ≠ 14 ∧ c.1 ≠ 15) : YV T n z K M (mOp T n K (if p = 20 ∨ p = 21 then 102 else 101) c q k b m) (sX12_valueRead_175 (nI p) (nI (96 + k)) M) := by
  have x := g.1
  have e40 : sX12_isSign 40 M = some (b2 (sgB T n q 40), M) := m_isSg (c := 40) x.2.2.2.2.2.1 x.2.2.2.2.2.2 x.1 (by omega)
  unfold sX12_valueRead_175
  rw [e40, Option.bind_some]
  dsimp only
  by_cases hs : sgB T n q 40 = true
  · rw [if_neg (show ¬ b2 (sgB T n q 40) = 0 by rw [hs]; exact b2t0)]
    unfold sX12_valueRead_203
    by_cases p1 : p = 20
    · subst p1
      rw [if_pos (show nI 20 = 20 from rfl), if_pos (Or.inl rfl)]
      exact y_210 (w := 102) g i hk (by omega) hc hs
    rw [if_neg (show ¬ nI p = 20 from ne_nI (b := 20) p1 (by omega) (by omega))]
    by_cases p2 : p = 21
    · subst p2
      rw [if_pos (show nI 21 = 21 from rfl), if_pos (Or.inr rfl)]
      exact y_210 (w := 102) g i hk (by omega) hc hs
    rw [if_neg (show ¬ nI p = 21 from ne_nI (b := 21) p2 (by omega) (by omega)), if_neg (by omega)]
    exact y_210 (w := 101) g i hk (by omega) hc hs
  · have hs' := Bool.eq_false_iff.mpr hs
    unfold mOp
    rw [hs', if_pos b2f, if_pos rfl]
    exact y_wr (w := 1) x
