/-- which comparison stands here: 1..5, or 0 -/
def sgT (T : Nat → Int32) (n q : Nat) : Nat := if sgB T n q 60 = true then 1 else if sgB T n q 61 = true then 3 else if sgB T n q 62 = true then 5 else if sgB T n q 316 = true then 2 else if sgB T n q 318 = true then 4 else 0
/-- a comparison with a number -/
def rdC (T : Nat → Int32) (n q : Nat) : Rs (Nat × Nat × Nat) :=
  if sgT T n q = 0 then .inl (1, tA T n q) else if nmF T n (tE T n q) 999 ≠ 0 then .inl (nmF T n (tE T n q) 999, tA T n (tE T n q)) else .inr (tE T n (tE T n q), sgT T n q, tN T n (tE T n q))
theorem sg_v {T : Nat → Int32} {n q c : Nat} (h : sgB T n q c = true) : xV T n q = nI c := by
  unfold sgB at h
  rw [Bool.and_eq_true] at h
  exact of_decide_eq_true h.2
theorem sg_s {T : Nat → Int32} {n q c : Nat} (h : sgB T n q c = true) : tS T n q = 3 := by
  unfold sgB at h
  rw [Bool.and_eq_true] at h
  exact of_decide_eq_true h.1
theorem sgT_5 (T : Nat → Int32) (n q : Nat) : sgT T n q ≤ 5 := by
  unfold sgT
  split
  · omega
  split
  · omega
  split
  · omega
  split
  · omega
  split <;> omega
theorem x_cmpR {kq : Nat × Nat} {T : Nat → Int32} {n q p wd : Nat} {cs : List Cd} {M : Mm} (hr : kq.2 = 6 ∨ kq.2 = 14) (x : Xs T n q M) (h3 : M.1 kq.2 3 = nI (p + cs.length)) (hz : p + cs.length < 96) (h : xCs kq.2 M p cs) (hw : wd < 24) :
    (∃ w a M', rdC T n q = .inl (w, a) ∧ sX5_readCompare kq (nI wd) M = some (0, M') ∧ Fr (pKx kq.2) M M' ∧ Xf w a M') ∨
    (∃ q' s a M', rdC T n q = .inr (q', s, a) ∧ sX5_readCompare kq (nI wd) M = some (1, M') ∧ Fr (fun id k => pXr id k ∨ kq.2 + 1 ≤ id ∧ id ≤ kq.2 + 3 ∧ p + cs.length ≤ k ∨ id = kq.2 ∧ k = 3) M M' ∧ Xs T n q' M' ∧ M'.1 kq.2 3 = nI (p + (cs ++ [(wd, s, a)]).length) ∧ xCs kq.2 M' p (cs ++ [(wd, s, a)])) := by
  have one : ¬ (1 : Int32) = 0 := by decide
  have e60 : sX10_isSign 60 M = some (b2 (sgB T n q 60), M) := x_isSg (c := 60) x.1
  have e61 : sX10_isSign 61 M = some (b2 (sgB T n q 61), M) := x_isSg (c := 61) x.1
  have e62 : sX10_isSign 62 M = some (b2 (sgB T n q 62), M) := x_isSg (c := 62) x.1
  have e16 : sX10_isSign 316 M = some (b2 (sgB T n q 316), M) := x_isSg (c := 316) x.1
  have e18 : sX10_isSign 318 M = some (b2 (sgB T n q 318), M) := x_isSg (c := 318) x.1
  have go : ∀ s : Nat, sgT T n q = s → 1 ≤ s → s ≤ 5 → M.1 3 6 = sgx s → sX5_readCompare kq (nI wd) M = sX5_readCompare_89 kq (nI wd) (M.1 3 6) M → (∃ w a M', rdC T n q = .inl (w, a) ∧ sX5_readCompare kq (nI wd) M = some (0, M') ∧ Fr (pKx kq.2) M M' ∧ Xf w a M') ∨
    (∃ q' s a M', rdC T n q = .inr (q', s, a) ∧ sX5_readCompare kq (nI wd) M = some (1, M') ∧ Fr (fun id k => pXr id k ∨ kq.2 + 1 ≤ id ∧ id ≤ kq.2 + 3 ∧ p + cs.length ≤ k ∨ id = kq.2 ∧ k = 3) M M' ∧ Xs T n q' M' ∧ M'.1 kq.2 3 = nI (p + (cs ++ [(wd, s, a)]).length) ∧ xCs kq.2 M' p (cs ++ [(wd, s, a)])) := fun s hs h1 h5 hv he => by
    rw [he]
    unfold rdC sX5_readCompare_89
    rw [if_neg (show ¬ sgT T n q = 0 by omega), hs, hv]
    obtain ⟨B, e1, f1, x1⟩ := x_next x
    rw [e1, Option.bind_some]
    have fx : ∀ {X Y : Mm}, Fr pXr X Y → Fr (pKx kq.2) X Y := fun {X Y} f => Fr_mo f (fun _ _ q => Or.inl q)
    rcases x_nto (m := 999) x1 (by omega) with ⟨c1, e2, v1, l1⟩ | ⟨c1, A, e2, f2, g2⟩
    · have e2' : sX10_isNumberTo 999 B = some (1, B) := e2
      have b3 : B.1 kq.2 3 = nI (p + cs.length) := (f1 _ _ (by unfold pXs; omega)).1.trans h3
      have bc : xCs kq.2 B p cs := xCs_sm (fun a k z => (f1 a k (by unfold pXs; omega)).1) _ _ h
      rw [if_neg (fun z => z c1), e2', Option.bind_some]
      dsimp only
      obtain ⟨C, e3, f3, g3, k3⟩ := x_emit (c := (wd, s, tN T n (tE T n q))) b3 hz bc ⟨hw, h5, l1⟩ (fun _ => h1)
      have e3' : sX4_emit kq.2 (nI wd) (sgx s) (nI (tN T n (tE T n q))) B = some C := e3
      rw [if_neg one, v1, e3', Option.bind_some]
      have xC : Xs T n (tE T n q) C := Xs_fr x1 f3 (fun id k z w => by omega)
      obtain ⟨E, e4, f4, x4⟩ := x_next xC
      rw [e4, Option.bind_some]
      refine Or.inr ⟨_, _, _, E, rfl, rfl, ?_, x4, (f4 _ _ (by unfold pXs; omega)).1.trans g3, xCs_sm (fun a k z => (f4 a k (by unfold pXs; omega)).1) _ _ k3⟩
      exact Fr_tr (Fr_mo (xs_r f1) (fun _ _ q => Or.inl q)) (Fr_tr (Fr_mo f3 (fun _ _ q => Or.inr q)) (Fr_mo (xs_r f4) (fun _ _ q => Or.inl q)))
    · have e2' : sX10_isNumberTo 999 B = some (0, A) := e2
      rw [if_pos c1, e2', Option.bind_some]
      exact Or.inl ⟨_, _, A, rfl, rfl, fx (Fr_tr (xs_r f1) f2), g2⟩
  have v6 : ∀ {c : Nat}, sgB T n q c = true → M.1 3 6 = nI c := fun {c} hc => (x.1.2.2.2.2.1 (by rw [sg_s hc]; omega)).trans (sg_v hc)
  by_cases d1 : sgB T n q 60 = true
  · exact go 1 (by unfold sgT; rw [if_pos d1]) (by omega) (by omega) (v6 d1) (by unfold sX5_readCompare sX5_readCompare_44 sX5_readCompare_49; rw [e60, d1, Option.bind_some]; dsimp only; rw [if_neg b2t0, if_neg one])
  have d1' := Bool.eq_false_iff.mpr d1
  by_cases d2 : sgB T n q 61 = true
  · exact go 3 (by unfold sgT; rw [if_neg d1, if_pos d2]) (by omega) (by omega) (v6 d2) (by unfold sX5_readCompare sX5_readCompare_44 sX5_readCompare_49; rw [e60, d1', Option.bind_some]; dsimp only; rw [if_pos b2f, e61, d2, Option.bind_some]; dsimp only; rw [if_neg b2t0, if_neg one])
  have d2' := Bool.eq_false_iff.mpr d2
  by_cases d3 : sgB T n q 62 = true
  · exact go 5 (by unfold sgT; rw [if_neg d1, if_neg d2, if_pos d3]) (by omega) (by omega) (v6 d3) (by unfold sX5_readCompare sX5_readCompare_44 sX5_readCompare_49; rw [e60, d1', Option.bind_some]; dsimp only; rw [if_pos b2f, e61, d2', Option.bind_some]; dsimp only; rw [if_pos b2f, e62, d3, Option.bind_some]; dsimp only; rw [if_neg b2t0, if_neg one])
  have d3' := Bool.eq_false_iff.mpr d3
  have u : sX5_readCompare kq (nI wd) M = sX5_readCompare_49 kq (nI wd) (M.1 3 6) 0 M := by
    unfold sX5_readCompare
    rw [e60, d1', Option.bind_some]; dsimp only; rw [if_pos b2f, e61, d2', Option.bind_some]; dsimp only; rw [if_pos b2f, e62, d3', Option.bind_some]; dsimp only; rw [if_pos b2f]
  by_cases d4 : sgB T n q 316 = true
  · exact go 2 (by unfold sgT; rw [if_neg d1, if_neg d2, if_neg d3, if_pos d4]) (by omega) (by omega) (v6 d4) (by rw [u]; unfold sX5_readCompare_49; rw [if_pos rfl, e16, d4, Option.bind_some]; dsimp only; rw [if_neg b2t0])
  have d4' := Bool.eq_false_iff.mpr d4
  by_cases d5 : sgB T n q 318 = true
  · exact go 4 (by unfold sgT; rw [if_neg d1, if_neg d2, if_neg d3, if_neg d4, if_pos d5]) (by omega) (by omega) (v6 d5) (by rw [u]; unfold sX5_readCompare_49; rw [if_pos rfl, e16, d4', Option.bind_some]; dsimp only; rw [if_pos b2f, e18, d5, Option.bind_some]; dsimp only; rw [if_neg b2t0])
  have d5' := Bool.eq_false_iff.mpr d5
  obtain ⟨B, e, f, y⟩ := x_ref (w := 1) x
  have e' : sX10_refuse 1 M = some (0, B) := e
  refine Or.inl ⟨1, tA T n q, B, ?_, ?_, Fr_mo f (fun _ _ q => Or.inl q), y⟩
  · unfold rdC
    rw [if_pos (by unfold sgT; rw [if_neg d1, if_neg d2, if_neg d3, if_neg d4, if_neg d5])]
  · rw [u]
    unfold sX5_readCompare_49
    rw [if_pos rfl, e16, d4', Option.bind_some]; dsimp only; rw [if_pos b2f, e18, d5', Option.bind_some]; dsimp only; rw [if_pos b2f, e', Option.bind_some]
    rfl
