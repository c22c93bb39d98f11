theorem y_wt {w : Nat} {M : Mm} (h : w ≤ 102) : sX12_weight (nI w) M = some (nI (wgt w), M) := by
  unfold sX12_weight wgt
  by_cases h1 : w = 15
  · subst h1; rw [if_pos (show nI 15 = 15 from rfl), if_pos rfl]; rfl
  by_cases h2 : w = 14
  · subst h2; rw [if_neg (show ¬ nI 14 = 15 by decide), if_pos (show nI 14 = 14 from rfl), if_neg h1, if_pos rfl]; rfl
  by_cases h3 : w = 13
  · subst h3; rw [if_neg (show ¬ nI 13 = 15 by decide), if_neg (show ¬ nI 13 = 14 by decide), if_pos (show nI 13 = 13 from rfl), if_neg h1, if_neg h2, if_pos rfl]; rfl
  rw [if_neg (show ¬ nI w = 15 from ne_nI (b := 15) h1 (by omega) (by omega)), if_neg (show ¬ nI w = 14 from ne_nI (b := 14) h2 (by omega) (by omega)), if_neg (show ¬ nI w = 13 from ne_nI (b := 13) h3 (by omega) (by omega)), if_neg h1, if_neg h2, if_neg h3]
  rfl
theorem wgt_3 (w : Nat) : wgt w ≤ 3 := by
  unfold wgt
  split
  · omega
  split
  · omega
  split <;> omega
theorem y_69 {z x t : Nat} {d : Nd} {W : List Wt} {H : List Nat} {O : List Nd} {M : Mm} {k0 : Int32 → Mm → Option Mm} (hd : d.2.2.1 = t) (y : Ym z (W, t :: H, O) M) (ha : d.2.1 < 96) (hz : z ≤ d.2.1) (hO : ∀ e ∈ O, e.2.1 ≠ d.2.1) (hl : H.length < 119) (ho : z + O.length < 96)
    (h3 : M.1 213 (96 + d.2.1) = nI (mn d.1.1) ∧ M.1 214 (96 + d.2.1) = nI d.1.2.1 ∧ M.1 215 (96 + d.2.1) = nI d.1.2.2) (h7 : d.1.1 = 14 ∨ d.1.1 = 15 → M.1 217 (96 + d.2.1) = nI (96 + d.2.2.2)) :
    ∃ M', sX12_bind_69 k0 (nI x) (nI (96 + d.2.1)) M = k0 (nI x) M' ∧ Fr (pBd z) M M' ∧ Ym z (W, d.2.1 :: H, O ++ [d]) M' := by
  obtain ⟨e1, y1⟩ := y_drop y (by omega)
  have y2 := y_lnk (v := nI (96 + t)) y1 (Or.inl rfl) hO
  have r : ∀ a j, ¬ (a = 194 ∧ j = 55) → ¬ (a = 216 ∧ j = 96 + d.2.1) → (sI (sI M 194 55 (nI H.length)) 216 (96 + d.2.1) (nI (96 + t))).1 a j = M.1 a j := fun a j h1 h2 => by rw [rdN h2, rdN h1]
  obtain ⟨M', e2, f2, y3⟩ := y_done (d := d) y2 ⟨(r _ _ (by omega) (by omega)).trans h3.1, (r _ _ (by omega) (by omega)).trans h3.2.1, (r _ _ (by omega) (by omega)).trans h3.2.2, fun q => (r _ _ (by omega) (by omega)).trans (h7 q), fun _ => by rw [rdS, hd]⟩ (by omega) ho
  refine ⟨M', ?_, Fr_tr (Fr_sI (Fr_sI (Fr_rf _ _) (by unfold pBd; omega)) (by unfold pBd; omega)) f2, y3⟩
  unfold sX12_bind_69
  rw [e1, Option.bind_some]
  dsimp only
  rw [ckT (inb_nI (show 96 + d.2.1 < 192 by omega) (by decide)), nI_clamp (by omega), e2, Option.bind_some]
theorem y_bnd {z k b x : Nat} (hx : 1 ≤ x ∧ x ≤ 3) : ∀ (W : List Wt) (H : List Nat) (O : List Nd) (F : Nat) (M : Mm) (m' : Mc), W.length < F → Ym z (W, H, O) M → Yi z k b (W, H, O) → bnd x W H O = some m' → ∃ M', sX12_bind_0 F (nI x) M = some M' ∧ Fr (pBd z) M M' ∧ Ym z m' M' ∧ Yi z k b m' := by
  intro W
  induction W with
  | nil =>
    intro H O F M m' hF y i h
    obtain ⟨F, rfl⟩ : ∃ F', F = F' + 1 := ⟨F - 1, by omega⟩
    cases h
    rw [sX12_bind_0, y.1]
    exact ⟨M, by rw [if_pos (show nI ([] : List Wt).length ≤ 0 by decide)], Fr_rf _ _, y, i⟩
  | cons e W ih =>
    intro H O F M m' hF y i h
    rw [List.length_cons] at hF
    obtain ⟨F, rfl⟩ : ∃ F', F = F' + 1 := ⟨F - 1, by omega⟩
    obtain ⟨i1, i2, i3, i4, i5, i6, i7⟩ := i
    dsimp only at i1 i2 i3 i4 i5
    rw [List.length_cons] at i3
    have hn := wgt_3 e.1
    have ib := inb_nI (show W.length < 120 by omega) (by decide)
    have cl : (nI W.length).toNatClampNeg = W.length := nI_clamp (by omega)
    have w0 := y.2.1.1
    have e102 : e.1 ≤ 102 := w0.1
    rw [bnd] at h
    obtain ⟨p1, p2, p3⟩ := y_pop y
    have l53 : M.1 194 53 = nI (W.length + 1) := y.1
    rw [sX12_bind_0, p1, ckT ib, cl, w0.2.1, y_wt e102, Option.bind_some, l53, if_neg (show ¬ nI (W.length + 1) ≤ 0 from nle_nI (b := 0) (by omega) (by omega))]
    dsimp only
    by_cases c : wgt e.1 < x
    · rw [if_pos c] at h
      cases h
      rw [if_pos (nI_lt c (by omega))]
      exact ⟨M, rfl, Fr_rf _ _, y, i1, i2, by dsimp only; rw [List.length_cons]; omega, i4, i5, i6, i7⟩
    rw [if_neg c] at h
    have e100 : e.1 ≠ 100 := fun q => c (by rw [q]; show 0 < x; omega)
    have hnW : nW (e :: W) = nW W + 1 := by rw [nW, if_neg e100]
    rw [hnW] at i5
    rw [if_neg (nlt_nI (by omega) (by omega)), nI_dn, rdS, ckT ib, ckT ib, cl, p3.2.1]
    rcases p3.2.2 with q | ⟨q0, q1, q2, q3⟩
    · exact absurd q e100
    rw [q0]
    rcases i1.1 with q | ⟨d1, d2, d3, d4, d5⟩
    · exact absurd q e100
    have f0 : Fr (pBd z) M (sI M 194 53 (nI W.length)) := Fr_sI (Fr_rf _ _) (by unfold pBd; omega)
    have yi : ∀ (H' : List Nat) (d : Nd), d.2.1 = e.2.1 → H'.length ≤ O.length → Yi z k b (W, d.2.1 :: H', O ++ [d]) := fun H' d hd hl => by
      refine ⟨dW_up W (fun e' he => by rw [hd]; exact d4 e' he) i1.2, fun d' hd' => ?_, by dsimp only; omega, ?_, ?_, i6, i7⟩
      · rcases List.mem_append.mp hd' with v | v
        · exact i2 d' v
        · rcases List.mem_singleton.mp v with rfl
          omega
      · dsimp only
        rw [List.length_cons, List.length_append, List.length_singleton]; omega
      · dsimp only
        rw [List.length_append, List.length_singleton]; omega
    by_cases c15 : e.1 = 15
    · rw [if_pos c15] at h
      rw [if_pos (by rw [c15]; rfl)]
      match H, h, i4, p2, y with
      | t :: H', h, i4, p2, _ =>
        rw [List.length_cons] at i4
        obtain ⟨M1, e1, f1, y1⟩ := y_69 (x := x) (d := (e.2.2, e.2.1, t, 0)) (k0 := sX12_bind_0 F) rfl p2 (show e.2.1 < 96 by omega) d1 d3 (by omega) (by omega) ⟨q1, q2, q3⟩ (fun q => by dsimp only at q; omega)
        obtain ⟨M2, e2, f2, y2, j2⟩ := ih _ _ F M1 m' (by omega) y1 (yi H' _ rfl (by omega)) h
        have e1' : sX12_bind_69 (sX12_bind_0 F) (nI x) (nI (96 + e.2.1)) (sI M 194 53 (nI W.length)) = _ := e1
        exact ⟨M2, e1'.trans e2, Fr_tr f0 (Fr_tr f1 f2), y2, j2⟩
      | [], h, _, _, _ => cases h
    · rw [if_neg c15] at h
      rw [if_neg (show ¬ nI e.1 = 15 from ne_nI (b := 15) c15 (by omega) (by omega))]
      match H, h, i4, p2, y with
      | u :: t :: H', h, i4, p2, _ =>
        rw [List.length_cons, List.length_cons] at i4
        obtain ⟨e1, y1⟩ := y_drop p2 (by rw [List.length_cons]; omega)
        have y2 := y_lnk (a := e.2.1) (v := nI (96 + u)) y1 (Or.inr rfl) d3
        have r : ∀ a j, ¬ (a = 194 ∧ j = 55) → ¬ (a = 217 ∧ j = 96 + e.2.1) → (sI (sI (sI M 194 53 (nI W.length)) 194 55 (nI (t :: H').length)) 217 (96 + e.2.1) (nI (96 + u))).1 a j = (sI M 194 53 (nI W.length)).1 a j := fun a j h1 h2 => by rw [rdN h2, rdN h1]
        obtain ⟨M1, e2, f1, y3⟩ := y_69 (x := x) (d := (e.2.2, e.2.1, t, u)) (k0 := sX12_bind_0 F) rfl y2 (show e.2.1 < 96 by omega) d1 d3 (by omega) (by omega) ⟨(r _ _ (by omega) (by dsimp only; omega)).trans q1, (r _ _ (by omega) (by omega)).trans q2, (r _ _ (by omega) (by omega)).trans q3⟩ (fun _ => by rw [rdS])
        have e2' : sX12_bind_69 (sX12_bind_0 F) (nI x) (nI (96 + e.2.1)) (sI (sI (sI M 194 53 (nI W.length)) 194 55 (nI (t :: H').length)) 217 (96 + e.2.1) (nI (96 + u))) = _ := e2
        obtain ⟨M2, e3, f2, y4, j2⟩ := ih _ _ F M1 m' (by omega) y3 (yi H' _ rfl (by omega)) h
        rw [e1, Option.bind_some]
        dsimp only
        rw [ckT (inb_nI (show 96 + e.2.1 < 192 by omega) (by decide)), nI_clamp (show 96 + e.2.1 < 2 ^ 31 by omega)]
        refine ⟨M2, e2'.trans e3, Fr_tr f0 (Fr_tr (Fr_sI (Fr_sI (Fr_rf _ _) (by unfold pBd; omega)) (by unfold pBd; omega)) (Fr_tr f1 f2)), y4, j2⟩
      | [], h, _, _, _ => cases h
      | [_], h, _, _, _ => cases h
theorem y_bind {z k b x : Nat} {m m' : Mc} {M : Mm} (hx : 1 ≤ x ∧ x ≤ 3) (y : Ym z m M) (i : Yi z k b m) (h : bnd x m.1 m.2.1 m.2.2 = some m') : ∃ M', sX12_bind (nI x) M = some M' ∧ Fr (pBd z) M M' ∧ Ym z m' M' ∧ Yi z k b m' :=
  y_bnd hx m.1 m.2.1 m.2.2 4096 M m' (by have h1 := i.2.2.1; have h2 := i.2.2.2.2.2.1; have h3 := i.2.2.2.2.2.2; omega) y i h
