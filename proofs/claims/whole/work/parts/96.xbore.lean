theorem xCs_sm {r : Nat} {M M' : Mm} (f : ∀ a k, a = r + 1 ∨ a = r + 2 ∨ a = r + 3 → M'.1 a k = M.1 a k) : ∀ (cs : List Cd) (p : Nat), xCs r M p cs → xCs r M' p cs := by
  intro cs
  induction cs with
  | nil => intro p _; trivial
  | cons c cs ih =>
    intro p h
    obtain ⟨⟨h1, h2, h3, h4⟩, h5, h6⟩ := h
    exact ⟨⟨(f _ _ (by omega)).trans h1, (f _ _ (by omega)).trans h2, (f _ _ (by omega)).trans h3, h4⟩, h5, ih (p + 1) h6⟩
theorem xK_sm {r n : Nat} {C : Nat → List Cd} {M M' : Mm} (f : ∀ a k, r ≤ a ∧ a ≤ r + 4 → M'.1 a k = M.1 a k) (h : xK_ r n C M) : xK_ r n C M' :=
  ⟨h.1, (f _ _ (by omega)).trans h.2.1, h.2.2.1, fun l hl => ⟨(f _ _ (by omega)).trans (h.2.2.2 l hl).1, xCs_sm (fun a k q => f a k (by omega)) _ _ (h.2.2.2 l hl).2.1, (h.2.2.2 l hl).2.2⟩⟩
theorem ev_mk {r K n i m : Nat} {C : Nat → List Cd} {Q : Nat → List Nd} {D : Nat → Nat → Nat} {M : Mm} (hi : i < 60) (hl : lyOk m D) (g4 : M.1 (38 + 2 * i) 4 = flV (fun l => vlV D m (C l)) n 0) (g5 : M.1 (38 + 2 * i) 5 = kiV (fun l => vlV D m (C l)) (fun l => M.1 (r + 5) l) n 0) (k2 : mK_ n Q M) (hb : mB_ i m D M) (k3 : ∀ l, l < n → M.1 (r + 5) l = M.1 210 l ∧ (∃ k, k < K ∧ M.1 (r + 5) l = nI k) ∧ ∀ D m, lyOk m D → vlV D m (C l) = vlV D m (cdI (Q l))) : iEvN M i ∧ (M.1 (38 + 2 * i) 5 = -1 ∨ ∃ k, k < K ∧ M.1 (38 + 2 * i) 5 = nI k) := by
  refine ⟨fun M2 h2 => ?_, ?_⟩
  · have ag2 : agE M M2 := h2
    obtain ⟨A, e2, f2⟩ := m_line hi hl (mK_ag ag2 k2) (mB_ag ag2 hb)
    obtain ⟨A', e3, f3⟩ := m_kind hi hl (mK_ag ag2 k2) (mB_ag ag2 hb)
    refine ⟨⟨A, ?_, f2⟩, ⟨A', ?_, f3⟩⟩
    · rw [e2, g4, fl_ext n 0 (fun a q => ((k3 a (by omega)).2.2 D m hl))]
    · rw [e3, g5, ki_ext n 0 (fun a q => ⟨(k3 a (by omega)).2.2 D m hl, (k3 a (by omega)).1.trans (ag2 210 a (by unfold rEv; omega)).symm⟩)]
  · rcases fl_ki (B := fun l => vlV D m (C l)) (K := fun l => M.1 (r + 5) l) n 0 with ⟨_, q2⟩ | ⟨a, q0, _, q2⟩
    · exact Or.inl (g5.trans q2)
    · obtain ⟨k, h1, h2⟩ := (k3 a (by omega)).2.1
      exact Or.inr ⟨k, h1, (g5.trans q2).trans h2⟩
def pXb (r N id k : Nat) : Prop := id = 3 ∧ 2 ≤ k ∧ k ≤ 9 ∨ id = 39 + 2 * N ∨ id = 38 + 2 * N ∨ id = 1 ∧ (k = 1 ∨ k = 5 ∨ k = 6) ∨ id = r + 7 ∨ id = 34 ∧ k = 1
theorem x_bore {kq : Nat × Nat} {t n d c W N nl : Nat} {C : Nat → List Cd} {T : Nat → Int32} {M : Mm} (hq : kq.1 = 6 ∨ kq.1 = 14) (hn : n ≤ t) (ht : t ≤ 800) (h11 : M.1 1 1 = nI t) (hT : Tp 2 T n M) (hd : d < 3) (hc : c < W) (hW : W ≤ 64) (h22 : M.1 22 2 = nI W) (hN : N < 60) (h34 : M.1 34 1 = nI N) (hw : iWx M) (hk : xK_ kq.1 nl C M) :
    (∃ w p Ma, rdB T n 8 0 0 [] = .inl (w, p) ∧ sX11_bore kq (nI n) (nI d) (nI c) M = some (-1, Ma) ∧ Fr (pXb kq.1 N) M Ma ∧ Ma.1 34 1 = nI N ∧ Ma.1 1 1 = 0 ∧ Ma.1 1 5 = nI w ∧ Ma.1 1 6 = nI p) ∨
    (∃ L m Ma, rdB T n 8 0 0 [] = .inr L ∧ L.length = 6 * m ∧ lyOk m (DL L) ∧ sX11_bore kq (nI n) (nI d) (nI c) M = some (nI N, Ma) ∧ Fr (pXb kq.1 N) M Ma ∧ Ma.1 34 1 = nI (N + 1) ∧ Ma.1 1 1 = 0 ∧ Ma.1 1 5 = 0 ∧ Ma.1 1 6 = -1 ∧ Ma.1 (38 + 2 * N) 0 = -1 ∧ Ma.1 (38 + 2 * N) 1 = nI d ∧ Ma.1 (38 + 2 * N) 2 = nI c ∧ Ma.1 (38 + 2 * N) 3 = nI m ∧ (∀ z, z < 6 * m → Ma.1 (39 + 2 * N) z = nI (L.getD z 0)) ∧ Ma.1 (38 + 2 * N) 4 = flV (fun l => vlV (DL L) m (C l)) nl 0 ∧ Ma.1 (38 + 2 * N) 5 = kiV (fun l => vlV (DL L) m (C l)) (fun l => M.1 (kq.1 + 5) l) nl 0) := by
  have iN := inb_nI hN (by decide)
  have one : ¬ (1 : Int32) = 0 := by decide
  obtain ⟨B, e1, f1, x1⟩ := x_beg hT hw
  have x1' : Xs T n 0 (sI B (38 + 2 * N) 3 0) := Xs_sI x1 (by omega)
  have fB : Fr (pXb kq.1 N) M (sI B (38 + 2 * N) 3 0) := Fr_sI (Fr_mo f1 (fun id k q => Or.inl q)) (Or.inr (Or.inr (Or.inl rfl)))
  have pb : ∀ {X Y : Mm}, Fr (pBr N) X Y → Fr (pXb kq.1 N) X Y := fun {X Y} f => Fr_mo f (fun id k q => by unfold pBr at q; unfold pXb; omega)
  have unf : ∀ {R : Int32 × Mm}, sX7_readFrom_7 (38 + 2 * N) 4096 (nI 0) (sI B (38 + 2 * N) 3 0) = some R → sX11_bore kq (nI n) (nI d) (nI c) M = (sX11_keepFault R.2).bind fun (M82 : Mm) =>
    if R.1 = 0 then (some ((-1), M82)) else ((sX7_judge (38 + 2 * N) kq.1 (sI (sI (sI M82 (38 + 2 * N) 0 (-1)) (38 + 2 * N) 1 (nI d)) (38 + 2 * N) 2 (nI c))).bind fun (M116 : Mm) =>
    some ((((sI M116 34 1 ((M116.1 34 1) + 1)).1 34 1) - 1), (sI M116 34 1 ((M116.1 34 1) + 1)))) := fun {R} hR => by
    have hR' : sX7_readFrom_7 (38 + 2 * N) 4096 0 (sI B (38 + 2 * N) 3 0) = some R := hR
    unfold sX11_bore sX11_isHand sX6_hasCell
    rw [if_neg (show ¬ nI n < 0 from nlt_nI (b := 0) (by omega) (by omega)), h11, if_neg (nlt_nI hn (by omega)), Option.bind_some, if_neg (show ¬ nI d < 0 from nlt_nI (b := 0) (by omega) (by omega)), if_neg (show ¬ 3 ≤ nI d from nle_nI (a := 3) hd (by omega))]
    dsimp only
    rw [if_neg one, Option.bind_some, if_neg (show ¬ nI c < 0 from nlt_nI (b := 0) (by omega) (by omega)), h22, if_neg (nle_nI hc (by omega))]
    dsimp only
    rw [if_neg one, h34, if_pos (show nI N < 60 from nI_lt (b := 60) hN (by omega)), ckT iN, nI_clamp (by omega), e1, Option.bind_some]
    unfold sX7_readFrom
    rw [hR', Option.bind_some]
  rcases x_rdB hN 8 0 0 0 4096 [] _ rfl rfl (by omega) x1' (by rw [rdS]; rfl) (fun z q => by omega) (fun _ => rfl) (fun q => absurd rfl q) (by omega) with ⟨w, p, A, r1, r2, r3, r4⟩ | ⟨L, m, A, r1, rl, rm, rm8, r2, r3, r4, r5, r6, r7⟩
  · refine Or.inl ⟨w, p, _, r1, (unf r2).trans (by unfold sX11_keepFault; rw [Option.bind_some, if_pos rfl]), ?_, ?_, ?_, ?_, ?_⟩
    · exact Fr_sI (Fr_sI (Fr_sI (Fr_tr fB (pb r3)) (by unfold pXb; omega)) (by unfold pXb; omega)) (by unfold pXb; omega)
    · rw [rdN (by omega), rdN (by omega), rdN (by omega), (r3 _ _ (by unfold pBr; omega)).1, rdN (by omega), (f1 _ _ (by omega)).1]; exact h34
    · exact rdS _ _ _ _
    · rw [rdN (by omega), rdN (by omega), rdS]; exact r4.1
    · rw [rdN (by omega), rdS, rdN (by omega)]; exact r4.2
  · have hl := rdB_ok r1 rl
    have fA := Fr_tr fB (pb r3)
    have fK : Fr (pXb kq.1 N) M (sI (sI (sI A 1 5 (A.1 3 8)) 1 6 ((sI A 1 5 (A.1 3 8)).1 3 9)) 1 1 0) := Fr_sI (Fr_sI (Fr_sI fA (by unfold pXb; omega)) (by unfold pXb; omega)) (by unfold pXb; omega)
    have fJ := Fr_sI (v := nI c) (Fr_sI (v := nI d) (Fr_sI (v := -1) fK (show pXb kq.1 N (38 + 2 * N) 0 by unfold pXb; omega)) (show pXb kq.1 N (38 + 2 * N) 1 by unfold pXb; omega)) (show pXb kq.1 N (38 + 2 * N) 2 by unfold pXb; omega)
    have kJ := xK_sm (fun a k q => (fJ a k (by unfold pXb; omega)).1) hk
    generalize hJ : sI (sI (sI (sI (sI (sI A 1 5 (A.1 3 8)) 1 6 ((sI A 1 5 (A.1 3 8)).1 3 9)) 1 1 0) (38 + 2 * N) 0 (-1)) (38 + 2 * N) 1 (nI d)) (38 + 2 * N) 2 (nI c) = J at fJ kJ
    have j0 : J.1 (38 + 2 * N) 0 = -1 := by rw [← hJ, rdN (by omega), rdN (by omega), rdS]
    have j1 : J.1 (38 + 2 * N) 1 = nI d := by rw [← hJ, rdN (by omega), rdS]
    have j2 : J.1 (38 + 2 * N) 2 = nI c := by rw [← hJ, rdS]
    have j3 : J.1 (38 + 2 * N) 3 = nI m := by rw [← hJ, rdN (by omega), rdN (by omega), rdN (by omega), rdN (by omega), rdN (by omega), rdN (by omega)]; exact r4
    have jz : ∀ z, z < 6 * m → J.1 (39 + 2 * N) z = nI (L.getD z 0) := fun z hz => by rw [← hJ, rdN (by omega), rdN (by omega), rdN (by omega), rdN (by omega), rdN (by omega), rdN (by omega)]; exact r5 z hz
    have j11 : J.1 1 1 = 0 := by rw [← hJ, rdN (by omega), rdN (by omega), rdN (by omega), rdS]
    have j15 : J.1 1 5 = 0 := by rw [← hJ, rdN (by omega), rdN (by omega), rdN (by omega), rdN (by omega), rdN (by omega), rdS]; exact r6
    have j16 : J.1 1 6 = -1 := by rw [← hJ, rdN (by omega), rdN (by omega), rdN (by omega), rdN (by omega), rdS, rdN (by omega)]; exact r7
    have j34 : J.1 34 1 = nI N := by rw [← hJ, rdN (by omega), rdN (by omega), rdN (by omega), rdN (by omega), rdN (by omega), rdN (by omega), (r3 _ _ (by unfold pBr; omega)).1, rdN (by omega), (f1 _ _ (by omega)).1]; exact h34
    obtain ⟨G, e2, f2, g4, g5⟩ := x_judge hq hN hl kJ ⟨j3, fun k j hk hj => jz _ (by omega)⟩
    have k5 : ∀ l, J.1 (kq.1 + 5) l = M.1 (kq.1 + 5) l := fun l => (fJ _ _ (by unfold pXb; omega)).1
    have G34 : G.1 34 1 = nI N := (f2 _ _ (by unfold pJu; omega)).1.trans j34
    refine Or.inr ⟨L, m, sI G 34 1 (nI (N + 1)), r1, rl, hl, (unf r2).trans ?_, ?_, rdS _ _ _ _, ?_, ?_, ?_, ?_, ?_, ?_, ?_, ?_, ?_, ?_⟩
    · unfold sX11_keepFault
      rw [Option.bind_some, if_neg one, hJ, e2, Option.bind_some, G34, nI_1, rdS, nI_dn]
    · exact Fr_sI (Fr_tr fJ (Fr_mo f2 (fun id k q => by unfold pJu at q; unfold pXb; omega))) (by unfold pXb; omega)
    · rw [rdN (by omega), (f2 _ _ (by unfold pJu; omega)).1]; exact j11
    · rw [rdN (by omega), (f2 _ _ (by unfold pJu; omega)).1]; exact j15
    · rw [rdN (by omega), (f2 _ _ (by unfold pJu; omega)).1]; exact j16
    · rw [rdN (by omega), (f2 _ _ (by unfold pJu; omega)).1]; exact j0
    · rw [rdN (by omega), (f2 _ _ (by unfold pJu; omega)).1]; exact j1
    · rw [rdN (by omega), (f2 _ _ (by unfold pJu; omega)).1]; exact j2
    · rw [rdN (by omega), (f2 _ _ (by unfold pJu; omega)).1]; exact j3
    · intro z hz; rw [rdN (by omega), (f2 _ _ (by unfold pJu; omega)).1]; exact jz z hz
    · rw [rdN (by omega)]; exact g4
    · rw [rdN (by omega), g5]; exact ki_ext nl 0 (fun a _ => ⟨rfl, k5 a⟩)
