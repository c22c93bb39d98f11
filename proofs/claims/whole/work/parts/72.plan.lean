def pPn (id k : Nat) : Prop := pSc id k ∨ 174 ≤ id ∧ id ≤ 178 ∨ id = 233 ∨ id = 234 ∨ id = 235 ∨ id = 194 ∧ (k = 74 ∨ k = 75 ∨ k = 77 ∨ k = 78)
theorem pn_sm {kq : Nat × Nat} {M M1 : Mm} (hq : isKq kq) (f : Fr pPn M M1) : Sm kq M M1 := by
  have hk : kq.1 = 6 ∨ kq.1 = 14 := hq.1
  refine Sm_fr f (fun id k q p => ?_)
  unfold pPn at p
  rcases p with p | p | rfl | rfl | rfl | ⟨rfl, rfl | rfl | rfl | rfl⟩
  · unfold pSc at p
    rcases p with rfl | rfl | ⟨rfl, rfl⟩ | rfl | ⟨rfl, rfl | rfl⟩ | p | ⟨rfl, rfl | rfl⟩ | rfl | rfl | rfl | rfl | rfl | rfl | rfl
    all_goals (unfold rBk rLand at q; omega)
  all_goals (unfold rBk rLand at q; omega)
theorem full_ok {w n lim m : Nat} {G : Nat → Nat} {B : Nat → Bool} : ∀ (r fr sp sm : Nat) (p : List Nat) (st : Pl), (r = 0 → True) → st = none ∨ (∃ q, st = some q) → full w n lim G B r fr sp sm p st = none ∨ ∃ q, full w n lim G B r fr sp sm p st = some q := fun r fr sp sm p st _ _ => by
  cases full w n lim G B r fr sp sm p st with
  | none => exact Or.inl rfl
  | some q => exact Or.inr ⟨q, rfl⟩
theorem x_find {w h m lim top start : Nat} {G : Nat → Nat} {B : Nat → Bool} {M Ms : Mm} (eMs : Ms = sI (sI (sI (sI M 174 3 (nI m)) 174 4 (nI lim)) 174 7 (-1)) 174 8 0) (sb : Sb w h m lim top G B Ms) (hs : start < w * h) : ∃ M', sX9_findPlan (nI m) (nI lim) (nI start) M = some (fS (full w (w * h) lim G B m start 0 0 [] none), M') ∧ Fr (fun id _ => 174 ≤ id ∧ id ≤ 178) M M' ∧ (full w (w * h) lim G B m start 0 0 [] none = none → M'.1 174 10 = M.1 174 10 ∧ M'.1 174 11 = M.1 174 11 ∧ ∀ k, M'.1 178 k = M.1 178 k) ∧ ∀ s d p, full w (w * h) lim G B m start 0 0 [] none = some (s, d, p) → M'.1 174 10 = nI m ∧ M'.1 174 11 = nI d ∧ ∀ k, k < m → M'.1 178 k = nI (p.getD k 0) := by
  have hm := sb.2.1
  have x0 : Sx m Ms Ms none := ⟨Fr_rf _ _, by rw [eMs, rdN (by omega), rdS]; rfl, by rw [eMs, rdS]; rfl, (fun s d p e => by cases e), (fun s d p e => by cases e)⟩
  obtain ⟨A, a1, a2, -⟩ := x_search sb m 0 start 0 0 12 [] none Ms (by omega) rfl (by omega) hs (by omega) (by omega) x0 (fun k hk => absurd hk (Nat.not_lt_zero k)) (fun q => by omega)
  generalize hst : full w (w * h) lim G B m start 0 0 [] none = st at a2
  obtain ⟨b1, b2, b3, b4, b5⟩ := a2
  have fMs : Fr (fun id _ => 174 ≤ id ∧ id ≤ 178) M Ms := by
    rw [eMs]
    exact Fr_sI (Fr_sI (Fr_sI (Fr_sI (Fr_rf _ _) (by omega)) (by omega)) (by omega)) (by omega)
  have fA : Fr (fun id _ => 174 ≤ id ∧ id ≤ 178) M A := Fr_tr fMs (Fr_mo b1 (fun id k q => by unfold pPl at q; omega))
  have a1' : sX9_search 12 0 (nI start) 0 0 (sI (sI (sI (sI M 174 3 (nI m)) 174 4 (nI lim)) 174 7 (-1)) 174 8 0) = some A := by rw [← eMs]; exact a1
  have same : ∀ k, k ≠ 3 → k ≠ 4 → k ≠ 7 → k ≠ 8 → A.1 174 k = M.1 174 k := fun k h3 h4 h7 h8 => by
    rw [(b1 174 k (by unfold pPl; omega)).1, eMs, rdN (by omega), rdN (by omega), rdN (by omega), rdN (by omega)]
  unfold sX9_findPlan
  rw [a1', Option.bind_some, b2]
  cases st with
  | none =>
    rw [fS_n, if_pos rfl]
    refine ⟨A, rfl, fA, fun _ => ⟨same 10 (by omega) (by omega) (by omega) (by omega), same 11 (by omega) (by omega) (by omega) (by omega), fun k => ?_⟩, fun s d p e => by cases e⟩
    rw [(b1 178 k (by unfold pPl; omega)).1, eMs, rdN (by omega), rdN (by omega), rdN (by omega), rdN (by omega)]
  | some q =>
    obtain ⟨s, d, p⟩ := q
    obtain ⟨l1, l2, l3⟩ := b4 s d p rfl
    have b6 := b5 s d p rfl
    rw [fS_s, if_neg (nI_ne1 (by show s < 2 ^ 31; omega)), rdN (by omega), b3, fD_s]
    obtain ⟨D, d1, d2, d3⟩ := lp_M (f := fun F i M => sX9_findPlan_54 F (nI m) i M) (n := m) (I := fun j M' => Fr (fun id _ => id = 178) (sI (sI A 174 10 (nI m)) 174 11 (nI d)) M' ∧ ∀ k, k < j → M'.1 178 k = nI (p.getD k 0)) (fun F j M1 hj h => by
      refine ⟨sI M1 178 j (nI (p.getD j 0)), ?_, Fr_sI h.1 rfl, fun k hk => ?_⟩
      · show sX9_findPlan_54 (F + 1) (nI m) (nI j) M1 = _
        rw [sX9_findPlan_54, if_neg (nle_nI hj (by omega)), ckT (inb_nI (by omega) (by decide)), ckT (inb_nI (by omega) (by decide)), nI_clamp (by omega), nI_1, (h.1 177 j (by omega)).1, rdN (by omega), rdN (by omega), b6 j hj]
      · by_cases u : k = j
        · rw [u, rdS]
        · rw [rdN (by omega)]; exact h.2 k (by omega)) m 0 4096 (sI (sI A 174 10 (nI m)) 174 11 (nI d)) (by omega) (by omega) ⟨Fr_rf _ _, fun k hk => absurd hk (Nat.not_lt_zero k)⟩
    refine ⟨D, ?_, Fr_tr fA (Fr_tr (Fr_sI (Fr_sI (Fr_rf _ _) (by omega)) (by omega)) (Fr_mo d2 (fun id k q => by omega))), (fun e => by cases e), fun s' d' p' e => ?_⟩
    · refine Eq.trans d1 ?_
      show sX9_findPlan_54 (4096 - m) (nI m) (nI m) D = _
      rw [show 4096 - m = (4095 - m) + 1 by omega, sX9_findPlan_54, if_pos (nI_le (by omega) (by omega)), (d2 174 7 (by omega)).1, rdN (by omega), rdN (by omega), b2, fS_s]
    · cases e
      exact ⟨by rw [(d2 174 10 (by omega)).1, rdN (by omega), rdS], by rw [(d2 174 11 (by omega)).1, rdS], d3⟩
theorem step_plan {kq : Nat × Nat} {w h N K : Nat} {M : Mm} (a1 a2 a3 a4 a5 a6 : Int32) (hq : isKq kq) (b : Bk kq w h N K M) (hv : iVals M) (hp : iPlan M) : ∃ M1, st_plan kq a1 a2 a3 a4 a5 a6 M = some (kq, M1) ∧ iPlan M1 ∧ Fr pPn M M1 := by
  have one : ¬ (1 : Int32) = 0 := by decide
  have f0 := sc_2 M
  have fp : ∀ {X Y : Mm}, Fr pSc X Y → Fr pPn X Y := fun {X Y} f => Fr_mo f (fun id k q => Or.inl q)
  have hN := b.2.1.1
  have hK := b.2.2.2.1.1
  have h64 := wh64 b.1.1
  have b0 := Bk_sm b (sc_sm hq f0)
  have d0 : iPlan (sI M 194 2 0) := by
    obtain ⟨n, n1, n2, n3, n4, n5, n6⟩ := hp
    exact ⟨n, n1, by rw [rdN (by omega)]; exact n2, by rw [rdN (by omega)]; exact n3, fun k hk => by rw [rdN (by omega), rdN (by omega)]; exact n4 k hk, fun q => by rw [rdN (by omega)]; exact n5 q, fun q => by rw [rdN (by omega), rdN (by omega)]; exact n6 q⟩
  have xc := fun x => x_cell (x := x) b.1.2.1.2.2.1
  have mc := fun x => m_cell (x := x) b0.1.2.1.2.2.2.1 b0.1.2.1.2.2.2.2
  by_cases c1 : a1 < 1
  · exact ⟨_, st_join (v := -1) (Ma := M) (by simp only [sX11_plan, sX11_plan_21, sX11_plan_26, if_pos c1, if_neg one]) (by simp only [sX12_plan, if_pos c1]), d0, fp f0⟩
  by_cases c2 : 3 < a1
  · exact ⟨_, st_join (v := -1) (Ma := M) (by simp only [sX11_plan, sX11_plan_21, sX11_plan_26, if_neg c1, if_pos c2, if_neg one]) (by simp only [sX12_plan, if_neg c1, if_pos c2]), d0, fp f0⟩
  by_cases d1 : a2 < 1
  · exact ⟨_, st_join (v := -1) (Ma := M) (by simp only [sX11_plan, sX11_plan_21, sX11_plan_26, if_neg c1, if_neg c2, if_pos d1, if_neg one]) (by simp only [sX12_plan, if_neg c1, if_neg c2, if_pos d1]), d0, fp f0⟩
  by_cases d2 : a2 ≤ 60
  case neg => exact ⟨_, st_join (v := -1) (Ma := M) (by simp only [sX11_plan, sX11_plan_21, sX11_plan_26, if_neg c1, if_neg c2, if_neg d1, if_neg d2, if_neg one]) (by simp only [sX12_plan, if_neg c1, if_neg c2, if_neg d1, if_pos (Int32.not_le.mp d2)]), d0, fp f0⟩
  have d2' : ¬ 60 < a2 := Int32.not_lt.mpr d2
  by_cases e1 : a3 < 0
  · exact ⟨_, st_join (v := -1) (Ma := M) (by simp only [sX11_plan, sX11_plan_26, if_neg c1, if_neg c2, if_neg d1, if_pos d2, if_true, xc, if_pos e1, Option.bind_some]) (by simp only [sX12_plan, if_neg c1, if_neg c2, if_neg d1, if_neg d2', mc, if_pos e1, Option.bind_some, if_true]), d0, fp f0⟩
  by_cases e2 : nI (w * h) ≤ a3
  · exact ⟨_, st_join (v := -1) (Ma := M) (by simp only [sX11_plan, sX11_plan_26, if_neg c1, if_neg c2, if_neg d1, if_pos d2, if_true, xc, if_neg e1, if_pos e2, Option.bind_some]) (by simp only [sX12_plan, if_neg c1, if_neg c2, if_neg d1, if_neg d2', mc, if_neg e1, if_pos e2, Option.bind_some, if_true]), d0, fp f0⟩
  by_cases k0 : K = 0
  · subst k0
    have eK := b.2.2.2.1.2.1
    have eK0 := b0.2.2.2.1.2.2.1
    exact ⟨_, st_join (v := -1) (Ma := M) (by simp only [sX11_plan, sX11_plan_26, if_neg c1, if_neg c2, if_neg d1, if_pos d2, if_true, xc, if_neg e1, if_neg e2, Option.bind_some, if_neg one, eK]; rfl) (by simp only [sX12_plan, if_neg c1, if_neg c2, if_neg d1, if_neg d2', mc, if_neg e1, if_neg e2, Option.bind_some, if_neg one, eK0]; rfl), d0, fp f0⟩
  have nK : ¬ nI K = 0 := ne0_nI k0 (by omega)
  have n1 : ∀ {x : Int32}, ¬ x < 1 → ¬ x < 0 := fun {x} q p => q (by
    rw [Int32.lt_iff_toInt_lt] at p ⊢
    have e0 : (0 : Int32).toInt = 0 := rfl
    have e1 : (1 : Int32).toInt = 1 := rfl
    omega)
  obtain ⟨m, hm, em⟩ := nI_ex (n := 3) (n1 c1) (Int32.not_lt.mp c2) (by decide)
  obtain ⟨lim, hlim, el⟩ := nI_ex (n := 60) (n1 d1) d2 (by decide)
  obtain ⟨s, hs, es⟩ := nI_ex (n := w * h) e1 (Int32.le_of_lt (Int32.not_le.mp e2)) (by omega)
  subst em el es
  have hm1 : 1 ≤ m := by
    rcases Nat.lt_or_ge m 1 with q | q
    · exact absurd (nI_lt (b := 1) q (by decide)) c1
    · exact q
  have hsn : s < w * h := (nI_ltI (by omega) (by omega)).mp (Int32.not_le.mp e2)
  -- the class
  obtain ⟨A, g1, f1, x1⟩ := xk_gather (n := N) hq b (Sm_rf kq M) (Nat.le_refl N)
  obtain ⟨A2, g2, f2, x2, q2, t2⟩ := x_gains hq b hv (by omega) (Nat.le_refl N) x1
  have hG : ∀ c, c < w * h → plG w K M (Lof M N) c ≤ 99000 := fun c hc => plG_le hv (by omega)
  have hT : ∀ c, c < w * h → plB M (Lof M N) c = false → plG w K M (Lof M N) c ≤ plT (plG w K M (Lof M N)) (plB M (Lof M N)) (w * h) := fun c hc hb => plT_ge (w * h) c hc hb
  have hT9 : plT (plG w K M (Lof M N)) (plB M (Lof M N)) (w * h) ≤ 99000 := by
    have : ∀ n, n ≤ w * h → plT (plG w K M (Lof M N)) (plB M (Lof M N)) n ≤ 99000 := by
      intro n
      induction n with
      | zero => intro _; exact Nat.zero_le _
      | succ n ih =>
        intro hn
        have h1 := ih (by omega)
        have h2 := hG n (by omega)
        rw [plT]
        split
        · exact h1
        · omega
    exact this _ (Nat.le_refl _)
  have bA := Bk_sm b x2.1
  generalize plT (plG w K M (Lof M N)) (plB M (Lof M N)) (w * h) = top at t2 hT hT9
  obtain ⟨Ms, eMs⟩ : ∃ Ms, Ms = sI (sI (sI (sI A2 174 3 (nI m)) 174 4 (nI lim)) 174 7 (-1)) 174 8 0 := ⟨_, rfl⟩
  have fMs : Fr (fun id k => id = 174 ∧ (k = 3 ∨ k = 4 ∨ k = 7 ∨ k = 8)) A2 Ms := by
    rw [eMs]
    exact Fr_sI (Fr_sI (Fr_sI (Fr_sI (Fr_rf _ _) (by omega)) (by omega)) (by omega)) (by omega)
  have sb : Sb w h m lim top (plG w K M (Lof M N)) (plB M (Lof M N)) Ms := by
    refine ⟨iLandW_fr bA.1 fMs (fun id k q p => by unfold rLand at q; omega), ⟨hm1, hm⟩, hlim, hT9, ?_, ?_, ?_, fun c hc => ?_, hG, hT⟩
    · rw [eMs, rdN (by omega), rdN (by omega), rdN (by omega), rdS]
    · rw [eMs, rdN (by omega), rdN (by omega), rdS]
    · rw [(fMs 174 2 (by omega)).1]; exact t2
    · rw [(fMs 175 c (by omega)).1]; exact q2 c hc
  obtain ⟨A3, g3, f3, n3, s3⟩ := x_find eMs sb hsn
  have fA : Fr pPn M A3 := Fr_tr (fp (sc_ga f1)) (Fr_tr (Fr_mo f2 (fun id k q => by
    unfold pGx at q
    rcases q with rfl | ⟨rfl, rfl⟩ | rfl | ⟨rfl, rfl | rfl⟩
    · exact Or.inr (Or.inl (by omega))
    · exact Or.inr (Or.inl (by omega))
    · exact Or.inl (by simp [pSc])
    · exact Or.inl (by simp [pSc])
    · exact Or.inl (by simp [pSc]))) (Fr_mo f3 (fun id k q => Or.inr (Or.inl q))))
  -- the model
  have fA2 := Fr_tr fA (fp (sc_2 A3))
  have s2 := pn_sm hq fA2
  obtain ⟨B, g4, f4, x4⟩ := mk_know (n := N) hq b s2 (Nat.le_refl N)
  have bs := Bk_sm b s2
  have bB := Bk_sm b x4.1
  obtain ⟨B2, g5, f5, x5, q5⟩ := m_gains (x1 := nI m) (x2 := nI lim) (x3 := nI s) hq b hv (by omega) (Nat.le_refl N) x4
  obtain ⟨Mt, eMt⟩ : ∃ Mt, Mt = sI (sI B2 194 77 (-1)) 194 78 0 := ⟨_, rfl⟩
  have sd : Sd w h m lim (plG w K M (Lof M N)) (plB M (Lof M N)) Mt := by
    have bB2 := Bk_sm b x5.1
    refine ⟨?_, ⟨hm1, hm⟩, hlim, fun c hc => ?_, hG⟩
    · rw [eMt]
      exact iLandW_fr bB2.1 (P := fun id k => id = 194 ∧ (k = 77 ∨ k = 78)) (Fr_sI (Fr_sI (Fr_rf _ _) (by omega)) (by omega)) (fun id k q p => by unfold rLand at q; omega)
    · rw [eMt, rdN (by omega), rdN (by omega), rdN (by omega), rdN (by omega)]; exact q5 c hc
  have x6 : Sy m Mt Mt none := ⟨Fr_rf _ _, by rw [eMt, rdN (by omega), rdS]; rfl, by rw [eMt, rdS]; rfl, (fun s d p e => by cases e), fun _ => ⟨rfl, rfl, fun _ => rfl⟩, fun s d p e => by cases e⟩
  obtain ⟨B3, g6, y6⟩ := m_al sd hsn x6
  have fB : Fr pPn M B3 := by
    refine Fr_tr fA2 (Fr_tr (fp (sc_kn f4)) (Fr_tr (M1 := B2) (Fr_mo f5 (fun id k q => ?_)) (Fr_tr (M1 := Mt) ?_ (Fr_mo y6.1 (fun id k q => ?_)))))
    · unfold pGm at q
      rcases q with rfl | rfl | rfl | ⟨rfl, rfl⟩
      · exact Or.inr (Or.inr (Or.inl rfl))
      · exact Or.inr (Or.inr (Or.inr (Or.inl rfl)))
      · exact Or.inl (by simp [pSc])
      · exact Or.inl (by simp [pSc])
    · rw [eMt]
      exact Fr_sI (Fr_sI (Fr_rf _ _) (by unfold pPn; omega)) (by unfold pPn; omega)
    · unfold pPm at q
      rcases q with rfl | q
      · exact Or.inr (Or.inr (Or.inr (Or.inr (Or.inl rfl))))
      · exact Or.inr (Or.inr (Or.inr (Or.inr (Or.inr q))))
  -- what the class left stands still
  have kX : ∀ id k, 174 ≤ id → id ≤ 178 → B3.1 id k = A3.1 id k := fun id k u1 u2 => by
    rw [(y6.1 id k (by unfold pPm; omega)).1, eMt, rdN (by omega), rdN (by omega), (f5 id k (by unfold pGm; omega)).1, (f4 id k (by unfold pKn; omega)).1, rdN (by omega)]
  have kM : ∀ k, k = 74 ∨ k = 75 → Mt.1 194 k = M.1 194 k := fun k u => by
    rw [eMt, rdN (by omega), rdN (by omega), (f5 194 k (by unfold pGm; omega)).1, (f4 194 k (by unfold pKn; omega)).1, rdN (by omega), (f3 194 k (by omega)).1, (f2 194 k (by unfold pGx; omega)).1, (f1 194 k (by unfold pGa; omega)).1]
  have k235 : ∀ k, Mt.1 235 k = M.1 235 k := fun k => by
    rw [eMt, rdN (by omega), rdN (by omega), (f5 235 k (by unfold pGm; omega)).1, (f4 235 k (by unfold pKn; omega)).1, rdN (by omega), (f3 235 k (by omega)).1, (f2 235 k (by unfold pGx; omega)).1, (f1 235 k (by unfold pGa; omega)).1]
  have kA : ∀ id k, 174 ≤ id → id ≤ 178 → id ≠ 175 → ¬ (id = 174 ∧ k = 2) → A2.1 id k = M.1 id k := fun id k u1 u2 u3 u4 => by
    rw [(f2 id k (by unfold pGx; omega)).1, (f1 id k (by unfold pGa; omega)).1]
  generalize full w (w * h) lim (plG w K M (Lof M N)) (plB M (Lof M N)) m s 0 0 [] none = st at g3 n3 s3 g6 y6
  refine ⟨B3, st_join (v := fS st) (Ma := A3) ?_ ?_, ?_, fB⟩
  · simp only [sX11_plan, sX11_plan_26, if_neg c1, if_neg c2, if_neg d1, if_pos d2, if_true, xc, if_neg e1, if_neg e2, Option.bind_some, if_neg one, b.2.2.2.1.2.1, if_neg nK, b.2.1.2.1, g1, g2, g3]
  · have mcs := m_cell (x := nI s) bs.1.2.1.2.2.2.1 bs.1.2.1.2.2.2.2
    simp only [sX12_plan, if_neg c1, if_neg c2, if_neg d1, if_neg d2', mcs, if_neg e1, if_neg e2, Option.bind_some, if_neg one, bs.2.2.2.1.2.2.1, if_neg nK, bs.2.1.2.2, g4, bB.1.2.1.2.2.2.1, bB.1.2.1.2.2.2.2, nI_mul]
    rw [g5, ← eMt, g6]
  · cases st with
    | none =>
      obtain ⟨i1, i2, i3⟩ := n3 rfl
      obtain ⟨j1, j2, j3⟩ := y6.2.2.2.2.1 rfl
      obtain ⟨n, n1, n2, n3, n4, n5, n6⟩ := hp
      refine ⟨n, n1, ?_, ?_, fun k hk => ?_, fun q => ?_, fun q => ?_⟩
      · rw [kX _ _ (by omega) (by omega), i1, kA _ _ (by omega) (by omega) (by omega) (by omega)]; exact n2
      · rw [j1, kM 74 (Or.inl rfl)]; exact n3
      · rw [kX _ _ (by omega) (by omega), i3, kA _ _ (by omega) (by omega) (by omega) (by omega), j3, k235]; exact n4 k hk
      · rw [kX _ _ (by omega) (by omega), i2, kA _ _ (by omega) (by omega) (by omega) (by omega)]; exact n5 q
      · rw [kX _ _ (by omega) (by omega), i2, kA _ _ (by omega) (by omega) (by omega) (by omega), j2, kM 75 (Or.inr rfl)]; exact n6 q
    | some q =>
      obtain ⟨sm, d, p⟩ := q
      obtain ⟨i1, i2, i3⟩ := s3 sm d p rfl
      obtain ⟨j1, j2, j3⟩ := y6.2.2.2.2.2 sm d p rfl
      refine ⟨m, hm, ?_, j1, fun k hk => ?_, fun q => by omega, fun _ => ?_⟩
      · rw [kX _ _ (by omega) (by omega)]; exact i1
      · rw [kX _ _ (by omega) (by omega), i3 k hk, j3 k hk]
      · rw [kX _ _ (by omega) (by omega), i2, j2]
