def pSc (id k : Nat) : Prop := id = 36 ∨ id = 37 ∨ id = 34 ∧ k = 3 ∨ id = 161 ∨ id = 158 ∧ (k = 6 ∨ k = 7) ∨ 180 ≤ id ∧ id ≤ 192 ∨ id = 194 ∧ (k = 2 ∨ k = 66) ∨ id = 207 ∨ id = 222 ∨ id = 223 ∨ id = 227 ∨ id = 228 ∨ id = 236 ∨ id = 237
theorem sc_ga {M M1 : Mm} (f : Fr pGa M M1) : Fr pSc M M1 := Fr_mo f (fun id k q => by unfold pGa at q; rcases q with rfl | rfl | ⟨rfl, rfl⟩ <;> simp [pSc])
theorem sc_w {M M1 : Mm} (f : Fr pW M M1) : Fr pSc M M1 := Fr_mo f (fun id k q => by unfold pW at q; rcases q with rfl | ⟨rfl, rfl | rfl⟩ <;> simp [pSc])
theorem sc_kn {M M1 : Mm} (f : Fr pKn M M1) : Fr pSc M M1 := Fr_mo f (fun id k q => by unfold pKn at q; rcases q with rfl | rfl | rfl | rfl <;> simp [pSc])
theorem sc_wm {M M1 : Mm} (f : Fr pWm M M1) : Fr pSc M M1 := Fr_mo f (fun id k q => by unfold pWm at q; rcases q with rfl | ⟨rfl, rfl⟩ <;> simp [pSc])
theorem sc_ev {M M1 : Mm} (f : Fr pEv M M1) : Fr pSc M M1 := Fr_mo f (fun id k q => by unfold pEv at q; rcases q with rfl | rfl <;> simp [pSc])
theorem sc_2 (M : Mm) : Fr pSc M (sI M 194 2 0) := Fr_sI (Fr_rf _ _) (by simp [pSc])
theorem sc_sm {kq : Nat × Nat} {M M1 : Mm} (hq : isKq kq) (f : Fr pSc M M1) : Sm kq M M1 := by
  have hk : kq.1 = 6 ∨ kq.1 = 14 := hq.1
  refine Sm_fr f (fun id k q p => ?_)
  unfold pSc at p
  rcases p with rfl | rfl | ⟨rfl, rfl⟩ | rfl | ⟨rfl, rfl | rfl⟩ | p | ⟨rfl, rfl | rfl⟩ | rfl | rfl | rfl | rfl | rfl | rfl | rfl
  all_goals (unfold rBk rLand at q; omega)
theorem nI_inj {a b : Nat} (ha : a < 2 ^ 31) (hb : b < 2 ^ 31) (h : nI a = nI b) : a = b := by
  have := congrArg Int32.toNatClampNeg h
  rw [nI_clamp ha, nI_clamp hb] at this
  exact this
theorem rEv_2 {M : Mm} : ∀ id k, rEv id k → (sI M 194 2 0).1 id k = M.1 id k := fun id k q => rdN (fun p => by unfold rEv at q; omega)
theorem step_told {kq : Nat × Nat} {w h N K : Nat} {M : Mm} (a1 a2 a3 a4 a5 a6 : Int32) (hn : iNotes M) (b : Bk kq w h N K M) : ∃ M1, st_told kq a1 a2 a3 a4 a5 a6 M = some (kq, M1) ∧ Fr pSc M M1 := by
  have one : ¬ (1 : Int32) = 0 := by decide
  have f0 := sc_2 M
  rcases bore_ask2 (x := a1) hn with ⟨q1, q2⟩ | ⟨i, ei, hi, ⟨n, hn', hin, e26⟩, hN, hb, q1, q2⟩
  · exact ⟨_, st_join (v := -2) (Ma := M) (by simp only [sX11_told, q1, Option.bind_some, if_true]) (by simp only [sX12_told, q2, Option.bind_some, if_true]), f0⟩
  subst ei
  have hNn : N = n := nI_inj (by have := b.2.1.1; omega) (by omega) (b.2.1.2.2.symm.trans e26)
  obtain ⟨g1, g2, ly, g3, g4, g5, -⟩ := hN.2.2 hb
  have hE := (b.2.2.2.2.1 i (by omega) hb).1 (sI M 194 2 0) rEv_2
  have ib := inb_nI hi (by decide)
  have ci := nI_clamp (show i < 2 ^ 31 by omega)
  have r3 : (sI M 194 2 0).1 203 i = M.1 203 i := rdN (by omega)
  have r4 : (sI M 194 2 0).1 204 i = M.1 204 i := rdN (by omega)
  have r5 : (sI M 194 2 0).1 205 i = M.1 205 i := rdN (by omega)
  by_cases c0 : a2 = 0
  · exact ⟨_, st_join (v := M.1 203 i) (Ma := M) (by simp only [sX11_told, q1, Option.bind_some, if_neg one, ckT ib, ci, if_pos c0, g1]) (by simp only [sX12_told, q2, Option.bind_some, if_neg one, ckT ib, ci, if_pos c0, r3]), f0⟩
  by_cases c1 : a2 = 1
  · exact ⟨_, st_join (v := M.1 204 i) (Ma := M) (by simp only [sX11_told, q1, Option.bind_some, if_neg one, ckT ib, ci, if_neg c0, if_pos c1, g2]) (by simp only [sX12_told, q2, Option.bind_some, if_neg one, ckT ib, ci, if_neg c0, if_pos c1, r4]), f0⟩
  by_cases c2 : a2 = 2
  · exact ⟨_, st_join (v := nI ly) (Ma := M) (by simp only [sX11_told, q1, Option.bind_some, if_neg one, ckT ib, ci, if_neg c0, if_neg c1, if_pos c2, g4]) (by simp only [sX12_told, q2, Option.bind_some, if_neg one, ckT ib, ci, if_neg c0, if_neg c1, if_pos c2, r5, g5]), f0⟩
  by_cases c3 : a2 = 3
  · obtain ⟨-, A, e1, e2⟩ := hE
    exact ⟨A, st_join (v := M.1 (38 + 2 * i) 5) (Ma := M) (by simp only [sX11_told, q1, Option.bind_some, if_neg one, ckT ib, ci, if_neg c0, if_neg c1, if_neg c2, if_pos c3]) (by simp only [sX12_told, q2, Option.bind_some, if_neg one, if_neg c0, if_neg c1, if_neg c2, if_pos c3, e1]), Fr_tr f0 (sc_ev e2)⟩
  by_cases c4 : a2 = 4
  · obtain ⟨⟨A, e1, e2⟩, -⟩ := hE
    exact ⟨A, st_join (v := M.1 (38 + 2 * i) 4) (Ma := M) (by simp only [sX11_told, q1, Option.bind_some, if_neg one, ckT ib, ci, if_neg c0, if_neg c1, if_neg c2, if_neg c3, if_pos c4]) (by simp only [sX12_told, q2, Option.bind_some, if_neg one, if_neg c0, if_neg c1, if_neg c2, if_neg c3, if_pos c4, e1]), Fr_tr f0 (sc_ev e2)⟩
  exact ⟨_, st_join (v := -2) (Ma := M) (by simp only [sX11_told, q1, Option.bind_some, if_neg one, ckT ib, if_neg c0, if_neg c1, if_neg c2, if_neg c3, if_neg c4]) (by simp only [sX12_told, q2, Option.bind_some, if_neg one, if_neg c0, if_neg c1, if_neg c2, if_neg c3, if_neg c4]), f0⟩
/-- the number of notes that the model knows of -/
theorem m_cnt {kq : Nat × Nat} {N n : Nat} {M0 M : Mm} (hn : n ≤ N) (hN : N ≤ 60) (eN : M.1 194 26 = nI N) (hk : ∀ i ∈ Lof M0 n, ∃ k, k < 8 ∧ M0.1 (38 + 2 * i) 5 = nI k) (x : Mk kq N M0 M (Lof M0 n)) : sX12_count_92 4096 0 0 M = some (nI (Lof M0 n).length, M) := by
  obtain ⟨a, M', e, f1, f2⟩ := lp_A (f := fun F a j M => sX12_count_92 F a j M) (n := N) (I := fun j a M' => M' = M ∧ a = nI ((List.range j).filter (fun i => decide (i ∈ Lof M0 n))).length) (fun F j a M1 hj hI => by
    obtain ⟨rfl, rfl⟩ := hI
    refine ⟨nI ((List.range (j + 1)).filter (fun i => decide (i ∈ Lof M0 n))).length, M1, ?_, rfl, rfl⟩
    show sX12_count_92 (F + 1) (nI ((List.range j).filter (fun i => decide (i ∈ Lof M0 n))).length) (nI j) M1 = _
    rw [sX12_count_92, eN, if_neg (nle_nI hj (by omega)), ckT (inb_nI (by omega) (by decide)), nI_clamp (by omega), x.2 j hj, List.range_succ, List.filter_append, List.length_append]
    unfold sX12_count_115
    rw [nI_1]
    by_cases z : j ∈ Lof M0 n
    · obtain ⟨k, hk1, hk2⟩ := hk j z
      rw [if_pos z, hk2, if_neg (Int32.not_lt.mpr (nI_nn (by omega))), nI_1, List.filter_cons_of_pos (by simp [z])]
      rfl
    · rw [if_neg z, if_pos (by decide), List.filter_cons_of_neg (by simp [z])]
      congr 1
      exact nI_add _ 0) N 0 4096 0 M (by omega) (by omega) ⟨rfl, rfl⟩
  refine Eq.trans e ?_
  show sX12_count_92 (4096 - N) a (nI N) M' = _
  obtain ⟨rfl, rfl⟩ := And.intro f1 f2
  rw [show 4096 - N = (4095 - N) + 1 by omega, sX12_count_92, eN, if_pos (nI_le (by omega) (by omega)), ← Lof_rg hn]
theorem Lof_k8 {kq : Nat × Nat} {w h N K n : Nat} {M : Mm} (b : Bk kq w h N K M) (hn : n ≤ N) : ∀ i ∈ Lof M n, ∃ k, k < 8 ∧ M.1 (38 + 2 * i) 5 = nI k := fun i hi => by
  obtain ⟨-, -, -, k, h1, h2⟩ := Lof_ok b hn i hi
  exact ⟨k, by have := b.2.2.2.1.1; omega, h2⟩
theorem step_count {kq : Nat × Nat} {w h N K : Nat} {M : Mm} (a1 a2 a3 a4 a5 a6 : Int32) (hq : isKq kq) (b : Bk kq w h N K M) (hl : M.1 kq.1 8 = M.1 194 34) (hk : M.1 kq.1 10 = M.1 194 35) : ∃ M1, st_count kq a1 a2 a3 a4 a5 a6 M = some (kq, M1) ∧ Fr pSc M M1 := by
  have f0 := sc_2 M
  have b1 := b.1.2.1
  have b2 := b.2.1
  have b4 := b.2.2.2.1
  by_cases c0 : a1 = 0
  · exact ⟨_, st_join (v := nI w) (Ma := M) (by simp only [sX11_count, if_pos c0, b1.1]) (by simp only [sX12_count, if_pos c0]; rw [rdN (by omega), b1.2.2.2.1]), f0⟩
  by_cases c1 : a1 = 1
  · exact ⟨_, st_join (v := nI h) (Ma := M) (by simp only [sX11_count, if_neg c0, if_pos c1, b1.2.1]) (by simp only [sX12_count, if_neg c0, if_pos c1]; rw [rdN (by omega), b1.2.2.2.2]), f0⟩
  by_cases c2 : a1 = 2
  · exact ⟨_, st_join (v := nI N) (Ma := M) (by simp only [sX11_count, if_neg c0, if_neg c1, if_pos c2, b2.2.1]) (by simp only [sX12_count, if_neg c0, if_neg c1, if_pos c2]; rw [rdN (by omega), b2.2.2]), f0⟩
  by_cases c3 : a1 = 3
  · exact ⟨_, st_join (v := nI K) (Ma := M) (by simp only [sX11_count, if_neg c0, if_neg c1, if_neg c2, if_pos c3, b4.2.1]) (by simp only [sX12_count, if_neg c0, if_neg c1, if_neg c2, if_pos c3]; rw [rdN (by omega), b4.2.2.1]), f0⟩
  by_cases c4 : a1 = 4
  · exact ⟨_, st_join (v := M.1 194 34) (Ma := M) (by simp only [sX11_count, if_neg c0, if_neg c1, if_neg c2, if_neg c3, if_pos c4, hl]) (by simp only [sX12_count, if_neg c0, if_neg c1, if_neg c2, if_neg c3, if_pos c4]; rw [rdN (by omega)]), f0⟩
  by_cases c5 : a1 = 5
  · exact ⟨_, st_join (v := M.1 194 35) (Ma := M) (by simp only [sX11_count, if_neg c0, if_neg c1, if_neg c2, if_neg c3, if_neg c4, if_pos c5, hk]) (by simp only [sX12_count, if_neg c0, if_neg c1, if_neg c2, if_neg c3, if_neg c4, if_pos c5]; rw [rdN (by omega)]), f0⟩
  by_cases c6 : a1 = 6
  · obtain ⟨A, e1, f1, x1⟩ := xk_gather hq b (Sm_rf kq M) (Nat.le_refl N)
    have s2 : Sm kq M (sI A 194 2 0) := Sm_tr x1.1 (sc_sm hq (sc_2 A))
    obtain ⟨B, e2, f2, x2⟩ := mk_know hq b s2 (Nat.le_refl N)
    have b' := Bk_sm b x2.1
    refine ⟨B, st_join (v := nI (Lof M N).length) (Ma := A) ?_ ?_, Fr_tr (sc_ga f1) (Fr_tr (sc_2 A) (sc_kn f2))⟩
    · simp only [sX11_count, if_neg c0, if_neg c1, if_neg c2, if_neg c3, if_neg c4, if_neg c5, if_pos c6, b2.2.1, e1, Option.bind_some, x1.2.1]
    · have e26 : (sI A 194 2 0).1 194 26 = nI N := (Bk_sm b s2).2.1.2.2
      simp only [sX12_count, if_neg c0, if_neg c1, if_neg c2, if_neg c3, if_neg c4, if_neg c5, if_pos c6, e26, e2, Option.bind_some]
      exact m_cnt (Nat.le_refl N) b.2.1.1 b'.2.1.2.2 (Lof_k8 b (Nat.le_refl N)) x2
  · exact ⟨_, st_join (v := -1) (Ma := M) (by simp only [sX11_count, if_neg c0, if_neg c1, if_neg c2, if_neg c3, if_neg c4, if_neg c5, if_neg c6]) (by simp only [sX12_count, if_neg c0, if_neg c1, if_neg c2, if_neg c3, if_neg c4, if_neg c5, if_neg c6]), f0⟩
theorem x_knows {M : Mm} {N : Nat} {x : Int32} (h : M.1 34 1 = nI N) : sX1_knows x M = some (if x < 0 then 0 else if nI N < x then 0 else 1, M) := by
  unfold sX1_knows
  rw [h]
theorem m_known {M : Mm} {N : Nat} {x : Int32} (h : M.1 194 26 = nI N) : sX12_isKnown x M = some (if x < 0 then 0 else if nI N < x then 0 else 1, M) := by
  unfold sX12_isKnown
  rw [h]
theorem Lof_60 {kq : Nat × Nat} {w h N K n : Nat} {M : Mm} (b : Bk kq w h N K M) (hn : n ≤ N) : ∀ j, j < (Lof M n).length → (nI j = -1 ↔ (Lof M n).getD j 0 = 60) := fun j hj => by
  have h1 := (Lof_ok b hn _ (getD_in hj)).1
  have h2 := Lof_len M n
  have h3 := b.2.1.1
  exact ⟨fun q => absurd q (nI_ne1 (by omega)), fun q => by omega⟩
theorem M_60 {N : Nat} (hN : N ≤ 60) : ∀ i, i < N → (nI i = -1 ↔ i = 60) := fun i hi => ⟨fun q => absurd q (nI_ne1 (by omega)), fun q => by omega⟩
theorem step_chance {kq : Nat × Nat} {w h N K : Nat} {M : Mm} (a1 a2 a3 a4 a5 a6 : Int32) (hq : isKq kq) (b : Bk kq w h N K M) : ∃ M1, st_chance kq a1 a2 a3 a4 a5 a6 M = some (kq, M1) ∧ Fr pSc M M1 := by
  have f0 := sc_2 M
  have one : ¬ (1 : Int32) = 0 := by decide
  have b0 := Bk_sm b (sc_sm hq f0)
  have h64 := wh64 b.1.1
  have xk := fun x => x_knows (x := x) b.2.1.2.1
  have mk := fun x => m_known (x := x) b0.2.1.2.2
  have xc := fun x => x_cell (x := x) b.1.2.1.2.2.1
  have mc := fun x => m_cell (x := x) b0.1.2.1.2.2.2.1 b0.1.2.1.2.2.2.2
  have eK := b.2.2.2.1.2.1
  have eK0 := b0.2.2.2.1.2.2.1
  have hN := b.2.1.1
  have hK := b.2.2.2.1.1
  by_cases c1 : a1 < 0
  · exact ⟨_, st_join (v := -1) (Ma := M) (by simp only [sX11_chance, sX11_chance_33, sX11_chance_38, xk, if_pos c1, Option.bind_some, if_true, if_neg one]) (by simp only [sX12_chance, mk, if_pos c1, Option.bind_some, if_true]), f0⟩
  by_cases c2 : nI N < a1
  · exact ⟨_, st_join (v := -1) (Ma := M) (by simp only [sX11_chance, sX11_chance_33, sX11_chance_38, xk, if_neg c1, if_pos c2, Option.bind_some, if_true, if_neg one]) (by simp only [sX12_chance, mk, if_neg c1, if_pos c2, Option.bind_some, if_true]), f0⟩
  by_cases d1 : a2 < 0
  · exact ⟨_, st_join (v := -1) (Ma := M) (by simp only [sX11_chance, sX11_chance_33, sX11_chance_38, xk, xc, if_neg c1, if_neg c2, if_pos d1, Option.bind_some, if_true, if_neg one]) (by simp only [sX12_chance, mk, mc, if_neg c1, if_neg c2, if_pos d1, if_neg one, Option.bind_some, if_true]), f0⟩
  by_cases d2 : nI (w * h) ≤ a2
  · exact ⟨_, st_join (v := -1) (Ma := M) (by simp only [sX11_chance, sX11_chance_33, sX11_chance_38, xk, xc, if_neg c1, if_neg c2, if_neg d1, if_pos d2, Option.bind_some, if_true, if_neg one]) (by simp only [sX12_chance, mk, mc, if_neg c1, if_neg c2, if_neg d1, if_pos d2, if_neg one, Option.bind_some, if_true]), f0⟩
  by_cases e1 : a4 < 0
  · exact ⟨_, st_join (v := -1) (Ma := M) (by simp only [sX11_chance, sX11_chance_33, sX11_chance_38, xk, xc, if_neg c1, if_neg c2, if_neg d1, if_neg d2, if_pos e1, Option.bind_some, if_neg one]) (by simp only [sX12_chance, mk, mc, if_neg c1, if_neg c2, if_neg d1, if_neg d2, if_pos e1, if_neg one, Option.bind_some]), f0⟩
  by_cases e2 : a4 ≤ 4
  case neg => exact ⟨_, st_join (v := -1) (Ma := M) (by simp only [sX11_chance, sX11_chance_33, sX11_chance_38, xk, xc, if_neg c1, if_neg c2, if_neg d1, if_neg d2, if_neg e1, if_neg e2, Option.bind_some, if_neg one]) (by simp only [sX12_chance, mk, mc, if_neg c1, if_neg c2, if_neg d1, if_neg d2, if_neg e1, if_pos (Int32.not_le.mp e2), if_neg one, Option.bind_some]), f0⟩
  have e2' : ¬ 4 < a4 := Int32.not_lt.mpr e2
  by_cases k0 : K = 0
  · subst k0
    exact ⟨_, st_join (v := -1) (Ma := M) (by simp only [sX11_chance, sX11_chance_38, xk, xc, if_neg c1, if_neg c2, if_neg d1, if_neg d2, if_neg e1, if_pos e2, Option.bind_some, if_neg one, eK, if_true]; rfl) (by simp only [sX12_chance, mk, mc, if_neg c1, if_neg c2, if_neg d1, if_neg d2, if_neg e1, if_neg e2', if_neg one, Option.bind_some, eK0]; rfl), f0⟩
  have nK : ¬ nI K = 0 := ne_nI (b := 0) k0 (by omega) (by omega)
  obtain ⟨n, hn, en⟩ := nI_ex (n := N) c1 (Int32.not_lt.mp c2) (by omega)
  subst en
  obtain ⟨c, hc, ec⟩ := nI_ex (n := w * h) d1 (Int32.le_of_lt (Int32.not_le.mp d2)) (by omega)
  subst ec
  have hcn : c < w * h := (nI_ltI (by omega) (by omega)).mp (Int32.not_le.mp d2)
  -- both go on alike
  have main : (2 ≤ a4 ∨ ∃ k, k < K ∧ a3 = nI k) → ∃ v A M1, sX11_chance_71 kq (nI n) (nI c) a3 a4 M = some (v, A) ∧ sX12_chance_59 (nI n) (nI c) a3 a4 (sI A 194 2 0) = some (v, M1) ∧ Fr pSc M M1 ∧ Fr pSc M A := by
    intro hk
    obtain ⟨A, g1, f1, x1⟩ := xk_gather hq b (Sm_rf kq M) hn
    obtain ⟨A2, g2, f2, x2, y2⟩ := xk_weigh (c := c) (wo := 60) (x2 := -1) hq b hn x1 hcn (Lof_60 b hn)
    obtain ⟨B, g3, f3, x3⟩ := mk_know (n := n) hq b (Sm_tr x2.1 (sc_sm hq (sc_2 A2))) hn
    obtain ⟨B2, g4, f4, x4, y4⟩ := mk_weigh (c := c) (wo := 60) (x2 := -1) hq b hn x3 hcn (M_60 hN)
    obtain ⟨-, t, t1, t2, t3⟩ := wt_sm2 (c := c) (wo := 60) b hn
    have b4 := Bk_sm b x4.1
    generalize hf : wt w M c (Lof M n) 60 = f at y2 y4 t3
    have hbK : bst f K < K := by
      rcases bst_lt f K with q | ⟨q, q2⟩ <;> omega
    have mb := m_best hK (by omega) b4.2.2.2.1.2.2.1 y4.1
    have fA : Fr pSc M A2 := Fr_tr (sc_ga f1) (sc_w f2)
    have fB : Fr pSc M B2 := Fr_tr fA (Fr_tr (sc_2 A2) (Fr_tr (sc_kn f3) (sc_wm f4)))
    by_cases w0 : a4 = 0
    · obtain ⟨k, hk1, hk2⟩ := hk.resolve_left (fun q => by rw [w0] at q; exact absurd q (by decide))
      subst hk2
      have ib := inb_nI (show k < 8 by omega) (by decide)
      exact ⟨f k, A2, B2, by simp only [sX11_chance_71, g1, g2, Option.bind_some, if_pos w0, ckT ib, nI_clamp (show k < 2 ^ 31 by omega), y2.1 k hk1], by simp only [sX12_chance_59, g3, g4, Option.bind_some, if_pos w0, ckT ib, nI_clamp (show k < 2 ^ 31 by omega), y4.1 k hk1], fB, fA⟩
    by_cases w1 : a4 = 1
    · obtain ⟨k, hk1, hk2⟩ := hk.resolve_left (fun q => by rw [w1] at q; exact absurd q (by decide))
      subst hk2
      exact ⟨prt f K k, A2, B2, by simp only [sX11_chance_71, g1, g2, Option.bind_some, if_neg w0, if_pos w1, x_part hK hk1 t3 t1 t2 y2], by simp only [sX12_chance_59, g3, g4, Option.bind_some, if_neg w0, if_pos w1, m_part hK hk1 t3 t1 t2 y4], fB, fA⟩
    by_cases w2 : a4 = 2
    · exact ⟨nI (bst f K), A2, B2, by simp only [sX11_chance_71, g1, g2, Option.bind_some, if_neg w0, if_neg w1, if_pos w2, y2.2.2], by simp only [sX12_chance_59, g3, g4, Option.bind_some, if_neg w0, if_neg w1, if_pos w2, mb], fB, fA⟩
    by_cases w3 : a4 = 3
    · exact ⟨1000 - prt f K (bst f K), A2, B2, by simp only [sX11_chance_71, sX2_doubt, g1, g2, Option.bind_some, if_neg w0, if_neg w1, if_neg w2, if_pos w3, y2.2.2, x_part hK hbK t3 t1 t2 y2], by simp only [sX12_chance_59, g3, g4, Option.bind_some, if_neg w0, if_neg w1, if_neg w2, if_pos w3, mb, m_part hK hbK t3 t1 t2 y4], fB, fA⟩
    exact ⟨tot f K, A2, B2, by simp only [sX11_chance_71, g1, g2, Option.bind_some, if_neg w0, if_neg w1, if_neg w2, if_neg w3, y2.2.1], by simp only [sX12_chance_59, g3, g4, Option.bind_some, if_neg w0, if_neg w1, if_neg w2, if_neg w3, y4.2], fB, fA⟩
  have xi : ∀ {A : Mm}, Fr pSc M A → sX12_chance (nI n) (nI c) a3 a4 A = if 2 ≤ a4 then sX12_chance_59 (nI n) (nI c) a3 a4 (sI A 194 2 0) else if a3 < 0 then some (-1, sI A 194 2 0) else if a3 < nI K then sX12_chance_59 (nI n) (nI c) a3 a4 (sI A 194 2 0) else some (-1, sI A 194 2 0) := by
    intro A fA
    have bA := Bk_sm b (sc_sm hq (Fr_tr fA (sc_2 A)))
    simp only [sX12_chance, m_known (x := nI n) bA.2.1.2.2, m_cell (x := nI c) bA.1.2.1.2.2.2.1 bA.1.2.1.2.2.2.2, if_neg c1, if_neg c2, if_neg d1, if_neg d2, if_neg e1, if_neg e2', if_neg one, Option.bind_some, bA.2.2.2.1.2.2.1, if_neg nK]
  have yi : sX11_chance kq (nI n) (nI c) a3 a4 M = if 2 ≤ a4 then sX11_chance_71 kq (nI n) (nI c) a3 a4 M else if a3 < 0 then some (-1, M) else if nI K ≤ a3 then some (-1, M) else sX11_chance_71 kq (nI n) (nI c) a3 a4 M := by
    simp only [sX11_chance, sX11_chance_38, xk, xc, if_neg c1, if_neg c2, if_neg d1, if_neg d2, if_neg e1, if_pos e2, Option.bind_some, if_neg one, if_true, eK, if_neg nK, sX11_isKind]
    by_cases u : 2 ≤ a4
    · rw [if_pos u, if_pos u]
    · rw [if_neg u, if_neg u]
      by_cases u1 : a3 < 0
      · rw [if_pos u1, if_pos u1, if_pos rfl]
      · rw [if_neg u1, if_neg u1]
        by_cases u2 : nI K ≤ a3
        · rw [if_pos u2, if_pos u2, if_pos rfl]
        · rw [if_neg u2, if_neg u2, if_neg one]
  by_cases u : 2 ≤ a4
  · obtain ⟨v, A, M1, m1, m2, m3, m4⟩ := main (Or.inl u)
    exact ⟨M1, st_join (v := v) (Ma := A) (by rw [yi, if_pos u, m1]) (by rw [xi m4, if_pos u, m2]), m3⟩
  · by_cases u1 : a3 < 0
    · exact ⟨_, st_join (v := -1) (Ma := M) (by rw [yi, if_neg u, if_pos u1]) (by rw [xi (Fr_rf _ _), if_neg u, if_pos u1]), f0⟩
    · by_cases u2 : nI K ≤ a3
      · exact ⟨_, st_join (v := -1) (Ma := M) (by rw [yi, if_neg u, if_neg u1, if_pos u2]) (by rw [xi (Fr_rf _ _), if_neg u, if_neg u1, if_neg (Int32.not_lt.mpr u2)]), f0⟩
      · obtain ⟨k, hk, ek⟩ := nI_ex (n := K) u1 (Int32.le_of_lt (Int32.not_le.mp u2)) (by omega)
        have hkK : k < K := by
          rw [ek] at u2
          exact (nI_ltI (by omega) (by omega)).mp (Int32.not_le.mp u2)
        obtain ⟨v, A, M1, m1, m2, m3, m4⟩ := main (Or.inr ⟨k, hkK, ek⟩)
        exact ⟨M1, st_join (v := v) (Ma := A) (by rw [yi, if_neg u, if_neg u1, if_neg u2, m1]) (by rw [xi m4, if_neg u, if_neg u1, if_pos (Int32.not_le.mp u2), m2]), m3⟩
