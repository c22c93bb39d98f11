theorem m_wk {T : Nat → Int32} {n q : Nat} {M : Mm} (x : Ms T n q M) : (M.1 194 21 = 1 ↔ ∃ i, wdx T n q = some i) ∧ ∀ i, wdx T n q = some i → M.1 194 22 = nI (prm i) := by
  obtain ⟨⟨x1, x2, x3, x4, x5, x6⟩, y, z, u, v, w, hb⟩ := x
  rw [x5]
  refine ⟨mK_2 w hb, fun i hi => ?_⟩
  obtain ⟨r1, r2, r3, r4, r5⟩ := wdx_r w hi
  rw [x6 (by omega), r5]
theorem prm_s {i : Nat} (h : i ≤ 12) : prm i = i := by unfold prm; rw [if_pos h]
theorem prm_b {i : Nat} (h : ¬ i ≤ 12) (h2 : i < 24) : 13 ≤ prm i := by
  unfold prm
  rw [if_neg h]
  split <;> omega
theorem prm_le {i m : Nat} (hm : m ≤ 12) (h2 : i < 24) : prm i ≤ m ↔ i ≤ m := by
  by_cases c : i ≤ 12
  · rw [prm_s c]
  · have := prm_b c h2
    omega
def pBm (N id k : Nat) : Prop := pMr id k ∨ id = 206 ∧ 48 * N ≤ k ∧ k < 48 * N + 48 ∨ id = 205 ∧ k = N
def Gw (N a b : Nat) (id k : Nat) : Prop := id = 206 ∧ 48 * N + a ≤ k ∧ k < 48 * N + b
theorem bm_r {N : Nat} {M M1 : Mm} (f : Fr pMr M M1) : Fr (pBm N) M M1 := Fr_mo f (fun id k q => Or.inl q)
theorem Ms_sI {T : Nat → Int32} {n q a j : Nat} {v : Int32} {M : Mm} (x : Ms T n q M) (h : 202 ≤ a) : Ms T n q (sI M a j v) := Ms_fr x (P := fun id _ => id = a) (Fr_sI (Fr_rf _ _) rfl) (fun id k q p => by omega)
theorem m_355 {N k : Nat} {M : Mm} (hN : N < 60) (e26 : M.1 194 26 = nI N) (e5 : M.1 205 N = nI k) : sX12_layerRead_355 M = some (1, sI M 205 N (nI (k + 1))) := by
  unfold sX12_layerRead_355
  rw [e26, ckT (inb_nI hN (by decide)), ckT (inb_nI hN (by decide)), nI_clamp (by omega), e5, nI_1]
theorem m_310 {T : Nat → Int32} {n q N k : Nat} {M : Mm} (hN : N < 60) (hk : k < 8) (e26 : M.1 194 26 = nI N) (e5 : M.1 205 N = nI k) (x : Ms T n q M) :
    (∃ w p M', rd3 T n q = .inl (w, p) ∧ sX12_layerRead_310 (nI (48 * N + 6 * k)) M = some (0, M') ∧ Fr (pBm N) M M' ∧ Mf w p M') ∨
    (∃ q' s M', rd3 T n q = .inr (q', s) ∧ sX12_layerRead_310 (nI (48 * N + 6 * k)) M = some (1, M') ∧ Fr (fun id z => pMr id z ∨ Gw N (6 * k + 5) (6 * k + 6) id z ∨ id = 205 ∧ z = N) M M' ∧ Ms T n q' M' ∧ M'.1 206 (48 * N + 6 * k + 5) = nI s ∧ M'.1 205 N = nI (k + 1)) := by
  unfold sX12_layerRead_310 rd3
  have hb := x.2.2.2.2.2.2
  have hq := x.2.2.2.2.2.1
  have e5' : nI (48 * N + 6 * k) + 5 = nI (48 * N + 6 * k + 5) := by rw [show (5 : Int32) = nI 5 from rfl, nI_add]
  have ib := inb_nI (show 48 * N + 6 * k + 5 < 2880 by omega) (by decide)
  have ci := nI_clamp (show 48 * N + 6 * k + 5 < 2 ^ 31 by omega)
  obtain ⟨A, eA⟩ : ∃ A, A = sI M 206 (48 * N + 6 * k + 5) 0 := ⟨_, rfl⟩
  rw [e5', ckT ib, ci, ← eA]
  have xA : Ms T n q A := by rw [eA]; exact Ms_sI x (by omega)
  have fA : Fr (fun id z => pMr id z ∨ Gw N (6 * k + 5) (6 * k + 6) id z ∨ id = 205 ∧ z = N) M A := by
    rw [eA]; exact Fr_sI (Fr_rf _ _) (Or.inr (Or.inl (by unfold Gw; omega)))
  have fall : ∀ {X Y : Mm}, Fr (fun id z => pMr id z ∨ Gw N (6 * k + 5) (6 * k + 6) id z ∨ id = 205 ∧ z = N) X Y → Fr (pBm N) X Y := fun {X Y} f => Fr_mo f (fun id z q => by unfold Gw pMr at q; unfold pBm pMr; omega)
  have a26 : A.1 194 26 = nI N := by rw [eA, rdN (by omega)]; exact e26
  have a5 : A.1 205 N = nI k := by rw [eA, rdN (by omega)]; exact e5
  have ew : sX12_isWord 12 A = some (b2 (wdR T n q 12 1), A) := m_isW (i := 12) hq hb xA.1 (by omega)
  rw [ew, Option.bind_some]
  dsimp only
  cases hw : wdR T n q 12 1 with
  | false =>
    rw [if_pos b2f, if_pos rfl, m_355 hN a26 a5]
    refine Or.inr ⟨q, 0, _, rfl, rfl, Fr_sI fA (Or.inr (Or.inr ⟨rfl, rfl⟩)), Ms_sI xA (by omega), ?_, rdS _ _ _ _⟩
    rw [rdN (by omega), eA, rdS]; rfl
  | true =>
    obtain ⟨B, e2, f2, x2⟩ := m_next xA
    rw [if_neg b2t0, if_neg (by decide), e2, Option.bind_some]
    have fB := Fr_tr fA (Fr_mo (mt_r f2) (fun id k q => Or.inl q))
    rcases m_num_ (m := 99) x2 (by omega) with ⟨c5, l5, D, e5, f5, v5, x5⟩ | ⟨c5, D, e5, f5, g5⟩
    · have e5'' : sX12_number 99 B = some (1, D) := e5
      rw [if_neg (fun z => z c5), e5'', Option.bind_some]
      dsimp only
      rw [if_neg one_, v5, ckT ib]
      have d26 : (sI D 206 (48 * N + 6 * k + 5) (nI (tN T n (tE T n q)))).1 194 26 = nI N := by
        rw [rdN (by omega), (f5 194 26 (by unfold pMr; omega)).1, (f2 194 26 (by unfold pMt; omega)).1]; exact a26
      have d5 : (sI D 206 (48 * N + 6 * k + 5) (nI (tN T n (tE T n q)))).1 205 N = nI k := by
        rw [rdN (by omega), (f5 205 N (by unfold pMr; omega)).1, (f2 205 N (by unfold pMt; omega)).1]; exact a5
      rw [m_355 hN d26 d5]
      refine Or.inr ⟨_, _, _, rfl, rfl, Fr_sI (Fr_sI (Fr_tr fB (Fr_mo f5 (fun id k q => Or.inl q))) (Or.inr (Or.inl (by unfold Gw; omega)))) (Or.inr (Or.inr ⟨rfl, rfl⟩)), Ms_sI (Ms_sI x5 (by omega)) (by omega), ?_, rdS _ _ _ _⟩
      rw [rdN (by omega), rdS]
    · have e5'' : sX12_number 99 B = some (0, D) := e5
      rw [if_pos c5, e5'', Option.bind_some]
      dsimp only
      rw [if_pos rfl]
      exact Or.inl ⟨_, _, D, rfl, rfl, Fr_tr (fall fB) (bm_r f5), g5⟩
theorem m_layer {T : Nat → Int32} {n q N k due : Nat} {M : Mm} (hN : N < 60) (hk : k < 8) (hd : due ≤ 300) (e26 : M.1 194 26 = nI N) (e5 : M.1 205 N = nI k) (x : Ms T n q M) :
    (∃ w p M', rdL T n q due = .inl (w, p) ∧ sX12_layerRead (nI due) M = some (0, M') ∧ Fr (pBm N) M M' ∧ Mf w p M') ∨
    (∃ q' l M', rdL T n q due = .inr (q', l) ∧ l.length = 6 ∧ l.getD 1 0 ≤ 300 ∧ sX12_layerRead (nI due) M = some (1, M') ∧ Fr (fun id z => pMr id z ∨ Gw N (6 * k) (6 * k + 6) id z ∨ id = 205 ∧ z = N) M M' ∧ Ms T n q' M' ∧ (∀ j, j < 6 → M'.1 206 (48 * N + 6 * k + j) = nI (l.getD j 0)) ∧ M'.1 205 N = nI (k + 1)) := by
  have fall : ∀ {X Y : Mm}, Fr (fun id z => pMr id z ∨ Gw N (6 * k) (6 * k + 6) id z ∨ id = 205 ∧ z = N) X Y → Fr (pBm N) X Y := fun {X Y} f => Fr_mo f (fun id z q => by unfold Gw pMr at q; unfold pBm pMr; omega)
  have wrg : ∀ {w q : Nat} {X : Mm}, Ms T n q X → ∃ X', (sX12_wrong (nI w) X).bind (fun (q24 : Int32 × Mm) => ck (isb q24.1) (some (q24.1, q24.2))) = some (0, X') ∧ Fr pMr X X' ∧ Mf w (tA T n q) X' := fun {w q X} y => by
    obtain ⟨X', e, f, g⟩ := m_wr (w := w) y
    exact ⟨X', by rw [e, Option.bind_some, ckT i0_], f, g⟩
  have e28 : sX12_layerRead (nI due) M = sX12_layerRead_28 (nI due) M := by
    unfold sX12_layerRead
    by_cases c : M.1 194 21 = 3
    · rw [if_pos c, e26, ckT (inb_nI hN (by decide)), nI_clamp (by omega), e5, if_neg (show ¬ nI k = 8 from ne_nI (b := 8) (by omega) (by omega) (by omega))]
    · rw [if_neg c]
  rw [e28]
  unfold sX12_layerRead_28 rdL rd1 rd2 nmF
  have eat : 48 * nI N + 6 * nI k = nI (48 * N + 6 * k) := by rw [show (48 : Int32) = nI 48 from rfl, show (6 : Int32) = nI 6 from rfl, nI_mul, nI_mul, nI_add]
  have ej : ∀ j, j < 6 → nI (48 * N + 6 * k) + nI j = nI (48 * N + 6 * k + j) ∧ inb (nI (48 * N + 6 * k + j)) 2880 = true ∧ (nI (48 * N + 6 * k + j)).toNatClampNeg = 48 * N + 6 * k + j := fun j hj => ⟨nI_add _ _, inb_nI (by omega) (by decide), nI_clamp (by omega)⟩
  have j1 := ej 1 (by omega)
  have j2 := ej 2 (by omega)
  have j3 := ej 3 (by omega)
  have j4 := ej 4 (by omega)
  have e1 : nI (48 * N + 6 * k) + 1 = nI (48 * N + 6 * k + 1) := j1.1
  have e2 : nI (48 * N + 6 * k) + 2 = nI (48 * N + 6 * k + 2) := j2.1
  have e3 : nI (48 * N + 6 * k) + 3 = nI (48 * N + 6 * k + 3) := j3.1
  have e4 : nI (48 * N + 6 * k) + 4 = nI (48 * N + 6 * k + 4) := j4.1
  rw [e26, ckT (inb_nI hN (by decide)), nI_clamp (show N < 2 ^ 31 by omega), e5, eat, e1, e2, e3, e4]
  obtain ⟨k1, k2⟩ := m_nk x
  by_cases c1 : tS T n q = 1
  case neg =>
    rw [if_neg (fun z => c1 (k1.mp z)), if_neg c1, if_pos (by omega)]
    obtain ⟨A, a1, a2, a3⟩ := wrg (w := 1) x
    have a1' : (sX12_wrong 1 M).bind (fun (q24 : Int32 × Mm) => ck (isb q24.1) (some (q24.1, q24.2))) = some (0, A) := a1
    rw [a1']
    exact Or.inl ⟨_, _, A, rfl, rfl, bm_r a2, a3⟩
  obtain ⟨v1, v2⟩ := k2 c1
  rw [if_pos (k1.mpr c1), if_pos c1, v1]
  by_cases c2 : tN T n q ≤ 300
  case neg =>
    rw [if_neg (show ¬ nI (tN T n q) ≤ 300 from nle_nI (b := 300) (by omega) (by omega)), if_neg c2, if_pos (by omega)]
    obtain ⟨A, a1, a2, a3⟩ := wrg (w := 2) x
    have a1' : (sX12_wrong 2 M).bind (fun (q24 : Int32 × Mm) => ck (isb q24.1) (some (q24.1, q24.2))) = some (0, A) := a1
    rw [a1']
    exact Or.inl ⟨_, _, A, rfl, rfl, bm_r a2, a3⟩
  rw [if_pos (show nI (tN T n q) ≤ 300 from nI_le (b := 300) c2 (by omega)), if_pos c2, if_neg (fun z => z rfl)]
  by_cases c3 : tN T n q = due
  case neg =>
    rw [if_neg (fun z => c3 (nI_inj (by omega) (by omega) z)), if_pos c3]
    obtain ⟨A, a1, a2, a3⟩ := wrg (w := 3) x
    have a1' : (sX12_wrong 3 M).bind (fun (q24 : Int32 × Mm) => ck (isb q24.1) (some (q24.1, q24.2))) = some (0, A) := a1
    rw [a1']
    exact Or.inl ⟨_, _, A, rfl, rfl, bm_r a2, a3⟩
  rw [if_pos (show nI (tN T n q) = nI due by rw [c3]), if_neg (show ¬ tN T n q ≠ due from fun z => z c3), ckT (inb_nI (by omega) (by decide)), nI_clamp (show 48 * N + 6 * k < 2 ^ 31 by omega), c3]
  have xa : Ms T n q (sI M 206 (48 * N + 6 * k) (nI due)) := Ms_sI x (by omega)
  obtain ⟨A, a1, a2, xA⟩ := m_next xa
  have fA : Fr (fun id z => pMr id z ∨ Gw N (6 * k) (6 * k + 6) id z ∨ id = 205 ∧ z = N) M A := Fr_tr (Fr_sI (Fr_rf _ _) (Or.inr (Or.inl (by unfold Gw; omega)))) (Fr_mo (mt_r a2) (fun id k q => Or.inl q))
  have A0 : A.1 206 (48 * N + 6 * k) = nI due := by rw [(a2 _ _ (by unfold pMt; omega)).1, rdS]
  have es : sX12_isSign 45 A = some (b2 (sgB T n (tE T n q) 45), A) := m_isSg (c := 45) xA.2.2.2.2.2.1 xA.2.2.2.2.2.2 xA.1 (Or.inl rfl)
  rw [a1, Option.bind_some, es, Option.bind_some]
  dsimp only
  cases c4 : sgB T n (tE T n q) 45 with
  | false =>
    rw [if_pos b2f, if_pos rfl]
    obtain ⟨B, b1, b2', b3⟩ := wrg (w := 1) xA
    have b1' : (sX12_wrong 1 A).bind (fun (q24 : Int32 × Mm) => ck (isb q24.1) (some (q24.1, q24.2))) = some (0, B) := b1
    rw [b1']
    exact Or.inl ⟨_, _, B, rfl, rfl, Fr_tr (fall fA) (bm_r b2'), b3⟩
  | true =>
  rw [if_neg b2t0, if_neg (by decide)]
  obtain ⟨B, b1, b2', xB⟩ := m_next xA
  have fB := Fr_tr fA (Fr_mo (mt_r b2') (fun id k q => Or.inl q))
  have B0 : B.1 206 (48 * N + 6 * k) = nI due := by rw [(b2' _ _ (by unfold pMt; omega)).1]; exact A0
  rw [b1, Option.bind_some]
  obtain ⟨m1, m2⟩ := m_nk xB
  by_cases c5 : tS T n (tE T n (tE T n q)) = 1
  case neg =>
    rw [if_neg (fun z => c5 (m1.mp z)), if_neg c5, if_pos (by omega)]
    obtain ⟨C, d1, d2, d3⟩ := wrg (w := 1) xB
    have d1' : (sX12_wrong 1 B).bind (fun (q24 : Int32 × Mm) => ck (isb q24.1) (some (q24.1, q24.2))) = some (0, C) := d1
    rw [d1']
    exact Or.inl ⟨_, _, C, rfl, rfl, Fr_tr (fall fB) (bm_r d2), d3⟩
  obtain ⟨w1, w2⟩ := m2 c5
  rw [if_pos (m1.mpr c5), if_pos c5, w1]
  by_cases c6 : tN T n (tE T n (tE T n q)) ≤ 300
  case neg =>
    rw [if_neg (show ¬ nI (tN T n (tE T n (tE T n q))) ≤ 300 from nle_nI (b := 300) (by omega) (by omega)), if_neg c6, if_pos (by omega)]
    obtain ⟨C, d1, d2, d3⟩ := wrg (w := 2) xB
    have d1' : (sX12_wrong 2 B).bind (fun (q24 : Int32 × Mm) => ck (isb q24.1) (some (q24.1, q24.2))) = some (0, C) := d1
    rw [d1']
    exact Or.inl ⟨_, _, C, rfl, rfl, Fr_tr (fall fB) (bm_r d2), d3⟩
  rw [if_pos (show nI (tN T n (tE T n (tE T n q))) ≤ 300 from nI_le (b := 300) c6 (by omega)), if_pos c6, if_neg (fun z => z rfl)]
  by_cases c7 : tN T n (tE T n (tE T n q)) ≤ due
  · rw [if_neg (nlt_nI c7 (by omega)), if_pos c7]
    obtain ⟨C, d1, d2, d3⟩ := wrg (w := 3) xB
    have d1' : (sX12_wrong 3 B).bind (fun (q24 : Int32 × Mm) => ck (isb q24.1) (some (q24.1, q24.2))) = some (0, C) := d1
    rw [d1']
    exact Or.inl ⟨_, _, C, rfl, rfl, Fr_tr (fall fB) (bm_r d2), d3⟩
  rw [if_pos (nI_lt (by omega) (by omega)), if_neg c7, ckT j1.2.1, j1.2.2]
  generalize tE T n (tE T n q) = qe at xB c5 c6 c7 w1 w2
  have xb : Ms T n qe (sI B 206 (48 * N + 6 * k + 1) (nI (tN T n qe))) := Ms_sI xB (by omega)
  obtain ⟨C, g1, g2, xC⟩ := m_next xb
  have fC := Fr_tr fB (Fr_tr (Fr_sI (P := fun id z => pMr id z ∨ Gw N (6 * k) (6 * k + 6) id z ∨ id = 205 ∧ z = N) (Fr_rf _ _) (Or.inr (Or.inl (by unfold Gw; omega)))) (Fr_mo (mt_r g2) (fun id k q => Or.inl q)))
  have C0 : C.1 206 (48 * N + 6 * k) = nI due := by rw [(g2 _ _ (by unfold pMt; omega)).1, rdN (by omega)]; exact B0
  have C1 : C.1 206 (48 * N + 6 * k + 1) = nI (tN T n qe) := by rw [(g2 _ _ (by unfold pMt; omega)).1, rdS]
  rw [g1, Option.bind_some]
  dsimp only
  generalize tE T n qe = q3 at xC
  obtain ⟨o1, o2⟩ := m_wk xC
  have hq3 := xC.2.2.2.2.2.1
  have w202 : ∀ {X : Mm}, Ms T n q3 X → ∃ X', sX12_layerRead_202 X = some (0, X') ∧ Fr pMr X X' ∧ Mf 1 (tA T n q3) X' := fun {X} y => wrg (w := 1) y
  cases c8 : wdR T n q3 0 6 with
  | false =>
    rw [if_pos rfl]
    obtain ⟨D, d1, d2, d3⟩ := w202 xC
    have e9 : (if C.1 194 21 = 1 then (if C.1 194 22 ≤ 5 then (ck (inb (nI (48 * N + 6 * k + 2)) 2880) ((sX12_take (sI C 206 (nI (48 * N + 6 * k + 2)).toNatClampNeg (C.1 194 22))).bind fun (M221 : Mm) => if (M221.1 194 21) = 1 then (if (M221.1 194 22) < 6 then (sX12_layerRead_250 M221) else (if (M221.1 194 22) ≤ 10 then (ck (inb (nI (48 * N + 6 * k + 3)) 2880) ((sX12_take (sI M221 206 (nI (48 * N + 6 * k + 3)).toNatClampNeg ((M221.1 194 22) - 6))).bind fun (M272 : Mm) => (sX12_isWord 11 M272).bind fun (q285 : Int32 × Mm) => sX12_layerRead_296 (nI (48 * N + 6 * k)) (nI (48 * N + 6 * k + 4)) (if q285.1 = 0 then 0 else 1) q285.2)) else (sX12_layerRead_250 M221))) else (sX12_layerRead_250 M221))) else (sX12_layerRead_202 C)) else (sX12_layerRead_202 C)) = some (0, D) := by
      by_cases z : C.1 194 21 = 1
      · obtain ⟨i, hi⟩ := o1.mp z
        obtain ⟨r1, -⟩ := wdx_r hq3 hi
        have hp := prm_lt r1
        have hni : ¬ i ≤ 5 := fun u => by
          unfold wdR at c8
          rw [hi] at c8
          simp only [Nat.zero_le, decide_true, Bool.true_and, decide_eq_false_iff_not] at c8
          omega
        rw [if_pos z, o2 i hi, if_neg (show ¬ nI (prm i) ≤ 5 from fun u => hni ((prm_le (m := 5) (by omega) r1).mp ((nI_leI (b := 5) (by omega) (by omega)).mp u))), d1]
      · rw [if_neg z, d1]
    rw [e9]
    exact Or.inl ⟨_, _, D, rfl, rfl, Fr_tr (fall fC) (bm_r d2), d3⟩
  | true =>
  rw [if_neg (show ¬ (true = false) by decide)]
  obtain ⟨i, p1, p2, p3, p4, p5, p6, p7⟩ := wdR_n hq3 c8
  rw [if_pos (o1.mpr ⟨i, p1⟩), o2 i p1, prm_s (by omega), if_pos (show nI i ≤ 5 from nI_le (b := 5) (by omega) (by omega)), ckT j2.2.1, j2.2.2]
  have xc : Ms T n q3 (sI C 206 (48 * N + 6 * k + 2) (nI i)) := Ms_sI xC (by omega)
  obtain ⟨D, g3, g4, xD⟩ := m_next xc
  have fD := Fr_tr fC (Fr_tr (Fr_sI (P := fun id z => pMr id z ∨ Gw N (6 * k) (6 * k + 6) id z ∨ id = 205 ∧ z = N) (Fr_rf _ _) (Or.inr (Or.inl (by unfold Gw; omega)))) (Fr_mo (mt_r g4) (fun id k q => Or.inl q)))
  have D0 : D.1 206 (48 * N + 6 * k) = nI due := by rw [(g4 _ _ (by unfold pMt; omega)).1, rdN (by omega)]; exact C0
  have D1 : D.1 206 (48 * N + 6 * k + 1) = nI (tN T n qe) := by rw [(g4 _ _ (by unfold pMt; omega)).1, rdN (by omega)]; exact C1
  have D2 : D.1 206 (48 * N + 6 * k + 2) = nI (wdn T n q3) := by rw [(g4 _ _ (by unfold pMt; omega)).1, rdS, p2]
  rw [g3, Option.bind_some]
  obtain ⟨o3, o4⟩ := m_wk xD
  have hq4 := xD.2.2.2.2.2.1
  cases c9 : wdR T n (tE T n q3) 6 5 with
  | false =>
    rw [if_pos rfl]
    obtain ⟨E, d1, d2, d3⟩ := wrg (w := 1) xD
    have d1' : sX12_layerRead_250 D = some (0, E) := d1
    have e9 : ∀ {Y : Option (Int32 × Mm)}, (if D.1 194 21 = 1 then (if D.1 194 22 < 6 then sX12_layerRead_250 D else (if D.1 194 22 ≤ 10 then Y else sX12_layerRead_250 D)) else sX12_layerRead_250 D) = some (0, E) := fun {Y} => by
      by_cases z : D.1 194 21 = 1
      · obtain ⟨i', hi'⟩ := o3.mp z
        obtain ⟨r1, -⟩ := wdx_r hq4 hi'
        have hp := prm_lt r1
        rw [if_pos z, o4 i' hi']
        by_cases u1 : nI (prm i') < 6
        · rw [if_pos u1, d1']
        · rw [if_neg u1]
          by_cases u2 : nI (prm i') ≤ 10
          · exfalso
            have l1 : prm i' ≤ 10 := (nI_leI (b := 10) (by omega) (by omega)).mp u2
            have l2 : 6 ≤ prm i' := by
              rcases Nat.lt_or_ge (prm i') 6 with z | z
              · exact absurd (nI_lt (b := 6) z (by omega)) u1
              · exact z
            have l3 : i' ≤ 12 := (prm_le (m := 12) (by omega) r1).mp (by omega)
            rw [prm_s l3] at l1 l2
            unfold wdR at c9
            rw [hi'] at c9
            simp only [decide_eq_true l2, Bool.true_and, decide_eq_false_iff_not] at c9
            omega
          · rw [if_neg u2, d1']
      · rw [if_neg z, d1']
    rw [e9]
    exact Or.inl ⟨_, _, E, rfl, rfl, Fr_tr (fall fD) (bm_r d2), d3⟩
  | true =>
  rw [if_neg (show ¬ (true = false) by decide)]
  obtain ⟨i', s1, s2, s3, s4, s5, s6, s7⟩ := wdR_n hq4 c9
  rw [if_pos (o3.mpr ⟨i', s1⟩), o4 i' s1, prm_s (by omega), if_neg (show ¬ nI i' < 6 from nlt_nI (b := 6) s3 (by omega)), if_pos (show nI i' ≤ 10 from nI_le (b := 10) (by omega) (by omega)), ckT j3.2.1, j3.2.2, show nI i' - 6 = nI (i' - 6) from nI_sb (b := 6) s3]
  have xd : Ms T n (tE T n q3) (sI D 206 (48 * N + 6 * k + 3) (nI (i' - 6))) := Ms_sI xD (by omega)
  obtain ⟨E, g5, g6, xE⟩ := m_next xd
  have fE := Fr_tr fD (Fr_tr (Fr_sI (P := fun id z => pMr id z ∨ Gw N (6 * k) (6 * k + 6) id z ∨ id = 205 ∧ z = N) (Fr_rf _ _) (Or.inr (Or.inl (by unfold Gw; omega)))) (Fr_mo (mt_r g6) (fun id k q => Or.inl q)))
  have Ev : ∀ j, j < 3 → E.1 206 (48 * N + 6 * k + j) = D.1 206 (48 * N + 6 * k + j) := fun j hj => by rw [(g6 _ _ (by unfold pMt; omega)).1, rdN (by omega)]
  have E3 : E.1 206 (48 * N + 6 * k + 3) = nI (wdn T n (tE T n q3) - 6) := by rw [(g6 _ _ (by unfold pMt; omega)).1, rdS, s2]
  rw [g5, Option.bind_some]
  generalize hq5 : tE T n (tE T n q3) = q5 at xE
  have em : sX12_isWord 11 E = some (b2 (wdR T n q5 11 1), E) := m_isW (i := 11) xE.2.2.2.2.2.1 xE.2.2.2.2.2.2 xE.1 (by omega)
  rw [em, Option.bind_some]
  dsimp only
  unfold sX12_layerRead_296
  have ef : (if b2 (wdR T n q5 11 1) = 0 then (0 : Int32) else 1) = nI (if wdR T n q5 11 1 = true then 1 else 0) := by cases wdR T n q5 11 1 <;> rfl
  rw [ef, ckT j4.2.1, j4.2.2]
  obtain ⟨H, eH⟩ : ∃ H, H = sI E 206 (48 * N + 6 * k + 4) (nI (if wdR T n q5 11 1 = true then 1 else 0)) := ⟨_, rfl⟩
  rw [← eH]
  have xH : Ms T n q5 H := by rw [eH]; exact Ms_sI xE (by omega)
  have fH : Fr (fun id z => pMr id z ∨ Gw N (6 * k) (6 * k + 6) id z ∨ id = 205 ∧ z = N) M H := by rw [eH]; exact Fr_sI fE (Or.inr (Or.inl (by unfold Gw; omega)))
  have em2 : sX12_isWord 11 H = some (b2 (wdR T n q5 11 1), H) := m_isW (i := 11) xH.2.2.2.2.2.1 xH.2.2.2.2.2.2 xH.1 (by omega)
  rw [em2, Option.bind_some]
  dsimp only
  obtain ⟨I, eI, fI, xI⟩ : ∃ I, (if b2 (wdR T n q5 11 1) = 0 then sX12_layerRead_310 (nI (48 * N + 6 * k)) H else (sX12_take H).bind (fun (M307 : Mm) => sX12_layerRead_310 (nI (48 * N + 6 * k)) M307)) = sX12_layerRead_310 (nI (48 * N + 6 * k)) I ∧ Fr pMt H I ∧ Ms T n (rdm T n q5) I := by
    unfold rdm
    cases wdR T n q5 11 1 with
    | false => exact ⟨H, by rw [if_pos b2f], Fr_rf _ _, by rw [if_neg ff_]; exact xH⟩
    | true =>
      obtain ⟨I, e, f, g⟩ := m_next xH
      exact ⟨I, by rw [if_neg b2t0, e, Option.bind_some], f, by rw [if_pos rfl]; exact g⟩
  rw [eI]
  have fI' := Fr_tr fH (Fr_mo (mt_r fI) (fun id k q => Or.inl q))
  have i26 : I.1 194 26 = nI N := by rw [(fI' 194 26 (by unfold pMr Gw; omega)).1]; exact e26
  have Mk5 : ∀ {X Y : Mm}, Fr (fun id z => pMr id z ∨ Gw N (6 * k) (6 * k + 6) id z) X Y → Y.1 205 N = X.1 205 N := fun {X Y} f => (f 205 N (by unfold pMr Gw; omega)).1
  have i5 : I.1 205 N = nI k := by
    rw [(fI 205 N (by unfold pMt; omega)).1, eH, rdN (by omega), (g6 205 N (by unfold pMt; omega)).1, rdN (by omega), (g4 205 N (by unfold pMt; omega)).1, rdN (by omega), (g2 205 N (by unfold pMt; omega)).1, rdN (by omega), (b2' 205 N (by unfold pMt; omega)).1, (a2 205 N (by unfold pMt; omega)).1, rdN (by omega)]
    exact e5
  have I206 : ∀ z, I.1 206 z = H.1 206 z := fun z => (fI 206 z (by unfold pMt; omega)).1
  rcases m_310 hN hk i26 i5 xI with ⟨w, p, J, r1, r2, r3, r4⟩ | ⟨q', s, J, r1, r2, r3, r4, r5, r6⟩
  · rw [r1, r2]
    exact Or.inl ⟨w, p, J, rfl, rfl, Fr_tr (fall fI') r3, r4⟩
  · rw [r1, r2]
    have J206 : ∀ j, j < 5 → J.1 206 (48 * N + 6 * k + j) = H.1 206 (48 * N + 6 * k + j) := fun j hj => by
      rw [(r3 206 _ (by unfold pMr Gw; omega)).1, I206]
    refine Or.inr ⟨q', _, J, rfl, rfl, c6, rfl, Fr_tr fI' (Fr_mo r3 (fun id z q => by unfold pMr Gw at q ⊢; omega)), r4, fun j hj => ?_, r6⟩
    match j, hj with
    | 0, _ => rw [J206 0 (by omega), eH, rdN (by omega), Ev 0 (by omega)]; exact D0
    | 1, _ => rw [J206 1 (by omega), eH, rdN (by omega), Ev 1 (by omega)]; exact D1
    | 2, _ => rw [J206 2 (by omega), eH, rdN (by omega), Ev 2 (by omega)]; exact D2
    | 3, _ => rw [J206 3 (by omega), eH, rdN (by omega)]; exact E3
    | 4, _ => rw [J206 4 (by omega), eH, rdS]; rfl
    | 5, _ => exact r5
