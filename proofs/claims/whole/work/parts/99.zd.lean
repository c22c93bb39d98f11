theorem sc_v : ((scL 4096 0 0 (sI m00 3 9 (-1))).map fun M => (List.range 24).map (fun i => M.2 4 i)) = some ((List.range 24).map fun i => Int64.ofNat (cwE i)) := by decide +kernel
theorem sc_fr : ∀ (F : Nat) (x2 x3 : Int32) (M MS : Mm), scL F x2 x3 M = some MS → Fr (fun id _ => id = 4) M MS := by
  intro F
  induction F with
  | zero => intro x2 x3 M MS h; cases h
  | succ F ih =>
    intro x2 x3 M MS h
    rw [scL] at h
    by_cases c1 : 120 ≤ x3
    · rw [if_pos c1] at h; cases h; exact Fr_rf _ _
    rw [if_neg c1] at h
    by_cases c2 : 24 ≤ x2
    · rw [if_pos c2] at h; cases h; exact Fr_rf _ _
    rw [if_neg c2] at h
    unfold ck at h
    by_cases c3 : inb x3 120 = true
    · rw [if_pos c3] at h
      by_cases c4 : chW x3 = 32
      · rw [if_pos c4] at h; exact ih _ _ _ _ h
      · rw [if_neg c4] at h
        by_cases c5 : inb x2 24 = true
        · rw [if_pos c5] at h
          unfold sX10_joined at h
          rw [Option.bind_some] at h
          exact Fr_tr (Fr_sL (Fr_rf _ _) rfl) (ih _ _ _ _ h)
        · rw [if_neg c5] at h; cases h
    · rw [if_neg c3] at h; cases h
theorem sc_all : ∃ MS, scL 4096 0 0 (sI m00 3 9 (-1)) = some MS ∧ Fr (fun id k => id = 3 ∧ k = 9 ∨ id = 4) m00 MS ∧ iWx MS := by
  have hv := sc_v
  cases h : scL 4096 0 0 (sI m00 3 9 (-1)) with
  | none => rw [h] at hv; cases hv
  | some MS =>
    rw [h] at hv
    refine ⟨MS, rfl, Fr_tr (Fr_sI (Fr_rf _ _) (Or.inl ⟨rfl, rfl⟩)) (Fr_mo (sc_fr _ _ _ _ _ h) (fun _ _ q => Or.inr q)), fun i hi => ?_⟩
    have hl : (List.range 24).map (fun i => MS.2 4 i) = (List.range 24).map fun i => Int64.ofNat (cwE i) := Option.some.inj hv
    exact List.map_inj_left.mp hl i (List.mem_range.mpr hi)
def wrA : List Int32 → Nat → Mm → Mm
  | [], _, M => M
  | v :: L, s, M => wrA L (s + 1) (sI M 201 s v)
theorem wr_fr : ∀ (L : List Int32) (s : Nat) (M : Mm), Fr (fun id k => id = 201 ∧ s ≤ k) M (wrA L s M) := by
  intro L
  induction L with
  | nil => intro s M; exact Fr_rf _ _
  | cons v L ih => intro s M; exact Fr_tr (Fr_sI (Fr_rf _ _) ⟨rfl, Nat.le_refl _⟩) (Fr_mo (ih (s + 1) (sI M 201 s v)) (fun id k q => ⟨q.1, by omega⟩))
theorem wr_rd : ∀ (L : List Int32) (s : Nat) (M : Mm) (j : Nat), j < L.length → (wrA L s M).1 201 (s + j) = L.getD j 0 := by
  intro L
  induction L with
  | nil => intro s M j h; cases h
  | cons v L ih =>
    intro s M j h
    cases j with
    | zero =>
      show (wrA L (s + 1) (sI M 201 s v)).1 201 s = v
      rw [((wr_fr L (s + 1) (sI M 201 s v)) 201 s (by omega)).1, rdS]
    | succ j =>
      show (wrA L (s + 1) (sI M 201 s v)).1 201 (s + (j + 1)) = L.getD j 0
      rw [List.length_cons] at h
      rw [show s + (j + 1) = s + 1 + j by omega]
      exact ih (s + 1) (sI M 201 s v) j (by omega)
theorem mmW_wr (M : Mm) : mmW M = wrA wml 0 M := rfl
theorem mmB_fr : ∀ (k i : Nat) (M : Mm), Fr (fun id _ => 38 + 2 * i ≤ id ∧ id < 38 + 2 * (i + k)) M (mmB k i M) := by
  intro k
  induction k with
  | zero => intro i M; exact Fr_rf _ _
  | succ k ih =>
    intro i M
    show Fr _ M (mmB k (i + 1) (mmN (38 + 2 * i) M))
    unfold mmN
    exact Fr_tr (Fr_sI (Fr_sI (Fr_sI (Fr_rf _ _) (by omega)) (by omega)) (by omega)) (Fr_mo (ih (i + 1) _) (fun id j q => by omega))
theorem Zr_v {P : Nat → Nat → Prop} {n : Nat} {M M' : Mm} {Rf : Nat → Nat → Nat} (h : Zr n M Rf) (f : Fr P M M') (c : ∀ id k, n ≤ id → ¬ P id k) : Zr n M' Rf := fun id hi k => ⟨(f id k (c id k hi)).1.trans (h id hi k).1, (f id k (c id k hi)).2.trans (h id hi k).2.1, (h id hi k).2.2⟩
theorem z00 : Zr 0 m00 r00 := fun _ _ _ => ⟨rfl, rfl, rfl⟩
/-- where the constructors write -/
def pBg (id k : Nat) : Prop := id = 3 ∧ k = 9 ∨ id = 4 ∨ id = 1 ∧ k = 6 ∨ id = 22 ∨ 24 ≤ id ∧ id ≤ 33 ∨ 38 ≤ id ∧ id < 158 ∨ id = 162 ∧ (k = 2 ∨ k = 3) ∨ id = 174 ∧ k = 11 ∨ id = 194 ∧ (k = 3 ∨ k = 4 ∨ 10 ≤ k ∧ k ≤ 15 ∨ k = 18 ∨ k = 26) ∨ 196 ≤ id ∧ id ≤ 201
theorem begins : ∃ MB, Begun MB ∧ Inv (14, 6) MB := by
  obtain ⟨MS, s1, s2, s3⟩ := sc_all
  have zS : Zr 5 MS (rf_scan (up2 r00 1 0 2)) := by
    unfold rf_scan
    exact Zr_up (Zr_up (Zr_up (Zr_v (Zr_mono z00 (by omega)) s2 (fun id k h q => by omega)) (by omega)) (by omega)) (by omega)
  obtain ⟨X, hX⟩ : ∃ X, X = sI (sI (sI (sI (sI (mm_k14 (mm_kr MS)) 1 6 (-1)) 22 9 5) 22 10 20) 22 11 30) 22 12 60 := ⟨_, rfl⟩
  have fX : Fr (fun id k => id = 1 ∧ k = 6 ∨ id = 22 ∧ 9 ≤ k ∧ k ≤ 12) MS X := by
    rw [hX]
    exact Fr_sI (Fr_sI (Fr_sI (Fr_sI (Fr_sI (Fr_rf _ _) (by omega)) (by omega)) (by omega)) (by omega)) (by omega)
  have x16 : X.1 1 6 = -1 := by rw [hX, rdN (by omega), rdN (by omega), rdN (by omega), rdN (by omega), rdS]
  have x9 : X.1 22 9 = 5 := by rw [hX, rdN (by omega), rdN (by omega), rdN (by omega), rdS]
  have x10 : X.1 22 10 = 20 := by rw [hX, rdN (by omega), rdN (by omega), rdS]
  have x11 : X.1 22 11 = 30 := by rw [hX, rdN (by omega), rdS]
  have x12 : X.1 22 12 = 60 := by rw [hX, rdS]
  obtain ⟨ML, q1, q2, q3, q4, q5, q6, q7, q8⟩ := rn_all (M := X) (w := 4) (h := 4) (by omega) (by omega) (by omega)
  have q1' : sX6_renew 4 4 X = some ML := q1
  have z1 : Zr 34 (mm_k14 (mm_kr MS)) (up2 (rf_k14 (up2 (rf_kr (up2 (rf_scan (up2 r00 1 0 2)) 1 2 3)) 1 3 5)) 1 4 14) := Zr_mono (Zr_up (zr_k14 (Zr_up (zr_kr (Zr_up zS (by omega))) (by omega))) (by omega)) (by omega)
  have z2 : Zr 34 X (up2 (rf_k14 (up2 (rf_kr (up2 (rf_scan (up2 r00 1 0 2)) 1 2 3)) 1 3 5)) 1 4 14) := Zr_v z1 fX (fun id k h q => by omega)
  have z3 : Zr 34 ML (up2 (rf_k14 (up2 (rf_kr (up2 (rf_scan (up2 r00 1 0 2)) 1 2 3)) 1 3 5)) 1 4 14) := Zr_v z2 q2 (fun id k h q => by unfold pRn at q; omega)
  have zL : Zr 34 ML (rf_land (up2 (rf_k14 (up2 (rf_kr (up2 (rf_scan (up2 r00 1 0 2)) 1 2 3)) 1 3 5)) 1 4 14)) := by
    unfold rf_land
    exact Zr_up (Zr_up (Zr_up (Zr_up (Zr_up (Zr_up (Zr_upR z3 (by omega)) (by omega)) (by omega)) (by omega)) (by omega)) (by omega)) (by omega)
  have zD := zr_desk zL
  obtain ⟨D, hD⟩ : ∃ D, D = mm_desk ML := ⟨_, rfl⟩
  have hD' : D = sI (sI (sI (mmB 60 0 ML) 162 2 300) 162 3 100) 174 11 (-1) := hD
  have fD : Fr (fun id k => 38 ≤ id ∧ id < 158 ∨ id = 162 ∧ (k = 2 ∨ k = 3) ∨ id = 174 ∧ k = 11) ML D := by
    rw [hD']
    exact Fr_sI (Fr_sI (Fr_sI (Fr_mo (mmB_fr 60 0 ML) (fun id k q => by omega)) (by omega)) (by omega)) (by omega)
  have d2 : D.1 162 2 = 300 := by rw [hD', rdN (by omega), rdN (by omega), rdS]
  have d3 : D.1 162 3 = 100 := by rw [hD', rdN (by omega), rdS]
  have d11 : D.1 174 11 = -1 := by rw [hD', rdS]
  obtain ⟨Y0, hY0⟩ : ∃ Y0, Y0 = sI (sI (sI (sI (sI (sI (sI (sI D 194 3 4) 194 4 4) 194 10 5) 194 11 20) 194 12 30) 194 13 60) 194 14 300) 194 15 100 := ⟨_, rfl⟩
  have fY0 : Fr (fun id k => id = 194 ∧ (k = 3 ∨ k = 4 ∨ 10 ≤ k ∧ k ≤ 15)) D Y0 := by
    rw [hY0]
    exact Fr_sI (Fr_sI (Fr_sI (Fr_sI (Fr_sI (Fr_sI (Fr_sI (Fr_sI (Fr_rf _ _) (by omega)) (by omega)) (by omega)) (by omega)) (by omega)) (by omega)) (by omega)) (by omega)
  have y3 : Y0.1 194 3 = 4 := by rw [hY0, rdN (by omega), rdN (by omega), rdN (by omega), rdN (by omega), rdN (by omega), rdN (by omega), rdN (by omega), rdS]
  have y4 : Y0.1 194 4 = 4 := by rw [hY0, rdN (by omega), rdN (by omega), rdN (by omega), rdN (by omega), rdN (by omega), rdN (by omega), rdS]
  have y10 : Y0.1 194 10 = 5 := by rw [hY0, rdN (by omega), rdN (by omega), rdN (by omega), rdN (by omega), rdN (by omega), rdS]
  have y11 : Y0.1 194 11 = 20 := by rw [hY0, rdN (by omega), rdN (by omega), rdN (by omega), rdN (by omega), rdS]
  have y12 : Y0.1 194 12 = 30 := by rw [hY0, rdN (by omega), rdN (by omega), rdN (by omega), rdS]
  have y13 : Y0.1 194 13 = 60 := by rw [hY0, rdN (by omega), rdN (by omega), rdS]
  have y14 : Y0.1 194 14 = 300 := by rw [hY0, rdN (by omega), rdS]
  have y15 : Y0.1 194 15 = 100 := by rw [hY0, rdS]
  obtain ⟨Y, hY⟩ : ∃ Y, Y = sI (mmW Y0) 194 18 (-1) := ⟨_, rfl⟩
  have fY : Fr (fun id k => id = 194 ∧ k = 18 ∨ id = 201) Y0 Y := by
    rw [hY, mmW_wr]
    exact Fr_sI (Fr_mo (wr_fr wml 0 Y0) (fun id k q => Or.inr q.1)) (by omega)
  have yW : ∀ j, j < 121 → Y.1 201 j = wmc j := fun j hj => by
    rw [hY, rdN (by omega), mmW_wr]
    have := wr_rd wml 0 Y0 j hj
    rw [Nat.zero_add] at this
    exact this
  have y18 : Y.1 194 18 = -1 := by rw [hY, rdS]
  obtain ⟨MB, b1, b2, b3, b4⟩ := br_all Y
  have fYB : ∀ id k, ¬ pBare id k → MB.1 id k = Y.1 id k := fun id k q => (b2 id k q).1
  have fA : Fr pBg m00 MB := Fr_tr (Fr_mo s2 (fun id k q => by unfold pBg; omega)) (Fr_tr (Fr_mo fX (fun id k q => by unfold pBg; omega)) (Fr_tr (Fr_mo q2 (fun id k q => by unfold pRn at q; unfold pBg; omega)) (Fr_tr (Fr_mo fD (fun id k q => by unfold pBg; omega)) (Fr_tr (Fr_mo fY0 (fun id k q => by unfold pBg; omega)) (Fr_tr (Fr_mo fY (fun id k q => by unfold pBg; omega)) (Fr_mo b2 (fun id k q => by unfold pBare at q; unfold pBg; omega)))))))
  have g : ∀ id k, ¬ pBg id k → MB.1 id k = 0 := fun id k q => (fA id k q).1
  have n0 : (0 : Int32) = nI 0 := rfl
  have gL : ∀ id k, ¬ (38 ≤ id) → MB.1 id k = ML.1 id k := fun id k q => by
    rw [fYB _ _ (by unfold pBare; omega), (fY _ _ (by omega)).1, (fY0 _ _ (by omega)).1, (fD _ _ (by omega)).1]
  have gX : ∀ k, 3 ≤ k → MB.1 22 k = X.1 22 k := fun k q => by rw [gL _ _ (by omega), (q2 _ _ (by unfold pRn; omega)).1]
  have gY : ∀ k, k ≠ 18 → k ≠ 26 → MB.1 194 k = Y0.1 194 k := fun k h1 h2 => by rw [fYB _ _ (by unfold pBare; omega), (fY _ _ (by omega)).1]
  have gD : ∀ id k, 158 ≤ id → id < 194 → MB.1 id k = D.1 id k := fun id k h1 h2 => by rw [fYB _ _ (by unfold pBare; omega), (fY _ _ (by omega)).1, (fY0 _ _ (by omega)).1]
  have zB : Zr 238 MB (rf_model (rf_desk r00)) := by
    have w1 : Zr 238 D (rf_desk r00) := by rw [hD]; exact Zr_mono zD (by omega)
    have w2 : Zr 238 MB (rf_desk r00) := Zr_v (Zr_v (Zr_v w1 fY0 (fun id k h q => by omega)) fY (fun id k h q => by omega)) b2 (fun id k h q => by unfold pBare at q; omega)
    unfold rf_model
    repeat (first | exact w2 | refine Zr_up ?_ (by decide))
  have hb : Begun MB := ⟨MS, ML, s1, zS, by rw [← hX]; exact q1', zL, by rw [← hD, ← hY0, ← hY]; exact b1, zB⟩
  have hland : iLandW 4 4 MB := by
    have hz : ∀ c, c < 4 * 4 → hgt MB c = 0 := fun c q => by
      unfold hgt
      rw [(b4 c (by omega)).1]
      rfl
    refine ⟨by omega, ⟨?_, ?_, ?_, ?_, ?_⟩, fun c q => ?_, fun r c u1 u2 => ?_, fun c q => ?_, fun c q => Or.inl (b4 c (by omega)).2.2.1, ⟨?_, ?_, ?_, ?_⟩, fun c q => ?_⟩
    · rw [gL _ _ (by omega)]; exact q3
    · rw [gL _ _ (by omega)]; exact q4
    · rw [gL _ _ (by omega)]; exact q5
    · rw [gY _ (by omega) (by omega)]; exact y3
    · rw [gY _ (by omega) (by omega)]; exact y4
    · rw [gL _ _ (by omega), gL _ _ (by omega)]; exact q6 c q
    · rw [gL _ _ (by omega), q7 r c u1 u2]
      have h9 := b4 c (by omega)
      match r, u1 with
      | 0, _ => exact h9.1.symm
      | 1, _ => exact h9.2.1.symm
      | 2, _ => exact h9.2.2.1.symm
      | 3, _ => exact h9.2.2.2.1.symm
      | 4, _ => exact h9.2.2.2.2.symm
    · rw [hz c q, (b4 c (by omega)).1]; exact ⟨rfl, by omega⟩
    · rw [gX _ (by omega), gY _ (by omega) (by omega), x9, y10]
    · rw [gX _ (by omega), gY _ (by omega) (by omega), x10, y11]
    · rw [gX _ (by omega), gY _ (by omega) (by omega), x11, y12]
    · rw [gX _ (by omega), gY _ (by omega) (by omega), x12, y13]
    · have h9 := q8 c q
      unfold rkd at h9 ⊢
      rw [slN_cg (H := hgt MB) (H' := fun _ => 0) (by omega) q hz, gL _ _ (by omega), gL _ _ (by omega), gL _ _ (by omega), gL _ _ (by omega), gL _ _ (by omega), gL _ _ (by omega), gL _ _ (by omega), gL _ _ (by omega)]
      exact h9
  refine ⟨MB, hb, ⟨⟨Or.inr rfl, Or.inl rfl⟩, by decide⟩, ⟨0, by omega, g 1 1 (by unfold pBg; omega), g 194 1 (by unfold pBg; omega), fun k h => by omega⟩, ⟨?_, ?_⟩, ⟨?_, ?_, ⟨300, by omega, ?_⟩, ⟨100, by omega, ?_⟩⟩, ⟨0, by omega, g 162 7 (by unfold pBg; omega), g 194 70 (by unfold pBg; omega), fun k h => by omega⟩, ⟨0, by omega, g 174 10 (by unfold pBg; omega), g 194 74 (by unfold pBg; omega), fun k h => by omega, fun _ => ?_, fun h => absurd rfl h⟩, fun k _ => ⟨?_, 0, by omega, g 225 k (by unfold pBg; omega)⟩, fun c hc => ⟨⟨1, by omega, (b4 c hc).2.2.2.1⟩, Or.inl (b4 c hc).2.2.2.2⟩, ⟨fun i hi => ?_, fun j hj => ?_⟩, ⟨0, by omega, g 34 1 (by unfold pBg; omega), b3, fun i hi => by omega⟩, ⟨4, 4, 0, 0, ⟨hland, ⟨by omega, g 34 1 (by unfold pBg; omega), b3⟩, fun i hi => by omega, ⟨by omega, g 14 9 (by unfold pBg; omega), g 194 33 (by unfold pBg; omega), g 158 4 (by unfold pBg; omega)⟩, fun i hi => by omega, fun j hj => ⟨?_, 0, by omega, g 159 j (by unfold pBg; omega)⟩⟩, ⟨0, fun _ => [], fun _ => [], ⟨by omega, g 14 8 (by unfold pBg; omega), by show 0 ≤ 96; omega, fun l hl => by omega⟩, ⟨by omega, g 194 34 (by unfold pBg; omega), fun l hl => by omega⟩, fun l hl => by omega, fun i hi => by omega⟩⟩, ?_, ?_⟩
  · rw [g 1 5 (by unfold pBg; omega), g 194 17 (by unfold pBg; omega)]
  · rw [gL _ _ (by omega), (q2 _ _ (by unfold pRn; omega)).1, x16, fYB _ _ (by unfold pBare; omega), y18]
  · rw [gD _ _ (by omega) (by omega), d2, gY _ (by omega) (by omega), y14]
  · rw [gD _ _ (by omega) (by omega), d3, gY _ (by omega) (by omega), y15]
  · rw [gY _ (by omega) (by omega), y14]; rfl
  · rw [gY _ (by omega) (by omega), y15]; rfl
  · rw [gD _ _ (by omega) (by omega), d11]
  · rw [g 193 k (by unfold pBg; omega), g 225 k (by unfold pBg; omega)]
  · rw [(b2 4 i (by unfold pBare; omega)).2, (fY 4 i (by omega)).2, (fY0 4 i (by omega)).2, (fD 4 i (by omega)).2, (q2 4 i (by unfold pRn; omega)).2, (fX 4 i (by omega)).2]; exact s3 i hi
  · rw [fYB _ _ (by unfold pBare; omega)]; exact yW j hj
  · rw [g 224 j (by unfold pBg; omega), g 159 j (by unfold pBg; omega)]
  · rw [g 14 8 (by unfold pBg; omega), g 194 34 (by unfold pBg; omega)]
  · rw [g 14 10 (by unfold pBg; omega), g 194 35 (by unfold pBg; omega)]
