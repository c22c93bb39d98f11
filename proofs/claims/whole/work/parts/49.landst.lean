theorem rdI (M : Mm) (a j b k : Nat) (v : Int32) : (sI M a j v).1 b k = if b = a ∧ k = j then v else M.1 b k := by simp only [sI, up2]
theorem slN_cg {w h c : Nat} {H H' : Nat → Nat} (h1 : 1 ≤ w) (hc : c < w * h) (e : ∀ c, c < w * h → H c = H' c) : slN w (w * h) H c = slN w (w * h) H' c := by
  have hm : c % w ≤ c := Nat.mod_le _ _
  have hc1 : c % w + 1 < w → c + 1 < w * h := by
    intro q
    have e9 := Nat.div_add_mod c w
    have h8 : c / w < h := Nat.div_lt_of_lt_mul hc
    have h7 : w * (c / w) + w ≤ w * h := by
      rw [← Nat.mul_succ]
      exact Nat.mul_le_mul_left w h8
    omega
  unfold slN
  rw [e c hc]
  congr 1
  · congr 1
    · congr 1
      · split
        · rw [e (c - 1) (by omega)]
        · rfl
      · split
        · rename_i q
          rw [e (c + 1) (hc1 q)]
        · rfl
    · split
      · rw [e (c - w) (by omega)]
      · rfl
  · split
    · rename_i q
      rw [e (c + w) q]
    · rfl
def xl0 (w h : Nat) (M : Mm) : Prop := (2 ≤ w ∧ w ≤ 8 ∧ 2 ≤ h ∧ h ≤ 8) ∧ (M.1 22 0 = nI w ∧ M.1 22 1 = nI h ∧ M.1 22 2 = nI (w * h)) ∧ (∀ c, c < w * h → M.1 29 c = nI (c % w) ∧ M.1 30 c = nI (c / w)) ∧ (∀ c, c < w * h → ∃ v, v ≤ 999 ∧ M.1 24 c = nI v)
def hgx (M : Mm) (c : Nat) : Nat := (M.1 24 c).toNatClampNeg
theorem wh64 {w h : Nat} (g : 2 ≤ w ∧ w ≤ 8 ∧ 2 ≤ h ∧ h ≤ 8) : w * h ≤ 64 := Nat.le_trans (Nat.mul_le_mul g.2.1 g.2.2.2) (by decide)
theorem rk_x {w h : Nat} {M : Mm} (g : xl0 w h M) : ∃ M2, sX6_reckon M = some M2 ∧ Fr pRk M M2 ∧ ∀ c, c < w * h → rkd w (w * h) (hgx M) M M2 c := by
  obtain ⟨g1, ⟨g2, g3, g4⟩, g5, g6⟩ := g
  refine rk_all (wh64 g1) (fun c hc => ?_) g2 g4 (by omega) g1.2.1 ⟨h, rfl⟩ (fun c hc => (g5 c hc).1)
  obtain ⟨v, hv, e⟩ := g6 c hc
  unfold hgx
  rw [e, nI_clamp (by omega)]
  exact ⟨rfl, hv⟩
def pMo (id _k : Nat) : Prop := 194 ≤ id ∧ id ≤ 237
theorem iLandW_mk {w h : Nat} {A A2 B : Mm} (g : xl0 w h A) (f1 : Fr pRk A A2) (r : ∀ c, c < w * h → rkd w (w * h) (hgx A) A A2 c) (f2 : Fr pMo A2 B) (e3 : B.1 194 3 = nI w) (e4 : B.1 194 4 = nI h) (er : ∀ r c, r < 5 → c < w * h → A.1 (24 + r) c = B.1 (196 + r) c) (ef : ∀ c, c < w * h → B.1 198 c = -1 ∨ ∃ v, v ≤ 99 ∧ B.1 198 c = nI v) (eb : A.1 22 9 = B.1 194 10 ∧ A.1 22 10 = B.1 194 11 ∧ A.1 22 11 = B.1 194 12 ∧ A.1 22 12 = B.1 194 13) : iLandW w h B := by
  have fx : ∀ id k, id < 31 → B.1 id k = A.1 id k := fun id k q => ((f2 id k (by unfold pMo; omega)).1).trans (f1 id k (by unfold pRk; omega)).1
  have fy : ∀ id k, id < 194 → B.1 id k = A2.1 id k := fun id k q => (f2 id k (by unfold pMo; omega)).1
  obtain ⟨g1, ⟨g2, g3, g4⟩, g5, g6⟩ := g
  have e196 : ∀ c, c < w * h → B.1 196 c = A.1 24 c := fun c hc => (er 0 c (by omega) hc).symm
  refine ⟨g1, ⟨by rw [fx _ _ (by omega)]; exact g2, by rw [fx _ _ (by omega)]; exact g3, by rw [fx _ _ (by omega)]; exact g4, e3, e4⟩, fun c q => by rw [fx _ _ (by omega), fx _ _ (by omega)]; exact g5 c q, fun r c q1 q2 => by rw [fx _ _ (by omega)]; exact er r c q1 q2, fun c q => ?_, ef, ?_, fun c q => ?_⟩
  · obtain ⟨v, hv, e⟩ := g6 c q
    unfold hgt
    rw [e196 c q, e, nI_clamp (by omega)]
    exact ⟨rfl, hv⟩
  · rw [fx 22 _ (by omega), fx 22 _ (by omega), fx 22 _ (by omega), fx 22 _ (by omega)]; exact eb
  · have h9 := r c q
    unfold rkd at h9 ⊢
    rw [fx 22 _ (by omega), fx 22 _ (by omega), fx 22 _ (by omega), fx 22 _ (by omega), fx 26 _ (by omega), fy 31 _ (by omega), fy 32 _ (by omega), fy 33 _ (by omega), slN_cg (H := hgt B) (H' := hgx A) (by omega) q (fun c hc => by unfold hgt hgx; rw [e196 c hc])]
    exact h9
theorem xl0_of {w h : Nat} {M : Mm} (g : iLandW w h M) : xl0 w h M := by
  obtain ⟨g1, g2, g3, g4, g5, g6, g7, g8⟩ := g
  refine ⟨g1, ⟨g2.1, g2.2.1, g2.2.2.1⟩, g3, fun c hc => ⟨hgt M c, (g5 c hc).2, ?_⟩⟩
  rw [show (24 : Nat) = 24 + 0 from rfl, g4 0 c (by omega) hc]
  exact (g5 c hc).1
def iVals (M : Mm) : Prop := ∀ c, c < 64 → (∃ v, v ≤ 99 ∧ M.1 199 c = nI v) ∧ (M.1 200 c = -1 ∨ ∃ v, v ≤ 5 ∧ M.1 200 c = nI v)
theorem iVals_fr {P : Nat → Nat → Prop} {M M1 : Mm} (h : iVals M) (hf : Fr P M M1) (hP : ∀ id k, id = 199 ∨ id = 200 → ¬ P id k) : iVals M1 := fun c hc => by
  rw [(hf 199 c (hP _ _ (by omega))).1, (hf 200 c (hP _ _ (by omega))).1]
  exact h c hc
def pBnd (id k : Nat) : Prop := id = 22 ∨ 31 ≤ id ∧ id ≤ 33 ∨ id = 194 ∧ (k = 2 ∨ 10 ≤ k ∧ k ≤ 13)
theorem iLandW_p2 {w h : Nat} {M : Mm} (g : iLandW w h M) : iLandW w h (sI M 194 2 0) := iLandW_fr g (Fr_p2 M) (fun id k q p => by unfold rLand at q; unfold p2 at p; omega)
theorem step_bounds {kq : Nat × Nat} {M : Mm} (a1 a2 a3 a4 a5 a6 : Int32) (hi : iLand M) : ∃ M1, st_bounds kq a1 a2 a3 a4 a5 a6 M = some (kq, M1) ∧ iLand M1 ∧ Fr pBnd M M1 := by
  obtain ⟨w, h, g⟩ := hi
  have g0 := iLandW_p2 g
  have f0 : Fr pBnd M (sI M 194 2 0) := Fr_sI (Fr_rf _ _) (by unfold pBnd; omega)
  have i0 : isb 0 = true := by decide
  have i1 : isb 1 = true := by decide
  by_cases c1 : a1 < 0
  · exact ⟨_, st_join (v := 0) (Ma := M) (by simp only [sX11_bounds, sX6_putBounds, if_pos c1, Option.bind_some, ckT i0]) (by simp only [sX12_bounds, if_pos c1]), ⟨w, h, g0⟩, f0⟩
  by_cases c2 : 1 < a1
  · exact ⟨_, st_join (v := 0) (Ma := M) (by simp only [sX11_bounds, sX6_putBounds, if_neg c1, if_pos c2, Option.bind_some, ckT i0]) (by simp only [sX12_bounds, if_neg c1, if_pos c2]), ⟨w, h, g0⟩, f0⟩
  by_cases c3 : a2 < 1
  · exact ⟨_, st_join (v := 0) (Ma := M) (by simp only [sX11_bounds, sX6_putBounds, if_neg c1, if_neg c2, if_pos c3, Option.bind_some, ckT i0]) (by simp only [sX12_bounds, if_neg c1, if_neg c2, if_pos c3]), ⟨w, h, g0⟩, f0⟩
  by_cases c4 : a3 ≤ a2
  · exact ⟨_, st_join (v := 0) (Ma := M) (by simp only [sX11_bounds, sX6_putBounds, if_neg c1, if_neg c2, if_neg c3, if_pos c4, Option.bind_some, ckT i0]) (by simp only [sX12_bounds, if_neg c1, if_neg c2, if_neg c3, if_pos c4]), ⟨w, h, g0⟩, f0⟩
  by_cases c5 : a3 ≤ (if a1 = 0 then 999 else 99)
  · have gx := xl0_of g
    obtain ⟨g1, g2, g3, g4, g5, g6, g7, g8⟩ := g
    by_cases c6 : a1 = 0
    · have c7 : a3 ≤ 999 := by rw [if_pos c6] at c5; exact c5
      obtain ⟨A, eA⟩ : ∃ A, A = sI (sI M 22 9 a2) 22 10 a3 := ⟨_, rfl⟩
      have gA : xl0 w h A := by
        obtain ⟨k1, k2, k3, k4⟩ := gx
        rw [eA]
        refine ⟨k1, ?_, fun c q => ?_, fun c q => ?_⟩
        · simpa [rdI] using k2
        · simpa [rdI] using k3 c q
        · simpa [rdI] using k4 c q
      obtain ⟨A2, q1, q2, q3⟩ := rk_x gA
      have fM : ∀ id k, 194 ≤ id → A2.1 id k = M.1 id k := fun id k q => by
        rw [(q2 id k (by unfold pRk; omega)).1, eA, rdN (by omega), rdN (by omega)]
      refine ⟨sI (sI (sI A2 194 2 0) 194 10 a2) 194 11 a3, st_join (v := 1) (Ma := A2) (by simp only [sX11_bounds, sX6_putBounds, sX6_putBounds_32, sX6_putBounds_64, if_neg c1, if_neg c2, if_neg c3, if_neg c4, if_pos c6, if_pos c7, ← eA, q1, Option.bind_some, ckT i1]) (by simp only [sX12_bounds, sX12_bounds_37, if_neg c1, if_neg c2, if_neg c3, if_neg c4, if_pos c6, if_pos c7]), ⟨w, h, ?_⟩, ?_⟩
      · refine iLandW_mk gA q2 q3 (Fr_sI (Fr_sI (Fr_sI (Fr_rf _ _) (by unfold pMo; omega)) (by unfold pMo; omega)) (by unfold pMo; omega)) (by simpa [rdI, fM] using g2.2.2.2.1) (by simpa [rdI, fM] using g2.2.2.2.2) (fun r c u1 u2 => ?_) (fun c u => by simpa [rdI, fM] using g6 c u) ?_
        · rw [rdN (by omega), rdN (by omega), rdN (by omega), fM _ _ (by omega), eA, rdN (by omega), rdN (by omega)]
          exact g4 r c u1 u2
        · rw [eA]
          simp [rdI, fM, g7.2.2]
      · refine Fr_sI (Fr_sI (Fr_sI (Fr_tr (M1 := A) ?_ (Fr_mo q2 (fun id k u => by unfold pRk at u; unfold pBnd; omega))) (by unfold pBnd; omega)) (by unfold pBnd; omega)) (by unfold pBnd; omega)
        rw [eA]
        exact Fr_sI (Fr_sI (Fr_rf _ _) (by unfold pBnd; omega)) (by unfold pBnd; omega)
    · have c7 : a3 ≤ 99 := by rw [if_neg c6] at c5; exact c5
      obtain ⟨A, eA⟩ : ∃ A, A = sI (sI M 22 11 a2) 22 12 a3 := ⟨_, rfl⟩
      have gA : xl0 w h A := by
        obtain ⟨k1, k2, k3, k4⟩ := gx
        rw [eA]
        refine ⟨k1, ?_, fun c q => ?_, fun c q => ?_⟩
        · simpa [rdI] using k2
        · simpa [rdI] using k3 c q
        · simpa [rdI] using k4 c q
      obtain ⟨A2, q1, q2, q3⟩ := rk_x gA
      have fM : ∀ id k, 194 ≤ id → A2.1 id k = M.1 id k := fun id k q => by
        rw [(q2 id k (by unfold pRk; omega)).1, eA, rdN (by omega), rdN (by omega)]
      refine ⟨sI (sI (sI A2 194 2 0) 194 12 a2) 194 13 a3, st_join (v := 1) (Ma := A2) (by simp only [sX11_bounds, sX6_putBounds, sX6_putBounds_32, sX6_putBounds_64, if_neg c1, if_neg c2, if_neg c3, if_neg c4, if_neg c6, if_pos c7, ← eA, q1, Option.bind_some, ckT i1]) (by simp only [sX12_bounds, sX12_bounds_37, if_neg c1, if_neg c2, if_neg c3, if_neg c4, if_neg c6, if_pos c7]), ⟨w, h, ?_⟩, ?_⟩
      · refine iLandW_mk gA q2 q3 (Fr_sI (Fr_sI (Fr_sI (Fr_rf _ _) (by unfold pMo; omega)) (by unfold pMo; omega)) (by unfold pMo; omega)) (by simpa [rdI, fM] using g2.2.2.2.1) (by simpa [rdI, fM] using g2.2.2.2.2) (fun r c u1 u2 => ?_) (fun c u => by simpa [rdI, fM] using g6 c u) ?_
        · rw [rdN (by omega), rdN (by omega), rdN (by omega), fM _ _ (by omega), eA, rdN (by omega), rdN (by omega)]
          exact g4 r c u1 u2
        · rw [eA]
          simp [rdI, fM, g7.1, g7.2.1]
      · refine Fr_sI (Fr_sI (Fr_sI (Fr_tr (M1 := A) ?_ (Fr_mo q2 (fun id k u => by unfold pRk at u; unfold pBnd; omega))) (by unfold pBnd; omega)) (by unfold pBnd; omega)) (by unfold pBnd; omega)
        rw [eA]
        exact Fr_sI (Fr_sI (Fr_rf _ _) (by unfold pBnd; omega)) (by unfold pBnd; omega)
  · exact ⟨_, st_join (v := 0) (Ma := M) (by simp only [sX11_bounds, sX6_putBounds, sX6_putBounds_32, if_neg c1, if_neg c2, if_neg c3, if_neg c4, if_neg c5, Option.bind_some, ckT i0]) (by simp only [sX12_bounds, sX12_bounds_37, if_neg c1, if_neg c2, if_neg c3, if_neg c4, if_neg c5]), ⟨w, h, g0⟩, f0⟩
def pGr (id k : Nat) : Prop := 24 ≤ id ∧ id ≤ 28 ∨ 31 ≤ id ∧ id ≤ 33 ∨ 196 ≤ id ∧ id ≤ 200 ∨ id = 194 ∧ k = 2
theorem gr_x {M : Mm} {c r : Nat} {v : Int32} (hc : c < 64) (hr : r < 5) : sX6_put (nI c) (nI r) v M = if v < tLEAST r then some (0, M) else if v ≤ tMOST r then (sX6_reckon (sI M (24 + r) c v)).bind (fun M39 => some (1, M39)) else some (0, M) := by
  have e5 : ¬ (5 : Int32) ≤ nI r := lit_nle (n := 5) (by decide) hr (by decide)
  simp only [sX6_put, if_neg (Int32.not_lt.mpr (nI_nn (show r < 2 ^ 31 by omega))), if_neg e5, ckT (inb_nI hr (by decide)), ckT (inb_nI hc (by decide)), nI_clamp (show r < 2 ^ 31 by omega), nI_clamp (show c < 2 ^ 31 by omega)]
theorem gr_m {M : Mm} {w h c r : Nat} {v : Int32} (e3 : M.1 194 3 = nI w) (e4 : M.1 194 4 = nI h) (hw : w * h ≤ 64) (hc : c < w * h) (hr : r < 5) : sX12_ground (nI c) (nI r) v M = if v < tLEAST r then some (0, sI M 194 2 0) else if v ≤ tMOST r then some (1, sI (sI M 194 2 0) (196 + r) c v) else some (0, sI M 194 2 0) := by
  have e3' : (sI M 194 2 0).1 194 3 = nI w := by rw [rdN (by omega)]; exact e3
  have e4' : (sI M 194 2 0).1 194 4 = nI h := by rw [rdN (by omega)]; exact e4
  have q1 : ¬ nI c < 0 := Int32.not_lt.mpr (nI_nn (by omega))
  have q2 : ¬ nI (w * h) ≤ nI c := fun q => by have := (nI_leI (by omega) (by omega)).mp q; omega
  have one : ¬ (1 : Int32) = 0 := by decide
  have ic := inb_nI (show c < 64 by omega) (by decide)
  have cc := nI_clamp (show c < 2 ^ 31 by omega)
  simp only [sX12_ground, m_cell e3' e4', if_neg q1, if_neg q2, Option.bind_some, if_neg one, ckT ic, cc]
  match r, hr with
  | 0, _ => rfl
  | 1, _ => rfl
  | 2, _ => rfl
  | 3, _ => rfl
  | 4, _ => rfl
theorem step_ground {kq : Nat × Nat} {M : Mm} (a1 a2 a3 a4 a5 a6 : Int32) (hi : iLand M) (hv : iVals M) : ∃ M1, st_ground kq a1 a2 a3 a4 a5 a6 M = some (kq, M1) ∧ iLand M1 ∧ iVals M1 ∧ Fr pGr M M1 := by
  obtain ⟨w, h, g⟩ := hi
  have g0 := iLandW_p2 g
  have f0 : Fr pGr M (sI M 194 2 0) := Fr_sI (Fr_rf _ _) (by unfold pGr; omega)
  have v0 : iVals (sI M 194 2 0) := iVals_fr hv (Fr_p2 M) (fun id k q p => by unfold p2 at p; omega)
  have e2 := g.2.1.2.2.1
  have e3 := g0.2.1.2.2.2.1
  have e4 := g0.2.1.2.2.2.2
  have one : ¬ (1 : Int32) = 0 := by decide
  have h64 := wh64 g.1
  by_cases c1 : a1 < 0
  · exact ⟨_, st_join (v := 0) (Ma := M) (by simp only [sX11_ground, x_cell e2, if_pos c1, Option.bind_some, if_true]) (by simp only [sX12_ground, m_cell e3 e4, if_pos c1, Option.bind_some, if_true]), ⟨w, h, g0⟩, v0, f0⟩
  by_cases c2 : nI (w * h) ≤ a1
  · exact ⟨_, st_join (v := 0) (Ma := M) (by simp only [sX11_ground, x_cell e2, if_neg c1, if_pos c2, Option.bind_some, if_true]) (by simp only [sX12_ground, m_cell e3 e4, if_neg c1, if_pos c2, Option.bind_some, if_true]), ⟨w, h, g0⟩, v0, f0⟩
  obtain ⟨c, hc, ec⟩ := nI_ex (n := w * h) c1 (Int32.le_of_lt (Int32.not_le.mp c2)) (by omega)
  subst ec
  have hcn : c < w * h := (nI_ltI (by omega) (by omega)).mp (Int32.not_le.mp c2)
  by_cases d1 : a2 < 0
  · have n0 : ¬ a2 = 0 := fun q => by rw [q] at d1; exact absurd d1 (by decide)
    have n1 : ¬ a2 = 1 := fun q => by rw [q] at d1; exact absurd d1 (by decide)
    have n2 : ¬ a2 = 2 := fun q => by rw [q] at d1; exact absurd d1 (by decide)
    have n3 : ¬ a2 = 3 := fun q => by rw [q] at d1; exact absurd d1 (by decide)
    have n4 : ¬ a2 = 4 := fun q => by rw [q] at d1; exact absurd d1 (by decide)
    exact ⟨_, st_join (v := 0) (Ma := M) (by simp only [sX11_ground, sX6_put, x_cell e2, if_neg c1, if_neg c2, if_neg one, if_pos d1, Option.bind_some, if_true]) (by simp only [sX12_ground, m_cell e3 e4, if_neg c1, if_neg c2, if_neg one, if_neg n0, if_neg n1, if_neg n2, if_neg n3, if_neg n4, Option.bind_some]), ⟨w, h, g0⟩, v0, f0⟩
  by_cases d2 : 5 ≤ a2
  · have n0 : ¬ a2 = 0 := fun q => by rw [q] at d2; exact absurd d2 (by decide)
    have n1 : ¬ a2 = 1 := fun q => by rw [q] at d2; exact absurd d2 (by decide)
    have n2 : ¬ a2 = 2 := fun q => by rw [q] at d2; exact absurd d2 (by decide)
    have n3 : ¬ a2 = 3 := fun q => by rw [q] at d2; exact absurd d2 (by decide)
    have n4 : ¬ a2 = 4 := fun q => by rw [q] at d2; exact absurd d2 (by decide)
    exact ⟨_, st_join (v := 0) (Ma := M) (by simp only [sX11_ground, sX6_put, x_cell e2, if_neg c1, if_neg c2, if_neg one, if_neg d1, if_pos d2, Option.bind_some, if_true]) (by simp only [sX12_ground, m_cell e3 e4, if_neg c1, if_neg c2, if_neg one, if_neg n0, if_neg n1, if_neg n2, if_neg n3, if_neg n4, Option.bind_some]), ⟨w, h, g0⟩, v0, f0⟩
  obtain ⟨r, hr, er⟩ := nI_ex (n := 5) d1 (Int32.le_of_lt (Int32.not_le.mp d2)) (by decide)
  subst er
  have hr5 : r < 5 := (nI_ltI (b := 5) (by omega) (by decide)).mp (Int32.not_le.mp d2)
  have hx := gr_x (M := M) (v := a3) (show c < 64 by omega) hr5
  by_cases k1 : a3 < tLEAST r
  · exact ⟨_, st_join (v := 0) (Ma := M) (by simp only [sX11_ground, hx, x_cell e2, if_neg c1, if_neg c2, if_neg one, if_pos k1, Option.bind_some, if_true]) (by rw [gr_m g.2.1.2.2.2.1 g.2.1.2.2.2.2 h64 hcn hr5, if_pos k1]), ⟨w, h, g0⟩, v0, f0⟩
  by_cases k2 : a3 ≤ tMOST r
  · have gx := xl0_of g
    obtain ⟨A, eA⟩ : ∃ A, A = sI M (24 + r) c a3 := ⟨_, rfl⟩
    have gA : xl0 w h A := by
      obtain ⟨k1, k2, k3, k4⟩ := gx
      rw [eA]
      refine ⟨k1, ?_, fun c q => ?_, fun d q => ?_⟩
      · rw [rdN (by omega), rdN (by omega), rdN (by omega)]; exact k2
      · rw [rdN (by omega), rdN (by omega)]; exact k3 c q
      · by_cases u : r = 0 ∧ d = c
        · obtain ⟨rfl, rfl⟩ := u
          obtain ⟨v, hv, ev⟩ := nI_ex (n := 999) (x := a3) (by assumption) (by assumption) (by decide)
          exact ⟨v, hv, by rw [show (24 : Nat) = 24 + 0 from rfl, rdS]; exact ev⟩
        · rw [rdN (by omega)]; exact k4 d q
    obtain ⟨A2, q1, q2, q3⟩ := rk_x gA
    have fM : ∀ id k, 194 ≤ id → A2.1 id k = M.1 id k := fun id k q => by
      rw [(q2 id k (by unfold pRk; omega)).1, eA, rdN (by omega)]
    obtain ⟨B, eB⟩ : ∃ B, B = sI (sI A2 194 2 0) (196 + r) c a3 := ⟨_, rfl⟩
    have fB : ∀ id k, 194 ≤ id → ¬ (id = 194 ∧ k = 2) → ¬ (id = 196 + r ∧ k = c) → B.1 id k = M.1 id k := fun id k u1 u2 u3 => by
      rw [eB, rdN u3, rdN u2, fM _ _ u1]
    have sB : B.1 (196 + r) c = a3 := by rw [eB, rdS]
    refine ⟨B, st_join (v := 1) (Ma := A2) (by simp only [sX11_ground, hx, x_cell e2, if_neg c1, if_neg c2, if_neg one, if_neg k1, if_pos k2, ← eA, q1, Option.bind_some]) (by rw [gr_m (by rw [fM _ _ (by omega)]; exact g.2.1.2.2.2.1) (by rw [fM _ _ (by omega)]; exact g.2.1.2.2.2.2) h64 hcn hr5, if_neg k1, if_pos k2, eB]), ⟨w, h, ?_⟩, ?_, ?_⟩
    · obtain ⟨g1, g2, g3, g4, g5, g6, g7, g8⟩ := g
      refine iLandW_mk gA q2 q3 (by rw [eB]; exact Fr_sI (Fr_sI (Fr_rf _ _) (by unfold pMo; omega)) (by unfold pMo; omega)) (by rw [fB _ _ (by omega) (by omega) (by omega)]; exact g2.2.2.2.1) (by rw [fB _ _ (by omega) (by omega) (by omega)]; exact g2.2.2.2.2) (fun r' d u1 u2 => ?_) (fun d hd => ?_) ?_
      · by_cases u : r' = r ∧ d = c
        · obtain ⟨rfl, rfl⟩ := u
          rw [sB, eA, rdS]
        · rw [fB _ _ (by omega) (by omega) (by omega), eA, rdN (by omega)]
          exact g4 r' d u1 u2
      · by_cases u : r = 2 ∧ d = c
        · obtain ⟨rfl, rfl⟩ := u
          rw [show (198 : Nat) = 196 + 2 from rfl, sB]
          by_cases z : a3 = -1
          · exact Or.inl z
          · refine Or.inr (nI_ex (n := 99) (fun q => ?_) k2 (by decide))
            have k1' : ¬ a3 < -1 := k1
            rw [Int32.lt_iff_toInt_lt] at q k1'
            have : a3.toInt ≠ -1 := fun p => z (Int32.toInt_inj.mp p)
            have e0 : (0 : Int32).toInt = 0 := rfl
            have e1 : (-1 : Int32).toInt = -1 := rfl
            omega
        · rw [fB _ _ (by omega) (by omega) (by omega)]
          exact g6 d hd
      · rw [fB _ _ (by omega) (by omega) (by omega), fB _ _ (by omega) (by omega) (by omega), fB _ _ (by omega) (by omega) (by omega), fB _ _ (by omega) (by omega) (by omega), eA, rdN (by omega), rdN (by omega), rdN (by omega), rdN (by omega)]
        exact g7
    · intro d hd
      refine ⟨?_, ?_⟩
      · by_cases u : r = 3 ∧ d = c
        · obtain ⟨rfl, rfl⟩ := u
          rw [show (199 : Nat) = 196 + 3 from rfl, sB]
          exact nI_ex (n := 99) k1 k2 (by decide)
        · rw [fB _ _ (by omega) (by omega) (by omega)]
          exact (hv d hd).1
      · by_cases u : r = 4 ∧ d = c
        · obtain ⟨rfl, rfl⟩ := u
          rw [show (200 : Nat) = 196 + 4 from rfl, sB]
          by_cases z : a3 = -1
          · exact Or.inl z
          · refine Or.inr (nI_ex (n := 5) (fun q => ?_) k2 (by decide))
            have k1' : ¬ a3 < -1 := k1
            rw [Int32.lt_iff_toInt_lt] at q k1'
            have : a3.toInt ≠ -1 := fun p => z (Int32.toInt_inj.mp p)
            have e0 : (0 : Int32).toInt = 0 := rfl
            have e1 : (-1 : Int32).toInt = -1 := rfl
            omega
        · rw [fB _ _ (by omega) (by omega) (by omega)]
          exact (hv d hd).2
    · rw [eB]
      refine Fr_sI (Fr_sI (Fr_tr (M1 := A) ?_ (Fr_mo q2 (fun id k u => by unfold pRk at u; unfold pGr; omega))) (by unfold pGr; omega)) (by unfold pGr; omega)
      rw [eA]
      exact Fr_sI (Fr_rf _ _) (by unfold pGr; omega)
  · exact ⟨_, st_join (v := 0) (Ma := M) (by simp only [sX11_ground, hx, x_cell e2, if_neg c1, if_neg c2, if_neg one, if_neg k1, if_neg k2, Option.bind_some, if_true]) (by rw [gr_m g.2.1.2.2.2.1 g.2.1.2.2.2.2 h64 hcn hr5, if_neg k1, if_neg k2]), ⟨w, h, g0⟩, v0, f0⟩
def pLnd (id k : Nat) : Prop := id = 22 ∧ k < 3 ∨ 24 ≤ id ∧ id ≤ 33 ∨ 196 ≤ id ∧ id ≤ 200 ∨ id = 194 ∧ (k = 2 ∨ k = 3 ∨ k = 4 ∨ k = 26) ∨ id = 34 ∧ k = 1
theorem step_land {kq : Nat × Nat} {M : Mm} (a1 a2 a3 a4 a5 a6 : Int32) (hi : iLand M) (hv : iVals M) : ∃ M1, st_land kq a1 a2 a3 a4 a5 a6 M = some (kq, M1) ∧ iLand M1 ∧ iVals M1 ∧ (Fr p2 M M1 ∨ Fr pLnd M M1 ∧ M1.1 34 1 = nI 0 ∧ M1.1 194 26 = nI 0) := by
  obtain ⟨w0, h0, g⟩ := hi
  have g0 := iLandW_p2 g
  have f0 := Fr_p2 M
  have v0 : iVals (sI M 194 2 0) := iVals_fr hv (Fr_p2 M) (fun id k q p => by unfold p2 at p; omega)
  by_cases c1 : a1 < 2
  · exact ⟨_, st_join (v := 0) (Ma := M) (by simp only [sX11_land, if_pos c1]) (by simp only [sX12_land, if_pos c1]), ⟨w0, h0, g0⟩, v0, Or.inl f0⟩
  by_cases c2 : 8 < a1
  · exact ⟨_, st_join (v := 0) (Ma := M) (by simp only [sX11_land, if_neg c1, if_pos c2]) (by simp only [sX12_land, if_neg c1, if_pos c2]), ⟨w0, h0, g0⟩, v0, Or.inl f0⟩
  by_cases c3 : a2 < 2
  · exact ⟨_, st_join (v := 0) (Ma := M) (by simp only [sX11_land, if_neg c1, if_neg c2, if_pos c3]) (by simp only [sX12_land, if_neg c1, if_neg c2, if_pos c3]), ⟨w0, h0, g0⟩, v0, Or.inl f0⟩
  by_cases c4 : a2 ≤ 8
  · have n2 : ∀ {x : Int32}, ¬ x < 2 → ¬ x < 0 := fun {x} q p => q (by
      rw [Int32.lt_iff_toInt_lt] at p ⊢
      have e0 : (0 : Int32).toInt = 0 := rfl
      have e1 : (2 : Int32).toInt = 2 := rfl
      omega)
    obtain ⟨w, hw, ew⟩ := nI_ex (n := 8) (n2 c1) (Int32.not_lt.mp c2) (by decide)
    obtain ⟨h, hh, eh⟩ := nI_ex (n := 8) (n2 c3) c4 (by decide)
    have hw2 : 2 ≤ w := by
      rcases Nat.lt_or_ge w 2 with q | q
      · exact absurd (by rw [ew]; exact nI_lt (b := 2) q (by decide)) c1
      · exact q
    have hh2 : 2 ≤ h := by
      rcases Nat.lt_or_ge h 2 with q | q
      · exact absurd (by rw [eh]; exact nI_lt (b := 2) q (by decide)) c3
      · exact q
    have h64 : w * h ≤ 64 := wh64 ⟨hw2, hw, hh2, hh⟩
    obtain ⟨A, q1, q2, q3, q4, q5, q6, q7, q8⟩ := rn_all (M := M) (w := w) (h := h) (by omega) hw hh
    obtain ⟨A1, eA1⟩ : ∃ A1, A1 = sI A 34 1 0 := ⟨_, rfl⟩
    obtain ⟨A2, eA2⟩ : ∃ A2, A2 = sI (sI (sI A1 194 2 0) 194 3 a1) 194 4 a2 := ⟨_, rfl⟩
    obtain ⟨B, b1, b2, b3, b4⟩ := br_all A2
    have fA2 : ∀ id k, ¬ (id = 34 ∧ k = 1) → ¬ (id = 194 ∧ (k = 2 ∨ k = 3 ∨ k = 4)) → A2.1 id k = A.1 id k := fun id k u1 u2 => by
      rw [eA2, rdN (by omega), rdN (by omega), rdN (by omega), eA1, rdN (by omega)]
    have fx : ∀ id k, id < 34 → B.1 id k = A.1 id k := fun id k u => by
      rw [(b2 id k (by unfold pBare; omega)).1, fA2 _ _ (by omega) (by omega)]
    have fm : ∀ k, 5 ≤ k → k ≠ 26 → B.1 194 k = M.1 194 k := fun k u1 u2 => by
      rw [(b2 194 k (by unfold pBare; omega)).1, fA2 _ _ (by omega) (by omega), (q2 194 k (by unfold pRn; omega)).1]
    have f22 : ∀ k, 3 ≤ k → B.1 22 k = M.1 22 k := fun k u => by
      rw [fx _ _ (by omega), (q2 22 k (by unfold pRn; omega)).1]
    refine ⟨B, st_join (v := 1) (Ma := A1) (by simp only [sX11_land, if_neg c1, if_neg c2, if_neg c3, if_pos c4]; rw [ew, eh, q1, Option.bind_some, eA1]) (by simp only [sX12_land, if_neg c1, if_neg c2, if_neg c3, if_pos c4, ← eA2, b1, Option.bind_some]), ⟨w, h, ?_⟩, ?_, Or.inr ⟨?_, ?_, b3⟩⟩
    · have hz : ∀ c, c < w * h → hgt B c = 0 := fun c q => by
        unfold hgt
        rw [(b4 c (by omega)).1]
        rfl
      refine ⟨⟨hw2, hw, hh2, hh⟩, ⟨?_, ?_, ?_, ?_, ?_⟩, fun c q => ?_, fun r c u1 u2 => ?_, fun c q => ?_, fun c q => Or.inl (b4 c (by omega)).2.2.1, ?_, fun c q => ?_⟩
      · rw [fx _ _ (by omega)]; exact q3
      · rw [fx _ _ (by omega)]; exact q4
      · rw [fx _ _ (by omega)]; exact q5
      · rw [(b2 194 3 (by unfold pBare; omega)).1, eA2, rdN (by omega), rdS]; exact ew
      · rw [(b2 194 4 (by unfold pBare; omega)).1, eA2, rdS]; exact eh
      · rw [fx _ _ (by omega), fx _ _ (by omega)]; exact q6 c q
      · rw [fx _ _ (by omega), q7 r c u1 u2]
        have h9 := b4 c (by omega)
        match r, u1 with
        | 0, _ => exact h9.1.symm
        | 1, _ => exact h9.2.1.symm
        | 2, _ => exact h9.2.2.1.symm
        | 3, _ => exact h9.2.2.2.1.symm
        | 4, _ => exact h9.2.2.2.2.symm
      · rw [hz c q, (b4 c (by omega)).1]; exact ⟨rfl, by omega⟩
      · rw [f22 _ (by omega), f22 _ (by omega), f22 _ (by omega), f22 _ (by omega), fm _ (by omega) (by omega), fm _ (by omega) (by omega), fm _ (by omega) (by omega), fm _ (by omega) (by omega)]
        exact g.2.2.2.2.2.2.1
      · have h9 := q8 c q
        unfold rkd at h9 ⊢
        rw [slN_cg (H := hgt B) (H' := fun _ => 0) (by omega) q hz, fx _ _ (by omega), fx _ _ (by omega), fx _ _ (by omega), fx _ _ (by omega), fx _ _ (by omega), fx _ _ (by omega), fx _ _ (by omega), fx _ _ (by omega)]
        exact h9
    · intro c hc
      have h9 := b4 c hc
      exact ⟨⟨1, by omega, h9.2.2.2.1⟩, Or.inl h9.2.2.2.2⟩
    · refine Fr_tr (Fr_mo q2 (fun id k u => by unfold pRn at u; unfold pLnd; omega)) (Fr_tr (M1 := A2) ?_ (Fr_mo b2 (fun id k u => by unfold pBare at u; unfold pLnd; omega)))
      rw [eA2, eA1]
      exact Fr_sI (Fr_sI (Fr_sI (Fr_sI (Fr_rf _ _) (by unfold pLnd; omega)) (by unfold pLnd; omega)) (by unfold pLnd; omega)) (by unfold pLnd; omega)
    · rw [(b2 34 1 (by unfold pBare; omega)).1, eA2, rdN (by omega), rdN (by omega), rdN (by omega), eA1, rdS]
      rfl
  · exact ⟨_, st_join (v := 0) (Ma := M) (by simp only [sX11_land, if_neg c1, if_neg c2, if_neg c3, if_neg c4]) (by simp only [sX12_land, if_neg c1, if_neg c2, if_neg c3, if_neg c4]), ⟨w0, h0, g0⟩, v0, Or.inl f0⟩
