theorem nI_mul (a b : Nat) : nI a * nI b = nI (a * b) := (Int32.ofNat_mul a b).symm
theorem bore_ask2 {M : Mm} {x : Int32} (h : iNotes M) : (sX1_hasBore x M = some (0, M) ∧ sX12_isBore x (sI M 194 2 0) = some (0, sI M 194 2 0)) ∨ ∃ i, x = nI i ∧ i < 60 ∧ (∃ n, n ≤ 60 ∧ i < n ∧ M.1 194 26 = nI n) ∧ iNote M i ∧ M.1 202 i = -1 ∧ sX1_hasBore x M = some (1, M) ∧ sX12_isBore x (sI M 194 2 0) = some (1, sI M 194 2 0) := by
  have hp := iNotes_p2 h
  rcases bore_ask (x := x) h with ⟨q1, q2⟩ | ⟨i, ei, hi, hn, hN, hb, q1, q2⟩
  · refine Or.inl ⟨q1, ?_⟩
    rcases bore_ask (x := x) hp with ⟨-, q4⟩ | ⟨i, ei, hi, ⟨n, hn, hin, e26⟩, hN, hb, q3, q4⟩
    · exact q4
    · exfalso
      rw [rdN (by omega)] at hb e26
      subst ei
      have c2 : ¬ nI n ≤ nI i := fun q => by
        have := (nI_leI (by omega) (by omega)).mp q
        omega
      simp only [sX12_isBore, if_neg (show ¬ nI i < 0 from Int32.not_lt.mpr (nI_nn (by omega))), e26, if_neg c2, ckT (inb_nI hi (by decide)), nI_clamp (show i < 2 ^ 31 by omega), hb, if_neg neg1] at q2
      exact absurd q2 (by simp)
  · refine Or.inr ⟨i, ei, hi, hn, hN, hb, q1, ?_⟩
    obtain ⟨n, hn, hin, e26⟩ := hn
    subst ei
    have c2 : ¬ nI n ≤ nI i := fun q => by
      have := (nI_leI (by omega) (by omega)).mp q
      omega
    have r26 : (sI M 194 2 0).1 194 26 = nI n := by rw [rdN (by omega)]; exact e26
    have r202 : (sI M 194 2 0).1 202 i = -1 := by rw [rdN (by omega)]; exact hb
    simp only [sX12_isBore, if_neg (show ¬ nI i < 0 from Int32.not_lt.mpr (nI_nn (by omega))), r26, if_neg c2, ckT (inb_nI hi (by decide)), nI_clamp (show i < 2 ^ 31 by omega), r202, if_neg neg1]
theorem step_layer {kq : Nat × Nat} {M : Mm} (a1 a2 a3 a4 a5 a6 : Int32) (h : iNotes M) : ∃ M1, st_layer kq a1 a2 a3 a4 a5 a6 M = some (kq, M1) ∧ Fr p2 M M1 := by
  refine ⟨sI M 194 2 0, ?_, Fr_p2 M⟩
  have one : ¬ (1 : Int32) = 0 := by decide
  rcases bore_ask2 (x := a1) h with ⟨q1, q2⟩ | ⟨i, ei, hi, -, hN, hb, q1, q2⟩
  · exact st_join (v := -1) (Ma := M) (by simp only [sX11_layer, q1, Option.bind_some, if_true]) (by simp only [sX12_layer, q2, Option.bind_some, if_true])
  subst ei
  obtain ⟨-, -, ly, k3, k4, k5, k6⟩ := hN.2.2 hb
  have ib : inb (nI i) 60 = true := inb_nI hi (by decide)
  have r205 : (sI M 194 2 0).1 205 i = nI ly := by rw [rdN (by omega)]; exact k5
  have ci := nI_clamp (show i < 2 ^ 31 by omega)
  by_cases c1 : a2 < 0
  · have e2 : sX12_layer (nI i) a2 a3 M = some (-1, sI M 194 2 0) := by simp only [sX12_layer, q2, Option.bind_some, if_neg one, if_pos c1]
    refine st_join (v := -1) (Ma := M) ?_ e2
    by_cases d1 : a3 < 0
    · simp only [sX11_layer, q1, Option.bind_some, if_neg one, if_pos d1]
    by_cases d2 : a3 < 6
    · simp only [sX11_layer, sX11_layer_47, q1, Option.bind_some, if_neg one, if_neg d1, if_pos d2, ckT ib, if_pos c1]
    · simp only [sX11_layer, q1, Option.bind_some, if_neg one, if_neg d1, if_neg d2]
  by_cases c2 : a2 < nI ly
  · have c2' : ¬ nI ly ≤ a2 := Int32.not_le.mpr c2
    by_cases d1 : a3 < 0
    · exact st_join (v := -1) (Ma := M) (by simp only [sX11_layer, q1, Option.bind_some, if_neg one, if_pos d1]) (by simp only [sX12_layer, q2, Option.bind_some, if_neg one, if_neg c1, ckT ib, ci, r205, if_neg c2', if_pos d1])
    by_cases d2 : a3 < 6
    · obtain ⟨y, hy, ey⟩ := nI_ex (n := ly) c1 (Int32.le_of_lt c2) (by omega)
      subst ey
      have hyl : y < ly := (nI_ltI (by omega) (by omega)).mp c2
      obtain ⟨z, hz, ez⟩ := nI_ex (n := 6) d1 (Int32.le_of_lt d2) (by decide)
      subst ez
      have hz6 : z < 6 := (nI_ltI (b := 6) (by omega) (by decide)).mp d2
      have d3 : nI z ≤ 5 := nI_le (b := 5) (by omega) (by decide)
      have ex : nI y * 6 + nI z = nI (y * 6 + z) := by rw [show (6 : Int32) = nI 6 by decide, nI_mul, nI_add]
      have em : 48 * nI i + 6 * nI y + nI z = nI (48 * i + 6 * y + z) := by rw [show (6 : Int32) = nI 6 by decide, show (48 : Int32) = nI 48 by decide, nI_mul, nI_mul, nI_add, nI_add]
      have bx : inb (nI (y * 6 + z)) 48 = true := inb_nI (by omega) (by decide)
      have bm : inb (nI (48 * i + 6 * y + z)) 2880 = true := inb_nI (by omega) (by decide)
      have cx := nI_clamp (show y * 6 + z < 2 ^ 31 by omega)
      have cm := nI_clamp (show 48 * i + 6 * y + z < 2 ^ 31 by omega)
      have hv : (sI M 194 2 0).1 206 (48 * i + 6 * y + z) = M.1 (38 + 2 * i + 1) (y * 6 + z) := by
        rw [rdN (by omega), show 38 + 2 * i + 1 = 39 + 2 * i by omega, k6 (y * 6 + z) (by omega), show 48 * i + (y * 6 + z) = 48 * i + 6 * y + z by omega]
      exact st_join (v := M.1 (38 + 2 * i + 1) (y * 6 + z)) (Ma := M) (by simp only [sX11_layer, sX7_get, q1, Option.bind_some, if_neg one, if_neg d1, if_pos d2, ckT ib, if_neg c1, ci, k4, if_pos c2, ex, ckT bx, cx]) (by simp only [sX12_layer, q2, Option.bind_some, if_neg one, if_neg c1, ckT ib, ci, r205, if_neg c2', if_neg d1, if_pos d3, em, ckT bm, cm, hv])
    · have d3 : ¬ a3 ≤ 5 := fun q => d2 (by
        obtain ⟨z, hz, ez⟩ := nI_ex (n := 5) d1 q (by decide)
        rw [ez]
        exact nI_lt (b := 6) (by omega) (by decide))
      exact st_join (v := -1) (Ma := M) (by simp only [sX11_layer, q1, Option.bind_some, if_neg one, if_neg d1, if_neg d2]) (by simp only [sX12_layer, q2, Option.bind_some, if_neg one, if_neg c1, ckT ib, ci, r205, if_neg c2', if_neg d1, if_neg d3])
  · have c2' : nI ly ≤ a2 := Int32.not_lt.mp c2
    have e2 : sX12_layer (nI i) a2 a3 M = some (-1, sI M 194 2 0) := by simp only [sX12_layer, q2, Option.bind_some, if_neg one, if_neg c1, ckT ib, ci, r205, if_pos c2']
    refine st_join (v := -1) (Ma := M) ?_ e2
    by_cases d1 : a3 < 0
    · simp only [sX11_layer, q1, Option.bind_some, if_neg one, if_pos d1]
    by_cases d2 : a3 < 6
    · simp only [sX11_layer, sX11_layer_47, q1, Option.bind_some, if_neg one, if_neg d1, if_pos d2, ckT ib, if_neg c1, ci, k4, if_neg c2]
    · simp only [sX11_layer, q1, Option.bind_some, if_neg one, if_neg d1, if_neg d2]
