def iKinds (kq : Nat × Nat) (M : Mm) : Prop := ∃ n, n ≤ 8 ∧ M.1 kq.1 9 = nI n ∧ M.1 194 33 = nI n
def iVal (M : Mm) : Prop := ∀ k, k < 8 → M.1 193 k = M.1 225 k ∧ ∃ v, v ≤ 9999 ∧ M.1 225 k = nI v
def pVal (id k : Nat) : Prop := id = 193 ∨ id = 225 ∨ id = 194 ∧ k = 2
theorem step_value {kq : Nat × Nat} {M : Mm} (a1 a2 a3 a4 a5 a6 : Int32) (hq : isKq kq) (hk : iKinds kq M) (h : iVal M) : ∃ M1, st_value kq a1 a2 a3 a4 a5 a6 M = some (kq, M1) ∧ iVal M1 ∧ Fr pVal M M1 := by
  obtain ⟨n, hn, h1, h2⟩ := hk
  have f0 : Fr pVal M (sI M 194 2 0) := Fr_sI (Fr_rf _ _) (by unfold pVal; omega)
  have i0 : iVal (sI M 194 2 0) := fun k hk => by
    rw [rdN (by omega), rdN (by omega)]
    exact h k hk
  have r33 : (sI M 194 2 0).1 194 33 = nI n := by rw [rdN (by omega)]; exact h2
  by_cases c1 : a1 < 0
  · exact ⟨_, st_join (v := 0) (Ma := M) (by simp only [sX11_value, sX11_isKind, if_pos c1, Option.bind_some, if_true]) (by simp only [sX12_value, if_pos c1]), i0, f0⟩
  by_cases c2 : nI n ≤ a1
  · exact ⟨_, st_join (v := 0) (Ma := M) (by simp only [sX11_value, sX11_isKind, if_neg c1, h1, if_pos c2, Option.bind_some, if_true]) (by simp only [sX12_value, if_neg c1, r33, if_pos c2]), i0, f0⟩
  have one : ¬ (1 : Int32) = 0 := by decide
  by_cases c3 : a2 < 0
  · exact ⟨_, st_join (v := 0) (Ma := M) (by simp only [sX11_value, sX11_isKind, if_neg c1, h1, if_neg c2, Option.bind_some, if_neg one, if_pos c3]) (by simp only [sX12_value, if_neg c1, r33, if_neg c2, if_pos c3]), i0, f0⟩
  by_cases c4 : a2 ≤ 9999
  · obtain ⟨v, hv, ev⟩ := nI_ex (n := 9999) c3 c4 (by decide)
    obtain ⟨k, hk, ek⟩ := nI_ex (n := n) c1 (Int32.le_of_lt (Int32.not_le.mp c2)) (by omega)
    subst ek
    have hkn : k < n := (nI_ltI (by omega) (by omega)).mp (Int32.not_le.mp c2)
    have hb : inb (nI k) 8 = true := inb_nI (by omega) (by decide)
    have r3 : (sI (sI M 193 k a2) 194 2 0).1 194 33 = nI n := by rw [rdN (by omega), rdN (by omega)]; exact h2
    refine ⟨_, st_join (v := 1) (Ma := sI M 193 k a2) (Mb := sI (sI (sI M 193 k a2) 194 2 0) 225 k a2) (by simp only [sX11_value, sX11_isKind, if_neg c1, h1, if_neg c2, Option.bind_some, if_neg one, if_neg c3, if_pos c4, ckT hb, nI_clamp (show k < 2 ^ 31 by omega)]) (by simp only [sX12_value, if_neg c1, r3, if_neg c2, if_neg c3, if_pos c4, ckT hb, nI_clamp (show k < 2 ^ 31 by omega)]), ?_, Fr_sI (Fr_sI (Fr_sI (Fr_rf _ _) (by unfold pVal; omega)) (by unfold pVal; omega)) (by unfold pVal; omega)⟩
    intro j hj
    by_cases e : j = k
    · subst e
      rw [rdN (by omega), rdN (by omega), rdS, rdS]
      exact ⟨rfl, v, hv, ev⟩
    · rw [rdN (by omega), rdN (by omega), rdN (by omega), rdN (by omega), rdN (by omega), rdN (by omega)]
      exact h j hj
  · exact ⟨_, st_join (v := 0) (Ma := M) (by simp only [sX11_value, sX11_isKind, if_neg c1, h1, if_neg c2, Option.bind_some, if_neg one, if_neg c3, if_neg c4]) (by simp only [sX12_value, if_neg c1, r33, if_neg c2, if_neg c3, if_neg c4]), i0, f0⟩
/-- the notes, but for what the key makes of them -/
def iNote (M : Mm) (i : Nat) : Prop := (M.1 202 i = -1 ∨ ∃ j, j < i ∧ M.1 202 i = nI j) ∧ M.1 (38 + 2 * i) 0 = M.1 202 i ∧ (M.1 202 i = -1 → M.1 (38 + 2 * i) 1 = M.1 203 i ∧ M.1 (38 + 2 * i) 2 = M.1 204 i ∧ ∃ ly, ly ≤ 8 ∧ M.1 (38 + 2 * i) 3 = nI ly ∧ M.1 205 i = nI ly ∧ ∀ k, k < 6 * ly → M.1 (39 + 2 * i) k = M.1 206 (48 * i + k))
def iNotes (M : Mm) : Prop := ∃ n, n ≤ 60 ∧ M.1 34 1 = nI n ∧ M.1 194 26 = nI n ∧ ∀ i, i < n → iNote M i
theorem nt_has {M : Mm} {n : Nat} {x : Int32} (h : M.1 34 1 = nI n) : sX1_hasNote x M = some (if x < 0 then 0 else if nI n ≤ x then 0 else 1, M) := by
  unfold sX1_hasNote
  rw [h]
theorem neg1 : ¬ (0 : Int32) ≤ -1 := by decide
theorem nI_nn {j : Nat} (h : j < 2 ^ 31) : (0 : Int32) ≤ nI j := nI_le (a := 0) (Nat.zero_le j) h
theorem nI_ne1 {j : Nat} (h : j < 2 ^ 31) : ¬ nI j = -1 := fun q => neg1 (by rw [← q]; exact nI_nn h)
/-- is i a note that is a bore? both ask alike -/
theorem bore_ask {M : Mm} {x : Int32} (h : iNotes M) : (sX1_hasBore x M = some (0, M) ∧ sX12_isBore x M = some (0, M)) ∨ ∃ i, x = nI i ∧ i < 60 ∧ (∃ n, n ≤ 60 ∧ i < n ∧ M.1 194 26 = nI n) ∧ iNote M i ∧ M.1 202 i = -1 ∧ sX1_hasBore x M = some (1, M) ∧ sX12_isBore x M = some (1, M) := by
  obtain ⟨n, hn, h1, h2, h3⟩ := h
  have one : ¬ (1 : Int32) = 0 := by decide
  by_cases c1 : x < 0
  · exact Or.inl ⟨by simp only [sX1_hasBore, nt_has h1, if_pos c1, Option.bind_some, if_true], by simp only [sX12_isBore, if_pos c1]⟩
  by_cases c2 : nI n ≤ x
  · exact Or.inl ⟨by simp only [sX1_hasBore, nt_has h1, if_neg c1, if_pos c2, Option.bind_some, if_true], by simp only [sX12_isBore, if_neg c1, h2, if_pos c2]⟩
  obtain ⟨i, hi, ei⟩ := nI_ex (n := n) c1 (Int32.le_of_lt (Int32.not_le.mp c2)) (by omega)
  subst ei
  have hin : i < n := (nI_ltI (by omega) (by omega)).mp (Int32.not_le.mp c2)
  have hb : inb (nI i) 60 = true := inb_nI (by omega) (by decide)
  have hN := h3 i hin
  rcases hN.1 with q | ⟨j, hj, q⟩
  · refine Or.inr ⟨i, rfl, by omega, ⟨n, hn, hin, h2⟩, hN, q, ?_, ?_⟩
    · simp only [sX1_hasBore, nt_has h1, if_neg c1, if_neg c2, Option.bind_some, if_neg one, ckT hb, nI_clamp (show i < 2 ^ 31 by omega), hN.2.1, q, if_true]
    · simp only [sX12_isBore, if_neg c1, h2, if_neg c2, ckT hb, nI_clamp (show i < 2 ^ 31 by omega), q, if_neg neg1]
  · refine Or.inl ⟨?_, ?_⟩
    · simp only [sX1_hasBore, nt_has h1, if_neg c1, if_neg c2, Option.bind_some, if_neg one, ckT hb, nI_clamp (show i < 2 ^ 31 by omega), hN.2.1, q, if_neg (nI_ne1 (show j < 2 ^ 31 by omega))]
    · simp only [sX12_isBore, if_neg c1, h2, if_neg c2, ckT hb, nI_clamp (show i < 2 ^ 31 by omega), q, if_pos (nI_nn (show j < 2 ^ 31 by omega))]
def rNotes (id k : Nat) : Prop := 38 ≤ id ∧ id < 158 ∨ 202 ≤ id ∧ id ≤ 206 ∨ id = 34 ∧ k = 1 ∨ id = 194 ∧ k = 26
theorem iNote_fr {M M1 : Mm} {i : Nat} (hi : i < 60) (h : iNote M i) (h1 : ∀ id k, 38 ≤ id ∧ id < 158 ∨ 202 ≤ id ∧ id ≤ 206 → (id = 38 + 2 * i → k < 4) → (202 ≤ id ∧ id ≤ 205 → k = i) → (id = 206 → 48 * i ≤ k ∧ k < 48 * i + 48) → (id < 158 → id = 38 + 2 * i ∨ id = 39 + 2 * i) → M1.1 id k = M.1 id k) : iNote M1 i := by
  obtain ⟨g1, g2, g3⟩ := h
  have e0 : M1.1 202 i = M.1 202 i := h1 _ _ (by omega) (by omega) (by omega) (by omega) (by omega)
  refine ⟨by rw [e0]; exact g1, ?_, fun q => ?_⟩
  · rw [e0, h1 (38 + 2 * i) 0 (by omega) (by omega) (by omega) (by omega) (by omega)]; exact g2
  · rw [e0] at q
    obtain ⟨k1, k2, ly, k3, k4, k5, k6⟩ := g3 q
    refine ⟨?_, ?_, ly, k3, ?_, ?_, fun k hk => ?_⟩
    · rw [h1 (38 + 2 * i) 1 (by omega) (by omega) (by omega) (by omega) (by omega), h1 203 i (by omega) (by omega) (by omega) (by omega) (by omega)]; exact k1
    · rw [h1 (38 + 2 * i) 2 (by omega) (by omega) (by omega) (by omega) (by omega), h1 204 i (by omega) (by omega) (by omega) (by omega) (by omega)]; exact k2
    · rw [h1 (38 + 2 * i) 3 (by omega) (by omega) (by omega) (by omega) (by omega)]; exact k4
    · rw [h1 205 i (by omega) (by omega) (by omega) (by omega) (by omega)]; exact k5
    · rw [h1 (39 + 2 * i) k (by omega) (by omega) (by omega) (by omega) (by omega), h1 206 (48 * i + k) (by omega) (by omega) (by omega) (by omega) (by omega)]; exact k6 k hk
theorem iNotes_fr {P : Nat → Nat → Prop} {M M1 : Mm} (h : iNotes M) (hf : Fr P M M1) (hP : ∀ id k, rNotes id k → ¬ P id k) : iNotes M1 := by
  obtain ⟨n, hn, h1, h2, h3⟩ := h
  refine ⟨n, hn, ?_, ?_, fun i hi => iNote_fr (by omega) (h3 i hi) (fun id k q _ _ _ _ => (hf id k (hP id k (by unfold rNotes; omega))).1)⟩
  · rw [(hf 34 1 (hP _ _ (by unfold rNotes; omega))).1]; exact h1
  · rw [(hf 194 26 (hP _ _ (by unfold rNotes; omega))).1]; exact h2
theorem iNotes_p2 {M : Mm} (h : iNotes M) : iNotes (sI M 194 2 0) := iNotes_fr h (Fr_p2 M) (fun id k q p => by unfold rNotes at q; unfold p2 at p; omega)
def pStrike (id k : Nat) : Prop := 38 ≤ id ∧ id < 158 ∧ k = 0 ∨ id = 34 ∧ k = 1 ∨ id = 202 ∨ id = 194 ∧ (k = 2 ∨ k = 26)
theorem step_strike {kq : Nat × Nat} {M : Mm} (a1 a2 a3 a4 a5 a6 : Int32) (h : iNotes M) : ∃ M1, st_strike kq a1 a2 a3 a4 a5 a6 M = some (kq, M1) ∧ iNotes M1 ∧ Fr pStrike M M1 := by
  have hp := iNotes_p2 h
  obtain ⟨n, hn, h1, h2, h3⟩ := h
  have f0 : Fr pStrike M (sI M 194 2 0) := Fr_sI (Fr_rf _ _) (by unfold pStrike; omega)
  have r26 : (sI M 194 2 0).1 194 26 = nI n := by rw [rdN (by omega)]; exact h2
  have one : ¬ (1 : Int32) = 0 := by decide
  by_cases c1 : a1 < 0
  · exact ⟨_, st_join (v := -1) (Ma := M) (by simp only [sX11_strike, nt_has h1, if_pos c1, Option.bind_some, if_true]) (by simp only [sX12_strike, if_pos c1]), hp, f0⟩
  by_cases c2 : nI n ≤ a1
  · exact ⟨_, st_join (v := -1) (Ma := M) (by simp only [sX11_strike, nt_has h1, if_neg c1, if_pos c2, Option.bind_some, if_true]) (by simp only [sX12_strike, if_neg c1, r26, if_pos c2]), hp, f0⟩
  by_cases c3 : n = 60
  · subst c3
    have l60 : ¬ nI 60 < 60 := by decide
    have e60 : nI 60 = 60 := by decide
    exact ⟨_, st_join (v := -1) (Ma := M) (by simp only [sX11_strike, nt_has h1, if_neg c1, if_neg c2, Option.bind_some, if_neg one, h1, if_neg l60]) (by simp only [sX12_strike, if_neg c1, r26, if_neg c2, if_pos e60]), hp, f0⟩
  have hb : inb (nI n) 60 = true := inb_nI (by omega) (by decide)
  have l60 : nI n < 60 := nI_lt (b := 60) (by omega) (by decide)
  have e60 : ¬ nI n = 60 := fun q => by
    have h9 := congrArg Int32.toNatClampNeg q
    rw [nI_clamp (by omega)] at h9
    exact c3 h9
  obtain ⟨j, hj, ej⟩ := nI_ex (n := n) c1 (Int32.le_of_lt (Int32.not_le.mp c2)) (by omega)
  have hjn : j < n := by
    rw [ej] at c2
    exact (nI_ltI (by omega) (by omega)).mp (Int32.not_le.mp c2)
  have x1 : sX11_strike a1 M = some (nI n, sI (sI M (38 + 2 * n) 0 a1) 34 1 (nI (n + 1))) := by
    simp only [sX11_strike, nt_has h1, if_neg c1, if_neg c2, Option.bind_some, if_neg one, h1, if_pos l60, ckT hb, nI_clamp (show n < 2 ^ 31 by omega)]
    rw [rdS, rdN (by omega), h1, nI_1, nI_pred]
  obtain ⟨A, eA⟩ : ∃ A, A = sI (sI M (38 + 2 * n) 0 a1) 34 1 (nI (n + 1)) := ⟨_, rfl⟩
  have s26 : (sI A 194 2 0).1 194 26 = nI n := by rw [eA, rdN (by omega), rdN (by omega), rdN (by omega)]; exact h2
  have m1 : sX12_strike a1 A = some (nI n, sI (sI (sI A 194 2 0) 202 n a1) 194 26 (nI (n + 1))) := by
    simp only [sX12_strike, if_neg c1, s26, if_neg c2, if_neg e60, ckT hb, nI_clamp (show n < 2 ^ 31 by omega)]
    rw [rdS, rdN (by omega), s26, nI_1, nI_pred]
  refine ⟨_, st_join (by rw [x1, eA]) m1, ?_, ?_⟩
  · refine ⟨n + 1, by omega, ?_, rdS _ _ _ _, fun i hi => ?_⟩
    · rw [rdN (by omega), rdN (by omega), rdN (by omega), eA, rdS]
    · by_cases e : i = n
      · subst e
        have q1 : (sI (sI (sI A 194 2 0) 202 i a1) 194 26 (nI (i + 1))).1 202 i = a1 := by rw [rdN (by omega), rdS]
        refine ⟨Or.inr ⟨j, by omega, by rw [q1]; exact ej⟩, ?_, fun q => ?_⟩
        · rw [q1, rdN (by omega), rdN (by omega), rdN (by omega), eA, rdN (by omega), rdS]
        · rw [q1, ej] at q
          exact absurd q (nI_ne1 (by omega))
      · exact iNote_fr (by omega) (h3 i (by omega)) (fun id k q _ _ _ _ => by rw [rdN (by omega), rdN (by omega), rdN (by omega), eA, rdN (by omega), rdN (by omega)])
  · rw [eA]
    exact Fr_sI (Fr_sI (Fr_sI (Fr_sI (Fr_sI (Fr_rf _ _) (by unfold pStrike; omega)) (by unfold pStrike; omega)) (by unfold pStrike; omega)) (by unfold pStrike; omega)) (by unfold pStrike; omega)
