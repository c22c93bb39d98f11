noncomputable def cif {α : Type} (P : Prop) (a b : α) : α := @ite α P (Classical.propDecidable P) a b
theorem cpos {α : Type} {P : Prop} {a b : α} (h : P) : cif P a b = a := by unfold cif; rw [if_pos h]
theorem cneg {α : Type} {P : Prop} {a b : α} (h : ¬ P) : cif P a b = b := by unfold cif; rw [if_neg h]
/-- what is told of place j of a row by four numbers -/
def rdr (n : Nat → Int32) (j : Nat) : Int32 := if 0 ≤ n (j / 2) then (if j % 2 = 0 then n (j / 2) / 32 else n (j / 2) - n (j / 2) / 32 * 32) else -1
def rok (n : Nat → Int32) (K j : Nat) : Prop := ¬ rdr n j < 0 ∧ ¬ 16 < rdr n j ∧ (j < K ∨ rdr n j = 0)
def rgd (n : Nat → Int32) (K : Nat) : Prop := (∀ j, j < 8 → rok n K j) ∧ tot (rdr n) 8 = 16
theorem x_note {n : Nat → Int32} {i : Nat} {M : Mm} (hi : i < 4) : ∃ M', sX2_noteRow (nI (2 * i)) (n i) M = some M' ∧ Fr (fun id k => id = 160 ∧ (k = 2 * i ∨ k = 2 * i + 1)) M M' ∧ M'.1 160 (2 * i) = rdr n (2 * i) ∧ M'.1 160 (2 * i + 1) = rdr n (2 * i + 1) := by
  have e1 : rdr n (2 * i) = if 0 ≤ n i then n i / 32 else -1 := by
    unfold rdr
    rw [show 2 * i / 2 = i by omega, show 2 * i % 2 = 0 by omega, if_pos rfl]
  have e2 : rdr n (2 * i + 1) = if 0 ≤ n i then n i - n i / 32 * 32 else -1 := by
    unfold rdr
    rw [show (2 * i + 1) / 2 = i by omega, show (2 * i + 1) % 2 = 1 by omega, if_neg (show ¬ (1 : Nat) = 0 by decide)]
  refine ⟨sI (sI M 160 (2 * i) (rdr n (2 * i))) 160 (2 * i + 1) (rdr n (2 * i + 1)), ?_, Fr_sI (Fr_sI (Fr_rf _ _) (by omega)) (by omega), by rw [rdN (by omega), rdS], rdS _ _ _ _⟩
  unfold sX2_noteRow sX2_noteRow_17 sX2_noteRow_37
  rw [ckT (inb_nI (by omega) (by decide)), nI_clamp (by omega), nI_1, ckT (inb_nI (by omega) (by decide)), nI_clamp (by omega), e1, e2]
theorem x_take5 {n : Nat → Int32} {K : Nat} {x1 x2 : Int32} {M : Mm} (hK : K ≤ 8) (eK : M.1 158 4 = nI K) (hr : ∀ j, j < 8 → M.1 160 j = rdr n j) : ∀ (d j F : Nat), j + d = 8 → d < F → sX2_takeRow_5 F x1 x2 (tot (rdr n) j) (nI j) M = cif ((∀ i, i < 8 → j ≤ i → rok n K i) ∧ tot (rdr n) 8 = 16) (sX2_takeRow_82 4096 x1 x2 0 M) (some (0, M)) := by
  intro d
  induction d with
  | zero =>
    intro j F hj hF
    obtain ⟨F, rfl⟩ : ∃ G, F = G + 1 := ⟨F - 1, by omega⟩
    have : j = 8 := by omega
    subst this
    rw [sX2_takeRow_5, if_pos (by decide)]
    by_cases z : tot (rdr n) 8 = 16
    · rw [if_pos z, cpos ⟨fun i h1 h2 => by omega, z⟩]
    · rw [if_neg z, cneg (fun p => z p.2)]
  | succ d ih =>
    intro j F hj hF
    obtain ⟨F, rfl⟩ : ∃ G, F = G + 1 := ⟨F - 1, by omega⟩
    have ib := inb_nI (show j < 8 by omega) (by decide)
    rw [sX2_takeRow_5, if_neg (lit_nle (v := 8) (n := 8) rfl (by omega) (by decide)), ckT ib, nI_clamp (by omega), hr j (by omega)]
    have no : ¬ rok n K j → ∀ {A B : Option (Int32 × Mm)}, cif ((∀ i, i < 8 → j ≤ i → rok n K i) ∧ tot (rdr n) 8 = 16) A B = B := fun z {A B} => cneg (fun p => z (p.1 j (by omega) (Nat.le_refl j)))
    have go : rok n K j → sX2_takeRow_55 (sX2_takeRow_5 F) x1 x2 (tot (rdr n) j) (nI j) M = cif ((∀ i, i < 8 → j ≤ i → rok n K i) ∧ tot (rdr n) 8 = 16) (sX2_takeRow_82 4096 x1 x2 0 M) (some (0, M)) := by
      intro z
      have h9 := ih (j + 1) F (by omega) (by omega)
      unfold sX2_takeRow_55
      rw [ckT ib, nI_clamp (by omega), hr j (by omega), nI_1]
      rw [tot] at h9
      rw [h9]
      by_cases y : (∀ i, i < 8 → j + 1 ≤ i → rok n K i) ∧ tot (rdr n) 8 = 16
      · rw [cpos y, cpos ⟨fun i h1 h2 => by
          by_cases e : i = j
          · rw [e]; exact z
          · exact y.1 i h1 (by omega), y.2⟩]
      · rw [cneg y, cneg (fun p => y ⟨fun i h1 h2 => p.1 i h1 (by omega), p.2⟩)]
    by_cases c1 : rdr n j < 0
    · rw [if_pos c1, no (fun p => p.1 c1)]
    · rw [if_neg c1, ckT ib]
      by_cases c2 : 16 < rdr n j
      · rw [if_pos c2, no (fun p => p.2.1 c2)]
      · rw [if_neg c2, eK]
        by_cases c3 : j < K
        · rw [if_pos (nI_lt c3 (by omega))]
          exact go ⟨c1, c2, Or.inl c3⟩
        · rw [if_neg (nlt_nI (by omega) (by omega)), ckT ib]
          by_cases c4 : rdr n j = 0
          · rw [if_pos c4]
            exact go ⟨c1, c2, Or.inr c4⟩
          · rw [if_neg c4, no (fun p => (p.2.2.resolve_left c3) |> c4)]
theorem x_take82 {n : Nat → Int32} {d k : Nat} {M : Mm} (hd : d < 3) (hk : k < 8) (hr : ∀ j, j < 8 → M.1 160 j = rdr n j) : ∃ M', sX2_takeRow_82 4096 (nI d) (nI k) 0 M = some (1, M') ∧ Fr (fun id z => id = 159 ∧ 64 * d + 8 * k ≤ z ∧ z < 64 * d + 8 * k + 8) M M' ∧ ∀ j, j < 8 → M'.1 159 (64 * d + 8 * k + j) = rdr n j := by
  obtain ⟨M', e, f, q⟩ := lp_M (f := fun F j M => sX2_takeRow_82 F (nI d) (nI k) j M) (n := 8) (I := fun j M' => Fr (fun id z => id = 159 ∧ 64 * d + 8 * k ≤ z ∧ z < 64 * d + 8 * k + 8) M M' ∧ ∀ i, i < j → M'.1 159 (64 * d + 8 * k + i) = rdr n i) (fun F j M1 hj h => by
    have ep : (nI d * 8 + nI k) * 8 + nI j = nI (64 * d + 8 * k + j) := by
      rw [show (8 : Int32) = nI 8 from rfl, nI_mul, nI_add, nI_mul, nI_add]
      congr 1
      omega
    refine ⟨sI M1 159 (64 * d + 8 * k + j) (rdr n j), ?_, Fr_sI h.1 (by omega), fun i hi => ?_⟩
    · show sX2_takeRow_82 (F + 1) (nI d) (nI k) (nI j) M1 = _
      rw [sX2_takeRow_82, if_neg (lit_nle (v := 8) (n := 8) rfl hj (by decide))]
      unfold sX2_place
      rw [Option.bind_some]
      dsimp only
      rw [ep, ckT (inb_nI hj (by decide)), ckT (inb_nI (by omega) (by decide)), nI_clamp (by omega), nI_clamp (by omega), nI_1, (h.1 160 j (by omega)).1, hr j hj]
    · by_cases u : i = j
      · rw [u, rdS]
      · rw [rdN (by omega)]; exact h.2 i (by omega)) 8 0 4096 M (by omega) (by omega) ⟨Fr_rf _ _, fun i hi => absurd hi (Nat.not_lt_zero i)⟩
  refine ⟨M', ?_, f, q⟩
  refine Eq.trans e ?_
  show sX2_takeRow_82 (4087 + 1) (nI d) (nI k) (nI 8) M' = _
  rw [sX2_takeRow_82, if_pos (by decide)]
def rpr (n : Nat → Int32) (k : Nat) : Prop := ¬ n k < 0 ∧ ¬ 16 < n k / 32 ∧ n k - n k / 32 * 32 ≤ 16
theorem m_r34 {n : Nat → Int32} {x1 x2 : Int32} : ∀ (d k F : Nat) (M : Mm), k + d = 4 → d < F → (∀ j, j < 2 * k → M.1 226 j = rdr n j) → ∃ M', Fr (fun id _ => id = 226) M M' ∧ ((∀ i, i < 4 → k ≤ i → rpr n i) → ∀ j, j < 8 → M'.1 226 j = rdr n j) ∧ sX12_reads_34 F x1 x2 (n 0) (n 1) (n 2) (n 3) (tot (rdr n) (2 * k)) (nI k) M = cif ((∀ i, i < 4 → k ≤ i → rpr n i) ∧ tot (rdr n) 8 = 16) (sX12_reads_169 4096 x1 x2 (M.1 194 33) M') (some (0, M')) := by
  intro d
  induction d with
  | zero =>
    intro k F M hk hF hM
    obtain ⟨F, rfl⟩ : ∃ G, F = G + 1 := ⟨F - 1, by omega⟩
    have : k = 4 := by omega
    subst this
    refine ⟨M, Fr_rf _ _, fun _ j hj => hM j (by omega), ?_⟩
    rw [sX12_reads_34, if_pos (by decide)]
    by_cases z : tot (rdr n) 8 = 16
    · rw [if_pos (show tot (rdr n) (2 * 4) = 16 from z), cpos ⟨fun i h1 h2 => by omega, z⟩]
    · rw [if_neg (show ¬ tot (rdr n) (2 * 4) = 16 from z), cneg (fun p => z p.2)]
  | succ d ih =>
    intro k F M hk hF hM
    obtain ⟨F, rfl⟩ : ∃ G, F = G + 1 := ⟨F - 1, by omega⟩
    have es : (if nI k = 0 then n 0 else (if nI k = 1 then n 1 else (if nI k = 2 then n 2 else n 3))) = n k := by
      have hk4 : k < 4 := by omega
      match k, hk4 with
      | 0, _ => rfl
      | 1, _ => rfl
      | 2, _ => rfl
      | 3, _ => rfl
    rw [sX12_reads_34, if_neg (lit_nle (v := 4) (n := 4) rfl (by omega) (by decide)), es]
    unfold sX12_reads_73
    have no : ¬ rpr n k → ∀ {A : Option (Int32 × Mm)}, ∃ M', Fr (fun id _ => id = 226) M M' ∧ ((∀ i, i < 4 → k ≤ i → rpr n i) → ∀ j, j < 8 → M'.1 226 j = rdr n j) ∧ some (0, M) = cif ((∀ i, i < 4 → k ≤ i → rpr n i) ∧ tot (rdr n) 8 = 16) (sX12_reads_169 4096 x1 x2 (M.1 194 33) M') (some (0, M')) := fun z {A} => ⟨M, Fr_rf _ _, fun p => absurd (p k (by omega) (Nat.le_refl k)) z, by rw [cneg (fun p => z (p.1 k (by omega) (Nat.le_refl k)))]⟩
    by_cases c1 : n k < 0
    · rw [if_pos c1]; exact no (fun p => p.1 c1) (A := none)
    · rw [if_neg c1]
      by_cases c2 : 16 < n k / 32
      · rw [if_pos c2]; exact no (fun p => p.2.1 c2) (A := none)
      · rw [if_neg c2]
        by_cases c3 : n k - n k / 32 * 32 ≤ 16
        · have e2 : 2 * nI k = nI (2 * k) := by rw [show (2 : Int32) = nI 2 from rfl, nI_mul]
          rw [if_pos c3, e2, ckT (inb_nI (by omega) (by decide)), show nI (2 * k) + 1 = nI (2 * k + 1) by rw [nI_1], ckT (inb_nI (by omega) (by decide)), nI_clamp (by omega), nI_clamp (by omega), show nI k + 1 = nI (k + 1) by rw [nI_1]]
          have n0 : 0 ≤ n k := Int32.not_lt.mp c1
          have r1 : rdr n (2 * k) = n k / 32 := by
            unfold rdr
            rw [show 2 * k / 2 = k by omega, show 2 * k % 2 = 0 by omega, if_pos n0, if_pos rfl]
          have r2 : rdr n (2 * k + 1) = n k - n k / 32 * 32 := by
            unfold rdr
            rw [show (2 * k + 1) / 2 = k by omega, show (2 * k + 1) % 2 = 1 by omega, if_pos n0, if_neg (show ¬ (1 : Nat) = 0 by decide)]
          have et : tot (rdr n) (2 * k) + (n k / 32 + (n k - n k / 32 * 32)) = tot (rdr n) (2 * (k + 1)) := by
            rw [show 2 * (k + 1) = 2 * k + 1 + 1 by omega, tot, tot, r1, r2, Int32.add_assoc]
          rw [et]
          obtain ⟨M', f', g', e'⟩ := ih (k + 1) F (sI (sI M 226 (2 * k) (n k / 32)) 226 (2 * k + 1) (n k - n k / 32 * 32)) (by omega) (by omega) (fun j hj => by
            by_cases u : j = 2 * k + 1
            · rw [u, rdS, r2]
            · rw [rdN (by omega)]
              by_cases u2 : j = 2 * k
              · rw [u2, rdS, r1]
              · rw [rdN (by omega)]; exact hM j (by omega))
          refine ⟨M', Fr_tr (Fr_sI (Fr_sI (Fr_rf _ _) rfl) rfl) f', fun p => g' (fun i h1 h2 => p i h1 (by omega)), ?_⟩
          rw [e', rdN (by omega), rdN (by omega)]
          by_cases y : (∀ i, i < 4 → k + 1 ≤ i → rpr n i) ∧ tot (rdr n) 8 = 16
          · rw [cpos y, cpos ⟨fun i h1 h2 => by
              by_cases e : i = k
              · rw [e]; exact ⟨c1, c2, c3⟩
              · exact y.1 i h1 (by omega), y.2⟩]
          · rw [cneg y, cneg (fun p => y ⟨fun i h1 h2 => p.1 i h1 (by omega), p.2⟩)]
        · rw [if_neg c3]; exact no (fun p => c3 p.2.2) (A := none)
theorem m_r169 {n : Nat → Int32} {x1 x2 : Int32} {M : Mm} (hr : ∀ j, j < 8 → M.1 226 j = rdr n j) : ∀ (d j F : Nat), j + d = 8 → d < F → sX12_reads_169 F x1 x2 (nI j) M = cif (∀ i, i < 8 → j ≤ i → rdr n i = 0) (sX12_reads_197 4096 x1 x2 0 M) (some (0, M)) := by
  intro d
  induction d with
  | zero =>
    intro j F hj hF
    obtain ⟨F, rfl⟩ : ∃ G, F = G + 1 := ⟨F - 1, by omega⟩
    have : j = 8 := by omega
    subst this
    rw [sX12_reads_169, if_pos (by decide), cpos (fun i h1 h2 => by omega)]
  | succ d ih =>
    intro j F hj hF
    obtain ⟨F, rfl⟩ : ∃ G, F = G + 1 := ⟨F - 1, by omega⟩
    rw [sX12_reads_169, if_neg (lit_nle (v := 8) (n := 8) rfl (by omega) (by decide)), ckT (inb_nI (by omega) (by decide)), nI_clamp (by omega), hr j (by omega), nI_1, ih (j + 1) F (by omega) (by omega)]
    by_cases c : rdr n j = 0
    · rw [if_pos c]
      by_cases y : ∀ i, i < 8 → j + 1 ≤ i → rdr n i = 0
      · rw [cpos y, cpos (fun i h1 h2 => by
          by_cases e : i = j
          · rw [e]; exact c
          · exact y i h1 (by omega))]
      · rw [cneg y, cneg (fun p => y (fun i h1 h2 => p i h1 (by omega)))]
    · rw [if_neg c, cneg (fun p => c (p j (by omega) (Nat.le_refl j)))]
theorem m_r197 {n : Nat → Int32} {d k : Nat} {M : Mm} (hd : d < 3) (hk : k < 8) (hr : ∀ j, j < 8 → M.1 226 j = rdr n j) : ∃ M', sX12_reads_197 4096 (nI d) (nI k) 0 M = some (1, M') ∧ Fr (fun id z => id = 224 ∧ 64 * d + 8 * k ≤ z ∧ z < 64 * d + 8 * k + 8) M M' ∧ ∀ j, j < 8 → M'.1 224 (64 * d + 8 * k + j) = rdr n j := by
  obtain ⟨M', e, f, q⟩ := lp_M (f := fun F j M => sX12_reads_197 F (nI d) (nI k) j M) (n := 8) (I := fun j M' => Fr (fun id z => id = 224 ∧ 64 * d + 8 * k ≤ z ∧ z < 64 * d + 8 * k + 8) M M' ∧ ∀ i, i < j → M'.1 224 (64 * d + 8 * k + i) = rdr n i) (fun F j M1 hj h => by
    have ep : 64 * nI d + 8 * nI k + nI j = nI (64 * d + 8 * k + j) := by
      rw [show (8 : Int32) = nI 8 from rfl, show (64 : Int32) = nI 64 from rfl, nI_mul, nI_mul, nI_add, nI_add]
    refine ⟨sI M1 224 (64 * d + 8 * k + j) (rdr n j), ?_, Fr_sI h.1 (by omega), fun i hi => ?_⟩
    · show sX12_reads_197 (F + 1) (nI d) (nI k) (nI j) M1 = _
      rw [sX12_reads_197, if_neg (lit_nle (v := 8) (n := 8) rfl hj (by decide)), ckT (inb_nI hj (by decide)), ep, ckT (inb_nI (by omega) (by decide)), nI_clamp (by omega), nI_clamp (by omega), nI_1, (h.1 226 j (by omega)).1, hr j hj]
    · by_cases u : i = j
      · rw [u, rdS]
      · rw [rdN (by omega)]; exact h.2 i (by omega)) 8 0 4096 M (by omega) (by omega) ⟨Fr_rf _ _, fun i hi => absurd hi (Nat.not_lt_zero i)⟩
  refine ⟨M', ?_, f, q⟩
  refine Eq.trans e ?_
  show sX12_reads_197 (4087 + 1) (nI d) (nI k) (nI 8) M' = _
  rw [sX12_reads_197, if_pos (by decide)]
theorem rgd_iff {n : Nat → Int32} {K : Nat} : rgd n K ↔ (∀ i, i < 4 → rpr n i) ∧ tot (rdr n) 8 = 16 ∧ ∀ j, j < 8 → K ≤ j → rdr n j = 0 := by
  have r1 : ∀ k, rdr n (2 * k) = if 0 ≤ n k then n k / 32 else -1 := fun k => by
    unfold rdr
    rw [show 2 * k / 2 = k by omega, show 2 * k % 2 = 0 by omega, if_pos rfl]
  have r2 : ∀ k, rdr n (2 * k + 1) = if 0 ≤ n k then n k - n k / 32 * 32 else -1 := fun k => by
    unfold rdr
    rw [show (2 * k + 1) / 2 = k by omega, show (2 * k + 1) % 2 = 1 by omega, if_neg (show ¬ (1 : Nat) = 0 by decide)]
  constructor
  · intro h
    refine ⟨fun i hi => ?_, h.2, fun j hj hK => ?_⟩
    · have a := h.1 (2 * i) (by omega)
      have b := h.1 (2 * i + 1) (by omega)
      unfold rok at a b
      rw [r1] at a
      rw [r2] at b
      by_cases z : 0 ≤ n i
      · rw [if_pos z] at a b
        exact ⟨Int32.not_lt.mpr z, a.2.1, Int32.not_lt.mp b.2.1⟩
      · rw [if_neg z] at a
        exact absurd (by decide) a.1
    · have a := h.1 j hj
      exact a.2.2.resolve_left (by omega)
  · intro h
    refine ⟨fun j hj => ?_, h.2.1⟩
    obtain ⟨c1, c2, c3⟩ := h.1 (j / 2) (by omega)
    have z : 0 ≤ n (j / 2) := Int32.not_lt.mp c1
    obtain ⟨v, hv, ev⟩ := nI_ex (x := n (j / 2)) (n := 2 ^ 31 - 1) c1 (by
      rw [Int32.le_iff_toInt_le, nI_toI (by omega)]
      have := Int32.toInt_lt (n (j / 2))
      omega) (by omega)
    have e32 : (32 : Int32) = nI 32 := rfl
    refine ⟨?_, ?_, ?_⟩
    · unfold rdr
      rw [if_pos z, ev, e32, nI_dv (by omega) (by omega)]
      split
      · exact Int32.not_lt.mpr (nI_nn (by have := Nat.div_le_self v 32; omega))
      · rw [← nI_dv (by omega) (by omega), nI_md (by omega) (by omega)]
        exact Int32.not_lt.mpr (nI_nn (by have := Nat.mod_le v 32; omega))
    · unfold rdr
      rw [if_pos z]
      split
      · exact c2
      · exact Int32.not_lt.mpr c3
    · by_cases q : j < K
      · exact Or.inl q
      · exact Or.inr (h.2.2 j hj (by omega))
theorem rdr_sm {n : Nat → Int32} {K j : Nat} (h : rgd n K) (hj : j < 8) : ∃ v, v ≤ 16 ∧ rdr n j = nI v := by
  have a := h.1 j hj
  exact nI_ex (n := 16) a.1 (Int32.not_lt.mp a.2.1) (by decide)
def pRd (id k : Nat) : Prop := id = 159 ∨ id = 160 ∨ id = 224 ∨ id = 226 ∨ id = 194 ∧ k = 2
theorem step_reads {kq : Nat × Nat} {w h N K : Nat} {M : Mm} (a1 a2 a3 a4 a5 a6 : Int32) (hq : isKq kq) (b : Bk kq w h N K M) : ∃ M1, st_reads kq a1 a2 a3 a4 a5 a6 M = some (kq, M1) ∧ Bk kq w h N K M1 ∧ Fr pRd M M1 := by
  have f0 : Fr pRd M (sI M 194 2 0) := Fr_sI (Fr_rf _ _) (by unfold pRd; omega)
  have one : ¬ (1 : Int32) = 0 := by decide
  have i0 : isb 0 = true := by decide
  have i1 : isb 1 = true := by decide
  have hK := b.2.2.2.1.1
  have eK := b.2.2.2.1.2.1
  have b0 := Bk_sm b (sc_sm hq (sc_2 M))
  have eK0 : (sI M 194 2 0).1 194 33 = nI K := b0.2.2.2.1.2.2.1
  have lt3 : ∀ {x : Int32}, 3 ≤ x → 2 < x := fun {x} q => by
    rw [Int32.le_iff_toInt_le] at q
    rw [Int32.lt_iff_toInt_lt]
    have e1 : (3 : Int32).toInt = 3 := rfl
    have e2 : (2 : Int32).toInt = 2 := rfl
    omega
  have nlt3 : ∀ {x : Int32}, ¬ 3 ≤ x → ¬ 2 < x := fun {x} q p => q (by
    rw [Int32.lt_iff_toInt_lt] at p
    rw [Int32.le_iff_toInt_le]
    have e1 : (3 : Int32).toInt = 3 := rfl
    have e2 : (2 : Int32).toInt = 2 := rfl
    omega)
  by_cases c1 : a1 < 0
  · exact ⟨_, st_join (v := 0) (Ma := M) (by simp only [sX11_reads, sX11_isHand, if_pos c1, Option.bind_some, if_true]) (by simp only [sX12_reads, if_pos c1]), b0, f0⟩
  by_cases c2 : 3 ≤ a1
  · exact ⟨_, st_join (v := 0) (Ma := M) (by simp only [sX11_reads, sX11_isHand, if_neg c1, if_pos c2, Option.bind_some, if_true]) (by simp only [sX12_reads, if_neg c1, if_pos (lt3 c2)]), b0, f0⟩
  have c2' := nlt3 c2
  by_cases d1 : a2 < 0
  · exact ⟨_, st_join (v := 0) (Ma := M) (by simp only [sX11_reads, sX11_isHand, sX11_isKind, if_neg c1, if_neg c2, if_neg one, if_pos d1, Option.bind_some, if_true]) (by simp only [sX12_reads, if_neg c1, if_neg c2', if_pos d1]), b0, f0⟩
  by_cases d2 : nI K ≤ a2
  · exact ⟨_, st_join (v := 0) (Ma := M) (by simp only [sX11_reads, sX11_isHand, sX11_isKind, if_neg c1, if_neg c2, if_neg one, if_neg d1, eK, if_pos d2, Option.bind_some, if_true]) (by simp only [sX12_reads, if_neg c1, if_neg c2', if_neg d1, eK0, if_neg (Int32.not_lt.mpr d2)]), b0, f0⟩
  obtain ⟨d, hd, ed⟩ := nI_ex (n := 3) c1 (Int32.le_of_lt (Int32.not_le.mp c2)) (by decide)
  subst ed
  have hd3 : d < 3 := (nI_ltI (b := 3) (by omega) (by decide)).mp (Int32.not_le.mp c2)
  obtain ⟨k, hk, ek⟩ := nI_ex (n := K) d1 (Int32.le_of_lt (Int32.not_le.mp d2)) (by omega)
  subst ek
  have hkK : k < K := (nI_ltI (by omega) (by omega)).mp (Int32.not_le.mp d2)
  obtain ⟨n, hn⟩ : ∃ n : Nat → Int32, n = fun i => if i = 0 then a3 else if i = 1 then a4 else if i = 2 then a5 else a6 := ⟨_, rfl⟩
  have n0 : n 0 = a3 := by rw [hn]; rfl
  have n1 : n 1 = a4 := by rw [hn]; rfl
  have n2 : n 2 = a5 := by rw [hn]; rfl
  have n3 : n 3 = a6 := by rw [hn]; rfl
  rw [← n0, ← n1, ← n2, ← n3]
  -- the class
  obtain ⟨A0, g0, h0, p0, q0⟩ := x_note (n := n) (i := 0) (M := M) (by omega)
  obtain ⟨A1, g1, h1, p1, q1⟩ := x_note (n := n) (i := 1) (M := A0) (by omega)
  obtain ⟨A2, g2, h2, p2, q2⟩ := x_note (n := n) (i := 2) (M := A1) (by omega)
  obtain ⟨A3, g3, h3, p3, q3⟩ := x_note (n := n) (i := 3) (M := A2) (by omega)
  have r160 : ∀ j, j < 8 → A3.1 160 j = rdr n j := by
    intro j hj
    match j, hj with
    | 0, _ => rw [(h3 160 0 (by omega)).1, (h2 160 0 (by omega)).1, (h1 160 0 (by omega)).1]; exact p0
    | 1, _ => rw [(h3 160 1 (by omega)).1, (h2 160 1 (by omega)).1, (h1 160 1 (by omega)).1]; exact q0
    | 2, _ => rw [(h3 160 2 (by omega)).1, (h2 160 2 (by omega)).1]; exact p1
    | 3, _ => rw [(h3 160 3 (by omega)).1, (h2 160 3 (by omega)).1]; exact q1
    | 4, _ => rw [(h3 160 4 (by omega)).1]; exact p2
    | 5, _ => rw [(h3 160 5 (by omega)).1]; exact q2
    | 6, _ => exact p3
    | 7, _ => exact q3
  have fA : Fr (fun id _ => id = 160) M A3 := Fr_tr (Fr_mo h0 (fun _ _ q => q.1)) (Fr_tr (Fr_mo h1 (fun _ _ q => q.1)) (Fr_tr (Fr_mo h2 (fun _ _ q => q.1)) (Fr_mo h3 (fun _ _ q => q.1))))
  have e5 := x_take5 (n := n) (K := K) (x1 := nI d) (x2 := nI k) (M := A3) hK (by rw [(fA 158 4 (by omega)).1]; exact b.2.2.2.1.2.2.2) r160 8 0 4096 (by omega) (by omega)
  have hx : ∀ {v : Int32} {X : Mm}, isb v = true → cif ((∀ i, i < 8 → 0 ≤ i → rok n K i) ∧ tot (rdr n) 8 = 16) (sX2_takeRow_82 4096 (nI d) (nI k) 0 A3) (some (0, A3)) = some (v, X) → sX11_reads kq (nI d) (nI k) (n 0) (n 1) (n 2) (n 3) M = some (v, X) := fun {v X} hb e => by
    have e6 : sX2_takeRow (nI d) (nI k) A3 = some (v, X) := e5.trans e
    have z0 : sX2_noteRow 0 (n 0) M = some A0 := g0
    have z1 : sX2_noteRow 2 (n 1) A0 = some A1 := g1
    have z2 : sX2_noteRow 4 (n 2) A1 = some A2 := g2
    have z3 : sX2_noteRow 6 (n 3) A2 = some A3 := g3
    simp only [sX11_reads, sX11_isHand, sX11_isKind, if_neg c1, if_neg c2, if_neg one, if_neg d1, eK, if_neg d2, Option.bind_some, z0, z1, z2, z3, e6, ckT hb]
  have hm : ∀ {X : Mm}, X.1 194 33 = nI K → ∃ X', Fr (fun id _ => id = 226) (sI X 194 2 0) X' ∧ ((∀ i, i < 4 → rpr n i) → ∀ j, j < 8 → X'.1 226 j = rdr n j) ∧ sX12_reads (nI d) (nI k) (n 0) (n 1) (n 2) (n 3) X = cif ((∀ i, i < 4 → rpr n i) ∧ tot (rdr n) 8 = 16) (sX12_reads_169 4096 (nI d) (nI k) (nI K) X') (some (0, X')) := fun {X} eX => by
    have eX0 : (sI X 194 2 0).1 194 33 = nI K := by rw [rdN (by omega)]; exact eX
    obtain ⟨X', f', g', e'⟩ := m_r34 (n := n) (x1 := nI d) (x2 := nI k) 4 0 4096 (sI X 194 2 0) (by omega) (by omega) (fun j hj => by omega)
    refine ⟨X', f', fun p => g' (fun i h1 _ => p i h1), ?_⟩
    have ht : tot (rdr n) (2 * 0) = 0 := rfl
    rw [ht] at e'
    simp only [sX12_reads, if_neg c1, if_neg c2', if_neg d1, eX0, if_pos (Int32.not_le.mp d2)]
    refine Eq.trans e' ?_
    rw [eX0]
    by_cases y : (∀ i, i < 4 → rpr n i) ∧ tot (rdr n) 8 = 16
    · rw [cpos y, cpos ⟨fun i h1 _ => y.1 i h1, y.2⟩]
    · rw [cneg y, cneg (fun p => y ⟨fun i h1 => p.1 i h1 (Nat.zero_le i), p.2⟩)]
  by_cases good : rgd n K
  · obtain ⟨g1', g2', g3'⟩ := rgd_iff.mp good
    obtain ⟨A4, e4, f4, r4⟩ := x_take82 (n := n) (d := d) (k := k) (M := A3) hd3 (by omega) r160
    have k33 : A4.1 194 33 = nI K := by rw [(f4 194 33 (by omega)).1, (fA 194 33 (by omega)).1]; exact b.2.2.2.1.2.2.1
    obtain ⟨X', f', g', e'⟩ := hm k33
    rw [cpos ⟨g1', g2'⟩, m_r169 (g' g1') (8 - K) K 4096 (by omega) (by omega), cpos g3'] at e'
    obtain ⟨M1, e1, f1, r1⟩ := m_r197 (n := n) (d := d) (k := k) (M := X') hd3 (by omega) (g' g1')
    have fAll : Fr pRd M M1 := Fr_tr (Fr_mo fA (fun id k q => by unfold pRd; omega)) (Fr_tr (Fr_mo f4 (fun id k q => by unfold pRd; omega)) (Fr_tr (M1 := sI A4 194 2 0) (Fr_sI (Fr_rf _ _) (by unfold pRd; omega)) (Fr_tr (Fr_mo f' (fun id k q => by unfold pRd; omega)) (Fr_mo f1 (fun id k q => by unfold pRd; omega)))))
    refine ⟨M1, st_join (v := 1) (Ma := A4) (hx i1 (by rw [cpos ⟨fun i h1 _ => good.1 i h1, good.2⟩, e4])) (e'.trans e1), ?_, fAll⟩
    have m159 : ∀ j, M1.1 159 j = A4.1 159 j := fun j => by
      rw [(f1 159 j (by omega)).1, (f' 159 j (by omega)).1, rdN (by omega)]
    have m224 : ∀ j, ¬ (64 * d + 8 * k ≤ j ∧ j < 64 * d + 8 * k + 8) → M1.1 224 j = M.1 224 j := fun j hj => by
      rw [(f1 224 j (by omega)).1, (f' 224 j (by omega)).1, rdN (by omega), (f4 224 j (by omega)).1, (fA 224 j (by omega)).1]
    have sm : ∀ id z, rBk kq id z → id ≠ 159 → id ≠ 224 → M1.1 id z = M.1 id z := fun id z q u1 u2 => by
      refine (fAll id z (fun p => ?_)).1
      have hk : kq.1 = 6 ∨ kq.1 = 14 := hq.1
      unfold pRd at p
      rcases p with rfl | rfl | rfl | rfl | ⟨rfl, rfl⟩
      · exact u1 rfl
      · unfold rBk rLand at q; omega
      · exact u2 rfl
      · unfold rBk rLand at q; omega
      · unfold rBk rLand at q; omega
    obtain ⟨b1, b2, b3, b4, b5, b6⟩ := b
    have sn : ∀ i, i < 60 → ∀ z, M1.1 (38 + 2 * i) z = M.1 (38 + 2 * i) z := fun i hi z => sm _ _ (rBk_n hi) (by omega) (by omega)
    have s2 : ∀ i, M1.1 202 i = M.1 202 i := fun i => sm _ _ (by unfold rBk; omega) (by omega) (by omega)
    refine ⟨iLandW_s b1 (fun id k q => sm id k (Or.inl q) (by unfold rLand at q; omega) (by unfold rLand at q; omega)), ?_, fun i hi => ?_, ?_, fun i hi q => ?_, fun j hj => ?_⟩
    · rw [sm 34 1 (by unfold rBk; omega) (by omega) (by omega), sm 194 26 (by unfold rBk; omega) (by omega) (by omega)]; exact b2
    · rw [sn i (by omega), s2]; exact b3 i hi
    · have hk : kq.1 = 6 ∨ kq.1 = 14 := hq.1
      rw [sm kq.1 9 (by unfold rBk; omega) (by omega) (by omega), sm 194 33 (by unfold rBk; omega) (by omega) (by omega), sm 158 4 (by unfold rBk; omega) (by omega) (by omega)]; exact b4
    · rw [s2] at q
      obtain ⟨y1, y2, y3, y4, y5, y6⟩ := b5 i hi q
      refine ⟨?_, ?_, ?_, ?_, ?_, ?_⟩
      · intro M' h'
        rw [sn i (by omega), sn i (by omega)]
        refine y1 M' (fun id k q => (h' id k q).trans (sm id k ?_ (by unfold rEv at q; omega) (by unfold rEv at q; omega)))
        unfold rEv at q
        rcases q with rfl | rfl | q | ⟨rfl, rfl⟩
        · unfold rBk; omega
        · unfold rBk; omega
        · exact Or.inr (Or.inr (Or.inr (Or.inr (Or.inr (Or.inr (Or.inr (Or.inr (Or.inr (Or.inl q)))))))))
        · unfold rBk; omega
      · rw [sn i (by omega)]; exact y2
      · rw [sn i (by omega)]; exact y3
      · rw [sn i (by omega)]; exact y4
      · rw [sn i (by omega), sm 203 i (by unfold rBk; omega) (by omega) (by omega)]; exact y5
      · rw [sn i (by omega), sm 204 i (by unfold rBk; omega) (by omega) (by omega)]; exact y6
    · by_cases u : 64 * d + 8 * k ≤ j ∧ j < 64 * d + 8 * k + 8
      · obtain ⟨i, rfl⟩ : ∃ i, j = 64 * d + 8 * k + i := ⟨j - (64 * d + 8 * k), by omega⟩
        rw [m159, r4 i (by omega), r1 i (by omega)]
        exact ⟨rfl, rdr_sm good (by omega)⟩
      · rw [m159, m224 j u, (f4 159 j (by omega)).1, (fA 159 j (by omega)).1]
        exact b6 j hj
  · have bad1 : ¬ ((∀ i, i < 8 → 0 ≤ i → rok n K i) ∧ tot (rdr n) 8 = 16) := fun p => good ⟨fun j hj => p.1 j hj (Nat.zero_le j), p.2⟩
    obtain ⟨X', f', g', e'⟩ := hm (X := A3) (by rw [(fA 194 33 (by omega)).1]; exact b.2.2.2.1.2.2.1)
    have e9 : sX12_reads (nI d) (nI k) (n 0) (n 1) (n 2) (n 3) A3 = some (0, X') := by
      rw [e']
      by_cases y : (∀ i, i < 4 → rpr n i) ∧ tot (rdr n) 8 = 16
      · rw [cpos y, m_r169 (g' y.1) (8 - K) K 4096 (by omega) (by omega), cneg (fun p => good (rgd_iff.mpr ⟨y.1, y.2, p⟩))]
      · rw [cneg y]
    have fAll : Fr (fun id k => id = 160 ∨ id = 226 ∨ id = 194 ∧ k = 2) M X' := Fr_tr (Fr_mo fA (fun id k q => by omega)) (Fr_tr (M1 := sI A3 194 2 0) (Fr_sI (Fr_rf _ _) (by omega)) (Fr_mo f' (fun id k q => by omega)))
    refine ⟨X', st_join (v := 0) (Ma := A3) (hx i0 (by rw [cneg bad1])) e9, Bk_sm b (Sm_fr fAll (fun id z q p => ?_)), Fr_mo fAll (fun id k q => by unfold pRd; omega)⟩
    have hk : kq.1 = 6 ∨ kq.1 = 14 := hq.1
    rcases p with rfl | rfl | ⟨rfl, rfl⟩ <;> (unfold rBk rLand at q; omega)
