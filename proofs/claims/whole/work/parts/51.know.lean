theorem gD_l {L : List Nat} {x j : Nat} (h : j < L.length) : (L ++ [x]).getD j 0 = L.getD j 0 := by
  rw [List.getD_eq_getElem?_getD, List.getD_eq_getElem?_getD, List.getElem?_append_left h]
theorem gD_r {L : List Nat} {x : Nat} : (L ++ [x]).getD L.length 0 = x := by
  rw [List.getD_eq_getElem?_getD, List.getElem?_append_right (Nat.le_refl _)]
  simp
/-- a loop whose counter goes up -/
theorem lp_M {α : Type} {f : Nat → Int32 → Mm → Option α} {n : Nat} {I : Nat → Mm → Prop} (st : ∀ (F i : Nat) (M : Mm), i < n → I i M → ∃ M', f (F + 1) (nI i) M = f F (nI (i + 1)) M' ∧ I (i + 1) M') : ∀ (d i F : Nat) (M : Mm), i + d = n → d ≤ F → I i M → ∃ M', f F (nI i) M = f (F - d) (nI n) M' ∧ I n M' := by
  intro d
  induction d with
  | zero =>
    intro i F M hi hF h
    have : i = n := by omega
    subst this
    exact ⟨M, rfl, h⟩
  | succ d ih =>
    intro i F M hi hF h
    obtain ⟨F, rfl⟩ : ∃ G, F = G + 1 := ⟨F - 1, by omega⟩
    obtain ⟨M', e, h'⟩ := st F i M (by omega) h
    obtain ⟨M2, e2, h2⟩ := ih (i + 1) F M' (by omega) (by omega) h'
    refine ⟨M2, ?_, h2⟩
    rw [e, e2, show F + 1 - (d + 1) = F - d by omega]
/-- the same with an accumulator -/
theorem lp_A {α : Type} {f : Nat → Int32 → Int32 → Mm → Option α} {n : Nat} {I : Nat → Int32 → Mm → Prop} (st : ∀ (F i : Nat) (a : Int32) (M : Mm), i < n → I i a M → ∃ a' M', f (F + 1) a (nI i) M = f F a' (nI (i + 1)) M' ∧ I (i + 1) a' M') : ∀ (d i F : Nat) (a : Int32) (M : Mm), i + d = n → d ≤ F → I i a M → ∃ a' M', f F a (nI i) M = f (F - d) a' (nI n) M' ∧ I n a' M' := by
  intro d
  induction d with
  | zero =>
    intro i F a M hi hF h
    have : i = n := by omega
    subst this
    exact ⟨a, M, rfl, h⟩
  | succ d ih =>
    intro i F a M hi hF h
    obtain ⟨F, rfl⟩ : ∃ G, F = G + 1 := ⟨F - 1, by omega⟩
    obtain ⟨a', M', e, h'⟩ := st F i a M (by omega) h
    obtain ⟨a2, M2, e2, h2⟩ := ih (i + 1) F a' M' (by omega) (by omega) h'
    refine ⟨a2, M2, ?_, h2⟩
    rw [e, e2, show F + 1 - (d + 1) = F - d by omega]
theorem nle_nI {a b : Nat} (h : b < a) (ha : a < 2 ^ 31) : ¬ nI a ≤ nI b := fun q => by have := (nI_leI ha (by omega)).mp q; omega
theorem nlt_nI {a b : Nat} (h : b ≤ a) (ha : a < 2 ^ 31) : ¬ nI a < nI b := fun q => by have := (nI_ltI ha (by omega)).mp q; omega
theorem ne_nI {a b : Nat} (h : a ≠ b) (ha : a < 2 ^ 31) (hb : b < 2 ^ 31) : ¬ nI a = nI b := fun q => by
  have := congrArg Int32.toNatClampNeg q
  rw [nI_clamp ha, nI_clamp hb] at this
  exact h this
theorem nI_dn (i : Nat) : nI (i + 1) - 1 = nI i := by
  rw [← nI_1]
  grind
theorem nI_dn2 (i : Nat) : nI i + (-1) = nI i - 1 := by grind
def b2 (b : Bool) : Int32 := if b = true then 1 else 0
/-- what is struck, going down from note i -/
def skd (T : Nat → Int32) : Nat → (Nat → Bool) → Nat → Bool
  | 0, s => s
  | i + 1, s => skd T i (if 0 ≤ T i ∧ s i = false then fun k => if k = (T i).toNatClampNeg then true else s k else s)
def p37 (id _k : Nat) : Prop := id = 37
theorem fs9 {n : Nat} (hn : n ≤ 60) (M : Mm) : ∃ M', sX1_findStruck_9 4096 (nI n) 0 M = sX1_findStruck_31 4096 (nI n - 1) M' ∧ Fr p37 M M' ∧ ∀ k, k < n → M'.1 37 k = 0 := by
  obtain ⟨M', e, f, h⟩ := lp_M (f := fun F i M => sX1_findStruck_9 F (nI n) i M) (n := n) (I := fun i M' => Fr p37 M M' ∧ ∀ k, k < i → M'.1 37 k = 0) (fun F i M1 hi h => by
    refine ⟨sI M1 37 i 0, ?_, Fr_sI h.1 rfl, fun k hk => ?_⟩
    · show sX1_findStruck_9 (F + 1) (nI n) (nI i) M1 = _
      rw [sX1_findStruck_9, if_neg (nle_nI hi (by omega)), ckT (inb_nI (by omega) (by decide)), nI_clamp (by omega), nI_1]
    · by_cases e : k = i
      · subst e; exact rdS _ _ _ _
      · rw [rdN (by omega)]; exact h.2 k (by omega)) n 0 4096 M (by omega) (by omega) ⟨Fr_rf _ _, fun k hk => by omega⟩
  refine ⟨M', ?_, f, h⟩
  refine Eq.trans e ?_
  show sX1_findStruck_9 (4096 - n) (nI n) (nI n) M' = _
  rw [show 4096 - n = (4095 - n) + 1 by omega, sX1_findStruck_9, if_pos (nI_le (by omega) (by omega))]
theorem fs31 {n : Nat} {M0 : Mm} {T : Nat → Int32} (hn : n ≤ 60) (hT : ∀ i, i < n → M0.1 (38 + 2 * i) 0 = T i ∧ (T i = -1 ∨ ∃ j, j < i ∧ T i = nI j)) : ∀ (i F : Nat) (M : Mm) (s : Nat → Bool), i ≤ n → i < F → (∀ k, k < n → M.1 37 k = b2 (s k)) → Fr p37 M0 M → ∃ M', sX1_findStruck_31 F (nI i - 1) M = some M' ∧ Fr p37 M0 M' ∧ ∀ k, k < n → M'.1 37 k = b2 (skd T i s k) := by
  intro i
  induction i with
  | zero =>
    intro F M s h1 h2 h3 h4
    obtain ⟨F, rfl⟩ : ∃ G, F = G + 1 := ⟨F - 1, by omega⟩
    exact ⟨M, by rw [sX1_findStruck_31, if_pos (by decide)], h4, h3⟩
  | succ i ih =>
    intro F M s h1 h2 h3 h4
    obtain ⟨F, rfl⟩ : ∃ G, F = G + 1 := ⟨F - 1, by omega⟩
    obtain ⟨e1, e2⟩ := hT i (by omega)
    have e3 : M.1 (38 + 2 * i) 0 = T i := by rw [(h4 _ _ (by unfold p37; omega)).1]; exact e1
    rw [nI_dn, sX1_findStruck_31, if_neg (Int32.not_lt.mpr (nI_nn (by omega))), ckT (inb_nI (by omega) (by decide)), nI_clamp (by omega), e3]
    rcases e2 with q | ⟨j, hj, q⟩
    · have c : ¬ (0 ≤ T i ∧ s i = false) := fun p => by rw [q] at p; exact neg1 p.1
      rw [if_pos (by rw [q]; decide)]
      unfold sX1_findStruck_74
      rw [nI_dn2]
      obtain ⟨M', g1, g2, g3⟩ := ih F M s (by omega) (by omega) h3 h4
      exact ⟨M', g1, g2, fun k hk => by rw [skd, if_neg c]; exact g3 k hk⟩
    · rw [if_neg (by rw [q]; exact Int32.not_lt.mpr (nI_nn (by omega))), if_neg (by rw [q]; exact nle_nI hj (by omega)), ckT (inb_nI (by omega) (by decide)), h3 i (by omega)]
      by_cases z : s i = false
      · rw [if_pos (by rw [z]; rfl), ckT (by rw [q]; exact inb_nI (by omega) (by decide))]
        have c : 0 ≤ T i ∧ s i = false := ⟨by rw [q]; exact nI_nn (by omega), z⟩
        unfold sX1_findStruck_74
        rw [nI_dn2]
        obtain ⟨M', g1, g2, g3⟩ := ih F (sI M 37 (T i).toNatClampNeg 1) (fun k => if k = (T i).toNatClampNeg then true else s k) (by omega) (by omega) (fun k hk => by
          by_cases u : k = (T i).toNatClampNeg
          · rw [← u, rdS, if_pos rfl]; rfl
          · rw [rdN (by omega), if_neg u]; exact h3 k hk) (Fr_sI h4 rfl)
        exact ⟨M', g1, g2, fun k hk => by rw [skd, if_pos c]; exact g3 k hk⟩
      · have c : ¬ (0 ≤ T i ∧ s i = false) := fun p => z p.2
        have z1 : s i = true := by cases hh : s i <;> simp_all
        rw [if_neg (by rw [z1]; decide)]
        unfold sX1_findStruck_74
        rw [nI_dn2]
        obtain ⟨M', g1, g2, g3⟩ := ih F M s (by omega) (by omega) h3 h4
        exact ⟨M', g1, g2, fun k hk => by rw [skd, if_neg c]; exact g3 k hk⟩
/-- the notes that count by n -/
def cnt (M : Mm) (n i : Nat) : Bool := decide (M.1 202 i = -1) && !(skd (fun i => M.1 202 i) n (fun _ => false) i) && decide (¬ M.1 (38 + 2 * i) 5 = -1)
def Lof (M : Mm) (n : Nat) : List Nat := (List.range n).filter (cnt M n)
theorem Lof_len (M : Mm) (n : Nat) : (Lof M n).length ≤ n := by
  unfold Lof
  exact Nat.le_trans (List.length_filter_le _ _) (by rw [List.length_range]; exact Nat.le_refl _)
def pGa (id k : Nat) : Prop := id = 37 ∨ id = 36 ∨ id = 34 ∧ k = 3
def iSt (M : Mm) (n : Nat) : Prop := ∀ i, i < n → M.1 (38 + 2 * i) 0 = M.1 202 i ∧ (M.1 202 i = -1 ∨ ∃ j, j < i ∧ M.1 202 i = nI j)
theorem x_gather {M : Mm} {n : Nat} (hn : n ≤ 60) (hT : iSt M n) : ∃ M', sX1_gather (nI n) M = some M' ∧ Fr pGa M M' ∧ M'.1 34 3 = nI (Lof M n).length ∧ ∀ j, j < (Lof M n).length → M'.1 36 j = nI ((Lof M n).getD j 0) := by
  obtain ⟨A, a1, a2, a3⟩ := fs9 hn M
  obtain ⟨B, b1, b2', b3⟩ := fs31 (T := fun i => M.1 202 i) hn hT n 4096 A (fun _ => false) (Nat.le_refl _) (by omega) (fun k hk => by rw [a3 k hk]; rfl) a2
  have eS : sX1_findStruck (nI n) M = some B := by
    unfold sX1_findStruck
    rw [if_neg (by rw [show (60 : Int32) = nI 60 from rfl]; exact nlt_nI hn (by omega)), a1, b1]
  unfold sX1_gather
  rw [eS, Option.bind_some]
  have fB : ∀ id k, id ≠ 37 → B.1 id k = M.1 id k := fun id k q => (b2' id k q).1
  obtain ⟨D, e, f, h1, h2, h3⟩ := lp_M (f := fun F i M => sX1_gather_12 F (nI n) i M) (n := n) (I := fun i D => Fr pGa M D ∧ (∀ k, k < n → D.1 37 k = B.1 37 k) ∧ D.1 34 3 = nI ((List.range i).filter (cnt M n)).length ∧ ∀ j, j < ((List.range i).filter (cnt M n)).length → D.1 36 j = nI (((List.range i).filter (cnt M n)).getD j 0)) (fun F i D hi h => by
    obtain ⟨h1, h2, h3, h4⟩ := h
    have k0 : D.1 (38 + 2 * i) 0 = M.1 202 i := by rw [(h1 _ _ (by unfold pGa; omega)).1]; exact (hT i hi).1
    have k5 : D.1 (38 + 2 * i) 5 = M.1 (38 + 2 * i) 5 := (h1 _ _ (by unfold pGa; omega)).1
    have ib := inb_nI (show i < 60 by omega) (by decide)
    have hl : ((List.range i).filter (cnt M n)).length ≤ i := Nat.le_trans (List.length_filter_le _ _) (by rw [List.length_range]; exact Nat.le_refl _)
    have skip : cnt M n i = false → sX1_gather_12 (F + 1) (nI n) (nI i) D = sX1_gather_12 F (nI n) (nI (i + 1)) D → ∃ M', sX1_gather_12 (F + 1) (nI n) (nI i) D = sX1_gather_12 F (nI n) (nI (i + 1)) M' ∧ Fr pGa M M' ∧ (∀ k, k < n → M'.1 37 k = B.1 37 k) ∧ M'.1 34 3 = nI ((List.range (i + 1)).filter (cnt M n)).length ∧ ∀ j, j < ((List.range (i + 1)).filter (cnt M n)).length → M'.1 36 j = nI (((List.range (i + 1)).filter (cnt M n)).getD j 0) := by
      intro q e
      have e9 : (List.range (i + 1)).filter (cnt M n) = (List.range i).filter (cnt M n) := by
        rw [List.range_succ, List.filter_append, List.filter_cons_of_neg (by rw [q]; decide), List.filter_nil, List.append_nil]
      rw [e9]
      exact ⟨D, e, h1, h2, h3, h4⟩
    have g78 : ∀ X, sX1_gather_78 (sX1_gather_12 F) (nI n) (nI i) X = sX1_gather_12 F (nI n) (nI (i + 1)) X := fun X => by unfold sX1_gather_78; rw [nI_1]
    have beg : sX1_gather_12 (F + 1) (nI n) (nI i) D = if M.1 202 i = -1 then (if B.1 37 i = 0 then (if M.1 (38 + 2 * i) 5 = -1 then sX1_gather_12 F (nI n) (nI (i + 1)) D else ck (inb (D.1 34 3) 60) (sX1_gather_12 F (nI n) (nI (i + 1)) (sI (sI D 36 (D.1 34 3).toNatClampNeg (nI i)) 34 3 (((sI D 36 (D.1 34 3).toNatClampNeg (nI i)).1 34 3) + 1)))) else sX1_gather_12 F (nI n) (nI (i + 1)) D) else sX1_gather_12 F (nI n) (nI (i + 1)) D := by
      rw [sX1_gather_12, if_neg (nle_nI hi (by omega)), if_neg (lit_nle (v := 60) (n := 60) rfl (by omega) (by decide))]
      simp only [ckT ib, nI_clamp (show i < 2 ^ 31 by omega), k0, k5, g78, h2 i hi]
    have b37 : B.1 37 i = b2 (skd (fun i => M.1 202 i) n (fun _ => false) i) := b3 i hi
    by_cases c1 : M.1 202 i = -1
    · by_cases c2 : skd (fun i => M.1 202 i) n (fun _ => false) i = false
      · by_cases c3 : M.1 (38 + 2 * i) 5 = -1
        · refine skip (by unfold cnt; simp [c3]) (by rw [beg, if_pos c1, b37, c2, if_pos (show b2 false = 0 from rfl), if_pos c3])
        · have q : cnt M n i = true := by unfold cnt; simp [c1, c2, c3]
          have e9 : (List.range (i + 1)).filter (cnt M n) = (List.range i).filter (cnt M n) ++ [i] := by
            rw [List.range_succ, List.filter_append, List.filter_cons_of_pos q, List.filter_nil]
          rw [e9]
          generalize hL : (List.range i).filter (cnt M n) = L at h3 h4 hl
          refine ⟨sI (sI D 36 L.length (nI i)) 34 3 (nI (L.length + 1)), ?_, Fr_sI (Fr_sI h1 (by unfold pGa; omega)) (by unfold pGa; omega), fun k hk => ?_, ?_, fun j hj => ?_⟩
          · show sX1_gather_12 (F + 1) (nI n) (nI i) D = _
            rw [beg, if_pos c1, b37, c2, if_pos (show b2 false = 0 from rfl), if_neg c3, h3, ckT (inb_nI (by omega) (by decide)), nI_clamp (by omega), rdN (by omega), h3, nI_1]
          · rw [rdN (by omega), rdN (by omega)]; exact h2 k hk
          · rw [rdS, List.length_append]; rfl
          · rw [rdN (by omega)]
            rw [List.length_append, List.length_singleton] at hj
            by_cases u : j = L.length
            · rw [u, rdS, gD_r]
            · rw [rdN (by omega), h4 j (by omega), gD_l (by omega)]
      · have z1 : skd (fun i => M.1 202 i) n (fun _ => false) i = true := by cases hh : skd (fun i => M.1 202 i) n (fun _ => false) i <;> simp_all
        exact skip (by unfold cnt; simp [z1]) (by rw [beg, if_pos c1, b37, z1, if_neg (by decide)])
    · exact skip (by unfold cnt; simp [c1]) (by rw [beg, if_neg c1])) n 0 4096 (sI B 34 3 0) (by omega) (by omega) ⟨Fr_sI (Fr_mo b2' (fun id k q => Or.inl q)) (by unfold pGa; omega), fun k hk => by rw [rdN (by omega)], by rw [rdS]; rfl, fun j hj => absurd hj (Nat.not_lt_zero j)⟩
  refine ⟨D, ?_, f, h2, h3⟩
  refine Eq.trans e ?_
  show sX1_gather_12 (4096 - n) (nI n) (nI n) D = _
  rw [show 4096 - n = (4095 - n) + 1 by omega, sX1_gather_12, if_pos (nI_le (by omega) (by omega))]
