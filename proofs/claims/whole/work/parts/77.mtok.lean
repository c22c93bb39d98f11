/-- a sign's number in the model -/
def sgW (T : Nat → Int32) (n a : Nat) : Int32 := if T a = 60 then (if sgE T n a = true then 2 else 1) else if T a = 62 then (if sgE T n a = true then 4 else 5) else if T a = 61 then 3 else if T a = 45 ∨ T a = 59 ∨ T a = 58 ∨ T a = 40 ∨ T a = 41 then T a else -1
def mW (T : Nat → Int32) (n q : Nat) : Int32 := if isD (T (tA T n q)) = true then nI (mN T (tA T n q) (tE T n q - tA T n q)) else if isL (T (tA T n q)) = true then mwn (enc T (tA T n q) (tE T n q - tA T n q)) else sgW T n (tA T n q)
def mK (T : Nat → Int32) (n q : Nat) : Int32 := if tA T n q < n then (if isD (T (tA T n q)) = true then 3 else if isL (T (tA T n q)) = true then (if mW T n q < 0 then (if tE T n q - tA T n q ≤ 8 then 2 else 5) else 1) else (if 0 ≤ mW T n q then 4 else 5)) else 0
def MT (T : Nat → Int32) (n q : Nat) (M : Mm) : Prop := M.1 194 19 = nI n ∧ M.1 194 20 = nI (tE T n q) ∧ M.1 194 23 = nI (tA T n q) ∧ M.1 194 24 = nI (tE T n q) ∧ M.1 194 21 = mK T n q ∧ (tS T n q ≠ 0 → M.1 194 22 = mW T n q)
def pMt (id k : Nat) : Prop := id = 194 ∧ 20 ≤ k ∧ k ≤ 24
theorem m_eqs {T : Nat → Int32} {n p : Nat} {M : Mm} (hT : Tp 195 T n M) (hp : p ≤ n) (e : M.1 194 19 = nI n) : sX12_isEqual (nI p) M = some (b2 (decide (p < n) && decide (T p = 61)), M) := by
  have h8 := hT.1
  unfold sX12_isEqual
  rw [e]
  by_cases c : p < n
  · rw [if_neg (nle_nI c (by omega)), ckT (inb_nI (by omega) (by decide)), nI_clamp (by omega), hT.2 p c, decide_eq_true c, Bool.true_and]
    by_cases c1 : T p = 61
    · rw [if_pos c1, decide_eq_true c1]; rfl
    · rw [if_neg c1, decide_eq_false c1]; rfl
  · rw [if_pos (nI_le (by omega) (by omega)), decide_eq_false c]; rfl
theorem m_sgn {T : Nat → Int32} {n a : Nat} {M : Mm} (hT : Tp 195 T n M) (ha : a < n) (e : M.1 194 19 = nI n) (e20 : M.1 194 20 = nI (a + 1)) : sX12_signOf (T a) M = some (sgW T n a, M) := by
  have q := m_eqs hT (show a + 1 ≤ n by omega) e
  unfold sX12_signOf sX12_signOf_86 sgW
  by_cases c1 : T a = 60
  · rw [if_pos c1, if_pos c1, e20, q, Option.bind_some]
    have : (decide (a + 1 < n) && decide (T (a + 1) = 61)) = sgE T n a := by unfold sgE; simp [c1]
    rw [this]
    cases sgE T n a <;> rfl
  · rw [if_neg c1, if_neg c1]
    by_cases c2 : T a = 62
    · rw [if_pos c2, if_pos c2, e20, q, Option.bind_some]
      have : (decide (a + 1 < n) && decide (T (a + 1) = 61)) = sgE T n a := by unfold sgE; simp [c2]
      rw [this]
      cases sgE T n a <;> rfl
    · rw [if_neg c2, if_neg c2]
      by_cases c3 : T a = 61
      · rw [if_pos c3, if_pos c3]
      · rw [if_neg c3, if_neg c3]
        by_cases d1 : T a = 45
        · rw [if_pos d1, if_pos (Or.inl d1)]
        · rw [if_neg d1]
          by_cases d2 : T a = 59
          · rw [if_pos d2, if_pos (Or.inr (Or.inl d2))]
          · rw [if_neg d2]
            by_cases d3 : T a = 58
            · rw [if_pos d3, if_pos (Or.inr (Or.inr (Or.inl d3)))]
            · rw [if_neg d3]
              by_cases d4 : T a = 40
              · rw [if_pos d4, if_pos (Or.inr (Or.inr (Or.inr (Or.inl d4))))]
              · rw [if_neg d4]
                by_cases d5 : T a = 41
                · rw [if_pos d5, if_pos (Or.inr (Or.inr (Or.inr (Or.inr d5))))]
                · rw [if_neg d5, if_neg (by simp [d1, d2, d3, d4, d5])]
theorem sgW_2 {T : Nat → Int32} {n a : Nat} : (sgW T n a = 2 ∨ sgW T n a = 4) ↔ sgE T n a = true := by
  unfold sgW
  by_cases c1 : T a = 60
  · rw [if_pos c1]
    cases sgE T n a <;> decide
  · rw [if_neg c1]
    by_cases c2 : T a = 62
    · rw [if_pos c2]
      cases sgE T n a <;> decide
    · rw [if_neg c2]
      have hf : sgE T n a = false := by unfold sgE; simp [c1, c2]
      rw [hf]
      by_cases c3 : T a = 61
      · rw [if_pos c3]; decide
      · rw [if_neg c3]
        by_cases c4 : T a = 45 ∨ T a = 59 ∨ T a = 58 ∨ T a = 40 ∨ T a = 41
        · rw [if_pos c4]
          rcases c4 with q | q | q | q | q <;> (rw [q]; decide)
        · rw [if_neg c4]; decide
theorem m_take {T : Nat → Int32} {n q : Nat} {M : Mm} (hq : q ≤ n) (hT : Tp 195 T n M) (hw : iWm M) (e19 : M.1 194 19 = nI n) (e20 : M.1 194 20 = nI q) : ∃ M', sX12_take M = some M' ∧ Fr pMt M M' ∧ MT T n q M' := by
  have h8 := hT.1
  obtain ⟨A, a1, a2, a3⟩ := m_blank (n - q) q 4096 M rfl hq (by omega) hT e19 e20
  obtain ⟨h1, h2, h3, h4⟩ := rnE_b (p := isB) (T := T) (n := n) (n - q) q rfl hq
  obtain ⟨A5, eA5⟩ : ∃ A5, A5 = sI A 194 23 (nI (rnE isB T n q)) := ⟨_, rfl⟩
  have fA5 : Fr pMt M A5 := by
    rw [eA5]
    exact Fr_sI (Fr_mo a2 (fun id k q => by unfold pMt; omega)) (by unfold pMt; omega)
  have g2 : A5.1 194 19 = nI n := by rw [eA5, rdN (by omega), (a2 194 19 (by omega)).1]; exact e19
  have g3 : A5.1 194 20 = nI (rnE isB T n q) := by rw [eA5, rdN (by omega)]; exact a3
  have g5 : A5.1 194 23 = nI (rnE isB T n q) := by rw [eA5, rdS]
  have gT : Tp 195 T n A5 := ⟨h8, fun k hk => by rw [eA5, rdN (by omega), (a2 195 k (by omega)).1]; exact hT.2 k hk⟩
  have gw : iWm A5 := fun i hi => by
    rw [eA5, rdN (by omega), (a2 201 i (by omega)).1]
    exact hw i hi
  have e0 : sX12_take M = sX12_take_52 A := a1
  rw [e0]
  unfold sX12_take_52
  rw [a3, ← eA5, g2, g3]
  unfold MT tS mK mW tE tA
  generalize rnE isB T n q = a at h1 h2 h3 h4 g3 g5
  by_cases c : a < n
  · have ib := inb_nI (show a < 800 by omega) (by decide)
    rw [if_neg (ne_nI (by omega) (by omega) (by omega)), m_isS gT h2 g2, Option.bind_some, decide_eq_true c, Bool.true_and]
    dsimp only
    rw [if_pos c, if_pos c, if_pos c]
    by_cases c2 : isL (T a) = true
    · have c1' : isD (T a) = false := by
        obtain ⟨k, k1, k2, k3⟩ := isL_ex c2
        rw [k3]
        unfold isD
        have : (57 : Int32) < nI k := nI_lt (a := 57) (by omega) (by omega)
        simp [this]
      rw [c2, if_neg b2t0, c1', if_neg ff_, if_neg ff_, if_neg ff_, if_neg ff_, if_pos rfl, if_pos rfl, if_pos rfl, if_pos rfl]
      obtain ⟨B, b1, b2', b3⟩ := m_let (T := T) (n := n) (n - a) a 4096 A5 rfl h2 (by omega) gT g2 g3
      obtain ⟨k1, k2, k3, k4⟩ := rnE_b (p := isL) (T := T) (n := n) (n - a) a rfl h2
      have s23 : B.1 194 23 = nI a := by rw [(b2' 194 23 (by omega)).1]; exact g5
      have s19 : B.1 194 19 = nI n := by rw [(b2' 194 19 (by omega)).1]; exact g2
      have sT : Tp 195 T n B := ⟨h8, fun k hk => by rw [(b2' 195 k (by omega)).1]; exact gT.2 k hk⟩
      have sw : iWm B := fun j hj => by rw [(b2' 201 j (by omega)).1]; exact gw j hj
      rw [b1, s23, b3]
      generalize rnE isL T n a = e at b3 k1 k2 k3 k4
      rw [m_wat sT sw k2 k1 (fun j hj => k4 (a + j) (by omega) (by omega)), Option.bind_some]
      dsimp only
      unfold sX12_take_161 sX12_take_324
      rw [rdS, rdN (by omega), rdN (by omega), s23, b3, nI_sb k1]
      have ek : (if mwn (enc T a (e - a)) < 0 then (if nI (e - a) ≤ 8 then (2 : Int32) else 5) else 1) = if mwn (enc T a (e - a)) < 0 then (if e - a ≤ 8 then 2 else 5) else 1 := by
        by_cases u : e - a ≤ 8
        · rw [if_pos (show nI (e - a) ≤ 8 from nI_le (b := 8) u (by omega)), if_pos u]
        · rw [if_neg (show ¬ nI (e - a) ≤ 8 from nle_nI (b := 8) (by omega) (by omega)), if_neg u]
      rw [ek]
      refine ⟨_, rfl, Fr_sI (Fr_sI (Fr_sI (Fr_tr fA5 (Fr_mo b2' (fun id k q => by unfold pMt; omega))) (by unfold pMt; omega)) (by unfold pMt; omega)) (by unfold pMt; omega), ?_, ?_, ?_, ?_, ?_, fun _ => ?_⟩
      · rw [rdN (by omega), rdN (by omega), rdN (by omega)]; exact s19
      · rw [rdN (by omega), rdN (by omega), rdN (by omega)]; exact b3
      · rw [rdN (by omega), rdN (by omega), rdN (by omega)]; exact s23
      · rw [rdS, rdN (by omega), rdN (by omega)]; exact b3
      · rw [rdN (by omega), rdS]
      · rw [rdN (by omega), rdN (by omega), rdS]
    · have c2' : isL (T a) = false := by cases hh : isL (T a) <;> simp_all
      rw [c2', if_pos b2f, g3, m_isDg gT h2 g2, Option.bind_some, decide_eq_true c, Bool.true_and]
      dsimp only
      by_cases c1 : isD (T a) = true
      · rw [c1, if_neg b2t0]
        simp only [if_pos (show (true = true) from rfl)]
        obtain ⟨B, b1, b2', b3, b4⟩ := m_num (T := T) (n := n) (a := a) (n - a) 0 4096 (sI (sI A5 194 21 3) 194 22 0) (by omega) (by omega) (by omega) (fun j hj => by omega) ⟨h8, fun k hk => by rw [rdN (by omega), rdN (by omega)]; exact gT.2 k hk⟩ (by rw [rdN (by omega), rdN (by omega)]; exact g2) (by rw [rdN (by omega), rdN (by omega)]; exact g3) (by rw [rdS]; rfl)
        rw [b1]
        rw [Nat.add_zero] at b3 b4
        unfold sX12_take_324
        refine ⟨_, rfl, Fr_sI (Fr_tr fA5 (Fr_tr (Fr_sI (Fr_sI (Fr_rf _ _) (by unfold pMt; omega)) (by unfold pMt; omega)) (Fr_mo b2' (fun id k q => by unfold pMt; omega)))) (by unfold pMt; omega), ?_, ?_, ?_, ?_, ?_, fun _ => ?_⟩
        · rw [rdN (by omega), (b2' 194 19 (by omega)).1, rdN (by omega), rdN (by omega)]; exact g2
        · rw [rdN (by omega)]; exact b3
        · rw [rdN (by omega), (b2' 194 23 (by omega)).1, rdN (by omega), rdN (by omega)]; exact g5
        · rw [rdS]; exact b3
        · rw [rdN (by omega), (b2' 194 21 (by omega)).1, rdN (by omega), rdS]; rfl
        · rw [rdN (by omega)]; exact b4
      · have c1' : isD (T a) = false := by cases hh : isD (T a) <;> simp_all
        rw [c1', if_pos b2f, g3, ckT ib, nI_clamp (by omega), gT.2 a c, nI_1]
        simp only [if_neg ff_]
        have hs := m_sgn (T := T) (n := n) (a := a) (M := sI A5 194 20 (nI (a + 1))) ⟨h8, fun k hk => by rw [rdN (by omega)]; exact gT.2 k hk⟩ c (by rw [rdN (by omega)]; exact g2) (rdS _ _ _ _)
        rw [hs, Option.bind_some]
        dsimp only
        unfold sX12_take_295 sX12_take_314 sX12_take_324
        rw [rdS, rdN (by omega), rdS]
        have h2 := sgW_2 (T := T) (n := n) (a := a)
        obtain ⟨C, eC⟩ : ∃ C, C = sI (sI (sI A5 194 20 (nI (a + 1))) 194 22 (sgW T n a)) 194 21 (if 0 ≤ sgW T n a then 4 else 5) := ⟨_, rfl⟩
        have k19 : C.1 194 19 = nI n := by rw [eC, rdN (by omega), rdN (by omega), rdN (by omega)]; exact g2
        have k20 : C.1 194 20 = nI (a + 1) := by rw [eC, rdN (by omega), rdN (by omega), rdS]
        have k21 : C.1 194 21 = if 0 ≤ sgW T n a then 4 else 5 := by rw [eC, rdS]
        have k22 : C.1 194 22 = sgW T n a := by rw [eC, rdN (by omega), rdS]
        have k23 : C.1 194 23 = nI a := by rw [eC, rdN (by omega), rdN (by omega), rdN (by omega)]; exact g5
        have fC : Fr pMt M C := by
          rw [eC]
          exact Fr_sI (Fr_sI (Fr_sI fA5 (by unfold pMt; omega)) (by unfold pMt; omega)) (by unfold pMt; omega)
        rw [← eC, k20, nI_1]
        by_cases c3 : sgE T n a = true
        · have e3 : ∀ {X Y : Option Mm}, (if sgW T n a = 2 then X else if sgW T n a = 4 then X else Y) = X := fun {X Y} => by
            rcases h2.mpr c3 with q | q
            · rw [if_pos q]
            · by_cases q2 : sgW T n a = 2
              · rw [if_pos q2]
              · rw [if_neg q2, if_pos q]
          rw [e3, if_pos c3]
          refine ⟨_, rfl, Fr_sI (Fr_sI fC (by unfold pMt; omega)) (by unfold pMt; omega), ?_, ?_, ?_, ?_, ?_, fun _ => ?_⟩
          · rw [rdN (by omega), rdN (by omega)]; exact k19
          · rw [rdN (by omega), rdS]
          · rw [rdN (by omega), rdN (by omega)]; exact k23
          · rw [rdS, rdS]
          · rw [rdN (by omega), rdN (by omega)]; exact k21
          · rw [rdN (by omega), rdN (by omega)]; exact k22
        · rw [if_neg (fun q => c3 (h2.mp (Or.inl q))), if_neg (fun q => c3 (h2.mp (Or.inr q))), if_neg c3]
          refine ⟨_, rfl, Fr_sI fC (by unfold pMt; omega), ?_, ?_, ?_, ?_, ?_, fun _ => ?_⟩
          · rw [rdN (by omega)]; exact k19
          · rw [rdN (by omega)]; exact k20
          · rw [rdN (by omega)]; exact k23
          · rw [rdS]
          · rw [rdN (by omega)]; exact k21
          · rw [rdN (by omega)]; exact k22
  · rw [if_pos (show nI a = nI n by rw [show a = n by omega]), if_neg c, if_neg c, if_neg c]
    unfold sX12_take_324
    refine ⟨_, rfl, Fr_sI (Fr_sI fA5 (by unfold pMt; omega)) (by unfold pMt; omega), ?_, ?_, ?_, ?_, ?_, fun q => absurd rfl q⟩
    · rw [rdN (by omega), rdN (by omega)]; exact g2
    · rw [rdN (by omega), rdN (by omega)]; exact g3
    · rw [rdN (by omega), rdN (by omega)]; exact g5
    · rw [rdS, rdN (by omega)]; exact g3
    · rw [rdN (by omega), rdS]
