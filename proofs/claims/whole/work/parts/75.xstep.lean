theorem ff_ : ¬ (false = true) := by decide
theorem x_step {T : Nat → Int32} {n q : Nat} {M : Mm} (hq : q ≤ n) (hT : Tp 2 T n M) (hw : iWx M) (e2 : M.1 3 2 = nI n) (e3 : M.1 3 3 = nI q) : ∃ M', sX10_step M = some M' ∧ Fr pXs M M' ∧ XT T n q M' := by
  have h8 := hT.1
  obtain ⟨A, a1, a2, a3⟩ := x_blank (n - q) q 4096 M rfl hq (by omega) hT e2 e3
  obtain ⟨h1, h2, h3, h4⟩ := rnE_b (p := isB) (T := T) (n := n) (n - q) q rfl hq
  obtain ⟨A5, eA5⟩ : ∃ A5, A5 = sI A 3 5 (nI (rnE isB T n q)) := ⟨_, rfl⟩
  have fA5 : Fr pXs M A5 := by
    rw [eA5]
    exact Fr_sI (Fr_mo a2 (fun id k q => by unfold pXs; omega)) (by unfold pXs; omega)
  have g2 : A5.1 3 2 = nI n := by rw [eA5, rdN (by omega), (a2 3 2 (by omega)).1]; exact e2
  have g3 : A5.1 3 3 = nI (rnE isB T n q) := by rw [eA5, rdN (by omega)]; exact a3
  have g5 : A5.1 3 5 = nI (rnE isB T n q) := by rw [eA5, rdS]
  have gT : Tp 2 T n A5 := ⟨h8, fun k hk => by rw [eA5, rdN (by omega), (a2 2 k (by omega)).1]; exact hT.2 k hk⟩
  have gw : iWx A5 := fun i hi => by
    rw [eA5]
    show A.2 4 i = _
    rw [(a2 4 i (by omega)).2]
    exact hw i hi
  have e0 : sX10_step M = sX10_step_52 A := a1
  rw [e0]
  unfold sX10_step_52
  rw [a3, ← eA5, g2, g3]
  unfold XT tS tE xV xLt tE tA
  generalize rnE isB T n q = a at h1 h2 h3 h4 g3 g5
  by_cases c : a < n
  · have ib := inb_nI (show a < 800 by omega) (by decide)
    have eT := gT.2 a c
    rw [if_pos (nI_lt c (by omega)), ckT ib, nI_clamp (by omega), eT, x_isD, Option.bind_some]
    dsimp only
    rw [if_pos c, if_pos c]
    by_cases c1 : isD (T a) = true
    · rw [c1, if_neg b2t0, if_pos rfl, if_pos rfl, if_pos rfl]
      unfold sX10_cutNumber
      obtain ⟨B, b1, b2', b3, b4⟩ := x_num (T := T) (n := n) (a := a) (n - a) 0 4096 (sI (sI A5 3 4 1) 3 6 0) (by omega) (by omega) (by omega) (fun j hj => by omega) ⟨h8, fun k hk => by rw [rdN (by omega), rdN (by omega)]; exact gT.2 k hk⟩ (by rw [rdN (by omega), rdN (by omega)]; exact g2) (by rw [rdN (by omega), rdN (by omega)]; exact g3) (by rw [rdS]; rfl)
      rw [b1, Option.bind_some]
      refine ⟨B, rfl, Fr_tr fA5 (Fr_tr (Fr_sI (Fr_sI (Fr_rf _ _) (by unfold pXs; omega)) (by unfold pXs; omega)) (Fr_mo b2' (fun id k q => by unfold pXs; omega))), ?_, b3, ?_, ?_, fun _ => b4, fun q => by omega⟩
      · rw [(b2' 3 2 (by omega)).1, rdN (by omega), rdN (by omega)]; exact g2
      · rw [(b2' 3 5 (by omega)).1, rdN (by omega), rdN (by omega)]; exact g5
      · rw [(b2' 3 4 (by omega)).1, rdN (by omega), rdS]; rfl
    · have c1' : isD (T a) = false := by cases hh : isD (T a) <;> simp_all
      rw [c1', if_pos b2f, if_neg ff_, if_neg ff_, if_neg ff_, g3, ckT ib, nI_clamp (by omega), eT, x_isL, Option.bind_some]
      dsimp only
      by_cases c2 : isL (T a) = true
      · rw [c2, if_neg b2t0, if_pos rfl, if_pos rfl, if_pos rfl]
        unfold sX10_cutWord
        obtain ⟨B, b1, b2', b3, b4⟩ := x_let (T := T) (n := n) (a := a) (n - a) 0 4096 (sL (sI A5 3 4 2) 3 7 0) (by omega) (by omega) (by omega) (fun j hj => by omega) ⟨h8, fun k hk => by
          show (sI A5 3 4 2).1 2 k = _
          rw [rdN (by omega)]; exact gT.2 k hk⟩ (by
          show (sI A5 3 4 2).1 3 2 = _
          rw [rdN (by omega)]; exact g2) (by
          show (sI A5 3 4 2).1 3 3 = _
          rw [rdN (by omega)]; exact g3) (by
          show (sI A5 3 4 2).1 3 5 = _
          rw [rdN (by omega)]; exact g5) (by simp [sL, up2]; rfl)
        rw [Nat.add_zero] at b3 b4
        obtain ⟨k1, k2, k3, k4⟩ := rnE_b (p := isL) (T := T) (n := n) (n - a) a rfl h2
        have s5 : B.1 3 5 = nI a := by
          rw [(b2' 3 5 (by omega)).1]
          show (sI A5 3 4 2).1 3 5 = _
          rw [rdN (by omega)]; exact g5
        have s4 : B.1 3 4 = 2 := by
          rw [(b2' 3 4 (by omega)).1]
          show (sI A5 3 4 2).1 3 4 = _
          rw [rdS]
        have s2 : B.1 3 2 = nI n := by
          rw [(b2' 3 2 (by omega)).1]
          show (sI A5 3 4 2).1 3 2 = _
          rw [rdN (by omega)]; exact g2
        have wB : iWx B := fun i hi => by
          rw [(b2' 4 i (by omega)).2]
          have : (sL (sI A5 3 4 2) 3 7 0).2 4 i = A5.2 4 i := by simp [sL, sI, up2]
          rw [this]
          exact gw i hi
        have fB : Fr pXs M B := Fr_tr fA5 (Fr_tr (Fr_sL (Fr_sI (Fr_rf _ _) (by unfold pXs; omega)) (by unfold pXs; omega)) (Fr_mo b2' (fun id k q => by unfold pXs; omega)))
        have b1' : sX10_cutWord_10 4096 (sL (sI A5 3 4 2) 3 7 0) = sX10_cutWord_83 B := b1
        rw [b1']
        unfold sX10_cutWord_83 sX10_cutWord_107
        rw [b3, s5, nI_sb k1]
        generalize rnE isL T n a = e at b3 b4 k1 k2 k3 k4
        have hle : e - a ≤ 800 := by omega
        have fin : ∀ v : Int32, v = (if e - a ≤ 8 then xwn (enc T a (e - a)) else -2) → ∃ M', (some (sI B 3 6 v)).bind (fun (M117 : Mm) => some M117) = some M' ∧ Fr pXs M M' ∧ M'.1 3 2 = nI n ∧ M'.1 3 3 = nI e ∧ M'.1 3 5 = nI a ∧ M'.1 3 4 = nI 2 ∧ (2 ≠ 0 → M'.1 3 6 = if e - a ≤ 8 then xwn (enc T a (e - a)) else -2) ∧ (2 = 2 → M'.2 3 7 = Int64.ofNat (enc T a (min (e - a) 8))) := fun v hv => by
          refine ⟨sI B 3 6 v, rfl, Fr_sI fB (by unfold pXs; omega), ?_, ?_, ?_, ?_, fun _ => ?_, fun _ => b4⟩
          · rw [rdN (by omega)]; exact s2
          · rw [rdN (by omega)]; exact b3
          · rw [rdN (by omega)]; exact s5
          · rw [rdN (by omega)]; exact s4
          · rw [rdS]; exact hv
        by_cases u : e - a ≤ 8
        · rw [if_pos (show nI (e - a) ≤ 8 from nI_le (b := 8) u (by omega))]
          have hen : enc T a (e - a) < 2 ^ 40 := by
            have h9 := enc_lt (T := T) (a := a) (e - a) (fun j hj => k4 (a + j) (by omega) (by omega))
            have h10 : 32 ^ (e - a) ≤ 32 ^ 8 := Nat.pow_le_pow_right (by omega) u
            have h11 : (32 : Nat) ^ 8 = 2 ^ 40 := by decide
            omega
          rw [show min (e - a) 8 = e - a by omega] at b4
          rw [x_wno wB hen b4, Option.bind_some]
          have h9 := fin (xwn (enc T a (e - a))) (by rw [if_pos u])
          exact h9
        · rw [if_neg (show ¬ nI (e - a) ≤ 8 from nle_nI (b := 8) (by omega) (by omega))]
          exact fin (-2) (by rw [if_neg u])
      · have c2' : isL (T a) = false := by cases hh : isL (T a) <;> simp_all
        rw [c2', if_pos b2f, if_neg ff_, if_neg ff_, if_neg ff_]
        unfold sX10_cutSign sX10_cutSign_46
        obtain ⟨B, eB⟩ : ∃ B, B = sI (sI (sI A5 3 4 3) 3 6 (T a)) 3 3 (nI (a + 1)) := ⟨_, rfl⟩
        have r3 : (sI A5 3 4 3).1 3 3 = nI a := by rw [rdN (by omega)]; exact g3
        have rT : (sI A5 3 4 3).1 2 a = T a := by rw [rdN (by omega)]; exact eT
        have r33 : (sI (sI A5 3 4 3) 3 6 (T a)).1 3 3 = nI a := by rw [rdN (by omega)]; exact r3
        rw [r3, ckT ib, nI_clamp (by omega), rT, r33, nI_1, ← eB]
        have f2 : B.1 3 2 = nI n := by rw [eB, rdN (by omega), rdN (by omega), rdN (by omega)]; exact g2
        have f3 : B.1 3 3 = nI (a + 1) := by rw [eB, rdS]
        have f4 : B.1 3 4 = 3 := by rw [eB, rdN (by omega), rdN (by omega), rdS]
        have f5 : B.1 3 5 = nI a := by rw [eB, rdN (by omega), rdN (by omega), rdN (by omega)]; exact g5
        have f6 : B.1 3 6 = T a := by rw [eB, rdN (by omega), rdS]
        have fT : ∀ k, k < n → B.1 2 k = T k := fun k hk => by rw [eB, rdN (by omega), rdN (by omega), rdN (by omega)]; exact gT.2 k hk
        have fB : Fr pXs M B := by
          rw [eB]
          exact Fr_sI (Fr_sI (Fr_sI fA5 (by unfold pXs; omega)) (by unfold pXs; omega)) (by unfold pXs; omega)
        have plain : sgE T n a = false → ∃ M', (some B).bind (fun (M124 : Mm) => some M124) = some M' ∧ Fr pXs M M' ∧ M'.1 3 2 = nI n ∧ M'.1 3 3 = nI (if sgE T n a = true then a + 2 else a + 1) ∧ M'.1 3 5 = nI a ∧ M'.1 3 4 = nI 3 ∧ (3 ≠ 0 → M'.1 3 6 = if sgE T n a = true then T a + 256 else T a) ∧ (3 = 2 → M'.2 3 7 = Int64.ofNat (enc T a (min ((if sgE T n a = true then a + 2 else a + 1) - a) 8))) := fun z => by
          rw [z]
          exact ⟨B, rfl, fB, f2, f3, f5, f4, fun _ => f6, fun q => by omega⟩
        rw [f6, f2, f3]
        by_cases ang : T a = 60 ∨ T a = 62
        · have e46 : ∀ {X Y : Option Mm}, (if T a = 60 then X else if T a = 62 then X else Y) = X := fun {X Y} => by
            rcases ang with q | q
            · rw [if_pos q]
            · by_cases q2 : T a = 60
              · rw [if_pos q2]
              · rw [if_neg q2, if_pos q]
          rw [e46]
          by_cases c3 : a + 1 < n
          · rw [if_neg (nle_nI c3 (by omega)), ckT (inb_nI (by omega) (by decide)), nI_clamp (by omega), fT (a + 1) c3]
            by_cases c4 : T (a + 1) = 61
            · have z : sgE T n a = true := by unfold sgE; simp [c3, c4]; exact ang
              rw [if_pos c4, z, if_pos rfl, if_pos rfl, Option.bind_some, rdN (by omega), f3, nI_1]
              refine ⟨_, rfl, Fr_sI (Fr_sI fB (by unfold pXs; omega)) (by unfold pXs; omega), ?_, rdS _ _ _ _, ?_, ?_, fun _ => ?_, fun q => by omega⟩
              · rw [rdN (by omega), rdN (by omega)]; exact f2
              · rw [rdN (by omega), rdN (by omega)]; exact f5
              · rw [rdN (by omega), rdN (by omega)]; exact f4
              · rw [rdN (by omega), rdS]
            · rw [if_neg c4]
              exact plain (by unfold sgE; simp [c4])
          · rw [if_pos (nI_le (by omega) (by omega))]
            exact plain (by unfold sgE; simp [c3])
        · rw [if_neg (fun q => ang (Or.inl q)), if_neg (fun q => ang (Or.inr q))]
          exact plain (by
            unfold sgE
            have q1 : ¬ T a = 60 := fun q => ang (Or.inl q)
            have q2 : ¬ T a = 62 := fun q => ang (Or.inr q)
            simp [q1, q2])
  · rw [if_neg (nlt_nI (by omega) (by omega)), if_neg c, if_neg c]
    refine ⟨_, rfl, Fr_sI fA5 (by unfold pXs; omega), ?_, ?_, ?_, rdS _ _ _ _, fun q => absurd rfl q, fun q => by omega⟩
    · rw [rdN (by omega)]; exact g2
    · rw [rdN (by omega)]; exact g3
    · rw [rdN (by omega)]; exact g5
