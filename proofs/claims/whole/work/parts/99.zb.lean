/-- strike, and which notes it leaves -/
theorem step_strike2 {kq : Nat × Nat} {M : Mm} (a1 a2 a3 a4 a5 a6 : Int32) (h : iNotes M) : ∃ M1, st_strike kq a1 a2 a3 a4 a5 a6 M = some (kq, M1) ∧ iNotes M1 ∧ (Fr p2 M M1 ∨ ∃ n, n < 60 ∧ M.1 34 1 = nI n ∧ M1.1 34 1 = nI (n + 1) ∧ M1.1 194 26 = nI (n + 1) ∧ (∃ j, j < n ∧ M1.1 202 n = nI j) ∧ M1.1 (38 + 2 * n) 0 = M1.1 202 n ∧ Fr (fun id k => id = 38 + 2 * n ∧ k = 0 ∨ id = 34 ∧ k = 1 ∨ id = 202 ∧ k = n ∨ id = 194 ∧ (k = 2 ∨ k = 26)) M M1) := by
  have hp := iNotes_p2 h
  obtain ⟨n, hn, h1, h2, h3⟩ := h
  have f0 := Fr_p2 M
  have r26 : (sI M 194 2 0).1 194 26 = nI n := by rw [rdN (by omega)]; exact h2
  have one : ¬ (1 : Int32) = 0 := by decide
  by_cases c1 : a1 < 0
  · exact ⟨_, st_join (v := -1) (Ma := M) (by simp only [sX11_strike, nt_has h1, if_pos c1, Option.bind_some, if_true]) (by simp only [sX12_strike, if_pos c1]), hp, Or.inl f0⟩
  by_cases c2 : nI n ≤ a1
  · exact ⟨_, st_join (v := -1) (Ma := M) (by simp only [sX11_strike, nt_has h1, if_neg c1, if_pos c2, Option.bind_some, if_true]) (by simp only [sX12_strike, if_neg c1, r26, if_pos c2]), hp, Or.inl f0⟩
  by_cases c3 : n = 60
  · subst c3
    have l60 : ¬ nI 60 < 60 := by decide
    have e60 : nI 60 = 60 := by decide
    exact ⟨_, st_join (v := -1) (Ma := M) (by simp only [sX11_strike, nt_has h1, if_neg c1, if_neg c2, Option.bind_some, if_neg one, h1, if_neg l60]) (by simp only [sX12_strike, if_neg c1, r26, if_neg c2, if_pos e60]), hp, Or.inl f0⟩
  have hb : inb (nI n) 60 = true := inb_nI (by omega) (by decide)
  have l60 : nI n < 60 := nI_lt (b := 60) (by omega) (by decide)
  have e60 : ¬ nI n = 60 := fun q => by
    have h9 := congrArg Int32.toNatClampNeg q
    rw [nI_clamp (by omega)] at h9
    exact c3 h9
  obtain ⟨j, hj, ej⟩ := nI_ex (n := n) c1 (Int32.le_of_lt (Int32.not_le.mp c2)) (by omega)
  have hjn : j < n := by
    rw [ej] at c2
    exact (nI_ltI (by omega) (by omega)).mp (Int32.not_le.mp c2)
  have x1 : sX11_strike a1 M = some (nI n, sI (sI M (38 + 2 * n) 0 a1) 34 1 (nI (n + 1))) := by
    simp only [sX11_strike, nt_has h1, if_neg c1, if_neg c2, Option.bind_some, if_neg one, h1, if_pos l60, ckT hb, nI_clamp (show n < 2 ^ 31 by omega)]
    rw [rdS, rdN (by omega), h1, nI_1, nI_pred]
  obtain ⟨A, eA⟩ : ∃ A, A = sI (sI M (38 + 2 * n) 0 a1) 34 1 (nI (n + 1)) := ⟨_, rfl⟩
  have s26 : (sI A 194 2 0).1 194 26 = nI n := by rw [eA, rdN (by omega), rdN (by omega), rdN (by omega)]; exact h2
  have m1 : sX12_strike a1 A = some (nI n, sI (sI (sI A 194 2 0) 202 n a1) 194 26 (nI (n + 1))) := by
    simp only [sX12_strike, if_neg c1, s26, if_neg c2, if_neg e60, ckT hb, nI_clamp (show n < 2 ^ 31 by omega)]
    rw [rdS, rdN (by omega), s26, nI_1, nI_pred]
  have z34 : (sI (sI (sI A 194 2 0) 202 n a1) 194 26 (nI (n + 1))).1 34 1 = nI (n + 1) := by rw [rdN (by omega), rdN (by omega), rdN (by omega), eA, rdS]
  have q1 : (sI (sI (sI A 194 2 0) 202 n a1) 194 26 (nI (n + 1))).1 202 n = a1 := by rw [rdN (by omega), rdS]
  have q0 : (sI (sI (sI A 194 2 0) 202 n a1) 194 26 (nI (n + 1))).1 (38 + 2 * n) 0 = a1 := by rw [rdN (by omega), rdN (by omega), rdN (by omega), eA, rdN (by omega), rdS]
  refine ⟨_, st_join (by rw [x1, eA]) m1, ?_, Or.inr ⟨n, by omega, h1, z34, rdS _ _ _ _, ⟨j, hjn, q1.trans ej⟩, q0.trans q1.symm, ?_⟩⟩
  · refine ⟨n + 1, by omega, z34, rdS _ _ _ _, fun i hi => ?_⟩
    by_cases e : i = n
    · subst e
      refine ⟨Or.inr ⟨j, by omega, by rw [q1]; exact ej⟩, q0.trans q1.symm, fun q => ?_⟩
      rw [q1, ej] at q
      exact absurd q (nI_ne1 (by omega))
    · exact iNote_fr (by omega) (h3 i (by omega)) (fun id k q _ _ _ _ => by rw [rdN (by omega), rdN (by omega), rdN (by omega), eA, rdN (by omega), rdN (by omega)])
  · rw [eA]
    exact Fr_sI (Fr_sI (Fr_sI (Fr_sI (Fr_sI (Fr_rf _ _) (by omega)) (by omega)) (by omega)) (by omega)) (by omega)
def rA1 (id k : Nat) : Prop := id = 2 ∨ id = 195 ∨ id = 1 ∧ k = 1 ∨ id = 194 ∧ k = 1
def rA2 (id k : Nat) : Prop := id = 1 ∧ (k = 5 ∨ k = 6) ∨ id = 194 ∧ (k = 17 ∨ k = 18)
def rA3 (id k : Nat) : Prop := id = 162 ∧ (k = 2 ∨ k = 3) ∨ id = 194 ∧ (k = 14 ∨ k = 15)
def rA4 (id k : Nat) : Prop := id = 162 ∧ k = 7 ∨ id = 194 ∧ k = 70 ∨ id = 173 ∨ id = 232
def rA5 (id k : Nat) : Prop := id = 174 ∧ (k = 10 ∨ k = 11) ∨ id = 194 ∧ (k = 74 ∨ k = 75) ∨ id = 178 ∨ id = 235
def rA6 (id _k : Nat) : Prop := id = 193 ∨ id = 225
def rA7 (id _k : Nat) : Prop := id = 199 ∨ id = 200
def rA8 (id _k : Nat) : Prop := id = 4 ∨ id = 201
theorem f_A1 {P : Nat → Nat → Prop} {M M1 : Mm} (h : iTapeB M) (f : Fr P M M1) (c : ∀ id k, rA1 id k → ¬ P id k) : iTapeB M1 := by
  obtain ⟨t, t1, t2, t3, t4⟩ := h
  have g : ∀ id k, rA1 id k → M1.1 id k = M.1 id k := fun id k q => (f id k (c id k q)).1
  exact ⟨t, t1, (g _ _ (by unfold rA1; omega)).trans t2, (g _ _ (by unfold rA1; omega)).trans t3, fun k hk => by rw [g 2 k (by unfold rA1; omega), g 195 k (by unfold rA1; omega)]; exact t4 k hk⟩
theorem f_A2 {P : Nat → Nat → Prop} {M M1 : Mm} (h : iFault M) (f : Fr P M M1) (c : ∀ id k, rA2 id k → ¬ P id k) : iFault M1 := by
  have g : ∀ id k, rA2 id k → M1.1 id k = M.1 id k := fun id k q => (f id k (c id k q)).1
  unfold iFault
  rw [g 1 5 (by unfold rA2; omega), g 1 6 (by unfold rA2; omega), g 194 17 (by unfold rA2; omega), g 194 18 (by unfold rA2; omega)]
  exact h
theorem f_A3 {P : Nat → Nat → Prop} {M M1 : Mm} (h : iPrice M) (f : Fr P M M1) (c : ∀ id k, rA3 id k → ¬ P id k) : iPrice M1 := by
  have g : ∀ id k, rA3 id k → M1.1 id k = M.1 id k := fun id k q => (f id k (c id k q)).1
  unfold iPrice
  rw [g 162 2 (by unfold rA3; omega), g 162 3 (by unfold rA3; omega), g 194 14 (by unfold rA3; omega), g 194 15 (by unfold rA3; omega)]
  exact h
theorem f_A4 {P : Nat → Nat → Prop} {M M1 : Mm} (h : iDrawn M) (f : Fr P M M1) (c : ∀ id k, rA4 id k → ¬ P id k) : iDrawn M1 := by
  have g : ∀ id k, rA4 id k → M1.1 id k = M.1 id k := fun id k q => (f id k (c id k q)).1
  obtain ⟨n, h1, h2, h3, h4⟩ := h
  exact ⟨n, h1, (g _ _ (by unfold rA4; omega)).trans h2, (g _ _ (by unfold rA4; omega)).trans h3, fun k hk => by rw [g 173 k (by unfold rA4; omega), g 232 k (by unfold rA4; omega)]; exact h4 k hk⟩
theorem f_A5 {P : Nat → Nat → Prop} {M M1 : Mm} (h : iPlan M) (f : Fr P M M1) (c : ∀ id k, rA5 id k → ¬ P id k) : iPlan M1 := by
  have g : ∀ id k, rA5 id k → M1.1 id k = M.1 id k := fun id k q => (f id k (c id k q)).1
  obtain ⟨n, h1, h2, h3, h4, h5, h6⟩ := h
  exact ⟨n, h1, (g _ _ (by unfold rA5; omega)).trans h2, (g _ _ (by unfold rA5; omega)).trans h3, fun k hk => by rw [g 178 k (by unfold rA5; omega), g 235 k (by unfold rA5; omega)]; exact h4 k hk, fun q => (g _ _ (by unfold rA5; omega)).trans (h5 q), fun q => by rw [g 174 11 (by unfold rA5; omega), g 194 75 (by unfold rA5; omega)]; exact h6 q⟩
theorem f_A6 {P : Nat → Nat → Prop} {M M1 : Mm} (h : iVal M) (f : Fr P M M1) (c : ∀ id k, rA6 id k → ¬ P id k) : iVal M1 := fun k hk => by
  rw [(f 193 k (c _ _ (Or.inl rfl))).1, (f 225 k (c _ _ (Or.inr rfl))).1]; exact h k hk
theorem f_A7 {P : Nat → Nat → Prop} {M M1 : Mm} (h : iVals M) (f : Fr P M M1) (c : ∀ id k, rA7 id k → ¬ P id k) : iVals M1 := fun k hk => by
  rw [(f 199 k (c _ _ (Or.inl rfl))).1, (f 200 k (c _ _ (Or.inr rfl))).1]; exact h k hk
theorem f_A8 {P : Nat → Nat → Prop} {M M1 : Mm} (h : iWx M ∧ iWm M) (f : Fr P M M1) (c : ∀ id k, rA8 id k → ¬ P id k) : iWx M1 ∧ iWm M1 :=
  ⟨fun k hk => (f 4 k (c _ _ (Or.inl rfl))).2.trans (h.1 k hk), fun k hk => (f 201 k (c _ _ (Or.inr rfl))).1.trans (h.2 k hk)⟩
/-- land, notes and keys -/
def iB (kq : Nat × Nat) (M : Mm) : Prop := iNotes M ∧ (∃ w h N K, Bk kq w h N K M ∧ iKN kq.1 K N M) ∧ M.1 kq.1 8 = M.1 194 34 ∧ M.1 kq.1 10 = M.1 194 35
def rB1 (r id k : Nat) : Prop := rBz r id k ∨ rKN r id k ∨ 202 ≤ id ∧ id ≤ 206 ∨ id = r ∧ (k = 8 ∨ k = 10) ∨ id = 194 ∧ k = 35
theorem f_B {P : Nat → Nat → Prop} {kq : Nat × Nat} {M M1 : Mm} (h : iB kq M) (f : Fr P M M1) (c : ∀ id k, rB1 kq.1 id k → ¬ P id k) : iB kq M1 := by
  obtain ⟨h1, ⟨w, l, N, K, b, hk⟩, h8, h10⟩ := h
  have g : ∀ id k, rB1 kq.1 id k → M1.1 id k = M.1 id k := fun id k q => (f id k (c id k q)).1
  have hN := b.2.1.1
  have k1 : iKN kq.1 K N M1 := iKN_sm hN hk (fun a k q => g a k (Or.inr (Or.inl q)))
  refine ⟨iNotes_fr h1 f (fun id k q => c id k ?_), ⟨w, l, N, K, Bk_kn b k1 (fun a k q => g a k (Or.inl q)), k1⟩, ?_, ?_⟩
  · rcases q with q | q | q | q
    · exact Or.inl (by unfold rBz; omega)
    · exact Or.inr (Or.inr (Or.inl q))
    · exact Or.inl (by unfold rBz; omega)
    · exact Or.inl (by unfold rBz; omega)
  · rw [g kq.1 8 (by unfold rB1; omega), g 194 34 (by unfold rB1 rKN; omega)]; exact h8
  · rw [g kq.1 10 (by unfold rB1; omega), g 194 35 (by unfold rB1; omega)]; exact h10
def Inv (kq : Nat × Nat) (M : Mm) : Prop := (isKq kq ∧ kq.1 ≠ kq.2) ∧ iTapeB M ∧ iFault M ∧ iPrice M ∧ iDrawn M ∧ iPlan M ∧ iVal M ∧ iVals M ∧ (iWx M ∧ iWm M) ∧ iB kq M
/-- what asking changes -/
def pAk (id k : Nat) : Prop := pSc id k ∨ id = 238
theorem I_ask {kq : Nat × Nat} {M M1 : Mm} (h : Inv kq M) (f : Fr pAk M M1) : Inv kq M1 := by
  obtain ⟨hq, h1, h2, h3, h4, h5, h6, h7, h8, hB⟩ := h
  have hr : kq.1 = 6 ∨ kq.1 = 14 := hq.1.1
  refine ⟨hq, f_A1 h1 f (fun id k q p => ?_), f_A2 h2 f (fun id k q p => ?_), f_A3 h3 f (fun id k q p => ?_), f_A4 h4 f (fun id k q p => ?_), f_A5 h5 f (fun id k q p => ?_), f_A6 h6 f (fun id k q p => ?_), f_A7 h7 f (fun id k q p => ?_), f_A8 h8 f (fun id k q p => ?_), f_B hB f (fun id k q p => ?_)⟩
  · unfold pAk pSc at p; unfold rA1 at q; omega
  · unfold pAk pSc at p; unfold rA2 at q; omega
  · unfold pAk pSc at p; unfold rA3 at q; omega
  · unfold pAk pSc at p; unfold rA4 at q; omega
  · unfold pAk pSc at p; unfold rA5 at q; omega
  · unfold pAk pSc at p; unfold rA6 at q; omega
  · unfold pAk pSc at p; unfold rA7 at q; omega
  · unfold pAk pSc at p; unfold rA8 at q; omega
  · unfold rB1 rBz rKN rLand at q
    unfold pAk pSc at p
    rcases p with (p | p | p | p | p | p | p | p | p | p | p | p | p | p) | p <;> omega
