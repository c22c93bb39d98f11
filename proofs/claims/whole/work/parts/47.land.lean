def pBare (id k : Nat) : Prop := 196 ≤ id ∧ id ≤ 200 ∨ id = 194 ∧ k = 26
def brd (M1 : Mm) (c : Nat) : Prop := M1.1 196 c = 0 ∧ M1.1 197 c = 0 ∧ M1.1 198 c = -1 ∧ M1.1 199 c = 1 ∧ M1.1 200 c = -1
theorem br_go {M : Mm} : ∀ (d i F : Nat) (M1 : Mm), d + i = 64 → d < F → Fr pBare M M1 → (∀ c, c < i → brd M1 c) → ∃ M2, sX12_bare_2 F (nI i) M1 = some M2 ∧ Fr pBare M M2 ∧ M2.1 194 26 = 0 ∧ ∀ c, c < 64 → brd M2 c := by
  intro d
  induction d with
  | zero =>
    intro i F M1 hi hF hf hr
    obtain ⟨F, rfl⟩ : ∃ G, F = G + 1 := ⟨F - 1, by omega⟩
    have hi : i = 64 := by omega
    subst hi
    refine ⟨sI M1 194 26 0, ?_, Fr_sI hf (by unfold pBare; omega), rdS _ _ _ _, fun c hc => ?_⟩
    · rw [sX12_bare_2, if_pos (by decide)]
    · unfold brd
      rw [rdN (by omega), rdN (by omega), rdN (by omega), rdN (by omega), rdN (by omega)]
      exact hr c hc
  | succ d ih =>
    intro i F M1 hi hF hf hr
    obtain ⟨F, rfl⟩ : ∃ G, F = G + 1 := ⟨F - 1, by omega⟩
    have ib : inb (nI i) 64 = true := inb_nI (by omega) (by decide)
    obtain ⟨M2, q1, q2, q3, q4⟩ := ih (i + 1) F (sI (sI (sI (sI (sI M1 196 i 0) 197 i 0) 198 i (-1)) 199 i 1) 200 i (-1)) (by omega) (by omega) (Fr_sI (Fr_sI (Fr_sI (Fr_sI (Fr_sI hf (by unfold pBare; omega)) (by unfold pBare; omega)) (by unfold pBare; omega)) (by unfold pBare; omega)) (by unfold pBare; omega)) (fun c hc => by
      by_cases e : c = i
      · subst e
        exact ⟨by rw [rdN (by omega), rdN (by omega), rdN (by omega), rdN (by omega), rdS], by rw [rdN (by omega), rdN (by omega), rdN (by omega), rdS], by rw [rdN (by omega), rdN (by omega), rdS], by rw [rdN (by omega), rdS], by rw [rdS]⟩
      · have h9 := hr c (by omega)
        exact ⟨by rw [rdN (by omega), rdN (by omega), rdN (by omega), rdN (by omega), rdN (by omega)]; exact h9.1, by rw [rdN (by omega), rdN (by omega), rdN (by omega), rdN (by omega), rdN (by omega)]; exact h9.2.1, by rw [rdN (by omega), rdN (by omega), rdN (by omega), rdN (by omega), rdN (by omega)]; exact h9.2.2.1, by rw [rdN (by omega), rdN (by omega), rdN (by omega), rdN (by omega), rdN (by omega)]; exact h9.2.2.2.1, by rw [rdN (by omega), rdN (by omega), rdN (by omega), rdN (by omega), rdN (by omega)]; exact h9.2.2.2.2⟩)
    refine ⟨M2, ?_, q2, q3, q4⟩
    rw [sX12_bare_2, if_neg (lit_nle (v := 64) (n := 64) (by decide) (by omega) (by decide)), ckT ib, ckT ib, ckT ib, ckT ib, ckT ib, nI_clamp (by omega), nI_1]
    exact q1
theorem br_all (M : Mm) : ∃ M2, sX12_bare M = some M2 ∧ Fr pBare M M2 ∧ M2.1 194 26 = 0 ∧ ∀ c, c < 64 → brd M2 c :=
  br_go 64 0 4096 M rfl (by decide) (Fr_rf _ _) (fun c hc => absurd hc (Nat.not_lt_zero c))
theorem rn98 {k90 : Int32 → Mm → Option Mm} {n r : Nat} (hn : n ≤ 64) (hr : r < 5) : ∀ (d i F : Nat) (M1 : Mm), d + i = n → d < F → M1.1 22 2 = nI n → ∃ M2, sX6_renew_98 k90 F (nI r) (nI i) M1 = k90 (nI (r + 1)) M2 ∧ Fr (fun id _ => id = 24 + r) M1 M2 ∧ (∀ c, c < i → M2.1 (24 + r) c = M1.1 (24 + r) c) ∧ ∀ c, i ≤ c → c < n → M2.1 (24 + r) c = tFIRST r := by
  intro d
  induction d with
  | zero =>
    intro i F M1 hi hF h2
    obtain ⟨F, rfl⟩ : ∃ G, F = G + 1 := ⟨F - 1, by omega⟩
    refine ⟨M1, ?_, Fr_rf _ _, fun _ _ => rfl, fun c h3 h4 => by omega⟩
    rw [sX6_renew_98, h2, if_pos (nI_le (by omega) (by omega)), nI_1]
  | succ d ih =>
    intro i F M1 hi hF h2
    obtain ⟨F, rfl⟩ : ∃ G, F = G + 1 := ⟨F - 1, by omega⟩
    have ib : inb (nI i) 64 = true := inb_nI (by omega) (by decide)
    have rb : inb (nI r) 5 = true := inb_nI (by omega) (by decide)
    obtain ⟨M2, q1, q2, q3, q4⟩ := ih (i + 1) F (sI M1 (24 + r) i (tFIRST r)) (by omega) (by omega) (by rw [rdN (by omega)]; exact h2)
    refine ⟨M2, ?_, Fr_tr (Fr_sI (Fr_rf _ _) rfl) q2, fun c hc => ?_, fun c h3 h4 => ?_⟩
    · rw [sX6_renew_98, h2, if_neg (fun p => by have := (nI_leI (by omega) (by omega)).mp p; omega), ckT rb, ckT rb, ckT ib, nI_clamp (show i < 2 ^ 31 by omega), nI_clamp (show r < 2 ^ 31 by omega), nI_1]
      exact q1
    · rw [q3 c (by omega), rdN (by omega)]
    · by_cases e : c = i
      · subst e
        rw [q3 c (by omega), rdS]
      · exact q4 c (by omega) h4
theorem rn90 {n : Nat} (hn : n ≤ 64) : ∀ (d j F : Nat) (M1 : Mm), d + j = 5 → d < F → M1.1 22 2 = nI n → ∃ M2, sX6_renew_90 F (nI j) M1 = sX6_reckon M2 ∧ Fr (fun id _ => 24 ≤ id ∧ id ≤ 28) M1 M2 ∧ (∀ r c, r < j → M2.1 (24 + r) c = M1.1 (24 + r) c) ∧ ∀ r c, j ≤ r → r < 5 → c < n → M2.1 (24 + r) c = tFIRST r := by
  intro d
  induction d with
  | zero =>
    intro j F M1 hj hF h2
    obtain ⟨F, rfl⟩ : ∃ G, F = G + 1 := ⟨F - 1, by omega⟩
    have hj : j = 5 := by omega
    subst hj
    refine ⟨M1, ?_, Fr_rf _ _, fun _ _ _ => rfl, fun r c h3 h4 => by omega⟩
    rw [sX6_renew_90, if_pos (by decide)]
    cases sX6_reckon M1 <;> rfl
  | succ d ih =>
    intro j F M1 hj hF h2
    obtain ⟨F, rfl⟩ : ∃ G, F = G + 1 := ⟨F - 1, by omega⟩
    obtain ⟨A, a1, a2, -, a4⟩ := rn98 (k90 := sX6_renew_90 F) (r := j) hn (by omega) n 0 4096 M1 (by omega) (by omega) h2
    obtain ⟨M2, q1, q2, q3, q4⟩ := ih (j + 1) F A (by omega) (by omega) (by rw [(a2 22 2 (by omega)).1]; exact h2)
    refine ⟨M2, ?_, Fr_tr (Fr_mo a2 (fun id k q => by omega)) q2, fun r c hr => ?_, fun r c h3 h4 h5 => ?_⟩
    · rw [sX6_renew_90, if_neg (lit_nle (v := 5) (n := 5) (by decide) (by omega) (by decide))]
      exact a1.trans q1
    · rw [q3 r c (by omega), (a2 (24 + r) c (by omega)).1]
    · by_cases e : r = j
      · subst e
        rw [q3 r c (by omega)]
        exact a4 c (by omega) h5
      · exact q4 r c (by omega) h4 h5
def pXY (id _k : Nat) : Prop := id = 29 ∨ id = 30
theorem rn36 {k25 : Int32 → Mm → Option Mm} {w h y : Nat} (h1 : 1 ≤ w) (hw : w ≤ 8) (hh : h ≤ 8) (hy : y < h) : ∀ (d x F : Nat) (M1 : Mm), d + x = w → d < F → M1.1 22 0 = nI w → ∃ M2, sX6_renew_36 k25 F (nI y) (nI x) M1 = k25 (nI (y + 1)) M2 ∧ Fr pXY M1 M2 ∧ (∀ c, c < y * w + x → M2.1 29 c = M1.1 29 c ∧ M2.1 30 c = M1.1 30 c) ∧ ∀ c, y * w + x ≤ c → c < y * w + w → M2.1 29 c = nI (c - y * w) ∧ M2.1 30 c = nI y := by
  have hyw : y * w + w ≤ 64 := by
    have h7 : (y + 1) * w ≤ h * w := Nat.mul_le_mul_right w hy
    have h8 : h * w ≤ 8 * 8 := Nat.mul_le_mul hh hw
    rw [Nat.succ_mul] at h7
    omega
  generalize hq : y * w = yw at hyw
  intro d
  induction d with
  | zero =>
    intro x F M1 hi hF h2
    obtain ⟨F, rfl⟩ : ∃ G, F = G + 1 := ⟨F - 1, by omega⟩
    refine ⟨M1, ?_, Fr_rf _ _, fun _ _ => ⟨rfl, rfl⟩, fun c h3 h4 => by omega⟩
    rw [sX6_renew_36, h2, if_pos (nI_le (by omega) (by omega)), nI_1]
  | succ d ih =>
    intro x F M1 hi hF h2
    obtain ⟨F, rfl⟩ : ∃ G, F = G + 1 := ⟨F - 1, by omega⟩
    have ib : inb (nI (yw + x)) 64 = true := inb_nI (by omega) (by decide)
    have ci := nI_clamp (show yw + x < 2 ^ 31 by omega)
    obtain ⟨M2, q1, q2, q3, q4⟩ := ih (x + 1) F (sI (sI M1 29 (yw + x) (nI x)) 30 (yw + x) (nI y)) (by omega) (by omega) (by rw [rdN (by omega), rdN (by omega)]; exact h2)
    refine ⟨M2, ?_, Fr_tr (Fr_sI (Fr_sI (Fr_rf _ _) (Or.inl rfl)) (Or.inr rfl)) q2, fun c hc => ?_, fun c h3 h4 => ?_⟩
    · rw [sX6_renew_36, h2, if_neg (fun p => by have := (nI_leI (by omega) (by omega)).mp p; omega), nI_mul, hq, nI_add, ckT ib, ci, rdN (by omega), h2, nI_mul, hq, nI_add, ckT ib, ci, nI_1]
      exact q1
    · rw [(q3 c (by omega)).1, (q3 c (by omega)).2, rdN (by omega), rdN (by omega), rdN (by omega), rdN (by omega)]
      exact ⟨rfl, rfl⟩
    · by_cases e : c = yw + x
      · subst e
        rw [(q3 _ (by omega)).1, (q3 _ (by omega)).2, rdN (by omega), rdS, rdS, Nat.add_sub_cancel_left]
        exact ⟨rfl, rfl⟩
      · exact q4 c (by omega) h4
theorem rn25 {w h : Nat} (h1 : 1 ≤ w) (hw : w ≤ 8) (hh : h ≤ 8) : ∀ (d y F : Nat) (M1 : Mm), d + y = h → d < F → M1.1 22 0 = nI w → M1.1 22 1 = nI h → ∃ M2, sX6_renew_25 F (nI y) M1 = sX6_renew_90 4096 0 M2 ∧ Fr pXY M1 M2 ∧ (∀ c, c < y * w → M2.1 29 c = M1.1 29 c ∧ M2.1 30 c = M1.1 30 c) ∧ ∀ c, y * w ≤ c → c < h * w → M2.1 29 c = nI (c % w) ∧ M2.1 30 c = nI (c / w) := by
  intro d
  induction d with
  | zero =>
    intro y F M1 hi hF h2 h3
    obtain ⟨F, rfl⟩ : ∃ G, F = G + 1 := ⟨F - 1, by omega⟩
    have hy : y = h := by omega
    subst hy
    refine ⟨M1, ?_, Fr_rf _ _, fun _ _ => ⟨rfl, rfl⟩, fun c h3 h4 => by omega⟩
    rw [sX6_renew_25, h3, if_pos (nI_le (by omega) (by omega))]
  | succ d ih =>
    intro y F M1 hi hF h2 h3
    obtain ⟨F, rfl⟩ : ∃ G, F = G + 1 := ⟨F - 1, by omega⟩
    obtain ⟨A, a1, a2, a3, a4⟩ := rn36 (k25 := sX6_renew_25 F) (y := y) h1 hw hh (by omega) w 0 4096 M1 (by omega) (by omega) h2
    obtain ⟨M2, q1, q2, q3, q4⟩ := ih (y + 1) F A (by omega) (by omega) (by rw [(a2 22 0 (by unfold pXY; omega)).1]; exact h2) (by rw [(a2 22 1 (by unfold pXY; omega)).1]; exact h3)
    have e1 : (y + 1) * w = y * w + w := Nat.succ_mul y w
    rw [e1] at q3 q4
    refine ⟨M2, ?_, Fr_tr a2 q2, fun c hc => ?_, fun c h4 h5 => ?_⟩
    · rw [sX6_renew_25, h3, if_neg (fun p => by have := (nI_leI (by omega) (by omega)).mp p; omega)]
      exact a1.trans q1
    · rw [(q3 c (by omega)).1, (q3 c (by omega)).2]
      exact a3 c (by omega)
    · by_cases e : c < y * w + w
      · rw [(q3 c e).1, (q3 c e).2]
        have h9 := a4 c (by omega) e
        have e2 : c / w = y := by
          apply Nat.div_eq_of_lt_le
          · exact h4
          · rw [Nat.succ_mul]; exact e
        have e3 : c % w = c - y * w := by
          have := Nat.div_add_mod c w
          rw [e2, Nat.mul_comm] at this
          omega
        rw [e2, e3]
        exact h9
      · exact q4 c (by omega) h5
def pRn (id k : Nat) : Prop := id = 22 ∧ k < 3 ∨ 24 ≤ id ∧ id ≤ 33
theorem rn_all {M : Mm} {w h : Nat} (h1 : 1 ≤ w) (hw : w ≤ 8) (hh : h ≤ 8) : ∃ M2, sX6_renew (nI w) (nI h) M = some M2 ∧ Fr pRn M M2 ∧ M2.1 22 0 = nI w ∧ M2.1 22 1 = nI h ∧ M2.1 22 2 = nI (w * h) ∧ (∀ c, c < w * h → M2.1 29 c = nI (c % w) ∧ M2.1 30 c = nI (c / w)) ∧ (∀ r c, r < 5 → c < w * h → M2.1 (24 + r) c = tFIRST r) ∧ ∀ c, c < w * h → rkd w (w * h) (fun _ => 0) M2 M2 c := by
  have hn : w * h ≤ 64 := Nat.le_trans (Nat.mul_le_mul hw hh) (by decide)
  have hc : h * w = w * h := Nat.mul_comm h w
  obtain ⟨A, hA⟩ : ∃ A, A = sI (sI (sI M 22 0 (nI w)) 22 1 (nI h)) 22 2 (nI (w * h)) := ⟨_, rfl⟩
  have a0 : A.1 22 0 = nI w := by rw [hA, rdN (by omega), rdN (by omega), rdS]
  have a1 : A.1 22 1 = nI h := by rw [hA, rdN (by omega), rdS]
  have a2 : A.1 22 2 = nI (w * h) := by rw [hA, rdS]
  have fA : Fr pRn M A := by rw [hA]; exact Fr_sI (Fr_sI (Fr_sI (Fr_rf _ _) (by unfold pRn; omega)) (by unfold pRn; omega)) (by unfold pRn; omega)
  obtain ⟨B, b1, b2, -, b4⟩ := rn25 h1 hw hh h 0 4096 A (by omega) (by omega) a0 a1
  have k22 : ∀ k, B.1 22 k = A.1 22 k := fun k => (b2 22 k (by unfold pXY; omega)).1
  obtain ⟨C, c1, c2, -, c4⟩ := rn90 hn 5 0 4096 B rfl (by decide) (by rw [k22]; exact a2)
  have l22 : ∀ k, C.1 22 k = A.1 22 k := fun k => ((c2 22 k (by omega)).1).trans (k22 k)
  obtain ⟨D, d1, d2, d3⟩ := rk_all (M := C) (H := fun _ => 0) (w := w) (n := w * h) hn (fun c q => ⟨c4 0 c (by omega) (by decide) q, by omega⟩) (by rw [l22]; exact a0) (by rw [l22]; exact a2) h1 hw ⟨h, rfl⟩ (fun c q => by rw [(c2 29 c (by omega)).1]; exact (b4 c (by omega) (by omega)).1)
  have m22 : ∀ k, D.1 22 k = C.1 22 k := fun k => (d2 22 k (by unfold pRk; omega)).1
  refine ⟨D, ?_, ?_, by rw [m22, l22]; exact a0, by rw [m22, l22]; exact a1, by rw [m22, l22]; exact a2, fun c q => ?_, fun r c q1 q2 => ?_, fun c q => ?_⟩
  · have e : sX6_renew (nI w) (nI h) M = sX6_renew_25 4096 (nI 0) A := by
      unfold sX6_renew
      rw [rdN (by omega), rdS, rdS, nI_mul, ← hA]
      rfl
    exact e.trans (b1.trans (c1.trans d1))
  · exact Fr_tr fA (Fr_tr (Fr_mo b2 (fun id k q => by unfold pXY at q; unfold pRn; omega)) (Fr_tr (Fr_mo c2 (fun id k q => by unfold pRn; omega)) (Fr_mo d2 (fun id k q => by unfold pRk at q; unfold pRn; omega))))
  · rw [(d2 29 c (by unfold pRk; omega)).1, (d2 30 c (by unfold pRk; omega)).1, (c2 29 c (by omega)).1, (c2 30 c (by omega)).1]
    exact b4 c (by omega) (by omega)
  · rw [(d2 (24 + r) c (by unfold pRk; omega)).1]
    exact c4 r c (by omega) q1 q2
  · have h9 := d3 c q
    unfold rkd at h9 ⊢
    rw [m22, m22, m22, m22, (d2 26 c (by unfold pRk; omega)).1]
    exact h9
