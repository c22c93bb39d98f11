def stp (v lo hi : Int32) : Int32 := if lo ≤ v then (if hi ≤ v then 2 else 1) else 0
theorem m_steep {M : Mm} {H : Nat → Nat} {w h c : Nat} (e3 : M.1 194 3 = nI w) (e4 : M.1 194 4 = nI h) (h1 : 1 ≤ w) (hw : w ≤ 8) (hn : w * h ≤ 64) (hH : ∀ c, c < w * h → M.1 196 c = nI (H c) ∧ H c ≤ 999) (hc : c < w * h) : sX12_steep (nI c) M = some (stp (nI (slN w (w * h) H c)) (M.1 194 10) (M.1 194 11), M) := by
  have e := m_slope e3 e4 h1 hw hn hH hc
  unfold sX12_steep stp
  rw [e, Option.bind_some]
  dsimp only
  by_cases q : M.1 194 10 ≤ nI (slN w (w * h) H c)
  · rw [if_pos q, if_pos q, e, Option.bind_some]
  · rw [if_neg q, if_neg q]
def flt (v lo hi : Int32) : Int32 := if 0 ≤ v then stp v lo hi else -1
theorem m_feel {M : Mm} {c : Nat} (hc : c < 64) : sX12_feel (nI c) M = some (flt (M.1 198 c) (M.1 194 12) (M.1 194 13), M) := by
  unfold sX12_feel flt stp
  rw [ckT (inb_nI hc (by decide)), nI_clamp (by omega)]
  by_cases q : 0 ≤ M.1 198 c
  · rw [if_pos q, if_pos q, ckT (inb_nI hc (by decide))]
    by_cases q2 : M.1 194 12 ≤ M.1 198 c
    · rw [if_pos q2, if_pos q2, ckT (inb_nI hc (by decide))]
    · rw [if_neg q2, if_neg q2]
  · rw [if_neg q, if_neg q]
def pRk (id k : Nat) : Prop := 31 ≤ id ∧ id ≤ 33
/-- what reckon leaves for cell c -/
def rkd (w n : Nat) (H : Nat → Nat) (M M1 : Mm) (c : Nat) : Prop := M1.1 31 c = nI (slN w n H c) ∧ M1.1 32 c = stp (nI (slN w n H c)) (M.1 22 9) (M.1 22 10) ∧ M1.1 33 c = if M.1 26 c = -1 then -1 else stp (M.1 26 c) (M.1 22 11) (M.1 22 12)
theorem rk_go {M : Mm} {H : Nat → Nat} {w n : Nat} (hn : n ≤ 64) (hH : ∀ c, c < n → M.1 24 c = nI (H c) ∧ H c ≤ 999) (e0 : M.1 22 0 = nI w) (e2 : M.1 22 2 = nI n) (h1 : 1 ≤ w) (hw : w ≤ 8) (hd : w ∣ n) (h29 : ∀ c, c < n → M.1 29 c = nI (c % w)) : ∀ (d i F : Nat) (M1 : Mm), d + i = n → d < F → Fr pRk M M1 → (∀ c, c < i → rkd w n H M M1 c) →
    ∃ M2, sX6_reckon_2 F (nI i) M1 = some M2 ∧ Fr pRk M M2 ∧ ∀ c, c < n → rkd w n H M M2 c := by
  intro d
  induction d with
  | zero =>
    intro i F M1 hi hF hf hr
    obtain ⟨F, rfl⟩ : ∃ G, F = G + 1 := ⟨F - 1, by omega⟩
    refine ⟨M1, ?_, hf, fun c hc => hr c (by omega)⟩
    rw [sX6_reckon_2, (hf 22 2 (by unfold pRk; omega)).1, e2, if_pos (nI_le (by omega) (by omega))]
  | succ d ih =>
    intro i F M1 hi hF hf hr
    obtain ⟨F, rfl⟩ : ∃ G, F = G + 1 := ⟨F - 1, by omega⟩
    have k22 : ∀ k, M1.1 22 k = M.1 22 k := fun k => (hf 22 k (by unfold pRk; omega)).1
    have k26 : M1.1 26 i = M.1 26 i := (hf 26 i (by unfold pRk; omega)).1
    have hsl : sX6_slopeOf (nI i) M1 = some (nI (slN w n H i), M1) := x_slope hn (fun c hc => by rw [(hf 24 c (by unfold pRk; omega)).1]; exact hH c hc) (by rw [k22]; exact e0) (by rw [k22]; exact e2) h1 hw hd (fun c hc => by rw [(hf 29 c (by unfold pRk; omega)).1]; exact h29 c hc) (by omega)
    have ib : inb (nI i) 64 = true := inb_nI (by omega) (by decide)
    have ci := nI_clamp (show i < 2 ^ 31 by omega)
    have z2 : inb 2 5 = true := by decide
    have e24 : 24 + (2 : Int32).toNatClampNeg = 26 := by decide
    obtain ⟨M2, q1, q2, q3⟩ := ih (i + 1) F (sI (sI (sI M1 31 i (nI (slN w n H i))) 32 i (stp (nI (slN w n H i)) (M.1 22 9) (M.1 22 10))) 33 i (if M.1 26 i = -1 then -1 else stp (M.1 26 i) (M.1 22 11) (M.1 22 12))) (by omega) (by omega) (Fr_sI (Fr_sI (Fr_sI hf (by unfold pRk; omega)) (by unfold pRk; omega)) (by unfold pRk; omega)) (fun c hc => by
      by_cases e : c = i
      · subst e
        exact ⟨by rw [rdN (by omega), rdN (by omega), rdS], by rw [rdN (by omega), rdS], by rw [rdS]⟩
      · have h9 := hr c (by omega)
        exact ⟨by rw [rdN (by omega), rdN (by omega), rdN (by omega)]; exact h9.1, by rw [rdN (by omega), rdN (by omega), rdN (by omega)]; exact h9.2.1, by rw [rdN (by omega), rdN (by omega), rdN (by omega)]; exact h9.2.2⟩)
    refine ⟨M2, ?_, q2, q3⟩
    rw [sX6_reckon_2, k22, e2, if_neg (fun p => by have := (nI_leI (by omega) (by omega)).mp p; omega), hsl, Option.bind_some]
    dsimp only
    rw [ckT ib, ckT ib, ci]
    unfold sX6_stepOf
    rw [rdS, Option.bind_some]
    dsimp only
    rw [ckT ib, ckT z2, ckT ib, e24]
    rw [rdN (by omega), rdN (by omega), rdN (by omega), rdN (by omega), k22, k22, k26]
    by_cases q : M.1 26 i = -1
    · rw [if_pos q] at q1 ⊢
      unfold sX6_reckon_84
      rw [ckT ib, ci, nI_1]
      exact q1
    · rw [if_neg q] at q1 ⊢
      rw [ckT z2, ckT ib, Option.bind_some]
      unfold sX6_reckon_84
      dsimp only
      rw [ckT ib, ci, nI_1, rdN (by omega), rdN (by omega), k22, rdN (by omega), rdN (by omega), k22]
      exact q1
theorem rk_all {M : Mm} {H : Nat → Nat} {w n : Nat} (hn : n ≤ 64) (hH : ∀ c, c < n → M.1 24 c = nI (H c) ∧ H c ≤ 999) (e0 : M.1 22 0 = nI w) (e2 : M.1 22 2 = nI n) (h1 : 1 ≤ w) (hw : w ≤ 8) (hd : w ∣ n) (h29 : ∀ c, c < n → M.1 29 c = nI (c % w)) : ∃ M2, sX6_reckon M = some M2 ∧ Fr pRk M M2 ∧ ∀ c, c < n → rkd w n H M M2 c :=
  rk_go hn hH e0 e2 h1 hw hd h29 n 0 4096 M (by omega) (by omega) (Fr_rf _ _) (fun c hc => absurd hc (Nat.not_lt_zero c))
