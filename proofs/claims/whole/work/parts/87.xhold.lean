theorem thV_le {m : Nat} {v : Nat → Bool} {D : Nat → Nat → Nat} (hl : lyOk m D) : ∀ k, k ≤ m → thV v D k ≤ 300 * k := by
  intro k
  induction k with
  | zero => intro _; exact Nat.zero_le _
  | succ k ih =>
    intro h
    have h1 := ih (by omega)
    have h2 := (hl.2.2.2.1 k (by omega)).2.1
    rw [thV]
    split <;> omega
theorem fbV_le {m : Nat} {v : Nat → Bool} {D : Nat → Nat → Nat} (hl : lyOk m D) : ∀ f k, k + f = m → fbV v D f k ≤ 999 := by
  intro f
  induction f with
  | zero => intro k _; exact Nat.le_refl _
  | succ f ih =>
    intro k h
    have h2 := (hl.2.2.2.1 k (by omega)).2.2 0 (by omega)
    rw [fbV]
    split
    · omega
    · exact ih (k + 1) (by omega)
theorem x_chg {r p i m : Nat} {c : Cd} {v : Nat → Bool} {D : Nat → Nat → Nat} {M : Mm} (hp : p < 96) (hc : xC_ r p c M) (hs : sOk c) (hb : xB_ i m D M) (hl : lyOk m D) (hw : c.1 = 16 ∨ 18 ≤ c.1 ∧ c.1 ≤ 22) : sX4_changed r (38 + 2 * i) (nI p) (nI (msk v m)) M = some (nI (msk (if c.1 = 16 then fun k => !v k else fun _ => qvV c v D m) m), M) := by
  have ib := inb_nI hp (by decide)
  have hm := hl.2.1
  have h24 := hc.2.2.2.1
  have h256 := msk256 v hm
  have h2m := msk_lt v m
  unfold sX4_changed
  rw [x_all hb hm, Option.bind_some, ckT ib]
  dsimp only
  rw [nI_clamp (by omega), hc.1]
  by_cases c16 : c.1 = 16
  · rw [if_pos (show nI c.1 = 16 by rw [c16]; rfl), if_pos c16, not_msk v hm]
  have hw' := hw.resolve_left c16
  have ne : ∀ b, c.1 ≠ b → b < 100 → ¬ nI c.1 = nI b := fun b h1 h2 => ne_nI h1 (by omega) (by omega)
  rw [if_neg (show ¬ nI c.1 = 16 from ne 16 c16 (by omega)), if_neg c16, if_neg (show ¬ nI c.1 = 17 from ne 17 (by omega) (by omega))]
  have fin : ∀ b : Bool, some ((if b2 b = 0 then (0 : Int32) else nI (2 ^ m - 1)), M) = some (nI (msk (fun _ => b) m), M) := fun b => by
    rw [msk_c]
    cases b <;> rfl
  unfold sX4_changed_68 sX4_changed_84 sX4_changed_132 sX4_changed_120 sX4_changed_132 qvV
  by_cases c18 : c.1 = 18
  · rw [if_pos (show nI c.1 = 18 by rw [c18]; rfl), if_pos c18, ← fin (anV v m)]
    congr 2
    have : (if nI (msk v m) = 0 then (0 : Int32) else 1) = b2 (anV v m) := by
      cases ha : anV v m with
      | false => rw [if_pos (show nI (msk v m) = 0 by rw [(an_msk v m).mpr ha]; rfl)]; rfl
      | true => rw [if_neg (ne0_nI (fun q => by have := (an_msk v m).mp q; rw [ha] at this; cases this) (by omega))]; rfl
    rw [this]
  rw [if_neg (show ¬ nI c.1 = 18 from ne 18 c18 (by omega)), if_neg c18]
  by_cases c19 : c.1 = 19
  · rw [if_pos (show nI c.1 = 19 by rw [c19]; rfl), if_pos c19, ← fin (!anV (fun k => !v k) m)]
    congr 2
    have h9 := msk_not v m
    have : (if nI (msk v m) = nI (2 ^ m - 1) then (1 : Int32) else 0) = b2 (!anV (fun k => !v k) m) := by
      cases ha : anV (fun k => !v k) m with
      | false =>
        have h0 := (an_msk (fun k => !v k) m).mpr ha
        rw [if_pos (by rw [show msk v m = 2 ^ m - 1 by omega])]; rfl
      | true =>
        have h28 : 2 ^ m ≤ 2 ^ 8 := Nat.pow_le_pow_right (by omega) hm
        have h0 : msk (fun k => !v k) m ≠ 0 := fun q => by have := (an_msk (fun k => !v k) m).mp q; rw [ha] at this; cases this
        rw [if_neg (ne_nI (by omega) (by omega) (by omega))]; rfl
    rw [this]
  rw [if_neg (show ¬ nI c.1 = 19 from ne 19 c19 (by omega)), if_neg c19]
  by_cases c20 : c.1 = 20
  · rw [if_pos (show nI c.1 = 20 by rw [c20]; rfl), if_pos c20, ckT ib, hc.2.2.1, x_at hb hl hc.2.2.2.2.2, Option.bind_some]
    exact fin _
  rw [if_neg (show ¬ nI c.1 = 20 from ne 20 c20 (by omega)), if_neg c20]
  by_cases c21 : c.1 = 21
  · have ht := thV_le (v := v) hl m (Nat.le_refl m)
    rw [if_pos (show nI c.1 = 21 by rw [c21]; rfl), if_pos c21, x_thk hb hl, Option.bind_some]
    dsimp only
    rw [x_cmp hp hc (hs (by omega)) (by omega), Option.bind_some]
    exact fin _
  · have hf := fbV_le (v := v) hl m 0 (by omega)
    rw [if_neg (show ¬ nI c.1 = 21 from ne 21 c21 (by omega)), if_neg c21, x_fb hb hl, Option.bind_some]
    dsimp only
    rw [x_cmp hp hc (hs (by omega)) (by omega), Option.bind_some]
    exact fin _
/-- the class's stack -/
def Sk (r m : Nat) (M : Mm) : Sv → Prop
  | [] => True
  | x :: st => M.1 (r + 7) st.length = nI (msk x.2 m) ∧ Sk r m M st
theorem Sk_sI {r m j : Nat} {v : Int32} {M : Mm} : ∀ st : Sv, st.length ≤ j → Sk r m M st → Sk r m (sI M (r + 7) j v) st := by
  intro st
  induction st with
  | nil => intro _ _; trivial
  | cons x st ih =>
    intro hl h
    rw [List.length_cons] at hl
    exact ⟨by rw [rdN (by omega)]; exact h.1, ih (by omega) h.2⟩
theorem xC_sI {r p a j : Nat} {c : Cd} {v : Int32} {M : Mm} (h : xC_ r p c M) (ha : a ≠ r + 1 ∧ a ≠ r + 2 ∧ a ≠ r + 3) : xC_ r p c (sI M a j v) := by
  obtain ⟨h1, h2, h3, h4⟩ := h
  exact ⟨by rw [rdN (by omega)]; exact h1, by rw [rdN (by omega)]; exact h2, by rw [rdN (by omega)]; exact h3, h4⟩
theorem x_op {r p i m e F : Nat} {c : Cd} {D : Nat → Nat → Nat} {st st' : Sv} {M : Mm} (hr : r = 6 ∨ r = 14) (hp : p < e) (he : e ≤ 96) (hi : i < 60) (hc : xC_ r p c M) (hs : sOk c) (hb : xB_ i m D M) (hl : lyOk m D) (hk : Sk r m M st) (hn : st.length ≤ p) (ho : opV c D m st = some st') : ∃ M', sX4_holds_6 r (38 + 2 * i) (F + 1) (nI e) (nI st.length) (nI p) M = sX4_holds_6 r (38 + 2 * i) F (nI e) (nI st'.length) (nI (p + 1)) M' ∧ Fr (fun id _ => id = r + 7) M M' ∧ Sk r m M' st' ∧ st'.length ≤ p + 1 := by
  have ib := inb_nI (show p < 96 by omega) (by decide)
  have hm := hl.2.1
  have h24 := hc.2.2.2.1
  have ne : ∀ b, c.1 ≠ b → b < 100 → ¬ nI c.1 = nI b := fun b h1 h2 => ne_nI h1 (by omega) (by omega)
  rw [sX4_holds_6, if_neg (nle_nI hp (by omega)), ckT ib, nI_clamp (show p < 2 ^ 31 by omega), hc.1, ckT ib, ckT ib, ckT ib, ckT ib]
  unfold opV at ho
  unfold sX4_holds_36 sX4_holds_144 sX4_holds_180 sX4_holds_104 sX4_holds_204
  rw [show nI p + 1 = nI (p + 1) by rw [nI_1]]
  have leafy : (c.1 ≤ 13 ∨ c.1 = 17 ∨ c.1 = 23) → ∀ l, st' = (l, if c.1 ≤ 13 then lfV c D else if c.1 = 17 then fun _ => true else fun _ => cmpN c.2.1 (D (m - 1) 1) c.2.2) :: st → ∃ M', (if 96 ≤ nI st.length then sX4_holds_6 r (38 + 2 * i) F (nI e) (nI st.length) (nI (p + 1)) M else (sX4_leaf r (38 + 2 * i) (nI p) M).bind fun (q197 : Int32 × Mm) => ck (inb (nI st.length) 96) (sX4_holds_6 r (38 + 2 * i) F (nI e) (nI st.length + 1) (nI (p + 1)) (sI q197.2 (r + 7) (nI st.length).toNatClampNeg q197.1))) = sX4_holds_6 r (38 + 2 * i) F (nI e) (nI st'.length) (nI (p + 1)) M' ∧ Fr (fun id _ => id = r + 7) M M' ∧ Sk r m M' st' ∧ st'.length ≤ p + 1 := by
    intro hw l hst
    rw [if_neg (lit_nle (v := 96) (n := 96) rfl (by omega) (by decide)), x_leaf (by omega) hc hs hb hl hw, Option.bind_some]
    dsimp only
    rw [ckT (inb_nI (by omega) (by decide)), nI_clamp (by omega), nI_1, hst]
    exact ⟨_, rfl, Fr_sI (Fr_rf _ _) rfl, ⟨rdS _ _ _ _, Sk_sI st (Nat.le_refl _) hk⟩, by rw [List.length_cons]; omega⟩
  by_cases c13 : c.1 ≤ 13
  · rw [if_pos c13] at ho
    cases ho
    rw [if_neg (show ¬ nI c.1 = 15 from ne 15 (by omega) (by omega)), if_neg (show ¬ nI c.1 = 14 from ne 14 (by omega) (by omega)), if_neg (show ¬ nI c.1 = 16 from ne 16 (by omega) (by omega)), if_pos (show nI c.1 < 18 from nI_lt (b := 18) (by omega) (by omega))]
    exact leafy (Or.inl c13) true (by rw [if_pos c13])
  rw [if_neg c13] at ho
  by_cases c45 : c.1 = 14 ∨ c.1 = 15
  · rw [if_pos c45] at ho
    match st, ho, hk, hn with
    | y :: x :: rest, ho, hk, hn =>
      dsimp only at ho
      by_cases ef : x.1 = y.1
      · rw [if_pos ef] at ho
        cases ho
        obtain ⟨k1, k2, k3⟩ := hk
        rw [List.length_cons, List.length_cons] at hn
        rw [List.length_cons] at k1
        have e1 : nI (y :: x :: rest).length + (-1) = nI (rest.length + 1) := by
          rw [List.length_cons, List.length_cons, nI_dn2, nI_dn]
        have e2 : nI (rest.length + 1) - 1 = nI rest.length := nI_dn _
        have l1 := msk256 x.2 hm
        have l2 := msk256 y.2 hm
        have e36 : ∀ {X Y : Option (Int32 × Mm)}, (if nI c.1 = 15 then X else if nI c.1 = 14 then X else Y) = X := fun {X Y} => by
          rcases c45 with q | q
          · rw [if_neg (show ¬ nI c.1 = 15 from ne 15 (by omega) (by omega)), if_pos (show nI c.1 = 14 by rw [q]; rfl)]
          · rw [if_pos (show nI c.1 = 15 by rw [q]; rfl)]
        rw [e36, if_pos (show (2 : Int32) ≤ nI (y :: x :: rest).length from nI_le (a := 2) (by rw [List.length_cons, List.length_cons]; omega) (by rw [List.length_cons, List.length_cons]; omega)), e1, e2, ckT (inb_nI (show rest.length < 96 by omega) (by decide)), ckT (inb_nI (show rest.length + 1 < 96 by omega) (by decide)), ckT (inb_nI (show rest.length < 96 by omega) (by decide)), nI_clamp (show rest.length < 2 ^ 31 by omega), nI_clamp (show rest.length + 1 < 2 ^ 31 by omega), k1, k2]
        refine ⟨sI M (r + 7) rest.length (nI (msk (fun k => if c.1 = 15 then x.2 k && y.2 k else x.2 k || y.2 k) m)), ?_, Fr_sI (Fr_rf _ _) rfl, ⟨rdS _ _ _ _, Sk_sI rest (Nat.le_refl _) k3⟩, by rw [List.length_cons]; omega⟩
        rw [ckT ib, nI_clamp (show p < 2 ^ 31 by omega), hc.1]
        rcases c45 with q | q
        · have ibr := inb_nI (show rest.length < 96 by omega) (by decide)
          rw [if_neg (show ¬ nI c.1 = 15 from ne 15 (by omega) (by omega)), ckT ibr, ckT (inb_nI (show rest.length + 1 < 96 by omega) (by decide)), ckT ibr, nI_or (by omega) (by omega), msk_or, List.length_cons]
          simp only [if_neg (show ¬ c.1 = 15 by omega)]
        · rw [if_pos (show nI c.1 = 15 by rw [q]; rfl), nI_and (by omega) (by omega), msk_and, List.length_cons]
          simp only [if_pos q]
      · rw [if_neg ef] at ho; cases ho
    | [], ho, hk, hn => cases ho
    | [_], ho, hk, hn => cases ho
  rw [if_neg c45] at ho
  rw [if_neg (show ¬ nI c.1 = 15 from ne 15 (by omega) (by omega)), if_neg (show ¬ nI c.1 = 14 from ne 14 (by omega) (by omega))]
  have chgy : (c.1 = 16 ∨ 18 ≤ c.1 ∧ c.1 ≤ 22) → ∀ (x : Bool × (Nat → Bool)) (rest : Sv) (l : Bool), st = x :: rest → st' = (l, if c.1 = 16 then fun k => !x.2 k else fun _ => qvV c x.2 D m) :: rest → ∃ M', (if 1 ≤ nI st.length then ck (inb (nI st.length - 1) 96) ((sX4_changed r (38 + 2 * i) (nI p) (M.1 (r + 7) (nI st.length - 1).toNatClampNeg) M).bind fun (q173 : Int32 × Mm) => ck (inb (nI st.length - 1) 96) (sX4_holds_6 r (38 + 2 * i) F (nI e) (nI st.length) (nI (p + 1)) (sI q173.2 (r + 7) (nI st.length - 1).toNatClampNeg q173.1))) else some (0, M)) = sX4_holds_6 r (38 + 2 * i) F (nI e) (nI st'.length) (nI (p + 1)) M' ∧ Fr (fun id _ => id = r + 7) M M' ∧ Sk r m M' st' ∧ st'.length ≤ p + 1 := by
    intro hw x rest l hst hst'
    subst hst hst'
    obtain ⟨k1, k2⟩ := hk
    rw [List.length_cons] at hn
    have ib2 := inb_nI (show rest.length < 96 by omega) (by decide)
    rw [List.length_cons, if_pos (show (1 : Int32) ≤ nI (rest.length + 1) from nI_le (a := 1) (by omega) (by omega)), nI_dn, ckT ib2, nI_clamp (show rest.length < 2 ^ 31 by omega), k1, x_chg (by omega) hc hs hb hl hw, Option.bind_some, ckT ib2]
    dsimp only
    exact ⟨_, rfl, Fr_sI (Fr_rf _ _) rfl, ⟨rdS _ _ _ _, Sk_sI rest (Nat.le_refl _) k2⟩, by rw [List.length_cons]; omega⟩
  by_cases c16 : c.1 = 16
  · rw [if_pos c16] at ho
    rw [if_pos (show nI c.1 = 16 by rw [c16]; rfl)]
    match st, ho, chgy with
    | x :: rest, ho, chgy =>
      cases ho
      exact chgy (Or.inl c16) x rest x.1 rfl (by rw [if_pos c16])
    | [], ho, _ => cases ho
  rw [if_neg c16] at ho
  rw [if_neg (show ¬ nI c.1 = 16 from ne 16 c16 (by omega))]
  by_cases c17 : c.1 = 17
  · rw [if_pos c17] at ho
    cases ho
    rw [if_pos (show nI c.1 < 18 from nI_lt (b := 18) (by omega) (by omega))]
    exact leafy (Or.inr (Or.inl c17)) false (by rw [if_neg c13, if_pos c17])
  rw [if_neg c17] at ho
  rw [if_neg (show ¬ nI c.1 < 18 from nlt_nI (b := 18) (by omega) (by omega))]
  by_cases c23 : c.1 = 23
  · rw [if_pos c23] at ho
    cases ho
    rw [if_pos (show (22 : Int32) < nI c.1 from nI_lt (a := 22) (by omega) (by omega))]
    exact leafy (Or.inr (Or.inr c23)) false (by rw [if_neg c13, if_neg c17])
  rw [if_neg c23] at ho
  rw [if_neg (show ¬ (22 : Int32) < nI c.1 from nlt_nI (a := 22) (by omega) (by omega))]
  match st, ho, chgy with
  | x :: rest, ho, chgy =>
    dsimp only at ho
    by_cases ef : x.1 = true
    · rw [if_pos ef] at ho
      cases ho
      exact chgy (Or.inr (by omega)) x rest false rfl (by rw [if_neg c16])
    · rw [if_neg ef] at ho; cases ho
  | [], ho, _ => cases ho
