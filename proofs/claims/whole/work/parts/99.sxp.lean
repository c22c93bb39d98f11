def YR (T : Nat → Int32) (n z : Nat) (M : Mm) (R : Rs (Nat × Nat × Mc)) (res : Option (Int32 × Mm)) : Prop :=
  (∃ w a M', R = .inl (w, a) ∧ res = some (0, M') ∧ Fr (pMx z) M M' ∧ Mf w a M') ∨
  (∃ q k m M', R = .inr (q, k, m) ∧ res = some (1, M') ∧ Fr (pMx z) M M' ∧ Ms T n q M' ∧ M'.1 194 38 = nI k ∧ Ym z m M' ∧ Yi z k 0 m)
theorem YR_fr {T : Nat → Int32} {n z : Nat} {M M1 : Mm} {R : Rs (Nat × Nat × Mc)} {res : Option (Int32 × Mm)} (f : Fr (pMx z) M M1) (h : YR T n z M1 R res) : YR T n z M R res := by
  rcases h with ⟨w, a, B, r1, r2, r3, r4⟩ | ⟨q, k, m, B, r1, r2, r3, r4⟩
  · exact Or.inl ⟨w, a, B, r1, r2, Fr_tr f r3, r4⟩
  · exact Or.inr ⟨q, k, m, B, r1, r2, Fr_tr f r3, r4⟩
theorem y_go {T : Nat → Int32} {n z F : Nat} {M : Mm} {Rv : Option (Rs (Nat × Nat × Mc))} {R : Rs (Nat × Nat × Mc)} {res : Option (Int32 × Mm)} (ih : ∀ q k b l v m M R, Yq T n z q k b l v m M → mrun T n F q k b l v m = some R → YR T n z M R (sX12_expression_25 F M)) (h : YV T n z (mrun T n F) M Rv res) (hR : Rv = some R) : YR T n z M R (res.bind fun (q35 : Int32 × Mm) => sX12_expression_111 (sX12_expression_25 F) q35.1 q35.2) := by
  rcases h with ⟨w, a, B, r1, r2, r3, r4⟩ | ⟨q, k, b, l, v, m, B, r1, r2, r3, r4⟩
  · rw [r1] at hR
    cases hR
    rw [r2, Option.bind_some]
    unfold sX12_expression_111
    rw [if_pos rfl]
    exact Or.inl ⟨w, a, B, rfl, rfl, r3, r4⟩
  · rw [r1] at hR
    rw [r2, Option.bind_some]
    unfold sX12_expression_111
    rw [if_neg (show ¬ (1 : Int32) = 0 by decide)]
    exact YR_fr r3 (ih q k b l v m B R r4 hR)
theorem y_run {T : Nat → Int32} {n z : Nat} : ∀ (F q k b : Nat) (l v : Bool) (m : Mc) (M : Mm) (R : Rs (Nat × Nat × Mc)), Yq T n z q k b l v m M → mrun T n F q k b l v m = some R → YR T n z M R (sX12_expression_25 F M) := by
  intro F
  induction F with
  | zero => intro q k b l v m M R _ h; cases h
  | succ F ih =>
    intro q k b l v m M R y h
    have x := y.1
    have hq := x.2.2.2.2.2.1
    have hb := x.2.2.2.2.2.2
    rw [mrun] at h
    rw [sX12_expression_25, y.2.2.2.2.1]
    cases v with
    | true =>
      rw [if_pos rfl] at h
      rw [if_neg b2t0]
      exact y_go ih (y_va y) h
    | false =>
      rw [if_neg (show ¬ false = true by decide)] at h
      have e14 : sX12_isWord 13 M = some (b2 (wdR T n q 14 1), M) := m_isW (i := 14) hq hb x.1 (by omega)
      have e15 : sX12_isWord 14 M = some (b2 (wdR T n q 15 1), M) := m_isW (i := 15) hq hb x.1 (by omega)
      have wv : ∀ i, i < 24 → wdR T n q i 1 = true → M.1 194 22 = nI (prm i) := fun i hi p => by
        obtain ⟨j, j1, j2, j3⟩ := wdR_i.mp p
        have : j = i := by omega
        subst this
        obtain ⟨_, i2, _, i4, i5⟩ := wdx_r hq j1
        rw [x.1.2.2.2.2.2 (by omega), i5]
      rw [if_pos b2f, e14, Option.bind_some]
      dsimp only
      unfold sX12_expression_60 sX12_expression_100
      by_cases c1 : wdR T n q 14 1 = true
      · rw [if_pos c1] at h
        rw [if_neg (show ¬ b2 (wdR T n q 14 1) = 0 by rw [c1]; exact b2t0), wv 14 (by omega) c1]
        exact y_go ih (y_jo (Or.inl rfl) y (fun p => by rw [p] at h; cases h)) h
      rw [if_neg c1] at h
      rw [if_pos (show b2 (wdR T n q 14 1) = 0 by rw [Bool.eq_false_iff.mpr c1]; rfl), e15, Option.bind_some]
      dsimp only
      by_cases c2 : wdR T n q 15 1 = true
      · rw [if_pos c2] at h
        rw [if_neg (show ¬ b2 (wdR T n q 15 1) = 0 by rw [c2]; exact b2t0), wv 15 (by omega) c2]
        exact y_go ih (y_jo (Or.inr rfl) y (fun p => by rw [p] at h; cases h)) h
      rw [if_neg c2] at h
      rw [if_pos (show b2 (wdR T n q 15 1) = 0 by rw [Bool.eq_false_iff.mpr c2]; rfl), y.2.2.1]
      by_cases c3 : b = 0
      · subst c3
        rw [if_pos rfl] at h
        rw [if_pos (show nI 0 ≤ 0 by decide)]
        cases hB : bnd 1 m.1 m.2.1 m.2.2 with
        | none => rw [hB] at h; cases h
        | some m' =>
          rw [hB, Option.bind_some] at h
          cases h
          obtain ⟨_, h38, h56, h57, h58, ym, yi⟩ := y
          obtain ⟨A, e1, f1, y1, yi1⟩ := y_bind (z := z) (k := k) (b := 0) (x := 1) (by omega) ym yi hB
          have e1' : sX12_bind 1 M = some A := e1
          rw [e1', Option.bind_some]
          exact Or.inr ⟨q, k, m', A, rfl, rfl, bd_mx f1, bd_ms x f1, (f1 _ _ (by unfold pBd; omega)).1.trans h38, y1, yi1⟩
      rw [if_neg c3] at h
      have b8 := y.2.2.2.2.2.2.2.2.2.2.2.2
      have e41 : sX12_isSign 41 M = some (b2 (sgB T n q 41), M) := m_isSg (c := 41) hq hb x.1 (by omega)
      rw [if_neg (show ¬ nI b ≤ 0 from nle_nI (b := 0) (by omega) (by omega)), e41, Option.bind_some]
      dsimp only
      by_cases c4 : sgB T n q 41 = true
      · rw [if_pos c4] at h
        rw [if_neg (show ¬ b2 (sgB T n q 41) = 0 by rw [c4]; exact b2t0)]
        obtain ⟨b, rfl⟩ : ∃ b', b = b' + 1 := ⟨b - 1, by omega⟩
        exact y_go ih (y_cl y (fun p => by rw [p] at h; cases h)) h
      · rw [if_neg c4] at h
        cases h
        rw [if_pos (show b2 (sgB T n q 41) = 0 by rw [Bool.eq_false_iff.mpr c4]; rfl)]
        obtain ⟨A, e1, f1, g1⟩ := m_wr (w := 1) x
        have e1' : sX12_wrong 1 M = some (0, A) := e1
        rw [e1', Option.bind_some]
        unfold sX12_expression_111
        rw [if_pos rfl]
        exact Or.inl ⟨1, _, A, rfl, rfl, mr_mx f1, g1⟩
/-- the model reads an expression -/
theorem m_xp {T : Nat → Int32} {n q k : Nat} {M : Mm} (x : Ms T n q M) (h38 : M.1 194 38 = nI k) (h50 : M.1 194 50 = nI k) (hk : k ≤ 96) :
    (∃ w a M', dEi T n (dBr T n 8) false q k = .inl (w, a) ∧ sX12_expression M = some (0, M') ∧ Fr (pMx k) M M' ∧ Mf w a M') ∨
    (∃ e M', dEi T n (dBr T n 8) false q k = .inr e ∧ sX12_expression M = some (1, M') ∧ Fr (pMx k) M M' ∧ Ms T n e.1 M' ∧ M'.1 194 38 = nI e.2.1 ∧ e.2.1 ≤ 96 ∧ M'.1 194 50 = nI (k + e.2.2.1.length) ∧ oO M' k e.2.2.1) := by
  have hq := x.2.2.2.2.2.1
  have hn := x.2.1.1
  have y : Yq T n k q k 0 false true ([], [], []) (sI (sI (sI (sI (sI M 194 53 0) 194 55 0) 194 56 0) 194 57 0) 194 58 1) := by
    refine ⟨Ms_s1 (Ms_s1 (Ms_s1 (Ms_s1 (Ms_s1 x (by omega)) (by omega)) (by omega)) (by omega)) (by omega), ?_, ?_, ?_, rdS _ _ _ _, ⟨?_, trivial, ?_, trivial, ?_, trivial⟩, trivial, (fun d hd => by cases hd), Nat.zero_le _, Nat.le_refl _, rfl, hk, Nat.zero_le _⟩
    · rw [rdN (by omega), rdN (by omega), rdN (by omega), rdN (by omega), rdN (by omega)]; exact h38
    · rw [rdN (by omega), rdN (by omega), rdS]; rfl
    · rw [rdN (by omega), rdS]; rfl
    · rw [rdN (by omega), rdN (by omega), rdN (by omega), rdN (by omega), rdS]; rfl
    · rw [rdN (by omega), rdN (by omega), rdN (by omega), rdS]; rfl
    · rw [rdN (by omega), rdN (by omega), rdN (by omega), rdN (by omega), rdN (by omega)]; exact h50
  have f0 : Fr (pMx k) M (sI (sI (sI (sI (sI M 194 53 0) 194 55 0) 194 56 0) 194 57 0) 194 58 1) := Fr_sI (Fr_sI (Fr_sI (Fr_sI (Fr_sI (Fr_rf _ _) (Or.inr (Or.inl (by omega)))) (Or.inr (Or.inl (by omega)))) (Or.inr (Or.inl (by omega)))) (Or.inr (Or.inl (by omega)))) (Or.inr (Or.inl (by omega)))
  obtain ⟨v1, v2⟩ := vs_all (T := T) (n := n) 8 0 rfl false q k ([], [], []) (by show 0 < 1; omega) 4096 hq hk (by omega)
  unfold sX12_expression
  cases hE : dEi T n (dBr T n 8) false q k with
  | inl f =>
    rcases y_run 4096 q k 0 false true _ _ _ y (v1 f hE) with ⟨w, a, A, r1, r2, r3, r4⟩ | ⟨_, _, _, _, r1, _⟩
    · cases r1
      exact Or.inl ⟨w, a, A, rfl, r2, Fr_tr f0 r3, r4⟩
    · cases r1
  | inr e =>
    obtain ⟨c1, c2, c3, c4, F', m', c5, c6, c7⟩ := v2 e hE
    obtain ⟨w15, w14⟩ := dEi_end hE
    obtain ⟨F', rfl⟩ : ∃ F'', F' = F'' + 1 := ⟨F' - 1, by omega⟩
    have st : mrun T n (F' + 1) e.1 e.2.1 0 false false m' = some (.inr (e.1, e.2.1, ([], [e.2.2.2.1], e.2.2.1))) := by
      rw [mrun, if_neg (by decide), if_neg (by rw [w14]; decide), if_neg (by rw [w15]; decide), if_pos rfl, c7 1 (by omega) (by omega)]
      rfl
    rcases y_run 4096 q k 0 false true _ _ _ y (c6.trans st) with ⟨w, a, A, r1, _⟩ | ⟨q', k', m2, A, r1, r2, r3, r4, r5, r6, r7⟩
    · cases r1
    · cases r1
      exact Or.inr ⟨e, A, rfl, r2, Fr_tr f0 r3, r4, r5, c2, r6.2.2.2.2.1, r6.2.2.2.2.2⟩
