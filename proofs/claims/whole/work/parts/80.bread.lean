abbrev Rs (α : Type) := Sum (Nat × Nat) α
/-- the depths of a layer: fault and place, or where it goes on and where the layer ends -/
def rd1 (T : Nat → Int32) (n q due : Nat) : Rs (Nat × Nat) :=
  if nmF T n q 300 ≠ 0 then .inl (nmF T n q 300, tA T n q) else if tN T n q ≠ due then .inl (3, tA T n q) else
  if sgB T n (tE T n q) 45 = false then .inl (1, tA T n (tE T n q)) else
  if nmF T n (tE T n (tE T n q)) 300 ≠ 0 then .inl (nmF T n (tE T n (tE T n q)) 300, tA T n (tE T n (tE T n q))) else
  if tN T n (tE T n (tE T n q)) ≤ due then .inl (3, tA T n (tE T n (tE T n q))) else .inr (tE T n (tE T n (tE T n q)), tN T n (tE T n (tE T n q)))
def wdn (T : Nat → Int32) (n q : Nat) : Nat := (wdx T n q).getD 0
/-- stones: what they are, and where it goes on -/
def rd3 (T : Nat → Int32) (n q : Nat) : Rs (Nat × Nat) :=
  if wdR T n q 12 1 = false then .inr (q, 0) else if nmF T n (tE T n q) 99 ≠ 0 then .inl (nmF T n (tE T n q) 99, tA T n (tE T n q)) else .inr (tE T n (tE T n q), tN T n (tE T n q))
def rdm (T : Nat → Int32) (n q : Nat) : Nat := if wdR T n q 11 1 = true then tE T n q else q
/-- texture, colour, mottled, stones -/
def rd2 (T : Nat → Int32) (n q : Nat) : Rs (Nat × List Nat) :=
  if wdR T n q 0 6 = false then .inl (1, tA T n q) else if wdR T n (tE T n q) 6 5 = false then .inl (1, tA T n (tE T n q)) else
  match rd3 T n (rdm T n (tE T n (tE T n q))) with
  | .inl f => .inl f
  | .inr (q', s) => .inr (q', [wdn T n q, wdn T n (tE T n q) - 6, if wdR T n (tE T n (tE T n q)) 11 1 = true then 1 else 0, s])
def rdL (T : Nat → Int32) (n q due : Nat) : Rs (Nat × List Nat) := match rd1 T n q due with
  | .inl f => .inl f
  | .inr (q3, e) => match rd2 T n q3 with
    | .inl f => .inl f
    | .inr (q', l) => .inr (q', due :: e :: l)
/-- the layers from layer k on -/
def rdB (T : Nat → Int32) (n : Nat) : Nat → Nat → Nat → List Nat → Rs (List Nat)
  | 0, q, _, _ => .inl (if tS T n q = 1 then 2 else 1, tA T n q)
  | f + 1, q, due, L => match rdL T n q due with
    | .inl z => .inl z
    | .inr (q', l) => if tS T n q' = 0 then .inr (L ++ l) else if sgB T n q' 59 = false then .inl (1, tA T n q') else if tS T n (tE T n q') = 0 then .inr (L ++ l) else rdB T n f (tE T n q') (l.getD 1 0) (L ++ l)
def pBr (i id k : Nat) : Prop := id = 3 ∧ 3 ≤ k ∧ k ≤ 9 ∨ id = 39 + 2 * i ∨ id = 38 + 2 * i ∧ k = 3
theorem br_r {i : Nat} {M M1 : Mm} (f : Fr pXr M M1) : Fr (pBr i) M M1 := Fr_mo f (fun id k q => Or.inl q)
theorem x_set {i k j : Nat} {v : Int32} {M : Mm} (hi : i < 60) (hk : k < 8) (hj : j < 6) : sX7_set (38 + 2 * i) (nI k) (nI j) v M = some (sI M (39 + 2 * i) (6 * k + j) v) := by
  unfold sX7_set
  rw [show (6 : Int32) = nI 6 from rfl, nI_mul, nI_add, ckT (inb_nI (by omega) (by decide)), nI_clamp (by omega), show 38 + 2 * i + 1 = 39 + 2 * i by omega, Nat.mul_comm k 6]
def Fw (i a b : Nat) (id k : Nat) : Prop := id = 39 + 2 * i ∧ a ≤ k ∧ k < b
theorem Xs_sI {T : Nat → Int32} {n q a j : Nat} {v : Int32} {M : Mm} (x : Xs T n q M) (h : 5 ≤ a) : Xs T n q (sI M a j v) := Xs_fr x (P := fun id _ => id = a) (Fr_sI (Fr_rf _ _) rfl) (fun id k q p => by omega)
theorem x_rd1 {T : Nat → Int32} {n q i k due : Nat} {M : Mm} (hi : i < 60) (hk : k < 8) (x : Xs T n q M) (e3 : M.1 (38 + 2 * i) 3 = nI k) (h0 : k = 0 → due = 0) (h1 : k ≠ 0 → M.1 (39 + 2 * i) (6 * (k - 1) + 1) = nI due) (hd : due ≤ 300) :
    (∃ w p M', rd1 T n q due = .inl (w, p) ∧ sX7_readDepths (38 + 2 * i) (nI k) M = some (0, M') ∧ Fr (pBr i) M M' ∧ Xf w p M') ∨
    (∃ q3 e M', rd1 T n q due = .inr (q3, e) ∧ e ≤ 300 ∧ sX7_readDepths (38 + 2 * i) (nI k) M = some (1, M') ∧ Fr (fun id z => pXr id z ∨ Fw i (6 * k) (6 * k + 2) id z) M M' ∧ Xs T n q3 M' ∧ M'.1 (39 + 2 * i) (6 * k) = nI due ∧ M'.1 (39 + 2 * i) (6 * k + 1) = nI e) := by
  have ed : sX7_depth (38 + 2 * i) M = some (nI due, M) := by
    unfold sX7_depth
    rw [e3]
    by_cases z : k = 0
    · subst z
      rw [h0 rfl, if_pos (by decide)]
      rfl
    · rw [if_neg (show ¬ nI k ≤ 0 from nle_nI (b := 0) (by omega) (by omega)), show nI k - 1 = nI (k - 1) from nI_sb (b := 1) (by omega)]
      unfold sX7_get
      rw [show (6 : Int32) = nI 6 from rfl, nI_mul, nI_1, ckT (inb_nI (by omega) (by decide)), nI_clamp (by omega), Option.bind_some]
      dsimp only
      rw [show 38 + 2 * i + 1 = 39 + 2 * i by omega, Nat.mul_comm (k - 1) 6, h1 z]
  unfold sX7_readDepths rd1
  rw [ed, Option.bind_some]
  dsimp only
  rcases x_nto (m := 300) x (by omega) with ⟨c1, e1, v1, l1⟩ | ⟨c1, A, e1, f1, g1⟩
  · have e1' : sX10_isNumberTo 300 M = some (1, M) := e1
    rw [if_neg (fun z => z c1), e1', Option.bind_some]
    dsimp only
    rw [if_neg one_, v1]
    by_cases c2 : tN T n q = due
    · have es0 : sX7_set (38 + 2 * i) (nI k) 0 (nI due) M = some (sI M (39 + 2 * i) (6 * k + 0) (nI due)) := x_set (j := 0) hi hk (by omega)
      rw [if_pos (show nI (tN T n q) = nI due by rw [c2]), if_neg (show ¬ tN T n q ≠ due from fun z => z c2), es0, Option.bind_some]
      have x1 : Xs T n q (sI M (39 + 2 * i) (6 * k + 0) (nI due)) := Xs_sI x (by omega)
      obtain ⟨B, e2, f2, x2⟩ := x_next x1
      have fB : Fr (fun id z => pXr id z ∨ Fw i (6 * k) (6 * k + 2) id z) M B := Fr_tr (Fr_sI (Fr_rf _ _) (Or.inr (by unfold Fw; omega))) (Fr_mo (xs_r f2) (fun id k q => Or.inl q))
      have b0 : B.1 (39 + 2 * i) (6 * k) = nI due := by
        rw [(f2 _ _ (by unfold pXs; omega)).1]
        exact rdS _ _ _ _
      rw [e2, Option.bind_some]
      have fall : ∀ {X Y : Mm}, Fr (fun id z => pXr id z ∨ Fw i (6 * k) (6 * k + 2) id z) X Y → Fr (pBr i) X Y := fun {X Y} f => Fr_mo f (fun id z q => by unfold pXr Fw at q; unfold pBr; omega)
      rcases x_tsg (c := 45) x2 with ⟨c3, C, e4, f4, x4⟩ | ⟨c3, C, e4, f4, g4⟩
      · have e4' : sX10_takeSign 45 B = some (1, C) := e4
        rw [if_neg (by rw [c3]; decide), e4', Option.bind_some]
        dsimp only
        rw [if_neg (show ¬ (1 : Int32) = 0 by decide)]
        have fC := Fr_tr fB (Fr_mo (xs_r f4) (fun id k q => Or.inl q))
        have c0 : C.1 (39 + 2 * i) (6 * k) = nI due := by rw [(f4 _ _ (by unfold pXs; omega)).1]; exact b0
        rcases x_nto (m := 300) x4 (by omega) with ⟨c5, e5, v5, l5⟩ | ⟨c5, D, e5, f5, g5⟩
        · have e5' : sX10_isNumberTo 300 C = some (1, C) := e5
          rw [if_neg (fun z => z c5), e5', Option.bind_some]
          dsimp only
          rw [if_neg (show ¬ (1 : Int32) = 0 by decide), v5]
          by_cases c6 : tN T n (tE T n (tE T n q)) ≤ due
          · rw [if_pos c6, if_neg (nlt_nI c6 (by omega))]
            obtain ⟨D, e7, f7, g7⟩ := x_ref (w := 3) x4
            have e7' : sX10_refuse 3 C = some (0, D) := e7
            rw [e7', Option.bind_some, ckT i0_]
            exact Or.inl ⟨3, _, D, rfl, rfl, Fr_tr (fall fC) (br_r f7), g7⟩
          · have es1 : ∀ v, sX7_set (38 + 2 * i) (nI k) 1 v C = some (sI C (39 + 2 * i) (6 * k + 1) v) := fun v => x_set (j := 1) hi hk (by omega)
            rw [if_neg c6, if_pos (nI_lt (by omega) (by omega)), es1, Option.bind_some]
            have x5 : Xs T n (tE T n (tE T n q)) (sI C (39 + 2 * i) (6 * k + 1) (nI (tN T n (tE T n (tE T n q))))) := Xs_sI x4 (by omega)
            obtain ⟨D, e7, f7, x7⟩ := x_next x5
            rw [e7, Option.bind_some]
            refine Or.inr ⟨_, _, D, rfl, l5, rfl, Fr_tr fC (Fr_tr (Fr_sI (Fr_rf _ _) (Or.inr (by unfold Fw; omega))) (Fr_mo (xs_r f7) (fun id k q => Or.inl q))), x7, ?_, ?_⟩
            · rw [(f7 _ _ (by unfold pXs; omega)).1, rdN (by omega)]; exact c0
            · rw [(f7 _ _ (by unfold pXs; omega)).1, rdS]
        · have e5' : sX10_isNumberTo 300 C = some (0, D) := e5
          rw [if_pos c5, e5', Option.bind_some]
          dsimp only
          rw [if_pos (show (0 : Int32) = 0 from rfl)]
          exact Or.inl ⟨_, _, D, rfl, rfl, Fr_tr (fall fC) (br_r f5), g5⟩
      · have e4' : sX10_takeSign 45 B = some (0, C) := e4
        rw [if_pos c3, e4', Option.bind_some]
        dsimp only
        rw [if_pos (show (0 : Int32) = 0 from rfl)]
        exact Or.inl ⟨1, _, C, rfl, rfl, Fr_tr (fall fB) (br_r f4), g4⟩
    · rw [if_neg (fun z => c2 (nI_inj (by omega) (by omega) z)), if_pos c2]
      obtain ⟨D, e7, f7, g7⟩ := x_ref (w := 3) x
      have e7' : sX10_refuse 3 M = some (0, D) := e7
      rw [e7', Option.bind_some, ckT i0_]
      exact Or.inl ⟨3, _, D, rfl, rfl, br_r f7, g7⟩
  · have e1' : sX10_isNumberTo 300 M = some (0, A) := e1
    rw [if_pos c1, e1', Option.bind_some]
    dsimp only
    rw [if_pos rfl]
    exact Or.inl ⟨_, _, A, rfl, rfl, br_r f1, g1⟩
theorem wdR_n {T : Nat → Int32} {n q f c : Nat} (hq : q ≤ n) (h : wdR T n q f c = true) : ∃ i, wdx T n q = some i ∧ wdn T n q = i ∧ f ≤ i ∧ i < f + c ∧ i < 24 ∧ tS T n q = 2 ∧ xV T n q = nI i := by
  unfold wdR at h
  cases hw : wdx T n q with
  | none => rw [hw] at h; simp at h
  | some i =>
    rw [hw] at h
    simp only [Bool.and_eq_true, decide_eq_true_eq] at h
    obtain ⟨r1, r2, r3, -, -⟩ := wdx_r hq hw
    exact ⟨i, rfl, by unfold wdn; rw [hw]; rfl, h.1, h.2, r1, r2, r3⟩
theorem x_rdW {T : Nat → Int32} {n q i k j f c : Nat} {M : Mm} (hi : i < 60) (hk : k < 8) (hj : j < 6) (hf : f + c < 100) (x : Xs T n q M) :
    (wdR T n q f c = false ∧ ∃ M', sX7_readWord (38 + 2 * i) (nI k) (nI j) (nI f) (nI c) M = some (0, M') ∧ Fr (pBr i) M M' ∧ Xf 1 (tA T n q) M') ∨
    (wdR T n q f c = true ∧ ∃ M', sX7_readWord (38 + 2 * i) (nI k) (nI j) (nI f) (nI c) M = some (1, M') ∧ Fr (fun id z => pXr id z ∨ Fw i (6 * k + j) (6 * k + j + 1) id z) M M' ∧ Xs T n (tE T n q) M' ∧ M'.1 (39 + 2 * i) (6 * k + j) = nI (wdn T n q - f)) := by
  have hq := x.2.2.2.2.2
  unfold sX7_readWord
  rw [x_isW hq x.1 (by omega), Option.bind_some]
  dsimp only
  cases hw : wdR T n q f c with
  | false =>
    obtain ⟨A, e, fA, g⟩ := x_ref (w := 1) x
    have e' : sX10_refuse 1 M = some (0, A) := e
    rw [if_pos b2f, e', Option.bind_some, ckT i0_]
    exact Or.inl ⟨rfl, A, rfl, br_r fA, g⟩
  | true =>
    obtain ⟨w, -, w2, w3, w4, w5, w6, w7⟩ := wdR_n hq hw
    rw [if_neg b2t0, x.1.2.2.2.2.1 (by omega), w7, nI_sb w3, x_set hi hk hj, Option.bind_some]
    have x1 : Xs T n q (sI M (39 + 2 * i) (6 * k + j) (nI (w - f))) := Xs_sI x (by omega)
    obtain ⟨B, e2, f2, x2⟩ := x_next x1
    rw [e2, Option.bind_some]
    refine Or.inr ⟨rfl, B, rfl, Fr_tr (Fr_sI (Fr_rf _ _) (Or.inr (by unfold Fw; omega))) (Fr_mo (xs_r f2) (fun id k q => Or.inl q)), x2, ?_⟩
    rw [(f2 _ _ (by unfold pXs; omega)).1, rdS, w2]
theorem x_rd3 {T : Nat → Int32} {n q i k : Nat} {M : Mm} (hi : i < 60) (hk : k < 8) (x : Xs T n q M) :
    (∃ w p M', rd3 T n q = .inl (w, p) ∧ sX7_readStones (38 + 2 * i) (nI k) M = some (0, M') ∧ Fr (pBr i) M M' ∧ Xf w p M') ∨
    (∃ q' s M', rd3 T n q = .inr (q', s) ∧ sX7_readStones (38 + 2 * i) (nI k) M = some (1, M') ∧ Fr (fun id z => pXr id z ∨ Fw i (6 * k + 5) (6 * k + 6) id z) M M' ∧ Xs T n q' M' ∧ M'.1 (39 + 2 * i) (6 * k + 5) = nI s) := by
  have hq := x.2.2.2.2.2
  unfold sX7_readStones rd3
  have e5 : sX7_set (38 + 2 * i) (nI k) 5 0 M = some (sI M (39 + 2 * i) (6 * k + 5) 0) := x_set (j := 5) hi hk (by omega)
  rw [e5, Option.bind_some]
  have x1 : Xs T n q (sI M (39 + 2 * i) (6 * k + 5) 0) := Xs_sI x (by omega)
  have f1 : Fr (fun id z => pXr id z ∨ Fw i (6 * k + 5) (6 * k + 6) id z) M (sI M (39 + 2 * i) (6 * k + 5) 0) := Fr_sI (Fr_rf _ _) (Or.inr (by unfold Fw; omega))
  have fall : ∀ {X Y : Mm}, Fr (fun id z => pXr id z ∨ Fw i (6 * k + 5) (6 * k + 6) id z) X Y → Fr (pBr i) X Y := fun {X Y} f => Fr_mo f (fun id z q => by unfold pXr Fw at q; unfold pBr; omega)
  have ew : sX10_isWord 12 1 (sI M (39 + 2 * i) (6 * k + 5) 0) = some (b2 (wdR T n q 12 1), sI M (39 + 2 * i) (6 * k + 5) 0) := x_isW (f := 12) (c := 1) hq x1.1 (by omega)
  rw [ew, Option.bind_some]
  dsimp only
  cases hw : wdR T n q 12 1 with
  | false =>
    rw [if_pos b2f, if_pos rfl]
    exact Or.inr ⟨q, 0, _, rfl, rfl, f1, x1, by rw [rdS]; rfl⟩
  | true =>
    obtain ⟨B, e2, f2, x2⟩ := x_next x1
    rw [if_neg b2t0, if_neg (by decide), e2, Option.bind_some]
    have fB := Fr_tr f1 (Fr_mo (xs_r f2) (fun id k q => Or.inl q))
    rcases x_nto (m := 99) x2 (by omega) with ⟨c5, e5, v5, l5⟩ | ⟨c5, D, e5, f5, g5⟩
    · have e5' : sX10_isNumberTo 99 B = some (1, B) := e5
      have e6 : ∀ v, sX7_set (38 + 2 * i) (nI k) 5 v B = some (sI B (39 + 2 * i) (6 * k + 5) v) := fun v => x_set (j := 5) hi hk (by omega)
      rw [if_neg (fun z => z c5), e5', Option.bind_some]
      dsimp only
      rw [if_neg one_, v5, e6, Option.bind_some]
      have x5 : Xs T n (tE T n q) (sI B (39 + 2 * i) (6 * k + 5) (nI (tN T n (tE T n q)))) := Xs_sI x2 (by omega)
      obtain ⟨D, e7, f7, x7⟩ := x_next x5
      rw [e7, Option.bind_some]
      refine Or.inr ⟨_, _, D, rfl, rfl, Fr_tr fB (Fr_tr (Fr_sI (Fr_rf _ _) (Or.inr (by unfold Fw; omega))) (Fr_mo (xs_r f7) (fun id k q => Or.inl q))), x7, ?_⟩
      rw [(f7 _ _ (by unfold pXs; omega)).1, rdS]
    · have e5' : sX10_isNumberTo 99 B = some (0, D) := e5
      rw [if_pos c5, e5', Option.bind_some]
      dsimp only
      rw [if_pos rfl]
      exact Or.inl ⟨_, _, D, rfl, rfl, Fr_tr (fall fB) (br_r f5), g5⟩
