def pMx (z id k : Nat) : Prop := pMr id k ∨ id = 194 ∧ (k = 38 ∨ k = 50 ∨ k = 53 ∨ k = 55 ∨ k = 56 ∨ k = 57 ∨ k = 58) ∨ 213 ≤ id ∧ id ≤ 218 ∧ 96 + z ≤ k ∨ 219 ≤ id ∧ id ≤ 221
theorem mr_mx {z : Nat} {M M1 : Mm} (f : Fr pMr M M1) : Fr (pMx z) M M1 := Fr_mo f (fun _ _ q => Or.inl q)
theorem mt_mx {z : Nat} {M M1 : Mm} (f : Fr pMt M M1) : Fr (pMx z) M M1 := mr_mx (mt_r f)
theorem bd_mx {z : Nat} {M M1 : Mm} (f : Fr (pBd z) M M1) : Fr (pMx z) M M1 := Fr_mo f (fun id k q => by
  rcases q with q | q | q
  · exact Or.inr (Or.inl (by omega))
  · exact Or.inr (Or.inr (Or.inl (by omega)))
  · exact Or.inr (Or.inr (Or.inr (by omega))))
theorem bd_ms {T : Nat → Int32} {n q z : Nat} {M M1 : Mm} (x : Ms T n q M) (f : Fr (pBd z) M M1) : Ms T n q M1 := Ms_fr x f (fun id k p u => by
  rcases u with u | u | u <;> omega)
theorem Ms_s1 {T : Nat → Int32} {n q j : Nat} {v : Int32} {M : Mm} (x : Ms T n q M) (h : 25 ≤ j) : Ms T n q (sI M 194 j v) := Ms_fr x (P := fun id k => id = 194 ∧ k = j) (Fr_sI (Fr_rf _ _) ⟨rfl, rfl⟩) (fun id k p u => by omega)
def Yq (T : Nat → Int32) (n z q k b : Nat) (l v : Bool) (m : Mc) (M : Mm) : Prop := Ms T n q M ∧ M.1 194 38 = nI k ∧ M.1 194 56 = nI b ∧ M.1 194 57 = b2 l ∧ M.1 194 58 = b2 v ∧ Ym z m M ∧ Yi z k b m
theorem dW_m {z k : Nat} {O : List Nd} {e : Wt} : ∀ (W : List Wt), dW z k O W → e ∈ W → e.1 ≠ 100 → z ≤ e.2.1 ∧ e.2.1 < k ∧ ∀ d ∈ O, d.2.1 ≠ e.2.1 := by
  intro W
  induction W with
  | nil => intro _ h; cases h
  | cons e' W ih =>
    intro q h h1
    rcases List.mem_cons.mp h with rfl | h
    · rcases q.1 with p | ⟨p1, p2, p3, _⟩
      · exact absurd p h1
      · exact ⟨p1, p2, p3⟩
    · exact ih q.2 h h1
theorem dW_k {z k k' : Nat} {O : List Nd} (hk : k ≤ k') : ∀ (W : List Wt), dW z k O W → dW z k' O W := by
  intro W
  induction W with
  | nil => intro _; trivial
  | cons e W ih =>
    intro q
    refine ⟨?_, ih q.2⟩
    rcases q.1 with p | ⟨p1, p2, p3⟩
    · exact Or.inl p
    · exact Or.inr ⟨p1, by omega, p3⟩
/-- the memory of nodes k and on doesn't matter -/
theorem Ym_k {z k b : Nat} {m : Mc} {M M' : Mm} (i : Yi z k b m) (h : ∀ a j, a = 194 ∧ (j = 50 ∨ j = 53 ∨ j = 55) ∨ 218 ≤ a ∧ a ≤ 221 ∨ 213 ≤ a ∧ a ≤ 217 ∧ j < 96 + k → M'.1 a j = M.1 a j) (y : Ym z m M) : Ym z m M' := by
  obtain ⟨y1, y2, y3, y4, y5, y6⟩ := y
  refine ⟨(h _ _ (by omega)).trans y1, wW_g (L := m.1.length) (fun i _ => ⟨h _ _ (by omega), h _ _ (by omega)⟩) _ (Nat.le_refl _) (fun e he h1 a q => h _ _ ?_) y2, (h _ _ (by omega)).trans y3, hH_g (L := m.2.1.length) (fun i _ => h _ _ (by omega)) _ (Nat.le_refl _) y4, (h _ _ (by omega)).trans y5, oO_g (L := z + m.2.2.length) (fun j _ => h _ _ (by omega)) _ _ (Nat.le_refl _) (fun d hd a q => h _ _ ?_) y6⟩
  · have := dW_m _ i.1 he h1
    omega
  · have := i.2.1 d hd
    omega
theorem y_grow {T : Nat → Int32} {n q z k b : Nat} {x1 : Int32} {m : Mc} {M : Mm} (x : Ms T n q M) (hk : M.1 194 38 = nI k) (y : Ym z m M) (i : Yi z k b m) :
    (k < 96 ∧ ∃ M', sX12_grown x1 M = some (nI (96 + k), M') ∧ Fr (fun id j => id = 194 ∧ j = 38 ∨ 213 ≤ id ∧ id ≤ 217 ∧ j = 96 + k) M M' ∧ M'.1 194 38 = nI (k + 1) ∧ M'.1 213 (96 + k) = x1 ∧ M'.1 214 (96 + k) = 0 ∧ M'.1 215 (96 + k) = 0 ∧ Ym z m M' ∧ Ms T n q M') ∨
    (k = 96 ∧ ∃ M', sX12_grown x1 M = some (-1, M') ∧ Fr pMr M M' ∧ Mf 2 (tA T n q) M') := by
  have h96 := i.2.2.2.2.2.1
  unfold sX12_grown
  rw [hk]
  by_cases c : k < 96
  · have ib := inb_nI (show 96 + k < 192 by omega) (by decide)
    refine Or.inl ⟨c, ?_⟩
    rw [if_neg (show ¬ nI k = 96 from ne_nI (b := 96) (by omega) (by omega) (by omega)), show (96 : Int32) = nI 96 from rfl, nI_add, ckT ib, ckT ib, ckT ib, ckT ib, ckT ib, nI_clamp (show 96 + k < 2 ^ 31 by omega), nI_1]
    have f : Fr (fun id j => id = 194 ∧ j = 38 ∨ 213 ≤ id ∧ id ≤ 217 ∧ j = 96 + k) M (sI (sI (sI (sI (sI (sI M 194 38 (nI (k + 1))) 213 (96 + k) x1) 214 (96 + k) 0) 215 (96 + k) 0) 216 (96 + k) (-1)) 217 (96 + k) (-1)) := Fr_sI (Fr_sI (Fr_sI (Fr_sI (Fr_sI (Fr_sI (Fr_rf _ _) (by omega)) (by omega)) (by omega)) (by omega)) (by omega)) (by omega)
    refine ⟨_, rfl, f, ?_, ?_, ?_, ?_, Ym_k i (fun a j p => (f a j (by omega)).1) y, Ms_fr x f (fun id k p u => by omega)⟩
    · rw [rdN (by omega), rdN (by omega), rdN (by omega), rdN (by omega), rdN (by omega), rdS]
    · rw [rdN (by omega), rdN (by omega), rdN (by omega), rdN (by omega), rdS]
    · rw [rdN (by omega), rdN (by omega), rdN (by omega), rdS]
    · rw [rdN (by omega), rdN (by omega), rdS]
  · refine Or.inr ⟨by omega, ?_⟩
    obtain ⟨M', e, f, g⟩ := m_wr (w := 2) x
    have e' : sX12_wrong 2 M = some (0, M') := e
    rw [if_pos (show nI k = 96 by rw [show k = 96 by omega]; rfl), e', Option.bind_some]
    exact ⟨M', rfl, f, g⟩
theorem y_push {z w a : Nat} {c : Cd} {v : Int32} {W : List Wt} {H : List Nat} {O : List Nd} {M : Mm} (y : Ym z (W, H, O) M) (hl : W.length < 120) (hw : w ≤ 102) (hv : w = 100 ∨ v = nI (96 + a) ∧ M.1 213 (96 + a) = nI (mn c.1) ∧ M.1 214 (96 + a) = nI c.2.1 ∧ M.1 215 (96 + a) = nI c.2.2) : ∃ M', sX12_waitFor (nI w) v M = some M' ∧ Fr (fun id k => id = 194 ∧ k = 53 ∨ id = 219 ∨ id = 220) M M' ∧ Ym z ((w, a, c) :: W, H, O) M' := by
  obtain ⟨y1, y2, y3, y4, y5, y6⟩ := y
  dsimp only at y1 y2 y3 y4 y5 y6
  have ib := inb_nI hl (by decide)
  have cl : (nI W.length).toNatClampNeg = W.length := nI_clamp (by omega)
  unfold sX12_waitFor
  have r0 : ∀ u, (sI M 219 W.length u).1 194 53 = nI W.length := fun u => by rw [rdN (by omega)]; exact y1
  have r1 : ∀ u s, (sI (sI M 219 W.length u) 220 W.length s).1 194 53 = nI W.length := fun u s => by rw [rdN (by omega)]; exact r0 u
  rw [y1, ckT ib, cl, r0, ckT ib, cl, r1, nI_1]
  have f : Fr (fun id k => id = 194 ∧ k = 53 ∨ (id = 219 ∨ id = 220) ∧ k = W.length) M (sI (sI (sI M 219 W.length (nI w)) 220 W.length v) 194 53 (nI (W.length + 1))) := Fr_sI (Fr_sI (Fr_sI (Fr_rf _ _) (by omega)) (by omega)) (by omega)
  have r : ∀ a j, ¬ (a = 194 ∧ j = 53 ∨ (a = 219 ∨ a = 220) ∧ j = W.length) → (sI (sI (sI M 219 W.length (nI w)) 220 W.length v) 194 53 (nI (W.length + 1))).1 a j = M.1 a j := fun a j h => (f a j h).1
  refine ⟨_, rfl, Fr_mo f (fun id k q => by omega), by rw [rdS]; rfl, ⟨⟨hw, ?_, ?_⟩, wW_g (L := W.length) (fun i _ => ⟨r _ _ (by omega), r _ _ (by omega)⟩) _ (Nat.le_refl _) (fun e _ _ a q => r _ _ (by omega)) y2⟩, (r _ _ (by omega)).trans y3, hH_g (L := H.length) (fun i q => r _ _ (by omega)) _ (Nat.le_refl _) y4, (r _ _ (by omega)).trans y5, oO_g (L := z + O.length) (fun j _ => r _ _ (by omega)) _ _ (Nat.le_refl _) (fun d _ a q => r _ _ (by omega)) y6⟩
  · rw [rdN (by omega), rdN (by omega), rdS]
  · rcases hv with q | ⟨q1, q2, q3, q4⟩
    · exact Or.inl q
    · refine Or.inr ⟨?_, (r _ _ (by omega)).trans q2, (r _ _ (by omega)).trans q3, (r _ _ (by omega)).trans q4⟩
      rw [rdN (by omega), rdS, q1]
theorem yi_leaf {z k b : Nat} {d : Nd} {W : List Wt} {H : List Nat} {O : List Nd} (i : Yi z k b (W, H, O)) (hk : k < 96) (hd : d.2.1 = k) : Yi z (k + 1) b (W, k :: H, O ++ [d]) := by
  obtain ⟨i1, i2, i3, i4, i5, i6, i7⟩ := i
  dsimp only at i1 i2 i3 i4 i5
  refine ⟨dW_up W (fun e he => ?_) (dW_k (Nat.le_succ k) W i1), fun d' hd' => ?_, by dsimp only; omega, ?_, ?_, by omega, i7⟩
  · by_cases c : e.1 = 100
    · exact Or.inl c
    · exact Or.inr (by have := dW_m W i1 he c; omega)
  · rcases List.mem_append.mp hd' with v | v
    · have := i2 d' v; omega
    · rcases List.mem_singleton.mp v with rfl
      omega
  · dsimp only
    rw [List.length_cons, List.length_append, List.length_singleton]; omega
  · dsimp only
    rw [List.length_append, List.length_singleton]; omega
theorem yi_push {z k b b' w : Nat} {c : Cd} {W : List Wt} {H : List Nat} {O : List Nd} (i : Yi z k b (W, H, O)) (hk : k < 96) (hw : w ≠ 100) (hb : b ≤ b') (hb' : b' ≤ 8) (hc : w = 13 ∨ w = 14 ∨ c.1 ≠ 14 ∧ c.1 ≠ 15) : Yi z (k + 1) b' ((w, k, c) :: W, H, O) := by
  obtain ⟨i1, i2, i3, i4, i5, i6, i7⟩ := i
  dsimp only at i1 i2 i3 i4 i5
  refine ⟨⟨Or.inr ⟨by dsimp only; omega, Nat.lt_succ_self k, fun d hd => ?_, fun e he => ?_, hc⟩, dW_k (Nat.le_succ k) W i1⟩, fun d hd => ?_, ?_, i4, ?_, by omega, hb'⟩
  · have := i2 d hd; dsimp only; omega
  · by_cases u : e.1 = 100
    · exact Or.inl u
    · exact Or.inr (by have := dW_m W i1 he u; dsimp only; omega)
  · have := i2 d hd; omega
  · dsimp only; rw [List.length_cons]; omega
  · dsimp only; rw [nW, if_neg hw]; omega
theorem yi_op {z k b : Nat} {a : Nat} {c : Cd} {W : List Wt} {H : List Nat} {O : List Nd} (i : Yi z k b (W, H, O)) (hb : b < 8) : Yi z k (b + 1) ((100, a, c) :: W, H, O) := by
  obtain ⟨i1, i2, i3, i4, i5, i6, i7⟩ := i
  dsimp only at i1 i2 i3 i4 i5
  exact ⟨⟨Or.inl rfl, i1⟩, i2, by dsimp only; rw [List.length_cons]; omega, i4, by dsimp only; rw [nW, if_pos rfl]; omega, i6, by omega⟩
/-- signs of comparison, as the model sees them -/
theorem m_sg {T : Nat → Int32} {n q : Nat} {M : Mm} (x : Ms T n q M) : (sgT T n q ≠ 0 ∧ M.1 194 21 = 4 ∧ M.1 194 22 = nI (sgT T n q)) ∨ (sgT T n q = 0 ∧ ¬ (M.1 194 21 = 4 ∧ M.1 194 22 ≤ 5)) := by
  obtain ⟨⟨x1, x2, x3, x4, x5, x6⟩, y, w, u, v, hq, hb⟩ := x
  have h4 := tS_lt T n q
  have no : tS T n q ≠ 3 → sgT T n q = 0 := fun h => by
    have g : ∀ c, sgB T n q c = true → False := fun c hc => h (sg_s hc)
    unfold sgT
    rw [if_neg (fun z => g _ z), if_neg (fun z => g _ z), if_neg (fun z => g _ z), if_neg (fun z => g _ z), if_neg (fun z => g _ z)]
  rw [x5]
  by_cases h3 : tS T n q = 3
  · rw [x6 (by omega)]
    have sb : ∀ c, sgB T n q c = decide (xV T n q = nI c) := fun c => by unfold sgB; rw [decide_eq_true h3, Bool.true_and]
    unfold sgT
    rw [sb, sb, sb, sb, sb]
    simp only [decide_eq_true_eq]
    rcases tS_3 hb h3 with ⟨k1, k2, k3⟩ | ⟨k1, k2⟩
    · refine Or.inr ⟨?_, fun z => by rw [k1] at z; exact absurd z.1 (by decide)⟩
      rw [if_neg (show ¬ xV T n q = nI 60 from fun z => k3 (Or.inl z)), if_neg (show ¬ xV T n q = nI 61 from fun z => k3 (Or.inr (Or.inl z))), if_neg (show ¬ xV T n q = nI 62 from fun z => k3 (Or.inr (Or.inr (Or.inl z)))), if_neg (show ¬ xV T n q = nI 316 from fun z => k3 (Or.inr (Or.inr (Or.inr (Or.inl z))))), if_neg (show ¬ xV T n q = nI 318 from fun z => k3 (Or.inr (Or.inr (Or.inr (Or.inr z)))))]
    · rw [k1]
      rcases k2 with ⟨a, b⟩ | ⟨a, b⟩ | ⟨a, b⟩ | ⟨a, b⟩ | ⟨a, b⟩ | ⟨a, b⟩
      · rw [a, b]; exact Or.inl ⟨by decide, rfl, by decide⟩
      · rw [a, b]; exact Or.inl ⟨by decide, rfl, by decide⟩
      · rw [a, b]; exact Or.inl ⟨by decide, rfl, by decide⟩
      · rw [a, b]; exact Or.inl ⟨by decide, rfl, by decide⟩
      · rw [a, b]; exact Or.inl ⟨by decide, rfl, by decide⟩
      · rw [a]
        rcases b with b | b | b | b | b <;> (rw [b]; exact Or.inr ⟨by decide, fun z => absurd z.2 (by decide)⟩)
  · refine Or.inr ⟨no h3, fun z => ?_⟩
    by_cases h0 : tS T n q = 0
    · rw [tS_0 h0] at z; exact absurd z.1 (by decide)
    by_cases h1 : tS T n q = 1
    · rw [(tS_1 hq h1).2.1] at z; exact absurd z.1 (by decide)
    rcases tS_2 hq (show tS T n q = 2 by omega) with ⟨-, k, -⟩ | ⟨-, k, -, -⟩ | ⟨i, hi, -, k, -, -⟩ <;> (rw [k] at z; exact absurd z.1 (by decide))
def pSg (a id k : Nat) : Prop := pMr id k ∨ (id = 214 ∨ id = 215) ∧ k = 96 + a
theorem y_cmp {T : Nat → Int32} {n q a : Nat} {M : Mm} (x : Ms T n q M) (ha : a < 96) :
    (∃ w p M', rdC T n q = .inl (w, p) ∧ sX12_compares (nI (96 + a)) M = some (0, M') ∧ Fr (pSg a) M M' ∧ Mf w p M') ∨
    (∃ c M', rdC T n q = .inr c ∧ sX12_compares (nI (96 + a)) M = some (1, M') ∧ Fr (pSg a) M M' ∧ Ms T n c.1 M' ∧ M'.1 214 (96 + a) = nI c.2.1 ∧ M'.1 215 (96 + a) = nI c.2.2) := by
  have ib := inb_nI (show 96 + a < 192 by omega) (by decide)
  have cl : (nI (96 + a)).toNatClampNeg = 96 + a := nI_clamp (by omega)
  have one : ¬ (1 : Int32) = 0 := by decide
  unfold rdC sX12_compares
  rcases m_sg x with ⟨s1, s2, s3⟩ | ⟨s1, s2⟩
  · have h5 := sgT_5 T n q
    rw [if_neg s1, if_pos s2, s3, if_pos (show nI (sgT T n q) ≤ 5 from nI_le (b := 5) h5 (by omega)), ckT ib, cl]
    obtain ⟨A, e1, f1, x1⟩ := m_next (Ms_sI (a := 214) (j := 96 + a) (v := nI (sgT T n q)) x (by omega))
    rw [e1, Option.bind_some]
    have f0 : Fr (pSg a) M A := Fr_tr (Fr_sI (Fr_rf _ _) (Or.inr ⟨Or.inl rfl, rfl⟩)) (Fr_mo (mt_r f1) (fun _ _ p => Or.inl p))
    have g4 : A.1 214 (96 + a) = nI (sgT T n q) := by rw [(f1 _ _ (by unfold pMt; omega)).1, rdS]
    rcases m_num_ (m := 999) x1 (by omega) with ⟨c1, l1, B, e2, f2, g2, x2⟩ | ⟨c1, B, e2, f2, g2⟩
    · have e2' : sX12_number 999 A = some (1, B) := e2
      rw [if_neg (fun z => z c1), e2', Option.bind_some]
      dsimp only
      rw [if_neg one, ckT ib, g2]
      refine Or.inr ⟨_, _, rfl, rfl, Fr_sI (Fr_tr f0 (Fr_mo f2 (fun _ _ p => Or.inl p))) (Or.inr ⟨Or.inr rfl, rfl⟩), Ms_sI x2 (by omega), ?_, rdS _ _ _ _⟩
      rw [rdN (by omega), (f2 _ _ (by unfold pMr; omega)).1, g4]
    · have e2' : sX12_number 999 A = some (0, B) := e2
      rw [if_pos c1, e2', Option.bind_some]
      dsimp only
      rw [if_pos rfl]
      exact Or.inl ⟨_, _, B, rfl, rfl, Fr_tr f0 (Fr_mo f2 (fun _ _ p => Or.inl p)), g2⟩
  · obtain ⟨A, e1, f1, g1⟩ := m_wr (w := 1) x
    have e1' : sX12_wrong 1 M = some (0, A) := e1
    have e16 : sX12_compares_16 M = some (0, A) := by
      unfold sX12_compares_16
      rw [e1', Option.bind_some, ckT i0_]
    rw [if_pos s1]
    refine Or.inl ⟨1, tA T n q, A, rfl, ?_, Fr_mo f1 (fun _ _ p => Or.inl p), g1⟩
    by_cases c1 : M.1 194 21 = 4
    · rw [if_pos c1, if_neg (fun z => s2 ⟨c1, z⟩), e16]
    · rw [if_neg c1, e16]
