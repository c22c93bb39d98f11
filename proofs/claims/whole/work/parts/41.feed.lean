def bt (x s : Int32) : Int32 := (x >>> s) &&& 255
/-- from place t on the cells of id hold bs, before it what was there -/
def PB (id : Nat) (bs : List Int32) (t : Nat) (M M1 : Mm) : Prop := (∀ j, j < t → M1.1 id j = M.1 id j) ∧ ∀ k, k < bs.length → M1.1 id (t + k) = bs.getD k 0
theorem PB_0 (id t : Nat) (M : Mm) : PB id [] t M M := ⟨fun _ _ => rfl, fun k h => absurd h (Nat.not_lt_zero k)⟩
theorem PB_ext {id : Nat} {bs : List Int32} {t t1 : Nat} {M M1 : Mm} {b : Int32} (h : PB id bs t M M1) (ht : t1 = t + bs.length) : PB id (bs ++ [b]) t M (sI M1 id t1 b) := by
  subst ht
  refine ⟨fun j hj => by rw [rdN (by omega)]; exact h.1 j hj, fun k hk => ?_⟩
  rw [List.length_append, List.length_singleton] at hk
  by_cases e : k = bs.length
  · subst e
    rw [rdS, List.getD_eq_getElem?_getD, List.getElem?_append_right (Nat.le_refl _)]
    simp
  · rw [rdN (by omega), h.2 k (by omega), List.getD_eq_getElem?_getD, List.getD_eq_getElem?_getD, List.getElem?_append_left (by omega)]
theorem PB_skip {id a j : Nat} {bs : List Int32} {t : Nat} {M M1 : Mm} {v : Int32} (h : PB id bs t M M1) (ha : id ≠ a) : PB id bs t M (sI M1 a j v) :=
  ⟨fun i hi => by rw [rdN (fun q => ha q.1)]; exact h.1 i hi, fun k hk => by rw [rdN (fun q => ha q.1)]; exact h.2 k hk⟩
def pFd (id k : Nat) : Prop := id = 2 ∨ id = 1 ∧ k = 1
theorem lit_nle {t : Nat} {n : Nat} {v : Int32} (hv : v = nI n) (h : t < n) (hn : n < 2 ^ 31) : ¬ v ≤ nI t := by
  rw [hv, nI_leI hn (by omega)]
  omega
theorem pb_step {F : Nat} {x s : Int32} {M : Mm} {t : Nat} (hs : ¬ s < 0) (h1 : M.1 1 1 = nI t) (ht : t < 800) : sX11_putBytes_3 (F + 1) x s M = sX11_putBytes_3 F x (s + (-8)) (sI (sI M 2 t (bt x (s &&& 31))) 1 1 (nI (t + 1))) := by
  rw [sX11_putBytes_3, if_neg hs, h1, if_neg (lit_nle (v := 800) (n := 800) rfl ht (by decide)), ckT (inb_nI ht (by decide)), nI_clamp (by omega), rdN (by omega), h1, nI_1]
  rfl
theorem pb_end {F : Nat} {x s : Int32} {M : Mm} (hs : s < 0) : sX11_putBytes_3 (F + 1) x s M = some M := by
  rw [sX11_putBytes_3, if_pos hs]
/-- four bytes of x behind bs -/
theorem pb_all {x : Int32} {M M1 : Mm} {t u : Nat} {bs : List Int32} (h : PB 2 bs t M M1) (hf : Fr pFd M M1) (h1 : M1.1 1 1 = nI u) (hu : u = t + bs.length) (ht : u + 4 ≤ 800) :
    ∃ M2, sX11_putBytes x M1 = some M2 ∧ PB 2 (bs ++ [bt x 24] ++ [bt x 16] ++ [bt x 8] ++ [bt x 0]) t M M2 ∧ Fr pFd M M2 ∧ M2.1 1 1 = nI (u + 4) := by
  have e := (pb_step (F := 4095) (x := x) (s := 24) (t := u) (by decide) h1 (by omega)).trans ((pb_step (t := u + 1) (by decide) (rdS _ _ _ _) (by omega)).trans ((pb_step (t := u + 2) (by decide) (rdS _ _ _ _) (by omega)).trans ((pb_step (t := u + 3) (by decide) (rdS _ _ _ _) (by omega)).trans (pb_end (by decide)))))
  refine ⟨_, e, ?_, ?_, rdS _ _ _ _⟩
  · exact PB_skip (PB_ext (PB_skip (PB_ext (PB_skip (PB_ext (PB_skip (PB_ext h hu) (by decide)) (by simp; omega)) (by decide)) (by simp; omega)) (by decide)) (by simp; omega)) (by decide)
  · exact Fr_sI (Fr_sI (Fr_sI (Fr_sI (Fr_sI (Fr_sI (Fr_sI (Fr_sI hf (Or.inl rfl)) (Or.inr ⟨rfl, rfl⟩)) (Or.inl rfl)) (Or.inr ⟨rfl, rfl⟩)) (Or.inl rfl)) (Or.inr ⟨rfl, rfl⟩)) (Or.inl rfl)) (Or.inr ⟨rfl, rfl⟩)
def fdl (x1 x2 x3 x4 x5 : Int32) : List Int32 := [bt x1 24, bt x1 16, bt x1 8, bt x1 0, bt x2 24, bt x2 16, bt x2 8, bt x2 0, bt x3 24, bt x3 16, bt x3 8, bt x3 0, bt x4 24, bt x4 16, bt x4 8, bt x4 0, bt x5 24, bt x5 16, bt x5 8, bt x5 0]
theorem lit_le {a n : Nat} {v : Int32} (hv : v = nI n) (h : a ≤ n) (hn : n < 2 ^ 31) : nI a ≤ v := by
  rw [hv]
  exact nI_le h hn
theorem nI_ad {t : Nat} {k : Int32} (n : Nat) (h : k = nI n) : nI t + k = nI (t + n) := by rw [h, nI_add]
theorem fx_eq {x1 x2 x3 x4 x5 : Int32} {M : Mm} {t : Nat} (h1 : M.1 1 1 = nI t) (ht : t + 20 ≤ 800) : ∃ M2, sX11_feed x1 x2 x3 x4 x5 M = some (nI (t + 20), M2) ∧ PB 2 (fdl x1 x2 x3 x4 x5) t M M2 ∧ Fr pFd M M2 ∧ M2.1 1 1 = nI (t + 20) := by
  obtain ⟨A1, e1, p1, f1, g1⟩ := pb_all (x := x1) (PB_0 2 t M) (Fr_rf _ _) h1 (by simp) (by omega)
  obtain ⟨A2, e2, p2, f2, g2⟩ := pb_all (x := x2) p1 f1 g1 (by simp) (by omega)
  obtain ⟨A3, e3, p3, f3, g3⟩ := pb_all (x := x3) p2 f2 g2 (by simp) (by omega)
  obtain ⟨A4, e4, p4, f4, g4⟩ := pb_all (x := x4) p3 f3 g3 (by simp) (by omega)
  obtain ⟨A5, e5, p5, f5, g5⟩ := pb_all (x := x5) p4 f4 g4 (by simp) (by omega)
  have g6 : A5.1 1 1 = nI (t + 20) := by rw [g5]
  have p6 : PB 2 (fdl x1 x2 x3 x4 x5) t M A5 := by
    simp only [List.nil_append, List.cons_append] at p5
    exact p5
  have hc : M.1 1 1 + 20 ≤ 800 := by
    rw [h1, nI_ad 20 (by decide)]
    exact lit_le (n := 800) (by decide) ht (by decide)
  refine ⟨A5, ?_, p6, f5, g6⟩
  unfold sX11_feed
  rw [if_pos hc, e1, Option.bind_some, e2, Option.bind_some, e3, Option.bind_some, e4, Option.bind_some, e5, Option.bind_some, g6]
theorem fx_no {x1 x2 x3 x4 x5 : Int32} {M : Mm} {t : Nat} (h1 : M.1 1 1 = nI t) (h0 : t ≤ 800) (ht : ¬ t + 20 ≤ 800) : sX11_feed x1 x2 x3 x4 x5 M = some (-1, M) := by
  have hc : ¬ M.1 1 1 + 20 ≤ 800 := by
    rw [h1, nI_ad 20 (by decide), show (800 : Int32) = nI 800 by decide, nI_leI (by omega) (by decide)]
    exact ht
  unfold sX11_feed
  rw [if_neg hc]
def pMd (id k : Nat) : Prop := id = 195 ∨ id = 194 ∧ (k = 1 ∨ k = 2)
theorem mf_bt (x1 x2 x3 x4 x5 : Int32) : ∀ i, i < 20 → (((if 4 ≤ nI i then (if 8 ≤ nI i then (if 12 ≤ nI i then (if 16 ≤ nI i then x5 else x4) else x3) else x2) else x1) >>> ((24 - (8 * (nI i - nI i / 4 * 4))) &&& 31)) &&& 255) = (fdl x1 x2 x3 x4 x5).getD i 0 := by
  intro i hi
  match i, hi with
  | 0, _ => rfl
  | 1, _ => rfl
  | 2, _ => rfl
  | 3, _ => rfl
  | 4, _ => rfl
  | 5, _ => rfl
  | 6, _ => rfl
  | 7, _ => rfl
  | 8, _ => rfl
  | 9, _ => rfl
  | 10, _ => rfl
  | 11, _ => rfl
  | 12, _ => rfl
  | 13, _ => rfl
  | 14, _ => rfl
  | 15, _ => rfl
  | 16, _ => rfl
  | 17, _ => rfl
  | 18, _ => rfl
  | 19, _ => rfl
  | i + 20, h => omega
theorem mf_go {x1 x2 x3 x4 x5 : Int32} {M : Mm} {t : Nat} (ht : t + 20 ≤ 800) : ∀ (d i F : Nat) (M1 : Mm), d + i = 20 → d < F → PB 195 ((fdl x1 x2 x3 x4 x5).take i) t M M1 → M1.1 194 1 = nI t → Fr pMd M M1 →
    ∃ M2, sX12_feed_23 F x1 x2 x3 x4 x5 (nI i) M1 = some (nI (t + 20), M2) ∧ PB 195 (fdl x1 x2 x3 x4 x5) t M M2 ∧ M2.1 194 1 = nI (t + 20) ∧ Fr pMd M M2 := by
  intro d
  induction d with
  | zero =>
    intro i F M1 hi hF hp h1 hf
    obtain ⟨F, rfl⟩ : ∃ G, F = G + 1 := ⟨F - 1, by omega⟩
    have hi : i = 20 := by omega
    subst hi
    refine ⟨sI M1 194 1 (nI (t + 20)), ?_, PB_skip (a := 194) hp (by decide), rdS _ _ _ _, Fr_sI hf (Or.inr ⟨rfl, Or.inl rfl⟩)⟩
    rw [sX12_feed_23, if_pos (show (20 : Int32) ≤ nI 20 by decide), h1, nI_ad 20 (by decide), rdS]
  | succ d ih =>
    intro i F M1 hi hF hp h1 hf
    obtain ⟨F, rfl⟩ : ∃ G, F = G + 1 := ⟨F - 1, by omega⟩
    have hlen : (fdl x1 x2 x3 x4 x5).length = 20 := rfl
    have hb := mf_bt x1 x2 x3 x4 x5 i (by omega)
    obtain ⟨M2, e2, p2, g2, f2⟩ := ih (i + 1) F (sI M1 195 (t + i) ((fdl x1 x2 x3 x4 x5).getD i 0)) (by omega) (by omega) (by
      have h9 := PB_ext (b := (fdl x1 x2 x3 x4 x5).getD i 0) (t1 := t + i) hp (by rw [List.length_take, hlen, Nat.min_eq_left (by omega)])
      rw [List.take_add_one, List.getD_eq_getElem?_getD] at *
      rw [List.getElem?_eq_getElem (by rw [hlen]; omega)] at *
      exact h9) (by rw [rdN (by omega)]; exact h1) (Fr_sI hf (Or.inl rfl))
    refine ⟨M2, ?_, p2, g2, f2⟩
    rw [sX12_feed_23, if_neg (lit_nle (v := 20) (n := 20) (by decide) (by omega) (by decide))]
    unfold sX12_feed_76
    rw [hb, h1, nI_add, ckT (inb_nI (by omega) (by decide)), nI_clamp (by omega), nI_1]
    exact e2
theorem mf_eq {x1 x2 x3 x4 x5 : Int32} {M : Mm} {t : Nat} (h1 : M.1 194 1 = nI t) (ht : t + 20 ≤ 800) : ∃ M2, sX12_feed x1 x2 x3 x4 x5 M = some (nI (t + 20), M2) ∧ PB 195 (fdl x1 x2 x3 x4 x5) t M M2 ∧ M2.1 194 1 = nI (t + 20) ∧ Fr pMd M M2 := by
  have h2 : (sI M 194 2 0).1 194 1 = nI t := by rw [rdN (by omega)]; exact h1
  obtain ⟨M2, e, p, g, f⟩ := mf_go (x1 := x1) (x2 := x2) (x3 := x3) (x4 := x4) (x5 := x5) (M := M) ht 20 0 4096 (sI M 194 2 0) rfl (by decide) (PB_skip (PB_0 195 t M) (by decide)) h2 (Fr_sI (Fr_rf _ _) (Or.inr ⟨rfl, Or.inr rfl⟩))
  refine ⟨M2, ?_, p, g, f⟩
  have hc : (sI M 194 2 0).1 194 1 + 20 ≤ 800 := by
    rw [h2, nI_ad 20 (by decide)]
    exact lit_le (n := 800) (by decide) ht (by decide)
  unfold sX12_feed
  rw [if_pos hc]
  exact e
theorem mf_no {x1 x2 x3 x4 x5 : Int32} {M : Mm} {t : Nat} (h1 : M.1 194 1 = nI t) (h0 : t ≤ 800) (ht : ¬ t + 20 ≤ 800) : sX12_feed x1 x2 x3 x4 x5 M = some (-1, sI M 194 2 0) := by
  have hc : ¬ (sI M 194 2 0).1 194 1 + 20 ≤ 800 := by
    rw [rdN (by omega), h1, nI_ad 20 (by decide), show (800 : Int32) = nI 800 by decide, nI_leI (by omega) (by decide)]
    exact ht
  unfold sX12_feed
  rw [if_neg hc]
/-- the two tapes -/
def iTape (M : Mm) : Prop := ∃ t : Nat, t ≤ 800 ∧ M.1 1 1 = nI t ∧ M.1 194 1 = nI t ∧ ∀ k, k < t → M.1 2 k = M.1 195 k
def rTape (id k : Nat) : Prop := id = 2 ∨ id = 195 ∨ id = 1 ∧ k = 1 ∨ id = 194 ∧ k = 1
theorem iTape_fr {P : Nat → Nat → Prop} {M M1 : Mm} (h : iTape M) (hf : Fr P M M1) (hP : ∀ id k, rTape id k → ¬ P id k) : iTape M1 := by
  obtain ⟨t, h0, h1, h2, h3⟩ := h
  refine ⟨t, h0, ?_, ?_, fun k hk => ?_⟩
  · rw [(hf 1 1 (hP _ _ (Or.inr (Or.inr (Or.inl ⟨rfl, rfl⟩))))).1]; exact h1
  · rw [(hf 194 1 (hP _ _ (Or.inr (Or.inr (Or.inr ⟨rfl, rfl⟩))))).1]; exact h2
  · rw [(hf 2 k (hP _ _ (Or.inl rfl))).1, (hf 195 k (hP _ _ (Or.inr (Or.inl rfl)))).1]; exact h3 k hk
def pFeed (id k : Nat) : Prop := id = 2 ∨ id = 195 ∨ id = 1 ∧ k = 1 ∨ id = 194 ∧ (k = 1 ∨ k = 2)
theorem step_feed {kq : Nat × Nat} {M : Mm} (a1 a2 a3 a4 a5 a6 : Int32) (h : iTape M) : ∃ M1, st_feed kq a1 a2 a3 a4 a5 a6 M = some (kq, M1) ∧ iTape M1 ∧ Fr pFeed M M1 := by
  obtain ⟨t, h0, h1, h2, h3⟩ := h
  unfold st_feed
  by_cases ht : t + 20 ≤ 800
  · obtain ⟨A, eA, pA, fA, gA⟩ := fx_eq (x1 := a1) (x2 := a2) (x3 := a3) (x4 := a4) (x5 := a5) h1 ht
    obtain ⟨B, eB, pB, gB, fB⟩ := mf_eq (x1 := a1) (x2 := a2) (x3 := a3) (x4 := a4) (x5 := a5) (M := A) (t := t) (by rw [(fA 194 1 (by unfold pFd; omega)).1]; exact h2) ht
    refine ⟨B, ?_, ⟨t + 20, ht, ?_, gB, fun k hk => ?_⟩, ?_⟩
    · rw [eA, Option.bind_some, eB, Option.bind_some, if_pos rfl]
    · rw [(fB 1 1 (by unfold pMd; omega)).1]; exact gA
    · rw [(fB 2 k (by unfold pMd; omega)).1]
      rcases Nat.lt_or_ge k t with q | q
      · rw [pA.1 k q, pB.1 k q, (fA 195 k (by unfold pFd; omega)).1]
        exact h3 k q
      · have e9 : k = t + (k - t) := by omega
        rw [e9, pA.2 (k - t) (by show k - t < 20; omega), pB.2 (k - t) (by show k - t < 20; omega)]
    · exact Fr_tr (Fr_mo fA (fun id k q => by unfold pFd at q; unfold pFeed; omega)) (Fr_mo fB (fun id k q => by unfold pMd at q; unfold pFeed; omega))
  · refine ⟨sI M 194 2 0, ?_, ⟨t, h0, by rw [rdN (by omega)]; exact h1, by rw [rdN (by omega)]; exact h2, fun k hk => by rw [rdN (by omega), rdN (by omega)]; exact h3 k hk⟩, Fr_sI (Fr_rf _ _) (by unfold pFeed; omega)⟩
    rw [fx_no h1 h0 ht, Option.bind_some, mf_no h2 h0 ht, Option.bind_some, if_pos rfl]
