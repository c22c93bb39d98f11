theorem isb_b2 (b : Bool) : isb (b2 b) = true := by cases b <;> decide
def sOk (c : Cd) : Prop := (c.1 = 12 ∨ c.1 = 13 ∨ c.1 = 21 ∨ c.1 = 22 ∨ c.1 = 23) → 1 ≤ c.2.1
theorem x_isSo {r p i m k : Nat} {c : Cd} {D : Nat → Nat → Nat} {M : Mm} (hp : p < 96) (hc : xC_ r p c M) (hs : sOk c) (hb : xB_ i m D M) (hl : lyOk m D) (hk : k < m) (h13 : c.1 ≤ 13) : sX4_isSo r (38 + 2 * i) (nI k) (nI p) M = some (b2 (lfV c D k), M) := by
  have ib := inb_nI hp (by decide)
  have hm := hl.2.1
  obtain ⟨l1, l2, l3⟩ := hl.2.2.2.1 k hk
  have cw := hc.1
  unfold sX4_isSo lfV
  rw [ckT ib, nI_clamp (by omega), cw]
  by_cases c11 : c.1 = 11
  · have e4 : sX7_get (38 + 2 * i) (nI k) 4 M = some (nI (D k 4), M) := x_get (j := 4) hb hm hk (by omega)
    have h4 := l3 4 (by omega)
    rw [if_pos (show nI c.1 = 11 by rw [c11]; rfl), if_neg (by omega), if_neg (by omega), if_pos c11, e4, Option.bind_some]
    dsimp only
    by_cases z : D k 4 = 1
    · rw [if_pos (show nI (D k 4) = 1 by rw [z]; rfl), decide_eq_true z]; rfl
    · rw [if_neg (show ¬ nI (D k 4) = 1 from ne_nI (b := 1) z (by omega) (by omega)), decide_eq_false z]; rfl
  rw [if_neg (show ¬ nI c.1 = 11 from ne_nI (b := 11) c11 (by omega) (by omega))]
  by_cases c12 : c.1 = 12
  · have e5 : sX7_get (38 + 2 * i) (nI k) 5 M = some (nI (D k 5), M) := x_get (j := 5) hb hm hk (by omega)
    have h5 := l3 5 (by omega)
    rw [if_pos (show nI c.1 = 12 by rw [c12]; rfl), if_neg (by omega), if_neg (by omega), if_neg c11, if_pos c12, e5, Option.bind_some]
    dsimp only
    rw [x_cmp hp hc (hs (Or.inl c12)) (by omega), Option.bind_some, ckT (isb_b2 _)]
  rw [if_neg (show ¬ nI c.1 = 12 from ne_nI (b := 12) c12 (by omega) (by omega))]
  by_cases c13 : c.1 = 13
  · have e1 : sX7_get (38 + 2 * i) (nI k) 1 M = some (nI (D k 1), M) := x_get (j := 1) hb hm hk (by omega)
    have e0 : sX7_get (38 + 2 * i) (nI k) 0 M = some (nI (D k 0), M) := x_get (j := 0) hb hm hk (by omega)
    rw [if_pos (show nI c.1 = 13 by rw [c13]; rfl), if_neg (by omega), if_neg (by omega), if_neg c11, if_neg c12, e1, Option.bind_some]
    dsimp only
    rw [e0, Option.bind_some]
    dsimp only
    rw [nI_sb (by omega), x_cmp hp hc (hs (Or.inr (Or.inl c13))) (by omega), Option.bind_some, ckT (isb_b2 _)]
  rw [if_neg (show ¬ nI c.1 = 13 from ne_nI (b := 13) c13 (by omega) (by omega)), ckT ib]
  by_cases c5 : c.1 ≤ 5
  · have e2 : sX7_get (38 + 2 * i) (nI k) 2 M = some (nI (D k 2), M) := x_get (j := 2) hb hm hk (by omega)
    have h2 := l3 2 (by omega)
    rw [if_neg (show ¬ (6 : Int32) ≤ nI c.1 from nle_nI (a := 6) (by omega) (by omega)), if_pos c5, e2, Option.bind_some, ckT ib]
    dsimp only
    rw [cw, show nI c.1 - 0 = nI c.1 from nI_sb (b := 0) (Nat.zero_le _)]
    by_cases z : D k 2 = c.1
    · rw [if_pos (by rw [z]), decide_eq_true z]; rfl
    · rw [if_neg (ne_nI z (by omega) (by omega)), decide_eq_false z]; rfl
  · have e3 : sX7_get (38 + 2 * i) (nI k) 3 M = some (nI (D k 3), M) := x_get (j := 3) hb hm hk (by omega)
    have h3 := l3 3 (by omega)
    rw [if_pos (show (6 : Int32) ≤ nI c.1 from nI_le (a := 6) (by omega) (by omega)), if_neg c5, if_pos (by omega), e3, Option.bind_some, ckT ib]
    dsimp only
    rw [cw, show nI c.1 - 6 = nI (c.1 - 6) from nI_sb (b := 6) (by omega)]
    by_cases z : D k 3 = c.1 - 6
    · rw [if_pos (by rw [z]), decide_eq_true z]; rfl
    · rw [if_neg (ne_nI z (by omega) (by omega)), decide_eq_false z]; rfl
theorem x_all {i m : Nat} {D : Nat → Nat → Nat} {M : Mm} (hb : xB_ i m D M) (hm : m ≤ 8) : sX7_allLayers (38 + 2 * i) M = some (nI (2 ^ m - 1), M) := by
  unfold sX7_allLayers
  rw [hb.1, sh_all m (by omega)]
theorem msk_c (b : Bool) (m : Nat) : msk (fun _ => b) m = if b = true then 2 ^ m - 1 else 0 := by
  cases b
  · rw [msk_no]; rfl
  · have := msk_all m
    rw [if_pos rfl]; omega
theorem x_dep {i m : Nat} {D : Nat → Nat → Nat} {M : Mm} (hb : xB_ i m D M) (hl : lyOk m D) : sX7_depth (38 + 2 * i) M = some (nI (D (m - 1) 1), M) := by
  have h1 := hl.1
  have hm := hl.2.1
  have e1 : sX7_get (38 + 2 * i) (nI (m - 1)) 1 M = some (nI (D (m - 1) 1), M) := x_get (j := 1) hb hm (by omega) (by omega)
  unfold sX7_depth
  rw [hb.1, if_neg (show ¬ nI m ≤ 0 from nle_nI (b := 0) (by omega) (by omega)), show nI m - 1 = nI (m - 1) from nI_sb (b := 1) h1, e1, Option.bind_some]
theorem x_leaf {r p i m : Nat} {c : Cd} {D : Nat → Nat → Nat} {M : Mm} (hp : p < 96) (hc : xC_ r p c M) (hs : sOk c) (hb : xB_ i m D M) (hl : lyOk m D) (hw : c.1 ≤ 13 ∨ c.1 = 17 ∨ c.1 = 23) : sX4_leaf r (38 + 2 * i) (nI p) M = some (nI (msk (if c.1 ≤ 13 then lfV c D else if c.1 = 17 then fun _ => true else fun _ => cmpN c.2.1 (D (m - 1) 1) c.2.2) m), M) := by
  have ib := inb_nI hp (by decide)
  have hm := hl.2.1
  have h24 := hc.2.2.2.1
  unfold sX4_leaf
  rw [x_all hb hm, Option.bind_some, ckT ib]
  dsimp only
  rw [nI_clamp (by omega), hc.1]
  by_cases c17 : c.1 = 17
  · rw [if_pos (show nI c.1 = 17 by rw [c17]; rfl), if_neg (by omega), if_pos c17, msk_c, if_pos rfl]
  rw [if_neg (show ¬ nI c.1 = 17 from ne_nI (b := 17) c17 (by omega) (by omega)), ckT ib]
  by_cases c23 : c.1 = 23
  · have l3 := (hl.2.2.2.1 (m - 1) (by have := hl.1; omega)).2.1
    rw [if_pos (show nI c.1 = 23 by rw [c23]; rfl), if_neg (by omega), if_neg c17, x_dep hb hl, Option.bind_some]
    dsimp only
    rw [x_cmp hp hc (hs (by omega)) (by omega), Option.bind_some, msk_c]
    cases cmpN c.2.1 (D (m - 1) 1) c.2.2 <;> rfl
  rw [if_neg (show ¬ nI c.1 = 23 from ne_nI (b := 23) c23 (by omega) (by omega)), if_pos (show c.1 ≤ 13 by omega)]
  obtain ⟨a, M', e, f1, f2⟩ := lp_A (f := fun F a j M => sX4_leaf_53 r (38 + 2 * i) F (nI p) a j M) (n := m) (I := fun j a M' => M' = M ∧ a = nI (msk (lfV c D) j)) (fun F j a M1 hj hI => by
    obtain ⟨rfl, rfl⟩ := hI
    refine ⟨nI (msk (lfV c D) (j + 1)), M1, ?_, rfl, rfl⟩
    show sX4_leaf_53 r (38 + 2 * i) (F + 1) (nI p) _ (nI j) M1 = _
    rw [sX4_leaf_53, hb.1, if_neg (nle_nI hj (by omega)), x_isSo hp hc hs hb hl hj (by omega), Option.bind_some]
    unfold sX4_leaf_82
    dsimp only
    rw [show nI j + 1 = nI (j + 1) by rw [nI_1], msk]
    cases hv : lfV c D j with
    | false => rw [if_pos b2f, if_neg ff_, Nat.zero_add]
    | true => rw [if_neg b2t0, if_pos rfl, or_msk _ (by omega), Nat.add_comm (2 ^ j) (msk (lfV c D) j)]) m 0 4096 0 M (by omega) (by omega) ⟨rfl, rfl⟩
  obtain ⟨rfl, rfl⟩ := And.intro f1 f2
  refine Eq.trans e ?_
  show sX4_leaf_53 r (38 + 2 * i) (4096 - m) (nI p) _ (nI m) M' = _
  rw [show 4096 - m = (4095 - m) + 1 by omega, sX4_leaf_53, hb.1, if_pos (nI_le (by omega) (by omega))]
theorem an_msk (v : Nat → Bool) : ∀ m, msk v m = 0 ↔ anV v m = false := by
  intro m
  induction m with
  | zero => exact ⟨fun _ => rfl, fun _ => rfl⟩
  | succ k ih =>
    have hp : 0 < 2 ^ k := Nat.pow_pos (by omega)
    rw [msk, anV]
    cases v k
    · rw [if_neg ff_, Nat.zero_add, ih, Bool.or_false]
    · rw [if_pos rfl, Bool.or_true]
      exact ⟨fun q => by omega, fun q => by cases q⟩
theorem x_thk {i m : Nat} {v : Nat → Bool} {D : Nat → Nat → Nat} {M : Mm} (hb : xB_ i m D M) (hl : lyOk m D) : sX4_thickness (38 + 2 * i) (nI (msk v m)) M = some (nI (thV v D m), M) := by
  have hm := hl.2.1
  obtain ⟨a, M', e, f1, f2⟩ := lp_A (f := fun F a j M => sX4_thickness_4 (38 + 2 * i) F (nI (msk v m)) a j M) (n := m) (I := fun j a M' => M' = M ∧ a = nI (thV v D j)) (fun F j a M1 hj hI => by
    obtain ⟨rfl, rfl⟩ := hI
    obtain ⟨l1, l2, l3⟩ := hl.2.2.2.1 j hj
    refine ⟨nI (thV v D (j + 1)), M1, ?_, rfl, rfl⟩
    have e1 : sX7_get (38 + 2 * i) (nI j) 1 M1 = some (nI (D j 1), M1) := x_get (j := 1) hb hm hj (by omega)
    have e0 : sX7_get (38 + 2 * i) (nI j) 0 M1 = some (nI (D j 0), M1) := x_get (j := 0) hb hm hj (by omega)
    show sX4_thickness_4 (38 + 2 * i) (F + 1) (nI (msk v m)) _ (nI j) M1 = _
    rw [sX4_thickness_4, hb.1, if_neg (nle_nI hj (by omega))]
    unfold sX4_thickness_36
    rw [show nI j + 1 = nI (j + 1) by rw [nI_1], thV]
    cases hv : v j with
    | false => rw [if_pos ((bit_msk v hm hj).mpr hv), if_neg ff_]; rfl
    | true =>
      rw [if_neg (fun q => by have := (bit_msk v hm hj).mp q; rw [hv] at this; cases this), e1, Option.bind_some]
      dsimp only
      rw [e0, Option.bind_some]
      dsimp only
      rw [nI_sb (by omega), nI_add, if_pos rfl]) m 0 4096 0 M (by omega) (by omega) ⟨rfl, rfl⟩
  obtain ⟨rfl, rfl⟩ := And.intro f1 f2
  unfold sX4_thickness
  refine Eq.trans e ?_
  show sX4_thickness_4 (38 + 2 * i) (4096 - m) (nI (msk v m)) _ (nI m) M' = _
  rw [show 4096 - m = (4095 - m) + 1 by omega, sX4_thickness_4, hb.1, if_pos (nI_le (by omega) (by omega))]
theorem x_fb {i m : Nat} {v : Nat → Bool} {D : Nat → Nat → Nat} {M : Mm} (hb : xB_ i m D M) (hl : lyOk m D) : sX4_firstBegin (38 + 2 * i) (nI (msk v m)) M = some (nI (fbV v D m 0), M) := by
  have hm := hl.2.1
  have go : ∀ (f k F : Nat), k + f = m → f < F → sX4_firstBegin_2 (38 + 2 * i) F (nI (msk v m)) (nI k) M = some (nI (fbV v D f k), M) := by
    intro f
    induction f with
    | zero =>
      intro k F hk hF
      obtain ⟨F, rfl⟩ : ∃ G, F = G + 1 := ⟨F - 1, by omega⟩
      rw [sX4_firstBegin_2, hb.1, if_pos (nI_le (by omega) (by omega))]
      rfl
    | succ f ih =>
      intro k F hk hF
      obtain ⟨F, rfl⟩ : ∃ G, F = G + 1 := ⟨F - 1, by omega⟩
      have e0 : sX7_get (38 + 2 * i) (nI k) 0 M = some (nI (D k 0), M) := x_get (j := 0) hb hm (by omega) (by omega)
      rw [sX4_firstBegin_2, hb.1, if_neg (nle_nI (by omega) (by omega)), fbV]
      cases hv : v k with
      | false =>
        rw [if_pos ((bit_msk v hm (by omega)).mpr hv), if_neg ff_, nI_1]
        exact ih (k + 1) F (by omega) (by omega)
      | true =>
        rw [if_neg (fun q => by have := (bit_msk v hm (by omega)).mp q; rw [hv] at this; cases this), e0, Option.bind_some, if_pos rfl]
  exact go m 0 4096 (by omega) (by omega)
theorem ly_mo {m : Nat} {D : Nat → Nat → Nat} (hl : lyOk m D) {k : Nat} : ∀ d, k + d + 1 < m → D k 1 ≤ D (k + d + 1) 0 := by
  intro d
  induction d with
  | zero => intro h; rw [Nat.add_zero, hl.2.2.2.2 k (by omega)]; exact Nat.le_refl _
  | succ d ih =>
    intro h
    have h1 := ih (by omega)
    have h2 := (hl.2.2.2.1 (k + d + 1) (by omega)).1
    have h3 := hl.2.2.2.2 (k + d + 1) (by omega)
    show D k 1 ≤ D (k + d + 1 + 1) 0
    omega
theorem at_no {v : Nat → Bool} {D : Nat → Nat → Nat} {a : Nat} : ∀ k, (∀ j, j < k → ¬ (D j 0 ≤ a ∧ a < D j 1)) → atV v D a k = false := by
  intro k
  induction k with
  | zero => intro _; rfl
  | succ k ih =>
    intro h
    rw [atV, ih (fun j hj => h j (by omega))]
    have := h k (by omega)
    by_cases c : D k 0 ≤ a
    · rw [decide_eq_true c, decide_eq_false (fun q => this ⟨c, q⟩)]; simp
    · rw [decide_eq_false c]; simp
theorem at_yes {v : Nat → Bool} {m k : Nat} {D : Nat → Nat → Nat} {a : Nat} (hl : lyOk m D) (hk : k < m) (h : D k 0 ≤ a ∧ a < D k 1) : ∀ d, k + 1 + d ≤ m → atV v D a (k + 1 + d) = v k := by
  intro d
  induction d with
  | zero =>
    intro _
    rw [Nat.add_zero, atV, at_no k (fun j hj q => ?_), decide_eq_true h.1, decide_eq_true h.2]
    · simp
    · have := ly_mo hl (k := j) (k - j - 1) (by omega)
      rw [show j + (k - j - 1) + 1 = k by omega] at this
      omega
  | succ d ih =>
    intro hd
    rw [← Nat.add_assoc, atV, ih (by omega)]
    have := ly_mo hl (k := k) d (by omega)
    rw [show k + d + 1 = k + 1 + d by omega] at this
    rw [decide_eq_false (show ¬ D (k + 1 + d) 0 ≤ a by omega)]
    simp
theorem x_at {i m a : Nat} {v : Nat → Bool} {D : Nat → Nat → Nat} {M : Mm} (hb : xB_ i m D M) (hl : lyOk m D) (ha : a ≤ 999) : sX4_isAt (38 + 2 * i) (nI a) (nI (msk v m)) M = some (b2 (atV v D a m), M) := by
  have hm := hl.2.1
  have go : ∀ (f k F : Nat), k + f = m → f < F → (∀ j, j < k → ¬ (D j 0 ≤ a ∧ a < D j 1)) → sX4_isAt_2 (38 + 2 * i) F (nI a) (nI (msk v m)) (nI k) M = some (b2 (atV v D a m), M) := by
    intro f
    induction f with
    | zero =>
      intro k F hk hF hn
      obtain ⟨F, rfl⟩ : ∃ G, F = G + 1 := ⟨F - 1, by omega⟩
      have : k = m := by omega
      subst this
      rw [sX4_isAt_2, hb.1, if_pos (nI_le (by omega) (by omega)), at_no k hn]
      rfl
    | succ f ih =>
      intro k F hk hF hn
      obtain ⟨F, rfl⟩ : ∃ G, F = G + 1 := ⟨F - 1, by omega⟩
      have e1 : sX7_get (38 + 2 * i) (nI k) 1 M = some (nI (D k 1), M) := x_get (j := 1) hb hm (by omega) (by omega)
      have e0 : sX7_get (38 + 2 * i) (nI k) 0 M = some (nI (D k 0), M) := x_get (j := 0) hb hm (by omega) (by omega)
      obtain ⟨l1, l2, l3⟩ := hl.2.2.2.1 k (by omega)
      rw [sX4_isAt_2, hb.1, if_neg (nle_nI (by omega) (by omega)), e0, Option.bind_some]
      dsimp only
      unfold sX4_isAt_44
      rw [show nI k + 1 = nI (k + 1) by rw [nI_1]]
      by_cases c1 : D k 0 ≤ a
      · rw [if_neg (nlt_nI c1 (by omega)), e1, Option.bind_some]
        dsimp only
        by_cases c2 : a < D k 1
        · rw [if_neg (nle_nI c2 (by omega))]
          have h9 := at_yes (v := v) hl (show k < m by omega) ⟨c1, c2⟩ (m - k - 1) (by omega)
          rw [show k + 1 + (m - k - 1) = m by omega] at h9
          rw [h9]
          cases hv : v k with
          | false => rw [if_pos ((bit_msk v hm (by omega)).mpr hv)]; rfl
          | true => rw [if_neg (fun q => by have := (bit_msk v hm (by omega)).mp q; rw [hv] at this; cases this)]; rfl
        · rw [if_pos (nI_le (by omega) (by omega))]
          exact ih (k + 1) F (by omega) (by omega) (fun j hj q => by
            by_cases e : j = k
            · rw [e] at q; exact c2 q.2
            · exact hn j (by omega) q)
      · rw [if_pos (nI_lt (by omega) (by omega))]
        exact ih (k + 1) F (by omega) (by omega) (fun j hj q => by
          by_cases e : j = k
          · rw [e] at q; exact c1 q.1
          · exact hn j (by omega) q)
  exact go m 0 4096 (by omega) (by omega) (fun j hj => by omega)
