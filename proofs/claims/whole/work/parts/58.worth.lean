def frs (V f : Nat → Int32) : Nat → Int64
  | 0 => 0
  | k + 1 => frs V f k + (V k).toInt64 * (f k).toInt64
def uns (V f : Nat → Int32) (K : Nat) (p : Int32) : Nat → Bool
  | 0 => false
  | k + 1 => uns V f K p k || (decide (¬ prt f K k < p) && decide (¬ V k = V (bst f K)))
theorem uns_up {V f : Nat → Int32} {K : Nat} {p : Int32} {k : Nat} (h : uns V f K p k = true) : ∀ d, uns V f K p (k + d) = true := by
  intro d
  induction d with
  | zero => exact h
  | succ d ih => rw [← Nat.add_assoc, uns, ih]; rfl
theorem nzL_nI {t : Nat} (h1 : 1 ≤ t) (h2 : t ≤ 107528) : nzL (nI t).toInt64 = true := decide_eq_true (fun q => by
  have e := congrArg Int64.toInt q
  have e2 : (nI t).toInt64.toInt = (nI t).toInt := Int32.toInt_toInt64 _
  rw [e2, nI_toI (by omega)] at e
  have e3 : (0 : Int64).toInt = 0 := rfl
  rw [e3] at e
  omega)
theorem x_fair {kq : Nat × Nat} {K t : Nat} {f : Nat → Int32} {M : Mm} (hK : K ≤ 8) (h1 : 1 ≤ K) (eK : M.1 kq.1 9 = nI K) (ht : tot f K = nI t) (t1 : K ≤ t) (t2 : t ≤ 107528) (y : Wx K f M) : sX11_fairValue kq M = some ((frs (fun k => M.1 193 k) f K / (tot f K).toInt64).toInt32, M) := by
  obtain ⟨a, M', e, f1, f2⟩ := lp_S (σ := Int64) (f := fun F a j M => sX11_fairValue_4 kq F a j M) (n := K) (I := fun j a M' => M' = M ∧ a = frs (fun k => M.1 193 k) f j) (fun F j a M1 hj hI => by
    obtain ⟨rfl, rfl⟩ := hI
    refine ⟨_, M1, ?_, rfl, rfl⟩
    show sX11_fairValue_4 kq (F + 1) _ (nI j) M1 = _
    rw [sX11_fairValue_4, eK, if_neg (nle_nI hj (by omega)), ckT (inb_nI (by omega) (by decide)), ckT (inb_nI (by omega) (by decide)), nI_clamp (by omega), nI_1, y.1 j hj]
    rfl) K 0 4096 0 M (by omega) (by omega) ⟨rfl, rfl⟩
  obtain ⟨rfl, rfl⟩ := And.intro f1 f2
  unfold sX11_fairValue
  refine Eq.trans e ?_
  show sX11_fairValue_4 kq (4096 - K) _ (nI K) M' = _
  rw [show 4096 - K = (4095 - K) + 1 by omega, sX11_fairValue_4, eK, if_pos (nI_le (by omega) (by omega)), y.2.1, ht, if_neg (by rw [show (0 : Int32) = nI 0 from rfl]; exact nle_nI (by omega) (by omega)), ckT (nzL_nI (by omega) t2)]
theorem x_uns {kq : Nat × Nat} {K t : Nat} {p : Int32} {f : Nat → Int32} {M : Mm} (hK : K ≤ 8) (h1 : 1 ≤ K) (eK : M.1 kq.1 9 = nI K) (ht : tot f K = nI t) (t1 : K ≤ t) (t2 : t ≤ 107528) (y : Wx K f M) : sX11_isUnsure kq p M = some (b2 (uns (fun k => M.1 193 k) f K p K), M) := by
  have hbK : bst f K < K := by
    rcases bst_lt f K with q | ⟨q, q2⟩ <;> omega
  have go : ∀ (d k F : Nat), k + d = K → d < F → uns (fun k => M.1 193 k) f K p k = false → sX11_isUnsure_2 kq F p (nI k) M = some (b2 (uns (fun k => M.1 193 k) f K p K), M) := by
    intro d
    induction d with
    | zero =>
      intro k F hk hF hu
      obtain ⟨F, rfl⟩ : ∃ G, F = G + 1 := ⟨F - 1, by omega⟩
      have : k = K := by omega
      subst this
      rw [sX11_isUnsure_2, eK, if_pos (nI_le (by omega) (by omega)), hu]
      rfl
    | succ d ih =>
      intro k F hk hF hu
      obtain ⟨F, rfl⟩ : ∃ G, F = G + 1 := ⟨F - 1, by omega⟩
      rw [sX11_isUnsure_2, eK, if_neg (nle_nI (by omega) (by omega)), ckT (inb_nI (by omega) (by decide)), y.2.2, ckT (inb_nI (by omega) (by decide)), nI_clamp (by omega), nI_clamp (by omega)]
      unfold sX11_isUnsure_48
      rw [nI_1]
      by_cases c1 : M.1 193 k = M.1 193 (bst f K)
      · rw [if_pos c1]
        exact ih (k + 1) F (by omega) (by omega) (by rw [uns, hu]; simp [c1])
      · rw [if_neg c1, x_part hK (show k < K by omega) ht t1 t2 y, Option.bind_some]
        dsimp only
        by_cases c2 : prt f K k < p
        · rw [if_pos c2]
          exact ih (k + 1) F (by omega) (by omega) (by rw [uns, hu]; simp [c2])
        · rw [if_neg c2]
          have : uns (fun k => M.1 193 k) f K p (k + 1) = true := by rw [uns, hu]; simp [c1, c2]
          have h9 := uns_up this d
          rw [show k + 1 + d = K by omega] at h9
          rw [h9]
          rfl
  exact go K 0 4096 (by omega) (by omega) rfl
/-- what a cell is worth -/
def wrt (a1 p : Int32) (V f : Nat → Int32) (K : Nat) : Int32 := if a1 = 0 then V (bst f K) else if a1 = 1 then (frs V f K / (tot f K).toInt64).toInt32 else b2 (uns V f K p K)
theorem frs_cg {V V' f : Nat → Int32} : ∀ k, (∀ j, j < k → V j = V' j) → frs V f k = frs V' f k := by
  intro k
  induction k with
  | zero => intro _; rfl
  | succ k ih => intro h; rw [frs, frs, ih (fun j hj => h j (by omega)), h k (by omega)]
theorem m_worth1 {K t : Nat} {a1 p s x4 : Int32} {f V : Nat → Int32} {M : Mm} {k52 : Int32 → Int32 → Int32 → Int32 → Mm → Option (Int32 × Mm)} (hK : K ≤ 8) (h1 : 1 ≤ K) (h0 : ¬ a1 = 0) (eK : M.1 194 33 = nI K) (hV : ∀ j, j < 8 → M.1 225 j = V j) (ht : tot f K = nI t) (t1 : K ≤ t) (t2 : t ≤ 107528) (y : Wm K f M) : sX12_worth_105 k52 4096 a1 p s x4 (nI (bst f K)) 0 0 0 M = k52 a1 p (s + wrt a1 p V f K) (x4 + 1) M := by
  have one : ¬ (1 : Int32) = 0 := by decide
  have hbK : bst f K < K := by
    rcases bst_lt f K with q | ⟨q, q2⟩ <;> omega
  obtain ⟨a, M', e, f1, f2⟩ := lp_S (σ := Int64 × Int32) (f := fun F a j M => sX12_worth_105 k52 F a1 p s x4 (nI (bst f K)) a.1 a.2 j M) (n := K) (I := fun j a M' => M' = M ∧ a = (frs V f j, b2 (uns V f K p j))) (fun F j a M1 hj hI => by
    obtain ⟨rfl, rfl⟩ := hI
    have ib := inb_nI (show j < 8 by omega) (by decide)
    have bb := inb_nI (show bst f K < 8 by omega) (by decide)
    refine ⟨(frs V f (j + 1), b2 (uns V f K p (j + 1))), M1, ?_, rfl, rfl⟩
    show sX12_worth_105 k52 (F + 1) a1 p s x4 (nI (bst f K)) (frs V f j) (b2 (uns V f K p j)) (nI j) M1 = sX12_worth_105 k52 F a1 p s x4 (nI (bst f K)) (frs V f (j + 1)) (b2 (uns V f K p (j + 1))) (nI (j + 1)) M1
    rw [sX12_worth_105, eK, if_neg (nle_nI hj (by omega)), ckT ib, ckT ib, nI_clamp (by omega), hV j (by omega), y.1 j hj]
    unfold sX12_worth_168 sX12_worth_172 sX12_worth_173
    rw [nI_1]
    by_cases c0 : uns V f K p j = true
    · rw [c0, if_neg (show ¬ b2 true = 0 by decide), uns, c0]
      rfl
    · have c0' : uns V f K p j = false := by cases hh : uns V f K p j <;> simp_all
      rw [c0', if_pos (show b2 false = 0 from rfl), m_part hK hj ht t1 t2 y, Option.bind_some]
      dsimp only
      by_cases c2 : prt f K j < p
      · rw [if_pos c2, uns, c0']
        simp [c2, frs, b2]
      · rw [if_neg c2, ckT ib, ckT bb, nI_clamp (show bst f K < 2 ^ 31 by omega), hV _ (by omega), hV _ (by omega)]
        by_cases c1 : V j = V (bst f K)
        · rw [if_pos c1, uns, c0']
          simp [c1, frs, b2]
        · rw [if_neg c1, uns, c0']
          simp [c1, c2, frs, b2]) K 0 4096 (0, 0) M (by omega) (by omega) ⟨rfl, rfl⟩
  refine Eq.trans e ?_
  show sX12_worth_105 k52 (4096 - K) a1 p s x4 (nI (bst f K)) a.1 a.2 (nI K) M' = _
  obtain ⟨rfl, rfl⟩ := And.intro f1 f2
  rw [show 4096 - K = (4095 - K) + 1 by omega, sX12_worth_105, eK, if_pos (nI_le (by omega) (by omega))]
  unfold sX12_worth_209 sX12_worth_211 wrt
  rw [if_neg h0]
  by_cases c1 : a1 = 1
  · rw [if_pos c1, if_pos c1, y.2, ht, ckT (nzL_nI (by omega) t2)]
  · rw [if_neg c1, if_neg c1]
    congr 1
    cases uns V f K p K <;> rfl
theorem step_worth {kq : Nat × Nat} {w h N K : Nat} {M : Mm} (a1 a2 a3 a4 a5 a6 : Int32) (hq : isKq kq) (b : Bk kq w h N K M) (hv : iVal M) : ∃ M1, st_worth kq a1 a2 a3 a4 a5 a6 M = some (kq, M1) ∧ Fr pSc M M1 := by
  have f0 := sc_2 M
  have one : ¬ (1 : Int32) = 0 := by decide
  have b0 := Bk_sm b (sc_sm hq f0)
  have h64 := wh64 b.1.1
  have eK := b.2.2.2.1.2.1
  have eK0 := b0.2.2.2.1.2.2.1
  have hN := b.2.1.1
  have hK := b.2.2.2.1.1
  by_cases c1 : a1 < 0
  · exact ⟨_, st_join (v := -1) (Ma := M) (by simp only [sX11_worth, if_pos c1]) (by simp only [sX12_worth, if_pos c1]), f0⟩
  by_cases c2 : 2 < a1
  · exact ⟨_, st_join (v := -1) (Ma := M) (by simp only [sX11_worth, if_neg c1, if_pos c2]) (by simp only [sX12_worth, if_neg c1, if_pos c2]), f0⟩
  by_cases c3 : a1 = 2 ∧ (a2 < 0 ∨ 1000 < a2)
  · obtain ⟨c3, c4⟩ := c3
    by_cases c5 : a2 < 0
    · exact ⟨_, st_join (v := -1) (Ma := M) (by simp only [sX11_worth, if_neg c1, if_neg c2, if_pos c3, if_pos c5]) (by simp only [sX12_worth, if_neg c1, if_neg c2, if_pos c3, if_pos c5]), f0⟩
    · have c6 := c4.resolve_left c5
      exact ⟨_, st_join (v := -1) (Ma := M) (by simp only [sX11_worth, if_neg c1, if_neg c2, if_pos c3, if_neg c5, if_pos c6]) (by simp only [sX12_worth, if_neg c1, if_neg c2, if_pos c3, if_neg c5, if_pos c6]), f0⟩
  have hx : ∀ X : Mm, sX11_worth kq a1 a2 X = sX11_worth_25 kq a1 a2 X ∧ sX12_worth a1 a2 X = sX12_worth_30 a1 a2 (sI X 194 2 0) := by
    intro X
    by_cases d1 : a1 = 2
    · have d2 : ¬ a2 < 0 := fun q => c3 ⟨d1, Or.inl q⟩
      have d3 : ¬ 1000 < a2 := fun q => c3 ⟨d1, Or.inr q⟩
      exact ⟨by simp only [sX11_worth, if_neg c1, if_neg c2, if_pos d1, if_neg d2, if_neg d3], by simp only [sX12_worth, if_neg c1, if_neg c2, if_pos d1, if_neg d2, if_neg d3]⟩
    · exact ⟨by simp only [sX11_worth, if_neg c1, if_neg c2, if_neg d1], by simp only [sX12_worth, if_neg c1, if_neg c2, if_neg d1]⟩
  by_cases k0 : K = 0
  · subst k0
    exact ⟨_, st_join (v := -1) (Ma := M) (by rw [(hx M).1]; simp only [sX11_worth_25, eK]; rfl) (by rw [(hx M).2]; simp only [sX12_worth_30, eK0]; rfl), f0⟩
  have nK : ¬ nI K = 0 := ne_nI (b := 0) k0 (by omega) (by omega)
  obtain ⟨A, g1, f1, x1⟩ := xk_gather hq b (Sm_rf kq M) (Nat.le_refl N)
  have hV : ∀ {X : Mm}, Sm kq M X → (∀ j, j < 8 → X.1 193 j = M.1 193 j) ∧ (∀ j, j < 8 → X.1 225 j = M.1 193 j) := fun {X} s => ⟨fun j hj => s 193 j (by unfold rBk; omega), fun j hj => by rw [s 225 j (by unfold rBk; omega), (hv j hj).1]⟩
  have hbK : ∀ f : Nat → Int32, bst f K < K := fun f => by
    rcases bst_lt f K with q | ⟨q, q2⟩ <;> omega
  -- the class
  obtain ⟨s, A2, e2, y1, y2, y3⟩ := lp_A (f := fun F a j M => sX11_worth_56 kq F a1 a2 a j M) (n := w * h) (I := fun c a M' => Xk kq M M' (Lof M N) ∧ Fr pSc A M' ∧ a = tot (fun c => wrt a1 a2 (fun k => M.1 193 k) (wt w M c (Lof M N) 60) K) c) (fun F c a M1 hc hI => by
    obtain ⟨x1, f1, rfl⟩ := hI
    have b1 := Bk_sm b x1.1
    obtain ⟨M2, e2, f2, x2, y2⟩ := xk_weigh (c := c) (wo := 60) (x2 := -1) hq b (Nat.le_refl N) x1 hc (Lof_60 b (Nat.le_refl N))
    obtain ⟨-, t, t1, t2, t3⟩ := wt_sm2 (c := c) (wo := 60) b (Nat.le_refl N)
    have b2 := Bk_sm b x2.1
    obtain ⟨v1, -⟩ := hV x2.1
    refine ⟨tot (fun c => wrt a1 a2 (fun k => M.1 193 k) (wt w M c (Lof M N) 60) K) (c + 1), M2, ?_, x2, Fr_tr f1 (sc_w f2), rfl⟩
    show sX11_worth_56 kq (F + 1) a1 a2 _ (nI c) M1 = _
    rw [sX11_worth_56, b1.1.2.1.2.2.1, if_neg (nle_nI hc (by omega)), e2, Option.bind_some, tot]
    generalize hf : wt w M c (Lof M N) 60 = f at y2 t3
    have hb := hbK f
    unfold sX11_worth_123
    rw [nI_1]
    by_cases u0 : a1 = 0
    · rw [if_pos u0, y2.2.2, ckT (inb_nI (by omega) (by decide)), nI_clamp (by omega), v1 _ (by omega)]
      unfold wrt
      rw [if_pos u0]
    · rw [if_neg u0]
      by_cases u1 : a1 = 1
      · rw [if_pos u1, x_fair hK (by omega) b2.2.2.2.1.2.1 t3 t1 t2 y2, Option.bind_some]
        unfold wrt
        rw [if_neg u0, if_pos u1, frs_cg K (fun j hj => v1 j (by omega))]
      · rw [if_neg u1, x_uns hK (by omega) b2.2.2.2.1.2.1 t3 t1 t2 y2, Option.bind_some]
        have eu : uns (fun k => M2.1 193 k) f K a2 K = uns (fun k => M.1 193 k) f K a2 K := by
          have : ∀ k, k ≤ K → uns (fun k => M2.1 193 k) f K a2 k = uns (fun k => M.1 193 k) f K a2 k := by
            intro k
            induction k with
            | zero => intro _; rfl
            | succ k ih => intro hk; rw [uns, uns, ih (by omega), v1 k (by omega), v1 _ (by omega)]
          exact this K (Nat.le_refl K)
        rw [eu]
        unfold wrt
        rw [if_neg u0, if_neg u1]
        congr 2
        cases uns (fun k => M.1 193 k) f K a2 K <;> rfl) (w * h) 0 4096 0 A (by omega) (by omega) ⟨x1, Fr_rf _ _, rfl⟩
  have fA : Fr pSc M A2 := Fr_tr (sc_ga f1) y2
  have bA := Bk_sm b y1.1
  have s2 := sc_sm hq (Fr_tr fA (sc_2 A2))
  obtain ⟨B, g3, f3, x3⟩ := mk_know (n := N) hq b s2 (Nat.le_refl N)
  -- the model
  obtain ⟨s', B2, e4, z1, z2, z3⟩ := lp_A (f := fun F a j M => sX12_worth_52 F a1 a2 a j M) (n := w * h) (I := fun c a M' => Mk kq N M M' (Lof M N) ∧ Fr pSc B M' ∧ a = tot (fun c => wrt a1 a2 (fun k => M.1 193 k) (wt w M c (Lof M N) 60) K) c) (fun F c a M1 hc hI => by
    obtain ⟨x1, f1, rfl⟩ := hI
    have b1 := Bk_sm b x1.1
    obtain ⟨M2, e2, f2, x2, y2⟩ := mk_weigh (c := c) (wo := 60) (x2 := -1) hq b (Nat.le_refl N) x1 hc (M_60 hN)
    obtain ⟨-, t, t1, t2, t3⟩ := wt_sm2 (c := c) (wo := 60) b (Nat.le_refl N)
    have b2 := Bk_sm b x2.1
    obtain ⟨-, v1⟩ := hV x2.1
    refine ⟨tot (fun c => wrt a1 a2 (fun k => M.1 193 k) (wt w M c (Lof M N) 60) K) (c + 1), M2, ?_, x2, Fr_tr f1 (sc_wm f2), rfl⟩
    show sX12_worth_52 (F + 1) a1 a2 _ (nI c) M1 = _
    rw [sX12_worth_52, b1.1.2.1.2.2.2.1, b1.1.2.1.2.2.2.2, nI_mul, if_neg (nle_nI hc (by omega)), e2, Option.bind_some, tot]
    generalize hf : wt w M c (Lof M N) 60 = f at y2 t3
    have hb := hbK f
    rw [m_best hK (by omega) b2.2.2.2.1.2.2.1 y2.1, Option.bind_some]
    dsimp only
    by_cases u0 : a1 = 0
    · rw [if_pos u0, ckT (inb_nI (by omega) (by decide)), nI_clamp (by omega), v1 _ (by omega)]
      unfold sX12_worth_211 wrt
      rw [if_pos u0, nI_1]
    · rw [if_neg u0, m_worth1 (V := fun k => M.1 193 k) hK (by omega) u0 b2.2.2.2.1.2.2.1 v1 t3 t1 t2 y2, nI_1]) (w * h) 0 4096 0 B (by omega) (by omega) ⟨x3, Fr_rf _ _, rfl⟩
  have bB := Bk_sm b z1.1
  refine ⟨B2, st_join (v := tot (fun c => wrt a1 a2 (fun k => M.1 193 k) (wt w M c (Lof M N) 60) K) (w * h)) (Ma := A2) ?_ ?_, Fr_tr fA (Fr_tr (sc_2 A2) (Fr_tr (sc_kn f3) z2))⟩
  · rw [(hx M).1]
    unfold sX11_worth_25
    rw [eK, if_neg nK, b.2.1.2.1, g1, Option.bind_some]
    refine Eq.trans e2 ?_
    show sX11_worth_56 kq (4096 - w * h) a1 a2 s (nI (w * h)) A2 = _
    rw [show 4096 - w * h = (4095 - w * h) + 1 by omega, sX11_worth_56, bA.1.2.1.2.2.1, if_pos (nI_le (by omega) (by omega)), y3]
  · rw [(hx A2).2]
    unfold sX12_worth_30
    have b2 := Bk_sm b s2
    rw [b2.2.2.2.1.2.2.1, if_neg nK, b2.2.1.2.2, g3, Option.bind_some]
    refine Eq.trans e4 ?_
    show sX12_worth_52 (4096 - w * h) a1 a2 s' (nI (w * h)) B2 = _
    rw [show 4096 - w * h = (4095 - w * h) + 1 by omega, sX12_worth_52, bB.1.2.1.2.2.2.1, bB.1.2.1.2.2.2.2, nI_mul, if_pos (nI_le (by omega) (by omega)), z3]
