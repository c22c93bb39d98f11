theorem step_turned {kq : Nat × Nat} {w h N K : Nat} {M : Mm} (a1 a2 a3 a4 a5 a6 : Int32) (hq : isKq kq) (b : Bk kq w h N K M) (hv : iVals M) : ∃ M1, st_turned kq a1 a2 a3 a4 a5 a6 M = some (kq, M1) ∧ Fr pSc M M1 := by
  have f0 := sc_2 M
  have hN := b.2.1.1
  have hK := b.2.2.2.1.1
  by_cases c1 : a1 < 0
  · exact ⟨_, st_join (v := -2) (Ma := M) (by simp only [sX11_turned, if_pos c1]) (by simp only [sX12_turned, if_pos c1]), f0⟩
  by_cases c2 : 6 ≤ a1
  · have c3 : 5 < a1 := by
      rw [Int32.le_iff_toInt_le] at c2
      rw [Int32.lt_iff_toInt_lt]
      have e1 : (6 : Int32).toInt = 6 := rfl
      have e2 : (5 : Int32).toInt = 5 := rfl
      omega
    exact ⟨_, st_join (v := -2) (Ma := M) (by simp only [sX11_turned, if_neg c1, if_pos c2]) (by simp only [sX12_turned, if_neg c1, if_pos c3]), f0⟩
  obtain ⟨o, ho, eo⟩ := nI_ex (n := 6) c1 (Int32.le_of_lt (Int32.not_le.mp c2)) (by decide)
  subst eo
  have ho6 : o < 6 := (nI_ltI (b := 6) (by omega) (by decide)).mp (Int32.not_le.mp c2)
  have c3 : ¬ 5 < nI o := nlt_nI (a := 5) (by omega) (by omega)
  by_cases d1 : a2 < 0
  · exact ⟨_, st_join (v := -2) (Ma := M) (by simp only [sX11_turned, if_neg c1, if_neg c2, if_pos d1]) (by simp only [sX12_turned, if_neg c1, if_neg c3, if_pos d1]), f0⟩
  by_cases d2 : a2 ≤ 8
  case neg => exact ⟨_, st_join (v := -2) (Ma := M) (by simp only [sX11_turned, if_neg c1, if_neg c2, if_neg d1, if_neg d2]) (by simp only [sX12_turned, if_neg c1, if_neg c3, if_neg d1, if_neg d2]), f0⟩
  obtain ⟨k, hk, ek⟩ := nI_ex (n := 8) d1 d2 (by decide)
  subst ek
  obtain ⟨A, g1, f1, x1⟩ := xk_gather hq b (Sm_rf kq M) (Nat.le_refl N)
  obtain ⟨A2, g2, f2, x2, t2⟩ := x_tally hq b hv (Nat.le_refl N) x1
  have fA : Fr pSc M A2 := Fr_tr (sc_ga f1) (sc_tl f2)
  have fA2 := Fr_tr fA (sc_2 A2)
  have s2 := sc_sm hq fA2
  obtain ⟨B, g3, f3, x3⟩ := mk_know (n := N) hq b s2 (Nat.le_refl N)
  have b2 := Bk_sm b s2
  have b3 := Bk_sm b x3.1
  have e26 := b2.2.1.2.2
  have e33 := b3.2.2.2.1.2.2.1
  have io := inb_nI ho6 (by decide)
  have co := nI_clamp (show o < 2 ^ 31 by omega)
  have fB : Fr pSc M B := Fr_tr fA2 (sc_kn f3)
  by_cases k8 : k = 8
  · subst k8
    have p8 : nI 8 = 8 := rfl
    have em : mtd (tly M (Lof M N) o) 8 = mtd (tly M (Lof M N) o) K := by
      have h9 : ∀ d, K + d ≤ 8 → mtd (tly M (Lof M N) o) (K + d) = mtd (tly M (Lof M N) o) K := by
        intro d
        induction d with
        | zero => intro _; rfl
        | succ d ih =>
          intro hd
          rw [← Nat.add_assoc, mtd, ih (by omega), tly_K b (Nat.le_refl N) o (K + d) (by omega) (by omega)]
          cases mtd (tly M (Lof M N) o) K with
          | none => rfl
          | some b => dsimp only; rw [if_pos (Nat.zero_le _)]
      have := h9 (8 - K) (by omega)
      rw [show K + (8 - K) = 8 by omega] at this
      exact this
    refine ⟨B, st_join (v := oI (mtd (tly M (Lof M N) o) K)) (Ma := A2) ?_ ?_, fB⟩
    · simp only [sX11_turned, if_neg c1, if_neg c2, if_neg d1, if_pos d2, b.2.1.2.1, g1, g2, Option.bind_some, if_pos p8, ckT io, co, t2.2 o ho6, em]
    · simp only [sX12_turned, if_neg c1, if_neg c3, if_neg d1, if_pos d2, e26, g3, Option.bind_some, if_pos p8, m_turn hq b ho6 (Nat.le_refl N) x3]
  · have p8 : ¬ nI k = 8 := ne_nI (b := 8) k8 (by omega) (by omega)
    have ik := inb_nI (show k < 8 by omega) (by decide)
    have ck' := nI_clamp (show k < 2 ^ 31 by omega)
    refine ⟨B, st_join (v := nI (tly M (Lof M N) o k)) (Ma := A2) ?_ ?_, fB⟩
    · simp only [sX11_turned, if_neg c1, if_neg c2, if_neg d1, if_pos d2, b.2.1.2.1, g1, g2, Option.bind_some, if_neg p8, ckT io, ckT ik, co, ck', t2.1 o k ho6 (by omega)]
    · by_cases u : K ≤ k
      · simp only [sX12_turned, if_neg c1, if_neg c3, if_neg d1, if_pos d2, e26, g3, Option.bind_some, if_neg p8, e33, if_pos (nI_le u (show k < 2 ^ 31 by omega)), tly_K b (Nat.le_refl N) o k u (by omega)]
        rfl
      · simp only [sX12_turned, if_neg c1, if_neg c3, if_neg d1, if_pos d2, e26, g3, Option.bind_some, if_neg p8, e33, if_neg (nle_nI (show k < K by omega) (show K < 2 ^ 31 by omega)), m_bores hq b ho6 (show k < 8 by omega) (Nat.le_refl N) x3]
/-- the kind that the old map is turned to at a cell -/
def tat (M : Mm) (L : List Nat) (c : Nat) : Int32 := if M.1 200 c = -1 then -1 else oI (mtd (tly M L (M.1 200 c).toNatClampNeg) 8)
theorem mtd_K {kq : Nat × Nat} {w h N K n o : Nat} {M : Mm} (b : Bk kq w h N K M) (hn : n ≤ N) : mtd (tly M (Lof M n) o) 8 = mtd (tly M (Lof M n) o) K := by
  have hK := b.2.2.2.1.1
  have h9 : ∀ d, K + d ≤ 8 → mtd (tly M (Lof M n) o) (K + d) = mtd (tly M (Lof M n) o) K := by
    intro d
    induction d with
    | zero => intro _; rfl
    | succ d ih =>
      intro hd
      rw [← Nat.add_assoc, mtd, ih (by omega), tly_K b hn o (K + d) (by omega) (by omega)]
      cases mtd (tly M (Lof M n) o) K with
      | none => rfl
      | some b => dsimp only; rw [if_pos (Nat.zero_le _)]
  have := h9 (8 - K) (by omega)
  rw [show K + (8 - K) = 8 by omega] at this
  exact this
theorem oI_ng {o : Option Nat} (h : ∀ b, o = some b → b < 8) : oI o < 0 ↔ oI o = -1 := by
  cases o with
  | none => rw [oI_n]; decide
  | some b =>
    have := h b rfl
    rw [oI_s]
    exact ⟨fun q => absurd q (Int32.not_lt.mpr (nI_nn (by omega))), fun q => absurd q (nI_ne1 (by omega))⟩
theorem tat_ng {M : Mm} {L : List Nat} {c : Nat} : tat M L c < 0 ↔ tat M L c = -1 := by
  unfold tat
  by_cases z : M.1 200 c = -1
  · rw [if_pos z]; decide
  · rw [if_neg z]; exact oI_ng (fun b q => mtd_lt 8 b q)
theorem x_tat {kq : Nat × Nat} {w h N K c : Nat} {M0 M : Mm} {L : List Nat} (b : Bk kq w h N K M0) (hv : iVals M0) (s : Sm kq M0 M) (t : Tx M0 M L) (hc : c < w * h) : sX8_turnedAt (nI c) M = some (tat M0 L c, M) := by
  have h64 := wh64 b.1.1
  have z4 : inb 4 5 = true := by decide
  have e28 : 24 + (4 : Int32).toNatClampNeg = 28 := by decide
  have s28 : M.1 28 c = M0.1 200 c := by
    rw [s 28 c (Or.inl (by unfold rLand; omega))]
    exact b.1.2.2.2.1 4 c (by omega) hc
  unfold sX8_turnedAt tat
  rw [ckT z4, ckT (inb_nI (by omega) (by decide)), nI_clamp (by omega), e28, s28]
  rcases (hv c (by omega)).2 with o | ⟨o, ho, eo⟩
  · rw [if_pos o, if_pos o]
  · rw [eo, if_neg (nI_ne1 (by omega)), if_neg (nI_ne1 (by omega)), ckT (inb_nI (by omega) (by decide)), nI_clamp (by omega), t.2 o (by omega)]
theorem m_tat {kq : Nat × Nat} {w h N K n c : Nat} {M0 M : Mm} (hq : isKq kq) (b : Bk kq w h N K M0) (hv : iVals M0) (hn : n ≤ N) (x : Mk kq N M0 M (Lof M0 n)) (hc : c < w * h) : sX12_turnedAt (nI c) M = some (tat M0 (Lof M0 n) c, M) := by
  have h64 := wh64 b.1.1
  unfold sX12_turnedAt tat
  rw [ckT (inb_nI (by omega) (by decide)), nI_clamp (by omega), x.1 200 c (Or.inl (by unfold rLand; omega))]
  rcases (hv c (by omega)).2 with o | ⟨o, ho, eo⟩
  · rw [o, if_neg neg1, if_pos rfl]
  · rw [eo, if_pos (nI_nn (by omega)), if_neg (nI_ne1 (by omega)), ckT (inb_nI (by omega) (by decide)), m_turn hq b (by omega) hn x, Option.bind_some, nI_clamp (by omega), mtd_K b hn]
theorem x_bat {kq : Nat × Nat} {w h N K n c : Nat} {M0 M : Mm} (hq : isKq kq) (b : Bk kq w h N K M0) (hn : n ≤ N) (x : Xk kq M0 M (Lof M0 n)) (t : Tx M0 M (Lof M0 n)) (hc : c < w * h) : ∃ M', sX8_bestAt (nI c) M = some (nI (bst (wt w M0 c (Lof M0 n) 60) K), M') ∧ Fr pSc M M' ∧ Xk kq M0 M' (Lof M0 n) ∧ Tx M0 M' (Lof M0 n) := by
  obtain ⟨M2, e2, f2, x2, y2⟩ := xk_weigh (c := c) (wo := 60) (x2 := -1) hq b hn x hc (Lof_60 b hn)
  refine ⟨M2, ?_, sc_w f2, x2, fun c k hc hk => ?_, fun c hc => ?_⟩
  · unfold sX8_bestAt
    rw [e2, Option.bind_some, y2.2.2]
  · rw [(f2 _ _ (by unfold pW; omega)).1]; exact t.1 c k hc hk
  · rw [(f2 _ _ (by unfold pW; omega)).1]; exact t.2 c hc
theorem m_bat {kq : Nat × Nat} {w h N K n c : Nat} {M0 M : Mm} (hq : isKq kq) (b : Bk kq w h N K M0) (h1 : 1 ≤ K) (hn : n ≤ N) (x : Mk kq N M0 M (Lof M0 n)) (hc : c < w * h) : ∃ M', sX12_bestAt (nI c) M = some (nI (bst (wt w M0 c (Lof M0 n) 60) K), M') ∧ Fr pSc M M' ∧ Mk kq N M0 M' (Lof M0 n) := by
  obtain ⟨M2, e2, f2, x2, y2⟩ := mk_weigh (c := c) (wo := 60) (x2 := -1) hq b hn x hc (M_60 b.2.1.1)
  have b2 := Bk_sm b x2.1
  refine ⟨M2, ?_, sc_wm f2, x2⟩
  unfold sX12_bestAt
  rw [e2, Option.bind_some, m_best b.2.2.2.1.1 h1 b2.2.2.2.1.2.2.1 y2.1, Option.bind_some]
def mp0 (w K : Nat) (M : Mm) (L : List Nat) (c : Nat) : Int32 := if ¬ tat M L c = -1 ∧ tat M L c = nI (bst (wt w M c L 60) K) then 1 else 0
def mp1 (w : Nat) (M : Mm) (L : List Nat) (x y : Nat) : Int32 := if ¬ tat M L (y * w + x) = -1 ∧ ¬ tat M L (y * w + x + 1) = -1 ∧ ¬ tat M L (y * w + x) = tat M L (y * w + x + 1) then 1 else 0
def mp2 (w K : Nat) (M : Mm) (L : List Nat) (x y : Nat) : Int32 := if nI (bst (wt w M (y * w + x) L 60) K) = nI (bst (wt w M (y * w + x + 1) L 60) K) then 0 else 1
theorem yx_lt {w h x y : Nat} (hy : y < h) (hx : x + 1 < w) : y * w + x < w * h ∧ y * w + x + 1 < w * h := by
  have h7 : (y + 1) * w ≤ h * w := Nat.mul_le_mul_right w hy
  rw [Nat.succ_mul, Nat.mul_comm h w] at h7
  omega
theorem step_maps {kq : Nat × Nat} {w h N K : Nat} {M : Mm} (a1 a2 a3 a4 a5 a6 : Int32) (hq : isKq kq) (b : Bk kq w h N K M) (hv : iVals M) : ∃ M1, st_maps kq a1 a2 a3 a4 a5 a6 M = some (kq, M1) ∧ Fr pSc M M1 := by
  have f0 := sc_2 M
  have hN := b.2.1.1
  have hK := b.2.2.2.1.1
  have h64 := wh64 b.1.1
  have gw := b.1.1
  have eK := b.2.2.2.1.2.1
  have ew := b.1.2.1.1
  by_cases c1 : a1 < 0
  · exact ⟨_, st_join (v := -1) (Ma := M) (by simp only [sX11_maps, if_pos c1]) (by simp only [sX12_maps, if_pos c1]), f0⟩
  by_cases c2 : 2 < a1
  · exact ⟨_, st_join (v := -1) (Ma := M) (by simp only [sX11_maps, if_neg c1, if_pos c2]) (by simp only [sX12_maps, if_neg c1, if_pos c2]), f0⟩
  -- the refusals
  have hw : ∀ {X : Mm}, Fr pSc M X → X.1 22 0 = nI w ∧ (sI X 194 2 0).1 194 3 = nI w := fun {X} f => by
    have b2 := Bk_sm b (sc_sm hq f)
    have b3 := Bk_sm b (sc_sm hq (Fr_tr f (sc_2 X)))
    exact ⟨b2.1.2.1.1, b3.1.2.1.2.2.2.1⟩
  have ew1 : nI w - 1 = nI (w - 1) := nI_sb (b := 1) (by omega)
  by_cases ok : a1 ≤ 0 ∨ (¬ a2 < 0 ∧ a2 < nI (w - 1))
  case neg =>
    have d1 : ¬ a1 ≤ 0 := fun q => ok (Or.inl q)
    by_cases d2 : a2 < 0
    · exact ⟨_, st_join (v := -1) (Ma := M) (by simp only [sX11_maps, if_neg c1, if_neg c2, if_neg d1, if_pos d2]) (by simp only [sX12_maps, if_neg c1, if_neg c2, if_neg d1, if_pos d2]), f0⟩
    · have d3 : ¬ a2 < nI (w - 1) := fun q => ok (Or.inr ⟨d2, q⟩)
      exact ⟨_, st_join (v := -1) (Ma := M) (by simp only [sX11_maps, if_neg c1, if_neg c2, if_neg d1, if_neg d2, ew, ew1, if_neg d3]) (by simp only [sX12_maps, if_neg c1, if_neg c2, if_neg d1, if_neg d2, (hw (Fr_rf _ M)).2, ew1, if_neg d3]), f0⟩
  have hx : ∀ {X : Mm}, Fr pSc M X → sX11_maps kq a1 a2 X = sX11_maps_32 kq a1 a2 X ∧ sX12_maps a1 a2 X = sX12_maps_34 a1 a2 (sI X 194 2 0) := fun {X} f => by
    by_cases d1 : a1 ≤ 0
    · exact ⟨by simp only [sX11_maps, if_neg c1, if_neg c2, if_pos d1], by simp only [sX12_maps, if_neg c1, if_neg c2, if_pos d1]⟩
    · obtain ⟨d2, d3⟩ := ok.resolve_left d1
      exact ⟨by simp only [sX11_maps, if_neg c1, if_neg c2, if_neg d1, if_neg d2, (hw f).1, ew1, if_pos d3], by simp only [sX12_maps, if_neg c1, if_neg c2, if_neg d1, if_neg d2, (hw f).2, ew1, if_pos d3]⟩
  by_cases k0 : K = 0
  · subst k0
    obtain ⟨B, g3, f3, x3⟩ := mk_know (n := N) hq b (sc_sm hq f0) (Nat.le_refl N)
    have b0 := Bk_sm b (sc_sm hq f0)
    have b3 := Bk_sm b x3.1
    exact ⟨B, st_join (v := 0) (Ma := M) (by rw [(hx (Fr_rf _ M)).1]; simp only [sX11_maps_32, eK]; rfl) (by rw [(hx (Fr_rf _ M)).2]; simp only [sX12_maps_34, b0.2.1.2.2, g3, Option.bind_some, b3.2.2.2.1.2.2.1]; rfl), Fr_tr f0 (sc_kn f3)⟩
  have nK : ¬ nI K = 0 := ne_nI (b := 0) k0 (by omega) (by omega)
  obtain ⟨A, g1, f1, x1⟩ := xk_gather hq b (Sm_rf kq M) (Nat.le_refl N)
  obtain ⟨A2, g2, f2, x2, t2⟩ := x_tally hq b hv (Nat.le_refl N) x1
  have fA : Fr pSc M A2 := Fr_tr (sc_ga f1) (sc_tl f2)
  have e32 : ∀ {v : Int32} {X : Mm}, (if a1 = 0 then (sX8_countAgreeing A2).bind (fun (q73 : Int32 × Mm) => some (q73.1, q73.2)) else if a1 = 1 then (sX8_seamOfOld a2 A2).bind (fun (q89 : Int32 × Mm) => some (q89.1, q89.2)) else (sX8_seamOfBest a2 A2).bind (fun (q100 : Int32 × Mm) => some (q100.1, q100.2))) = some (v, X) → sX11_maps kq a1 a2 M = some (v, X) := fun {v X} e => by
    rw [(hx (Fr_rf _ M)).1]
    unfold sX11_maps_32
    rw [eK, if_neg nK, b.2.1.2.1, g1, Option.bind_some, g2, Option.bind_some]
    exact e
  have e34 : ∀ {X : Mm}, Fr pSc M X → ∃ B, Mk kq N M B (Lof M N) ∧ Fr pSc M B ∧ sX12_maps a1 a2 X = if a1 = 0 then sX12_maps_60 4096 0 0 B else sX12_maps_117 4096 a1 a2 0 0 B := fun {X} f => by
    have s2 := sc_sm hq (Fr_tr f (sc_2 X))
    obtain ⟨B, g3, f3, x3⟩ := mk_know (n := N) hq b s2 (Nat.le_refl N)
    have b2 := Bk_sm b s2
    have b3 := Bk_sm b x3.1
    refine ⟨B, x3, Fr_tr (Fr_tr f (sc_2 X)) (sc_kn f3), ?_⟩
    rw [(hx f).2]
    unfold sX12_maps_34
    rw [b2.2.1.2.2, g3, Option.bind_some, b3.2.2.2.1.2.2.1, if_neg nK]
  by_cases u0 : a1 = 0
  · obtain ⟨s, D, e2, y1, y2, y3, y4⟩ := lp_A (f := fun F a j M => sX8_countAgreeing_4 F a j M) (n := w * h) (I := fun c a M' => Xk kq M M' (Lof M N) ∧ Tx M M' (Lof M N) ∧ Fr pSc M M' ∧ a = tot (mp0 w K M (Lof M N)) c) (fun F c a M1 hc hI => by
      obtain ⟨x1, t1, f1, rfl⟩ := hI
      have b1 := Bk_sm b x1.1
      show ∃ a' M', sX8_countAgreeing_4 (F + 1) _ (nI c) M1 = _ ∧ _
      rw [sX8_countAgreeing_4, b1.1.2.1.2.2.1, if_neg (nle_nI hc (by omega)), x_tat b hv x1.1 t1 hc, Option.bind_some]
      unfold sX8_countAgreeing_38
      dsimp only
      rw [nI_1]
      by_cases z : tat M (Lof M N) c = -1
      · rw [if_pos z]
        refine ⟨_, M1, rfl, x1, t1, f1, ?_⟩
        rw [tot]
        unfold mp0
        rw [if_neg (fun p => p.1 z), add_z]
      · obtain ⟨M2, e2, f2, x2, t2⟩ := x_bat hq b (Nat.le_refl N) x1 t1 hc
        rw [if_neg z, e2, Option.bind_some]
        refine ⟨_, M2, rfl, x2, t2, Fr_tr f1 f2, ?_⟩
        rw [tot]
        unfold mp0
        by_cases z2 : tat M (Lof M N) c = nI (bst (wt w M c (Lof M N) 60) K)
        · rw [if_pos z2, if_pos ⟨z, z2⟩]
        · rw [if_neg z2, if_neg (fun p => z2 p.2), add_z]) (w * h) 0 4096 0 A2 (by omega) (by omega) ⟨x2, t2, fA, rfl⟩
    obtain ⟨B, x3, fB, eB⟩ := e34 y3
    obtain ⟨s', B2, e4, z1, z2, z3⟩ := lp_A (f := fun F a j M => sX12_maps_60 F a j M) (n := w * h) (I := fun c a M' => Mk kq N M M' (Lof M N) ∧ Fr pSc M M' ∧ a = tot (mp0 w K M (Lof M N)) c) (fun F c a M1 hc hI => by
      obtain ⟨x1, f1, rfl⟩ := hI
      have b1 := Bk_sm b x1.1
      have et := m_tat hq b hv (Nat.le_refl N) x1 hc
      show ∃ a' M', sX12_maps_60 (F + 1) _ (nI c) M1 = _ ∧ _
      rw [sX12_maps_60, b1.1.2.1.2.2.2.1, b1.1.2.1.2.2.2.2, nI_mul, if_neg (nle_nI hc (by omega)), et, Option.bind_some]
      unfold sX12_maps_103 sX12_maps_104
      dsimp only
      rw [nI_1]
      by_cases z : tat M (Lof M N) c = -1
      · rw [if_pos (tat_ng.mpr z)]
        refine ⟨_, M1, rfl, x1, f1, ?_⟩
        rw [tot]
        unfold mp0
        rw [if_neg (fun p => p.1 z)]
      · obtain ⟨M2, e2, f2, x2⟩ := m_bat hq b (by omega) (Nat.le_refl N) x1 hc
        rw [if_neg (fun p => z (tat_ng.mp p)), et, Option.bind_some]
        dsimp only
        rw [e2, Option.bind_some]
        dsimp only
        by_cases z2 : tat M (Lof M N) c = nI (bst (wt w M c (Lof M N) 60) K)
        · rw [if_pos z2]
          refine ⟨_, M2, rfl, x2, Fr_tr f1 f2, ?_⟩
          rw [tot]
          unfold mp0
          rw [if_pos ⟨z, z2⟩]
        · rw [if_neg z2]
          refine ⟨_, M2, rfl, x2, Fr_tr f1 f2, ?_⟩
          rw [tot]
          unfold mp0
          rw [if_neg (fun p => z2 p.2)]) (w * h) 0 4096 0 B (by omega) (by omega) ⟨x3, fB, rfl⟩
    have bD := Bk_sm b y1.1
    have bB := Bk_sm b z1.1
    refine ⟨B2, st_join (v := tot (mp0 w K M (Lof M N)) (w * h)) (Ma := D) (e32 ?_) ?_, z2⟩
    · rw [if_pos u0]
      have e9 : sX8_countAgreeing A2 = some (tot (mp0 w K M (Lof M N)) (w * h), D) := by
        unfold sX8_countAgreeing
        refine Eq.trans e2 ?_
        show sX8_countAgreeing_4 (4096 - w * h) s (nI (w * h)) D = _
        rw [show 4096 - w * h = (4095 - w * h) + 1 by omega, sX8_countAgreeing_4, bD.1.2.1.2.2.1, if_pos (nI_le (by omega) (by omega)), y4]
      rw [e9, Option.bind_some]
    · rw [eB, if_pos u0]
      refine Eq.trans e4 ?_
      show sX12_maps_60 (4096 - w * h) s' (nI (w * h)) B2 = _
      rw [show 4096 - w * h = (4095 - w * h) + 1 by omega, sX12_maps_60, bB.1.2.1.2.2.2.1, bB.1.2.1.2.2.2.2, nI_mul, if_pos (nI_le (by omega) (by omega)), z3]
  have d1 : ¬ a1 ≤ 0 := fun q => u0 (by
    rw [Int32.le_iff_toInt_le] at q
    rw [Int32.lt_iff_toInt_lt] at c1
    have e0 : (0 : Int32).toInt = 0 := rfl
    apply Int32.toInt_inj.mp
    omega)
  obtain ⟨d2, d3⟩ := ok.resolve_left d1
  obtain ⟨x, hx', ex⟩ := nI_ex (n := w - 1) d2 (Int32.le_of_lt d3) (by omega)
  subst ex
  have hxw : x + 1 < w := by
    have := (nI_ltI (by omega) (by omega)).mp d3
    omega
  have ec : ∀ y, nI y * nI w + nI x = nI (y * w + x) ∧ nI w * nI y + nI x = nI (y * w + x) := fun y => by
    rw [nI_mul, nI_mul, nI_add, nI_add, Nat.mul_comm w y]
    exact ⟨rfl, rfl⟩
  by_cases u1 : a1 = 1
  · obtain ⟨s, D, e2, y1, y2, y3, y4⟩ := lp_A (f := fun F a j M => sX8_seamOfOld_4 F (nI x) a j M) (n := h) (I := fun c a M' => Xk kq M M' (Lof M N) ∧ Tx M M' (Lof M N) ∧ Fr pSc M M' ∧ a = tot (mp1 w M (Lof M N) x) c) (fun F y a M1 hy hI => by
      obtain ⟨x1, t1, f1, rfl⟩ := hI
      have b1 := Bk_sm b x1.1
      obtain ⟨l1, l2⟩ := yx_lt hy hxw
      show ∃ a' M', sX8_seamOfOld_4 (F + 1) (nI x) _ (nI y) M1 = _ ∧ _
      rw [sX8_seamOfOld_4, b1.1.2.1.2.1, if_neg (nle_nI hy (by omega)), b1.1.2.1.1, (ec y).1, x_tat b hv x1.1 t1 l1, Option.bind_some]
      dsimp only
      rw [b1.1.2.1.1, (ec y).1, show nI (y * w + x) + 1 = nI (y * w + x + 1) by rw [nI_1], x_tat b hv x1.1 t1 l2, Option.bind_some]
      unfold sX8_seamOfOld_73
      dsimp only
      rw [show nI y + 1 = nI (y + 1) by rw [nI_1]]
      refine ⟨_, M1, rfl, x1, t1, f1, ?_⟩
      rw [tot]
      unfold mp1
      by_cases z1 : tat M (Lof M N) (y * w + x) = -1
      · rw [if_pos z1, if_neg (fun p => p.1 z1), add_z]
      · rw [if_neg z1]
        by_cases z2 : tat M (Lof M N) (y * w + x + 1) = -1
        · rw [if_pos z2, if_neg (fun p => p.2.1 z2), add_z]
        · rw [if_neg z2]
          by_cases z3 : tat M (Lof M N) (y * w + x) = tat M (Lof M N) (y * w + x + 1)
          · rw [if_pos z3, if_neg (fun p => p.2.2 z3), add_z]
          · rw [if_neg z3, if_pos ⟨z1, z2, z3⟩]) h 0 4096 0 A2 (by omega) (by omega) ⟨x2, t2, fA, rfl⟩
    obtain ⟨B, x3, fB, eB⟩ := e34 y3
    obtain ⟨s', B2, e4, z1, z2, z3⟩ := lp_A (f := fun F a j M => sX12_maps_117 F a1 (nI x) a j M) (n := h) (I := fun c a M' => Mk kq N M M' (Lof M N) ∧ Fr pSc M M' ∧ a = tot (mp1 w M (Lof M N) x) c) (fun F y a M1 hy hI => by
      obtain ⟨x1, f1, rfl⟩ := hI
      have b1 := Bk_sm b x1.1
      obtain ⟨l1, l2⟩ := yx_lt hy hxw
      have et1 := m_tat hq b hv (Nat.le_refl N) x1 l1
      have et2 := m_tat hq b hv (Nat.le_refl N) x1 l2
      show ∃ a' M', sX12_maps_117 (F + 1) a1 (nI x) _ (nI y) M1 = _ ∧ _
      rw [sX12_maps_117, b1.1.2.1.2.2.2.2, if_neg (nle_nI hy (by omega)), if_pos u1, b1.1.2.1.2.2.2.1, (ec y).2, et1, Option.bind_some]
      unfold sX12_maps_184 sX12_maps_185 sX12_maps_215
      dsimp only
      rw [show nI (y * w + x) + 1 = nI (y * w + x + 1) by rw [nI_1], show nI y + 1 = nI (y + 1) by rw [nI_1]]
      by_cases z1 : tat M (Lof M N) (y * w + x) = -1
      · rw [if_pos (tat_ng.mpr z1)]
        refine ⟨_, M1, rfl, x1, f1, ?_⟩
        rw [tot]
        unfold mp1
        rw [if_neg (fun p => p.1 z1)]
      · rw [if_neg (fun p => z1 (tat_ng.mp p)), et2, Option.bind_some]
        dsimp only
        by_cases z2 : tat M (Lof M N) (y * w + x + 1) = -1
        · rw [if_pos (tat_ng.mpr z2)]
          refine ⟨_, M1, rfl, x1, f1, ?_⟩
          rw [tot]
          unfold mp1
          rw [if_neg (fun p => p.2.1 z2)]
        · rw [if_neg (fun p => z2 (tat_ng.mp p)), et1, Option.bind_some]
          dsimp only
          rw [et2, Option.bind_some]
          dsimp only
          by_cases z3 : tat M (Lof M N) (y * w + x) = tat M (Lof M N) (y * w + x + 1)
          · rw [if_pos z3]
            refine ⟨_, M1, rfl, x1, f1, ?_⟩
            rw [tot]
            unfold mp1
            rw [if_neg (fun p => p.2.2 z3)]
          · rw [if_neg z3]
            refine ⟨_, M1, rfl, x1, f1, ?_⟩
            rw [tot]
            unfold mp1
            rw [if_pos ⟨z1, z2, z3⟩]) h 0 4096 0 B (by omega) (by omega) ⟨x3, fB, rfl⟩
    have bD := Bk_sm b y1.1
    have bB := Bk_sm b z1.1
    refine ⟨B2, st_join (v := tot (mp1 w M (Lof M N) x) h) (Ma := D) (e32 ?_) ?_, z2⟩
    · rw [if_neg u0, if_pos u1]
      have e9 : sX8_seamOfOld (nI x) A2 = some (tot (mp1 w M (Lof M N) x) h, D) := by
        unfold sX8_seamOfOld
        refine Eq.trans e2 ?_
        show sX8_seamOfOld_4 (4096 - h) (nI x) s (nI h) D = _
        rw [show 4096 - h = (4095 - h) + 1 by omega, sX8_seamOfOld_4, bD.1.2.1.2.1, if_pos (nI_le (by omega) (by omega)), y4]
      rw [e9, Option.bind_some]
    · rw [eB, if_neg u0]
      refine Eq.trans e4 ?_
      show sX12_maps_117 (4096 - h) a1 (nI x) s' (nI h) B2 = _
      rw [show 4096 - h = (4095 - h) + 1 by omega, sX12_maps_117, bB.1.2.1.2.2.2.2, if_pos (nI_le (by omega) (by omega)), z3]
  · obtain ⟨s, D, e2, y1, y2, y3, y4⟩ := lp_A (f := fun F a j M => sX8_seamOfBest_4 F (nI x) a j M) (n := h) (I := fun c a M' => Xk kq M M' (Lof M N) ∧ Tx M M' (Lof M N) ∧ Fr pSc M M' ∧ a = tot (mp2 w K M (Lof M N) x) c) (fun F y a M1 hy hI => by
      obtain ⟨x1, t1, f1, rfl⟩ := hI
      have b1 := Bk_sm b x1.1
      obtain ⟨l1, l2⟩ := yx_lt hy hxw
      obtain ⟨M2, e2, f2, x2, t2⟩ := x_bat hq b (Nat.le_refl N) x1 t1 l1
      have b2 := Bk_sm b x2.1
      obtain ⟨M3, e3, f3, x3, t3⟩ := x_bat hq b (Nat.le_refl N) x2 t2 l2
      show ∃ a' M', sX8_seamOfBest_4 (F + 1) (nI x) _ (nI y) M1 = _ ∧ _
      rw [sX8_seamOfBest_4, b1.1.2.1.2.1, if_neg (nle_nI hy (by omega)), b1.1.2.1.1, (ec y).1, e2, Option.bind_some]
      dsimp only
      rw [b2.1.2.1.1, (ec y).1, show nI (y * w + x) + 1 = nI (y * w + x + 1) by rw [nI_1], e3, Option.bind_some]
      unfold sX8_seamOfBest_53
      dsimp only
      rw [show nI y + 1 = nI (y + 1) by rw [nI_1]]
      refine ⟨_, M3, rfl, x3, t3, Fr_tr f1 (Fr_tr f2 f3), ?_⟩
      rw [tot]
      unfold mp2
      split
      · rw [add_z]
      · rfl) h 0 4096 0 A2 (by omega) (by omega) ⟨x2, t2, fA, rfl⟩
    obtain ⟨B, x3, fB, eB⟩ := e34 y3
    obtain ⟨s', B2, e4, z1, z2, z3⟩ := lp_A (f := fun F a j M => sX12_maps_117 F a1 (nI x) a j M) (n := h) (I := fun c a M' => Mk kq N M M' (Lof M N) ∧ Fr pSc M M' ∧ a = tot (mp2 w K M (Lof M N) x) c) (fun F y a M1 hy hI => by
      obtain ⟨x1, f1, rfl⟩ := hI
      have b1 := Bk_sm b x1.1
      obtain ⟨l1, l2⟩ := yx_lt hy hxw
      obtain ⟨M2, e2, f2, x2⟩ := m_bat hq b (by omega) (Nat.le_refl N) x1 l1
      obtain ⟨M3, e3, f3, x3⟩ := m_bat hq b (by omega) (Nat.le_refl N) x2 l2
      show ∃ a' M', sX12_maps_117 (F + 1) a1 (nI x) _ (nI y) M1 = _ ∧ _
      rw [sX12_maps_117, b1.1.2.1.2.2.2.2, if_neg (nle_nI hy (by omega)), if_neg u1, b1.1.2.1.2.2.2.1, (ec y).2, e2, Option.bind_some]
      dsimp only
      rw [show nI (y * w + x) + 1 = nI (y * w + x + 1) by rw [nI_1], e3, Option.bind_some]
      unfold sX12_maps_213 sX12_maps_215
      dsimp only
      rw [show nI y + 1 = nI (y + 1) by rw [nI_1]]
      exact ⟨_, M3, rfl, x3, Fr_tr f1 (Fr_tr f2 f3), rfl⟩) h 0 4096 0 B (by omega) (by omega) ⟨x3, fB, rfl⟩
    have bD := Bk_sm b y1.1
    have bB := Bk_sm b z1.1
    refine ⟨B2, st_join (v := tot (mp2 w K M (Lof M N) x) h) (Ma := D) (e32 ?_) ?_, z2⟩
    · rw [if_neg u0, if_neg u1]
      have e9 : sX8_seamOfBest (nI x) A2 = some (tot (mp2 w K M (Lof M N) x) h, D) := by
        unfold sX8_seamOfBest
        refine Eq.trans e2 ?_
        show sX8_seamOfBest_4 (4096 - h) (nI x) s (nI h) D = _
        rw [show 4096 - h = (4095 - h) + 1 by omega, sX8_seamOfBest_4, bD.1.2.1.2.1, if_pos (nI_le (by omega) (by omega)), y4]
      rw [e9, Option.bind_some]
    · rw [eB, if_neg u0]
      refine Eq.trans e4 ?_
      show sX12_maps_117 (4096 - h) a1 (nI x) s' (nI h) B2 = _
      rw [show 4096 - h = (4095 - h) + 1 by omega, sX12_maps_117, bB.1.2.1.2.2.2.2, if_pos (nI_le (by omega) (by omega)), z3]
