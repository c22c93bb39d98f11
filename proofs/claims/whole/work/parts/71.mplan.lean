def pPm (id k : Nat) : Prop := id = 235 ∨ id = 194 ∧ (k = 74 ∨ k = 75 ∨ k = 77 ∨ k = 78)
def Sy (m : Nat) (Ms M : Mm) (st : Pl) : Prop := Fr pPm Ms M ∧ M.1 194 77 = fS st ∧ M.1 194 78 = fD st ∧ stOk m st ∧ (st = none → M.1 194 74 = Ms.1 194 74 ∧ M.1 194 75 = Ms.1 194 75 ∧ ∀ k, M.1 235 k = Ms.1 235 k) ∧ ∀ s d p, st = some (s, d, p) → M.1 194 74 = nI m ∧ M.1 194 75 = nI d ∧ ∀ k, k < m → M.1 235 k = nI (p.getD k 0)
def Sd (w h m lim : Nat) (G : Nat → Nat) (B : Nat → Bool) (Ms : Mm) : Prop := iLandW w h Ms ∧ (1 ≤ m ∧ m ≤ 3) ∧ lim ≤ 60 ∧ (∀ c, c < w * h → Ms.1 233 c = nI (G c) ∧ Ms.1 234 c = b2 (B c)) ∧ ∀ c, c < w * h → G c ≤ 99000
theorem m_steps {w a b : Nat} {M : Mm} (e3 : M.1 194 3 = nI w) (hw : 0 < w) (hw8 : w ≤ 8) (ha : a < 64) (hb : b < 64) : sX12_steps (nI a) (nI b) M = some (nI (stN w a b), M) := by
  have h1 := Nat.mod_le a w
  have h2 := Nat.mod_le b w
  have h3 := Nat.div_le_self a w
  have h4 := Nat.div_le_self b w
  unfold sX12_steps
  rw [e3, ckT (nz_nI hw (by omega)), ckT (nz_nI hw (by omega)), nI_md (by omega) (by omega), nI_md (by omega) (by omega), m_size (by omega) (by omega), Option.bind_some]
  dsimp only
  rw [e3, ckT (nz_nI hw (by omega)), ckT (nz_nI hw (by omega)), nI_dv (by omega) (by omega), nI_dv (by omega) (by omega), m_size (by omega) (by omega), Option.bind_some]
  dsimp only
  rw [nI_add]
  rfl
theorem m_better {w h m lim s d : Nat} {x2 x3 x4 : Int32} {G : Nat → Nat} {B : Nat → Bool} {p : List Nat} {st : Pl} {Ms M : Mm} (sd : Sd w h m lim G B Ms) (x : Sy m Ms M st) (hl : p.length = m) (hs : s ≤ 400000) (hd : d ≤ 10000) (hx : ∀ k, k < m → [x2, x3, x4].getD k 0 = nI (p.getD k 0)) : ∃ M', sX12_better (nI m) x2 x3 x4 (nI d) (nI s) (nI lim) M = some M' ∧ Sy m Ms M' (plU lim st s d p) := by
  obtain ⟨g, hm, hlim, -⟩ := sd
  have x0 := x
  obtain ⟨x1, e7, e8, ok, xn, xs⟩ := x
  have z0 : inb 0 3 = true := by decide
  have z1 : inb 1 3 = true := by decide
  have z2 : inb 2 3 = true := by decide
  have take : ∃ M', sX12_better_35 (nI m) x2 x3 x4 (nI d) (nI s) M = some M' ∧ Sy m Ms M' (some (s, d, p)) := by
    refine ⟨_, by unfold sX12_better_35; rw [ckT z0, ckT z1, ckT z2], ?_, ?_, ?_, ?_, (fun q => by cases q), ?_⟩
    · exact Fr_sI (Fr_sI (Fr_sI (Fr_sI (Fr_sI (Fr_sI (Fr_sI x1 (by unfold pPm; omega)) (by unfold pPm; omega)) (by unfold pPm; omega)) (by unfold pPm; omega)) (by unfold pPm; omega)) (by unfold pPm; omega)) (by unfold pPm; omega)
    · simp [rdI]; rfl
    · simp [rdI]; rfl
    · intro s' d' p' e; cases e; exact ⟨hs, hd, hl⟩
    · intro s' d' p' e
      cases e
      refine ⟨by simp [rdI], by simp [rdI], fun k hk => ?_⟩
      rw [← hx k hk]
      have hk3 : k < 3 := by omega
      match k, hk3 with
      | 0, _ => simp [rdI]
      | 1, _ => simp [rdI]
      | 2, _ => simp [rdI]
  unfold sX12_better plU
  rw [e7, e8]
  by_cases c1 : d ≤ lim
  · rw [if_neg (nlt_nI c1 (by omega)), decide_eq_true c1]
    cases hst : st with
    | none =>
      rw [fS_n, if_neg (fun q => absurd (Int32.lt_trans q (show (-1 : Int32) < 0 by decide)) (Int32.not_lt.mpr (nI_nn (by omega)))), if_neg (nI_ne1 (by omega))]
      exact take
    | some q =>
      obtain ⟨fs, fd, pp⟩ := q
      obtain ⟨l1, l2, l3⟩ := ok fs fd pp hst
      rw [fS_s, fD_s]
      unfold bet
      dsimp only
      by_cases c2 : s < fs
      · rw [if_pos (nI_lt c2 (by omega))]
        refine ⟨M, rfl, ?_⟩
        rw [if_neg (by simp only [Bool.true_and, Bool.or_eq_true, Bool.and_eq_true, decide_eq_true_eq]; omega), ← hst]
        exact x0
      · rw [if_neg (nlt_nI (by omega) (by omega))]
        by_cases c3 : s = fs
        · subst c3
          rw [if_pos rfl]
          by_cases c4 : d < fd
          · rw [if_pos (nI_lt c4 (by omega)), if_pos (by simp [c4])]
            exact take
          · rw [if_neg (nlt_nI (by omega) (by omega))]
            refine ⟨M, rfl, ?_⟩
            rw [if_neg (by simp [c4]), ← hst]
            exact x0
        · rw [if_neg (ne_nI c3 (by omega) (by omega)), if_pos (by simp only [Bool.true_and, Bool.or_eq_true, Bool.and_eq_true, decide_eq_true_eq]; omega)]
          exact take
  · rw [if_pos (nI_lt (by omega) (by omega)), decide_eq_false c1, if_neg (by simp)]
    exact ⟨M, rfl, x0⟩
theorem m_may {w h m lim c : Nat} {G : Nat → Nat} {B : Nat → Bool} {st : Pl} {Ms M : Mm} (sd : Sd w h m lim G B Ms) (x : Sy m Ms M st) (hc : c < w * h) : sX12_mayBore (nI c) M = some (b2 (!B c), M) := by
  obtain ⟨g, hm, hlim, hG, -⟩ := sd
  have h64 := wh64 g.1
  unfold sX12_mayBore
  rw [ckT (inb_nI (by omega) (by decide)), nI_clamp (by omega), (x.1 234 c (by unfold pPm; omega)).1, (hG c hc).2]
  cases B c <;> rfl
theorem m_fs {w h m lim a c : Nat} {G : Nat → Nat} {B : Nat → Bool} {st : Pl} {Ms M : Mm} (sd : Sd w h m lim G B Ms) (x : Sy m Ms M st) (ha : a < w * h) (hc : c < w * h) : sX12_far (nI a) (nI c) M = some (nI (farN w a c), M) ∧ sX12_steps (nI a) (nI c) M = some (nI (stN w a c), M) ∧ farN w a c < 64 ∧ stN w a c ≤ 126 ∧ M.1 233 c = nI (G c) ∧ M.1 233 a = nI (G a) := by
  obtain ⟨g, hm, hlim, hG, -⟩ := sd
  have h64 := wh64 g.1
  have e3 : M.1 194 3 = nI w := by rw [(x.1 194 3 (by unfold pPm; omega)).1]; exact g.2.1.2.2.2.1
  have hf := far_lt (w := w) (show a < 64 by omega) (show c < 64 by omega)
  have gw := g.1
  refine ⟨m_far e3 (by omega) (by omega) (by omega) (by omega), m_steps e3 (by omega) (by omega) (by omega) (by omega), by unfold farN; omega, stN_le (by omega) (by omega), ?_, ?_⟩
  · rw [(x.1 233 c (by unfold pPm; omega)).1]; exact (hG c hc).1
  · rw [(x.1 233 a (by unfold pPm; omega)).1]; exact (hG a ha).1
theorem m_cl {w h lim a b first second : Nat} {x3 : Int32} {G : Nat → Nat} {B : Nat → Bool} {st : Pl} {Ms M : Mm} {k174 : Int32 → Int32 → Int32 → Int32 → Int32 → Mm → Option (Int32 × Mm)} {k231 : Int32 → Int32 → Int32 → Int32 → Int32 → Int32 → Int32 → Mm → Option (Int32 × Mm)} (sd : Sd w h 3 lim G B Ms) (x : Sy 3 Ms M st) (ha : a < w * h) (hb : b < w * h) (h2 : second ≤ 254) :
    ∃ M', sX12_plan_318 k174 k231 4096 (nI 3) (nI lim) x3 (nI (w * h)) (nI a) (nI first) (nI b) (nI second) 0 M = k231 (nI 3) (nI lim) x3 (nI (w * h)) (nI a) (nI first) (nI (b + 1)) M' ∧ Sy 3 Ms M' (full w (w * h) lim G B 1 b second (G a + G b) [a, b] st) := by
  have h64 := wh64 sd.1.1
  have hG := sd.2.2.2.2
  obtain ⟨M', e, f⟩ := lp_M (f := fun F i M => sX12_plan_318 k174 k231 F (nI 3) (nI lim) x3 (nI (w * h)) (nI a) (nI first) (nI b) (nI second) i M) (n := w * h) (I := fun c M' => Sy 3 Ms M' ((List.range c).foldl (plf w (w * h) lim G B 0 b second (G a + G b) [a, b]) st)) (fun F c M1 hc y => by
    show ∃ M', sX12_plan_318 k174 k231 (F + 1) (nI 3) (nI lim) x3 (nI (w * h)) (nI a) (nI first) (nI b) (nI second) (nI c) M1 = _ ∧ _
    rw [rg_fold]
    generalize (List.range c).foldl (plf w (w * h) lim G B 0 b second (G a + G b) [a, b]) st = st1 at y
    obtain ⟨fa, -, fa2, -, gc, ga⟩ := m_fs sd y ha hc
    obtain ⟨fb, sb, fb2, sb2, -, gb⟩ := m_fs sd y hb hc
    rw [sX12_plan_318, if_neg (nle_nI hc (by omega)), if_neg (by decide), m_may sd y hc, Option.bind_some]
    unfold sX12_plan_414 plf
    dsimp only
    rw [show nI c + 1 = nI (c + 1) by rw [nI_1]]
    have ea : apt w [a, b] c = (decide (2 ≤ farN w a c) && decide (2 ≤ farN w b c)) := by unfold apt; simp
    rw [ea]
    by_cases c1 : B c = true
    · rw [c1, if_pos (by decide)]
      exact ⟨M1, rfl, by simpa using y⟩
    · have c1' : B c = false := by cases hh : B c <;> simp_all
      rw [c1', if_neg (by decide), fa, Option.bind_some]
      dsimp only
      by_cases c2 : 2 ≤ farN w a c
      · rw [if_neg (show ¬ nI (farN w a c) < 2 from nlt_nI (b := 2) c2 (by omega)), fb, Option.bind_some]
        dsimp only
        by_cases c3 : 2 ≤ farN w b c
        · rw [if_pos (show (2 : Int32) ≤ nI (farN w b c) from nI_le (a := 2) c3 (by omega)), sb, Option.bind_some]
          dsimp only
          have l1 := hG a ha
          have l2 := hG b hb
          have l3 := hG c hc
          rw [ckT (inb_nI (by omega) (by decide)), ckT (inb_nI (by omega) (by decide)), ckT (inb_nI (by omega) (by decide)), nI_clamp (show a < 2 ^ 31 by omega), nI_clamp (show b < 2 ^ 31 by omega), nI_clamp (show c < 2 ^ 31 by omega), ga, gb, gc, nI_add, nI_1, nI_add, nI_add]
          obtain ⟨M2, m1, m2⟩ := m_better (lim := lim) (s := G a + G b + G c) (d := second + stN w b c + 1) (x2 := nI a) (x3 := nI b) (x4 := nI c) (p := [a, b, c]) sd y rfl (by omega) (by omega) (fun k hk => by
            match k, hk with
            | 0, _ => rfl
            | 1, _ => rfl
            | 2, _ => rfl)
          have m1' : sX12_better 3 (nI a) (nI b) (nI c) (nI (second + stN w b c + 1)) (nI (G a + G b + G c)) (nI lim) M1 = some M2 := m1
          rw [m1', Option.bind_some]
          refine ⟨M2, rfl, ?_⟩
          rw [if_neg (by simp only [c2, c3]; simp)]
          rw [full]
          exact m2
        · rw [if_neg (show ¬ (2 : Int32) ≤ nI (farN w b c) from nle_nI (a := 2) (by omega) (by omega))]
          exact ⟨M1, rfl, by rw [if_pos (by simp only [c3]; simp)]; exact y⟩
      · rw [if_pos (show nI (farN w a c) < 2 from nI_lt (b := 2) (by omega) (by omega))]
        exact ⟨M1, rfl, by rw [if_pos (by simp only [c2]; simp)]; exact y⟩) (w * h) 0 4096 M (by omega) (by omega) x
  refine ⟨M', ?_, by rw [full]; exact f⟩
  refine Eq.trans e ?_
  show sX12_plan_318 k174 k231 (4096 - w * h) (nI 3) (nI lim) x3 (nI (w * h)) (nI a) (nI first) (nI b) (nI second) (nI (w * h)) M' = _
  rw [show 4096 - w * h = (4095 - w * h) + 1 by omega, sX12_plan_318, if_pos (nI_le (by omega) (by omega))]
  unfold sX12_plan_420
  rw [nI_1]
theorem m_bl {w h m lim a first : Nat} {x3 : Int32} {G : Nat → Nat} {B : Nat → Bool} {st : Pl} {Ms M : Mm} {k174 : Int32 → Int32 → Int32 → Int32 → Int32 → Mm → Option (Int32 × Mm)} (sd : Sd w h m lim G B Ms) (hm2 : 2 ≤ m) (x : Sy m Ms M st) (ha : a < w * h) (h1 : first ≤ 127) :
    ∃ M', sX12_plan_231 k174 4096 (nI m) (nI lim) x3 (nI (w * h)) (nI a) (nI first) 0 M = k174 (nI m) (nI lim) x3 (nI (w * h)) (nI (a + 1)) M' ∧ Sy m Ms M' (full w (w * h) lim G B (m - 1) a first (G a) [a] st) := by
  have h64 := wh64 sd.1.1
  have gw := sd.1.1
  have hG := sd.2.2.2.2
  have hm := sd.2.1
  have hwh : 2 * 2 ≤ w * h := Nat.mul_le_mul gw.1 gw.2.2.1
  obtain ⟨M', e, f⟩ := lp_M (f := fun F i M => sX12_plan_231 k174 F (nI m) (nI lim) x3 (nI (w * h)) (nI a) (nI first) i M) (n := w * h) (I := fun c M' => Sy m Ms M' ((List.range c).foldl (plf w (w * h) lim G B (m - 2) a first (G a) [a]) st)) (fun F b M1 hb y => by
    show ∃ M', sX12_plan_231 k174 (F + 1) (nI m) (nI lim) x3 (nI (w * h)) (nI a) (nI first) (nI b) M1 = _ ∧ _
    rw [rg_fold]
    generalize (List.range b).foldl (plf w (w * h) lim G B (m - 2) a first (G a) [a]) st = st1 at y
    obtain ⟨fa, sa, fa2, sa2, gb, ga⟩ := m_fs sd y ha hb
    rw [sX12_plan_231, if_neg (nle_nI hb (by omega)), if_neg (show ¬ nI m ≤ 1 from nle_nI (b := 1) (by omega) (by omega)), m_may sd y hb, Option.bind_some]
    unfold sX12_plan_315 plf
    dsimp only
    have ea : apt w [a] b = decide (2 ≤ farN w a b) := by unfold apt; simp
    rw [ea]
    by_cases c1 : B b = true
    · rw [c1, if_pos (by decide)]
      unfold sX12_plan_420
      rw [show nI b + 1 = nI (b + 1) by rw [nI_1]]
      exact ⟨M1, rfl, by simpa using y⟩
    · have c1' : B b = false := by cases hh : B b <;> simp_all
      rw [c1', if_neg (by decide), fa, Option.bind_some]
      dsimp only
      by_cases c2 : 2 ≤ farN w a b
      · rw [if_pos (show (2 : Int32) ≤ nI (farN w a b) from nI_le (a := 2) c2 (by omega)), sa, Option.bind_some]
        dsimp only
        have l1 := hG a ha
        have l2 := hG b hb
        rw [nI_add, nI_1, if_neg (show ¬ ((false || !decide (2 ≤ farN w a b)) = true) by simp only [c2]; simp)]
        by_cases m2 : m = 2
        · subst m2
          obtain ⟨M2, m1, m2⟩ := m_better (lim := lim) (s := G a + G b) (d := first + stN w a b + 1) (x2 := nI a) (x3 := nI b) (x4 := -1) (p := [a, b]) sd y rfl (by omega) (by omega) (fun k hk => by
            match k, hk with
            | 0, _ => rfl
            | 1, _ => rfl)
          have m1' : sX12_better 2 (nI a) (nI b) (-1) (nI (first + stN w a b + 1)) (nI (G a + G b)) (nI lim) M1 = some M2 := m1
          rw [if_pos (show nI 2 = 2 from rfl), ckT (inb_nI (by omega) (by decide)), ckT (inb_nI (by omega) (by decide)), nI_clamp (show a < 2 ^ 31 by omega), nI_clamp (show b < 2 ^ 31 by omega), ga, gb, nI_add, m1', Option.bind_some]
          rw [show (4096 : Nat) = 4095 + 1 from rfl, sX12_plan_318, if_neg (show ¬ nI (w * h) ≤ 0 from nle_nI (b := 0) (by omega) (by omega)), if_pos (by decide)]
          unfold sX12_plan_420
          rw [show nI b + 1 = nI (b + 1) by rw [nI_1]]
          exact ⟨M2, rfl, m2⟩
        · have m3 : m = 3 := by omega
          subst m3
          rw [if_neg (show ¬ nI 3 = 2 by decide)]
          obtain ⟨M2, n1, n2⟩ := m_cl (x3 := x3) (first := first) (k174 := k174) (k231 := sX12_plan_231 k174 F) sd y ha hb (show first + stN w a b + 1 ≤ 254 by omega)
          exact ⟨M2, n1, n2⟩
      · rw [if_neg (show ¬ (2 : Int32) ≤ nI (farN w a b) from nle_nI (a := 2) (by omega) (by omega))]
        unfold sX12_plan_420
        rw [show nI b + 1 = nI (b + 1) by rw [nI_1]]
        exact ⟨M1, rfl, by rw [if_pos (by simp only [c2]; simp)]; exact y⟩) (w * h) 0 4096 M (by omega) (by omega) x
  refine ⟨M', ?_, ?_⟩
  · refine Eq.trans e ?_
    show sX12_plan_231 k174 (4096 - w * h) (nI m) (nI lim) x3 (nI (w * h)) (nI a) (nI first) (nI (w * h)) M' = _
    rw [show 4096 - w * h = (4095 - w * h) + 1 by omega, sX12_plan_231, if_pos (nI_le (by omega) (by omega))]
    unfold sX12_plan_426
    rw [nI_1]
  · rw [show m - 1 = (m - 2) + 1 by omega, full]
    exact f
theorem m_al {w h m lim start : Nat} {G : Nat → Nat} {B : Nat → Bool} {Ms : Mm} (sd : Sd w h m lim G B Ms) (hs : start < w * h) (x : Sy m Ms Ms none) :
    ∃ M', sX12_plan_174 4096 (nI m) (nI lim) (nI start) (nI (w * h)) 0 Ms = some (fS (full w (w * h) lim G B m start 0 0 [] none), M') ∧ Sy m Ms M' (full w (w * h) lim G B m start 0 0 [] none) := by
  have h64 := wh64 sd.1.1
  have gw := sd.1.1
  have hG := sd.2.2.2.2
  have hm := sd.2.1
  have hwh : 2 * 2 ≤ w * h := Nat.mul_le_mul gw.1 gw.2.2.1
  obtain ⟨M', e, f⟩ := lp_M (f := fun F i M => sX12_plan_174 F (nI m) (nI lim) (nI start) (nI (w * h)) i M) (n := w * h) (I := fun c M' => Sy m Ms M' ((List.range c).foldl (plf w (w * h) lim G B (m - 1) start 0 0 []) none)) (fun F a M1 ha y => by
    show ∃ M', sX12_plan_174 (F + 1) (nI m) (nI lim) (nI start) (nI (w * h)) (nI a) M1 = _ ∧ _
    rw [rg_fold]
    generalize (List.range a).foldl (plf w (w * h) lim G B (m - 1) start 0 0 []) none = st1 at y
    obtain ⟨-, sa, -, sa2, ga, -⟩ := m_fs sd y hs ha
    rw [sX12_plan_174, if_neg (nle_nI ha (by omega)), m_may sd y ha, Option.bind_some]
    unfold sX12_plan_228 plf
    dsimp only
    have ea : apt w [] a = true := rfl
    rw [ea, Nat.zero_add, Nat.zero_add, List.nil_append]
    by_cases c1 : B a = true
    · rw [c1, if_pos (by decide)]
      unfold sX12_plan_426
      rw [show nI a + 1 = nI (a + 1) by rw [nI_1]]
      exact ⟨M1, rfl, by simpa using y⟩
    · have c1' : B a = false := by cases hh : B a <;> simp_all
      rw [c1', if_neg (by decide), sa, Option.bind_some]
      dsimp only
      have l1 := hG a ha
      rw [nI_1, if_neg (show ¬ ((false || !true) = true) by decide)]
      by_cases m1 : m = 1
      · subst m1
        obtain ⟨M2, n1, n2⟩ := m_better (lim := lim) (s := G a) (d := stN w start a + 1) (x2 := nI a) (x3 := -1) (x4 := -1) (p := [a]) sd y rfl (by omega) (by omega) (fun k hk => by
          match k, hk with
          | 0, _ => rfl)
        have n1' : sX12_better 1 (nI a) (-1) (-1) (nI (stN w start a + 1)) (nI (G a)) (nI lim) M1 = some M2 := n1
        rw [if_pos (show nI 1 = 1 from rfl), ckT (inb_nI (by omega) (by decide)), nI_clamp (show a < 2 ^ 31 by omega), ga, n1', Option.bind_some]
        rw [show (4096 : Nat) = 4095 + 1 from rfl, sX12_plan_231, if_neg (show ¬ nI (w * h) ≤ 0 from nle_nI (b := 0) (by omega) (by omega)), if_pos (by decide)]
        unfold sX12_plan_426
        rw [show nI a + 1 = nI (a + 1) by rw [nI_1]]
        exact ⟨M2, rfl, n2⟩
      · rw [if_neg (show ¬ nI m = 1 from ne_nI (b := 1) m1 (by omega) (by omega))]
        exact m_bl sd (by omega) y ha (by omega)) (w * h) 0 4096 Ms (by omega) (by omega) x
  have f' : Sy m Ms M' (full w (w * h) lim G B m start 0 0 [] none) := by
    rw [show m = (m - 1) + 1 by omega] at f ⊢
    rw [full]
    exact f
  refine ⟨M', ?_, f'⟩
  refine Eq.trans e ?_
  show sX12_plan_174 (4096 - w * h) (nI m) (nI lim) (nI start) (nI (w * h)) (nI (w * h)) M' = _
  rw [show 4096 - w * h = (4095 - w * h) + 1 by omega, sX12_plan_174, if_pos (nI_le (by omega) (by omega)), f'.2.1]
