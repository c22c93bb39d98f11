abbrev Pl := Option (Nat × Nat × List Nat)
def bet (st : Pl) (s d : Nat) : Bool := match st with
  | none => true
  | some (fs, fd, _) => decide (fs < s) || (decide (s = fs) && decide (d < fd))
def plU (lim : Nat) (st : Pl) (s d : Nat) (p : List Nat) : Pl := if decide (d ≤ lim) && bet st s d then some (s, d, p) else st
def apt (w : Nat) (p : List Nat) (c : Nat) : Bool := p.all (fun a => decide (2 ≤ farN w a c))
def stN (w a b : Nat) : Nat := absN (a % w) (b % w) + absN (a / w) (b / w)
/-- all plans in the order of their cells -/
def full (w n lim : Nat) (G : Nat → Nat) (B : Nat → Bool) : Nat → Nat → Nat → Nat → List Nat → Pl → Pl
  | 0, _, sp, sm, p, st => plU lim st sm sp p
  | r + 1, fr, sp, sm, p, st => (List.range n).foldl (fun st c => if B c || !apt w p c then st else full w n lim G B r c (sp + stN w fr c + 1) (sm + G c) (p ++ [c]) st) st
theorem bet_mo {st : Pl} {s d s' d' : Nat} (h : bet st s d = true) (h1 : s ≤ s') (h2 : d' ≤ d) : bet st s' d' = true := by
  unfold bet at h ⊢
  cases st with
  | none => rfl
  | some q =>
    obtain ⟨fs, fd, p⟩ := q
    simp only [Bool.or_eq_true, Bool.and_eq_true, decide_eq_true_eq] at h ⊢
    omega
theorem apt_st {w c a : Nat} {p : List Nat} (h : apt w p c = true) (ha : a ∈ p) : 2 ≤ stN w a c := by
  unfold apt at h
  rw [List.all_eq_true] at h
  have := h a ha
  simp only [decide_eq_true_eq] at this
  unfold farN at this
  unfold stN
  omega
theorem fold_id {f : Pl → Nat → Pl} {st : Pl} : ∀ L : List Nat, (∀ c ∈ L, f st c = st) → L.foldl f st = st := by
  intro L
  induction L with
  | nil => intro _; rfl
  | cons x L ih =>
    intro h
    rw [List.foldl_cons, h x (List.mem_cons_self ..)]
    exact ih (fun c hc => h c (List.mem_cons_of_mem _ hc))
/-- nothing better comes behind a cell that can't lead to it -/
theorem full_pr {w n lim top : Nat} {G : Nat → Nat} {B : Nat → Bool} (ht : ∀ c, c < n → B c = false → G c ≤ top) : ∀ (r fr sp sm : Nat) (p : List Nat) (st : Pl), fr ∈ p → ¬ (sp + 3 * r ≤ lim ∧ bet st (sm + r * top) (sp + 3 * r) = true) → full w n lim G B r fr sp sm p st = st := by
  intro r
  induction r with
  | zero =>
    intro fr sp sm p st hp hb
    rw [full, plU, if_neg]
    intro q
    simp only [Bool.and_eq_true, decide_eq_true_eq] at q
    rw [Nat.zero_mul, Nat.mul_zero] at hb
    exact hb q
  | succ r ih =>
    intro fr sp sm p st hp hb
    rw [full]
    refine fold_id _ (fun c hc => ?_)
    have hc := List.mem_range.mp hc
    by_cases z : (B c || !apt w p c) = true
    · rw [if_pos z]
    · rw [if_neg z]
      simp only [Bool.or_eq_true, Bool.not_eq_true', not_or, Bool.not_eq_true, Bool.not_eq_false] at z
      have h1 := apt_st z.2 hp
      have h2 := ht c hc z.1
      refine ih c _ _ _ st (by simp) (fun q => hb ⟨by omega, bet_mo q.2 ?_ (by omega)⟩)
      rw [Nat.succ_mul]
      omega
def fS (st : Pl) : Int32 := match st with
  | none => -1
  | some q => nI q.1
def fD (st : Pl) : Int32 := match st with
  | none => 0
  | some q => nI q.2.1
def stOk (m : Nat) (st : Pl) : Prop := ∀ s d p, st = some (s, d, p) → s ≤ 400000 ∧ d ≤ 10000 ∧ p.length = m
theorem plU_ok {m lim s d : Nat} {p : List Nat} {st : Pl} (h : stOk m st) (h1 : s ≤ 400000) (h2 : d ≤ 10000) (h3 : p.length = m) : stOk m (plU lim st s d p) := by
  unfold plU
  split
  · intro s' d' p' e
    cases e
    exact ⟨h1, h2, h3⟩
  · exact h
theorem fS_n : fS none = -1 := rfl
theorem fS_s (q : Nat × Nat × List Nat) : fS (some q) = nI q.1 := rfl
theorem fD_s (q : Nat × Nat × List Nat) : fD (some q) = nI q.2.1 := rfl
theorem x_bet {m s d : Nat} {st : Pl} {M : Mm} (h : stOk m st) (hs : s ≤ 1000000) (hd : d ≤ 100000) (e7 : M.1 174 7 = fS st) (e8 : M.1 174 8 = fD st) : sX9_isBetter (nI s) (nI d) M = some (b2 (bet st s d), M) := by
  unfold sX9_isBetter sX9_isBetter_24 bet
  rw [e7, e8]
  cases st with
  | none =>
    rw [fS_n, if_pos (Int32.lt_of_lt_of_le (show (-1 : Int32) < 0 by decide) (nI_nn (by omega)))]
    rfl
  | some q =>
    obtain ⟨fs, fd, p⟩ := q
    obtain ⟨l1, l2, l3⟩ := h fs fd p rfl
    rw [fS_s, fD_s]
    dsimp only
    by_cases z : fs < s
    · rw [if_pos (nI_lt z (by omega))]
      simp [z, b2]
    · rw [if_neg (nlt_nI (by omega) (by omega))]
      by_cases z2 : s = fs
      · subst z2
        rw [if_pos rfl]
        by_cases z3 : fd ≤ d
        · rw [if_pos (nI_le z3 (by omega))]
          have : ¬ d < fd := by omega
          simp [this, b2]
        · rw [if_neg (nle_nI (by omega) (by omega))]
          have : d < fd := by omega
          simp [this, b2]
      · rw [if_neg (ne_nI z2 (by omega) (by omega))]
        simp [z, z2, b2]
theorem x_steps {w h a b : Nat} {M : Mm} (g : iLandW w h M) (ha : a < w * h) (hb : b < w * h) : sX6_steps (nI a) (nI b) M = some (nI (stN w a b), M) := by
  have h64 := wh64 g.1
  have g3 := g.2.2.1
  have h1 := Nat.mod_le a w
  have h2 := Nat.mod_le b w
  have h3 := Nat.div_le_self a w
  have h4 := Nat.div_le_self b w
  simp only [sX6_steps, ckT (inb_nI (show a < 64 by omega) (by decide)), ckT (inb_nI (show b < 64 by omega) (by decide)), nI_clamp (show a < 2 ^ 31 by omega), nI_clamp (show b < 2 ^ 31 by omega), (g3 a ha).1, (g3 a ha).2, (g3 b hb).1, (g3 b hb).2]
  rw [abs_nI (by omega) (by omega), abs_nI (by omega) (by omega), nI_add]
  rfl
theorem stN_le {w a b : Nat} (ha : a < 64) (hb : b < 64) : stN w a b ≤ 126 := by
  have := far_lt (w := w) ha hb
  unfold stN
  omega
theorem x_apart {w h c : Nat} {p : List Nat} {M : Mm} (g : iLandW w h M) (hc : c < w * h) (hl : p.length ≤ 3) (hp : ∀ k, k < p.length → M.1 176 k = nI (p.getD k 0) ∧ p.getD k 0 < w * h) : sX9_isApart (nI p.length) (nI c) M = some (b2 (apt w p c), M) := by
  have h64 := wh64 g.1
  have go : ∀ (d j F : Nat), j + d = p.length → d < F → apt w (p.take j) c = true → sX9_isApart_2 F (nI p.length) (nI c) (nI j) M = some (b2 (apt w p c), M) := by
    intro d
    induction d with
    | zero =>
      intro j F hj hF ha
      obtain ⟨F, rfl⟩ : ∃ G, F = G + 1 := ⟨F - 1, by omega⟩
      have : j = p.length := by omega
      subst this
      rw [List.take_length] at ha
      rw [sX9_isApart_2, if_pos (nI_le (by omega) (by omega)), ha]
      rfl
    | succ d ih =>
      intro j F hj hF ha
      obtain ⟨F, rfl⟩ : ∃ G, F = G + 1 := ⟨F - 1, by omega⟩
      have hjl : j < p.length := by omega
      obtain ⟨e1, e2⟩ := hp j hjl
      have hf := far_lt (w := w) (show p.getD j 0 < 64 by omega) (show c < 64 by omega)
      have hfl : farN w (p.getD j 0) c < 64 := by unfold farN; omega
      rw [sX9_isApart_2, if_neg (nle_nI hjl (by omega)), ckT (inb_nI (by omega) (by decide)), nI_clamp (by omega), e1, x_far g e2 hc, Option.bind_some]
      dsimp only
      have ea : apt w (p.take (j + 1)) c = (apt w (p.take j) c && decide (2 ≤ farN w (p.getD j 0) c)) := by
        rw [take_sc hjl]
        unfold apt
        rw [List.all_append]
        simp
      by_cases z : 2 ≤ farN w (p.getD j 0) c
      · rw [if_pos (show (2 : Int32) ≤ nI _ from nI_le (a := 2) z (by omega)), nI_1]
        exact ih (j + 1) F (by omega) (by omega) (by rw [ea, ha]; simp only [Bool.true_and, decide_eq_true_eq]; exact z)
      · rw [if_neg (show ¬ (2 : Int32) ≤ nI _ from nle_nI (a := 2) (by omega) (by omega))]
        have : apt w p c = false := by
          cases hh : apt w p c with
          | false => rfl
          | true =>
            unfold apt at hh
            rw [List.all_eq_true] at hh
            have := hh _ (getD_in hjl)
            simp only [decide_eq_true_eq] at this
            exact absurd this z
        rw [this]
        rfl
  unfold sX9_isApart
  exact go p.length 0 4096 (by omega) (by omega) rfl
def pPl (id k : Nat) : Prop := id = 176 ∨ id = 177 ∨ id = 174 ∧ (k = 7 ∨ k = 8)
/-- what stands in the planner while it searches -/
def Sx (m : Nat) (Ms M : Mm) (st : Pl) : Prop := Fr pPl Ms M ∧ M.1 174 7 = fS st ∧ M.1 174 8 = fD st ∧ stOk m st ∧ ∀ s d p, st = some (s, d, p) → ∀ k, k < m → M.1 177 k = nI (p.getD k 0)
theorem x_keep {m s d : Nat} {p : List Nat} {Ms M : Mm} {st : Pl} (hm : m ≤ 3) (e3 : Ms.1 174 3 = nI m) (x : Sx m Ms M st) (hl : p.length = m) (hs : s ≤ 400000) (hd : d ≤ 10000) (hp : ∀ k, k < m → M.1 176 k = nI (p.getD k 0)) : ∃ M', sX9_keepFound (nI s) (nI d) M = some M' ∧ Sx m Ms M' (some (s, d, p)) ∧ ∀ k, M'.1 176 k = M.1 176 k := by
  obtain ⟨x1, x2, x3, x4, x5⟩ := x
  obtain ⟨M', e, f, q⟩ := lp_M (f := fun F i M => sX9_keepFound_12 F i M) (n := m) (I := fun j M' => Fr (fun id _ => id = 177) (sI (sI M 174 7 (nI s)) 174 8 (nI d)) M' ∧ ∀ k, k < j → M'.1 177 k = nI (p.getD k 0)) (fun F j M1 hj h => by
    refine ⟨sI M1 177 j (nI (p.getD j 0)), ?_, Fr_sI h.1 rfl, fun k hk => ?_⟩
    · show sX9_keepFound_12 (F + 1) (nI j) M1 = _
      rw [sX9_keepFound_12, (h.1 174 3 (by omega)).1, rdN (by omega), rdN (by omega), (x1 174 3 (by unfold pPl; omega)).1, e3, if_neg (nle_nI hj (by omega)), if_neg (lit_nle (v := 3) (n := 3) rfl (by omega) (by decide)), ckT (inb_nI (by omega) (by decide)), ckT (inb_nI (by omega) (by decide)), nI_clamp (by omega), nI_1, (h.1 176 j (by omega)).1, rdN (by omega), rdN (by omega), hp j hj]
    · by_cases u : k = j
      · rw [u, rdS]
      · rw [rdN (by omega)]; exact h.2 k (by omega)) m 0 4096 (sI (sI M 174 7 (nI s)) 174 8 (nI d)) (by omega) (by omega) ⟨Fr_rf _ _, fun k hk => absurd hk (Nat.not_lt_zero k)⟩
  refine ⟨M', ?_, ⟨?_, ?_, ?_, fun s' d' p' e => ?_, fun s' d' p' e k hk => ?_⟩, fun k => ?_⟩
  · unfold sX9_keepFound
    refine Eq.trans e ?_
    show sX9_keepFound_12 (4096 - m) (nI m) M' = _
    rw [show 4096 - m = (4095 - m) + 1 by omega, sX9_keepFound_12, (f 174 3 (by omega)).1, rdN (by omega), rdN (by omega), (x1 174 3 (by unfold pPl; omega)).1, e3, if_pos (nI_le (by omega) (by omega))]
  · exact Fr_tr x1 (Fr_tr (Fr_sI (Fr_sI (Fr_rf _ _) (by unfold pPl; omega)) (by unfold pPl; omega)) (Fr_mo f (fun id k q => by unfold pPl; omega)))
  · rw [(f 174 7 (by omega)).1, rdN (by omega), rdS]; rfl
  · rw [(f 174 8 (by omega)).1, rdS]; rfl
  · cases e; exact ⟨hs, hd, hl⟩
  · cases e; exact q k hk
  · rw [(f 176 k (by omega)).1, rdN (by omega), rdN (by omega)]
