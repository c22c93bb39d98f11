/-- what the search stands on -/
def Sb (w h m lim top : Nat) (G : Nat → Nat) (B : Nat → Bool) (Ms : Mm) : Prop := iLandW w h Ms ∧ (1 ≤ m ∧ m ≤ 3) ∧ lim ≤ 60 ∧ top ≤ 99000 ∧ Ms.1 174 3 = nI m ∧ Ms.1 174 4 = nI lim ∧ Ms.1 174 2 = nI top ∧ (∀ c, c < w * h → Ms.1 175 c = if B c = true then -1 else nI (G c)) ∧ (∀ c, c < w * h → G c ≤ 99000) ∧ ∀ c, c < w * h → B c = false → G c ≤ top
def plf (w n lim : Nat) (G : Nat → Nat) (B : Nat → Bool) (r fr sp sm : Nat) (p : List Nat) (st : Pl) (c : Nat) : Pl := if B c || !apt w p c then st else full w n lim G B r c (sp + stN w fr c + 1) (sm + G c) (p ++ [c]) st
theorem x_try {w h m lim top r level fr sp sm c F : Nat} {G : Nat → Nat} {B : Nat → Bool} {p : List Nat} {st : Pl} {Ms M : Mm} (sb : Sb w h m lim top G B Ms) (hr : level + r + 1 = m) (hl : p.length = level) (hfr : fr < w * h) (hc : c < w * h) (hsm : sm ≤ 99000 * level) (hsp : sp ≤ 127 * level) (x : Sx m Ms M st) (hp : ∀ k, k < level → M.1 176 k = nI (p.getD k 0) ∧ p.getD k 0 < w * h)
    (ih : ∀ (M1 : Mm), Sx m Ms M1 st → (∀ k, k < level + 1 → M1.1 176 k = nI ((p ++ [c]).getD k 0) ∧ (p ++ [c]).getD k 0 < w * h) → (r = 0 → sp + stN w fr c + 1 ≤ lim ∧ bet st (sm + G c) (sp + stN w fr c + 1) = true) → ∃ M', sX9_search F (nI (level + 1)) (nI c) (nI (sp + stN w fr c + 1)) (nI (sm + G c)) M1 = some M' ∧ Sx m Ms M' (full w (w * h) lim G B r c (sp + stN w fr c + 1) (sm + G c) (p ++ [c]) st) ∧ ∀ k, k < level + 1 → M'.1 176 k = M1.1 176 k) :
    ∃ M', sX9_tryCell (sX9_search F) (nI level) (nI fr) (nI c) (nI sp) (nI sm) M = some M' ∧ Sx m Ms M' (plf w (w * h) lim G B r fr sp sm p st c) ∧ ∀ k, k < level → M'.1 176 k = M.1 176 k := by
  obtain ⟨g, hm, hlim, htop, e3, e4, e2, e175, hG, hT⟩ := sb
  have h64 := wh64 g.1
  have x0 := x
  obtain ⟨x1, x2, x3, x4, x5⟩ := x
  have gM : iLandW w h M := iLandW_fr g x1 (fun id k q p => by unfold rLand at q; unfold pPl at p; omega)
  have f3 : M.1 174 3 = nI m := by rw [(x1 174 3 (by unfold pPl; omega)).1]; exact e3
  have f4 : M.1 174 4 = nI lim := by rw [(x1 174 4 (by unfold pPl; omega)).1]; exact e4
  have f2 : M.1 174 2 = nI top := by rw [(x1 174 2 (by unfold pPl; omega)).1]; exact e2
  have f175 : M.1 175 c = if B c = true then -1 else nI (G c) := by rw [(x1 175 c (by unfold pPl; omega)).1]; exact e175 c hc
  have ic := inb_nI (show c < 64 by omega) (by decide)
  have hGc := hG c hc
  have hst := stN_le (w := w) (show fr < 64 by omega) (show c < 64 by omega)
  unfold sX9_tryCell plf
  rw [ckT ic, ckT ic, nI_clamp (show c < 2 ^ 31 by omega), f175]
  by_cases hB : B c = true
  · rw [if_pos hB, if_pos rfl, hB]
    exact ⟨M, rfl, by simpa using x0, fun _ _ => rfl⟩
  · have hB' : B c = false := by cases hh : B c <;> simp_all
    have hlr : nI m - nI level - 1 = nI r := by
      rw [nI_sb (by omega), show nI (m - level) - 1 = nI (m - level - 1) from nI_sb (b := 1) (by omega), show m - level - 1 = r by omega]
    have hrt : r * top ≤ 2 * 99000 := Nat.mul_le_mul (by omega) htop
    have em : nI sm + nI (G c) + nI r * nI top = nI (sm + G c + r * top) := by rw [nI_add, nI_mul, nI_add]
    rw [if_neg hB, if_neg (nI_ne1 (by omega)), f3, hlr, f2, em, x2]
    have skip : ¬ (sp + stN w fr c + 1 + 3 * r ≤ lim ∧ bet st (sm + G c + r * top) (sp + stN w fr c + 1 + 3 * r) = true) → ∃ M', some M = some M' ∧ Sx m Ms M' (if (B c || !apt w p c) = true then st else full w (w * h) lim G B r c (sp + stN w fr c + 1) (sm + G c) (p ++ [c]) st) ∧ ∀ k, k < level → M'.1 176 k = M.1 176 k := by
      intro q
      refine ⟨M, rfl, ?_, fun _ _ => rfl⟩
      have e9 := full_pr (w := w) (n := w * h) (lim := lim) (top := top) (G := G) (B := B) hT r c (sp + stN w fr c + 1) (sm + G c) (p ++ [c]) st (by simp) q
      rw [e9]
      split <;> exact x0
    by_cases c1 : fS st ≤ nI (sm + G c + r * top)
    · rw [if_pos c1, x_steps gM hfr hc, Option.bind_some]
      dsimp only
      have ed : nI sp + nI (stN w fr c) + 1 = nI (sp + stN w fr c + 1) := by rw [nI_add, nI_1]
      have el : nI (sp + stN w fr c + 1) + nI r * 3 = nI (sp + stN w fr c + 1 + 3 * r) := by
        rw [show (3 : Int32) = nI 3 from rfl, nI_mul, nI_add, Nat.mul_comm r 3]
      rw [f4, ed, el]
      by_cases c2 : sp + stN w fr c + 1 + 3 * r ≤ lim
      · rw [if_neg (nlt_nI c2 (by omega)), x_bet x4 (by omega) (by omega) x2 x3, Option.bind_some]
        dsimp only
        by_cases c3 : bet st (sm + G c + r * top) (sp + stN w fr c + 1 + 3 * r) = true
        · rw [c3, if_neg (by decide)]
          have ea := x_apart (p := p) gM hc (by omega) (fun k hk => hp k (by omega))
          rw [hl] at ea
          rw [ea, Option.bind_some]
          dsimp only
          by_cases c4 : apt w p c = true
          · rw [c4, if_neg (by decide), ckT (inb_nI (by omega) (by decide)), ckT ic, nI_clamp (show level < 2 ^ 31 by omega), rdN (by omega), f175, if_neg hB, nI_1, nI_add]
            have xs : Sx m Ms (sI M 176 level (nI c)) st := ⟨Fr_sI x1 (by unfold pPl; omega), by rw [rdN (by omega)]; exact x2, by rw [rdN (by omega)]; exact x3, x4, fun s d q e k hk => by rw [rdN (by omega)]; exact x5 s d q e k hk⟩
            obtain ⟨M', m1, m2, m3⟩ := ih (sI M 176 level (nI c)) xs (fun k hk => by
              by_cases u : k = level
              · rw [u, rdS]
                rw [← hl, gD_r]
                exact ⟨rfl, hc⟩
              · rw [rdN (by omega), gD_l (by omega)]
                exact hp k (by omega)) (fun r0 => by
              subst r0
              rw [Nat.zero_mul, Nat.mul_zero] at c3
              exact ⟨by omega, c3⟩)
            rw [m1, Option.bind_some, hB']
            refine ⟨M', rfl, ?_, fun k hk => ?_⟩
            · simpa using m2
            · rw [m3 k (by omega), rdN (by omega)]
          · have c4' : apt w p c = false := by cases hh : apt w p c <;> simp_all
            rw [c4', if_pos (by decide)]
            refine ⟨M, rfl, ?_, fun _ _ => rfl⟩
            simpa using x0
        · have c3' : bet st (sm + G c + r * top) (sp + stN w fr c + 1 + 3 * r) = false := by cases hh : bet st (sm + G c + r * top) (sp + stN w fr c + 1 + 3 * r) <;> simp_all
          rw [c3', if_pos (by decide)]
          exact skip (fun q => c3 q.2)
      · rw [if_pos (nI_lt (by omega) (by omega))]
        exact skip (fun q => c2 q.1)
    · rw [if_neg c1]
      refine skip (fun q => c1 ?_)
      have q2 := q.2
      cases hst : st with
      | none => rw [fS_n]; exact Int32.le_trans (show (-1 : Int32) ≤ 0 by decide) (nI_nn (by omega))
      | some z =>
        obtain ⟨fs, fd, pp⟩ := z
        rw [hst] at q2
        unfold bet at q2
        simp only [Bool.or_eq_true, Bool.and_eq_true, decide_eq_true_eq] at q2
        rw [fS_s]
        exact nI_le (by omega) (by omega)
theorem rg_fold {f : Pl → Nat → Pl} {st : Pl} (j : Nat) : (List.range (j + 1)).foldl f st = f ((List.range j).foldl f st) j := by
  rw [List.range_succ, List.foldl_append]
  rfl
theorem x_search {w h m lim top : Nat} {G : Nat → Nat} {B : Nat → Bool} {Ms : Mm} (sb : Sb w h m lim top G B Ms) : ∀ (r level fr sp sm F : Nat) (p : List Nat) (st : Pl) (M : Mm), level + r = m → p.length = level → r < F → fr < w * h → sm ≤ 99000 * level → sp ≤ 127 * level → Sx m Ms M st → (∀ k, k < level → M.1 176 k = nI (p.getD k 0) ∧ p.getD k 0 < w * h) → (r = 0 → sp ≤ lim ∧ bet st sm sp = true) →
    ∃ M', sX9_search F (nI level) (nI fr) (nI sp) (nI sm) M = some M' ∧ Sx m Ms M' (full w (w * h) lim G B r fr sp sm p st) ∧ ∀ k, k < level → M'.1 176 k = M.1 176 k := by
  have sb0 := sb
  obtain ⟨g, hm, hlim, htop, e3, e4, e2, e175, hG, hT⟩ := sb
  have h64 := wh64 g.1
  intro r
  induction r with
  | zero =>
    intro level fr sp sm F p st M hr hl hF hfr hsm hsp x hp h0
    obtain ⟨F, rfl⟩ : ∃ G, F = G + 1 := ⟨F - 1, by omega⟩
    obtain ⟨c1, c2⟩ := h0 rfl
    obtain ⟨M', k1, k2, k3⟩ := x_keep (m := m) (s := sm) (d := sp) (p := p) hm.2 e3 x (by omega) (by omega) (by omega) (fun k hk => (hp k (by omega)).1)
    have f3 : M.1 174 3 = nI m := by rw [(x.1 174 3 (by unfold pPl; omega)).1]; exact e3
    refine ⟨M', ?_, ?_, fun k _ => k3 k⟩
    · rw [sX9_search]
      unfold sX9_search_o sX9_search_o_13
      rw [f3, if_pos (nI_le (by omega) (by omega)), k1, Option.bind_some]
    · rw [full, plU, if_pos (by simp [c1, c2])]
      exact k2
  | succ r ih =>
    intro level fr sp sm F p st M hr hl hF hfr hsm hsp x hp h0
    obtain ⟨F, rfl⟩ : ∃ G, F = G + 1 := ⟨F - 1, by omega⟩
    have f3 : M.1 174 3 = nI m := by rw [(x.1 174 3 (by unfold pPl; omega)).1]; exact e3
    obtain ⟨M', e, f1, f2⟩ := lp_M (f := fun F' i M => sX9_search_o_24 (sX9_search F) F' (nI level) (nI fr) (nI sp) (nI sm) i M) (n := w * h) (I := fun c M' => Sx m Ms M' ((List.range c).foldl (plf w (w * h) lim G B r fr sp sm p) st) ∧ ∀ k, k < level → M'.1 176 k = M.1 176 k) (fun F' c M1 hc hI => by
      obtain ⟨y1, y2⟩ := hI
      have hst := stN_le (w := w) (show fr < 64 by omega) (show c < 64 by omega)
      have hGc := hG c hc
      obtain ⟨M2, t1, t2, t3⟩ := x_try (F := F) (r := r) (level := level) (fr := fr) (sp := sp) (sm := sm) (c := c) (p := p) sb0 (by omega) hl hfr hc hsm hsp y1 (fun k hk => by rw [y2 k hk]; exact hp k hk) (fun M1 z1 z2 z3 => ih (level + 1) c (sp + stN w fr c + 1) (sm + G c) F (p ++ [c]) _ M1 (by omega) (by rw [List.length_append, hl]; rfl) (by omega) hc (by omega) (by omega) z1 z2 z3)
      refine ⟨M2, ?_, ?_, fun k hk => by rw [t3 k hk, y2 k hk]⟩
      · show sX9_search_o_24 (sX9_search F) (F' + 1) (nI level) (nI fr) (nI sp) (nI sm) (nI c) M1 = _
        rw [sX9_search_o_24, (y1.1 22 2 (by unfold pPl; omega)).1, g.2.1.2.2.1, if_neg (nle_nI hc (by omega)), t1, Option.bind_some, nI_1]
      · rw [rg_fold]; exact t2) (w * h) 0 4096 M (by omega) (by omega) ⟨x, fun _ _ => rfl⟩
    refine ⟨M', ?_, ?_, f2⟩
    · rw [sX9_search]
      unfold sX9_search_o
      rw [f3, if_neg (nle_nI (by omega) (by omega)), if_pos (show nI level < 3 from nI_lt (b := 3) (by omega) (by omega))]
      refine Eq.trans e ?_
      show sX9_search_o_24 (sX9_search F) (4096 - w * h) (nI level) (nI fr) (nI sp) (nI sm) (nI (w * h)) M' = _
      rw [show 4096 - w * h = (4095 - w * h) + 1 by omega, sX9_search_o_24, (f1.1 22 2 (by unfold pPl; omega)).1, g.2.1.2.2.1, if_pos (nI_le (by omega) (by omega))]
    · rw [full]
      exact f1
