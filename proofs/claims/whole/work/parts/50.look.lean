theorem m_lk {w h c : Nat} {M : Mm} (g : iLandW w h M) (hc : c < w * h) : sX12_slope (nI c) M = some (M.1 31 c, M) ∧ sX12_steep (nI c) M = some (M.1 32 c, M) ∧ sX12_feel (nI c) M = some (M.1 33 c, M) := by
  have h64 := wh64 g.1
  obtain ⟨g1, g2, g3, g4, g5, g6, g7, g8⟩ := g
  have r := g8 c hc
  unfold rkd at r
  have e26 : M.1 26 c = M.1 198 c := g4 2 c (by omega) hc
  refine ⟨?_, ?_, ?_⟩
  · rw [r.1]
    exact m_slope g2.2.2.2.1 g2.2.2.2.2 (by omega) g1.2.1 h64 g5 hc
  · rw [r.2.1, g7.1, g7.2.1]
    exact m_steep g2.2.2.2.1 g2.2.2.2.2 (by omega) g1.2.1 h64 g5 hc
  · rw [r.2.2, g7.2.2.1, g7.2.2.2, m_feel (by omega), e26]
    unfold flt
    rcases g6 c hc with q | ⟨v, hv, q⟩
    · rw [q, if_neg neg1, if_pos rfl]
    · rw [q, if_pos (nI_nn (by omega)), if_neg (nI_ne1 (by omega))]
def pLk (id k : Nat) : Prop := id = 194 ∧ k = 2 ∨ id = 238
theorem lg_same (x : Int64) : lg_cmp x x = 0 := by
  unfold lg_cmp
  rw [if_neg (fun q => Int64.lt_irrefl q), if_pos rfl]
/-- both tell v -/
theorem lk_val {kq : Nat × Nat} {M : Mm} {a1 a2 a3 a4 a5 a6 v : Int32} (h1 : sX11_look a1 a2 M = some ((0, v), M)) (h2 : sX12_look a1 a2 (sL M 238 0 v.toInt64) = some (v, sI (sL M 238 0 v.toInt64) 194 2 0)) : st_look kq a1 a2 a3 a4 a5 a6 M = some (kq, sI (sL M 238 0 v.toInt64) 194 2 0) := by
  have eq : qL ((0, v), M) = (0, sL M 238 0 v.toInt64) := if_pos rfl
  have e0 : (0 : Int32).toNatClampNeg = 0 := rfl
  have e2 : (sI (sL M 238 0 v.toInt64) 194 2 0).2 238 0 = v.toInt64 := by simp [sI, sL, up2]
  unfold st_look
  rw [h1, Option.bind_some, eq]
  dsimp only
  rw [h2, Option.bind_some]
  unfold sX12_thrown
  rw [Option.bind_some]
  dsimp only
  rw [rdS, if_pos rfl, if_pos rfl, e0, e2, lg_same, if_pos rfl]
theorem lk_bad {kq : Nat × Nat} {M : Mm} {a1 a2 a3 a4 a5 a6 v : Int32} (hv : v ≠ 0) (h1 : sX11_look a1 a2 M = some ((v, 0), M)) (h2 : sX12_look a1 a2 M = some (0, sI (sI M 194 2 0) 194 2 v)) : st_look kq a1 a2 a3 a4 a5 a6 M = some (kq, sI (sI M 194 2 0) 194 2 v) := by
  have eq : qL ((v, 0), M) = (v, M) := if_neg hv
  unfold st_look
  rw [h1, Option.bind_some, eq]
  dsimp only
  rw [h2, Option.bind_some]
  unfold sX12_thrown
  rw [Option.bind_some]
  dsimp only
  rw [rdS, if_pos rfl, if_neg hv]
theorem step_look {kq : Nat × Nat} {M : Mm} (a1 a2 a3 a4 a5 a6 : Int32) (hi : iLand M) : ∃ M1, st_look kq a1 a2 a3 a4 a5 a6 M = some (kq, M1) ∧ Fr pLk M M1 := by
  obtain ⟨w, h, g⟩ := hi
  have e2 := g.2.1.2.2.1
  have g0 := iLandW_p2 g
  have e3 := g0.2.1.2.2.2.1
  have e4 := g0.2.1.2.2.2.2
  have one : ¬ (1 : Int32) = 0 := by decide
  have h64 := wh64 g.1
  have fb : ∀ v, Fr pLk M (sI (sI M 194 2 0) 194 2 v) := fun v => Fr_sI (Fr_sI (Fr_rf _ _) (by unfold pLk; omega)) (by unfold pLk; omega)
  have fv : ∀ v, Fr pLk M (sI (sL M 238 0 v) 194 2 0) := fun v => Fr_sI (Fr_sL (Fr_rf _ _) (by unfold pLk; omega)) (by unfold pLk; omega)
  by_cases c1 : a1 < 0
  · exact ⟨_, lk_bad (v := 1) (by decide) (by simp only [sX11_look, x_cell e2, if_pos c1, Option.bind_some, if_true]) (by simp only [sX12_look, sX12_fails, m_cell e3 e4, if_pos c1, Option.bind_some, if_true]), fb _⟩
  by_cases c2 : nI (w * h) ≤ a1
  · exact ⟨_, lk_bad (v := 1) (by decide) (by simp only [sX11_look, x_cell e2, if_neg c1, if_pos c2, Option.bind_some, if_true]) (by simp only [sX12_look, sX12_fails, m_cell e3 e4, if_neg c1, if_pos c2, Option.bind_some, if_true]), fb _⟩
  obtain ⟨c, hc, ec⟩ := nI_ex (n := w * h) c1 (Int32.le_of_lt (Int32.not_le.mp c2)) (by omega)
  subst ec
  have hcn : c < w * h := (nI_ltI (by omega) (by omega)).mp (Int32.not_le.mp c2)
  by_cases d : ¬ a2 < 0 ∧ a2 < 8
  · obtain ⟨d1, d2⟩ := d
    obtain ⟨r, hr, er⟩ := nI_ex (n := 8) d1 (Int32.le_of_lt d2) (by decide)
    subst er
    have hr8 : r < 8 := (nI_ltI (b := 8) (by omega) (by decide)).mp d2
    have ic := inb_nI (show c < 64 by omega) (by decide)
    have cc := nI_clamp (show c < 2 ^ 31 by omega)
    have gL : ∀ v : Int64, iLandW w h (sI (sL M 238 0 v) 194 2 0) := fun v => g0
    have hm := fun v : Int64 => m_lk (gL v) hcn
    have hx : ∀ r, r < 8 → sX11_look (nI c) (nI r) M = some ((0, if r < 3 then M.1 (31 + r) c else M.1 (24 + (r - 3)) c), M) := by
      intro r hr
      match r, hr with
      | 0, _ => simp only [sX11_look, x_cell e2, if_neg c1, if_neg c2, Option.bind_some, if_neg one, ckT ic, cc]; rfl
      | 1, _ => simp only [sX11_look, x_cell e2, if_neg c1, if_neg c2, Option.bind_some, if_neg one, ckT ic, cc]; rfl
      | 2, _ => simp only [sX11_look, x_cell e2, if_neg c1, if_neg c2, Option.bind_some, if_neg one, ckT ic, cc]; rfl
      | 3, _ => simp only [sX11_look, x_cell e2, if_neg c1, if_neg c2, Option.bind_some, if_neg one, ckT ic, cc]; rfl
      | 4, _ => simp only [sX11_look, x_cell e2, if_neg c1, if_neg c2, Option.bind_some, if_neg one, ckT ic, cc]; rfl
      | 5, _ => simp only [sX11_look, x_cell e2, if_neg c1, if_neg c2, Option.bind_some, if_neg one, ckT ic, cc]; rfl
      | 6, _ => simp only [sX11_look, x_cell e2, if_neg c1, if_neg c2, Option.bind_some, if_neg one, ckT ic, cc]; rfl
      | 7, _ => simp only [sX11_look, x_cell e2, if_neg c1, if_neg c2, Option.bind_some, if_neg one, ckT ic, cc]; rfl
    refine ⟨_, lk_val (hx r hr8) ?_, fv _⟩
    generalize hv : (if r < 3 then M.1 (31 + r) c else M.1 (24 + (r - 3)) c) = v
    have e3' : (sI (sL M 238 0 v.toInt64) 194 2 0).1 194 3 = nI w := e3
    have e4' : (sI (sL M 238 0 v.toInt64) 194 2 0).1 194 4 = nI h := e4
    have hk : ∀ id, id ≠ 194 → (sI (sL M 238 0 v.toInt64) 194 2 0).1 id c = M.1 id c := fun id q => by rw [rdN (by omega)]; rfl
    obtain ⟨m1, m2, m3⟩ := hm v.toInt64
    have g4 := fun r q => g.2.2.2.1 r c q hcn
    rw [hk _ (by decide)] at m1 m2 m3
    match r, hr8 with
    | 0, _ =>
      simp only [sX12_look, m_cell e3' e4', if_neg c1, if_neg c2, Option.bind_some, if_neg one, if_pos (show nI 0 = 0 from rfl), m1]
      rw [← hv]; rfl
    | 1, _ =>
      simp only [sX12_look, m_cell e3' e4', if_neg c1, if_neg c2, Option.bind_some, if_neg one, if_neg (show ¬ nI 1 = 0 by decide), if_pos (show nI 1 = 1 from rfl), m2]
      rw [← hv]; rfl
    | 2, _ =>
      simp only [sX12_look, m_cell e3' e4', if_neg c1, if_neg c2, Option.bind_some, if_neg one, if_neg (show ¬ nI 2 = 0 by decide), if_neg (show ¬ nI 2 = 1 by decide), if_pos (show nI 2 = 2 from rfl), m3]
      rw [← hv]; rfl
    | 3, _ =>
      have ev : v = M.1 196 c := by rw [← hv, if_neg (show ¬ (3 : Nat) < 3 by decide)]; exact g4 0 (by omega)
      simp only [sX12_look, m_cell e3' e4', if_neg c1, if_neg c2, Option.bind_some, if_neg one, ckT ic, cc, hk 196 (by decide)]
      exact (congrArg (fun z => some (z, sI (sL M 238 0 v.toInt64) 194 2 0)) ev).symm
    | 4, _ =>
      have ev : v = M.1 197 c := by rw [← hv, if_neg (show ¬ (4 : Nat) < 3 by decide)]; exact g4 1 (by omega)
      simp only [sX12_look, m_cell e3' e4', if_neg c1, if_neg c2, Option.bind_some, if_neg one, ckT ic, cc, hk 197 (by decide)]
      exact (congrArg (fun z => some (z, sI (sL M 238 0 v.toInt64) 194 2 0)) ev).symm
    | 5, _ =>
      have ev : v = M.1 198 c := by rw [← hv, if_neg (show ¬ (5 : Nat) < 3 by decide)]; exact g4 2 (by omega)
      simp only [sX12_look, m_cell e3' e4', if_neg c1, if_neg c2, Option.bind_some, if_neg one, ckT ic, cc, hk 198 (by decide)]
      exact (congrArg (fun z => some (z, sI (sL M 238 0 v.toInt64) 194 2 0)) ev).symm
    | 6, _ =>
      have ev : v = M.1 199 c := by rw [← hv, if_neg (show ¬ (6 : Nat) < 3 by decide)]; exact g4 3 (by omega)
      simp only [sX12_look, m_cell e3' e4', if_neg c1, if_neg c2, Option.bind_some, if_neg one, ckT ic, cc, hk 199 (by decide)]
      exact (congrArg (fun z => some (z, sI (sL M 238 0 v.toInt64) 194 2 0)) ev).symm
    | 7, _ =>
      have ev : v = M.1 200 c := by rw [← hv, if_neg (show ¬ (7 : Nat) < 3 by decide)]; exact g4 4 (by omega)
      simp only [sX12_look, m_cell e3' e4', if_neg c1, if_neg c2, Option.bind_some, if_neg one, ckT ic, cc, hk 200 (by decide)]
      exact (congrArg (fun z => some (z, sI (sL M 238 0 v.toInt64) 194 2 0)) ev).symm
  · have nn : ∀ r, r < 8 → ¬ a2 = nI r := fun r hr q => d (by
      rw [q]
      exact ⟨Int32.not_lt.mpr (nI_nn (by omega)), nI_lt (b := 8) hr (by decide)⟩)
    have n0 : ¬ a2 = 0 := nn 0 (by omega)
    have n1 : ¬ a2 = 1 := nn 1 (by omega)
    have n2 : ¬ a2 = 2 := nn 2 (by omega)
    have n3 : ¬ a2 = 3 := nn 3 (by omega)
    have n4 : ¬ a2 = 4 := nn 4 (by omega)
    have n5 : ¬ a2 = 5 := nn 5 (by omega)
    have n6 : ¬ a2 = 6 := nn 6 (by omega)
    have n7 : ¬ a2 = 7 := nn 7 (by omega)
    refine ⟨_, lk_bad (v := 2) (by decide) ?_ (by simp only [sX12_look, sX12_fails, m_cell e3 e4, if_neg c1, if_neg c2, Option.bind_some, if_neg one, if_neg n0, if_neg n1, if_neg n2, if_neg n3, if_neg n4, if_neg n5, if_neg n6, if_neg n7]), fb _⟩
    by_cases d1 : a2 < 0
    · simp only [sX11_look, x_cell e2, if_neg c1, if_neg c2, Option.bind_some, if_neg one, if_pos d1]
    · have d2 : ¬ a2 < 8 := fun q => d ⟨d1, q⟩
      simp only [sX11_look, x_cell e2, if_neg c1, if_neg c2, Option.bind_some, if_neg one, if_neg d1, if_neg d2]
def farN (w a b : Nat) : Nat := max (absN (a % w) (b % w)) (absN (a / w) (b / w))
theorem m_size {M : Mm} {a b : Nat} (ha : a < 2 ^ 31) (hb : b < 2 ^ 31) : sX12_size (nI a - nI b) M = some (nI (absN a b), M) := by
  unfold sX12_size
  rw [show -(nI a - nI b) = 0 - (nI a - nI b) by grind, abs_nI ha hb]
theorem nz_nI {w : Nat} (h0 : 0 < w) (hw : w < 2 ^ 31) : nz (nI w) = true := decide_eq_true (fun q => by
  have := congrArg Int32.toNatClampNeg q
  rw [nI_clamp hw] at this
  have e : (0 : Int32).toNatClampNeg = 0 := rfl
  omega)
theorem far_lt {w a b : Nat} (ha : a < 64) (hb : b < 64) : absN (a % w) (b % w) < 64 ∧ absN (a / w) (b / w) < 64 := by
  have h1 := Nat.mod_le a w
  have h2 := Nat.mod_le b w
  have h3 := Nat.div_le_self a w
  have h4 := Nat.div_le_self b w
  unfold absN
  generalize a % w = p1 at h1 ⊢
  generalize b % w = p2 at h2 ⊢
  generalize a / w = p3 at h3 ⊢
  generalize b / w = p4 at h4 ⊢
  omega
theorem x_far {w h a b : Nat} {M : Mm} (g : iLandW w h M) (ha : a < w * h) (hb : b < w * h) : sX6_far (nI a) (nI b) M = some (nI (farN w a b), M) := by
  have h64 := wh64 g.1
  have g3 := g.2.2.1
  have hl := far_lt (w := w) (show a < 64 by omega) (show b < 64 by omega)
  have h1 := Nat.mod_le a w
  have h2 := Nat.mod_le b w
  have h3 := Nat.div_le_self a w
  have h4 := Nat.div_le_self b w
  simp only [sX6_far, ckT (inb_nI (show a < 64 by omega) (by decide)), ckT (inb_nI (show b < 64 by omega) (by decide)), nI_clamp (show a < 2 ^ 31 by omega), nI_clamp (show b < 2 ^ 31 by omega), (g3 a ha).1, (g3 a ha).2, (g3 b hb).1, (g3 b hb).2]
  rw [abs_nI (by omega) (by omega), abs_nI (by omega) (by omega), max_nI (by omega) (by omega)]
  rfl
theorem m_far {w a b : Nat} {M : Mm} (e3 : M.1 194 3 = nI w) (hw : 0 < w) (hw8 : w ≤ 8) (ha : a < 64) (hb : b < 64) : sX12_far (nI a) (nI b) M = some (nI (farN w a b), M) := by
  have hl := far_lt (w := w) ha hb
  have h1 := Nat.mod_le a w
  have h2 := Nat.mod_le b w
  have h3 := Nat.div_le_self a w
  have h4 := Nat.div_le_self b w
  unfold sX12_far
  rw [e3, ckT (nz_nI hw (by omega)), ckT (nz_nI hw (by omega)), nI_md (by omega) (by omega), nI_md (by omega) (by omega), m_size (by omega) (by omega), Option.bind_some]
  dsimp only
  rw [e3, ckT (nz_nI hw (by omega)), ckT (nz_nI hw (by omega)), nI_dv (by omega) (by omega), nI_dv (by omega) (by omega), m_size (by omega) (by omega), Option.bind_some]
  dsimp only
  unfold farN
  by_cases q : absN (a % w) (b % w) ≤ absN (a / w) (b / w)
  · rw [if_pos (nI_le q (by omega)), Nat.max_eq_right q]
  · rw [if_neg (fun p => q ((nI_leI (by omega) (by omega)).mp p)), Nat.max_eq_left (by omega)]
/-- how alike two cells are -/
def alk (w : Nat) (M : Mm) (a b : Nat) : Nat := (if M.1 25 a = M.1 25 b then 4 else 0) + (if M.1 32 a = M.1 32 b then 2 else 0) + (if ¬ M.1 33 a = -1 ∧ M.1 33 a = M.1 33 b then 2 else 0) + (6 - farN w a b)
theorem alk_le (w : Nat) (M : Mm) (a b : Nat) : alk w M a b ≤ 14 := by
  unfold alk
  split <;> split <;> split <;> omega
theorem x_l79 {w h a b s t : Nat} {M : Mm} (g : iLandW w h M) (ha : a < w * h) (hb : b < w * h) : sX6_likeness_79 (nI a) (nI b) (nI s) (nI t) M = some (nI (s + t + (6 - farN w a b)), M) := by
  have h64 := wh64 g.1
  have hl := far_lt (w := w) (show a < 64 by omega) (show b < 64 by omega)
  have hf : farN w a b < 64 := by unfold farN; omega
  unfold sX6_likeness_79
  rw [x_far g ha hb, Option.bind_some]
  dsimp only
  rw [show (6 : Int32) = nI 6 from rfl, nI_add]
  by_cases q : farN w a b < 6
  · rw [nI_sb (by omega), if_pos (show (0 : Int32) < nI (6 - farN w a b) from nI_lt (a := 0) (by omega) (by omega)), nI_add]
  · rw [show 6 - farN w a b = 0 by omega]
    by_cases q2 : farN w a b = 6
    · rw [q2, nI_sb (Nat.le_refl 6), if_neg (by decide)]
      exact congrArg (fun z => some (z, M)) (nI_add (s + t) 0)
    · rw [if_neg (fun p => nI_sgn (a := 6) (b := farN w a b) (by omega) (by omega) (Int32.le_of_lt p))]
      exact congrArg (fun z => some (z, M)) (nI_add (s + t) 0)
theorem x_like {w h a b : Nat} {M : Mm} (g : iLandW w h M) (ha : a < w * h) (hb : b < w * h) : sX6_likeness (nI a) (nI b) M = some (nI (alk w M a b), M) := by
  have h64 := wh64 g.1
  have ia := inb_nI (show a < 64 by omega) (by decide)
  have ib := inb_nI (show b < 64 by omega) (by decide)
  have ca := nI_clamp (show a < 2 ^ 31 by omega)
  have cb := nI_clamp (show b < 2 ^ 31 by omega)
  have i1 : inb 1 5 = true := by decide
  have e25 : 24 + (1 : Int32).toNatClampNeg = 25 := by decide
  have s1 : (if M.1 25 a = M.1 25 b then (4 : Int32) else 0) = nI (if M.1 25 a = M.1 25 b then 4 else 0) := by split <;> rfl
  have s2 : (if M.1 32 a = M.1 32 b then (2 : Int32) else 0) = nI (if M.1 32 a = M.1 32 b then 2 else 0) := by split <;> rfl
  simp only [sX6_likeness, sX6_likeness_24, sX6_likeness_46, sX6_likeness_78, ckT i1, ckT ia, ckT ib, ca, cb, e25]
  rw [s1, s2, nI_add]
  unfold alk
  by_cases q : M.1 33 a = -1
  · rw [if_pos q, if_neg (show ¬ (¬ M.1 33 a = -1 ∧ M.1 33 a = M.1 33 b) from fun p => p.1 q)]
    exact x_l79 (t := 0) g ha hb
  · rw [if_neg q]
    by_cases q2 : M.1 33 a = M.1 33 b
    · rw [if_pos q2, if_pos (show ¬ M.1 33 a = -1 ∧ M.1 33 a = M.1 33 b from ⟨q, q2⟩)]
      exact x_l79 (t := 2) g ha hb
    · rw [if_neg q2, if_neg (show ¬ (¬ M.1 33 a = -1 ∧ M.1 33 a = M.1 33 b) from fun p => q2 p.2)]
      exact x_l79 (t := 0) g ha hb
theorem m_l24 {w h a b s : Nat} {M : Mm} (g : iLandW w h M) (ha : a < w * h) (hb : b < w * h) : sX12_alike_24 (nI a) (nI b) (nI s) M = some (nI ((if M.1 25 a = M.1 25 b then 4 else 0) + (if M.1 32 a = M.1 32 b then 2 else 0) + (if ¬ M.1 33 a = -1 ∧ M.1 33 a = M.1 33 b then 2 else 0) + s), M) := by
  have h64 := wh64 g.1
  have ia := inb_nI (show a < 64 by omega) (by decide)
  have ib := inb_nI (show b < 64 by omega) (by decide)
  have ca := nI_clamp (show a < 2 ^ 31 by omega)
  have cb := nI_clamp (show b < 2 ^ 31 by omega)
  obtain ⟨-, ma2, ma3⟩ := m_lk g ha
  obtain ⟨-, mb2, mb3⟩ := m_lk g hb
  have ea : M.1 197 a = M.1 25 a := (g.2.2.2.1 1 a (by omega) ha).symm
  have eb : M.1 197 b = M.1 25 b := (g.2.2.2.1 1 b (by omega) hb).symm
  have s1 : (if M.1 25 a = M.1 25 b then (4 : Int32) else 0) = nI (if M.1 25 a = M.1 25 b then 4 else 0) := by split <;> rfl
  have s2 : (if M.1 32 a = M.1 32 b then (2 : Int32) else 0) = nI (if M.1 32 a = M.1 32 b then 2 else 0) := by split <;> rfl
  have f33 : M.1 33 a < 0 ↔ M.1 33 a = -1 := by
    have r := (g.2.2.2.2.2.2.2 a ha).2.2
    rw [r]
    by_cases z : M.1 26 a = -1
    · rw [if_pos z]; decide
    · rw [if_neg z]
      unfold stp
      split
      · split <;> decide
      · decide
  simp only [sX12_alike_24, sX12_alike_46, sX12_alike_67, ckT ia, ckT ib, ca, cb, ea, eb, ma2, mb2, ma3, mb3, Option.bind_some]
  rw [s1, s2, nI_add, nI_add]
  by_cases q : M.1 33 a = -1
  · rw [if_pos (f33.mpr q), if_neg (show ¬ (¬ M.1 33 a = -1 ∧ M.1 33 a = M.1 33 b) from fun p => p.1 q), show (0 : Int32) = nI 0 from rfl, nI_add]
    exact congrArg (fun z => some (nI z, M)) (by omega)
  · rw [if_neg (fun p => q (f33.mp p))]
    by_cases q2 : M.1 33 a = M.1 33 b
    · rw [if_pos q2, if_pos (show ¬ M.1 33 a = -1 ∧ M.1 33 a = M.1 33 b from ⟨q, q2⟩), show (2 : Int32) = nI 2 from rfl, nI_add]
      exact congrArg (fun z => some (nI z, M)) (by omega)
    · rw [if_neg q2, if_neg (show ¬ (¬ M.1 33 a = -1 ∧ M.1 33 a = M.1 33 b) from fun p => q2 p.2), show (0 : Int32) = nI 0 from rfl, nI_add]
      exact congrArg (fun z => some (nI z, M)) (by omega)
theorem m_like {w h a b : Nat} {M : Mm} (g : iLandW w h M) (ha : a < w * h) (hb : b < w * h) : sX12_alike (nI a) (nI b) M = some (nI (alk w M a b), M) := by
  have h64 := wh64 g.1
  have hl := far_lt (w := w) (show a < 64 by omega) (show b < 64 by omega)
  have hf : farN w a b < 64 := by unfold farN; omega
  have e' := m_far (a := a) (b := b) g.2.1.2.2.2.1 (show 0 < w by have := g.1.1; omega) g.1.2.1 (by omega) (by omega)
  unfold sX12_alike alk
  rw [e', Option.bind_some]
  dsimp only
  by_cases q : 6 ≤ farN w a b
  · rw [if_pos (show (6 : Int32) ≤ nI (farN w a b) from nI_le (a := 6) q (by omega)), show 6 - farN w a b = 0 by omega]
    exact m_l24 (s := 0) g ha hb
  · rw [if_neg (show ¬ (6 : Int32) ≤ nI (farN w a b) from fun p => q ((nI_leI (a := 6) (by omega) (by omega)).mp p)), e', Option.bind_some]
    dsimp only
    rw [show (6 : Int32) = nI 6 from rfl, nI_sb (by omega)]
    exact m_l24 g ha hb
theorem step_like {kq : Nat × Nat} {M : Mm} (a1 a2 a3 a4 a5 a6 : Int32) (hi : iLand M) : ∃ M1, st_like kq a1 a2 a3 a4 a5 a6 M = some (kq, M1) ∧ Fr p2 M M1 := by
  obtain ⟨w, h, g⟩ := hi
  have e2 := g.2.1.2.2.1
  have g0 := iLandW_p2 g
  have e3 := g0.2.1.2.2.2.1
  have e4 := g0.2.1.2.2.2.2
  have one : ¬ (1 : Int32) = 0 := by decide
  have h64 := wh64 g.1
  refine ⟨sI M 194 2 0, ?_, Fr_p2 M⟩
  by_cases c1 : a1 < 0
  · exact st_join (v := -1) (Ma := M) (by simp only [sX11_like, x_cell e2, if_pos c1, Option.bind_some, if_true]) (by simp only [sX12_like, m_cell e3 e4, if_pos c1, Option.bind_some, if_true])
  by_cases c2 : nI (w * h) ≤ a1
  · exact st_join (v := -1) (Ma := M) (by simp only [sX11_like, x_cell e2, if_neg c1, if_pos c2, Option.bind_some, if_true]) (by simp only [sX12_like, m_cell e3 e4, if_neg c1, if_pos c2, Option.bind_some, if_true])
  by_cases d1 : a2 < 0
  · exact st_join (v := -1) (Ma := M) (by simp only [sX11_like, x_cell e2, if_neg c1, if_neg c2, if_neg one, if_pos d1, Option.bind_some, if_true]) (by simp only [sX12_like, m_cell e3 e4, if_neg c1, if_neg c2, if_neg one, if_pos d1, Option.bind_some, if_true])
  by_cases d2 : nI (w * h) ≤ a2
  · exact st_join (v := -1) (Ma := M) (by simp only [sX11_like, x_cell e2, if_neg c1, if_neg c2, if_neg one, if_neg d1, if_pos d2, Option.bind_some, if_true]) (by simp only [sX12_like, m_cell e3 e4, if_neg c1, if_neg c2, if_neg one, if_neg d1, if_pos d2, Option.bind_some, if_true])
  obtain ⟨c, hc, ec⟩ := nI_ex (n := w * h) c1 (Int32.le_of_lt (Int32.not_le.mp c2)) (by omega)
  subst ec
  have hcn : c < w * h := (nI_ltI (by omega) (by omega)).mp (Int32.not_le.mp c2)
  obtain ⟨d, hd, ed⟩ := nI_ex (n := w * h) d1 (Int32.le_of_lt (Int32.not_le.mp d2)) (by omega)
  subst ed
  have hdn : d < w * h := (nI_ltI (by omega) (by omega)).mp (Int32.not_le.mp d2)
  have ea : alk w (sI M 194 2 0) c d = alk w M c d := by
    unfold alk
    rw [rdN (by omega), rdN (by omega), rdN (by omega), rdN (by omega), rdN (by omega), rdN (by omega)]
  exact st_join (v := nI (alk w M c d)) (Ma := M) (by simp only [sX11_like, x_cell e2, x_like g hcn hdn, if_neg c1, if_neg c2, if_neg one, if_neg d1, if_neg d2, Option.bind_some]) (by simp only [sX12_like, m_cell e3 e4, m_like g0 hcn hdn, ea, if_neg c1, if_neg c2, if_neg one, if_neg d1, if_neg d2, Option.bind_some])
