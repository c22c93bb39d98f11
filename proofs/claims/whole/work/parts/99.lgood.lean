theorem rnI_ap : ∀ (a b : List Nd) (s : List Nat), rnI (a ++ b) s = (rnI a s).bind (rnI b) := by
  intro a
  induction a with
  | nil => intro b s; rfl
  | cons c a ih =>
    intro b s
    show (opI c s).bind (rnI (a ++ b)) = ((opI c s).bind (rnI a)).bind (rnI b)
    cases opI c s with
    | none => rfl
    | some s' => exact ih b s'
theorem cdI_ap (a b : List Nd) : cdI (a ++ b) = cdI a ++ cdI b := List.map_append
def ndO (c : Cd) : Prop := c.1 < 24 ∧ c.2.1 ≤ 5 ∧ c.2.2 ≤ 999 ∧ sOk c
/-- what was read is right: its numbers, its knots, what it says -/
def Gd (o : Bool) (k : Nat) (e : Ex) : Prop := k < e.2.1 ∧ k ≤ e.2.2.2.1 ∧ e.2.2.2.1 < e.2.1 ∧ k + e.2.2.1.length = e.2.1 ∧ (∀ d ∈ e.2.2.1, ndO d.1 ∧ k ≤ d.2.1 ∧ d.2.1 < e.2.1) ∧ (∀ s, (∀ x ∈ s, x < k) → rnI e.2.2.1 s = some (e.2.2.2.1 :: s)) ∧ ∀ D m st, ∃ v, rnV D m e.2.2.2.2 st = some ((o, v) :: st) ∧ rnV D m (cdI e.2.2.1) st = some ((o, v) :: st)
theorem rdC_g {T : Nat → Int32} {n q : Nat} {c : Nat × Nat × Nat} (h : rdC T n q = .inr c) : 1 ≤ c.2.1 ∧ c.2.1 ≤ 5 ∧ c.2.2 ≤ 999 := by
  unfold rdC at h
  have h5 := sgT_5 T n q
  by_cases z : sgT T n q = 0
  · rw [if_pos z] at h; cases h
  · rw [if_neg z] at h
    by_cases y : nmF T n (tE T n q) 999 = 0
    · rw [if_neg (fun v => v y)] at h
      cases h
      refine ⟨show 1 ≤ sgT T n q by omega, h5, ?_⟩
      show tN T n (tE T n q) ≤ 999
      unfold nmF at y
      by_cases u : tS T n (tE T n q) = 1
      · rw [if_pos u] at y
        by_cases v : tN T n (tE T n q) ≤ 999
        · exact v
        · rw [if_neg v] at y; omega
      · rw [if_neg u] at y; omega
    · rw [if_pos y] at h; cases h
theorem rdF_g {T : Nat → Int32} {n q k : Nat} {c : Nat × Cd} (h : rdF T n q k = .inr c) : c.2.1 ≤ 13 ∧ ndO c.2 := by
  unfold rdF at h
  by_cases z : wdR T n q 0 14 = true
  · obtain ⟨i, i1, i2, i3⟩ := wdR_i.mp z
    have iw : wdn T n q = i := by unfold wdn; rw [i1]; rfl
    rw [if_neg (by rw [z]; decide)] at h
    by_cases y : k = 96
    · rw [if_pos y] at h; cases h
    rw [if_neg y] at h
    by_cases u : wdR T n q 12 2 = true
    · rw [if_pos u] at h
      cases hc : rdC T n (tE T n q) with
      | inl f => rw [hc] at h; cases h
      | inr c' =>
        rw [hc] at h
        cases h
        have := rdC_g hc
        refine ⟨show wdn T n q ≤ 13 by omega, show wdn T n q < 24 by omega, this.2.1, this.2.2, fun _ => this.1⟩
    · rw [if_neg u] at h
      cases h
      have : ¬ (12 ≤ i ∧ i < 12 + 2) := fun y => u (wdR_i.mpr ⟨i, i1, y⟩)
      refine ⟨show wdn T n q ≤ 13 by omega, show wdn T n q < 24 by omega, Nat.zero_le _, Nat.zero_le _, fun y => ?_⟩
      dsimp only at y
      omega
  · rw [if_pos (Bool.eq_false_iff.mpr z)] at h; cases h
theorem Gd_lf {c : Cd} {q k : Nat} (h : c.1 ≤ 13) (hc : ndO c) : Gd true k (dLf c q k) := by
  refine ⟨Nat.lt_succ_self k, Nat.le_refl k, Nat.lt_succ_self k, rfl, fun d hd => ?_, fun s hs => ?_, fun D m st => ⟨lfV c D, ?_, ?_⟩⟩
  · rcases List.mem_singleton.mp hd with rfl
    exact ⟨hc, Nat.le_refl k, Nat.lt_succ_self k⟩
  · show (opI (c, k, 0, 0) s).bind (rnI []) = _
    unfold opI
    rw [if_pos (Or.inl h), if_neg (fun z => by have := hs k z; omega), Option.bind_some]
    rfl
  · show (opV c D m st).bind (rnV D m []) = _
    unfold opV
    rw [if_pos h, Option.bind_some]; rfl
  · show (opV c D m st).bind (rnV D m []) = _
    unfold opV
    rw [if_pos h, Option.bind_some]; rfl
theorem Gd_l2 {c : Cd} {q k : Nat} (h : c.1 = 17 ∨ c.1 = 23) (hc : ndO c) : Gd false k (dLf c q k) := by
  have ho : ∀ D m st, ∃ v, opV c D m st = some ((false, v) :: st) := fun D m st => by
    unfold opV
    rw [if_neg (by omega), if_neg (by omega), if_neg (by omega)]
    rcases h with z | z
    · rw [if_pos z]; exact ⟨_, rfl⟩
    · rw [if_neg (by omega), if_pos z]; exact ⟨_, rfl⟩
  refine ⟨Nat.lt_succ_self k, Nat.le_refl k, Nat.lt_succ_self k, rfl, fun d hd => ?_, fun s hs => ?_, fun D m st => ?_⟩
  · rcases List.mem_singleton.mp hd with rfl
    exact ⟨hc, Nat.le_refl k, Nat.lt_succ_self k⟩
  · show (opI (c, k, 0, 0) s).bind (rnI []) = _
    unfold opI
    rw [if_pos (Or.inr h), if_neg (fun z => by have := hs k z; omega), Option.bind_some]
    rfl
  · obtain ⟨v, hv⟩ := ho D m st
    have : (opV c D m st).bind (rnV D m []) = some ((false, v) :: st) := by rw [hv, Option.bind_some]; rfl
    exact ⟨v, this, this⟩
theorem Gd_qn {c : Cd} {q k : Nat} {e : Ex} (g : Gd true (k + 1) e) (h : 18 ≤ c.1 ∧ c.1 ≤ 22) (hc : ndO c) : Gd false k (dQn c q k e) := by
  obtain ⟨g1, g2, g3, g4, g5, g6, g7⟩ := g
  refine ⟨show k < e.2.1 by omega, Nat.le_refl k, show k < e.2.1 by omega, ?_, fun d hd => ?_, fun s hs => ?_, fun D m st => ?_⟩
  · show k + (e.2.2.1 ++ [(c, k, e.2.2.2.1, 0)]).length = e.2.1
    rw [List.length_append, List.length_singleton]; omega
  · rcases List.mem_append.mp hd with z | z
    · have := g5 d z
      exact ⟨this.1, by omega, this.2.2⟩
    · rcases List.mem_singleton.mp z with rfl
      exact ⟨hc, Nat.le_refl k, show k < e.2.1 by omega⟩
  · show rnI (e.2.2.1 ++ [(c, k, e.2.2.2.1, 0)]) s = some (k :: s)
    rw [rnI_ap, g6 s (fun x hx => by have := hs x hx; omega), Option.bind_some]
    show (opI (c, k, e.2.2.2.1, 0) (e.2.2.2.1 :: s)).bind (rnI []) = _
    unfold opI
    rw [if_neg (by dsimp only; omega), if_neg (by dsimp only; omega)]
    dsimp only
    rw [if_pos ⟨rfl, fun z => by have := hs k z; omega⟩, Option.bind_some]
    rfl
  · obtain ⟨v, v1, v2⟩ := g7 D m st
    have ho : opV c D m ((true, v) :: st) = some ((false, fun _ => qvV c v D m) :: st) := by
      unfold opV
      rw [if_neg (by omega), if_neg (by omega), if_neg (by omega), if_neg (by omega), if_neg (by omega)]
      rfl
    refine ⟨fun _ => qvV c v D m, ?_, ?_⟩
    · show rnV D m (e.2.2.2.2 ++ [c]) st = _
      rw [rnV_ap, v1, Option.bind_some]
      show (opV c D m _).bind (rnV D m []) = _
      rw [ho]; rfl
    · show rnV D m (cdI (e.2.2.1 ++ [(c, k, e.2.2.2.1, 0)])) st = _
      rw [cdI_ap, rnV_ap, v2, Option.bind_some]
      show (opV c D m _).bind (rnV D m []) = _
      rw [ho]; rfl
theorem Gd_jn {w k : Nat} {o : Bool} {e e' : Ex} (hw : w = 14 ∨ w = 15) (g : Gd o k e) (g' : Gd o (e.2.1 + 1) e') : Gd o k (dJn w e e') := by
  obtain ⟨g1, g2, g3, g4, g5, g6, g7⟩ := g
  obtain ⟨h1, h2, h3, h4, h5, h6, h7⟩ := g'
  refine ⟨show k < e'.2.1 by omega, show k ≤ e.2.1 by omega, show e.2.1 < e'.2.1 by omega, ?_, fun d hd => ?_, fun s hs => ?_, fun D m st => ?_⟩
  · show k + (e.2.2.1 ++ e'.2.2.1 ++ [((w, 0, 0), e.2.1, e.2.2.2.1, e'.2.2.2.1)]).length = e'.2.1
    rw [List.length_append, List.length_append, List.length_singleton]; omega
  · show ndO d.1 ∧ k ≤ d.2.1 ∧ d.2.1 < e'.2.1
    rcases List.mem_append.mp hd with z | z
    · rcases List.mem_append.mp z with z | z
      · have := g5 d z; exact ⟨this.1, this.2.1, by omega⟩
      · have := h5 d z; exact ⟨this.1, by omega, this.2.2⟩
    · rcases List.mem_singleton.mp z with rfl
      refine ⟨⟨show w < 24 by omega, Nat.zero_le _, Nat.zero_le _, fun y => ?_⟩, show k ≤ e.2.1 by omega, show e.2.1 < e'.2.1 by omega⟩
      dsimp only at y
      omega
  · show rnI (e.2.2.1 ++ e'.2.2.1 ++ [((w, 0, 0), e.2.1, e.2.2.2.1, e'.2.2.2.1)]) s = some (e.2.1 :: s)
    rw [rnI_ap, rnI_ap, g6 s hs, Option.bind_some, h6 _ (fun x hx => by
      rcases List.mem_cons.mp hx with z | z
      · omega
      · have := hs x z; omega), Option.bind_some]
    show (opI ((w, 0, 0), e.2.1, e.2.2.2.1, e'.2.2.2.1) (e'.2.2.2.1 :: e.2.2.2.1 :: s)).bind (rnI []) = _
    unfold opI
    rw [if_neg (by dsimp only; omega), if_pos (by dsimp only; omega)]
    dsimp only
    rw [if_pos ⟨rfl, rfl, fun z => by have := hs _ z; omega⟩, Option.bind_some]
    rfl
  · obtain ⟨v, v1, v2⟩ := g7 D m st
    obtain ⟨u, u1, u2⟩ := h7 D m ((o, v) :: st)
    have ho : opV (w, 0, 0) D m ((o, u) :: (o, v) :: st) = some ((o, fun k => if w = 15 then v k && u k else v k || u k) :: st) := by
      unfold opV
      rw [if_neg (by dsimp only; omega), if_pos (by dsimp only; omega)]
      dsimp only
      rw [if_pos rfl]
    refine ⟨fun k => if w = 15 then v k && u k else v k || u k, ?_, ?_⟩
    · show rnV D m (e.2.2.2.2 ++ e'.2.2.2.2 ++ [(w, 0, 0)]) st = _
      rw [rnV_ap, rnV_ap, v1, Option.bind_some, u1, Option.bind_some]
      show (opV (w, 0, 0) D m _).bind (rnV D m []) = _
      rw [ho]; rfl
    · show rnV D m (cdI (e.2.2.1 ++ e'.2.2.1 ++ [((w, 0, 0), e.2.1, e.2.2.2.1, e'.2.2.2.1)])) st = _
      rw [cdI_ap, cdI_ap, rnV_ap, rnV_ap, v2, Option.bind_some, u2, Option.bind_some]
      show (opV (w, 0, 0) D m _).bind (rnV D m []) = _
      rw [ho]; rfl
theorem op_not {D : Nat → Nat → Nat} {m : Nat} {o : Bool} {v : Nat → Bool} {st : Sv} : rnV D m [(16, 0, 0)] ((o, v) :: st) = some ((o, fun i => !v i) :: st) := rfl
theorem wr_v {D : Nat → Nat → Nat} {m k : Nat} {o : Bool} {st : Sv} : ∀ (c : Nat) (ns : List Nd) (t : Nat) (v : Nat → Bool), rnV D m (cdI ns) st = some ((o, v) :: st) → rnV D m (cdI (wrN k c ns t).1) st = some ((o, fun i => if c % 2 = 1 then !v i else v i) :: st) := by
  intro c
  induction c with
  | zero => intro ns t v h; exact h
  | succ c ih =>
    intro ns t v h
    rw [wrN, ih (ns ++ [((16, 0, 0), k + c, t, 0)]) (k + c) (fun i => !v i) (by rw [cdI_ap, rnV_ap, h, Option.bind_some]; rfl)]
    congr 3
    funext i
    by_cases z : c % 2 = 1
    · rw [if_pos z, if_neg (by omega), Bool.not_not]
    · rw [if_neg z, if_pos (by omega)]
theorem wr_i {k : Nat} {s : List Nat} (hs : ∀ x ∈ s, x < k) : ∀ (c : Nat) (ns : List Nd) (t : Nat), rnI ns s = some (t :: s) → rnI (wrN k c ns t).1 s = some ((wrN k c ns t).2 :: s) := by
  intro c
  induction c with
  | zero => intro ns t h; exact h
  | succ c ih =>
    intro ns t h
    rw [wrN]
    refine ih _ _ ?_
    rw [rnI_ap, h, Option.bind_some]
    show (opI ((16, 0, 0), k + c, t, 0) (t :: s)).bind (rnI []) = _
    unfold opI
    rw [if_neg (by dsimp only; omega), if_neg (by dsimp only; omega)]
    dsimp only
    rw [if_pos ⟨rfl, fun z => by have := hs _ z; omega⟩, Option.bind_some]
    rfl
theorem wr_t {k : Nat} : ∀ (c : Nat) (ns : List Nd) (t : Nat), (wrN k c ns t).2 = if c = 0 then t else k := by
  intro c
  induction c with
  | zero => intro ns t; rfl
  | succ c ih =>
    intro ns t
    rw [wrN, ih, if_neg (show ¬ c + 1 = 0 by omega)]
    by_cases z : c = 0
    · rw [if_pos z, z]; rfl
    · rw [if_neg z]
theorem wr_l {k : Nat} : ∀ (c : Nat) (ns : List Nd) (t : Nat), (wrN k c ns t).1.length = ns.length + c := by
  intro c
  induction c with
  | zero => intro ns t; rfl
  | succ c ih =>
    intro ns t
    rw [wrN, ih, List.length_append, List.length_singleton]; omega
theorem wr_m {k : Nat} {d : Nd} : ∀ (c : Nat) (ns : List Nd) (t : Nat), d ∈ (wrN k c ns t).1 → d ∈ ns ∨ d.1 = (16, 0, 0) ∧ k ≤ d.2.1 ∧ d.2.1 < k + c := by
  intro c
  induction c with
  | zero => intro ns t h; exact Or.inl h
  | succ c ih =>
    intro ns t h
    rw [wrN] at h
    rcases ih _ _ h with z | z
    · rcases List.mem_append.mp z with y | y
      · exact Or.inl y
      · rcases List.mem_singleton.mp y with rfl
        exact Or.inr ⟨rfl, by show k ≤ k + c; omega, by show k + c < k + (c + 1); omega⟩
    · exact Or.inr ⟨z.1, z.2.1, by omega⟩
theorem Gd_wr {k c : Nat} {o : Bool} {e : Ex} (g : Gd o (k + c) e) : Gd o k (e.1, e.2.1, (wrN k c e.2.2.1 e.2.2.2.1).1, (wrN k c e.2.2.1 e.2.2.2.1).2, e.2.2.2.2 ++ (if c % 2 = 1 then [(16, 0, 0)] else [])) := by
  obtain ⟨g1, g2, g3, g4, g5, g6, g7⟩ := g
  refine ⟨show k < e.2.1 by omega, ?_, ?_, ?_, fun d hd => ?_, fun s hs => ?_, fun D m st => ?_⟩
  · show k ≤ (wrN k c e.2.2.1 e.2.2.2.1).2
    rw [wr_t]; split <;> omega
  · show (wrN k c e.2.2.1 e.2.2.2.1).2 < e.2.1
    rw [wr_t]; split <;> omega
  · show k + (wrN k c e.2.2.1 e.2.2.2.1).1.length = e.2.1
    rw [wr_l]; omega
  · show ndO d.1 ∧ k ≤ d.2.1 ∧ d.2.1 < e.2.1
    rcases wr_m c _ _ hd with z | ⟨z1, z2, z3⟩
    · have := g5 d z; exact ⟨this.1, by omega, this.2.2⟩
    · refine ⟨?_, z2, by omega⟩
      rw [z1]
      exact ⟨by show 16 < 24; omega, Nat.zero_le _, Nat.zero_le _, fun y => by dsimp only at y; omega⟩
  · exact wr_i hs c _ _ (g6 s (fun x hx => by have := hs x hx; omega))
  · obtain ⟨v, v1, v2⟩ := g7 D m st
    refine ⟨_, ?_, wr_v c _ _ v v2⟩
    show rnV D m (e.2.2.2.2 ++ (if c % 2 = 1 then [(16, 0, 0)] else [])) st = _
    rw [rnV_ap, v1, Option.bind_some]
    by_cases z : c % 2 = 1
    · simp only [if_pos z]; rfl
    · simp only [if_neg z]; rfl
theorem gd_bo {T : Nat → Int32} {n q k : Nat} {B : Nat → Nat → Rs Ex} {e : Ex} (hq : wdR T n q 17 7 = true → 17 ≤ wdn T n q ∧ wdn T n q ≤ 23) (hB : ∀ q k e, B q k = .inr e → Gd true k e) (h : dBo T n B q k = .inr e) : Gd false k e := by
  unfold dBo at h
  by_cases hw : wdR T n q 17 7 = true
  · have h17 := hq hw
    rw [if_neg (by rw [hw]; decide)] at h
    by_cases z : k = 96
    · rw [if_pos z] at h; cases h
    rw [if_neg z] at h
    by_cases d1 : wdn T n q = 17
    · rw [if_pos d1] at h; cases h
      exact Gd_l2 (Or.inl rfl) ⟨by show 17 < 24; omega, Nat.zero_le _, Nat.zero_le _, fun y => by dsimp only at y; omega⟩
    rw [if_neg d1] at h
    by_cases d2 : wdn T n q = 23
    · rw [if_pos d2] at h
      cases hc : rdC T n (tE T n q) with
      | inl f => rw [hc] at h; cases h
      | inr c =>
        rw [hc] at h; cases h
        have := rdC_g hc
        exact Gd_l2 (Or.inr rfl) ⟨by show 23 < 24; omega, this.2.1, this.2.2, fun _ => this.1⟩
    rw [if_neg d2] at h
    by_cases d3 : wdn T n q = 20
    · rw [if_pos d3] at h
      by_cases u : nmF T n (tE T n q) 999 = 0
      · rw [if_neg (fun v => v u)] at h
        have u' : tN T n (tE T n q) ≤ 999 := by
          unfold nmF at u
          by_cases y : tS T n (tE T n q) = 1
          · rw [if_pos y] at u
            by_cases v : tN T n (tE T n q) ≤ 999
            · exact v
            · rw [if_neg v] at u; omega
          · rw [if_neg y] at u; omega
        cases hb : B (tE T n (tE T n q)) (k + 1) with
        | inl f => rw [hb] at h; cases h
        | inr e' =>
          rw [hb] at h; cases h
          exact Gd_qn (hB _ _ _ hb) (by show 18 ≤ 20 ∧ 20 ≤ 22; omega) ⟨by show 20 < 24; omega, Nat.zero_le _, u', fun y => by dsimp only at y; omega⟩
      · rw [if_pos u] at h; cases h
    rw [if_neg d3] at h
    by_cases d4 : wdn T n q = 18 ∨ wdn T n q = 19
    · rw [if_pos d4] at h
      cases hb : B (tE T n q) (k + 1) with
      | inl f => rw [hb] at h; cases h
      | inr e' =>
        rw [hb] at h; cases h
        exact Gd_qn (hB _ _ _ hb) (by dsimp only; omega) ⟨by dsimp only; omega, Nat.zero_le _, Nat.zero_le _, fun y => by dsimp only at y; omega⟩
    · rw [if_neg d4] at h
      cases hb : B (tE T n q) (k + 1) with
      | inl f => rw [hb] at h; cases h
      | inr e' =>
        rw [hb] at h
        dsimp only [rB] at h
        cases hc : rdC T n e'.1 with
        | inl f => rw [hc] at h; cases h
        | inr c =>
          rw [hc] at h; cases h
          have := rdC_g hc
          exact Gd_qn (hB _ _ _ hb) (by dsimp only; omega) ⟨by dsimp only; omega, this.2.1, this.2.2, fun _ => this.1⟩
  · rw [if_pos (Bool.eq_false_iff.mpr hw)] at h; cases h
theorem wd_17 {T : Nat → Int32} {n q : Nat} (h : wdR T n q 17 7 = true) : 17 ≤ wdn T n q ∧ wdn T n q ≤ 23 := by
  obtain ⟨i, i1, i2, i3⟩ := wdR_i.mp h
  have iw : wdn T n q = i := by unfold wdn; rw [i1]; rfl
  omega
theorem no_le {T : Nat → Int32} {n : Nat} : ∀ (g q k : Nat) (s : Nat × Nat), dNo T n g q k = .inr s → k ≤ s.2 := by
  intro g
  induction g with
  | zero => intro q k s h; cases h
  | succ g ih =>
    intro q k s h
    rw [dNo] at h
    by_cases z : wdR T n q 16 1 = true
    · rw [if_pos z] at h
      by_cases y : k = 96
      · rw [if_pos y] at h; cases h
      · rw [if_neg y] at h
        have := ih _ _ _ h
        omega
    · rw [if_neg z] at h; cases h; exact Nat.le_refl _
theorem gd_mn {T : Nat → Int32} {n q k : Nat} {o : Bool} {B : Bool → Nat → Nat → Rs Ex} {e : Ex} (hB : ∀ o q k e, B o q k = .inr e → Gd o k e) (h : dMn T n B o q k = .inr e) : Gd o k e := by
  unfold dMn at h
  cases hN : dNo T n 97 q k with
  | inl f => rw [hN] at h; cases h
  | inr s =>
    rw [hN] at h
    dsimp only [rB] at h
    have hk := no_le _ _ _ _ hN
    cases hV : dVa T n B o s.1 s.2 with
    | inl f => rw [hV] at h; cases h
    | inr e' =>
      rw [hV] at h
      cases h
      refine Gd_wr ?_
      rw [show k + (s.2 - k) = s.2 by omega]
      unfold dVa at hV
      by_cases hs : sgB T n s.1 40 = true
      · rw [if_pos hs] at hV; exact hB _ _ _ _ hV
      · rw [if_neg hs] at hV
        cases o with
        | false => rw [if_neg (by decide)] at hV; exact gd_bo wd_17 (hB true) hV
        | true =>
          rw [if_pos rfl] at hV
          cases hF : rdF T n s.1 s.2 with
          | inl f => rw [hF] at hV; cases hV
          | inr c => rw [hF] at hV; cases hV; exact Gd_lf (rdF_g hF).1 (rdF_g hF).2
theorem gd_lp {T : Nat → Int32} {n w k : Nat} {o : Bool} {P : Nat → Nat → Rs Ex} (hw : w = 14 ∨ w = 15) (hP : ∀ q k e, P q k = .inr e → Gd o k e) : ∀ (g : Nat) (e e2 : Ex), Gd o k e → dLp T n P w g e = .inr e2 → Gd o k e2 := by
  intro g
  induction g with
  | zero => intro e e2 _ h; cases h
  | succ g ih =>
    intro e e2 hg h
    rw [dLp] at h
    by_cases z : wdR T n e.1 w 1 = true
    · rw [if_pos z] at h
      by_cases y : e.2.1 = 96
      · rw [if_pos y] at h; cases h
      · rw [if_neg y] at h
        cases hPe : P (tE T n e.1) (e.2.1 + 1) with
        | inl f => rw [hPe] at h; cases h
        | inr e' => rw [hPe] at h; exact ih _ _ (Gd_jn hw hg (hP _ _ _ hPe)) h
    · rw [if_neg z] at h; cases h; exact hg
theorem gd_ei {T : Nat → Int32} {n q k : Nat} {o : Bool} {B : Bool → Nat → Nat → Rs Ex} {e : Ex} (hB : ∀ o q k e, B o q k = .inr e → Gd o k e) (h : dEi T n B o q k = .inr e) : Gd o k e := by
  have hbt : ∀ q k e, dBt T n B o q k = .inr e → Gd o k e := fun q k e h => by
    unfold dBt at h
    cases hM : dMn T n B o q k with
    | inl f => rw [hM] at h; cases h
    | inr e' => rw [hM] at h; exact gd_lp (Or.inr rfl) (fun q k e z => gd_mn hB z) _ _ _ (gd_mn hB hM) h
  unfold dEi at h
  cases hM : dBt T n B o q k with
  | inl f => rw [hM] at h; cases h
  | inr e' => rw [hM] at h; exact gd_lp (Or.inl rfl) hbt _ _ _ (hbt _ _ _ hM) h
theorem gd_br {T : Nat → Int32} {n : Nat} : ∀ (f : Nat) (o : Bool) (q k : Nat) (e : Ex), dBr T n f o q k = .inr e → Gd o k e := by
  intro f
  induction f with
  | zero =>
    intro o q k e h
    rw [dBr] at h
    split at h <;> cases h
  | succ f ih =>
    intro o q k e h
    rw [dBr] at h
    by_cases hs : sgB T n q 40 = false
    · rw [if_pos hs] at h; cases h
    · rw [if_neg hs] at h
      cases hE : dEi T n (dBr T n f) o (tE T n q) k with
      | inl f' => rw [hE] at h; cases h
      | inr e' =>
        rw [hE] at h
        dsimp only [rB] at h
        by_cases z : sgB T n e'.1 41 = true
        · rw [if_pos z] at h
          cases h
          exact (show Gd o k e' from gd_ei ih hE)
        · rw [if_neg z] at h; cases h
theorem gd_all {T : Nat → Int32} {n f q k : Nat} {o : Bool} {e : Ex} (h : dEi T n (dBr T n f) o q k = .inr e) : Gd o k e := gd_ei (gd_br f) h
