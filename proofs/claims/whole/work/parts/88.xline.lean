/-- a stretch of the class's key -/
def xCs (r : Nat) (M : Mm) : Nat → List Cd → Prop
  | _, [] => True
  | p, c :: cs => xC_ r p c M ∧ sOk c ∧ xCs r M (p + 1) cs
theorem xC_fr {r p : Nat} {c : Cd} {M M' : Mm} (f : Fr (fun id _ => id = r + 7) M M') (h : xC_ r p c M) : xC_ r p c M' := by
  obtain ⟨h1, h2, h3, h4⟩ := h
  exact ⟨(f _ _ (by omega)).1.trans h1, (f _ _ (by omega)).1.trans h2, (f _ _ (by omega)).1.trans h3, h4⟩
theorem xCs_fr {r : Nat} {M M' : Mm} (f : Fr (fun id _ => id = r + 7) M M') : ∀ (cs : List Cd) (p : Nat), xCs r M p cs → xCs r M' p cs := by
  intro cs
  induction cs with
  | nil => intro p _; trivial
  | cons c cs ih => intro p h; exact ⟨xC_fr f h.1, h.2.1, ih (p + 1) h.2.2⟩
theorem xB_fr {r i m : Nat} {D : Nat → Nat → Nat} {M M' : Mm} (hr : r = 6 ∨ r = 14) (f : Fr (fun id _ => id = r + 7) M M') (h : xB_ i m D M) : xB_ i m D M' :=
  ⟨(f _ _ (by omega)).1.trans h.1, fun k j hk hj => (f _ _ (by omega)).1.trans (h.2 k j hk hj)⟩
theorem x_run {r i m e : Nat} {D : Nat → Nat → Nat} {v : Nat → Bool} {l : Bool} (hr : r = 6 ∨ r = 14) (he : e ≤ 96) (hi : i < 60) (hl : lyOk m D) : ∀ (cs : List Cd) (p F : Nat) (st : Sv) (M : Mm), cs.length < F → p + cs.length = e → xCs r M p cs → xB_ i m D M → Sk r m M st → st.length ≤ p → rnV D m cs st = some [(l, v)] → ∃ M', sX4_holds_6 r (38 + 2 * i) F (nI e) (nI st.length) (nI p) M = some (b2 (anV v m), M') ∧ Fr (fun id _ => id = r + 7) M M' := by
  intro cs
  induction cs with
  | nil =>
    intro p F st M hF hp _ hb hk hn hv
    obtain ⟨F, rfl⟩ : ∃ F', F = F' + 1 := ⟨F - 1, by omega⟩
    cases hv
    have hm := msk256 v hl.2.1
    have hpe : p = e := hp
    rw [sX4_holds_6, hpe, if_pos (nI_le (Nat.le_refl e) (by omega)), show nI [(l, v)].length = nI 1 from rfl, if_neg (show ¬ nI 1 ≤ 0 by decide), show nI 1 - 1 = nI 0 from rfl, ckT (inb_nI (by omega) (by decide)), show (nI 0).toNatClampNeg = 0 from rfl, show M.1 (r + 7) 0 = nI (msk v m) from hk.1]
    refine ⟨M, ?_, Fr_rf _ _⟩
    cases ha : anV v m with
    | false => rw [if_pos (show nI (msk v m) = 0 by rw [(an_msk v m).mpr ha]; rfl)]; rfl
    | true => rw [if_neg (ne0_nI (fun q => by have := (an_msk v m).mp q; rw [ha] at this; cases this) (by omega))]; rfl
  | cons c cs ih =>
    intro p F st M hF hp hc hb hk hn hv
    rw [List.length_cons] at hF hp
    obtain ⟨F, rfl⟩ : ∃ F', F = F' + 1 := ⟨F - 1, by omega⟩
    rw [rnV] at hv
    cases ho : opV c D m st with
    | none => rw [ho] at hv; cases hv
    | some st' =>
      rw [ho, Option.bind_some] at hv
      obtain ⟨M1, e1, f1, k1, n1⟩ := x_op (F := F) hr (show p < e by omega) he hi hc.1 hc.2.1 hb hl hk hn ho
      obtain ⟨M2, e2, f2⟩ := ih (p + 1) F st' M1 (by omega) (by omega) (xCs_fr f1 cs _ hc.2.2) (xB_fr hr f1 hb) k1 n1 hv
      exact ⟨M2, e1.trans e2, Fr_tr f1 f2⟩
/-- what a line says of a bore -/
def vlV (D : Nat → Nat → Nat) (m : Nat) (cs : List Cd) : Bool := match rnV D m cs [] with
  | some (x :: _) => anV x.2 m
  | _ => false
def cOk (cs : List Cd) : Prop := ∀ D m, lyOk m D → ∃ v, rnV D m cs [] = some [(false, v)]
def sx (C : Nat → List Cd) : Nat → Nat
  | 0 => 0
  | l + 1 => sx C l + (C l).length
theorem sx_mo {C : Nat → List Cd} {a : Nat} : ∀ b, a ≤ b → sx C a ≤ sx C b := by
  intro b
  induction b with
  | zero => intro h; rw [show a = 0 by omega]; exact Nat.le_refl _
  | succ b ih =>
    intro h
    by_cases q : a = b + 1
    · rw [q]; exact Nat.le_refl _
    · have := ih (by omega)
      rw [sx]; omega
/-- the class's key: n lines, of which line l has the code C l -/
def xK_ (r n : Nat) (C : Nat → List Cd) (M : Mm) : Prop := n ≤ 16 ∧ M.1 r 8 = nI n ∧ sx C n ≤ 96 ∧ ∀ l, l < n → M.1 (r + 4) l = nI (sx C (l + 1)) ∧ xCs r M (sx C l) (C l) ∧ cOk (C l)
theorem xK_fr {r n : Nat} {C : Nat → List Cd} {M M' : Mm} (f : Fr (fun id _ => id = r + 7) M M') (h : xK_ r n C M) : xK_ r n C M' :=
  ⟨h.1, (f _ _ (by omega)).1.trans h.2.1, h.2.2.1, fun l hl => ⟨(f _ _ (by omega)).1.trans (h.2.2.2 l hl).1, xCs_fr f _ _ (h.2.2.2 l hl).2.1, (h.2.2.2 l hl).2.2⟩⟩
/-- the first line from l on that holds -/
def flV (B : Nat → Bool) : Nat → Nat → Int32
  | 0, _ => -1
  | f + 1, l => if B l = true then nI l else flV B f (l + 1)
theorem x_hold {r n i m l : Nat} {C : Nat → List Cd} {D : Nat → Nat → Nat} {M : Mm} (hr : r = 6 ∨ r = 14) (hi : i < 60) (hl : lyOk m D) (hk : xK_ r n C M) (hb : xB_ i m D M) (h : l < n) : ∃ M', sX4_holds r (38 + 2 * i) (nI (sx C l)) (nI (sx C (l + 1))) M = some (b2 (vlV D m (C l)), M') ∧ Fr (fun id _ => id = r + 7) M M' := by
  obtain ⟨v, hv⟩ := (hk.2.2.2 l h).2.2 D m hl
  have h1 := sx_mo (C := C) n (show l + 1 ≤ n by omega)
  have h2 := hk.2.2.1
  have h3 : sx C (l + 1) = sx C l + (C l).length := rfl
  obtain ⟨M', e1, f1⟩ := x_run (e := sx C (l + 1)) hr (by omega) hi hl (C l) (sx C l) 4096 [] M (by omega) h3.symm (hk.2.2.2 l h).2.1 hb trivial (Nat.zero_le _) hv
  refine ⟨M', ?_, f1⟩
  unfold sX4_holds vlV
  rw [hv]
  exact e1
theorem x_fl {r n i m : Nat} {C : Nat → List Cd} {D : Nat → Nat → Nat} (hr : r = 6 ∨ r = 14) (hi : i < 60) (hl : lyOk m D) : ∀ (f l F : Nat) (M : Mm), l + f = n → f < F → xK_ r n C M → xB_ i m D M → ∃ M', sX4_firstLineOf_4 r (38 + 2 * i) F (nI (sx C l)) (nI l) M = some (flV (fun l => vlV D m (C l)) f l, M') ∧ Fr (fun id _ => id = r + 7) M M' := by
  intro f
  induction f with
  | zero =>
    intro l F M h hF hk hb
    obtain ⟨F, rfl⟩ : ∃ F', F = F' + 1 := ⟨F - 1, by omega⟩
    have h16 := hk.1
    rw [sX4_firstLineOf_4, hk.2.1, if_pos (nI_le (by omega) (by omega))]
    exact ⟨M, rfl, Fr_rf _ _⟩
  | succ f ih =>
    intro l F M h hF hk hb
    obtain ⟨F, rfl⟩ : ∃ F', F = F' + 1 := ⟨F - 1, by omega⟩
    have h16 := hk.1
    have ib := inb_nI (show l < 16 by omega) (by decide)
    obtain ⟨M1, e1, f1⟩ := x_hold hr hi hl hk hb (show l < n by omega)
    have hk1 := xK_fr f1 hk
    rw [sX4_firstLineOf_4, hk.2.1, if_neg (nle_nI (by omega) (by omega)), ckT ib, nI_clamp (by omega), (hk.2.2.2 l (by omega)).1, e1, Option.bind_some]
    dsimp only
    rw [flV]
    cases hB : vlV D m (C l) with
    | true => exact ⟨M1, by rw [if_neg (show ¬ b2 true = 0 by decide), if_pos rfl], f1⟩
    | false =>
      obtain ⟨M2, e2, f2⟩ := ih (l + 1) F M1 (by omega) (by omega) hk1 (xB_fr hr f1 hb)
      refine ⟨M2, ?_, Fr_tr f1 f2⟩
      rw [if_pos (show b2 false = 0 from rfl), ckT ib, (hk1.2.2.2 l (by omega)).1, nI_1, e2, if_neg (by decide)]
