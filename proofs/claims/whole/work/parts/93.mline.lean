def mNs (M : Mm) : Nat → List Nd → Prop
  | _, [] => True
  | q, n :: ns => M.1 218 q = nI n.2.1 ∧ mN_ n M ∧ mNs M (q + 1) ns
def rnI : List Nd → List Nat → Option (List Nat)
  | [], s => some s
  | n :: ns, s => (opI n s).bind (rnI ns)
def cdI (ns : List Nd) : List Cd := ns.map (·.1)
def agE (M M' : Mm) : Prop := ∀ id k, rEv id k → M'.1 id k = M.1 id k
theorem agE_fr {M M' : Mm} (f : Fr pEv M M') : agE M M' := fun id k h => (f id k (by unfold pEv; unfold rEv at h; omega)).1
theorem mN_ag {n : Nd} {M M' : Mm} (f : agE M M') (h : mN_ n M) : mN_ n M' := by
  have r : ∀ id k, 210 ≤ id ∧ id ≤ 218 → M'.1 id k = M.1 id k := fun id k q => f id k (by unfold rEv; omega)
  obtain ⟨h1, ⟨c1, c2, c3, c4⟩, h3, h4, h5⟩ := h
  exact ⟨h1, ⟨(r _ _ (by omega)).trans c1, (r _ _ (by omega)).trans c2, (r _ _ (by omega)).trans c3, c4⟩, h3, fun q => (r _ _ (by omega)).trans (h4 q), fun q => (r _ _ (by omega)).trans (h5 q)⟩
theorem mNs_ag {M M' : Mm} (f : agE M M') : ∀ (ns : List Nd) (q : Nat), mNs M q ns → mNs M' q ns := by
  intro ns
  induction ns with
  | nil => intro q _; trivial
  | cons n ns ih => intro q h; exact ⟨(f _ _ (by unfold rEv; omega)).trans h.1, mN_ag f h.2.1, ih (q + 1) h.2.2⟩
theorem mB_ag {i m : Nat} {D : Nat → Nat → Nat} {M M' : Mm} (f : agE M M') (h : mB_ i m D M) : mB_ i m D M' :=
  ⟨(f _ _ (by unfold rEv; omega)).trans h.1, fun k j hk hj => (f _ _ (by unfold rEv; omega)).trans (h.2 k j hk hj)⟩
theorem opI_hd {n : Nd} {s s' : List Nat} (h : opI n s = some s') : ∃ r, s' = n.2.1 :: r := by
  unfold opI at h
  by_cases q1 : n.1.1 ≤ 13 ∨ n.1.1 = 17 ∨ n.1.1 = 23
  · rw [if_pos q1] at h
    by_cases q : n.2.1 ∈ s
    · rw [if_pos q] at h; cases h
    · rw [if_neg q] at h; cases h; exact ⟨_, rfl⟩
  rw [if_neg q1] at h
  by_cases q2 : n.1.1 = 14 ∨ n.1.1 = 15
  · rw [if_pos q2] at h
    match s, h with
    | y :: x :: r, h =>
      dsimp only at h
      by_cases q : n.2.2.1 = x ∧ n.2.2.2 = y ∧ n.2.1 ∉ r
      · rw [if_pos q] at h; cases h; exact ⟨_, rfl⟩
      · rw [if_neg q] at h; cases h
    | [], h => cases h
    | [_], h => cases h
  rw [if_neg q2] at h
  match s, h with
  | x :: r, h =>
    dsimp only at h
    by_cases q : n.2.2.1 = x ∧ n.2.1 ∉ r
    · rw [if_pos q] at h; cases h; exact ⟨_, rfl⟩
    · rw [if_neg q] at h; cases h
  | [], h => cases h
theorem m_run {i m l q0 N w : Nat} {D : Nat → Nat → Nat} {v : Nat → Bool} {k13 : Int32 → Int32 → Int32 → Mm → Option (Int32 × Mm)} (hi : i < 60) (hl16 : l < 16) (hq : q0 + N ≤ 96) (hl : lyOk m D) : ∀ (ns : List Nd) (j F : Nat) (s : List Nat) (st : Sv) (x4 : Int32) (M : Mm), ns.length < F → j + ns.length = N → M.1 212 l = nI N → M.1 211 l = nI q0 → mNs M (q0 + j) ns → mB_ i m D M → Mk_ m M s st → (∀ a r, s = a :: r → x4 = nI a) → rnI ns s = some [w] → rnV D m (cdI ns) st = some [(false, v)] → ∃ M', sX12_lineOf_27 k13 F (nI i) (nI (2 ^ m - 1)) (nI l) x4 (nI j) M = (if v 0 = true then some (nI l, M') else k13 (nI i) (nI (2 ^ m - 1)) (nI (l + 1)) M') ∧ Fr pEv M M' := by
  intro ns
  induction ns with
  | nil =>
    intro j F s st x4 M hF hj h212 h211 _ hb hk hx hI hv
    obtain ⟨F, rfl⟩ : ∃ F', F = F' + 1 := ⟨F - 1, by omega⟩
    cases hI
    cases hv
    have il := inb_nI (show l < 32 by omega) (by decide)
    have hj' : j = N := hj
    obtain ⟨hw, h222, _⟩ := hk
    rw [sX12_lineOf_27, ckT il, nI_clamp (show l < 2 ^ 31 by omega), h212, if_pos (nI_le (by omega) (by omega)), hx w [] rfl, ckT (inb_nI hw (by decide)), nI_clamp (by omega), h222, nI_1]
    refine ⟨M, ?_, Fr_rf _ _⟩
    show (if b2 (v 0) = 1 then _ else _) = _
    cases v 0 <;> rfl
  | cons n ns ih =>
    intro j F s st x4 M hF hj h212 h211 hns hb hk hx hI hv
    rw [List.length_cons] at hF hj
    obtain ⟨F, rfl⟩ : ∃ F', F = F' + 1 := ⟨F - 1, by omega⟩
    rw [rnI] at hI
    rw [show cdI (n :: ns) = n.1 :: cdI ns from rfl, rnV] at hv
    cases ho : opV n.1 D m st with
    | none => rw [ho] at hv; cases hv
    | some st' =>
      rw [ho, Option.bind_some] at hv
      cases hi' : opI n s with
      | none => rw [hi'] at hI; cases hI
      | some s' =>
        rw [hi', Option.bind_some] at hI
        obtain ⟨M1, e1, f1, k1⟩ := m_op (F := F) (x4 := x4) (k13 := k13) hi hl16 (show N ≤ 96 by omega) hq (show j < N by omega) h212 h211 hns.1 hns.2.1 hb hl hk hi' ho
        have ag := agE_fr f1
        obtain ⟨r, hr⟩ := opI_hd hi'
        obtain ⟨M2, e2, f2⟩ := ih (j + 1) F s' st' (nI n.2.1) M1 (by omega) (by omega) ((ag _ _ (by unfold rEv; omega)).trans h212) ((ag _ _ (by unfold rEv; omega)).trans h211) (mNs_ag ag ns _ hns.2.2) (mB_ag ag hb) k1 (fun a r' q => by rw [hr] at q; cases q; rfl) hI hv
        exact ⟨M2, e1.trans e2, Fr_tr f1 f2⟩
theorem rnV_c {D : Nat → Nat → Nat} {m : Nat} : ∀ (cs : List Cd) (st st' : Sv), rnV D m cs st = some st' → cstV st → cstV st' := by
  intro cs
  induction cs with
  | nil => intro st st' h hc; cases h; exact hc
  | cons c cs ih =>
    intro st st' h hc
    rw [rnV] at h
    cases ho : opV c D m st with
    | none => rw [ho] at h; cases h
    | some s1 =>
      rw [ho, Option.bind_some] at h
      exact ih s1 st' h (opV_c ho hc)
theorem an_c {v : Nat → Bool} (h : ∀ k, v k = v 0) : ∀ m, 1 ≤ m → anV v m = v 0 := by
  intro m
  induction m with
  | zero => intro q; omega
  | succ m ih =>
    intro _
    rw [anV]
    by_cases q : 1 ≤ m
    · rw [ih q, h m, Bool.or_self]
    · rw [show m = 0 by omega, anV, Bool.false_or]
theorem vl_0 {D : Nat → Nat → Nat} {m : Nat} {cs : List Cd} {v : Nat → Bool} (hm : 1 ≤ m) (h : rnV D m cs [] = some [(false, v)]) : vlV D m cs = v 0 := by
  have hc := rnV_c cs [] _ h (fun x hx => by cases hx)
  unfold vlV
  rw [h]
  exact an_c (fun k => hc (false, v) (by simp) rfl k) m hm
/-- the model's key: n lines, of which line l has the nodes Q l -/
def mK_ (n : Nat) (Q : Nat → List Nd) (M : Mm) : Prop := n ≤ 16 ∧ M.1 194 34 = nI n ∧ ∀ l, l < n → (∃ q0, q0 + (Q l).length ≤ 96 ∧ M.1 211 l = nI q0 ∧ mNs M q0 (Q l)) ∧ M.1 212 l = nI (Q l).length ∧ (∃ w, rnI (Q l) [] = some [w]) ∧ cOk (cdI (Q l))
theorem mK_ag {n : Nat} {Q : Nat → List Nd} {M M' : Mm} (f : agE M M') (h : mK_ n Q M) : mK_ n Q M' := by
  refine ⟨h.1, (f _ _ (by unfold rEv; omega)).trans h.2.1, fun l hl => ?_⟩
  obtain ⟨⟨q0, a1, a2, a3⟩, b, c⟩ := h.2.2 l hl
  exact ⟨⟨q0, a1, (f _ _ (by unfold rEv; omega)).trans a2, mNs_ag f _ _ a3⟩, (f _ _ (by unfold rEv; omega)).trans b, c⟩
theorem m_fl {n i m : Nat} {Q : Nat → List Nd} {D : Nat → Nat → Nat} (hi : i < 60) (hl : lyOk m D) : ∀ (f l F : Nat) (M : Mm), l + f = n → f < F → mK_ n Q M → mB_ i m D M → ∃ M', sX12_lineOf_13 F (nI i) (nI (2 ^ m - 1)) (nI l) M = some (flV (fun l => vlV D m (cdI (Q l))) f l, M') ∧ Fr pEv M M' := by
  intro f
  induction f with
  | zero =>
    intro l F M h hF hk hb
    obtain ⟨F, rfl⟩ : ∃ F', F = F' + 1 := ⟨F - 1, by omega⟩
    have h16 := hk.1
    rw [sX12_lineOf_13, hk.2.1, if_pos (nI_le (by omega) (by omega))]
    exact ⟨M, rfl, Fr_rf _ _⟩
  | succ f ih =>
    intro l F M h hF hk hb
    obtain ⟨F, rfl⟩ : ∃ F', F = F' + 1 := ⟨F - 1, by omega⟩
    have h16 := hk.1
    obtain ⟨⟨q0, a1, a2, a3⟩, b, ⟨w, hw⟩, hc⟩ := hk.2.2 l (by omega)
    obtain ⟨v, hv⟩ := hc D m hl
    obtain ⟨M1, e1, f1⟩ := m_run (k13 := sX12_lineOf_13 F) hi (show l < 16 by omega) a1 hl (Q l) 0 4096 [] [] (-1) M (by omega) (Nat.zero_add _) b a2 a3 hb trivial (fun a r q => by cases q) hw hv
    have e1' : sX12_lineOf_27 (sX12_lineOf_13 F) 4096 (nI i) (nI (2 ^ m - 1)) (nI l) (-1) 0 M = _ := e1
    rw [sX12_lineOf_13, hk.2.1, if_neg (nle_nI (by omega) (by omega)), e1', flV, vl_0 hl.1 hv]
    by_cases q : v 0 = true
    · rw [if_pos q, if_pos q]; exact ⟨M1, rfl, f1⟩
    · rw [if_neg q, if_neg q]
      obtain ⟨M2, e2, f2⟩ := ih (l + 1) F M1 (by omega) (by omega) (mK_ag (agE_fr f1) hk) (mB_ag (agE_fr f1) hb)
      exact ⟨M2, e2, Fr_tr f1 f2⟩
theorem m_line {n i m : Nat} {Q : Nat → List Nd} {D : Nat → Nat → Nat} {M : Mm} (hi : i < 60) (hl : lyOk m D) (hk : mK_ n Q M) (hb : mB_ i m D M) : ∃ M', sX12_lineOf (nI i) M = some (flV (fun l => vlV D m (cdI (Q l))) n 0, M') ∧ Fr pEv M M' := by
  have h16 := hk.1
  have hm := hl.2.1
  unfold sX12_lineOf
  rw [ckT (inb_nI hi (by decide)), nI_clamp (by omega), hb.1, sh_all m (by omega)]
  exact m_fl hi hl n 0 4096 M (by omega) (by omega) hk hb
theorem m_kind {n i m : Nat} {Q : Nat → List Nd} {D : Nat → Nat → Nat} {M : Mm} (hi : i < 60) (hl : lyOk m D) (hk : mK_ n Q M) (hb : mB_ i m D M) : ∃ M', sX12_kindOf (nI i) M = some (kiV (fun l => vlV D m (cdI (Q l))) (fun l => M.1 210 l) n 0, M') ∧ Fr pEv M M' := by
  have h16 := hk.1
  obtain ⟨M1, e1, f1⟩ := m_line hi hl hk hb
  unfold sX12_kindOf
  rw [e1, Option.bind_some]
  dsimp only
  rcases fl_ki (B := fun l => vlV D m (cdI (Q l))) (K := fun l => M.1 210 l) n 0 with ⟨q1, q2⟩ | ⟨a, q0, q1, q2⟩
  · rw [q1, q2, if_neg neg1]; exact ⟨M1, rfl, f1⟩
  · rw [q1, q2, if_pos (show (0 : Int32) ≤ nI a from nI_le (a := 0) (by omega) (by omega)), ckT (inb_nI (show a < 32 by omega) (by decide)), nI_clamp (by omega), (f1 210 a (by unfold pEv; omega)).1]
    exact ⟨M1, rfl, f1⟩
