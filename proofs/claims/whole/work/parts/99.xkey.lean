/-- a line that was read is right -/
def lnG (K : Nat) (x : Ln) : Prop := x.2.2 < K ∧ cOk x.1 ∧ cOk (cdI x.2.1) ∧ (∃ w, rnI x.2.1 [] = some [w]) ∧ (∀ d ∈ x.2.1, ndO d.1) ∧ ∀ D m, lyOk m D → vlV D m x.1 = vlV D m (cdI x.2.1)
theorem lnG_e {K k i : Nat} {e : Ex} (g : Gd false k e) (hi : i < K) : lnG K (e.2.2.2.2, e.2.2.1, i) := by
  obtain ⟨g1, g2, g3, g4, g5, g6, g7⟩ := g
  refine ⟨hi, fun D m _ => ?_, fun D m _ => ?_, ⟨_, g6 [] (fun x hx => by cases hx)⟩, fun d hd => (g5 d hd).1, fun D m _ => ?_⟩
  · obtain ⟨v, v1, v2⟩ := g7 D m []
    exact ⟨v, v1⟩
  · obtain ⟨v, v1, v2⟩ := g7 D m []
    exact ⟨v, v2⟩
  · obtain ⟨v, v1, v2⟩ := g7 D m []
    unfold vlV
    dsimp only
    rw [v1, v2]
theorem dKd_g {T : Nat → Int32} {n q L K : Nat} {nm : Nat → Nat} {d : Nat × Nat × (Nat → Nat)} (h : dKd T n q L K nm = .inr d) : d.1 < d.2.1 ∧ K ≤ d.2.1 := by
  unfold dKd at h
  by_cases c : nwB T n q = false
  · rw [if_pos c] at h; cases h
  rw [if_neg c] at h
  by_cases c2 : L = 16
  · rw [if_pos c2] at h; cases h
  rw [if_neg c2] at h
  cases hf : fnN T n nm q K 0 with
  | some i =>
    rw [hf] at h
    cases h
    have := fn_lt _ _ _ hf
    exact ⟨by show i < K; omega, Nat.le_refl _⟩
  | none =>
    rw [hf] at h
    dsimp only at h
    by_cases c8 : K = 8
    · rw [if_pos c8] at h; cases h
    · rw [if_neg c8] at h; cases h
      exact ⟨Nat.lt_succ_self K, Nat.le_succ K⟩
theorem dKy_g {T : Nat → Int32} {n : Nat} : ∀ (g q k L K : Nat) (nm : Nat → Nat) (R : Nat → Ln) (s : Nat × Nat × Nat × (Nat → Ln)), dKy T n g q k L K nm R = .inr s → (∀ l, l < L → lnG K (R l)) → ∀ l, l < s.2.1 → lnG s.2.2.1 (s.2.2.2 l) := by
  intro g
  induction g with
  | zero => intro q k L K nm R s h; cases h
  | succ g ih =>
    intro q k L K nm R s h hG
    rw [dKy] at h
    by_cases c : tS T n q = 0
    · rw [if_pos c] at h; cases h; exact hG
    rw [if_neg c] at h
    unfold dLn at h
    cases hd : dKd T n q L K nm with
    | inl f => rw [hd] at h; cases h
    | inr d =>
      rw [hd] at h
      dsimp only [rB] at h
      have hdg := dKd_g hd
      by_cases c2 : sgB T n (tE T n q) 58 = false
      · rw [if_pos c2] at h; cases h
      rw [if_neg c2] at h
      cases hE : dEi T n (dBr T n 8) false (tE T n (tE T n q)) k with
      | inl f => rw [hE] at h; cases h
      | inr e =>
        rw [hE] at h
        dsimp only at h
        by_cases c3 : sgB T n e.1 59 = false
        · rw [if_pos c3] at h; cases h
        rw [if_neg c3] at h
        dsimp only at h
        refine ih _ _ _ _ _ _ s h (fun l hl => ?_)
        by_cases z : l = L
        · rw [z, upN_s]; exact lnG_e (gd_all hE) hdg.1
        · rw [upN_n z]
          obtain ⟨b1, b2⟩ := hG l (by omega)
          exact ⟨by omega, b2⟩
def nm0 : Nat → Nat := fun _ => 0
def R0_ : Nat → Ln := fun _ => ([], [], 0)
/-- the class's new key -/
def KX (r k L K : Nat) (R : Nat → Ln) (M : Mm) : Prop := M.1 r 10 = nI k ∧ k ≤ 96 ∧ M.1 r 8 = nI L ∧ L ≤ 16 ∧ M.1 r 9 = nI K ∧ K ≤ 8 ∧ sx (cdR R) L ≤ 96 ∧ ∀ l, l < L → M.1 (r + 4) l = nI (sx (cdR R) (l + 1)) ∧ xCs r M (sx (cdR R) l) (cdR R l) ∧ M.1 (r + 5) l = nI (R l).2.2
theorem KX_sm {r k L K : Nat} {R : Nat → Ln} {M M' : Mm} (f : ∀ a j, r ≤ a ∧ a ≤ r + 5 → M'.1 a j = M.1 a j) (h : KX r k L K R M) : KX r k L K R M' := by
  obtain ⟨h1, h2, h3, h4, h5, h6, h7, h8⟩ := h
  exact ⟨(f _ _ (by omega)).trans h1, h2, (f _ _ (by omega)).trans h3, h4, (f _ _ (by omega)).trans h5, h6, h7, fun l hl => ⟨(f _ _ (by omega)).trans (h8 l hl).1, xCs_sm (fun a j p => f a j (by omega)) _ _ (h8 l hl).2.1, (f _ _ (by omega)).trans (h8 l hl).2.2⟩⟩
theorem KX_k {r k L K : Nat} {R : Nat → Ln} {M : Mm} (h : KX r k L K R M) (hG : ∀ l, l < L → lnG K (R l)) : xK_ r L (cdR R) M :=
  ⟨h.2.2.2.1, h.2.2.1, h.2.2.2.2.2.2.1, fun l hl => ⟨(h.2.2.2.2.2.2.2 l hl).1, (h.2.2.2.2.2.2.2 l hl).2.1, (hG l hl).2.1⟩⟩
def pX1 (r id k : Nat) : Prop := id = 3 ∧ 2 ≤ k ∧ k ≤ 9 ∨ r ≤ id ∧ id ≤ r + 6 ∨ id = 5 ∧ k = 2 ∨ id = 1 ∧ (k = 1 ∨ k = 5 ∨ k = 6)
theorem x_key1 {kq : Nat × Nat} {T : Nat → Int32} {n t : Nat} {M : Mm} (hr : kq.2 = 6 ∨ kq.2 = 14) (hn : n ≤ t) (ht : t ≤ 800) (h11 : M.1 1 1 = nI t) (hT : Tp 2 T n M) (hw : iWx M) :
    (∃ w a M', dKy T n 17 0 0 0 0 nm0 R0_ = .inl (w, a) ∧ sX11_key_f kq (nI n) M = some (some (-1), M') ∧ Fr (pX1 kq.2) M M' ∧ M'.1 1 1 = 0 ∧ M'.1 1 5 = nI w ∧ M'.1 1 6 = nI a) ∨
    (∃ k L K R M', dKy T n 17 0 0 0 0 nm0 R0_ = .inr (k, L, K, R) ∧ sX11_key_f kq (nI n) M = some (none, M') ∧ Fr (pX1 kq.2) M M' ∧ M'.1 1 1 = 0 ∧ M'.1 1 5 = 0 ∧ M'.1 1 6 = -1 ∧ KX kq.2 k L K R M') := by
  obtain ⟨B, e1, f1, x1⟩ := x_beg hT hw
  obtain ⟨C, hC⟩ : ∃ C, C = sI (sI (sI (sI (sI B kq.2 3 0) kq.2 8 0) kq.2 9 0) kq.2 10 0) 5 2 0 := ⟨_, rfl⟩
  have fC : Fr (pX1 kq.2) M C := by
    rw [hC]
    exact Fr_sI (Fr_sI (Fr_sI (Fr_sI (Fr_sI (Fr_mo f1 (fun id k p => by unfold pX1; omega)) (by unfold pX1; omega)) (by unfold pX1; omega)) (by unfold pX1; omega)) (by unfold pX1; omega)) (by unfold pX1; omega)
  have xC : XL kq.2 T n 0 0 0 0 nm0 R0_ C := by
    rw [hC]
    refine ⟨Xs_sI (Xs_sI (Xs_sI (Xs_sI (Xs_sI x1 (by omega)) (by omega)) (by omega)) (by omega)) (by omega), ?_, ?_, by omega, Nat.le_refl _, ?_, by omega, ?_, by omega, fun l hl => by omega, fun j hj => by omega, rdS _ _ _ _⟩
    · rw [rdN (by omega), rdN (by omega), rdN (by omega), rdN (by omega), rdS]; rfl
    · rw [rdN (by omega), rdS]; rfl
    · rw [rdN (by omega), rdN (by omega), rdN (by omega), rdS]; rfl
    · rw [rdN (by omega), rdN (by omega), rdS]; rfl
  have fx : ∀ {X Y : Mm}, Fr (pXk kq.2) X Y → Fr (pX1 kq.2) X Y := fun {X Y} f => Fr_mo f (fun id k p => by
    rcases p with p | p | p
    · unfold pXr at p; unfold pX1; omega
    · unfold pX1; omega
    · unfold pX1; omega)
  have unf : ∀ {R : Int32 × Mm}, sX5_readKey_14 kq 4096 (nI 0) C = some R → sX11_key_f kq (nI n) M = if R.1 = 0 then some (some (-1), sI (sI (sI R.2 1 5 (R.2.1 3 8)) 1 6 (R.2.1 3 9)) 1 1 0) else some (none, sI (sI (sI R.2 1 5 (R.2.1 3 8)) 1 6 (R.2.1 3 9)) 1 1 0) := fun {R} hR => by
    have hR' : sX5_readKey_14 kq 4096 0 C = some R := hR
    unfold sX11_key_f
    rw [if_neg (show ¬ nI n < 0 from nlt_nI (b := 0) (by omega) (by omega)), h11, if_pos (nI_le hn (by omega)), e1, Option.bind_some]
    unfold sX5_readKey sX4_clear
    rw [Option.bind_some, ← hC, hR', Option.bind_some]
    unfold sX11_keepFault
    rw [Option.bind_some, rdN (by omega)]
  have fk : ∀ {X : Mm}, Fr (pX1 kq.2) M X → Fr (pX1 kq.2) M (sI (sI (sI X 1 5 (X.1 3 8)) 1 6 (X.1 3 9)) 1 1 0) := fun {X} f => Fr_sI (Fr_sI (Fr_sI f (by unfold pX1; omega)) (by unfold pX1; omega)) (by unfold pX1; omega)
  rcases x_ky hr 17 4096 0 0 0 0 nm0 R0_ C xC (by omega) (by omega) with ⟨w, a, A, t1, t2, t3, t4⟩ | ⟨q', k', L', K', nm', R', A, t1, t2, t3, t4⟩
  · refine Or.inl ⟨w, a, _, t1, (unf t2).trans (if_pos rfl), fk (Fr_tr fC (fx t3)), rdS _ _ _ _, ?_, ?_⟩
    · rw [rdN (by omega), rdN (by omega), rdS]; exact t4.1
    · rw [rdN (by omega), rdS]; exact t4.2
  · obtain ⟨y1, y3, y10, yk, yl, y8, yL, y9, yK, yR, yN, y5⟩ := t4
    refine Or.inr ⟨k', L', K', R', _, t1, (unf t2).trans (if_neg (show ¬ (1 : Int32) = 0 by decide)), fk (Fr_tr fC (fx t3)), rdS _ _ _ _, ?_, ?_, KX_sm (M := A) (fun a j p => ?_) ⟨y10, yk, y8, yL, y9, yK, by omega, yR⟩⟩
    · rw [rdN (by omega), rdN (by omega), rdS]; exact y1.2.2.2.1
    · rw [rdN (by omega), rdS]; exact y1.2.2.2.2.1
    · rw [rdN (by omega), rdN (by omega), rdN (by omega)]
theorem x_72 {kq : Nat × Nat} : ∀ (d x F : Nat) (M : Mm), x + d = 8 → d < F → (∀ u, u < x → M.1 193 u = 0) → ∃ M', sX11_key_72 kq F (nI x) M = ((sX1_judgeAll kq.1 M').bind fun (M99 : Mm) => some ((M99.1 kq.1 8), M99)) ∧ Fr (fun id _ => id = 193) M M' ∧ ∀ u, u < 8 → M'.1 193 u = 0 := by
  intro d
  induction d with
  | zero =>
    intro x F M hx hF h0
    obtain ⟨F, rfl⟩ : ∃ F', F = F' + 1 := ⟨F - 1, by omega⟩
    rw [sX11_key_72, if_pos (show 8 ≤ nI x from nI_le (a := 8) (by omega) (by omega))]
    exact ⟨M, rfl, Fr_rf _ _, fun u h1 => h0 u (by omega)⟩
  | succ d ih =>
    intro x F M hx hF h0
    obtain ⟨F, rfl⟩ : ∃ F', F = F' + 1 := ⟨F - 1, by omega⟩
    rw [sX11_key_72, if_neg (show ¬ 8 ≤ nI x from nle_nI (a := 8) (by omega) (by omega)), ckT (inb_nI (show x < 8 by omega) (by decide)), nI_clamp (show x < 2 ^ 31 by omega), nI_1]
    obtain ⟨M', e1, f1, g1⟩ := ih (x + 1) F (sI M 193 x 0) (by omega) (by omega) (fun u hu => by
      by_cases c : u = x
      · rw [c, rdS]
      · rw [rdN (by omega)]; exact h0 u (by omega))
    exact ⟨M', e1, Fr_tr (Fr_sI (Fr_rf _ _) rfl) f1, g1⟩
def pX2 (r id k : Nat) : Prop := id = 158 ∧ k = 4 ∨ id = 159 ∨ id = 193 ∨ pJa r id k
theorem x_key2 {kq : Nat × Nat} {k L K N : Nat} {R : Nat → Ln} {M : Mm} (hr : kq.1 = 6 ∨ kq.1 = 14) (hN : N ≤ 60) (h34 : M.1 34 1 = nI N) (h : KX kq.1 k L K R M) (hG : ∀ l, l < L → lnG K (R l)) (hD : ∀ i, i < N → M.1 (38 + 2 * i) 0 = -1 → ∃ (m : Nat) (D : Nat → Nat → Nat), lyOk m D ∧ xB_ i m D M ∧ mB_ i m D M) :
    ∃ M', sX11_key_56 kq M = some (nI L, M') ∧ Fr (pX2 kq.1) M M' ∧ M'.1 158 4 = nI K ∧ (∀ p, p < 192 → M'.1 159 p = rst p) ∧ (∀ u, u < 8 → M'.1 193 u = 0) ∧ KX kq.1 k L K R M' ∧ ∀ i, i < N → M.1 (38 + 2 * i) 0 = -1 → jdN kq.1 L (cdR R) M M' i := by
  obtain ⟨A, e1, f1, g1⟩ := x_rs_1 3 0 4096 (sI M 158 4 (nI K)) (by omega) (by omega)
  have e1' : sX2_resetReads_7 4096 0 (sI M 158 4 (nI K)) = some A := e1
  obtain ⟨B, e2, f2, g2⟩ := x_72 (kq := kq) 8 0 4096 A (by omega) (by omega) (fun u hu => by omega)
  have e2' : sX11_key_72 kq 4096 0 A = _ := e2
  have fB : Fr (fun id p => id = 158 ∧ p = 4 ∨ id = 159 ∨ id = 193) M B := Fr_tr (Fr_sI (Fr_rf _ _) (Or.inl ⟨rfl, rfl⟩)) (Fr_tr (Fr_mo f1 (fun id p q => by omega)) (Fr_mo f2 (fun id p q => by omega)))
  have rB : ∀ a j, ¬ (a = 158 ∧ j = 4 ∨ a = 159 ∨ a = 193) → B.1 a j = M.1 a j := fun a j p => (fB a j p).1
  have kB : KX kq.1 k L K R B := KX_sm (fun a j p => rB a j (by omega)) h
  have mx : ∀ i m D, i < N → xB_ i m D M → xB_ i m D B := fun i m D hi b => ⟨(rB _ _ (by omega)).trans b.1, fun k j hk hj => (rB _ _ (by omega)).trans (b.2 k j hk hj)⟩
  have mm : ∀ i m D, i < N → mB_ i m D M → mB_ i m D B := fun i m D hi b => ⟨(rB _ _ (by omega)).trans b.1, fun k j hk hj => (rB _ _ (by omega)).trans (b.2 k j hk hj)⟩
  have bx : ∀ i m D, i < N → xB_ i m D B → xB_ i m D M := fun i m D hi b => ⟨(rB _ _ (by omega)).symm.trans b.1, fun k j hk hj => (rB _ _ (by omega)).symm.trans (b.2 k j hk hj)⟩
  have bm : ∀ i m D, i < N → mB_ i m D B → mB_ i m D M := fun i m D hi b => ⟨(rB _ _ (by omega)).symm.trans b.1, fun k j hk hj => (rB _ _ (by omega)).symm.trans (b.2 k j hk hj)⟩
  obtain ⟨C, e3, f3, g3⟩ := x_judgeAll (M := B) hr hN ((rB _ _ (by omega)).trans h34) (KX_k kB hG) (fun i hi q => by
    rw [rB _ _ (by omega)] at q
    obtain ⟨m, D, l1, l2, l3⟩ := hD i hi q
    exact ⟨m, D, l1, mx i m D hi l2, mm i m D hi l3⟩)
  have c8 : C.1 kq.1 8 = nI L := (f3 _ _ (pJa_r (by omega) (by omega))).1.trans kB.2.2.1
  refine ⟨C, ?_, Fr_tr (Fr_mo fB (fun id p q => by unfold pX2; omega)) (Fr_mo f3 (fun id p q => Or.inr (Or.inr (Or.inr q)))), ?_, fun p hp => ?_, fun u hu => ?_, KX_sm (fun a j p => (f3 _ _ (pJa_r (by omega) (by omega))).1) kB, fun i hi q => ?_⟩
  · unfold sX11_key_56 sX2_resetReads
    rw [h.2.2.2.2.1, e1', Option.bind_some, e2', e3, Option.bind_some, c8]
  · rw [(f3 _ _ (pJa_r (by omega) (by omega))).1, (f2 _ _ (by omega)).1, (f1 _ _ (by omega)).1, rdS]
  · rw [(f3 _ _ (pJa_r (by omega) (by omega))).1, (f2 _ _ (by omega)).1]; exact g1 p (by omega) hp
  · rw [(f3 _ _ (pJa_r (by omega) (by omega))).1]; exact g2 u hu
  · obtain ⟨m, D, a1, a2, a3, a4, a5⟩ := g3 i hi (by rw [rB _ _ (by omega)]; exact q)
    exact ⟨m, D, a1, bx i m D hi a2, bm i m D hi a3, a4, a5.trans (ki_ext L 0 (fun a _ => ⟨rfl, rB _ _ (by omega)⟩))⟩
