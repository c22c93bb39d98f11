/-- a line: the class's code, the model's nodes, the kind -/
abbrev Ln := List Cd × List Nd × Nat
def upN {α : Type} (f : Nat → α) (i : Nat) (v : α) : Nat → α := fun j => if j = i then v else f j
theorem upN_s {α : Type} {f : Nat → α} {i : Nat} {v : α} : upN f i v i = v := by unfold upN; rw [if_pos rfl]
theorem upN_n {α : Type} {f : Nat → α} {i j : Nat} {v : α} (h : j ≠ i) : upN f i v j = f j := by unfold upN; rw [if_neg h]
/-- the line's kind: its number, how many there are now, their names -/
def dKd (T : Nat → Int32) (n q L K : Nat) (nm : Nat → Nat) : Rs (Nat × Nat × (Nat → Nat)) :=
  if nwB T n q = false then .inl (1, tA T n q) else if L = 16 then .inl (2, tA T n q) else
  match fnN T n nm q K 0 with
  | some i => .inr (i, K, nm)
  | none => if K = 8 then .inl (2, tA T n q) else .inr (K, K + 1, upN nm K q)
def dLn (T : Nat → Int32) (n q k L K : Nat) (nm : Nat → Nat) : Rs (Ex × Nat × Nat × (Nat → Nat)) :=
  rB (dKd T n q L K nm) (fun d => if sgB T n (tE T n q) 58 = false then .inl (1, tA T n (tE T n q)) else rB (dEi T n (dBr T n 8) false (tE T n (tE T n q)) k) (fun e => if sgB T n e.1 59 = false then .inl (1, tA T n e.1) else .inr ((tE T n e.1, e.2), d)))
def dKy (T : Nat → Int32) (n : Nat) : Nat → Nat → Nat → Nat → Nat → (Nat → Nat) → (Nat → Ln) → Rs (Nat × Nat × Nat × (Nat → Ln))
  | 0, _, _, _, _, _, _ => .inl (0, 0)
  | g + 1, q, k, L, K, nm, R => if tS T n q = 0 then .inr (k, L, K, R) else rB (dLn T n q k L K nm) (fun s => dKy T n g s.1.1 s.1.2.1 (L + 1) s.2.2.1 s.2.2.2 (upN R L (s.1.2.2.2.2, s.1.2.2.1, s.2.1)))
def cdR (R : Nat → Ln) (l : Nat) : List Cd := (R l).1
theorem sx_cg {C C' : Nat → List Cd} : ∀ n, (∀ l, l < n → C l = C' l) → sx C n = sx C' n := by
  intro n
  induction n with
  | zero => intro _; rfl
  | succ n ih => intro h; rw [sx, sx, ih (fun l q => h l (by omega)), h n (by omega)]
/-- the class at the beginning of a line -/
def XL (r : Nat) (T : Nat → Int32) (n q k L K : Nat) (nm : Nat → Nat) (R : Nat → Ln) (M : Mm) : Prop := Xs T n q M ∧ M.1 r 3 = nI (sx (cdR R) L) ∧ M.1 r 10 = nI k ∧ k ≤ 96 ∧ sx (cdR R) L ≤ k ∧ M.1 r 8 = nI L ∧ L ≤ 16 ∧ M.1 r 9 = nI K ∧ K ≤ 8 ∧ (∀ l, l < L → M.1 (r + 4) l = nI (sx (cdR R) (l + 1)) ∧ xCs r M (sx (cdR R) l) (cdR R l) ∧ M.1 (r + 5) l = nI (R l).2.2) ∧ (∀ j, j < K → M.2 (r + 6) j = xLt T n (nm j)) ∧ M.1 5 2 = 0
def pXk (r id k : Nat) : Prop := pXr id k ∨ r ≤ id ∧ id ≤ r + 6 ∨ id = 5 ∧ k = 2
theorem kx_xk {r : Nat} {M M1 : Mm} (f : Fr (pKx r) M M1) : Fr (pXk r) M M1 := Fr_mo f (fun id k q => by
  rcases q with q | q | q | q
  · exact Or.inl q
  · exact Or.inr (Or.inl (by omega))
  · exact Or.inr (Or.inl (by omega))
  · exact Or.inr (Or.inr q))
theorem xr_xk {r : Nat} {M M1 : Mm} (f : Fr pXr M M1) : Fr (pXk r) M M1 := Fr_mo f (fun _ _ q => Or.inl q)
/-- the class reads a line's kind -/
theorem x_kd {kq : Nat × Nat} {T : Nat → Int32} {n q k L K : Nat} {nm : Nat → Nat} {R : Nat → Ln} {M : Mm} (hr : kq.2 = 6 ∨ kq.2 = 14) (x : XL kq.2 T n q k L K nm R M) :
    (∃ w a M', dKd T n q L K nm = .inl (w, a) ∧ sX5_readKind kq M = some (-1, M') ∧ Fr (pXk kq.2) M M' ∧ Xf w a M') ∨
    (∃ d M', dKd T n q L K nm = .inr d ∧ L < 16 ∧ d.1 < d.2.1 ∧ K ≤ d.2.1 ∧ d.2.1 ≤ 8 ∧ sX5_readKind kq M = some (nI d.1, M') ∧ Fr (fun id j => pXr id j ∨ id = kq.2 + 6 ∨ id = kq.2 ∧ j = 9) M M' ∧ Xs T n (tE T n q) M' ∧ M'.1 kq.2 9 = nI d.2.1 ∧ ∀ j, j < d.2.1 → M'.2 (kq.2 + 6) j = xLt T n (d.2.2 j)) := by
  obtain ⟨x1, x3, x10, xk, xl, x8, xL, x9, xK, xR, xN, x5⟩ := x
  unfold dKd sX5_readKind
  rw [x1.1.2.2.2.1]
  have h4 := tS_lt T n q
  by_cases c : nwB T n q = true
  · have c' := c
    unfold nwB at c'
    rw [Bool.and_eq_true, decide_eq_true_eq, decide_eq_true_eq] at c'
    rw [if_neg (show ¬ nwB T n q = false by rw [c]; decide), if_pos (show nI (tS T n q) = 2 by rw [c'.1]; rfl), x1.1.2.2.2.2.1 (by omega), if_pos c'.2, x8]
    by_cases c16 : L = 16
    · obtain ⟨A, e1, f1, g1⟩ := x_ref (w := 2) x1
      have e1' : sX10_refuse 2 M = some (0, A) := e1
      rw [if_pos c16, if_pos (show 16 ≤ nI L from nI_le (a := 16) (by omega) (by omega))]
      unfold sX5_readKind_62
      rw [if_pos rfl, e1', Option.bind_some]
      exact Or.inl ⟨2, _, A, rfl, rfl, xr_xk f1, g1⟩
    rw [if_neg c16, if_neg (show ¬ 16 ≤ nI L from nle_nI (a := 16) (by omega) (by omega)), x1.1.2.2.2.2.2 c'.1]
    have e2 : sX4_numberOf kq.2 (xLt T n q) M = _ := x_nb (q := q) xK x9 xN K 0 4096 (by omega) (by omega)
    rw [e2]
    unfold sX5_readKind_62
    cases hf : fnN T n nm q K 0 with
    | some i =>
      have hi := fn_lt _ _ _ hf
      dsimp only
      obtain ⟨A, e1, f1, y1⟩ := x_next x1
      rw [Option.bind_some]
      dsimp only
      rw [if_neg (nI_ne1 (by omega)), e1, Option.bind_some]
      refine Or.inr ⟨(i, K, nm), A, rfl, by omega, by show i < K; omega, Nat.le_refl _, xK, rfl, Fr_mo (xs_r f1) (fun _ _ p => Or.inl p), y1, (f1 _ _ (by unfold pXs; omega)).1.trans x9, fun j hj => (f1 _ _ (by unfold pXs; omega)).2.trans (xN j hj)⟩
    | none =>
      dsimp only
      by_cases c8 : K = 8
      · obtain ⟨A, e1, f1, g1⟩ := x_ref (w := 2) x1
        have e1' : sX10_refuse 2 M = some (0, A) := e1
        rw [if_pos c8, if_neg (by omega), Option.bind_some]
        dsimp only
        rw [if_pos rfl, e1', Option.bind_some]
        exact Or.inl ⟨2, _, A, rfl, rfl, xr_xk f1, g1⟩
      · rw [if_neg c8, if_pos (show K < 8 by omega), Option.bind_some]
        dsimp only
        have f0 : Fr (fun id j => id = kq.2 + 6 ∨ id = kq.2 ∧ j = 9) M (sI (sL M (kq.2 + 6) K (xLt T n q)) kq.2 9 (nI (K + 1))) := Fr_sI (Fr_sL (Fr_rf _ _) (Or.inl rfl)) (Or.inr ⟨rfl, rfl⟩)
        obtain ⟨A, e1, f1, y1⟩ := x_next (Xs_fr x1 f0 (fun id j p u => by omega))
        rw [if_neg (nI_ne1 (by omega)), e1, Option.bind_some]
        refine Or.inr ⟨(K, K + 1, upN nm K q), A, rfl, by omega, Nat.lt_succ_self K, Nat.le_succ K, by show K + 1 ≤ 8; omega, rfl, Fr_tr (Fr_mo f0 (fun _ _ p => Or.inr p)) (Fr_mo (xs_r f1) (fun _ _ p => Or.inl p)), y1, ?_, fun j hj => ?_⟩
        · rw [(f1 _ _ (by unfold pXs; omega)).1, rdS]
        · rw [(f1 _ _ (by unfold pXs; omega)).2]
          show (sL M (kq.2 + 6) K (xLt T n q)).2 (kq.2 + 6) j = xLt T n (upN nm K q j)
          by_cases e : j = K
          · subst e
            rw [upN_s]
            simp [sL, up2]
          · rw [upN_n e]
            have hj' : j < K + 1 := hj
            have : (sL M (kq.2 + 6) K (xLt T n q)).2 (kq.2 + 6) j = M.2 (kq.2 + 6) j := by simp [sL, up2, e]
            rw [this]
            exact xN j (by omega)
  · have cf := Bool.eq_false_iff.mpr c
    obtain ⟨A, e1, f1, g1⟩ := x_ref (w := 1) x1
    have e1' : sX10_refuse 1 M = some (0, A) := e1
    have e24 : sX5_readKind_24 kq M = some (-1, A) := by unfold sX5_readKind_24; rw [e1', Option.bind_some]
    rw [if_pos cf]
    refine Or.inl ⟨1, _, A, rfl, ?_, xr_xk f1, g1⟩
    by_cases c2 : tS T n q = 2
    · rw [if_pos (show nI (tS T n q) = 2 by rw [c2]; rfl), x1.1.2.2.2.2.1 (by omega), if_neg (fun z => c (by unfold nwB; rw [decide_eq_true c2, decide_eq_true z]; rfl)), e24]
    · rw [if_neg (show ¬ nI (tS T n q) = 2 from ne_nI (b := 2) c2 (by omega) (by omega)), e24]
theorem x_end {r L : Nat} {v : Int32} {M : Mm} (hL : L < 16) (h8 : M.1 r 8 = nI L) : ∃ M', sX4_endLine r v M = some M' ∧ Fr (fun id j => id = r + 4 ∧ j = L ∨ id = r + 5 ∧ j = L ∨ id = r ∧ j = 8) M M' ∧ M'.1 (r + 4) L = M.1 r 3 ∧ M'.1 (r + 5) L = v ∧ M'.1 r 8 = nI (L + 1) := by
  have ib := inb_nI hL (by decide)
  have cl : (nI L).toNatClampNeg = L := nI_clamp (by omega)
  have a1 : ∀ u, (sI M (r + 4) L u).1 r 8 = nI L := fun u => by rw [rdN (by omega)]; exact h8
  have a2 : ∀ u w, (sI (sI M (r + 4) L u) (r + 5) L w).1 r 8 = nI L := fun u w => by rw [rdN (by omega)]; exact a1 u
  unfold sX4_endLine
  rw [h8, if_neg (show ¬ 16 ≤ nI L from nle_nI (a := 16) hL (by omega)), ckT ib, cl, a1, ckT ib, cl, a2, nI_1]
  refine ⟨_, rfl, Fr_sI (Fr_sI (Fr_sI (Fr_rf _ _) (Or.inl ⟨rfl, rfl⟩)) (Or.inr (Or.inl ⟨rfl, rfl⟩))) (Or.inr (Or.inr ⟨rfl, rfl⟩)), ?_, ?_, rdS _ _ _ _⟩
  · rw [rdN (by omega), rdN (by omega), rdS]
  · rw [rdN (by omega), rdS]
/-- the class reads the key -/
theorem x_ky {kq : Nat × Nat} {T : Nat → Int32} {n : Nat} (hr : kq.2 = 6 ∨ kq.2 = 14) : ∀ (g F q k L K : Nat) (nm : Nat → Nat) (R : Nat → Ln) (M : Mm), XL kq.2 T n q k L K nm R M → 16 < L + g → g ≤ F →
    (∃ w a M', dKy T n g q k L K nm R = .inl (w, a) ∧ sX5_readKey_14 kq F (nI L) M = some (0, M') ∧ Fr (pXk kq.2) M M' ∧ Xf w a M') ∨
    (∃ q' k' L' K' nm' R' M', dKy T n g q k L K nm R = .inr (k', L', K', R') ∧ sX5_readKey_14 kq F (nI L) M = some (1, M') ∧ Fr (pXk kq.2) M M' ∧ XL kq.2 T n q' k' L' K' nm' R' M') := by
  have one : ¬ (1 : Int32) = 0 := by decide
  intro g
  induction g with
  | zero => intro F q k L K nm R M x h1 _; have := x.2.2.2.2.2.2.1; omega
  | succ g ih =>
    intro F q k L K nm R M x h1 hF
    obtain ⟨F, rfl⟩ : ∃ F', F = F' + 1 := ⟨F - 1, by omega⟩
    have x0 := x
    obtain ⟨x1, x3, x10, xk, xl, x8, xL, x9, xK, xR, xN, x5⟩ := x
    have h4 := tS_lt T n q
    rw [dKy, sX5_readKey_14, if_neg (show ¬ 16 < nI L from nlt_nI (a := 16) (by omega) (by omega)), x1.1.2.2.2.1]
    by_cases c0 : tS T n q = 0
    · rw [if_pos c0, if_pos (show nI (tS T n q) = 0 by rw [c0]; rfl)]
      exact Or.inr ⟨q, k, L, K, nm, R, M, rfl, rfl, Fr_rf _ _, x0⟩
    rw [if_neg c0, if_neg (show ¬ nI (tS T n q) = 0 from ne_nI (b := 0) c0 (by omega) (by omega))]
    unfold dLn
    rcases x_kd hr x0 with ⟨w, a, A, r1, r2, r3, r4⟩ | ⟨d, A, r1, rL, rk, rK, rK8, r2, r3, r4, r5, r6⟩
    · rw [r1, r2, Option.bind_some]
      dsimp only
      rw [if_pos rfl]
      exact Or.inl ⟨w, a, A, rfl, rfl, r3, r4⟩
    rw [r1, r2, Option.bind_some]
    dsimp only [rB]
    rw [if_neg (nI_ne1 (show d.1 < 2 ^ 31 by omega))]
    have fA : Fr (pXk kq.2) M A := Fr_mo r3 (fun id j p => by
      rcases p with p | p
      · exact Or.inl p
      · exact Or.inr (Or.inl (by omega)))
    rcases x_tsg (c := 58) r4 with ⟨s1, B, s2, s3, s4⟩ | ⟨s1, B, s2, s3, s4⟩
    · have s2' : sX10_takeSign 58 A = some (1, B) := s2
      rw [s2', Option.bind_some, if_neg (show ¬ sgB T n (tE T n q) 58 = false by rw [s1]; decide)]
      dsimp only
      rw [if_neg one]
      have rB : ∀ a j, ¬ (a = 3) → ¬ (a = kq.2 + 6) → ¬ (a = kq.2 ∧ j = 9) → B.1 a j = M.1 a j := fun a j p1 p2 p3 => (s3 a j (by unfold pXs; omega)).1.trans (r3 a j (by unfold pXr; omega)).1
      have q2 : Xq kq.2 T n (tE T n (tE T n q)) k (sx (cdR R) L) [] 0 B := ⟨s4, (rB _ _ (by omega) (by omega) (by omega)).trans x3, (rB _ _ (by omega) (by omega) (by omega)).trans x10, xk, xl, trivial, (rB _ _ (by omega) (by omega) (by omega)).trans x5, Nat.zero_le _⟩
      rcases x_xp hr 8 0 12 rfl (by omega) false [] _ _ _ q2 with ⟨w, a, C, u1, u2, u3, u4⟩ | ⟨e, C, u1, u2, u3, u4, u5, u6⟩
      · have u2' : sX5_readEither kq 12 0 B = some (0, C) := u2
        rw [u1, u2', Option.bind_some]
        dsimp only
        rw [if_pos rfl]
        exact Or.inl ⟨w, a, C, rfl, rfl, Fr_tr fA (Fr_tr (xr_xk (xs_r s3)) (kx_xk u3)), u4⟩
      · have u2' : sX5_readEither kq 12 0 B = some (1, C) := u2
        rw [u1, u2', Option.bind_some]
        dsimp only
        rw [if_neg one]
        rw [List.nil_append] at u6
        rcases x_tsg (c := 59) u6.1 with ⟨v1, E, v2, v3, v4⟩ | ⟨v1, E, v2, v3, v4⟩
        · have v2' : sX10_takeSign 59 C = some (1, E) := v2
          rw [v2', Option.bind_some, if_neg (show ¬ sgB T n e.1 59 = false by rw [v1]; decide)]
          dsimp only
          rw [if_neg one]
          have fCM : Fr (pXk kq.2) M E := Fr_tr fA (Fr_tr (xr_xk (xs_r s3)) (Fr_tr (kx_xk (kf_kx u5)) (xr_xk (xs_r v3))))
          have rE : ∀ a j, ¬ pKf kq.2 (sx (cdR R) L) a j → E.1 a j = B.1 a j := fun a j p => (v3 a j (fun z => p (Or.inl (by unfold pXs at z; unfold pXr; omega)))).1.trans (u5 a j p).1
          have rE2 : ∀ a j, ¬ pKf kq.2 (sx (cdR R) L) a j → E.2 a j = B.2 a j := fun a j p => (v3 a j (fun z => p (Or.inl (by unfold pXs at z; unfold pXr; omega)))).2.trans (u5 a j p).2
          have e8 : E.1 kq.2 8 = nI L := (rE _ _ (by unfold pKf pXr; omega)).trans ((rB _ _ (by omega) (by omega) (by omega)).trans x8)
          obtain ⟨G, g1, g2, g3, g4, g5⟩ := x_end (v := nI d.1) rL e8
          rw [g1, Option.bind_some, nI_1]
          have rG : ∀ a j, ¬ (a = kq.2 + 4 ∧ j = L ∨ a = kq.2 + 5 ∧ j = L ∨ a = kq.2 ∧ j = 8) → G.1 a j = E.1 a j := fun a j p => (g2 a j p).1
          have e3 : E.1 kq.2 3 = nI (sx (cdR R) L + e.2.2.2.2.length) := ((v3 _ _ (by unfold pXs; omega)).1).trans u6.2.1
          have hs0 : ∀ l, l ≤ L → sx (cdR (upN R L (e.2.2.2.2, e.2.2.1, d.1))) l = sx (cdR R) l := fun l hl => sx_cg l (fun i hi => by unfold cdR; rw [upN_n (by omega)])
          have hcL : cdR (upN R L (e.2.2.2.2, e.2.2.1, d.1)) L = e.2.2.2.2 := by unfold cdR; rw [upN_s]
          have hs1 : sx (cdR (upN R L (e.2.2.2.2, e.2.2.1, d.1))) (L + 1) = sx (cdR R) L + e.2.2.2.2.length := by rw [sx, hs0 L (Nat.le_refl _), hcL]
          have xG : Xs T n (tE T n e.1) G := Xs_fr v4 g2 (fun id j p u => by omega)
          have x' : XL kq.2 T n (tE T n e.1) e.2.1 (L + 1) d.2.1 d.2.2 (upN R L (e.2.2.2.2, e.2.2.1, d.1)) G := by
            have h61 := u6.2.2.1
            have h62 := u6.2.2.2.1
            have h63 := u6.2.2.2.2.1
            have h64 := u6.2.2.2.2.2.1
            have h65 := u6.2.2.2.2.2.2.1
            refine ⟨xG, ?_, ?_, h62, by rw [hs1]; exact h63, g5, by omega, ?_, rK8, fun l hl => ?_, fun j hj => ?_, ?_⟩
            · rw [hs1, rG _ _ (by omega)]; exact e3
            · rw [rG _ _ (by omega)]; exact (v3 _ _ (by unfold pXs; omega)).1.trans h61
            · rw [rG _ _ (by omega), rE _ _ (by unfold pKf pXr; omega)]; exact (s3 _ _ (by unfold pXs; omega)).1.trans r5
            · by_cases z : l < L
              · obtain ⟨y1, y2, y3⟩ := xR l z
                have hle := sx_mo (C := cdR R) (a := l + 1) L (by omega)
                have hsl : sx (cdR R) (l + 1) = sx (cdR R) l + (cdR R l).length := rfl
                have hcl : cdR (upN R L (e.2.2.2.2, e.2.2.1, d.1)) l = cdR R l := by unfold cdR; rw [upN_n (by omega)]
                rw [hs0 (l + 1) (by omega), hs0 l (by omega), hcl, upN_n (by omega)]
                refine ⟨?_, xCs_lo (z := sx (cdR R) L) (fun a j p1 p2 => ?_) _ _ (by omega) y2, ?_⟩
                · rw [rG _ _ (by omega), rE _ _ (by unfold pKf pXr; omega), rB _ _ (by omega) (by omega) (by omega)]; exact y1
                · rw [rG _ _ (by omega), rE _ _ (by unfold pKf pXr; omega), rB _ _ (by omega) (by omega) (by omega)]
                · rw [rG _ _ (by omega), rE _ _ (by unfold pKf pXr; omega), rB _ _ (by omega) (by omega) (by omega)]; exact y3
              · have el : l = L := by omega
                subst el
                rw [hs1, hs0 l (Nat.le_refl _), hcL, upN_s]
                refine ⟨g3.trans e3, xCs_sm (fun a j p => ?_) _ _ h64, g4⟩
                rw [rG _ _ (by omega)]; exact (v3 _ _ (by unfold pXs; omega)).1
            · rw [(g2 _ _ (by omega)).2, rE2 _ _ (by unfold pKf pXr; omega), (s3 _ _ (by unfold pXs; omega)).2]; exact r6 j hj
            · rw [rG _ _ (by omega)]; exact (v3 _ _ (by unfold pXs; omega)).1.trans h65
          rcases ih F _ _ _ _ _ _ G x' (by omega) (by omega) with ⟨w, a, H, t1, t2, t3, t4⟩ | ⟨q', k', L', K', nm', R', H, t1, t2, t3, t4⟩
          · exact Or.inl ⟨w, a, H, t1, t2, Fr_tr (Fr_tr fCM (Fr_mo g2 (fun id j p => Or.inr (Or.inl (by omega))))) t3, t4⟩
          · exact Or.inr ⟨q', k', L', K', nm', R', H, t1, t2, Fr_tr (Fr_tr fCM (Fr_mo g2 (fun id j p => Or.inr (Or.inl (by omega))))) t3, t4⟩
        · have v2' : sX10_takeSign 59 C = some (0, E) := v2
          rw [v2', Option.bind_some, if_pos v1]
          dsimp only
          rw [if_pos rfl]
          exact Or.inl ⟨1, _, E, rfl, rfl, Fr_tr fA (Fr_tr (xr_xk (xs_r s3)) (Fr_tr (kx_xk (kf_kx u5)) (xr_xk v3))), v4⟩
    · have s2' : sX10_takeSign 58 A = some (0, B) := s2
      rw [s2', Option.bind_some, if_pos s1]
      dsimp only
      rw [if_pos rfl]
      exact Or.inl ⟨1, _, B, rfl, rfl, Fr_tr fA (xr_xk s3), s4⟩
