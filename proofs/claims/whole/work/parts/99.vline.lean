def sqR (R : Nat → Ln) : Nat → Nat
  | 0 => 0
  | l + 1 => sqR R l + (R l).2.1.length
theorem sq_cg {R R' : Nat → Ln} : ∀ n, (∀ l, l < n → R l = R' l) → sqR R n = sqR R' n := by
  intro n
  induction n with
  | zero => intro _; rfl
  | succ n ih => intro h; rw [sqR, sqR, ih (fun l q => h l (by omega)), h n (by omega)]
theorem sq_mo {R : Nat → Ln} {a : Nat} : ∀ b, a ≤ b → sqR R a ≤ sqR R b := by
  intro b
  induction b with
  | zero => intro h; rw [show a = 0 by omega]; exact Nat.le_refl _
  | succ b ih =>
    intro h
    by_cases q : a = b + 1
    · rw [q]; exact Nat.le_refl _
    · have := ih (by omega)
      rw [sqR]; omega
/-- the model at the beginning of a line -/
def ML (T : Nat → Int32) (n q k L K : Nat) (nm : Nat → Nat) (R : Nat → Ln) (M : Mm) : Prop := Ms T n q M ∧ M.1 194 38 = nI k ∧ M.1 194 50 = nI k ∧ k ≤ 96 ∧ M.1 194 37 = nI L ∧ L ≤ 16 ∧ M.1 194 36 = nI K ∧ K ≤ 8 ∧ (∀ j, j < K → nmO T n (nm j)) ∧ mNm T n nm K M ∧ sqR R L = k ∧ ∀ l, l < L → M.1 210 (16 + l) = nI (R l).2.2 ∧ M.1 211 (16 + l) = nI (sqR R l) ∧ M.1 212 (16 + l) = nI (R l).2.1.length ∧ oO M (sqR R l) (R l).2.1 ∧ ∀ d ∈ (R l).2.1, d.2.1 < k
def pMl (id k : Nat) : Prop := pMr id k ∨ id = 194 ∧ (k = 36 ∨ k = 37 ∨ k = 38 ∨ k = 50 ∨ k = 53 ∨ k = 55 ∨ k = 56 ∨ k = 57 ∨ k = 58) ∨ (id = 208 ∨ id = 209) ∨ 210 ≤ id ∧ id ≤ 212 ∧ 16 ≤ k ∨ 213 ≤ id ∧ id ≤ 218 ∧ 96 ≤ k ∨ 219 ≤ id ∧ id ≤ 221
theorem mr_ml {M M1 : Mm} (f : Fr pMr M M1) : Fr pMl M M1 := Fr_mo f (fun _ _ q => Or.inl q)
theorem mx_ml {z : Nat} {M M1 : Mm} (f : Fr (pMx z) M M1) : Fr pMl M M1 := Fr_mo f (fun id k q => by
  rcases q with q | q | q | q
  · exact Or.inl q
  · exact Or.inr (Or.inl (by omega))
  · exact Or.inr (Or.inr (Or.inr (Or.inr (Or.inl (by omega)))))
  · exact Or.inr (Or.inr (Or.inr (Or.inr (Or.inr q)))))
/-- the model reads a line's kind -/
theorem m_kd {T : Nat → Int32} {n q k L K : Nat} {nm : Nat → Nat} {R : Nat → Ln} {M : Mm} (x : ML T n q k L K nm R M) (hw : nwB T n q = true) (hL : L < 16) :
    (dKd T n q L K nm = .inl (2, tA T n q) ∧ sX12_kindAt M = some (-1, M)) ∨
    (∃ d M', dKd T n q L K nm = .inr d ∧ d.1 < d.2.1 ∧ d.2.1 ≤ 8 ∧ sX12_kindAt M = some (nI d.1, M') ∧ Fr (fun id j => id = 194 ∧ j = 36 ∨ id = 208 ∨ id = 209) M M' ∧ Ms T n q M' ∧ M'.1 194 36 = nI d.2.1 ∧ (∀ j, j < d.2.1 → nmO T n (d.2.2 j)) ∧ mNm T n d.2.2 d.2.1 M') := by
  obtain ⟨x1, x38, x50, xk, x37, xL, x36, xK, xN, xM, xq, xR⟩ := x
  have ho := (nw_o x1.2.2.2.2.2.1 hw).1
  unfold dKd
  rw [if_neg (show ¬ nwB T n q = false by rw [hw]; decide), if_neg (show ¬ L = 16 by omega)]
  rcases m_ka x1 xK x36 ho xN xM K 0 4096 (by omega) (by omega) with ⟨i, h1, h2⟩ | ⟨h1, h8, h2⟩ | ⟨h1, h8, A, h2, h3, h4, h5, h6, h7⟩
  · have h2' : sX12_kindAt M = some (nI i, M) := h2
    have hi := fn_lt _ _ _ h1
    rw [h1]
    exact Or.inr ⟨(i, K, nm), M, rfl, by show i < K; omega, xK, h2', Fr_rf _ _, x1, x36, xN, xM⟩
  · have h2' : sX12_kindAt M = some (-1, M) := h2
    rw [h1]
    exact Or.inl ⟨by dsimp only; rw [if_pos h8], h2'⟩
  · have h2' : sX12_kindAt M = some (nI K, A) := h2
    rw [h1]
    dsimp only
    rw [if_neg (by omega)]
    refine Or.inr ⟨(K, K + 1, upN nm K q), A, rfl, Nat.lt_succ_self K, by show K + 1 ≤ 8; omega, h2', Fr_mo h3 (fun id j p => by unfold pKa at p; omega), h4, h5, fun j hj => ?_, fun j hj => ?_⟩
    · show nmO T n (upN nm K q j)
      by_cases e : j = K
      · rw [e, upN_s]; exact ho
      · rw [upN_n e]; exact xN j (by have hj' : j < K + 1 := hj; omega)
    · show A.1 209 (8 + j) = nI (lnT T n (upN nm K q j)) ∧ ∀ i, i < lnT T n (upN nm K q j) → A.1 208 (64 + 8 * j + i) = T (tA T n (upN nm K q j) + i)
      by_cases e : j = K
      · rw [e, upN_s]; exact ⟨h6, h7⟩
      · have hj' : j < K := by have hj' : j < K + 1 := hj; omega
        rw [upN_n e]
        obtain ⟨m1, m2⟩ := xM j hj'
        have l8 := (xN j hj').2.2
        exact ⟨(h3 _ _ (by unfold pKa; omega)).1.trans m1, fun i hi => (h3 _ _ (by unfold pKa; omega)).1.trans (m2 i hi)⟩
/-- the model reads a line -/
theorem m_ln {T : Nat → Int32} {n q k L K : Nat} {nm : Nat → Nat} {R : Nat → Ln} {M : Mm} (x : ML T n q k L K nm R M) :
    (∃ w a M', dLn T n q k L K nm = .inl (w, a) ∧ sX12_lineRead M = some (0, M') ∧ Fr pMl M M' ∧ Mf w a M') ∨
    (∃ s M', dLn T n q k L K nm = .inr s ∧ L < 16 ∧ sX12_lineRead M = some (1, M') ∧ Fr pMl M M' ∧ ML T n s.1.1 s.1.2.1 (L + 1) s.2.2.1 s.2.2.2 (upN R L (s.1.2.2.2.2, s.1.2.2.1, s.2.1)) M') := by
  have x0 := x
  obtain ⟨x1, x38, x50, xk, x37, xL, x36, xK, xN, xM, xq, xR⟩ := x
  have hq := x1.2.2.2.2.2.1
  have hb := x1.2.2.2.2.2.2
  unfold sX12_lineRead dLn
  rw [x1.1.2.2.2.2.1]
  by_cases c : nwB T n q = true
  rotate_left
  · have cf := Bool.eq_false_iff.mpr c
    obtain ⟨A, e1, f1, g1⟩ := m_wr (w := 1) x1
    have e1' : sX12_wrong 1 M = some (0, A) := e1
    unfold dKd
    rw [if_pos cf, if_neg (fun z => c ((nw_k hq hb).mp z)), e1', Option.bind_some, ckT i0_]
    exact Or.inl ⟨1, _, A, rfl, rfl, mr_ml f1, g1⟩
  rw [if_pos ((nw_k hq hb).mpr c), x37]
  by_cases c16 : L = 16
  · obtain ⟨A, e1, f1, g1⟩ := m_wr (w := 2) x1
    have e1' : sX12_wrong 2 M = some (0, A) := e1
    unfold dKd
    rw [if_neg (show ¬ nwB T n q = false by rw [c]; decide), if_pos c16, if_pos (show nI L = 16 by rw [c16]; rfl), e1', Option.bind_some, ckT i0_]
    exact Or.inl ⟨2, _, A, rfl, rfl, mr_ml f1, g1⟩
  have hL : L < 16 := by omega
  rw [if_neg (show ¬ nI L = 16 from ne_nI (b := 16) c16 (by omega) (by omega))]
  rcases m_kd x0 c hL with ⟨r1, r2⟩ | ⟨d, A, r1, rk, rK8, r2, r3, r4, r5, r6, r7⟩
  · obtain ⟨A, e1, f1, g1⟩ := m_wr (w := 2) x1
    have e1' : sX12_wrong 2 M = some (0, A) := e1
    rw [r1, r2, Option.bind_some]
    dsimp only
    rw [if_neg neg1, e1', Option.bind_some, ckT i0_]
    exact Or.inl ⟨2, _, A, rfl, rfl, mr_ml f1, g1⟩
  rw [r1, r2, Option.bind_some]
  dsimp only [rB]
  have fA : Fr pMl M A := Fr_mo r3 (fun id j p => by
    rcases p with p | p
    · exact Or.inr (Or.inl (by omega))
    · exact Or.inr (Or.inr (Or.inl p)))
  have rA : ∀ a j, ¬ (a = 194 ∧ j = 36 ∨ a = 208 ∨ a = 209) → A.1 a j = M.1 a j := fun a j p => (r3 a j p).1
  have ib := inb_nI (show 16 + L < 32 by omega) (by decide)
  have cl : (nI (16 + L)).toNatClampNeg = 16 + L := nI_clamp (by omega)
  rw [if_pos (n0_ (show d.1 < 2 ^ 31 by omega)), rA 194 37 (by omega), x37, show (16 : Int32) = nI 16 from rfl, nI_add, ckT ib, ckT ib, cl]
  have s50 : (sI A 210 (16 + L) (nI d.1)).1 194 50 = nI k := by rw [rdN (by omega), rA _ _ (by omega)]; exact x50
  rw [s50]
  have fB0 : Fr (fun id j => (id = 210 ∨ id = 211) ∧ j = 16 + L) A (sI (sI A 210 (16 + L) (nI d.1)) 211 (16 + L) (nI k)) := Fr_sI (Fr_sI (Fr_rf _ _) (by omega)) (by omega)
  obtain ⟨B, e1, f1, y1⟩ := m_next (Ms_sI (a := 211) (j := 16 + L) (v := nI k) (Ms_sI (a := 210) (j := 16 + L) (v := nI d.1) r4 (by omega)) (by omega))
  have fAB : Fr (fun id j => pMr id j ∨ (id = 210 ∨ id = 211) ∧ j = 16 + L) A B := Fr_tr (Fr_mo fB0 (fun _ _ p => Or.inr p)) (Fr_mo (mt_r f1) (fun _ _ p => Or.inl p))
  have hB210 : B.1 210 (16 + L) = nI d.1 := by rw [(f1 _ _ (by unfold pMt; omega)).1, rdN (by omega), rdS]
  have hB211 : B.1 211 (16 + L) = nI k := by rw [(f1 _ _ (by unfold pMt; omega)).1, rdS]
  have fMB : Fr pMl M B := Fr_tr fA (Fr_mo fAB (fun id j p => by
    rcases p with p | p
    · exact Or.inl p
    · exact Or.inr (Or.inr (Or.inr (Or.inl (by omega))))))
  have e58 : sX12_isSign 58 B = some (b2 (sgB T n (tE T n q) 58), B) := m_isSg (c := 58) y1.2.2.2.2.2.1 hb y1.1 (by omega)
  rw [e1, Option.bind_some, e58, Option.bind_some]
  dsimp only
  by_cases c58 : sgB T n (tE T n q) 58 = true
  rotate_left
  · have cf := Bool.eq_false_iff.mpr c58
    obtain ⟨C, e2, f2, g2⟩ := m_wr (w := 1) y1
    have e2' : sX12_wrong 1 B = some (0, C) := e2
    rw [cf, if_pos b2f, if_pos rfl, e2', Option.bind_some, ckT i0_]
    exact Or.inl ⟨1, _, C, rfl, rfl, Fr_tr fMB (mr_ml f2), g2⟩
  rw [if_neg (show ¬ b2 (sgB T n (tE T n q) 58) = 0 by rw [c58]; exact b2t0), if_neg (show ¬ sgB T n (tE T n q) 58 = false by rw [c58]; decide)]
  obtain ⟨C, e2, f2, y2⟩ := m_next y1
  rw [e2, Option.bind_some]
  have rBM : ∀ a j, ¬ (a = 194 ∧ j = 36 ∨ a = 208 ∨ a = 209) → ¬ (pMr a j ∨ (a = 210 ∨ a = 211) ∧ j = 16 + L) → B.1 a j = M.1 a j := fun a j p1 p2 => (fAB a j p2).1.trans (rA a j p1)
  have rC : ∀ a j, ¬ pMr a j → C.1 a j = B.1 a j := fun a j p => (f2 a j (fun z => p (by unfold pMt at z; unfold pMr; omega))).1
  have c38 : C.1 194 38 = nI k := by rw [rC _ _ (by unfold pMr; omega), rBM _ _ (by omega) (by unfold pMr; omega)]; exact x38
  have c50 : C.1 194 50 = nI k := by rw [rC _ _ (by unfold pMr; omega), rBM _ _ (by omega) (by unfold pMr; omega)]; exact x50
  rcases m_xp y2 c38 c50 xk with ⟨w, a, E, u1, u2, u3, u4⟩ | ⟨e, E, u1, u2, u3, u4, u5, u6, u7, u8⟩
  · rw [u1, u2, Option.bind_some]
    dsimp only
    rw [if_pos rfl]
    exact Or.inl ⟨w, a, E, rfl, rfl, Fr_tr fMB (Fr_tr (mr_ml (mt_r f2)) (mx_ml u3)), u4⟩
  have gd := gd_all u1
  rw [u1, u2, Option.bind_some]
  dsimp only
  have fME : Fr pMl M E := Fr_tr fMB (Fr_tr (mr_ml (mt_r f2)) (mx_ml u3))
  have e59 : sX12_isSign 59 E = some (b2 (sgB T n e.1 59), E) := m_isSg (c := 59) u4.2.2.2.2.2.1 hb u4.1 (by omega)
  rw [if_neg (show ¬ (1 : Int32) = 0 by decide), e59, Option.bind_some]
  dsimp only
  by_cases c59 : sgB T n e.1 59 = true
  rotate_left
  · have cf := Bool.eq_false_iff.mpr c59
    obtain ⟨G, e3, f3, g3⟩ := m_wr (w := 1) u4
    have e3' : sX12_wrong 1 E = some (0, G) := e3
    rw [cf, if_pos b2f, if_pos rfl, e3', Option.bind_some, ckT i0_]
    exact Or.inl ⟨1, _, G, rfl, rfl, Fr_tr fME (mr_ml f3), g3⟩
  rw [if_neg (show ¬ b2 (sgB T n e.1 59) = 0 by rw [c59]; exact b2t0), if_neg (show ¬ sgB T n e.1 59 = false by rw [c59]; decide)]
  obtain ⟨G, e3, f3, y3⟩ := m_next u4
  have rG : ∀ a j, ¬ pMr a j → G.1 a j = E.1 a j := fun a j p => (f3 a j (fun z => p (by unfold pMt at z; unfold pMr; omega))).1
  have rE : ∀ a j, ¬ pMx k a j → E.1 a j = C.1 a j := fun a j p => (u3 a j p).1
  have g50 : G.1 194 50 = nI (k + e.2.2.1.length) := by rw [rG _ _ (by unfold pMr; omega)]; exact u7
  have g211 : G.1 211 (16 + L) = nI k := by rw [rG _ _ (by unfold pMr; omega), rE _ _ (by unfold pMx pMr; omega), rC _ _ (by unfold pMr; omega)]; exact hB211
  have g37 : ∀ v, (sI G 212 (16 + L) v).1 194 37 = nI L := fun v => by
    rw [rdN (by omega), rG _ _ (by unfold pMr; omega), rE _ _ (by unfold pMx pMr; omega), rC _ _ (by unfold pMr; omega), rBM _ _ (by omega) (by unfold pMr; omega)]; exact x37
  rw [e3, Option.bind_some, ckT ib, ckT ib, g50, g211, nI_sb (Nat.le_add_right _ _), Nat.add_sub_cancel_left, g37, nI_1]
  have fGH : Fr (fun id j => id = 212 ∧ j = 16 + L ∨ id = 194 ∧ j = 37) G (sI (sI G 212 (16 + L) (nI e.2.2.1.length)) 194 37 (nI (L + 1))) := Fr_sI (Fr_sI (Fr_rf _ _) (by omega)) (by omega)
  have rH : ∀ a j, ¬ (a = 212 ∧ j = 16 + L ∨ a = 194 ∧ j = 37) → (sI (sI G 212 (16 + L) (nI e.2.2.1.length)) 194 37 (nI (L + 1))).1 a j = G.1 a j := fun a j p => (fGH a j p).1
  have hs0 : ∀ l, l ≤ L → sqR (upN R L (e.2.2.2.2, e.2.2.1, d.1)) l = sqR R l := fun l hl => sq_cg l (fun i hi => by rw [upN_n (by omega)])
  have hs1 : sqR (upN R L (e.2.2.2.2, e.2.2.1, d.1)) (L + 1) = k + e.2.2.1.length := by
    rw [sqR, hs0 L (Nat.le_refl _), upN_s, xq]
  have hek : k + e.2.2.1.length = e.2.1 := gd.2.2.2.1
  refine Or.inr ⟨((tE T n e.1, e.2), d), _, rfl, hL, rfl, Fr_tr fME (Fr_tr (mr_ml (mt_r f3)) (Fr_mo fGH (fun id j p => by
    rcases p with p | p
    · exact Or.inr (Or.inr (Or.inr (Or.inl (by omega))))
    · exact Or.inr (Or.inl (by omega))))), ?_⟩
  refine ⟨Ms_s1 (Ms_sI y3 (by omega)) (by omega), ?_, ?_, u6, rdS _ _ _ _, by omega, ?_, rK8, r6, ?_, by rw [hs1]; exact hek, fun l hl => ?_⟩
  · rw [rH _ _ (by omega), rG _ _ (by unfold pMr; omega)]; exact u5
  · rw [rH _ _ (by omega), g50, hek]
  · rw [rH _ _ (by omega), rG _ _ (by unfold pMr; omega), rE _ _ (by unfold pMx pMr; omega), rC _ _ (by unfold pMr; omega), (fAB _ _ (by unfold pMr; omega)).1]; exact r5
  · intro j hj
    obtain ⟨m1, m2⟩ := r7 j hj
    exact ⟨by rw [rH _ _ (by omega), rG _ _ (by unfold pMr; omega), rE _ _ (by unfold pMx pMr; omega), rC _ _ (by unfold pMr; omega), (fAB _ _ (by unfold pMr; omega)).1]; exact m1, fun i hi => by rw [rH _ _ (by omega), rG _ _ (by unfold pMr; omega), rE _ _ (by unfold pMx pMr; omega), rC _ _ (by unfold pMr; omega), (fAB _ _ (by unfold pMr; omega)).1]; exact m2 i hi⟩
  · by_cases z : l < L
    · obtain ⟨t1, t2, t3, t4, t5⟩ := xR l z
      have hle := sq_mo (R := R) (a := l + 1) L (by omega)
      have hsl : sqR R (l + 1) = sqR R l + (R l).2.1.length := rfl
      have rr : ∀ a j, 210 ≤ a ∧ a ≤ 212 → j < 16 + L → (sI (sI G 212 (16 + L) (nI e.2.2.1.length)) 194 37 (nI (L + 1))).1 a j = M.1 a j := fun a j p1 p2 => by
        rw [rH _ _ (by omega), rG _ _ (by unfold pMr; omega), rE _ _ (by unfold pMx pMr; omega), rC _ _ (by unfold pMr; omega), rBM _ _ (by omega) (by unfold pMr; omega)]
      have rn : ∀ a j, 213 ≤ a ∧ a ≤ 218 → j < 96 + k → (sI (sI G 212 (16 + L) (nI e.2.2.1.length)) 194 37 (nI (L + 1))).1 a j = M.1 a j := fun a j p1 p2 => by
        rw [rH _ _ (by omega), rG _ _ (by unfold pMr; omega), rE _ _ (by unfold pMx pMr; omega), rC _ _ (by unfold pMr; omega), rBM _ _ (by omega) (by unfold pMr; omega)]
      rw [hs0 l (by omega), upN_n (by omega)]
      refine ⟨(rr _ _ (by omega) (by omega)).trans t1, (rr _ _ (by omega) (by omega)).trans t2, (rr _ _ (by omega) (by omega)).trans t3, oO_g (L := k) (fun j hj => rn _ _ (by omega) (by omega)) _ _ (by omega) (fun d' hd a p => rn _ _ (by omega) (by have := t5 d' hd; omega)) t4, fun d' hd => ?_⟩
      have := t5 d' hd
      show d'.2.1 < e.2.1
      omega
    · have el : l = L := by have hl' : l < L + 1 := hl; omega
      subst el
      rw [hs0 l (Nat.le_refl _), upN_s, xq]
      refine ⟨?_, ?_, ?_, oO_g (L := k + e.2.2.1.length) (fun j hj => ?_) _ _ (Nat.le_refl _) (fun d' hd a p => ?_) u8, fun d' hd => (gd.2.2.2.2.1 d' hd).2.2⟩
      · rw [rH _ _ (by omega), rG _ _ (by unfold pMr; omega), rE _ _ (by unfold pMx pMr; omega), rC _ _ (by unfold pMr; omega)]; exact hB210
      · rw [rH _ _ (by omega)]; exact g211
      · rw [rdN (by omega), rdS]
      · rw [rH _ _ (by omega), rG _ _ (by unfold pMr; omega)]
      · rw [rH _ _ (by omega), rG _ _ (by unfold pMr; omega)]
