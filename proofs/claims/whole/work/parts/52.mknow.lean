/-- what the evaluation of a bore reads on the model's side, and what it writes -/
def rEv (id k : Nat) : Prop := id = 205 ∨ id = 206 ∨ 210 ≤ id ∧ id ≤ 218 ∨ id = 194 ∧ k = 34
def pEv (id _k : Nat) : Prop := id = 222 ∨ id = 223
def iEvN (M : Mm) (i : Nat) : Prop := ∀ M' : Mm, (∀ id k, rEv id k → M'.1 id k = M.1 id k) → (∃ A, sX12_lineOf (nI i) M' = some (M.1 (38 + 2 * i) 4, A) ∧ Fr pEv M' A) ∧ (∃ A, sX12_kindOf (nI i) M' = some (M.1 (38 + 2 * i) 5, A) ∧ Fr pEv M' A)
def iEval (M : Mm) : Prop := ∃ n K, n ≤ 60 ∧ M.1 194 26 = nI n ∧ K ≤ 8 ∧ M.1 194 33 = nI K ∧ ∀ i, i < n → M.1 202 i = -1 → iEvN M i ∧ (M.1 (38 + 2 * i) 5 = -1 ∨ ∃ k, k < K ∧ M.1 (38 + 2 * i) 5 = nI k)
def pKn (id _k : Nat) : Prop := id = 207 ∨ id = 222 ∨ id = 223 ∨ id = 227
theorem kn2 {n : Nat} (hn : n ≤ 60) (M : Mm) : ∃ M', sX12_know_2 4096 (nI n) 0 M = sX12_know_34 4096 (nI n - 1) M' ∧ Fr pKn M M' ∧ ∀ k, k < 60 → M'.1 207 k = b2 (decide (k < n)) := by
  obtain ⟨M', e, f, h⟩ := lp_M (f := fun F i M => sX12_know_2 F (nI n) i M) (n := 60) (I := fun i M' => Fr pKn M M' ∧ ∀ k, k < i → M'.1 207 k = b2 (decide (k < n))) (fun F i M1 hi h => by
    have e1 : (if nI n ≤ nI i then (0 : Int32) else 1) = b2 (decide (i < n)) := by
      by_cases q : i < n
      · rw [if_neg (nle_nI q (by omega)), decide_eq_true q]; rfl
      · rw [if_pos (nI_le (by omega) (by omega)), decide_eq_false q]; rfl
    refine ⟨sI M1 207 i (b2 (decide (i < n))), ?_, Fr_sI h.1 (by unfold pKn; omega), fun k hk => ?_⟩
    · show sX12_know_2 (F + 1) (nI n) (nI i) M1 = _
      rw [sX12_know_2, if_neg (lit_nle (v := 60) (n := 60) rfl hi (by decide)), e1]
      unfold sX12_know_23
      rw [ckT (inb_nI (by omega) (by decide)), ckT (by unfold isb b2; split <;> decide), nI_clamp (by omega), nI_1]
    · by_cases e : k = i
      · subst e; exact rdS _ _ _ _
      · rw [rdN (by omega)]; exact h.2 k (by omega)) 60 0 4096 M (by omega) (by omega) ⟨Fr_rf _ _, fun k hk => by omega⟩
  refine ⟨M', ?_, f, h⟩
  refine Eq.trans e ?_
  show sX12_know_2 (4035 + 1) (nI n) (nI 60) M' = _
  rw [sX12_know_2, if_pos (by decide)]
theorem kn34 {n : Nat} {M0 : Mm} {T : Nat → Int32} (hn : n ≤ 60) (hT : ∀ i, i < n → M0.1 202 i = T i ∧ (T i = -1 ∨ ∃ j, j < i ∧ T i = nI j)) : ∀ (i F : Nat) (M : Mm) (s : Nat → Bool), i ≤ n → i < F → (∀ k, k < 60 → M.1 207 k = b2 (decide (k < n) && !s k)) → Fr pKn M0 M → ∃ M', sX12_know_34 F (nI i - 1) M = sX12_know_76 4096 0 M' ∧ Fr pKn M0 M' ∧ ∀ k, k < 60 → M'.1 207 k = b2 (decide (k < n) && !skd T i s k) := by
  intro i
  induction i with
  | zero =>
    intro F M s h1 h2 h3 h4
    obtain ⟨F, rfl⟩ : ∃ G, F = G + 1 := ⟨F - 1, by omega⟩
    exact ⟨M, by rw [sX12_know_34, if_pos (by decide)], h4, h3⟩
  | succ i ih =>
    intro F M s h1 h2 h3 h4
    obtain ⟨F, rfl⟩ : ∃ G, F = G + 1 := ⟨F - 1, by omega⟩
    obtain ⟨e1, e2⟩ := hT i (by omega)
    have e3 : M.1 202 i = T i := by rw [(h4 _ _ (by unfold pKn; omega)).1]; exact e1
    have e7 : M.1 207 i = b2 (!s i) := by rw [h3 i (by omega), decide_eq_true (show i < n by omega)]; rfl
    rw [nI_dn, sX12_know_34, if_neg (Int32.not_lt.mpr (nI_nn (by omega))), ckT (inb_nI (by omega) (by decide)), nI_clamp (by omega), e3]
    rcases e2 with q | ⟨j, hj, q⟩
    · have c : ¬ (0 ≤ T i ∧ s i = false) := fun p => by rw [q] at p; exact neg1 p.1
      rw [if_pos (by rw [q]; decide)]
      unfold sX12_know_68
      rw [nI_dn2]
      obtain ⟨M', g1, g2, g3⟩ := ih F M s (by omega) (by omega) h3 h4
      exact ⟨M', g1, g2, fun k hk => by rw [skd, if_neg c]; exact g3 k hk⟩
    · rw [if_neg (by rw [q]; exact Int32.not_lt.mpr (nI_nn (by omega))), ckT (inb_nI (by omega) (by decide)), e7]
      by_cases z : s i = false
      · rw [if_neg (by rw [z]; decide), ckT (inb_nI (by omega) (by decide)), ckT (by rw [q]; exact inb_nI (by omega) (by decide))]
        have c : 0 ≤ T i ∧ s i = false := ⟨by rw [q]; exact nI_nn (by omega), z⟩
        unfold sX12_know_68
        rw [nI_dn2]
        obtain ⟨M', g1, g2, g3⟩ := ih F (sI M 207 (T i).toNatClampNeg 0) (fun k => if k = (T i).toNatClampNeg then true else s k) (by omega) (by omega) (fun k hk => by
          by_cases u : k = (T i).toNatClampNeg
          · rw [← u, rdS, if_pos rfl]; simp [b2]
          · rw [rdN (by omega), if_neg u]; exact h3 k hk) (Fr_sI h4 (by unfold pKn; omega))
        exact ⟨M', g1, g2, fun k hk => by rw [skd, if_pos c]; exact g3 k hk⟩
      · have c : ¬ (0 ≤ T i ∧ s i = false) := fun p => z p.2
        have z1 : s i = true := by cases hh : s i <;> simp_all
        rw [if_pos (by rw [z1]; decide)]
        unfold sX12_know_68
        rw [nI_dn2]
        obtain ⟨M', g1, g2, g3⟩ := ih F M s (by omega) (by omega) h3 h4
        exact ⟨M', g1, g2, fun k hk => by rw [skd, if_neg c]; exact g3 k hk⟩
/-- what the model knows by n: the kind where a bore counts -/
def khere (M : Mm) (n k : Nat) : Int32 := if k < n ∧ cnt M n k = true then M.1 (38 + 2 * k) 5 else -1
theorem m_know {M : Mm} {n N : Nat} (hn : n ≤ N) (hN : N ≤ 60) (hT : iSt M n) (hE : ∀ i, i < N → M.1 202 i = -1 → iEvN M i) : ∃ M', sX12_know (nI n) M = some M' ∧ Fr pKn M M' ∧ ∀ k, k < 60 → M'.1 227 k = khere M n k := by
  obtain ⟨A, a1, a2, a3⟩ := kn2 (show n ≤ 60 by omega) M
  obtain ⟨B, b1, b2', b3⟩ := kn34 (M0 := M) (T := fun i => M.1 202 i) (show n ≤ 60 by omega) (fun i hi => ⟨rfl, (hT i hi).2⟩) n 4096 A (fun _ => false) (Nat.le_refl _) (by omega) (fun k hk => by rw [a3 k hk]; simp) a2
  unfold sX12_know
  rw [a1, b1]
  obtain ⟨D, e, f, h1, h2⟩ := lp_M (f := fun F i M => sX12_know_76 F i M) (n := 60) (I := fun i D => Fr pKn M D ∧ (∀ k, k < 60 → D.1 207 k = B.1 207 k) ∧ ∀ k, k < i → D.1 227 k = khere M n k) (fun F i D hi h => by
    obtain ⟨h1, h2, h3⟩ := h
    have k0 : D.1 202 i = M.1 202 i := (h1 _ _ (by unfold pKn; omega)).1
    have ib := inb_nI (show i < 60 by omega) (by decide)
    have step : ∀ (X : Mm) (v : Int32), Fr pKn M X → (∀ k, k < 60 → X.1 207 k = B.1 207 k) → (∀ k, k < i → X.1 227 k = khere M n k) → v = khere M n i → ∃ M', sX12_know_114 (sX12_know_76 F) (nI i) (nI i) v X = sX12_know_76 F (nI (i + 1)) M' ∧ Fr pKn M M' ∧ (∀ k, k < 60 → M'.1 207 k = B.1 207 k) ∧ ∀ k, k < i + 1 → M'.1 227 k = khere M n k := by
      intro X v x1 x2 x3 x4
      refine ⟨sI X 227 i v, ?_, Fr_sI x1 (by unfold pKn; omega), fun k hk => by rw [rdN (by omega)]; exact x2 k hk, fun k hk => ?_⟩
      · unfold sX12_know_114
        rw [ckT ib, nI_clamp (by omega), nI_1]
      · by_cases u : k = i
        · rw [u, rdS]; exact x4
        · rw [rdN (by omega)]; exact x3 k (by omega)
    show ∃ M', sX12_know_76 (F + 1) (nI i) D = _ ∧ _
    rw [sX12_know_76, if_neg (lit_nle (v := 60) (n := 60) rfl hi (by decide)), ckT ib, nI_clamp (by omega), h2 i hi, b3 i hi]
    by_cases c0 : i < n
    · by_cases c2 : skd (fun i => M.1 202 i) n (fun _ => false) i = false
      · rw [if_neg (by rw [c2, decide_eq_true c0]; decide), ckT ib, k0]
        rcases (hT i c0).2 with q | ⟨j, hj, q⟩
        · rw [if_neg (by rw [q]; decide)]
          obtain ⟨-, A', e1, e2⟩ := hE i (by omega) q D (fun id k q => (h1 id k (by unfold rEv at q; unfold pKn; omega)).1)
          rw [e1, Option.bind_some]
          refine step A' _ (Fr_tr h1 (Fr_mo e2 (fun id k q => by unfold pEv at q; unfold pKn; omega))) (fun k hk => by rw [(e2 207 k (by unfold pEv; omega)).1]; exact h2 k hk) (fun k hk => by rw [(e2 227 k (by unfold pEv; omega)).1]; exact h3 k hk) ?_
          unfold khere
          by_cases c3 : M.1 (38 + 2 * i) 5 = -1
          · rw [if_neg (by unfold cnt; simp [c3]), c3]
          · rw [if_pos ⟨c0, by unfold cnt; simp [q, c2, c3]⟩]
        · rw [if_pos (by rw [q]; exact nI_nn (by omega))]
          refine step D (-1) h1 h2 h3 ?_
          unfold khere
          rw [if_neg (fun p => ?_)]
          have p2 := p.2
          unfold cnt at p2
          rw [q, decide_eq_false (nI_ne1 (by omega))] at p2
          simp at p2
      · have z1 : skd (fun i => M.1 202 i) n (fun _ => false) i = true := by cases hh : skd (fun i => M.1 202 i) n (fun _ => false) i <;> simp_all
        rw [if_pos (by rw [z1]; simp [b2])]
        refine step D (-1) h1 h2 h3 ?_
        unfold khere
        rw [if_neg (fun p => ?_)]
        have p2 := p.2
        unfold cnt at p2
        rw [z1] at p2
        simp at p2
    · rw [if_pos (by rw [decide_eq_false c0]; rfl)]
      refine step D (-1) h1 h2 h3 ?_
      unfold khere
      rw [if_neg (fun p => c0 p.1)]) 60 0 4096 B (by omega) (by omega) ⟨b2', fun _ _ => rfl, fun k hk => absurd hk (Nat.not_lt_zero k)⟩
  refine ⟨D, ?_, f, h2⟩
  refine Eq.trans e ?_
  show sX12_know_76 (4035 + 1) (nI 60) D = _
  rw [sX12_know_76, if_pos (by decide)]
