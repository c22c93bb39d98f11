theorem iLandW_s {w h : Nat} {M M1 : Mm} (hi : iLandW w h M) (e : ∀ id k, rLand id k → M1.1 id k = M.1 id k) : iLandW w h M1 := by
  have eh : hgt M1 = hgt M := by
    funext c
    unfold hgt
    rw [e 196 c (by unfold rLand; omega)]
  have e22 : ∀ k, M1.1 22 k = M.1 22 k := fun k => e 22 k (by unfold rLand; omega)
  obtain ⟨g1, g2, g3, g4, g5, g6, g7, g8⟩ := hi
  refine ⟨g1, ?_, fun c q => ?_, fun r c q1 q2 => ?_, fun c q => ?_, fun c q => ?_, ?_, fun c q => ?_⟩
  · rw [e22, e22, e22, e 194 3 (by unfold rLand; omega), e 194 4 (by unfold rLand; omega)]; exact g2
  · rw [e 29 c (by unfold rLand; omega), e 30 c (by unfold rLand; omega)]; exact g3 c q
  · rw [e (24 + r) c (by unfold rLand; omega), e (196 + r) c (by unfold rLand; omega)]; exact g4 r c q1 q2
  · rw [eh, e 196 c (by unfold rLand; omega)]; exact g5 c q
  · rw [e 198 c (by unfold rLand; omega)]; exact g6 c q
  · rw [e22, e22, e22, e22, e 194 10 (by unfold rLand; omega), e 194 11 (by unfold rLand; omega), e 194 12 (by unfold rLand; omega), e 194 13 (by unfold rLand; omega)]; exact g7
  · have h9 := g8 c q
    unfold rkd at h9 ⊢
    rw [eh, e22, e22, e22, e22, e 26 c (by unfold rLand; omega), e 31 c (by unfold rLand; omega), e 32 c (by unfold rLand; omega), e 33 c (by unfold rLand; omega)]
    exact h9
/-- what stays when something is only asked -/
def rBk (kq : Nat × Nat) (id k : Nat) : Prop := rLand id k ∨ id = 34 ∧ k = 1 ∨ id = 194 ∧ (k = 14 ∨ k = 15 ∨ k = 26 ∨ k = 33 ∨ k = 34 ∨ k = 35) ∨ 202 ≤ id ∧ id ≤ 206 ∨ 38 ≤ id ∧ id < 158 ∨ id = kq.1 ∧ (k = 8 ∨ k = 9 ∨ k = 10) ∨ id = 158 ∧ k = 4 ∨ id = 224 ∨ id = 159 ∨ 210 ≤ id ∧ id ≤ 218 ∨ id = 193 ∨ id = 225 ∨ id = 162 ∧ (k = 2 ∨ k = 3)
def iBore (w h K : Nat) (M : Mm) (i : Nat) : Prop := iEvN M i ∧ (M.1 (38 + 2 * i) 5 = -1 ∨ ∃ k, k < K ∧ M.1 (38 + 2 * i) 5 = nI k) ∧ (∃ d, d < 3 ∧ M.1 (38 + 2 * i) 1 = nI d) ∧ (∃ c, c < w * h ∧ M.1 (38 + 2 * i) 2 = nI c) ∧ M.1 203 i = M.1 (38 + 2 * i) 1 ∧ M.1 204 i = M.1 (38 + 2 * i) 2
def Bk (kq : Nat × Nat) (w h N K : Nat) (M : Mm) : Prop := iLandW w h M ∧ (N ≤ 60 ∧ M.1 34 1 = nI N ∧ M.1 194 26 = nI N) ∧ iSt M N ∧ (K ≤ 8 ∧ M.1 kq.1 9 = nI K ∧ M.1 194 33 = nI K ∧ M.1 158 4 = nI K) ∧ (∀ i, i < N → M.1 202 i = -1 → iBore w h K M i) ∧ (∀ j, j < 192 → M.1 224 j = M.1 159 j ∧ ∃ v, v ≤ 16 ∧ M.1 159 j = nI v)
def Sm (kq : Nat × Nat) (M0 M : Mm) : Prop := ∀ id k, rBk kq id k → M.1 id k = M0.1 id k
theorem Sm_rf (kq : Nat × Nat) (M : Mm) : Sm kq M M := fun _ _ _ => rfl
theorem Sm_tr {kq : Nat × Nat} {M M1 M2 : Mm} (h1 : Sm kq M M1) (h2 : Sm kq M1 M2) : Sm kq M M2 := fun id k q => (h2 id k q).trans (h1 id k q)
theorem Sm_fr {kq : Nat × Nat} {P : Nat → Nat → Prop} {M M1 : Mm} (hf : Fr P M M1) (hP : ∀ id k, rBk kq id k → ¬ P id k) : Sm kq M M1 := fun id k q => (hf id k (hP id k q)).1
theorem rBk_n {kq : Nat × Nat} {i k : Nat} (hi : i < 60) : rBk kq (38 + 2 * i) k := Or.inr (Or.inr (Or.inr (Or.inr (Or.inl (by omega)))))
theorem iEvN_sm {kq : Nat × Nat} {M0 M : Mm} {i : Nat} (hi : i < 60) (h : iEvN M0 i) (s : Sm kq M0 M) : iEvN M i := by
  intro M' h'
  rw [s (38 + 2 * i) 4 (rBk_n hi), s (38 + 2 * i) 5 (rBk_n (by omega))]
  exact h M' (fun id k q => (h' id k q).trans (s id k (by
    unfold rEv at q
    rcases q with rfl | rfl | q | ⟨rfl, rfl⟩
    · unfold rBk; omega
    · unfold rBk; omega
    · exact Or.inr (Or.inr (Or.inr (Or.inr (Or.inr (Or.inr (Or.inr (Or.inr (Or.inr (Or.inl q)))))))))
    · unfold rBk; omega)))
theorem Bk_sm {kq : Nat × Nat} {w h N K : Nat} {M0 M : Mm} (b : Bk kq w h N K M0) (s : Sm kq M0 M) : Bk kq w h N K M := by
  obtain ⟨b1, b2, b3, b4, b5, b6⟩ := b
  have sn : ∀ i, i < 60 → ∀ k, M.1 (38 + 2 * i) k = M0.1 (38 + 2 * i) k := fun i hi k => s _ _ (rBk_n hi)
  have s2 : ∀ i, M.1 202 i = M0.1 202 i := fun i => s _ _ (by unfold rBk; omega)
  refine ⟨iLandW_s b1 (fun id k q => s id k (Or.inl q)), ?_, fun i hi => ?_, ?_, fun i hi q => ?_, fun j hj => ?_⟩
  · rw [s 34 1 (by unfold rBk; omega), s 194 26 (by unfold rBk; omega)]; exact b2
  · rw [sn i (by omega), s2]; exact b3 i hi
  · rw [s kq.1 9 (by unfold rBk; omega), s 194 33 (by unfold rBk; omega), s 158 4 (by unfold rBk; omega)]; exact b4
  · rw [s2] at q
    obtain ⟨c1, c2, c3, c4, c5, c6⟩ := b5 i hi q
    refine ⟨iEvN_sm (by omega) c1 s, ?_, ?_, ?_, ?_, ?_⟩
    · rw [sn i (by omega)]; exact c2
    · rw [sn i (by omega)]; exact c3
    · rw [sn i (by omega)]; exact c4
    · rw [sn i (by omega), s 203 i (by unfold rBk; omega)]; exact c5
    · rw [sn i (by omega), s 204 i (by unfold rBk; omega)]; exact c6
  · rw [s 224 j (by unfold rBk; omega), s 159 j (by unfold rBk; omega)]; exact b6 j hj
theorem skd_cg {T T' : Nat → Int32} : ∀ (n : Nat) (s : Nat → Bool), (∀ i, i < n → T i = T' i) → skd T n s = skd T' n s := by
  intro n
  induction n with
  | zero => intro s _; rfl
  | succ n ih =>
    intro s h
    rw [skd, skd, h n (by omega)]
    exact ih _ (fun i hi => h i (by omega))
theorem Lof_sm {kq : Nat × Nat} {M0 M : Mm} {n : Nat} (hn : n ≤ 60) (s : Sm kq M0 M) : Lof M n = Lof M0 n := by
  unfold Lof
  refine List.filter_congr (fun i hi => ?_)
  have hi := List.mem_range.mp hi
  unfold cnt
  rw [s 202 i (by unfold rBk; omega), s (38 + 2 * i) 5 (rBk_n (by omega)), skd_cg (T := fun i => M.1 202 i) (T' := fun i => M0.1 202 i) n _ (fun i _ => s 202 i (by unfold rBk; omega))]
theorem Lof_in {M : Mm} {n i : Nat} : i ∈ Lof M n ↔ i < n ∧ cnt M n i = true := by
  unfold Lof
  rw [List.mem_filter, List.mem_range]
theorem Lof_ok {kq : Nat × Nat} {w h N K n : Nat} {M : Mm} (b : Bk kq w h N K M) (hn : n ≤ N) : Lok w h K M (Lof M n) := by
  intro i hi
  obtain ⟨i1, i2⟩ := Lof_in.mp hi
  have hN := b.2.1.1
  unfold cnt at i2
  simp only [Bool.and_eq_true, decide_eq_true_eq, Bool.not_eq_true'] at i2
  obtain ⟨c1, c2, c3, c4, c5, c6⟩ := b.2.2.2.2.1 i (by omega) i2.1.1
  exact ⟨by omega, c3, c4, c2.resolve_left i2.2⟩
/-- the class has gathered the list -/
def Xk (kq : Nat × Nat) (M0 M : Mm) (L : List Nat) : Prop := Sm kq M0 M ∧ M.1 34 3 = nI L.length ∧ ∀ j, j < L.length → M.1 36 j = nI (L.getD j 0)
/-- the model knows it -/
def Mk (kq : Nat × Nat) (N : Nat) (M0 M : Mm) (L : List Nat) : Prop := Sm kq M0 M ∧ ∀ i, i < N → M.1 227 i = if i ∈ L then M0.1 (38 + 2 * i) 5 else -1
theorem xk_gather {kq : Nat × Nat} {w h N K n : Nat} {M0 M : Mm} (hq : isKq kq) (b : Bk kq w h N K M0) (s : Sm kq M0 M) (hn : n ≤ N) : ∃ M', sX1_gather (nI n) M = some M' ∧ Fr pGa M M' ∧ Xk kq M0 M' (Lof M0 n) := by
  have b' := Bk_sm b s
  have hN := b.2.1.1
  obtain ⟨M', e, f, q1, q2⟩ := x_gather (M := M) (n := n) (by omega) (fun i hi => b'.2.2.1 i (by omega))
  rw [Lof_sm (by omega) s] at q1 q2
  have hk : kq.1 = 6 ∨ kq.1 = 14 := hq.1
  exact ⟨M', e, f, Sm_tr s (Sm_fr f (fun id k q p => by unfold pGa at p; rcases p with rfl | rfl | ⟨rfl, rfl⟩ <;> (unfold rBk rLand at q; omega))), q1, q2⟩
theorem mk_know {kq : Nat × Nat} {w h N K n : Nat} {M0 M : Mm} (hq : isKq kq) (b : Bk kq w h N K M0) (s : Sm kq M0 M) (hn : n ≤ N) : ∃ M', sX12_know (nI n) M = some M' ∧ Fr pKn M M' ∧ Mk kq N M0 M' (Lof M0 n) := by
  have b' := Bk_sm b s
  have hN := b.2.1.1
  obtain ⟨M', e, f, q1⟩ := m_know (M := M) (n := n) (N := N) hn hN (fun i hi => b'.2.2.1 i (by omega)) (fun i hi q => (b'.2.2.2.2.1 i hi q).1)
  have hk : kq.1 = 6 ∨ kq.1 = 14 := hq.1
  refine ⟨M', e, f, Sm_tr s (Sm_fr f (fun id k q p => by unfold pKn at p; rcases p with rfl | rfl | rfl | rfl <;> (unfold rBk rLand at q; omega))), fun i hi => ?_⟩
  rw [q1 i (by omega), ← Lof_sm (by omega) s]
  unfold khere
  by_cases z : i < n ∧ cnt M n i = true
  · rw [if_pos z, if_pos (Lof_in.mpr z), s (38 + 2 * i) 5 (rBk_n (by omega))]
  · rw [if_neg z, if_neg (fun p => z (Lof_in.mp p))]
theorem Lof_rg {M : Mm} {n N : Nat} (hn : n ≤ N) : Lof M n = (List.range N).filter (fun i => decide (i ∈ Lof M n)) := by
  have e : (fun i => decide (i ∈ Lof M n)) = fun i => decide (i < n) && cnt M n i := by
    funext i
    have := Lof_in (M := M) (n := n) (i := i)
    by_cases z : i ∈ Lof M n
    · have z2 := this.mp z
      simp [z, z2.1, z2.2]
    · have z2 : ¬ (i < n ∧ cnt M n i = true) := fun p => z (this.mpr p)
      simp only [z, decide_false]
      by_cases y : i < n
      · have : cnt M n i = false := by cases hh : cnt M n i <;> simp_all
        simp [this]
      · simp [y]
  rw [e]
  obtain ⟨d, rfl⟩ : ∃ d, N = n + d := ⟨N - n, by omega⟩
  rw [filt_up]
  rfl
/-- the weights at cell c, all but note wo -/
def wt (w : Nat) (M : Mm) (c : Nat) (L : List Nat) (wo : Nat) (k : Nat) : Int32 := wv w M c (L.filter (fun i => i ≠ wo)) k
def Wx (K : Nat) (f : Nat → Int32) (M : Mm) : Prop := (∀ k, k < K → M.1 161 k = f k) ∧ M.1 158 6 = tot f K ∧ M.1 158 7 = nI (bst f K)
def Wm (K : Nat) (f : Nat → Int32) (M : Mm) : Prop := (∀ k, k < K → M.1 228 k = f k) ∧ M.1 194 66 = tot f K
theorem wt_sm {kq : Nat × Nat} {w c wo k : Nat} {M0 M : Mm} {L : List Nat} (hL : ∀ i ∈ L, i < 60) (s : Sm kq M0 M) : wv w M c (L.filter (fun i => i ≠ wo)) k = wt w M0 c L wo k :=
  wv_fr (fun i hi => hL i ((List.mem_filter.mp hi).1)) (fun id k q => s id k (by
  unfold rW at q
  rcases q with rfl | rfl | rfl | q | rfl
  · exact Or.inl (by unfold rLand; omega)
  · exact Or.inl (by unfold rLand; omega)
  · exact Or.inl (by unfold rLand; omega)
  · exact Or.inr (Or.inr (Or.inr (Or.inr (Or.inl q))))
  · unfold rBk; omega))
theorem Lok_sm {kq : Nat × Nat} {w h K : Nat} {M0 M : Mm} {L : List Nat} (hL : Lok w h K M0 L) (s : Sm kq M0 M) : Lok w h K M L := fun i hi => by
  have h1 := (hL i hi).1
  rw [s (38 + 2 * i) 1 (rBk_n (by omega)), s (38 + 2 * i) 2 (rBk_n (by omega)), s (38 + 2 * i) 5 (rBk_n (by omega))]
  exact hL i hi
theorem xk_weigh {kq : Nat × Nat} {w h N K n c wo : Nat} {x2 : Int32} {M0 M : Mm} (hq : isKq kq) (b : Bk kq w h N K M0) (hn : n ≤ N) (x : Xk kq M0 M (Lof M0 n)) (hc : c < w * h) (hx : ∀ j, j < (Lof M0 n).length → (nI j = x2 ↔ (Lof M0 n).getD j 0 = wo)) : ∃ M', sX2_weigh (nI c) x2 M = some M' ∧ Fr pW M M' ∧ Xk kq M0 M' (Lof M0 n) ∧ Wx K (wt w M0 c (Lof M0 n) wo) M' := by
  have b' := Bk_sm b x.1
  have hN := b.2.1.1
  have hl := Lof_len M0 n
  have hok := Lof_ok b hn
  obtain ⟨M', e, f, q1, q2, q3⟩ := x_weigh (c := c) (wo := wo) (x2 := x2) (L := Lof M0 n) b'.1 b'.2.2.2.1.1 b'.2.2.2.1.2.2.2 hc (Lok_sm hok x.1) (by omega) x.2.1 x.2.2 hx
  have ew : wv w M c ((Lof M0 n).filter (fun i => i ≠ wo)) = wt w M0 c (Lof M0 n) wo := by
    funext k
    exact wt_sm (fun i hi => (hok i hi).1) x.1
  have hk : kq.1 = 6 ∨ kq.1 = 14 := hq.1
  rw [ew] at q1 q2 q3
  refine ⟨M', e, f, ⟨Sm_tr x.1 (Sm_fr f (fun id k q p => by unfold pW at p; rcases p with rfl | ⟨rfl, rfl | rfl⟩ <;> (unfold rBk rLand at q; omega))), ?_, fun j hj => ?_⟩, q1, q2, q3⟩
  · rw [(f 34 3 (by unfold pW; omega)).1]; exact x.2.1
  · rw [(f 36 j (by unfold pW; omega)).1]; exact x.2.2 j hj
theorem mk_weigh {kq : Nat × Nat} {w h N K n c wo : Nat} {x2 : Int32} {M0 M : Mm} (hq : isKq kq) (b : Bk kq w h N K M0) (hn : n ≤ N) (x : Mk kq N M0 M (Lof M0 n)) (hc : c < w * h) (hx : ∀ i, i < N → (nI i = x2 ↔ i = wo)) : ∃ M', sX12_weigh (nI c) x2 M = some M' ∧ Fr pWm M M' ∧ Mk kq N M0 M' (Lof M0 n) ∧ Wm K (wt w M0 c (Lof M0 n) wo) M' := by
  have b' := Bk_sm b x.1
  have hN := b.2.1.1
  have hok := Lof_ok b hn
  obtain ⟨M', e, f, q1, q2⟩ := m_weigh (c := c) (wo := wo) (x2 := x2) (L := Lof M0 n) b'.1 b'.2.2.2.1.1 b'.2.2.2.1.2.2.1 b'.2.1.1 b'.2.1.2.2 hc (Lok_sm hok x.1) ⟨fun i => decide (i ∈ Lof M0 n), Lof_rg hn, fun i hi => by rw [x.2 i hi, x.1 (38 + 2 * i) 5 (rBk_n (by omega))]; simp only [decide_eq_true_eq], fun i hi => by
    obtain ⟨i1, i2⟩ := Lof_in.mp hi
    unfold cnt at i2
    simp only [Bool.and_eq_true, decide_eq_true_eq, Bool.not_eq_true'] at i2
    obtain ⟨c1, c2, c3, c4, c5, c6⟩ := b'.2.2.2.2.1 i (by omega) (by rw [x.1 202 i (by unfold rBk; omega)]; exact i2.1.1)
    exact ⟨c5, c6⟩⟩ (fun j hj => (b'.2.2.2.2.2 j hj).1) hx
  have ew : wv w M c ((Lof M0 n).filter (fun i => i ≠ wo)) = wt w M0 c (Lof M0 n) wo := by
    funext k
    exact wt_sm (fun i hi => (hok i hi).1) x.1
  have hk : kq.1 = 6 ∨ kq.1 = 14 := hq.1
  rw [ew] at q1 q2
  refine ⟨M', e, f, ⟨Sm_tr x.1 (Sm_fr f (fun id k q p => by unfold pWm at p; rcases p with rfl | ⟨rfl, rfl⟩ <;> (unfold rBk rLand at q; omega))), fun i hi => ?_⟩, q1, q2⟩
  rw [(f 227 i (by unfold pWm; omega)).1]; exact x.2 i hi
/-- each weight, and the total: small and above 0 -/
theorem wt_sm2 {kq : Nat × Nat} {w h N K n c wo : Nat} {M0 : Mm} (b : Bk kq w h N K M0) (hn : n ≤ N) : (∀ k, k < K → ∃ v, 1 ≤ v ∧ v ≤ 13441 ∧ wt w M0 c (Lof M0 n) wo k = nI v) ∧ ∃ t, K ≤ t ∧ t ≤ 107528 ∧ tot (wt w M0 c (Lof M0 n) wo) K = nI t := by
  have hN := b.2.1.1
  have hK := b.2.2.2.1.1
  have hl := Lof_len M0 n
  have hok := Lof_ok b hn
  have h1 : ∀ k, k < K → ∃ v, 1 ≤ v ∧ v ≤ 13441 ∧ wt w M0 c (Lof M0 n) wo k = nI v := fun k hk => by
    obtain ⟨v, v1, v2, v3⟩ := wv_sm (w := w) (h := h) (c := c) (k := k) (K := K) (M := M0) hK (by omega) (fun j hj => (b.2.2.2.2.2 j hj).2) ((Lof M0 n).filter (fun i => i ≠ wo)) (fun i hi => hok i ((List.mem_filter.mp hi).1))
    have h9 := List.length_filter_le (fun i => decide (i ≠ wo)) (Lof M0 n)
    exact ⟨v, v1, by omega, v3⟩
  refine ⟨h1, ?_⟩
  obtain ⟨t, t1, t2, t3⟩ := tot_sm (B := 13441) K h1
  exact ⟨t, t1, Nat.le_trans t2 (Nat.le_trans (Nat.mul_le_mul_left _ hK) (by omega)), t3⟩
/-- parts of a thousand -/
def prt (f : Nat → Int32) (K k : Nat) : Int32 := 1000 * f k / tot f K
theorem x_part {K k t : Nat} {f : Nat → Int32} {M : Mm} (hK : K ≤ 8) (hk : k < K) (ht : tot f K = nI t) (t1 : K ≤ t) (t2 : t ≤ 107528) (x : Wx K f M) : sX2_partsOf (nI k) M = some (prt f K k, M) := by
  unfold sX2_partsOf prt
  rw [x.2.1, ht, if_neg (by rw [show (0 : Int32) = nI 0 from rfl]; exact nle_nI (by omega) (by omega)), ckT (inb_nI (by omega) (by decide)), ckT (nz_nI (by omega) (by omega)), nI_clamp (by omega), x.1 k hk]
theorem m_part {K k t : Nat} {f : Nat → Int32} {M : Mm} (hK : K ≤ 8) (hk : k < K) (ht : tot f K = nI t) (t1 : K ≤ t) (t2 : t ≤ 107528) (x : Wm K f M) : sX12_part (nI k) M = some (prt f K k, M) := by
  unfold sX12_part prt
  rw [x.2, ht, ckT (inb_nI (by omega) (by decide)), ckT (nz_nI (by omega) (by omega)), nI_clamp (by omega), x.1 k hk]
