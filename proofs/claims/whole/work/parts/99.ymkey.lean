theorem m_k45 {T : Nat → Int32} {n : Nat} : ∀ (g F q k L K : Nat) (nm : Nat → Nat) (R : Nat → Ln) (M : Mm), ML T n q k L K nm R M → 16 < L + g → g ≤ F →
    (∃ w a M', dKy T n g q k L K nm R = .inl (w, a) ∧ sX12_key_45 F M = some (-1, M') ∧ Fr pMl M M' ∧ Mf w a M') ∨
    (∃ q' k' L' K' nm' R' M', dKy T n g q k L K nm R = .inr (k', L', K', R') ∧ sX12_key_45 F M = sX12_key_87 4096 0 (sI (sI (sI M' 194 33 (nI K')) 194 34 (nI L')) 194 35 (nI k')) ∧ Fr pMl M M' ∧ ML T n q' k' L' K' nm' R' M') := by
  intro g
  induction g with
  | zero => intro F q k L K nm R M x h1 _; have := x.2.2.2.2.2.1; omega
  | succ g ih =>
    intro F q k L K nm R M x h1 hF
    obtain ⟨F, rfl⟩ : ∃ F', F = F' + 1 := ⟨F - 1, by omega⟩
    rw [dKy, sX12_key_45]
    by_cases c : tS T n q = 0
    · rw [if_pos c, if_pos ((m_end x.1).mpr c)]
      refine Or.inr ⟨q, k, L, K, nm, R, M, rfl, ?_, Fr_rf _ _, x⟩
      obtain ⟨x1, x38, x50, xk, x37, xL, x36, xK, xN, xM, xq, xR⟩ := x
      rw [x36, rdN (by omega), x37, rdN (by omega), rdN (by omega), x38]
    · rw [if_neg c, if_neg (fun z => c ((m_end x.1).mp z))]
      rcases m_ln x with ⟨w, a, A, r1, r2, r3, r4⟩ | ⟨s, A, r1, rL, r2, r3, r4⟩
      · rw [r1, r2, Option.bind_some]
        dsimp only
        rw [if_pos rfl]
        exact Or.inl ⟨w, a, A, rfl, rfl, r3, r4⟩
      · rw [r1, r2, Option.bind_some]
        dsimp only [rB]
        rw [if_neg (show ¬ (1 : Int32) = 0 by decide)]
        rcases ih F _ _ _ _ _ _ A r4 (by omega) (by omega) with ⟨w, a, B, t1, t2, t3, t4⟩ | ⟨q', k', L', K', nm', R', B, t1, t2, t3, t4⟩
        · exact Or.inl ⟨w, a, B, t1, t2, Fr_tr r3 t3, t4⟩
        · exact Or.inr ⟨q', k', L', K', nm', R', B, t1, t2, Fr_tr r3 t3, t4⟩
theorem n96 (a : Nat) : nI (96 + a) - 96 = nI a := by rw [show (96 : Int32) = nI 96 from rfl, nI_sb (by omega), Nat.add_sub_cancel_left]
/-- nodes that were copied down -/
theorem oO_mNs {k : Nat} {M M' : Mm} (hk : k ≤ 96) (g : ∀ u, u < k → (∀ a, 213 ≤ a ∧ a ≤ 215 → M'.1 a u = M.1 a (96 + u)) ∧ ∀ a, 216 ≤ a ∧ a ≤ 218 → M'.1 a u = M.1 a (96 + u) - 96) : ∀ (O : List Nd) (z : Nat), z + O.length ≤ k → (∀ d ∈ O, ndO d.1 ∧ d.2.1 < k) → oO M z O → mNs M' z O := by
  intro O
  induction O with
  | nil => intro z _ _ _; trivial
  | cons d O ih =>
    intro z hz hd h
    rw [List.length_cons] at hz
    obtain ⟨⟨o1, o2, o3, o4⟩, hn⟩ := hd d List.mem_cons_self
    obtain ⟨h1, ⟨n1, n2, n3, n4, n5⟩, h3⟩ := h
    obtain ⟨ga, gb⟩ := g d.2.1 hn
    refine ⟨?_, ⟨by omega, ⟨(ga _ (by omega)).trans n1, (ga _ (by omega)).trans n2, (ga _ (by omega)).trans n3, o1, o2, o3⟩, o4, fun q => ?_, fun q => ?_⟩, ih (z + 1) (by omega) (fun d' h' => hd d' (List.mem_cons_of_mem _ h')) h3⟩
    · rw [(g z (by omega)).2 218 (by omega), h1, n96]
    · rw [gb 217 (by omega), n4 q, n96]
    · rw [gb 216 (by omega), n5 q, n96]
def pMk (id k : Nat) : Prop := id = 194 ∧ (k = 1 ∨ k = 2 ∨ 17 ≤ k ∧ k ≤ 25 ∨ 33 ≤ k ∧ k ≤ 38 ∨ k = 50 ∨ k = 53 ∨ 55 ≤ k ∧ k ≤ 58) ∨ 208 ≤ id ∧ id ≤ 221 ∨ id = 224 ∨ id = 225
/-- where a refused key leaves the model's key alone -/
def pMz (id k : Nat) : Prop := id = 194 ∧ (k = 1 ∨ k = 2 ∨ 17 ≤ k ∧ k ≤ 25 ∨ 36 ≤ k ∧ k ≤ 38 ∨ k = 50 ∨ k = 53 ∨ 55 ≤ k ∧ k ≤ 58) ∨ (id = 208 ∨ id = 209) ∨ 210 ≤ id ∧ id ≤ 212 ∧ 16 ≤ k ∨ 213 ≤ id ∧ id ≤ 218 ∧ 96 ≤ k ∨ 219 ≤ id ∧ id ≤ 221
theorem ml_mz {M M1 : Mm} (f : Fr pMl M M1) : Fr pMz M M1 := Fr_mo f (fun id k q => by
  rcases q with q | q | q | q | q | q
  · unfold pMr at q; exact Or.inl (by omega)
  · exact Or.inl (by omega)
  · exact Or.inr (Or.inl q)
  · exact Or.inr (Or.inr (Or.inl q))
  · exact Or.inr (Or.inr (Or.inr (Or.inl q)))
  · exact Or.inr (Or.inr (Or.inr (Or.inr q))))
theorem m_key {T : Nat → Int32} {n t : Nat} {M : Mm} (hn : n ≤ t) (ht : t ≤ 800) (h11 : M.1 194 1 = nI t) (hT : Tp 195 T n M) (hb : Tb T n) (hw : iWm M) :
    (∃ w a M', dKy T n 17 0 0 0 0 nm0 R0_ = .inl (w, a) ∧ sX12_key (nI n) M = some (-1, M') ∧ Fr pMz M M' ∧ M'.1 194 1 = 0 ∧ M'.1 194 17 = nI w ∧ M'.1 194 18 = nI a) ∨
    (∃ k L K R M', dKy T n 17 0 0 0 0 nm0 R0_ = .inr (k, L, K, R) ∧ sX12_key (nI n) M = some (nI L, M') ∧ Fr pMk M M' ∧ M'.1 194 1 = 0 ∧ M'.1 194 17 = 0 ∧ M'.1 194 18 = -1 ∧ M'.1 194 33 = nI K ∧ M'.1 194 35 = nI k ∧ mK_ L (fun l => (R l).2.1) M' ∧ (∀ l, l < L → M'.1 210 l = nI (R l).2.2) ∧ (∀ p, p < 192 → M'.1 224 p = rst p) ∧ ∀ u, u < 8 → M'.1 225 u = 0) := by
  have r0 : ∀ {k}, k ≠ 2 → (sI M 194 2 0).1 194 k = M.1 194 k := fun {k} q => rdN (by omega)
  obtain ⟨B, b1, b2', b3, b4⟩ := m_beg (M := sI M 194 2 0) (T := T) (n := n) ⟨hT.1, fun k hk => by rw [rdN (by omega)]; exact hT.2 k hk⟩ (fun j hj => by rw [rdN (by omega)]; exact hw j hj) hb
  obtain ⟨C, hC⟩ : ∃ C, C = sI (sI (sI (sI B 194 36 0) 194 37 0) 194 38 0) 194 50 0 := ⟨_, rfl⟩
  have fC : Fr pMz M C := by
    rw [hC]
    exact Fr_sI (Fr_sI (Fr_sI (Fr_sI (Fr_tr (Fr_sI (Fr_rf _ _) (by unfold pMz; omega)) (Fr_mo b2' (fun id k p => by unfold pMz; omega))) (by unfold pMz; omega)) (by unfold pMz; omega)) (by unfold pMz; omega)) (by unfold pMz; omega)
  have c1 : C.1 194 1 = 0 := by rw [hC, rdN (by omega), rdN (by omega), rdN (by omega), rdN (by omega)]; exact b4
  have xC : ML T n 0 0 0 0 nm0 R0_ C := by
    rw [hC]
    refine ⟨Ms_s1 (Ms_s1 (Ms_s1 (Ms_s1 b3 (by omega)) (by omega)) (by omega)) (by omega), ?_, rdS _ _ _ _, by omega, ?_, by omega, ?_, by omega, fun j hj => by omega, fun j hj => by omega, rfl, fun l hl => by omega⟩
    · rw [rdN (by omega), rdS]; rfl
    · rw [rdN (by omega), rdN (by omega), rdS]; rfl
    · rw [rdN (by omega), rdN (by omega), rdN (by omega), rdS]; rfl
  have unf : sX12_key (nI n) M = sX12_key_45 4096 C := by
    unfold sX12_key
    rw [if_neg (show ¬ nI n < 0 from nlt_nI (b := 0) (by omega) (by omega)), r0 (by omega), h11, if_pos (nI_le hn (by omega)), b1, Option.bind_some, hC]
  rw [unf]
  rcases m_k45 17 4096 0 0 0 0 nm0 R0_ C xC (by omega) (by omega) with ⟨w, a, A, t1, t2, t3, t4⟩ | ⟨q', k', L', K', nm', R', A, t1, t2, t3, t4⟩
  · refine Or.inl ⟨w, a, A, t1, t2, Fr_tr fC (ml_mz t3), (t3 _ _ (by unfold pMl pMr; omega)).1.trans c1, t4.1, t4.2⟩
  · have hG := dKy_g 17 0 0 0 0 nm0 R0_ _ t1 (fun l hl => by omega)
    dsimp only at hG
    obtain ⟨x1, x38, x50, xk, x37, xL, x36, xK, xN, xM, xq, xR⟩ := t4
    obtain ⟨E, hE⟩ : ∃ E, E = sI (sI (sI A 194 33 (nI K')) 194 34 (nI L')) 194 35 (nI k') := ⟨_, rfl⟩
    have fE : Fr (fun id k => id = 194 ∧ 33 ≤ k ∧ k ≤ 35) A E := by rw [hE]; exact Fr_sI (Fr_sI (Fr_sI (Fr_rf _ _) (by omega)) (by omega)) (by omega)
    have rE : ∀ a j, ¬ (a = 194 ∧ 33 ≤ j ∧ j ≤ 35) → E.1 a j = A.1 a j := fun a j p => (fE a j p).1
    have e33 : E.1 194 33 = nI K' := by rw [hE, rdN (by omega), rdN (by omega), rdS]
    have e34 : E.1 194 34 = nI L' := by rw [hE, rdN (by omega), rdS]
    have e35 : E.1 194 35 = nI k' := by rw [hE, rdS]
    obtain ⟨G, g1, g2, g3⟩ := m_87 xk k' 0 4096 E (by omega) (by omega) e35
    have g1' : sX12_key_87 4096 0 E = sX12_key_202 4096 0 G := g1
    obtain ⟨H, h1, h2, h3⟩ := m_202 xL L' 0 4096 G (by omega) (by omega) ((g2 _ _ (by omega)).1.trans e34)
    have h1' : sX12_key_202 4096 0 G = sX12_key_263 4096 0 H := h1
    obtain ⟨I, i1, i2, i3⟩ := m_rs_1 3 0 4096 H (by omega) (by omega)
    have i1' : sX12_key_263 4096 0 H = sX12_key_335 4096 0 I := i1
    obtain ⟨J, j1, j2, j3⟩ := m_335 8 0 4096 I (by omega) (by omega) (fun u hu => by omega)
    have j1' : sX12_key_335 4096 0 I = some (I.1 194 34, J) := j1
    have rJ : ∀ a j, a ≠ 224 → a ≠ 225 → J.1 a j = H.1 a j := fun a j p1 p2 => (j2 _ _ (by omega)).1.trans (i2 _ _ (by omega)).1
    have rH : ∀ a j, ¬ (210 ≤ a ∧ a ≤ 212) → H.1 a j = G.1 a j := fun a j p => (h2 _ _ (by omega)).1
    have rG : ∀ a j, ¬ (213 ≤ a ∧ a ≤ 218 ∧ j < 96) → G.1 a j = E.1 a j := fun a j p => (g2 _ _ (by omega)).1
    have r194 : ∀ j, J.1 194 j = E.1 194 j := fun j => by rw [rJ _ _ (by omega) (by omega), rH _ _ (by omega), rG _ _ (by omega)]
    have i34 : I.1 194 34 = nI L' := by rw [(i2 _ _ (by omega)).1, rH _ _ (by omega), rG _ _ (by omega)]; exact e34
    have cop : ∀ u, u < k' → (∀ a, 213 ≤ a ∧ a ≤ 215 → J.1 a u = A.1 a (96 + u)) ∧ ∀ a, 216 ≤ a ∧ a ≤ 218 → J.1 a u = A.1 a (96 + u) - 96 := fun u hu => by
      obtain ⟨ga, gb⟩ := g3 u (by omega) hu
      exact ⟨fun a ha => by rw [rJ _ _ (by omega) (by omega), rH _ _ (by omega), ga a ha, rE _ _ (by omega)], fun a ha => by rw [rJ _ _ (by omega) (by omega), rH _ _ (by omega), gb a ha, rE _ _ (by omega)]⟩
    have col : ∀ u, u < L' → ∀ a, 210 ≤ a ∧ a ≤ 212 → J.1 a u = A.1 a (16 + u) := fun u hu a ha => by
      rw [rJ _ _ (by omega) (by omega), h3 u (by omega) hu a ha, rG _ _ (by omega), rE _ _ (by omega)]
    have fMA : Fr pMk M A := Fr_tr (Fr_mo fC (fun id k p => by unfold pMz at p; unfold pMk; omega)) (Fr_mo (ml_mz t3) (fun id k p => by unfold pMz at p; unfold pMk; omega))
    have fAJ : Fr pMk A J := Fr_tr (Fr_mo fE (fun id k p => by unfold pMk; omega)) (Fr_tr (Fr_mo g2 (fun id k p => by unfold pMk; omega)) (Fr_tr (Fr_mo h2 (fun id k p => by unfold pMk; omega)) (Fr_tr (Fr_mo i2 (fun id k p => by unfold pMk; omega)) (Fr_mo j2 (fun id k p => by unfold pMk; omega)))))
    refine Or.inr ⟨k', L', K', R', J, t1, ?_, Fr_tr fMA fAJ, ?_, ?_, ?_, ?_, ?_, ⟨xL, ?_, fun l hl => ?_⟩, fun l hl => (col l hl 210 (by omega)).trans (xR l hl).1, fun p hp => ?_, j3⟩
    · rw [t2, ← hE, g1', h1', i1', j1', i34]
    · rw [r194, rE _ _ (by omega), (t3 _ _ (by unfold pMl pMr; omega)).1]; exact c1
    · rw [r194, rE _ _ (by omega)]; exact x1.2.2.2.1
    · rw [r194, rE _ _ (by omega)]; exact x1.2.2.2.2.1
    · rw [r194]; exact e33
    · rw [r194]; exact e35
    · rw [r194]; exact e34
    · obtain ⟨q1, q2, q3, q4, q5⟩ := xR l hl
      obtain ⟨o1, o2, o3, o4, o5, o6⟩ := hG l hl
      have hle := sq_mo (R := R') (a := l + 1) L' (by omega)
      have hsl : sqR R' (l + 1) = sqR R' l + (R' l).2.1.length := rfl
      exact ⟨⟨sqR R' l, (by show sqR R' l + (R' l).2.1.length ≤ 96; omega), (col l hl 211 (by omega)).trans q2, oO_mNs xk cop _ _ (by show sqR R' l + (R' l).2.1.length ≤ k'; omega) (fun d hd => ⟨o5 d hd, q5 d hd⟩) q4⟩, (col l hl 212 (by omega)).trans q3, o4, o3⟩
    · rw [(j2 _ _ (by omega)).1]; exact i3 p (by omega) hp
