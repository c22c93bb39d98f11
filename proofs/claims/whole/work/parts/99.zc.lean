theorem p2_ak {M M1 : Mm} (f : Fr p2 M M1) : Fr pAk M M1 := Fr_mo f (fun id k q => Or.inl (by unfold p2 at q; unfold pSc; omega))
theorem sc_ak {M M1 : Mm} (f : Fr pSc M M1) : Fr pAk M M1 := Fr_mo f (fun _ _ q => Or.inl q)
theorem lk_ak {M M1 : Mm} (f : Fr pLk M M1) : Fr pAk M M1 := Fr_mo f (fun id k q => by
  rcases q with q | q
  · exact Or.inl (by unfold pSc; omega)
  · exact Or.inr q)
theorem iLand_b {kq : Nat × Nat} {M : Mm} (h : iB kq M) : iLand M := by
  obtain ⟨_, ⟨w, l, N, K, b, _⟩, _⟩ := h
  exact ⟨w, l, b.1⟩
theorem Bk_ln {kq : Nat × Nat} {w h N K : Nat} {M M1 : Mm} (b : Bk kq w h N K M) (hl : iLandW w h M1) (hk : iKN kq.1 K N M1) (g : ∀ a k, a = 34 ∧ k = 1 ∨ a = 194 ∧ (k = 26 ∨ k = 33) ∨ 202 ≤ a ∧ a ≤ 204 ∨ 38 ≤ a ∧ a < 158 ∨ a = kq.1 ∧ k = 9 ∨ a = 158 ∧ k = 4 ∨ a = 224 ∨ a = 159 → M1.1 a k = M.1 a k) : Bk kq w h N K M1 := by
  obtain ⟨b1, b2, b3, b4, b5, b6⟩ := b
  have hN := b2.1
  have sn : ∀ i, i < N → ∀ k, M1.1 (38 + 2 * i) k = M.1 (38 + 2 * i) k := fun i hi k => g _ _ (by omega)
  have s2 : ∀ a i, 202 ≤ a ∧ a ≤ 204 → M1.1 a i = M.1 a i := fun a i ha => g _ _ (by omega)
  refine ⟨hl, ⟨b2.1, (g _ _ (by omega)).trans b2.2.1, (g _ _ (by omega)).trans b2.2.2⟩, fun i hi => ?_, ?_, fun i hi q => ?_, fun j hj => ?_⟩
  · rw [sn i hi, s2 202 i (by omega)]; exact b3 i hi
  · rw [g kq.1 9 (by omega), g 194 33 (by omega), g 158 4 (by omega)]; exact b4
  · obtain ⟨v1, v2⟩ := iKN_ev hk (by omega) hi q
    rw [s2 202 i (by omega)] at q
    obtain ⟨c1, c2, c3, c4, c5, c6⟩ := b5 i hi q
    refine ⟨v1, v2, ?_, ?_, ?_, ?_⟩
    · rw [sn i hi]; exact c3
    · rw [sn i hi]; exact c4
    · rw [sn i hi, s2 203 i (by omega)]; exact c5
    · rw [sn i hi, s2 204 i (by omega)]; exact c6
  · rw [g 224 j (by omega), g 159 j (by omega)]; exact b6 j hj
/-- the land has changed, not its sides -/
theorem f_BL {P : Nat → Nat → Prop} {kq : Nat × Nat} {M M1 : Mm} (h : iB kq M) (hl : iLand M1) (f : Fr P M M1) (c : ∀ id k, id = 34 ∧ k = 1 ∨ id = 194 ∧ (k = 3 ∨ k = 4 ∨ k = 26 ∨ k = 33 ∨ k = 34 ∨ k = 35) ∨ 202 ≤ id ∧ id ≤ 206 ∨ 38 ≤ id ∧ id < 158 ∨ kq.1 ≤ id ∧ id ≤ kq.1 + 5 ∨ 210 ≤ id ∧ id ≤ 218 ∨ id = 158 ∧ k = 4 ∨ id = 224 ∨ id = 159 → ¬ P id k) : iB kq M1 := by
  obtain ⟨h1, ⟨w, l, N, K, b, hk⟩, h8, h10⟩ := h
  have g : ∀ id k, id = 34 ∧ k = 1 ∨ id = 194 ∧ (k = 3 ∨ k = 4 ∨ k = 26 ∨ k = 33 ∨ k = 34 ∨ k = 35) ∨ 202 ≤ id ∧ id ≤ 206 ∨ 38 ≤ id ∧ id < 158 ∨ kq.1 ≤ id ∧ id ≤ kq.1 + 5 ∨ 210 ≤ id ∧ id ≤ 218 ∨ id = 158 ∧ k = 4 ∨ id = 224 ∨ id = 159 → M1.1 id k = M.1 id k := fun id k q => (f id k (c id k q)).1
  have hN := b.2.1.1
  obtain ⟨w', l', hl⟩ := hl
  have e1 := hl.1
  have e2 := b.1.1
  have ew : w' = w := nI_inj (by omega) (by omega) (hl.2.1.2.2.2.1.symm.trans ((g 194 3 (by omega)).trans b.1.2.1.2.2.2.1))
  have el : l' = l := nI_inj (by omega) (by omega) (hl.2.1.2.2.2.2.symm.trans ((g 194 4 (by omega)).trans b.1.2.1.2.2.2.2))
  subst ew
  subst el
  have k1 : iKN kq.1 K N M1 := iKN_sm hN hk (fun a k q => g a k (by unfold rKN at q; omega))
  refine ⟨iNotes_fr h1 f (fun id k q => c id k (by unfold rNotes at q; omega)), ⟨w', l', N, K, Bk_ln b hl k1 (fun a k q => g a k (by omega)), k1⟩, ?_, ?_⟩
  · rw [g kq.1 8 (by omega), g 194 34 (by omega)]; exact h8
  · rw [g kq.1 10 (by omega), g 194 35 (by omega)]; exact h10
theorem I_fault {kq : Nat × Nat} {M : Mm} (a1 a2 a3 a4 a5 a6 : Int32) (h : Inv kq M) : ∃ r : (Nat × Nat) × Mm, st_fault kq a1 a2 a3 a4 a5 a6 M = some r ∧ Inv r.1 r.2 := by
  have h0 := h
  obtain ⟨hq, h1, h2, h3, h4, h5, h6, h7, h8, hB⟩ := h
  obtain ⟨h1', ⟨w, l, N, K, b, hk⟩, c8, c10⟩ := hB
  have hL : iLand M := ⟨w, l, b.1⟩
  obtain ⟨M1, e, f⟩ := step_fault (kq := kq) a1 a2 a3 a4 a5 a6 h2
  exact ⟨_, e, I_ask h0 (p2_ak f)⟩
theorem I_drawn {kq : Nat × Nat} {M : Mm} (a1 a2 a3 a4 a5 a6 : Int32) (h : Inv kq M) : ∃ r : (Nat × Nat) × Mm, st_drawn kq a1 a2 a3 a4 a5 a6 M = some r ∧ Inv r.1 r.2 := by
  have h0 := h
  obtain ⟨hq, h1, h2, h3, h4, h5, h6, h7, h8, hB⟩ := h
  obtain ⟨h1', ⟨w, l, N, K, b, hk⟩, c8, c10⟩ := hB
  have hL : iLand M := ⟨w, l, b.1⟩
  obtain ⟨M1, e, f⟩ := step_drawn (kq := kq) a1 a2 a3 a4 a5 a6 h4
  exact ⟨_, e, I_ask h0 (p2_ak f)⟩
theorem I_planned {kq : Nat × Nat} {M : Mm} (a1 a2 a3 a4 a5 a6 : Int32) (h : Inv kq M) : ∃ r : (Nat × Nat) × Mm, st_planned kq a1 a2 a3 a4 a5 a6 M = some r ∧ Inv r.1 r.2 := by
  have h0 := h
  obtain ⟨hq, h1, h2, h3, h4, h5, h6, h7, h8, hB⟩ := h
  obtain ⟨h1', ⟨w, l, N, K, b, hk⟩, c8, c10⟩ := hB
  have hL : iLand M := ⟨w, l, b.1⟩
  obtain ⟨M1, e, f⟩ := step_planned (kq := kq) a1 a2 a3 a4 a5 a6 h5
  exact ⟨_, e, I_ask h0 (p2_ak f)⟩
theorem I_layer {kq : Nat × Nat} {M : Mm} (a1 a2 a3 a4 a5 a6 : Int32) (h : Inv kq M) : ∃ r : (Nat × Nat) × Mm, st_layer kq a1 a2 a3 a4 a5 a6 M = some r ∧ Inv r.1 r.2 := by
  have h0 := h
  obtain ⟨hq, h1, h2, h3, h4, h5, h6, h7, h8, hB⟩ := h
  obtain ⟨h1', ⟨w, l, N, K, b, hk⟩, c8, c10⟩ := hB
  have hL : iLand M := ⟨w, l, b.1⟩
  obtain ⟨M1, e, f⟩ := step_layer (kq := kq) a1 a2 a3 a4 a5 a6 h1'
  exact ⟨_, e, I_ask h0 (p2_ak f)⟩
theorem I_look {kq : Nat × Nat} {M : Mm} (a1 a2 a3 a4 a5 a6 : Int32) (h : Inv kq M) : ∃ r : (Nat × Nat) × Mm, st_look kq a1 a2 a3 a4 a5 a6 M = some r ∧ Inv r.1 r.2 := by
  have h0 := h
  obtain ⟨hq, h1, h2, h3, h4, h5, h6, h7, h8, hB⟩ := h
  obtain ⟨h1', ⟨w, l, N, K, b, hk⟩, c8, c10⟩ := hB
  have hL : iLand M := ⟨w, l, b.1⟩
  obtain ⟨M1, e, f⟩ := step_look (kq := kq) a1 a2 a3 a4 a5 a6 hL
  exact ⟨_, e, I_ask h0 (lk_ak f)⟩
theorem I_like {kq : Nat × Nat} {M : Mm} (a1 a2 a3 a4 a5 a6 : Int32) (h : Inv kq M) : ∃ r : (Nat × Nat) × Mm, st_like kq a1 a2 a3 a4 a5 a6 M = some r ∧ Inv r.1 r.2 := by
  have h0 := h
  obtain ⟨hq, h1, h2, h3, h4, h5, h6, h7, h8, hB⟩ := h
  obtain ⟨h1', ⟨w, l, N, K, b, hk⟩, c8, c10⟩ := hB
  have hL : iLand M := ⟨w, l, b.1⟩
  obtain ⟨M1, e, f⟩ := step_like (kq := kq) a1 a2 a3 a4 a5 a6 hL
  exact ⟨_, e, I_ask h0 (p2_ak f)⟩
theorem I_told {kq : Nat × Nat} {M : Mm} (a1 a2 a3 a4 a5 a6 : Int32) (h : Inv kq M) : ∃ r : (Nat × Nat) × Mm, st_told kq a1 a2 a3 a4 a5 a6 M = some r ∧ Inv r.1 r.2 := by
  have h0 := h
  obtain ⟨hq, h1, h2, h3, h4, h5, h6, h7, h8, hB⟩ := h
  obtain ⟨h1', ⟨w, l, N, K, b, hk⟩, c8, c10⟩ := hB
  have hL : iLand M := ⟨w, l, b.1⟩
  obtain ⟨M1, e, f⟩ := step_told a1 a2 a3 a4 a5 a6 h1' b
  exact ⟨_, e, I_ask h0 (sc_ak f)⟩
theorem I_count {kq : Nat × Nat} {M : Mm} (a1 a2 a3 a4 a5 a6 : Int32) (h : Inv kq M) : ∃ r : (Nat × Nat) × Mm, st_count kq a1 a2 a3 a4 a5 a6 M = some r ∧ Inv r.1 r.2 := by
  have h0 := h
  obtain ⟨hq, h1, h2, h3, h4, h5, h6, h7, h8, hB⟩ := h
  obtain ⟨h1', ⟨w, l, N, K, b, hk⟩, c8, c10⟩ := hB
  have hL : iLand M := ⟨w, l, b.1⟩
  obtain ⟨M1, e, f⟩ := step_count a1 a2 a3 a4 a5 a6 hq.1 b c8 c10
  exact ⟨_, e, I_ask h0 (sc_ak f)⟩
theorem I_chance {kq : Nat × Nat} {M : Mm} (a1 a2 a3 a4 a5 a6 : Int32) (h : Inv kq M) : ∃ r : (Nat × Nat) × Mm, st_chance kq a1 a2 a3 a4 a5 a6 M = some r ∧ Inv r.1 r.2 := by
  have h0 := h
  obtain ⟨hq, h1, h2, h3, h4, h5, h6, h7, h8, hB⟩ := h
  obtain ⟨h1', ⟨w, l, N, K, b, hk⟩, c8, c10⟩ := hB
  have hL : iLand M := ⟨w, l, b.1⟩
  obtain ⟨M1, e, f⟩ := step_chance a1 a2 a3 a4 a5 a6 hq.1 b
  exact ⟨_, e, I_ask h0 (sc_ak f)⟩
theorem I_leftOut {kq : Nat × Nat} {M : Mm} (a1 a2 a3 a4 a5 a6 : Int32) (h : Inv kq M) : ∃ r : (Nat × Nat) × Mm, st_leftOut kq a1 a2 a3 a4 a5 a6 M = some r ∧ Inv r.1 r.2 := by
  have h0 := h
  obtain ⟨hq, h1, h2, h3, h4, h5, h6, h7, h8, hB⟩ := h
  obtain ⟨h1', ⟨w, l, N, K, b, hk⟩, c8, c10⟩ := hB
  have hL : iLand M := ⟨w, l, b.1⟩
  obtain ⟨M1, e, f⟩ := step_leftOut a1 a2 a3 a4 a5 a6 hq.1 b
  exact ⟨_, e, I_ask h0 (sc_ak f)⟩
theorem I_worth {kq : Nat × Nat} {M : Mm} (a1 a2 a3 a4 a5 a6 : Int32) (h : Inv kq M) : ∃ r : (Nat × Nat) × Mm, st_worth kq a1 a2 a3 a4 a5 a6 M = some r ∧ Inv r.1 r.2 := by
  have h0 := h
  obtain ⟨hq, h1, h2, h3, h4, h5, h6, h7, h8, hB⟩ := h
  obtain ⟨h1', ⟨w, l, N, K, b, hk⟩, c8, c10⟩ := hB
  have hL : iLand M := ⟨w, l, b.1⟩
  obtain ⟨M1, e, f⟩ := step_worth a1 a2 a3 a4 a5 a6 hq.1 b h6
  exact ⟨_, e, I_ask h0 (sc_ak f)⟩
theorem I_turned {kq : Nat × Nat} {M : Mm} (a1 a2 a3 a4 a5 a6 : Int32) (h : Inv kq M) : ∃ r : (Nat × Nat) × Mm, st_turned kq a1 a2 a3 a4 a5 a6 M = some r ∧ Inv r.1 r.2 := by
  have h0 := h
  obtain ⟨hq, h1, h2, h3, h4, h5, h6, h7, h8, hB⟩ := h
  obtain ⟨h1', ⟨w, l, N, K, b, hk⟩, c8, c10⟩ := hB
  have hL : iLand M := ⟨w, l, b.1⟩
  obtain ⟨M1, e, f⟩ := step_turned a1 a2 a3 a4 a5 a6 hq.1 b h7
  exact ⟨_, e, I_ask h0 (sc_ak f)⟩
theorem I_maps {kq : Nat × Nat} {M : Mm} (a1 a2 a3 a4 a5 a6 : Int32) (h : Inv kq M) : ∃ r : (Nat × Nat) × Mm, st_maps kq a1 a2 a3 a4 a5 a6 M = some r ∧ Inv r.1 r.2 := by
  have h0 := h
  obtain ⟨hq, h1, h2, h3, h4, h5, h6, h7, h8, hB⟩ := h
  obtain ⟨h1', ⟨w, l, N, K, b, hk⟩, c8, c10⟩ := hB
  have hL : iLand M := ⟨w, l, b.1⟩
  obtain ⟨M1, e, f⟩ := step_maps a1 a2 a3 a4 a5 a6 hq.1 b h7
  exact ⟨_, e, I_ask h0 (sc_ak f)⟩
theorem I_hands {kq : Nat × Nat} {M : Mm} (a1 a2 a3 a4 a5 a6 : Int32) (h : Inv kq M) : ∃ r : (Nat × Nat) × Mm, st_hands kq a1 a2 a3 a4 a5 a6 M = some r ∧ Inv r.1 r.2 := by
  have h0 := h
  obtain ⟨hq, h1, h2, h3, h4, h5, h6, h7, h8, hB⟩ := h
  obtain ⟨h1', ⟨w, l, N, K, b, hk⟩, c8, c10⟩ := hB
  have hL : iLand M := ⟨w, l, b.1⟩
  obtain ⟨M1, e, f⟩ := step_hands a1 a2 a3 a4 a5 a6 hq.1 b
  exact ⟨_, e, I_ask h0 (sc_ak f)⟩
theorem I_feed {kq : Nat × Nat} {M : Mm} (a1 a2 a3 a4 a5 a6 : Int32) (h : Inv kq M) : ∃ r : (Nat × Nat) × Mm, st_feed kq a1 a2 a3 a4 a5 a6 M = some r ∧ Inv r.1 r.2 := by
  obtain ⟨hq, h1, h2, h3, h4, h5, h6, h7, h8, hB⟩ := h
  have hr : kq.1 = 6 ∨ kq.1 = 14 := hq.1.1
  obtain ⟨M1, e, g1, f⟩ := step_feedB (kq := kq) a1 a2 a3 a4 a5 a6 h1
  exact ⟨(kq, M1), e, (show Inv kq M1 from ⟨hq, g1, f_A2 h2 f (fun id k q p => by unfold rA2 at q; unfold pFeed at p; omega), f_A3 h3 f (fun id k q p => by unfold rA3 at q; unfold pFeed at p; omega), f_A4 h4 f (fun id k q p => by unfold rA4 at q; unfold pFeed at p; omega), f_A5 h5 f (fun id k q p => by unfold rA5 at q; unfold pFeed at p; omega), f_A6 h6 f (fun id k q p => by unfold rA6 at q; unfold pFeed at p; omega), f_A7 h7 f (fun id k q p => by unfold rA7 at q; unfold pFeed at p; omega), f_A8 h8 f (fun id k q p => by unfold rA8 at q; unfold pFeed at p; omega), f_B hB f (fun id k q p => by unfold rB1 rBz rKN rLand at q; unfold pFeed at p; rcases p with p | p | p | p <;> omega)⟩)⟩
theorem I_price {kq : Nat × Nat} {M : Mm} (a1 a2 a3 a4 a5 a6 : Int32) (h : Inv kq M) : ∃ r : (Nat × Nat) × Mm, st_price kq a1 a2 a3 a4 a5 a6 M = some r ∧ Inv r.1 r.2 := by
  obtain ⟨hq, h1, h2, h3, h4, h5, h6, h7, h8, hB⟩ := h
  have hr : kq.1 = 6 ∨ kq.1 = 14 := hq.1.1
  obtain ⟨M1, e, g1, f⟩ := step_price (kq := kq) a1 a2 a3 a4 a5 a6 h3
  exact ⟨(kq, M1), e, (show Inv kq M1 from ⟨hq, f_A1 h1 f (fun id k q p => by unfold rA1 at q; unfold pPrice at p; omega), f_A2 h2 f (fun id k q p => by unfold rA2 at q; unfold pPrice at p; omega), g1, f_A4 h4 f (fun id k q p => by unfold rA4 at q; unfold pPrice at p; omega), f_A5 h5 f (fun id k q p => by unfold rA5 at q; unfold pPrice at p; omega), f_A6 h6 f (fun id k q p => by unfold rA6 at q; unfold pPrice at p; omega), f_A7 h7 f (fun id k q p => by unfold rA7 at q; unfold pPrice at p; omega), f_A8 h8 f (fun id k q p => by unfold rA8 at q; unfold pPrice at p; omega), f_B hB f (fun id k q p => by unfold rB1 rBz rKN rLand at q; unfold pPrice at p; rcases p with p | p <;> omega)⟩)⟩
theorem I_value {kq : Nat × Nat} {M : Mm} (a1 a2 a3 a4 a5 a6 : Int32) (h : Inv kq M) : ∃ r : (Nat × Nat) × Mm, st_value kq a1 a2 a3 a4 a5 a6 M = some r ∧ Inv r.1 r.2 := by
  obtain ⟨hq, h1, h2, h3, h4, h5, h6, h7, h8, hB⟩ := h
  have hr : kq.1 = 6 ∨ kq.1 = 14 := hq.1.1
  obtain ⟨_, ⟨w, l, N, K, b, _⟩, _⟩ := id hB
  obtain ⟨M1, e, g1, f⟩ := step_value (kq := kq) a1 a2 a3 a4 a5 a6 hq.1 ⟨K, b.2.2.2.1.1, b.2.2.2.1.2.1, b.2.2.2.1.2.2.1⟩ h6
  exact ⟨(kq, M1), e, (show Inv kq M1 from ⟨hq, f_A1 h1 f (fun id k q p => by unfold rA1 at q; unfold pVal at p; omega), f_A2 h2 f (fun id k q p => by unfold rA2 at q; unfold pVal at p; omega), f_A3 h3 f (fun id k q p => by unfold rA3 at q; unfold pVal at p; omega), f_A4 h4 f (fun id k q p => by unfold rA4 at q; unfold pVal at p; omega), f_A5 h5 f (fun id k q p => by unfold rA5 at q; unfold pVal at p; omega), g1, f_A7 h7 f (fun id k q p => by unfold rA7 at q; unfold pVal at p; omega), f_A8 h8 f (fun id k q p => by unfold rA8 at q; unfold pVal at p; omega), f_B hB f (fun id k q p => by unfold rB1 rBz rKN rLand at q; unfold pVal at p; rcases p with p | p | p <;> omega)⟩)⟩
theorem I_draw {kq : Nat × Nat} {M : Mm} (a1 a2 a3 a4 a5 a6 : Int32) (h : Inv kq M) : ∃ r : (Nat × Nat) × Mm, st_draw kq a1 a2 a3 a4 a5 a6 M = some r ∧ Inv r.1 r.2 := by
  obtain ⟨hq, h1, h2, h3, h4, h5, h6, h7, h8, hB⟩ := h
  have hr : kq.1 = 6 ∨ kq.1 = 14 := hq.1.1
  obtain ⟨_, ⟨w, l, N, K, b, _⟩, _⟩ := id hB
  obtain ⟨M1, e, g1, f, _⟩ := step_draw a1 a2 a3 a4 a5 a6 hq.1 b h3 h4
  exact ⟨(kq, M1), e, (show Inv kq M1 from ⟨hq, f_A1 h1 f (fun id k q p => by unfold rA1 at q; unfold pDw pSc pDx pDm at p; rcases p with (p | p | p | p | p | p | p | p | p | p | p | p | p | p) | (p | p | p | p) | p | p <;> omega), f_A2 h2 f (fun id k q p => by unfold rA2 at q; unfold pDw pSc pDx pDm at p; rcases p with (p | p | p | p | p | p | p | p | p | p | p | p | p | p) | (p | p | p | p) | p | p <;> omega), f_A3 h3 f (fun id k q p => by unfold rA3 at q; unfold pDw pSc pDx pDm at p; rcases p with (p | p | p | p | p | p | p | p | p | p | p | p | p | p) | (p | p | p | p) | p | p <;> omega), g1, f_A5 h5 f (fun id k q p => by unfold rA5 at q; unfold pDw pSc pDx pDm at p; rcases p with (p | p | p | p | p | p | p | p | p | p | p | p | p | p) | (p | p | p | p) | p | p <;> omega), f_A6 h6 f (fun id k q p => by unfold rA6 at q; unfold pDw pSc pDx pDm at p; rcases p with (p | p | p | p | p | p | p | p | p | p | p | p | p | p) | (p | p | p | p) | p | p <;> omega), f_A7 h7 f (fun id k q p => by unfold rA7 at q; unfold pDw pSc pDx pDm at p; rcases p with (p | p | p | p | p | p | p | p | p | p | p | p | p | p) | (p | p | p | p) | p | p <;> omega), f_A8 h8 f (fun id k q p => by unfold rA8 at q; unfold pDw pSc pDx pDm at p; rcases p with (p | p | p | p | p | p | p | p | p | p | p | p | p | p) | (p | p | p | p) | p | p <;> omega), f_B hB f (fun id k q p => by unfold rB1 rBz rKN rLand at q; unfold pDw pSc pDx pDm at p; rcases p with (p | p | p | p | p | p | p | p | p | p | p | p | p | p) | (p | p | p | p) | p | p <;> omega)⟩)⟩
theorem I_plan {kq : Nat × Nat} {M : Mm} (a1 a2 a3 a4 a5 a6 : Int32) (h : Inv kq M) : ∃ r : (Nat × Nat) × Mm, st_plan kq a1 a2 a3 a4 a5 a6 M = some r ∧ Inv r.1 r.2 := by
  obtain ⟨hq, h1, h2, h3, h4, h5, h6, h7, h8, hB⟩ := h
  have hr : kq.1 = 6 ∨ kq.1 = 14 := hq.1.1
  obtain ⟨_, ⟨w, l, N, K, b, _⟩, _⟩ := id hB
  obtain ⟨M1, e, g1, f⟩ := step_plan a1 a2 a3 a4 a5 a6 hq.1 b h7 h5
  exact ⟨(kq, M1), e, (show Inv kq M1 from ⟨hq, f_A1 h1 f (fun id k q p => by unfold rA1 at q; unfold pPn pSc at p; rcases p with (p | p | p | p | p | p | p | p | p | p | p | p | p | p) | p | p | p | p | p <;> omega), f_A2 h2 f (fun id k q p => by unfold rA2 at q; unfold pPn pSc at p; rcases p with (p | p | p | p | p | p | p | p | p | p | p | p | p | p) | p | p | p | p | p <;> omega), f_A3 h3 f (fun id k q p => by unfold rA3 at q; unfold pPn pSc at p; rcases p with (p | p | p | p | p | p | p | p | p | p | p | p | p | p) | p | p | p | p | p <;> omega), f_A4 h4 f (fun id k q p => by unfold rA4 at q; unfold pPn pSc at p; rcases p with (p | p | p | p | p | p | p | p | p | p | p | p | p | p) | p | p | p | p | p <;> omega), g1, f_A6 h6 f (fun id k q p => by unfold rA6 at q; unfold pPn pSc at p; rcases p with (p | p | p | p | p | p | p | p | p | p | p | p | p | p) | p | p | p | p | p <;> omega), f_A7 h7 f (fun id k q p => by unfold rA7 at q; unfold pPn pSc at p; rcases p with (p | p | p | p | p | p | p | p | p | p | p | p | p | p) | p | p | p | p | p <;> omega), f_A8 h8 f (fun id k q p => by unfold rA8 at q; unfold pPn pSc at p; rcases p with (p | p | p | p | p | p | p | p | p | p | p | p | p | p) | p | p | p | p | p <;> omega), f_B hB f (fun id k q p => by unfold rB1 rBz rKN rLand at q; unfold pPn pSc at p; rcases p with (p | p | p | p | p | p | p | p | p | p | p | p | p | p) | p | p | p | p | p <;> omega)⟩)⟩
theorem I_reads {kq : Nat × Nat} {M : Mm} (a1 a2 a3 a4 a5 a6 : Int32) (h : Inv kq M) : ∃ r : (Nat × Nat) × Mm, st_reads kq a1 a2 a3 a4 a5 a6 M = some r ∧ Inv r.1 r.2 := by
  obtain ⟨hq, h1, h2, h3, h4, h5, h6, h7, h8, hB⟩ := h
  have hr : kq.1 = 6 ∨ kq.1 = 14 := hq.1.1
  obtain ⟨n1, ⟨w, l, N, K, b, hk⟩, c8, c10⟩ := hB
  obtain ⟨M1, e, g1, f⟩ := step_reads a1 a2 a3 a4 a5 a6 hq.1 b
  have g : ∀ id k, ¬ pRd id k → M1.1 id k = M.1 id k := fun id k q => (f id k q).1
  refine ⟨(kq, M1), e, (show Inv kq M1 from ⟨hq, f_A1 h1 f (fun id k q p => by unfold rA1 at q; unfold pRd at p; omega), f_A2 h2 f (fun id k q p => by unfold rA2 at q; unfold pRd at p; omega), f_A3 h3 f (fun id k q p => by unfold rA3 at q; unfold pRd at p; omega), f_A4 h4 f (fun id k q p => by unfold rA4 at q; unfold pRd at p; omega), f_A5 h5 f (fun id k q p => by unfold rA5 at q; unfold pRd at p; omega), f_A6 h6 f (fun id k q p => by unfold rA6 at q; unfold pRd at p; omega), f_A7 h7 f (fun id k q p => by unfold rA7 at q; unfold pRd at p; omega), f_A8 h8 f (fun id k q p => by unfold rA8 at q; unfold pRd at p; omega), iNotes_fr n1 f (fun id k q p => by unfold rNotes at q; unfold pRd at p; omega), ⟨w, l, N, K, g1, iKN_sm b.2.1.1 hk (fun a k q => g a k (by unfold rKN at q; unfold pRd; omega))⟩, ?_, ?_⟩)⟩
  · rw [g kq.1 8 (by unfold pRd; omega), g 194 34 (by unfold pRd; omega)]; exact c8
  · rw [g kq.1 10 (by unfold pRd; omega), g 194 35 (by unfold pRd; omega)]; exact c10
theorem I_bounds {kq : Nat × Nat} {M : Mm} (a1 a2 a3 a4 a5 a6 : Int32) (h : Inv kq M) : ∃ r : (Nat × Nat) × Mm, st_bounds kq a1 a2 a3 a4 a5 a6 M = some r ∧ Inv r.1 r.2 := by
  obtain ⟨hq, h1, h2, h3, h4, h5, h6, h7, h8, hB⟩ := h
  have hr : kq.1 = 6 ∨ kq.1 = 14 := hq.1.1
  obtain ⟨M1, e, g1, f⟩ := step_bounds (kq := kq) a1 a2 a3 a4 a5 a6 (iLand_b hB)
  exact ⟨(kq, M1), e, (show Inv kq M1 from ⟨hq, f_A1 h1 f (fun id k q p => by unfold rA1 at q; unfold pBnd at p; omega), f_A2 h2 f (fun id k q p => by unfold rA2 at q; unfold pBnd at p; omega), f_A3 h3 f (fun id k q p => by unfold rA3 at q; unfold pBnd at p; omega), f_A4 h4 f (fun id k q p => by unfold rA4 at q; unfold pBnd at p; omega), f_A5 h5 f (fun id k q p => by unfold rA5 at q; unfold pBnd at p; omega), f_A6 h6 f (fun id k q p => by unfold rA6 at q; unfold pBnd at p; omega), f_A7 h7 f (fun id k q p => by unfold rA7 at q; unfold pBnd at p; omega), f_A8 h8 f (fun id k q p => by unfold rA8 at q; unfold pBnd at p; omega), f_BL hB g1 f (fun id k q p => by unfold pBnd at p; rcases p with p | p | p <;> omega)⟩)⟩
theorem I_ground {kq : Nat × Nat} {M : Mm} (a1 a2 a3 a4 a5 a6 : Int32) (h : Inv kq M) : ∃ r : (Nat × Nat) × Mm, st_ground kq a1 a2 a3 a4 a5 a6 M = some r ∧ Inv r.1 r.2 := by
  obtain ⟨hq, h1, h2, h3, h4, h5, h6, h7, h8, hB⟩ := h
  have hr : kq.1 = 6 ∨ kq.1 = 14 := hq.1.1
  obtain ⟨M1, e, g1, g2, f⟩ := step_ground (kq := kq) a1 a2 a3 a4 a5 a6 (iLand_b hB) h7
  exact ⟨(kq, M1), e, (show Inv kq M1 from ⟨hq, f_A1 h1 f (fun id k q p => by unfold rA1 at q; unfold pGr at p; omega), f_A2 h2 f (fun id k q p => by unfold rA2 at q; unfold pGr at p; omega), f_A3 h3 f (fun id k q p => by unfold rA3 at q; unfold pGr at p; omega), f_A4 h4 f (fun id k q p => by unfold rA4 at q; unfold pGr at p; omega), f_A5 h5 f (fun id k q p => by unfold rA5 at q; unfold pGr at p; omega), f_A6 h6 f (fun id k q p => by unfold rA6 at q; unfold pGr at p; omega), g2, f_A8 h8 f (fun id k q p => by unfold rA8 at q; unfold pGr at p; omega), f_BL hB g1 f (fun id k q p => by unfold pGr at p; rcases p with p | p | p | p <;> omega)⟩)⟩
theorem I_land {kq : Nat × Nat} {M : Mm} (a1 a2 a3 a4 a5 a6 : Int32) (h : Inv kq M) : ∃ r : (Nat × Nat) × Mm, st_land kq a1 a2 a3 a4 a5 a6 M = some r ∧ Inv r.1 r.2 := by
  have h0 := h
  obtain ⟨hq, h1, h2, h3, h4, h5, h6, h7, h8, hB⟩ := h
  have hr : kq.1 = 6 ∨ kq.1 = 14 := hq.1.1
  obtain ⟨M1, e, g1, g2, f | ⟨f, z1, z2⟩⟩ := step_land (kq := kq) a1 a2 a3 a4 a5 a6 (iLand_b hB) h7
  · exact ⟨_, e, I_ask h0 (p2_ak f)⟩
  · obtain ⟨n1, ⟨w, l, N, K, b, ⟨nl, C, Q, k1, k2, k3, k4⟩⟩, c8, c10⟩ := hB
    obtain ⟨w', l', hl⟩ := g1
    have g : ∀ id k, ¬ pLnd id k → M1.1 id k = M.1 id k := fun id k q => (f id k q).1
    have kk : iKN kq.1 K 0 M1 := iKN_sm (N := 0) (by omega) ⟨nl, C, Q, k1, k2, k3, fun i hi => by omega⟩ (fun a k q => g a k (by unfold rKN at q; unfold pLnd; omega))
    obtain ⟨b1, b2, b3, b4, b5, b6⟩ := b
    refine ⟨(kq, M1), e, (show Inv kq M1 from ⟨hq, f_A1 h1 f (fun id k q p => by unfold rA1 at q; unfold pLnd at p; omega), f_A2 h2 f (fun id k q p => by unfold rA2 at q; unfold pLnd at p; omega), f_A3 h3 f (fun id k q p => by unfold rA3 at q; unfold pLnd at p; omega), f_A4 h4 f (fun id k q p => by unfold rA4 at q; unfold pLnd at p; omega), f_A5 h5 f (fun id k q p => by unfold rA5 at q; unfold pLnd at p; omega), f_A6 h6 f (fun id k q p => by unfold rA6 at q; unfold pLnd at p; omega), g2, f_A8 h8 f (fun id k q p => by unfold rA8 at q; unfold pLnd at p; omega), ⟨0, by omega, z1, z2, fun i hi => by omega⟩, ⟨w', l', 0, K, ⟨hl, ⟨by omega, z1, z2⟩, fun i hi => by omega, ?_, fun i hi => by omega, fun j hj => ?_⟩, kk⟩, ?_, ?_⟩)⟩
    · rw [g kq.1 9 (by unfold pLnd; omega), g 194 33 (by unfold pLnd; omega), g 158 4 (by unfold pLnd; omega)]; exact b4
    · rw [g 224 j (by unfold pLnd; omega), g 159 j (by unfold pLnd; omega)]; exact b6 j hj
    · rw [g kq.1 8 (by unfold pLnd; omega), g 194 34 (by unfold pLnd; omega)]; exact c8
    · rw [g kq.1 10 (by unfold pLnd; omega), g 194 35 (by unfold pLnd; omega)]; exact c10
theorem I_strike {kq : Nat × Nat} {M : Mm} (a1 a2 a3 a4 a5 a6 : Int32) (h : Inv kq M) : ∃ r : (Nat × Nat) × Mm, st_strike kq a1 a2 a3 a4 a5 a6 M = some r ∧ Inv r.1 r.2 := by
  have h0 := h
  obtain ⟨hq, h1, h2, h3, h4, h5, h6, h7, h8, hB⟩ := h
  have hr : kq.1 = 6 ∨ kq.1 = 14 := hq.1.1
  obtain ⟨n1, ⟨w, l, N, K, b, ⟨nl, C, Q, k1, k2, k3, k4⟩⟩, c8, c10⟩ := hB
  obtain ⟨M1, e, g1, f | ⟨n, hn, z0, z1, z2, ⟨j, hj, z3⟩, z4, f⟩⟩ := step_strike2 (kq := kq) a1 a2 a3 a4 a5 a6 n1
  · exact ⟨_, e, I_ask h0 (p2_ak f)⟩
  · obtain ⟨b1, b2, b3, b4, b5, b6⟩ := b
    have en : n = N := nI_inj (by omega) (by omega) (z0.symm.trans b2.2.1)
    subst en
    have g : ∀ id k, ¬ (id = 38 + 2 * n ∧ k = 0 ∨ id = 34 ∧ k = 1 ∨ id = 202 ∧ k = n ∨ id = 194 ∧ (k = 2 ∨ k = 26)) → M1.1 id k = M.1 id k := fun id k q => (f id k q).1
    have h16 := k1.1
    have live : ∀ i, i < n + 1 → M1.1 202 i = -1 → i < n ∧ M.1 202 i = -1 := fun i hi u => by
      by_cases c : i = n
      · subst c
        rw [z3] at u
        exact absurd u (nI_ne1 (by omega))
      · rw [g 202 i (by omega)] at u
        exact ⟨by omega, u⟩
    have r5 : ∀ l, M1.1 (kq.1 + 5) l = M.1 (kq.1 + 5) l := fun l => g _ _ (by omega)
    have kk : iKN kq.1 K (n + 1) M1 := by
      refine ⟨nl, C, Q, xK_sm (fun a k q => g a k (by omega)) k1, mK_sm (fun a k q => g a k (by omega)) (g _ _ (by omega)) k2, fun l hl => ?_, fun i hi u => ?_⟩
      · rw [r5, g 210 l (by omega)]; exact k3 l hl
      · obtain ⟨i1, i2⟩ := live i hi u
        obtain ⟨m, D, l1, l2, l3, l4, l5⟩ := k4 i i1 i2
        have hm := l1.2.1
        exact ⟨m, D, l1, ⟨(g _ _ (by omega)).trans l2.1, fun k j hk hj => (g _ _ (by omega)).trans (l2.2 k j hk hj)⟩, ⟨(g _ _ (by omega)).trans l3.1, fun k j hk hj => (g _ _ (by omega)).trans (l3.2 k j hk hj)⟩, (g _ _ (by omega)).trans l4, (g _ _ (by omega)).trans (l5.trans (ki_ext nl 0 (fun a _ => ⟨rfl, (r5 a).symm⟩)))⟩
    have f' : Fr pStrike M M1 := Fr_mo f (fun id k q => by unfold pStrike; omega)
    refine ⟨(kq, M1), e, (show Inv kq M1 from ⟨hq, f_A1 h1 f' (fun id k q p => by unfold rA1 at q; unfold pStrike at p; omega), f_A2 h2 f' (fun id k q p => by unfold rA2 at q; unfold pStrike at p; omega), f_A3 h3 f' (fun id k q p => by unfold rA3 at q; unfold pStrike at p; omega), f_A4 h4 f' (fun id k q p => by unfold rA4 at q; unfold pStrike at p; omega), f_A5 h5 f' (fun id k q p => by unfold rA5 at q; unfold pStrike at p; omega), f_A6 h6 f' (fun id k q p => by unfold rA6 at q; unfold pStrike at p; omega), f_A7 h7 f' (fun id k q p => by unfold rA7 at q; unfold pStrike at p; omega), f_A8 h8 f' (fun id k q p => by unfold rA8 at q; unfold pStrike at p; omega), g1, ⟨w, l, n + 1, K, ⟨iLandW_s b1 (fun id k q => g id k (by unfold rLand at q; omega)), ⟨by omega, z1, z2⟩, fun i hi => ?_, ?_, fun i hi u => ?_, fun j hj => ?_⟩, kk⟩, ?_, ?_⟩)⟩
    · by_cases c : i = n
      · subst c
        exact ⟨z4, Or.inr ⟨j, hj, z3⟩⟩
      · rw [g (38 + 2 * i) 0 (by omega), g 202 i (by omega)]; exact b3 i (by omega)
    · rw [g kq.1 9 (by omega), g 194 33 (by omega), g 158 4 (by omega)]; exact b4
    · obtain ⟨v1, v2⟩ := iKN_ev kk (by omega) hi u
      obtain ⟨i1, i2⟩ := live i hi u
      obtain ⟨c1, c2, c3, c4, c5, c6⟩ := b5 i i1 i2
      refine ⟨v1, v2, ?_, ?_, ?_, ?_⟩
      · rw [g (38 + 2 * i) 1 (by omega)]; exact c3
      · rw [g (38 + 2 * i) 2 (by omega)]; exact c4
      · rw [g (38 + 2 * i) 1 (by omega), g 203 i (by omega)]; exact c5
      · rw [g (38 + 2 * i) 2 (by omega), g 204 i (by omega)]; exact c6
    · rw [g 224 j (by omega), g 159 j (by omega)]; exact b6 j hj
    · rw [g kq.1 8 (by omega), g 194 34 (by omega)]; exact c8
    · rw [g kq.1 10 (by omega), g 194 35 (by omega)]; exact c10
theorem I_bore {kq : Nat × Nat} {M : Mm} (a1 a2 a3 a4 a5 a6 : Int32) (h : Inv kq M) : ∃ r : (Nat × Nat) × Mm, st_bore kq a1 a2 a3 a4 a5 a6 M = some r ∧ Inv r.1 r.2 := by
  obtain ⟨hq, h1, h2, h3, h4, h5, h6, h7, h8, hB⟩ := h
  have hr : kq.1 = 6 ∨ kq.1 = 14 := hq.1.1
  obtain ⟨n1, ⟨w, l, N, K, b, hk⟩, c8, c10⟩ := hB
  have hN := b.2.1.1
  obtain ⟨N', M1, e, b', hk', t', f1, n', f⟩ := step_bore a1 a2 a3 a4 a5 a6 hq.1 b hk h1 h2 n1 h8.1 h8.2
  have g : ∀ id k, ¬ pBo kq.1 N id k → M1.1 id k = M.1 id k := fun id k q => (f id k q).1
  have hB : N < 60 ∨ N = 60 := by omega
  refine ⟨(kq, M1), e, (show Inv kq M1 from ⟨hq, t', f1, f_A3 h3 f (fun id k q p => by unfold rA3 at q; unfold pBo pXb pMb at p; rcases p with (p | p | p | p | p | p) | p | p | p <;> omega), f_A4 h4 f (fun id k q p => by unfold rA4 at q; unfold pBo pXb pMb at p; rcases p with (p | p | p | p | p | p) | p | p | p <;> omega), f_A5 h5 f (fun id k q p => by unfold rA5 at q; unfold pBo pXb pMb at p; rcases p with (p | p | p | p | p | p) | p | p | p <;> omega), f_A6 h6 f (fun id k q p => by unfold rA6 at q; unfold pBo pXb pMb at p; rcases p with (p | p | p | p | p | p) | p | p | p <;> omega), f_A7 h7 f (fun id k q p => by unfold rA7 at q; unfold pBo pXb pMb at p; rcases p with (p | p | p | p | p | p) | p | p | p <;> omega), f_A8 h8 f (fun id k q p => by unfold rA8 at q; unfold pBo pXb pMb at p; rcases p with (p | p | p | p | p | p) | p | p | p <;> omega), n', ⟨w, l, N', K, b', hk'⟩, ?_, ?_⟩)⟩
  · rw [g kq.1 8 (by unfold pBo pXb pMb; omega), g 194 34 (by unfold pBo pXb pMb; omega)]; exact c8
  · rw [g kq.1 10 (by unfold pBo pXb pMb; omega), g 194 35 (by unfold pBo pXb pMb; omega)]; exact c10
theorem I_key {kq : Nat × Nat} {M : Mm} (a1 a2 a3 a4 a5 a6 : Int32) (h : Inv kq M) : ∃ r : (Nat × Nat) × Mm, st_key kq a1 a2 a3 a4 a5 a6 M = some r ∧ Inv r.1 r.2 := by
  obtain ⟨hq, h1, h2, h3, h4, h5, h6, h7, h8, hB⟩ := h
  obtain ⟨n1, ⟨w, l, N, K, b, hk⟩, c8, c10⟩ := hB
  obtain ⟨kq', K', M1, e, q1, q2, b', hk', t', f1, n', v', d8, d10, f⟩ := step_key a1 a2 a3 a4 a5 a6 hq.1 hq.2 b hk h1 h2 n1 h6 c8 c10 h8.1 h8.2
  exact ⟨(kq', M1), e, (show Inv kq' M1 from ⟨⟨q1, q2⟩, t', f1, f_A3 h3 f (fun id k q p => by unfold rA3 at q; unfold pKy pMk at p; rcases p with p | p | p | p | p | p | p | p | p | p | p <;> omega), f_A4 h4 f (fun id k q p => by unfold rA4 at q; unfold pKy pMk at p; rcases p with p | p | p | p | p | p | p | p | p | p | p <;> omega), f_A5 h5 f (fun id k q p => by unfold rA5 at q; unfold pKy pMk at p; rcases p with p | p | p | p | p | p | p | p | p | p | p <;> omega), v', f_A7 h7 f (fun id k q p => by unfold rA7 at q; unfold pKy pMk at p; rcases p with p | p | p | p | p | p | p | p | p | p | p <;> omega), f_A8 h8 f (fun id k q p => by unfold rA8 at q; unfold pKy pMk at p; rcases p with p | p | p | p | p | p | p | p | p | p | p <;> omega), n', ⟨w, l, N, K', b', hk'⟩, d8, d10⟩)⟩
theorem hInv_ (kq : Nat × Nat) (M : Mm) (op a1 a2 a3 a4 a5 a6 : Int32) (h : Inv kq M) : ∃ r : (Nat × Nat) × Mm, lawSt op a1 a2 a3 a4 a5 a6 kq M = some r ∧ Inv r.1 r.2 := by
  unfold lawSt
  by_cases c0 : op = 0
  · rw [if_pos c0]; exact I_feed a1 a2 a3 a4 a5 a6 h
  rw [if_neg c0]
  by_cases c1 : op = 1
  · rw [if_pos c1]; exact I_key a1 a2 a3 a4 a5 a6 h
  rw [if_neg c1]
  by_cases c2 : op = 2
  · rw [if_pos c2]; exact I_bore a1 a2 a3 a4 a5 a6 h
  rw [if_neg c2]
  by_cases c3 : op = 3
  · rw [if_pos c3]; exact I_fault a1 a2 a3 a4 a5 a6 h
  rw [if_neg c3]
  by_cases c4 : op = 4
  · rw [if_pos c4]; exact I_strike a1 a2 a3 a4 a5 a6 h
  rw [if_neg c4]
  by_cases c5 : op = 5
  · rw [if_pos c5]; exact I_land a1 a2 a3 a4 a5 a6 h
  rw [if_neg c5]
  by_cases c6 : op = 6
  · rw [if_pos c6]; exact I_ground a1 a2 a3 a4 a5 a6 h
  rw [if_neg c6]
  by_cases c7 : op = 7
  · rw [if_pos c7]; exact I_bounds a1 a2 a3 a4 a5 a6 h
  rw [if_neg c7]
  by_cases c8 : op = 8
  · rw [if_pos c8]; exact I_price a1 a2 a3 a4 a5 a6 h
  rw [if_neg c8]
  by_cases c9 : op = 9
  · rw [if_pos c9]; exact I_reads a1 a2 a3 a4 a5 a6 h
  rw [if_neg c9]
  by_cases c10 : op = 10
  · rw [if_pos c10]; exact I_value a1 a2 a3 a4 a5 a6 h
  rw [if_neg c10]
  by_cases c11 : op = 11
  · rw [if_pos c11]; exact I_layer a1 a2 a3 a4 a5 a6 h
  rw [if_neg c11]
  by_cases c12 : op = 12
  · rw [if_pos c12]; exact I_told a1 a2 a3 a4 a5 a6 h
  rw [if_neg c12]
  by_cases c13 : op = 13
  · rw [if_pos c13]; exact I_look a1 a2 a3 a4 a5 a6 h
  rw [if_neg c13]
  by_cases c14 : op = 14
  · rw [if_pos c14]; exact I_like a1 a2 a3 a4 a5 a6 h
  rw [if_neg c14]
  by_cases c15 : op = 15
  · rw [if_pos c15]; exact I_chance a1 a2 a3 a4 a5 a6 h
  rw [if_neg c15]
  by_cases c16 : op = 16
  · rw [if_pos c16]; exact I_leftOut a1 a2 a3 a4 a5 a6 h
  rw [if_neg c16]
  by_cases c17 : op = 17
  · rw [if_pos c17]; exact I_draw a1 a2 a3 a4 a5 a6 h
  rw [if_neg c17]
  by_cases c18 : op = 18
  · rw [if_pos c18]; exact I_drawn a1 a2 a3 a4 a5 a6 h
  rw [if_neg c18]
  by_cases c19 : op = 19
  · rw [if_pos c19]; exact I_plan a1 a2 a3 a4 a5 a6 h
  rw [if_neg c19]
  by_cases c20 : op = 20
  · rw [if_pos c20]; exact I_planned a1 a2 a3 a4 a5 a6 h
  rw [if_neg c20]
  by_cases c21 : op = 21
  · rw [if_pos c21]; exact I_turned a1 a2 a3 a4 a5 a6 h
  rw [if_neg c21]
  by_cases c22 : op = 22
  · rw [if_pos c22]; exact I_maps a1 a2 a3 a4 a5 a6 h
  rw [if_neg c22]
  by_cases c23 : op = 23
  · rw [if_pos c23]; exact I_worth a1 a2 a3 a4 a5 a6 h
  rw [if_neg c23]
  by_cases c24 : op = 24
  · rw [if_pos c24]; exact I_hands a1 a2 a3 a4 a5 a6 h
  rw [if_neg c24]
  by_cases c25 : op = 25
  · rw [if_pos c25]; exact I_count a1 a2 a3 a4 a5 a6 h
  rw [if_neg c25]
  exact ⟨_, rfl, h⟩
