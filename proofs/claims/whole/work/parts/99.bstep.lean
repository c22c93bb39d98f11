theorem step_bore {kq : Nat × Nat} {w h N K : Nat} {M : Mm} (a1 a2 a3 a4 a5 a6 : Int32) (hq : isKq kq) (b : Bk kq w h N K M) (hk : iKN kq.1 K N M) (ht : iTapeB M) (hf : iFault M) (hn : iNotes M) (hx : iWx M) (hm : iWm M) : ∃ N' M1, st_bore kq a1 a2 a3 a4 a5 a6 M = some (kq, M1) ∧ Bk kq w h N' K M1 ∧ iKN kq.1 K N' M1 ∧ iTapeB M1 ∧ iFault M1 ∧ iNotes M1 ∧ Fr (pBo kq.1 N) M M1 := by
  have one : ¬ (1 : Int32) = 0 := by decide
  have hN := b.2.1.1
  have h34 := b.2.1.2.1
  have h26 := b.2.1.2.2
  have hr : kq.1 = 6 ∨ kq.1 = 14 := hq.1
  have e2 := b.1.2.1.2.2.1
  have g0 := iLandW_p2 b.1
  have e3 := g0.2.1.2.2.2.1
  have e4 := g0.2.1.2.2.2.2
  have h64 := wh64 b.1.1
  obtain ⟨t, t1, t2, t3, t4⟩ := ht
  have r0 : ∀ {k}, k ≠ 2 → (sI M 194 2 0).1 194 k = M.1 194 k := fun {k} q => rdN (by omega)
  have r1 : (sI M 194 2 0).1 194 1 = nI t := by rw [r0 (by omega)]; exact t3
  have r26 : (sI M 194 2 0).1 194 26 = nI N := by rw [r0 (by omega)]; exact h26
  have bad : sX11_bore kq a1 a2 a3 M = some (-2, M) → sX12_bore a1 a2 a3 M = some (-2, sI M 194 2 0) → ∃ N' M1, st_bore kq a1 a2 a3 a4 a5 a6 M = some (kq, M1) ∧ Bk kq w h N' K M1 ∧ iKN kq.1 K N' M1 ∧ iTapeB M1 ∧ iFault M1 ∧ iNotes M1 ∧ Fr (pBo kq.1 N) M M1 := fun h1 h2 => by
    obtain ⟨n, n1, n2, n3, n4⟩ := hn
    refine ⟨N, _, st_join h1 h2, Bk_sm b (Sm_fr (Fr_p2 M) (fun id k q p => by unfold p2 at p; unfold rBk rLand at q; omega)), iKN_sm hN hk (fun a k q => rdN (by unfold rKN at q; omega)), ⟨t, t1, by rw [rdN (by omega)]; exact t2, r1, fun k hk => by rw [rdN (by omega), rdN (by omega)]; exact t4 k hk⟩, ⟨by rw [rdN (by omega), rdN (by omega)]; exact hf.1, by rw [rdN (by omega), rdN (by omega)]; exact hf.2⟩, ⟨n, n1, by rw [rdN (by omega)]; exact n2, by rw [rdN (by omega)]; exact n3, fun i hi => ?_⟩, Fr_mo (Fr_p2 M) (fun id k q => by unfold p2 at q; unfold pBo pMb; omega)⟩
    obtain ⟨o1, o2, o3⟩ := n4 i hi
    unfold iNote
    rw [rdN (by omega), rdN (by omega), rdN (by omega), rdN (by omega), rdN (by omega), rdN (by omega), rdN (by omega), rdN (by omega)]
    refine ⟨o1, o2, fun q => ?_⟩
    obtain ⟨p1, p2, ly, s1, s2, s3, s4⟩ := o3 q
    exact ⟨p1, p2, ly, s1, s2, s3, fun k hk => by rw [rdN (by omega), rdN (by omega)]; exact s4 k hk⟩
  by_cases c1 : a1 < 0
  · exact bad (by simp only [sX11_bore, if_pos c1]) (by simp only [sX12_bore, if_pos c1])
  by_cases c2 : nI t < a1
  · exact bad (by simp only [sX11_bore, if_neg c1, t2, if_pos c2]) (by simp only [sX12_bore, if_neg c1, r1, if_pos c2])
  by_cases c3 : a2 < 0
  · exact bad (by simp only [sX11_bore, sX11_isHand, if_neg c1, t2, if_neg c2, if_pos c3, Option.bind_some, if_true]) (by simp only [sX12_bore, if_neg c1, r1, if_neg c2, if_pos c3])
  by_cases c4 : 2 < a2
  · have c4' : (3 : Int32) ≤ a2 := by
      have h1 := Int32.lt_iff_toInt_lt.mp c4
      exact Int32.le_iff_toInt_le.mpr (by have e2 : (2 : Int32).toInt = 2 := by decide
                                          have e3 : (3 : Int32).toInt = 3 := by decide
                                          omega)
    exact bad (by simp only [sX11_bore, sX11_isHand, if_neg c1, t2, if_neg c2, if_neg c3, if_pos c4', Option.bind_some, if_true]) (by simp only [sX12_bore, if_neg c1, r1, if_neg c2, if_neg c3, if_pos c4])
  obtain ⟨d, hd, rfl⟩ := nI_ex (n := 2) c3 (Int32.not_lt.mp c4) (by omega)
  have c4' : ¬ (3 : Int32) ≤ nI d := nle_nI (a := 3) (by omega) (by omega)
  by_cases c5 : a3 < 0
  · exact bad (by simp only [sX11_bore, sX11_isHand, if_neg c1, t2, if_neg c2, if_neg c3, if_neg c4', Option.bind_some, if_neg one, x_cell e2, if_pos c5, if_true]) (by simp only [sX12_bore, if_neg c1, r1, if_neg c2, if_neg c3, if_neg c4, m_cell e3 e4, if_pos c5, Option.bind_some, if_true])
  by_cases c6 : nI (w * h) ≤ a3
  · exact bad (by simp only [sX11_bore, sX11_isHand, if_neg c1, t2, if_neg c2, if_neg c3, if_neg c4', Option.bind_some, if_neg one, x_cell e2, if_neg c5, if_pos c6, if_true]) (by simp only [sX12_bore, if_neg c1, r1, if_neg c2, if_neg c3, if_neg c4, m_cell e3 e4, if_neg c5, if_pos c6, Option.bind_some, if_true])
  by_cases c7 : N = 60
  · exact bad (by simp only [sX11_bore, sX11_isHand, if_neg c1, t2, if_neg c2, if_neg c3, if_neg c4', Option.bind_some, if_neg one, x_cell e2, if_neg c5, if_neg c6, h34, if_neg (show ¬ nI N < 60 from nlt_nI (b := 60) (by omega) (by omega))]) (by simp only [sX12_bore, if_neg c1, r1, if_neg c2, if_neg c3, if_neg c4, m_cell e3 e4, if_neg c5, if_neg c6, Option.bind_some, if_neg one, r26, if_pos (show nI N = 60 by rw [c7]; rfl)])
  have hN6 : N < 60 := by omega
  obtain ⟨n, hn', rfl⟩ := nI_ex (n := t) c1 (Int32.not_lt.mp c2) (by omega)
  obtain ⟨c, _, rfl⟩ := nI_ex (n := w * h) c5 (Int32.le_of_lt (Int32.not_le.mp c6)) (by omega)
  have hc : c < w * h := (nI_ltI (by omega) (by omega)).mp (Int32.not_le.mp c6)
  obtain ⟨nl, C, Q, k1, k2, k3, k4⟩ := hk
  have hk : iKN kq.1 K N M := ⟨nl, C, Q, k1, k2, k3, k4⟩
  have Tx : Tp 2 (fun k => M.1 2 k) n M := ⟨by omega, fun _ _ => rfl⟩
  have TB : Tb (fun k => M.1 2 k) n := fun k q => (t4 k (by omega)).2
  obtain ⟨no, n1, n2, n3, n4⟩ := hn
  have hno : no = N := nI_inj (by omega) (by omega) (n2.symm.trans h34)
  subst hno
  have md : ∀ {A : Mm}, Fr (pXb kq.1 no) M A → A.1 194 1 = nI t ∧ Tp 195 (fun k => M.1 2 k) n A ∧ A.1 194 3 = nI w ∧ A.1 194 4 = nI h ∧ A.1 194 26 = nI no ∧ iWm A := fun {A} f =>
    ⟨(f _ _ (by unfold pXb; omega)).1.trans t3, ⟨by omega, fun k hk => (f _ _ (by unfold pXb; omega)).1.trans (t4 k (by omega)).1.symm⟩, (f _ _ (by unfold pXb; omega)).1.trans b.1.2.1.2.2.2.1, (f _ _ (by unfold pXb; omega)).1.trans b.1.2.1.2.2.2.2, (f _ _ (by unfold pXb; omega)).1.trans h26, fun j hj => (f _ _ (by unfold pXb; omega)).1.trans (hm j hj)⟩
  rcases x_bore (kq := kq) (d := d) (c := c) hr hn' t1 t2 Tx (by omega) hc h64 e2 hN6 h34 hx k1 with ⟨z, p, A, q1, q2, q3, q4, q5, q6, q7⟩ | ⟨L, m, A, q1, ql, qo, q2, q3, q4, q5, q6, q7, x0, x1, x2, x3, xz, x4, x5⟩
  · obtain ⟨y1, y2, y3, y4, y5, y6⟩ := md q3
    rcases m_bore (d := d) (c := c) hn' t1 y1 y2 TB (by omega) hc h64 y3 y4 hN6 y5 y6 with ⟨z', p', B, s1, s2, s3, s4, s5, s6, s7, s8⟩ | ⟨L', m', B, s1, _⟩
    · rw [q1] at s1
      cases s1
      have fT : Fr (pBo kq.1 no) M B := Fr_tr (Fr_mo q3 (fun _ _ q => Or.inl q)) (Fr_mo s3 (fun _ _ q => Or.inr q))
      have hkB := iKN_bo hr hN6 hk fT
      have xB : ∀ a k, a < 194 → B.1 a k = A.1 a k := fun a k q => (s3 a k (by unfold pMb; omega)).1
      refine ⟨no, B, st_join q2 s2, Bk_bo hr hN6 b fT hkB ((xB _ _ (by omega)).trans q4) s5, hkB, ⟨0, by omega, (xB _ _ (by omega)).trans q5, s6, fun k q => by omega⟩, ⟨(xB _ _ (by omega)).trans (q6.trans s7.symm), (xB _ _ (by omega)).trans (q7.trans s8.symm)⟩, ⟨no, n1, (xB _ _ (by omega)).trans q4, s5, fun i hi => iNote_bo hr hi hN6 fT (n4 i hi)⟩, fT⟩
    · rw [q1] at s1; cases s1
  · obtain ⟨y1, y2, y3, y4, y5, y6⟩ := md q3
    rcases m_bore (d := d) (c := c) hn' t1 y1 y2 TB (by omega) hc h64 y3 y4 hN6 y5 y6 with ⟨z', p', B, s1, _⟩ | ⟨L', m', B, s1, sl, s2, s3, s4, s5, s6, s7, m0, m1, m2, m5, mz⟩
    · rw [q1] at s1; cases s1
    · rw [q1] at s1
      cases s1
      have em : m' = m := by omega
      subst em
      have hm8 := qo.2.1
      have fT : Fr (pBo kq.1 no) M B := Fr_tr (Fr_mo q3 (fun _ _ q => Or.inl q)) (Fr_mo s3 (fun _ _ q => Or.inr q))
      obtain ⟨nl', C', Q', _⟩ := iKN_bo hr hN6 hk fT
      have xB : ∀ a k, a < 194 → B.1 a k = A.1 a k := fun a k q => (s3 a k (by unfold pMb; omega)).1
      have g : ∀ a k, ¬ pBo kq.1 no a k → B.1 a k = M.1 a k := fun a k q => (fT a k q).1
      have h210 : ∀ a k, 210 ≤ a ∧ a ≤ 218 → B.1 a k = M.1 a k := fun a k q => g a k (by unfold pBo pXb pMb; omega)
      have h5 : ∀ l, B.1 (kq.1 + 5) l = M.1 (kq.1 + 5) l := fun l => g _ _ (by unfold pBo pXb pMb; omega)
      have hkB : iKN kq.1 K (no + 1) B := iKN_up (n := nl) (C := C) (Q := Q) (D := DL L) (m := m') (xK_sm (fun a k q => g a k (by unfold pBo pXb pMb; omega)) k1) (mK_sm h210 (g _ _ (by unfold pBo pXb pMb; omega)) k2) (fun l hl => by rw [h5, h210 210 l (by omega)]; exact k3 l hl) (fun i hi hb => by
        rw [g 202 i (by unfold pBo pXb pMb; omega)] at hb
        obtain ⟨m, D, l1, l2, l3, l4, l5⟩ := k4 i hi hb
        have hm := l1.2.1
        have gn : ∀ k, B.1 (38 + 2 * i) k = M.1 (38 + 2 * i) k := fun k => g _ _ (by unfold pBo pXb pMb; omega)
        exact ⟨m, D, l1, ⟨(gn 3).trans l2.1, fun k j hk hj => (g _ _ (by unfold pBo pXb pMb; omega)).trans (l2.2 k j hk hj)⟩, ⟨(g _ _ (by unfold pBo pXb pMb; omega)).trans l3.1, fun k j hk hj => (g _ _ (by unfold pBo pXb pMb; omega)).trans (l3.2 k j hk hj)⟩, (gn 4).trans l4, (gn 5).trans (l5.trans (ki_ext nl 0 (fun a _ => ⟨rfl, (h5 a).symm⟩)))⟩) qo ⟨(xB _ _ (by omega)).trans x3, fun k j hk hj => (xB _ _ (by omega)).trans (xz _ (by omega))⟩ ⟨m5, fun k j hk hj => by rw [Nat.add_assoc]; exact mz _ (by omega)⟩ ((xB _ _ (by omega)).trans x4) ((xB _ _ (by omega)).trans (x5.trans (ki_ext nl 0 (fun a _ => ⟨rfl, (h5 a).symm⟩))))
      refine ⟨no + 1, B, st_join q2 s2, Bk_up hr hN6 b fT hkB ((xB _ _ (by omega)).trans q4) s4 (by omega) hc ((xB _ _ (by omega)).trans x0) ((xB _ _ (by omega)).trans x1) ((xB _ _ (by omega)).trans x2) m0 m1 m2, hkB, ⟨0, by omega, (xB _ _ (by omega)).trans q5, s5, fun k q => by omega⟩, ⟨(xB _ _ (by omega)).trans (q6.trans s6.symm), (xB _ _ (by omega)).trans (q7.trans s7.symm)⟩, ⟨no + 1, by omega, (xB _ _ (by omega)).trans q4, s4, fun i hi => ?_⟩, fT⟩
      by_cases z : i < no
      · exact iNote_bo hr z hN6 fT (n4 i z)
      · have e : i = no := by omega
        subst e
        exact ⟨Or.inl m0, ((xB _ _ (by omega)).trans x0).trans m0.symm, fun _ => ⟨((xB _ _ (by omega)).trans x1).trans m1.symm, ((xB _ _ (by omega)).trans x2).trans m2.symm, m', hm8, (xB _ _ (by omega)).trans x3, m5, fun k hk => ((xB _ _ (by omega)).trans (xz k hk)).trans (mz k hk).symm⟩⟩
