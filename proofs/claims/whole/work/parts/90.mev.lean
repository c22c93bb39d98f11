/-- the model's number of a knot -/
def mn (c : Nat) : Nat := if c ≤ 12 then c else if c = 13 then 23 else c - 1
def mB_ (i m : Nat) (D : Nat → Nat → Nat) (M : Mm) : Prop := M.1 205 i = nI m ∧ ∀ k j, k < m → j < 6 → M.1 206 (48 * i + 6 * k + j) = nI (D k j)
def mC_ (p : Nat) (c : Cd) (M : Mm) : Prop := M.1 213 p = nI (mn c.1) ∧ M.1 214 p = nI c.2.1 ∧ M.1 215 p = nI c.2.2 ∧ c.1 < 24 ∧ c.2.1 ≤ 5 ∧ c.2.2 ≤ 999
theorem m_lay {i m k j : Nat} {D : Nat → Nat → Nat} {M : Mm} (h : mB_ i m D M) (hi : i < 60) (hm : m ≤ 8) (hk : k < m) (hj : j < 6) : sX12_layerOf (nI i) (nI k) (nI j) M = some (nI (D k j), M) := by
  unfold sX12_layerOf
  rw [show (48 : Int32) = nI 48 from rfl, show (6 : Int32) = nI 6 from rfl, nI_mul, nI_mul, nI_add, nI_add, ckT (inb_nI (by omega) (by decide)), nI_clamp (by omega), h.2 k j hk hj]
theorem i_le {a b : Nat} (ha : a < 2 ^ 31) (hb : b < 2 ^ 31) : (if nI a ≤ nI b then (0 : Int32) else 1) = b2 (decide (b < a)) := by
  by_cases q : a ≤ b
  · rw [if_pos (nI_le q hb), decide_eq_false (by omega)]; rfl
  · rw [if_neg (nle_nI (by omega) ha), decide_eq_true (by omega)]; rfl
theorem i_lt {a b : Nat} (ha : a < 2 ^ 31) (hb : b < 2 ^ 31) : (if nI a < nI b then (0 : Int32) else 1) = b2 (decide (b ≤ a)) := by
  by_cases q : a < b
  · rw [if_pos (nI_lt q hb), decide_eq_false (by omega)]; rfl
  · rw [if_neg (nlt_nI (by omega) ha), decide_eq_true (by omega)]; rfl
theorem i_eq {a b : Nat} (ha : a < 2 ^ 31) (hb : b < 2 ^ 31) : (if nI a = nI b then (1 : Int32) else 0) = b2 (decide (a = b)) := by
  by_cases q : a = b
  · rw [if_pos (by rw [q]), decide_eq_true q]; rfl
  · rw [if_neg (ne_nI q ha hb), decide_eq_false q]; rfl
theorem m_cmp {x s a : Nat} {M : Mm} (h1 : 1 ≤ s) (h5 : s ≤ 5) (hx : x ≤ 10000) (ha : a ≤ 999) : sX12_holds (nI x) (nI s) (nI a) M = some (b2 (cmpN s x a), M) := by
  unfold sX12_holds
  have hs5 : s = 1 ∨ s = 2 ∨ s = 3 ∨ s = 4 ∨ s = 5 := by omega
  rcases hs5 with rfl | rfl | rfl | rfl | rfl
  · rw [if_pos (show nI 1 = 1 from rfl), i_le (by omega) (by omega)]; rfl
  · rw [if_neg (show ¬ nI 2 = 1 by decide), if_pos (show nI 2 = 2 from rfl), i_lt (by omega) (by omega)]; rfl
  · rw [if_neg (show ¬ nI 3 = 1 by decide), if_neg (show ¬ nI 3 = 2 by decide), if_pos (show nI 3 = 3 from rfl), i_eq (by omega) (by omega)]; rfl
  · rw [if_neg (show ¬ nI 4 = 1 by decide), if_neg (show ¬ nI 4 = 2 by decide), if_neg (show ¬ nI 4 = 3 by decide), if_pos (show nI 4 = 4 from rfl), i_lt (by omega) (by omega)]; rfl
  · rw [if_neg (show ¬ nI 5 = 1 by decide), if_neg (show ¬ nI 5 = 2 by decide), if_neg (show ¬ nI 5 = 3 by decide), if_neg (show ¬ nI 5 = 4 by decide), i_le (by omega) (by omega)]; rfl
theorem m_157 {k13 : Int32 → Int32 → Int32 → Int32 → Int32 → Mm → Option (Int32 × Mm)} {x1 x2 x3 : Int32} {v : Nat → Bool} {j : Nat} {M : Mm} (hj : j < 8) : sX12_layersSo_157 k13 x1 x2 x3 (nI (msk v j)) (nI j) (b2 (v j)) M = k13 x1 x2 x3 (nI (msk v (j + 1))) (nI (j + 1)) M := by
  have h2 := msk256 v (show j ≤ 8 by omega)
  unfold sX12_layersSo_157 sX12_layersSo_174
  rw [show nI j + 1 = nI (j + 1) by rw [nI_1], msk]
  cases hv : v j with
  | false => rw [if_pos b2f, if_neg ff_, Nat.zero_add, show (0 : Int32) = nI 0 from rfl, nI_or (by omega) (by omega), Nat.or_zero]
  | true => rw [if_neg b2t0, if_pos rfl, or_msk _ hj, Nat.add_comm (2 ^ j) (msk v j)]
theorem m_leaf {p i m : Nat} {c : Cd} {D : Nat → Nat → Nat} {M : Mm} (hp : p < 96) (hi : i < 60) (hc : mC_ p c M) (hs : sOk c) (hb : mB_ i m D M) (hl : lyOk m D) (hw : c.1 ≤ 13) : sX12_layersSo (nI i) (nI p) M = some (nI (msk (lfV c D) m), M) := by
  have ib := inb_nI (show p < 192 by omega) (by decide)
  have ii := inb_nI hi (by decide)
  have hm := hl.2.1
  obtain ⟨c1, c2, c3, c4, c5, c6⟩ := hc
  unfold sX12_layersSo
  rw [ckT ib, nI_clamp (by omega), c1]
  obtain ⟨a, M', e, f1, f2⟩ := lp_A (f := fun F a j M => sX12_layersSo_13 F (nI i) (nI p) (nI (mn c.1)) a j M) (n := m) (I := fun j a M' => M' = M ∧ a = nI (msk (lfV c D) j)) (fun F j a M1 hj hI => by
    obtain ⟨rfl, rfl⟩ := hI
    obtain ⟨l1, l2, l3⟩ := hl.2.2.2.1 j hj
    refine ⟨nI (msk (lfV c D) (j + 1)), M1, ?_, rfl, rfl⟩
    have g1 : sX12_layerOf (nI i) (nI j) 1 M1 = some (nI (D j 1), M1) := m_lay (j := 1) hb hi hm hj (by omega)
    have g0 : sX12_layerOf (nI i) (nI j) 0 M1 = some (nI (D j 0), M1) := m_lay (j := 0) hb hi hm hj (by omega)
    show sX12_layersSo_13 (F + 1) (nI i) (nI p) _ _ (nI j) M1 = _
    rw [sX12_layersSo_13, ckT ii, nI_clamp (show i < 2 ^ 31 by omega), hb.1, if_neg (nle_nI hj (by omega)), g1, Option.bind_some]
    dsimp only
    rw [g0, Option.bind_some]
    dsimp only
    have fin : ∀ b : Bool, b = lfV c D j → sX12_layersSo_157 (sX12_layersSo_13 F) (nI i) (nI p) (nI (mn c.1)) (nI (msk (lfV c D) j)) (nI j) (b2 b) M1 = sX12_layersSo_13 F (nI i) (nI p) (nI (mn c.1)) (nI (msk (lfV c D) (j + 1))) (nI (j + 1)) M1 := fun b hbb => by rw [hbb]; exact m_157 (by omega)
    have f142 : ∀ x, x ≤ 10000 → 1 ≤ c.2.1 → cmpN c.2.1 x c.2.2 = lfV c D j → sX12_layersSo_142 (sX12_layersSo_13 F) (nI i) (nI p) (nI (mn c.1)) (nI (msk (lfV c D) j)) (nI j) (nI x) M1 = sX12_layersSo_13 F (nI i) (nI p) (nI (mn c.1)) (nI (msk (lfV c D) (j + 1))) (nI (j + 1)) M1 := fun x hx h1 hv => by
      unfold sX12_layersSo_142
      rw [ckT ib, ckT ib, nI_clamp (show p < 2 ^ 31 by omega), c2, c3, m_cmp h1 c5 hx c6, Option.bind_some]
      exact fin _ hv
    unfold lfV at fin f142
    by_cases q5 : c.1 ≤ 5
    · have hmn : mn c.1 = c.1 := if_pos (by omega)
      have h2 := l3 2 (by omega)
      have g2 : sX12_layerOf (nI i) (nI j) 2 M1 = some (nI (D j 2), M1) := m_lay (j := 2) hb hi hm hj (by omega)
      rw [if_neg (show ¬ 5 < nI (mn c.1) from nlt_nI (a := 5) (by omega) (by omega)), g2, Option.bind_some]
      dsimp only
      rw [show (if nI (D j 2) = nI (mn c.1) then (1 : Int32) else 0) = _ from i_eq (by omega) (by omega)]
      exact fin _ (by rw [hmn, if_pos q5])
    by_cases q10 : c.1 ≤ 10
    · have hmn : mn c.1 = c.1 := if_pos (by omega)
      have h2 := l3 3 (by omega)
      have g2 : sX12_layerOf (nI i) (nI j) 3 M1 = some (nI (D j 3), M1) := m_lay (j := 3) hb hi hm hj (by omega)
      rw [if_pos (show 5 < nI (mn c.1) from nI_lt (a := 5) (by omega) (by omega)), if_neg (show ¬ 10 < nI (mn c.1) from nlt_nI (a := 10) (by omega) (by omega)), g2, Option.bind_some]
      dsimp only
      rw [show nI (mn c.1) - 6 = nI (c.1 - 6) by rw [hmn]; exact nI_sb (b := 6) (by omega), i_eq (by omega) (by omega)]
      exact fin _ (by rw [if_neg q5, if_pos q10])
    by_cases q11 : c.1 = 11
    · have hmn : mn c.1 = 11 := by rw [q11]; rfl
      have h2 := l3 4 (by omega)
      have g2 : sX12_layerOf (nI i) (nI j) 4 M1 = some (nI (D j 4), M1) := m_lay (j := 4) hb hi hm hj (by omega)
      rw [if_pos (show 5 < nI (mn c.1) by rw [hmn]; decide), if_pos (show 10 < nI (mn c.1) by rw [hmn]; decide), if_pos (show nI (mn c.1) = 11 by rw [hmn]; rfl), g2, Option.bind_some]
      dsimp only
      rw [show (if nI (D j 4) = 1 then (1 : Int32) else 0) = _ from i_eq (b := 1) (by omega) (by omega)]
      exact fin _ (by rw [if_neg q5, if_neg q10, if_pos q11])
    by_cases q12 : c.1 = 12
    · have hmn : mn c.1 = 12 := by rw [q12]; rfl
      have h2 := l3 5 (by omega)
      have g2 : sX12_layerOf (nI i) (nI j) 5 M1 = some (nI (D j 5), M1) := m_lay (j := 5) hb hi hm hj (by omega)
      rw [if_pos (show 5 < nI (mn c.1) by rw [hmn]; decide), if_pos (show 10 < nI (mn c.1) by rw [hmn]; decide), if_neg (show ¬ nI (mn c.1) = 11 by rw [hmn]; decide), if_pos (show nI (mn c.1) = 12 by rw [hmn]; rfl), g2, Option.bind_some]
      exact f142 _ (by omega) (hs (Or.inl q12)) (by rw [if_neg q5, if_neg q10, if_neg q11, if_pos q12])
    · have q13 : c.1 = 13 := by omega
      have hmn : mn c.1 = 23 := by rw [q13]; rfl
      rw [if_pos (show 5 < nI (mn c.1) by rw [hmn]; decide), if_pos (show 10 < nI (mn c.1) by rw [hmn]; decide), if_neg (show ¬ nI (mn c.1) = 11 by rw [hmn]; decide), if_neg (show ¬ nI (mn c.1) = 12 by rw [hmn]; decide), nI_sb (by omega)]
      exact f142 _ (by omega) (hs (Or.inr (Or.inl q13))) (by rw [if_neg q5, if_neg q10, if_neg q11, if_neg q12])) m 0 4096 0 M (by omega) (by omega) ⟨rfl, rfl⟩
  obtain ⟨rfl, rfl⟩ := And.intro f1 f2
  refine Eq.trans e ?_
  show sX12_layersSo_13 (4096 - m) (nI i) (nI p) _ _ (nI m) M' = _
  rw [show 4096 - m = (4095 - m) + 1 by omega, sX12_layersSo_13, ckT ii, nI_clamp (show i < 2 ^ 31 by omega), hb.1, if_pos (nI_le (by omega) (by omega))]
