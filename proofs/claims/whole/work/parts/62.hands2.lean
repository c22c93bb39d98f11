def hv_ (A B : Nat → Int32) (c : Nat) : Prop := ¬ A c = -1 ∧ ¬ B c = -1
def hgm (A B : Nat → Int32) (c : Nat) : Int32 := if ¬ A c = -1 ∧ ¬ B c = -1 then 1 else 0
def hgs (A B : Nat → Int32) (c : Nat) : Int32 := if (¬ A c = -1 ∧ ¬ B c = -1) ∧ A c = B c then 1 else 0
def hg1 (A B : Nat → Int32) (k c : Nat) : Int32 := if (¬ A c = -1 ∧ ¬ B c = -1) ∧ A c = nI k then 1 else 0
def hg2 (A B : Nat → Int32) (k c : Nat) : Int32 := if (¬ A c = -1 ∧ ¬ B c = -1) ∧ B c = nI k then 1 else 0
/-- by chance -/
def hby (A B : Nat → Int32) (n : Nat) : Int32 := tot (fun k => tot (hg1 A B k) n * tot (hg2 A B k) n) 8
def kOk (A : Nat → Int32) : Prop := ∀ c, A c = -1 ∨ ∃ k, k < 8 ∧ A c = nI k
def pAg (id _k : Nat) : Prop := 188 ≤ id ∧ id ≤ 192
theorem sc_ag {M M1 : Mm} (f : Fr pAg M M1) : Fr pSc M M1 := Fr_mo f (fun id k q => Or.inr (Or.inr (Or.inr (Or.inr (Or.inr (Or.inl (by unfold pAg at q; omega)))))))
theorem x_cells {A B : Nat → Int32} {M : Mm} (hA : kOk A) (hB : kOk B) (eA : ∀ c, c < 64 → M.1 189 c = A c) (eB : ∀ c, c < 64 → M.1 190 c = B c) : ∃ M', sX0_countCells M = some M' ∧ Fr pAg M M' ∧ M'.1 188 5 = tot (hgm A B) 64 ∧ M'.1 188 6 = tot (hgs A B) 64 ∧ ∀ k, k < 8 → M'.1 191 k = tot (hg1 A B k) 64 ∧ M'.1 192 k = tot (hg2 A B k) 64 := by
  obtain ⟨D, d1, d2, d3, d4, d5⟩ := lp_M (f := fun F i M => sX0_countCells_12 F i M) (n := 8) (I := fun i M' => Fr (fun id k => id = 191 ∨ id = 192 ∨ id = 188 ∧ (k = 5 ∨ k = 6)) M M' ∧ M'.1 188 5 = 0 ∧ M'.1 188 6 = 0 ∧ ∀ k, k < i → M'.1 191 k = 0 ∧ M'.1 192 k = 0) (fun F i M1 hi h => by
    obtain ⟨h1, h2, h3, h4⟩ := h
    refine ⟨sI (sI M1 191 i 0) 192 i 0, ?_, Fr_sI (Fr_sI h1 (by omega)) (by omega), by rw [rdN (by omega), rdN (by omega)]; exact h2, by rw [rdN (by omega), rdN (by omega)]; exact h3, fun k hk => ?_⟩
    · show sX0_countCells_12 (F + 1) (nI i) M1 = _
      rw [sX0_countCells_12, if_neg (lit_nle (v := 8) (n := 8) rfl hi (by decide)), ckT (inb_nI hi (by decide)), ckT (inb_nI hi (by decide)), nI_clamp (by omega), nI_1]
    · by_cases u : k = i
      · rw [u]
        exact ⟨by rw [rdN (by omega), rdS], rdS _ _ _ _⟩
      · rw [rdN (by omega), rdN (by omega), rdN (by omega), rdN (by omega)]
        exact h4 k (by omega)) 8 0 4096 (sI (sI M 188 5 0) 188 6 0) (by omega) (by omega) ⟨Fr_sI (Fr_sI (Fr_rf _ _) (by omega)) (by omega), by rw [rdN (by omega), rdS], rdS _ _ _ _, fun k hk => absurd hk (Nat.not_lt_zero k)⟩
  obtain ⟨E, e1, e2, e3, e4, e5⟩ := lp_M (f := fun F i M => sX0_countCells_40 F i M) (n := 64) (I := fun c M' => Fr (fun id k => id = 191 ∨ id = 192 ∨ id = 188 ∧ (k = 5 ∨ k = 6)) M M' ∧ M'.1 188 5 = tot (hgm A B) c ∧ M'.1 188 6 = tot (hgs A B) c ∧ ∀ k, k < 8 → M'.1 191 k = tot (hg1 A B k) c ∧ M'.1 192 k = tot (hg2 A B k) c) (fun F c M1 hc h => by
    obtain ⟨h1, h2, h3, h4⟩ := h
    have ic := inb_nI hc (by decide)
    have a9 : M1.1 189 c = A c := by rw [(h1 189 c (by omega)).1]; exact eA c hc
    have b9 : M1.1 190 c = B c := by rw [(h1 190 c (by omega)).1]; exact eB c hc
    show ∃ M', sX0_countCells_40 (F + 1) (nI c) M1 = _ ∧ _
    rw [sX0_countCells_40, if_neg (lit_nle (v := 64) (n := 64) rfl hc (by decide)), ckT ic, ckT ic, nI_clamp (show c < 2 ^ 31 by omega), a9, b9]
    unfold sX0_countCells_95 sX0_countCells_119
    have skip : ¬ (¬ A c = -1 ∧ ¬ B c = -1) → ∃ M', sX0_countCells_40 F (nI c + 1) M1 = sX0_countCells_40 F (nI (c + 1)) M' ∧ Fr (fun id k => id = 191 ∨ id = 192 ∨ id = 188 ∧ (k = 5 ∨ k = 6)) M M' ∧ M'.1 188 5 = tot (hgm A B) (c + 1) ∧ M'.1 188 6 = tot (hgs A B) (c + 1) ∧ ∀ k, k < 8 → M'.1 191 k = tot (hg1 A B k) (c + 1) ∧ M'.1 192 k = tot (hg2 A B k) (c + 1) := by
      intro z
      refine ⟨M1, by rw [nI_1], h1, ?_, ?_, fun k hk => ⟨?_, ?_⟩⟩
      · rw [tot, h2]; unfold hgm; rw [if_neg z, add_z]
      · rw [tot, h3]; unfold hgs; rw [if_neg (fun p => z p.1), add_z]
      · rw [tot, (h4 k hk).1]; unfold hg1; rw [if_neg (fun p => z p.1), add_z]
      · rw [tot, (h4 k hk).2]; unfold hg2; rw [if_neg (fun p => z p.1), add_z]
    rcases hA c with q | ⟨ka, hka, qa⟩
    · rw [if_pos q]; exact skip (fun p => p.1 q)
    · rcases hB c with q | ⟨kb, hkb, qb⟩
      · rw [if_neg (by rw [qa]; exact nI_ne1 (by omega)), if_pos q]; exact skip (fun p => p.2 q)
      · have z : ¬ A c = -1 ∧ ¬ B c = -1 := ⟨by rw [qa]; exact nI_ne1 (by omega), by rw [qb]; exact nI_ne1 (by omega)⟩
        rw [if_neg z.1, if_neg z.2]
        obtain ⟨v, hv⟩ : ∃ v, v = (if A c = B c then (1 : Int32) else 0) := ⟨_, rfl⟩
        rw [← hv, qa, qb, ckT (inb_nI hka (by decide)), ckT (inb_nI hka (by decide)), ckT (inb_nI hkb (by decide)), ckT (inb_nI hkb (by decide)), nI_clamp (show ka < 2 ^ 31 by omega), nI_clamp (show kb < 2 ^ 31 by omega), nI_1]
        refine ⟨_, rfl, Fr_sI (Fr_sI (Fr_sI (Fr_sI h1 (by omega)) (by omega)) (by omega)) (by omega), ?_, ?_, fun k hk => ⟨?_, ?_⟩⟩
        · rw [rdN (by omega), rdN (by omega), rdN (by omega), rdS, h2, tot]
          unfold hgm
          rw [if_pos z]
        · rw [rdN (by omega), rdN (by omega), rdS, rdN (by omega), h3, tot, hv]
          unfold hgs
          by_cases y : A c = B c
          · rw [if_pos y, if_pos ⟨z, y⟩]
          · rw [if_neg y, if_neg (fun p => y p.2)]
        · rw [rdN (by omega), tot]
          unfold hg1
          by_cases y : k = ka
          · rw [y, rdS, rdN (by omega), rdN (by omega), (h4 ka hka).1, if_pos ⟨z, qa⟩]; rfl
          · rw [rdN (by omega), rdN (by omega), rdN (by omega), (h4 k hk).1, if_neg (fun p => y (nI_inj (show k < 2 ^ 31 by omega) (show ka < 2 ^ 31 by omega) (p.2.symm.trans qa))), add_z]; rfl
        · rw [tot]
          unfold hg2
          by_cases y : k = kb
          · rw [y, rdS, rdN (by omega), rdN (by omega), rdN (by omega), (h4 kb hkb).2, if_pos ⟨z, qb⟩]; rfl
          · rw [rdN (by omega), rdN (by omega), rdN (by omega), rdN (by omega), (h4 k hk).2, if_neg (fun p => y (nI_inj (show k < 2 ^ 31 by omega) (show kb < 2 ^ 31 by omega) (p.2.symm.trans qb))), add_z]; rfl) 64 0 4096 D (by omega) (by omega) ⟨d2, by rw [d3]; rfl, by rw [d4]; rfl, fun k hk => by rw [(d5 k hk).1, (d5 k hk).2]; exact ⟨rfl, rfl⟩⟩
  refine ⟨E, ?_, Fr_mo e2 (fun id k q => by unfold pAg; omega), e3, e4, e5⟩
  unfold sX0_countCells
  refine Eq.trans d1 ?_
  show sX0_countCells_12 (4087 + 1) (nI 8) D = _
  rw [sX0_countCells_12, if_pos (by decide)]
  refine Eq.trans e1 ?_
  show sX0_countCells_40 (4031 + 1) (nI 64) E = _
  rw [sX0_countCells_40, if_pos (by decide)]
/-- agreement beyond chance: upper, lower -/
def hup (A B : Nat → Int32) (n : Nat) : Int32 := tot (hgs A B) n * tot (hgm A B) n - hby A B n
def hlo (A B : Nat → Int32) (n : Nat) : Int32 := tot (hgm A B) n * tot (hgm A B) n - hby A B n
def hdv (A B : Nat → Int32) (n : Nat) : Nat := Nat.gcd (absN ((tot (hgs A B) n).toNatClampNeg * (tot (hgm A B) n).toNatClampNeg) (hby A B n).toNatClampNeg) (absN ((tot (hgm A B) n).toNatClampNeg * (tot (hgm A B) n).toNatClampNeg) (hby A B n).toNatClampNeg)
theorem h_sm (A B : Nat → Int32) {n : Nat} (hn : n ≤ 64) : ∃ s m y, s ≤ 64 ∧ m ≤ 64 ∧ y ≤ 32768 ∧ tot (hgs A B) n = nI s ∧ tot (hgm A B) n = nI m ∧ hby A B n = nI y := by
  obtain ⟨s, s1, s2⟩ := tot_01 (g := hgs A B) n (fun c _ => by unfold hgs; split; exact Or.inr rfl; exact Or.inl rfl)
  obtain ⟨m, m1, m2⟩ := tot_01 (g := hgm A B) n (fun c _ => by unfold hgm; split; exact Or.inr rfl; exact Or.inl rfl)
  have h9 : ∀ j, j ≤ 8 → ∃ y, y ≤ 4096 * j ∧ tot (fun k => tot (hg1 A B k) n * tot (hg2 A B k) n) j = nI y := by
    intro j
    induction j with
    | zero => intro _; exact ⟨0, by omega, rfl⟩
    | succ j ih =>
      intro hj
      obtain ⟨y, y1, y2⟩ := ih (by omega)
      obtain ⟨p, p1, p2⟩ := tot_01 (g := hg1 A B j) n (fun c _ => by unfold hg1; split; exact Or.inr rfl; exact Or.inl rfl)
      obtain ⟨q, q1, q2⟩ := tot_01 (g := hg2 A B j) n (fun c _ => by unfold hg2; split; exact Or.inr rfl; exact Or.inl rfl)
      have h8 : p * q ≤ 64 * 64 := Nat.mul_le_mul (by omega) (by omega)
      exact ⟨y + p * q, by omega, by rw [tot, y2, p2, q2, nI_mul, nI_add]⟩
  obtain ⟨y, y1, y2⟩ := h9 8 (by omega)
  exact ⟨s, m, y, by omega, by omega, by omega, s2, m2, y2⟩
theorem x_cmp29 {A B : Nat → Int32} {M : Mm} (e5 : M.1 188 5 = tot (hgm A B) 64) (e6 : M.1 188 6 = tot (hgs A B) 64) (ek : ∀ k, k < 8 → M.1 191 k = tot (hg1 A B k) 64 ∧ M.1 192 k = tot (hg2 A B k) 64) : ∃ M', sX0_compare_29 4096 0 (sI M 188 7 0) = some M' ∧ Fr pAg M M' ∧ M'.1 188 5 = tot (hgm A B) 64 ∧ M'.1 188 6 = tot (hgs A B) 64 ∧ M'.1 188 7 = hby A B 64 ∧ M'.1 188 8 = (if hdv A B 64 = 0 then 0 else hup A B 64 / nI (hdv A B 64)) ∧ M'.1 188 9 = (if hdv A B 64 = 0 then 0 else hlo A B 64 / nI (hdv A B 64)) := by
  obtain ⟨D, d1, d2, d3⟩ := lp_M (f := fun F i M => sX0_compare_29 F i M) (n := 8) (I := fun i M' => Fr (fun id k => id = 188 ∧ k = 7) M M' ∧ M'.1 188 7 = tot (fun k => tot (hg1 A B k) 64 * tot (hg2 A B k) 64) i) (fun F i M1 hi h => by
    obtain ⟨h1, h2⟩ := h
    refine ⟨sI M1 188 7 (tot (fun k => tot (hg1 A B k) 64 * tot (hg2 A B k) 64) (i + 1)), ?_, Fr_sI h1 (by omega), rdS _ _ _ _⟩
    show sX0_compare_29 (F + 1) (nI i) M1 = _
    rw [sX0_compare_29, if_neg (lit_nle (v := 8) (n := 8) rfl hi (by decide)), ckT (inb_nI hi (by decide)), ckT (inb_nI hi (by decide)), nI_clamp (by omega), nI_1, h2, (h1 191 i (by omega)).1, (h1 192 i (by omega)).1, (ek i hi).1, (ek i hi).2]; rfl) 8 0 4096 (sI M 188 7 0) (by omega) (by omega) ⟨Fr_sI (Fr_rf _ _) (by omega), by rw [rdS]; rfl⟩
  have d3' : D.1 188 7 = hby A B 64 := d3
  have g5 : D.1 188 5 = tot (hgm A B) 64 := by rw [(d2 188 5 (by omega)).1]; exact e5
  have g6 : D.1 188 6 = tot (hgs A B) 64 := by rw [(d2 188 6 (by omega)).1]; exact e6
  obtain ⟨s, m, y, s1, m1, y1, es, em, ey⟩ := h_sm A B (Nat.le_refl 64)
  have hsm : s * m ≤ 64 * 64 := Nat.mul_le_mul s1 m1
  have hmm : m * m ≤ 64 * 64 := Nat.mul_le_mul m1 m1
  have ed : hdv A B 64 = Nat.gcd (absN (s * m) y) (absN (m * m) y) := by
    unfold hdv
    rw [es, em, ey, nI_clamp (by omega), nI_clamp (by omega), nI_clamp (by omega)]
  have l1 : absN (s * m) y ≤ 40000 := by unfold absN; omega
  have l2 : absN (m * m) y ≤ 40000 := by unfold absN; omega
  have eg : sX0_greatestDivisor (D.1 188 6 * D.1 188 5 - D.1 188 7) (D.1 188 5 * D.1 188 5 - D.1 188 7) D = some (nI (hdv A B 64), D) := by
    unfold sX0_greatestDivisor
    rw [g5, g6, d3', es, em, ey, nI_mul, nI_mul, abs_nI (by omega) (by omega), abs_nI (by omega) (by omega), ed]
    exact x_gcd 17 _ _ 0 4096 (by omega) (by omega) (by omega) (by omega) (by omega)
  have hd9 : hdv A B 64 ≤ 40000 := by
    rw [ed]
    by_cases z : absN (s * m) y = 0
    · rw [z, Nat.gcd_zero_left]; exact l2
    · exact Nat.le_trans (Nat.gcd_le_left _ (by omega)) l1
  have e29 : sX0_compare_29 4096 0 (sI M 188 7 0) = some (sI (sI D 188 8 (if hdv A B 64 = 0 then 0 else hup A B 64 / nI (hdv A B 64))) 188 9 (if hdv A B 64 = 0 then 0 else hlo A B 64 / nI (hdv A B 64))) := by
    refine Eq.trans d1 ?_
    show sX0_compare_29 (4087 + 1) (nI 8) D = _
    rw [sX0_compare_29, if_pos (by decide), eg, Option.bind_some]
    dsimp only
    unfold sX0_compare_120 sX0_compare_148
    by_cases z : hdv A B 64 = 0
    · rw [z, if_pos (by decide), if_pos (by decide), if_pos rfl, if_pos rfl]
    · rw [if_neg (show ¬ nI (hdv A B 64) ≤ 0 from nle_nI (b := 0) (by omega) (by omega)), if_neg (show ¬ nI (hdv A B 64) ≤ 0 from nle_nI (b := 0) (by omega) (by omega)), ckT (nz_nI (by omega) (by omega)), ckT (nz_nI (by omega) (by omega)), if_neg z, if_neg z, rdN (by omega), rdN (by omega), g5, g6, d3']
      rfl
  refine ⟨_, e29, Fr_sI (Fr_sI (Fr_mo d2 (fun id k q => by unfold pAg; omega)) (by unfold pAg; omega)) (by unfold pAg; omega), ?_, ?_, ?_, ?_, rdS _ _ _ _⟩
  · rw [rdN (by omega), rdN (by omega)]; exact g5
  · rw [rdN (by omega), rdN (by omega)]; exact g6
  · rw [rdN (by omega), rdN (by omega)]; exact d3'
  · rw [rdN (by omega), rdS]
theorem m_189 {A B : Nat → Int32} {n : Nat} {x3 : Int32} {M : Mm} (hn : n ≤ 64) (h0 : ¬ x3 < 0) (h4 : x3 ≤ 4) (ek : ∀ k, k < 8 → M.1 236 k = tot (hg1 A B k) n ∧ M.1 237 k = tot (hg2 A B k) n) : sX12_hands_189 4096 x3 (tot (hgm A B) n) (tot (hgs A B) n) 0 0 M = some (if x3 = 0 then tot (hgm A B) n else if x3 = 1 then tot (hgs A B) n else if x3 = 2 then hby A B n else if x3 = 3 then (if hdv A B n = 0 then 0 else hup A B n / nI (hdv A B n)) else (if hdv A B n = 0 then 0 else hlo A B n / nI (hdv A B n)), M) := by
  obtain ⟨a, M', e, f1, f2⟩ := lp_A (f := fun F a j M => sX12_hands_189 F x3 (tot (hgm A B) n) (tot (hgs A B) n) a j M) (n := 8) (I := fun j a M' => M' = M ∧ a = tot (fun k => tot (hg1 A B k) n * tot (hg2 A B k) n) j) (fun F j a M1 hj hI => by
    obtain ⟨rfl, rfl⟩ := hI
    refine ⟨_, M1, ?_, rfl, rfl⟩
    show sX12_hands_189 (F + 1) x3 (tot (hgm A B) n) (tot (hgs A B) n) _ (nI j) M1 = _
    rw [sX12_hands_189, if_neg (lit_nle (v := 8) (n := 8) rfl hj (by decide)), ckT (inb_nI hj (by decide)), ckT (inb_nI hj (by decide)), nI_clamp (by omega), nI_1, (ek j hj).1, (ek j hj).2, tot]) 8 0 4096 0 M (by omega) (by omega) ⟨rfl, rfl⟩
  obtain ⟨rfl, f2⟩ := And.intro f1 f2
  have f2' : a = hby A B n := f2
  refine Eq.trans e ?_
  show sX12_hands_189 (4087 + 1) x3 (tot (hgm A B) n) (tot (hgs A B) n) a (nI 8) M' = _
  rw [sX12_hands_189, if_pos (by decide), f2']
  obtain ⟨s, m, y, s1, m1, y1, es, em, ey⟩ := h_sm A B hn
  have hsm : s * m ≤ 64 * 64 := Nat.mul_le_mul s1 m1
  have hmm : m * m ≤ 64 * 64 := Nat.mul_le_mul m1 m1
  have ed : hdv A B n = Nat.gcd (absN (s * m) y) (absN (m * m) y) := by
    unfold hdv
    rw [es, em, ey, nI_clamp (by omega), nI_clamp (by omega), nI_clamp (by omega)]
  have l1 : absN (s * m) y ≤ 40000 := by unfold absN; omega
  have l2 : absN (m * m) y ≤ 40000 := by unfold absN; omega
  by_cases z : 3 ≤ x3
  · have n0 : ¬ x3 = 0 := fun q => by rw [q] at z; exact absurd z (by decide)
    have n1 : ¬ x3 = 1 := fun q => by rw [q] at z; exact absurd z (by decide)
    have n2 : ¬ x3 = 2 := fun q => by rw [q] at z; exact absurd z (by decide)
    have e7 : hup A B n = nI (s * m) - nI y := by unfold hup; rw [es, em, ey, nI_mul]
    have e8 : hlo A B n = nI (m * m) - nI y := by unfold hlo; rw [em, ey, nI_mul]
    rw [if_pos z, if_neg n0, if_neg n1, if_neg n2, e7, e8, es, em, ey, nI_mul, nI_mul, m_size (by omega) (by omega), Option.bind_some]
    dsimp only
    rw [m_size (by omega) (by omega), Option.bind_some]
    dsimp only
    rw [m_gcd 17 _ _ 4096 (by omega) (by omega) (by omega) (by omega), ← ed]
    by_cases z2 : hdv A B n = 0
    · rw [if_pos z2, if_pos z2, if_pos z2]
      split <;> rfl
    · rw [if_neg z2, if_neg z2, if_neg z2]
  · rw [if_neg z]
    by_cases n0 : x3 = 0
    · rw [if_pos n0, if_pos n0]
    · rw [if_neg n0, if_neg n0]
      by_cases n1 : x3 = 1
      · rw [if_pos n1, if_pos n1]
      · have n2 : x3 = 2 := by
          have h9 := Int32.not_le.mp z
          rw [Int32.lt_iff_toInt_lt] at h9 h0
          have e0 : (0 : Int32).toInt = 0 := rfl
          have e3 : (3 : Int32).toInt = 3 := rfl
          have m0 : x3.toInt ≠ 0 := fun q => n0 (Int32.toInt_inj.mp q)
          have m1 : x3.toInt ≠ 1 := fun q => n1 (Int32.toInt_inj.mp q)
          apply Int32.toInt_inj.mp
          show x3.toInt = 2
          omega
        rw [if_neg n1, if_neg n1, if_pos n2]
theorem step_hands {kq : Nat × Nat} {w h N K : Nat} {M : Mm} (a1 a2 a3 a4 a5 a6 : Int32) (hq : isKq kq) (b : Bk kq w h N K M) : ∃ M1, st_hands kq a1 a2 a3 a4 a5 a6 M = some (kq, M1) ∧ Fr pSc M M1 := by
  have f0 := sc_2 M
  have one : ¬ (1 : Int32) = 0 := by decide
  have hN := b.2.1.1
  have h64 := wh64 b.1.1
  have lt3 : ∀ {x : Int32}, 3 ≤ x → 2 < x := fun {x} q => by
    rw [Int32.le_iff_toInt_le] at q
    rw [Int32.lt_iff_toInt_lt]
    have e1 : (3 : Int32).toInt = 3 := rfl
    have e2 : (2 : Int32).toInt = 2 := rfl
    omega
  have nlt3 : ∀ {x : Int32}, ¬ 3 ≤ x → ¬ 2 < x := fun {x} q p => q (by
    rw [Int32.lt_iff_toInt_lt] at p
    rw [Int32.le_iff_toInt_le]
    have e1 : (3 : Int32).toInt = 3 := rfl
    have e2 : (2 : Int32).toInt = 2 := rfl
    omega)
  by_cases c1 : a1 < 0
  · exact ⟨_, st_join (v := -1000000) (Ma := M) (by simp only [sX11_hands, sX11_isHand, if_pos c1, Option.bind_some, if_true]) (by simp only [sX12_hands, if_pos c1]), f0⟩
  by_cases c2 : 3 ≤ a1
  · exact ⟨_, st_join (v := -1000000) (Ma := M) (by simp only [sX11_hands, sX11_isHand, if_neg c1, if_pos c2, Option.bind_some, if_true]) (by simp only [sX12_hands, if_neg c1, if_pos (lt3 c2)]), f0⟩
  have c2' := nlt3 c2
  by_cases d1 : a2 < 0
  · exact ⟨_, st_join (v := -1000000) (Ma := M) (by simp only [sX11_hands, sX11_isHand, if_neg c1, if_neg c2, if_neg one, if_pos d1, Option.bind_some, if_true]) (by simp only [sX12_hands, if_neg c1, if_neg c2', if_pos d1]), f0⟩
  by_cases d2 : 3 ≤ a2
  · exact ⟨_, st_join (v := -1000000) (Ma := M) (by simp only [sX11_hands, sX11_isHand, if_neg c1, if_neg c2, if_neg one, if_neg d1, if_pos d2, Option.bind_some, if_true]) (by simp only [sX12_hands, if_neg c1, if_neg c2', if_neg d1, if_pos (lt3 d2)]), f0⟩
  have d2' := nlt3 d2
  by_cases e1 : a1 = a2
  · exact ⟨_, st_join (v := -1000000) (Ma := M) (by simp only [sX11_hands, sX11_isHand, if_neg c1, if_neg c2, if_neg one, if_neg d1, if_neg d2, if_pos e1, Option.bind_some]) (by simp only [sX12_hands, if_neg c1, if_neg c2', if_neg d1, if_neg d2', if_pos e1]), f0⟩
  by_cases w1 : a3 < 0
  · exact ⟨_, st_join (v := -1000000) (Ma := M) (by simp only [sX11_hands, sX11_isHand, if_neg c1, if_neg c2, if_neg one, if_neg d1, if_neg d2, if_neg e1, if_pos w1, Option.bind_some]) (by simp only [sX12_hands, if_neg c1, if_neg c2', if_neg d1, if_neg d2', if_neg e1, if_pos w1]), f0⟩
  by_cases w2 : a3 ≤ 4
  case neg => exact ⟨_, st_join (v := -1000000) (Ma := M) (by simp only [sX11_hands, sX11_isHand, if_neg c1, if_neg c2, if_neg one, if_neg d1, if_neg d2, if_neg e1, if_neg w1, if_neg w2, Option.bind_some]) (by simp only [sX12_hands, if_neg c1, if_neg c2', if_neg d1, if_neg d2', if_neg e1, if_neg w1, if_neg w2]), f0⟩
  obtain ⟨p, hp, ep⟩ := nI_ex (n := 3) c1 (Int32.le_of_lt (Int32.not_le.mp c2)) (by decide)
  subst ep
  obtain ⟨r, hr, er⟩ := nI_ex (n := 3) d1 (Int32.le_of_lt (Int32.not_le.mp d2)) (by decide)
  subst er
  obtain ⟨A, g1, f1, x1⟩ := xk_gather hq b (Sm_rf kq M) (Nat.le_refl N)
  obtain ⟨A2, g2, f2, x2, l2⟩ := x_lat (a := p) (r := 189) hq b (Or.inl rfl) (Nat.le_refl N) x1
  obtain ⟨A3, g3, f3, x3, l3⟩ := x_lat (a := r) (r := 190) hq b (Or.inr rfl) (Nat.le_refl N) x2
  have hA : kOk (fun c => lat M p c (Lof M N)) := fun c => lat_rg _ (Lof_k8 b (Nat.le_refl N))
  have hB : kOk (fun c => lat M r c (Lof M N)) := fun c => lat_rg _ (Lof_k8 b (Nat.le_refl N))
  obtain ⟨A4, g4, f4, m5, m6, m7⟩ := x_cells hA hB (fun c hc => by rw [(f3 189 c (by omega)).1]; exact l2 c hc) l3
  obtain ⟨A5, g5, f5, n5, n6, n7, n8, n9⟩ := x_cmp29 m5 m6 m7
  have fA : Fr pSc M A5 := Fr_tr (sc_ga f1) (Fr_tr (sc_ag (Fr_mo f2 (fun id k q => by unfold pAg; omega))) (Fr_tr (sc_ag (Fr_mo f3 (fun id k q => by unfold pAg; omega))) (Fr_tr (sc_ag f4) (sc_ag f5))))
  have fA2 := Fr_tr fA (sc_2 A5)
  have s2 := sc_sm hq fA2
  obtain ⟨B, g6, f6, y6⟩ := mk_know (n := N) hq b s2 (Nat.le_refl N)
  -- the model's tables, empty
  obtain ⟨B2, h1, h2, h3⟩ := lp_M (f := fun F i M => sX12_hands_52 F (nI p) (nI r) a3 i M) (n := 8) (I := fun i M' => Fr (fun id _ => id = 236 ∨ id = 237) B M' ∧ ∀ k, k < i → M'.1 236 k = 0 ∧ M'.1 237 k = 0) (fun F i M1 hi h => by
    refine ⟨sI (sI M1 236 i 0) 237 i 0, ?_, Fr_sI (Fr_sI h.1 (by omega)) (by omega), fun k hk => ?_⟩
    · show sX12_hands_52 (F + 1) (nI p) (nI r) a3 (nI i) M1 = _
      rw [sX12_hands_52, if_neg (lit_nle (v := 8) (n := 8) rfl hi (by decide)), ckT (inb_nI hi (by decide)), ckT (inb_nI hi (by decide)), nI_clamp (by omega), show nI i + 1 = nI (i + 1) by rw [nI_1]]
    · by_cases u : k = i
      · rw [u]
        exact ⟨by rw [rdN (by omega), rdS], rdS _ _ _ _⟩
      · rw [rdN (by omega), rdN (by omega), rdN (by omega), rdN (by omega)]
        exact h.2 k (by omega)) 8 0 4096 B (by omega) (by omega) ⟨Fr_rf _ _, fun k hk => absurd hk (Nat.not_lt_zero k)⟩
  have ft : ∀ {X Y : Mm}, Fr (fun id _ => id = 236 ∨ id = 237) X Y → Fr pSc X Y := fun {X Y} f => Fr_mo f (fun id k q => by unfold pSc; rcases q with rfl | rfl <;> simp)
  have mf : ∀ {X Y : Mm}, Fr (fun id _ => id = 236 ∨ id = 237) X Y → Mk kq N M X (Lof M N) → Mk kq N M Y (Lof M N) := fun {X Y} f x => ⟨Sm_tr x.1 (sc_sm hq (ft f)), fun i hi => by rw [(f 227 i (by omega)).1]; exact x.2 i hi⟩
  obtain ⟨s, B3, i1, i2, i3, i4⟩ := lp_S (σ := Int32 × Int32) (f := fun F a j M => sX12_hands_90 F (nI p) (nI r) a3 a.1 a.2 j M) (n := w * h) (I := fun c a M' => Fr (fun id _ => id = 236 ∨ id = 237) B M' ∧ a = (tot (hgm (fun c => lat M p c (Lof M N)) (fun c => lat M r c (Lof M N))) c, tot (hgs (fun c => lat M p c (Lof M N)) (fun c => lat M r c (Lof M N))) c) ∧ ∀ k, k < 8 → M'.1 236 k = tot (hg1 (fun c => lat M p c (Lof M N)) (fun c => lat M r c (Lof M N)) k) c ∧ M'.1 237 k = tot (hg2 (fun c => lat M p c (Lof M N)) (fun c => lat M r c (Lof M N)) k) c) (fun F c a M1 hc hI => by
    obtain ⟨q1, rfl, q3⟩ := hI
    have z1 := mf q1 y6
    have b1 := Bk_sm b z1.1
    have t1 := m_lat (a := p) hq b (show c < 64 by omega) (Nat.le_refl N) z1
    have t2 := m_lat (a := r) hq b (show c < 64 by omega) (Nat.le_refl N) z1
    have kA := hA c
    have kB := hB c
    show ∃ a' M', sX12_hands_90 (F + 1) (nI p) (nI r) a3 _ _ (nI c) M1 = _ ∧ _
    rw [sX12_hands_90, b1.1.2.1.2.2.2.1, b1.1.2.1.2.2.2.2, nI_mul, if_neg (nle_nI hc (by omega)), t1, Option.bind_some]
    dsimp only
    rw [t2, Option.bind_some]
    dsimp only
    have eA : (fun c => lat M p c (Lof M N)) c = lat M p c (Lof M N) := rfl
    have eB : (fun c => lat M r c (Lof M N)) c = lat M r c (Lof M N) := rfl
    rw [← eA, ← eB]
    generalize (fun c => lat M p c (Lof M N)) = X at kA q3
    generalize (fun c => lat M r c (Lof M N)) = Y at kB q3
    unfold sX12_hands_152 sX12_hands_177
    rw [show nI c + 1 = nI (c + 1) by rw [nI_1]]
    have skip : ¬ (¬ X c = -1 ∧ ¬ Y c = -1) → ∃ a' M', sX12_hands_90 F (nI p) (nI r) a3 (tot (hgm X Y) c) (tot (hgs X Y) c) (nI (c + 1)) M1 = sX12_hands_90 F (nI p) (nI r) a3 a'.1 a'.2 (nI (c + 1)) M' ∧ Fr (fun id _ => id = 236 ∨ id = 237) B M' ∧ a' = (tot (hgm X Y) (c + 1), tot (hgs X Y) (c + 1)) ∧ ∀ k, k < 8 → M'.1 236 k = tot (hg1 X Y k) (c + 1) ∧ M'.1 237 k = tot (hg2 X Y k) (c + 1) := by
      intro z
      have u1 : tot (hgm X Y) (c + 1) = tot (hgm X Y) c := by rw [tot]; unfold hgm; rw [if_neg z, add_z]
      have u2 : tot (hgs X Y) (c + 1) = tot (hgs X Y) c := by rw [tot]; unfold hgs; rw [if_neg (fun p => z p.1), add_z]
      refine ⟨(tot (hgm X Y) c, tot (hgs X Y) c), M1, rfl, q1, by rw [u1, u2], fun k hk => ⟨?_, ?_⟩⟩
      · rw [tot, (q3 k hk).1]; unfold hg1; rw [if_neg (fun p => z p.1), add_z]
      · rw [tot, (q3 k hk).2]; unfold hg2; rw [if_neg (fun p => z p.1), add_z]
    rcases kA with q | ⟨ka, hka, qa⟩
    · rw [if_pos (by rw [q]; decide)]; exact skip (fun p => p.1 q)
    · rcases kB with q | ⟨kb, hkb, qb⟩
      · rw [if_neg (by rw [qa]; exact Int32.not_lt.mpr (nI_nn (by omega))), if_neg (by rw [q]; exact neg1)]; exact skip (fun p => p.2 q)
      · have z : ¬ X c = -1 ∧ ¬ Y c = -1 := ⟨by rw [qa]; exact nI_ne1 (by omega), by rw [qb]; exact nI_ne1 (by omega)⟩
        obtain ⟨v, hv⟩ : ∃ v, v = (if X c = Y c then (1 : Int32) else 0) := ⟨_, rfl⟩
        rw [if_neg (by rw [qa]; exact Int32.not_lt.mpr (nI_nn (by omega))), if_pos (by rw [qb]; exact nI_nn (by omega)), ← hv, qa, qb, ckT (inb_nI hka (by decide)), ckT (inb_nI hka (by decide)), ckT (inb_nI hkb (by decide)), ckT (inb_nI hkb (by decide)), nI_clamp (show ka < 2 ^ 31 by omega), nI_clamp (show kb < 2 ^ 31 by omega)]
        refine ⟨(_, _), _, rfl, Fr_sI (Fr_sI q1 (by omega)) (by omega), ?_, fun k hk => ⟨?_, ?_⟩⟩
        · rw [tot, tot, hv]
          unfold hgm hgs
          rw [if_pos z]
          by_cases y : X c = Y c
          · rw [if_pos y, if_pos ⟨z, y⟩]
          · rw [if_neg y, if_neg (fun p => y p.2)]
        · rw [rdN (by omega), tot]
          unfold hg1
          by_cases y : k = ka
          · rw [y, rdS, (q3 ka hka).1, if_pos ⟨z, qa⟩]; rfl
          · rw [rdN (by omega), (q3 k hk).1, if_neg (fun p => y (nI_inj (show k < 2 ^ 31 by omega) (show ka < 2 ^ 31 by omega) (p.2.symm.trans qa))), add_z]; rfl
        · rw [tot]
          unfold hg2
          by_cases y : k = kb
          · rw [y, rdS, rdN (by omega), (q3 kb hkb).2, if_pos ⟨z, qb⟩]; rfl
          · rw [rdN (by omega), rdN (by omega), (q3 k hk).2, if_neg (fun p => y (nI_inj (show k < 2 ^ 31 by omega) (show kb < 2 ^ 31 by omega) (p.2.symm.trans qb))), add_z]; rfl) (w * h) 0 4096 (0, 0) B2 (by omega) (by omega) ⟨h2, rfl, fun k hk => by rw [(h3 k hk).1, (h3 k hk).2]; exact ⟨rfl, rfl⟩⟩
  -- beyond the land there is nothing
  have noA : ∀ (a c : Nat), w * h ≤ c → lat M a c (Lof M N) = -1 := fun a c hc => lat_no _ (fun i hi q => by
    have := (Lof_cel b (Nat.le_refl N) hi).2.1
    omega)
  obtain ⟨d, hd⟩ : ∃ d, 64 = w * h + d := ⟨64 - w * h, by omega⟩
  have em : tot (hgm (fun c => lat M p c (Lof M N)) (fun c => lat M r c (Lof M N))) 64 = tot (hgm (fun c => lat M p c (Lof M N)) (fun c => lat M r c (Lof M N))) (w * h) := by
    rw [hd]; exact tot_z (fun c hc => by unfold hgm; rw [if_neg (fun q => q.1 (noA p c hc))]) d
  have es : tot (hgs (fun c => lat M p c (Lof M N)) (fun c => lat M r c (Lof M N))) 64 = tot (hgs (fun c => lat M p c (Lof M N)) (fun c => lat M r c (Lof M N))) (w * h) := by
    rw [hd]; exact tot_z (fun c hc => by unfold hgs; rw [if_neg (fun q => q.1.1 (noA p c hc))]) d
  have e1' : ∀ k, tot (hg1 (fun c => lat M p c (Lof M N)) (fun c => lat M r c (Lof M N)) k) 64 = tot (hg1 (fun c => lat M p c (Lof M N)) (fun c => lat M r c (Lof M N)) k) (w * h) := fun k => by
    rw [hd]; exact tot_z (fun c hc => by unfold hg1; rw [if_neg (fun q => q.1.1 (noA p c hc))]) d
  have e2' : ∀ k, tot (hg2 (fun c => lat M p c (Lof M N)) (fun c => lat M r c (Lof M N)) k) 64 = tot (hg2 (fun c => lat M p c (Lof M N)) (fun c => lat M r c (Lof M N)) k) (w * h) := fun k => by
    rw [hd]; exact tot_z (fun c hc => by unfold hg2; rw [if_neg (fun q => q.1.1 (noA p c hc))]) d
  have z3 := mf i2 y6
  have b3 := Bk_sm b z3.1
  have mend := m_189 (A := fun c => lat M p c (Lof M N)) (B := fun c => lat M r c (Lof M N)) (n := w * h) (M := B3) h64 w1 w2 i4
  have em90 : sX12_hands (nI p) (nI r) a3 A5 = some (if a3 = 0 then tot (hgm (fun c => lat M p c (Lof M N)) (fun c => lat M r c (Lof M N))) (w * h) else if a3 = 1 then tot (hgs (fun c => lat M p c (Lof M N)) (fun c => lat M r c (Lof M N))) (w * h) else if a3 = 2 then hby (fun c => lat M p c (Lof M N)) (fun c => lat M r c (Lof M N)) (w * h) else if a3 = 3 then (if hdv (fun c => lat M p c (Lof M N)) (fun c => lat M r c (Lof M N)) (w * h) = 0 then 0 else hup (fun c => lat M p c (Lof M N)) (fun c => lat M r c (Lof M N)) (w * h) / nI (hdv (fun c => lat M p c (Lof M N)) (fun c => lat M r c (Lof M N)) (w * h))) else (if hdv (fun c => lat M p c (Lof M N)) (fun c => lat M r c (Lof M N)) (w * h) = 0 then 0 else hlo (fun c => lat M p c (Lof M N)) (fun c => lat M r c (Lof M N)) (w * h) / nI (hdv (fun c => lat M p c (Lof M N)) (fun c => lat M r c (Lof M N)) (w * h))), B3) := by
    have b2 := Bk_sm b s2
    simp only [sX12_hands, if_neg c1, if_neg c2', if_neg d1, if_neg d2', if_neg e1, if_neg w1, if_pos w2, b2.2.1.2.2, g6, Option.bind_some]
    refine Eq.trans h1 ?_
    show sX12_hands_52 (4087 + 1) (nI p) (nI r) a3 (nI 8) B2 = _
    rw [sX12_hands_52, if_pos (by decide)]
    refine Eq.trans i1 ?_
    show sX12_hands_90 (4096 - w * h) (nI p) (nI r) a3 s.1 s.2 (nI (w * h)) B3 = _
    rw [show 4096 - w * h = (4095 - w * h) + 1 by omega, sX12_hands_90, b3.1.2.1.2.2.2.1, b3.1.2.1.2.2.2.2, nI_mul, if_pos (nI_le (by omega) (by omega)), i3]
    exact mend
  have eby : hby (fun c => lat M p c (Lof M N)) (fun c => lat M r c (Lof M N)) 64 = hby (fun c => lat M p c (Lof M N)) (fun c => lat M r c (Lof M N)) (w * h) := by
    unfold hby
    exact tot_cg 8 (fun k _ => by rw [e1' k, e2' k])
  have eup : hup (fun c => lat M p c (Lof M N)) (fun c => lat M r c (Lof M N)) 64 = hup (fun c => lat M p c (Lof M N)) (fun c => lat M r c (Lof M N)) (w * h) := by
    unfold hup; rw [em, es, eby]
  have elo : hlo (fun c => lat M p c (Lof M N)) (fun c => lat M r c (Lof M N)) 64 = hlo (fun c => lat M p c (Lof M N)) (fun c => lat M r c (Lof M N)) (w * h) := by
    unfold hlo; rw [em, eby]
  have edv : hdv (fun c => lat M p c (Lof M N)) (fun c => lat M r c (Lof M N)) 64 = hdv (fun c => lat M p c (Lof M N)) (fun c => lat M r c (Lof M N)) (w * h) := by
    unfold hdv; rw [em, es, eby]
  refine ⟨B3, st_join (Ma := A5) ?_ em90, Fr_tr fA2 (Fr_tr (sc_kn f6) (ft i2))⟩
  have ecmp : sX0_compare (nI p) (nI r) A = some A5 := by
    unfold sX0_compare
    rw [g2, Option.bind_some, g3, Option.bind_some, g4, Option.bind_some, g5]
  simp only [sX11_hands, sX11_isHand, if_neg c1, if_neg c2, if_neg one, if_neg d1, if_neg d2, if_neg e1, if_neg w1, if_pos w2, Option.bind_some, b.2.1.2.1, g1, ecmp, n5, n6, n7, n8, n9, em, es, eby, eup, elo, edv]
  by_cases t0 : a3 = 0
  · rw [if_pos t0, if_pos t0]
  · rw [if_neg t0, if_neg t0]
    by_cases t1 : a3 = 1
    · rw [if_pos t1, if_pos t1]
    · rw [if_neg t1, if_neg t1]
      by_cases t2 : a3 = 2
      · rw [if_pos t2, if_pos t2]
      · rw [if_neg t2, if_neg t2]
        by_cases t3 : a3 = 3
        · rw [if_pos t3, if_pos t3]
        · rw [if_neg t3, if_neg t3]
