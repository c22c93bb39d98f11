theorem take_sc {L : List Nat} {j : Nat} (h : j < L.length) : L.take (j + 1) = L.take j ++ [L.getD j 0] := by
  rw [List.take_add_one, List.getD_eq_getElem?_getD, List.getElem?_eq_getElem h]
  rfl
theorem getD_in {L : List Nat} {j : Nat} (h : j < L.length) : L.getD j 0 ∈ L := by
  rw [List.getD_eq_getElem?_getD, List.getElem?_eq_getElem h]
  exact List.getElem_mem h
theorem filt_up {c : Nat → Bool} {n : Nat} : ∀ d, (List.range (n + d)).filter (fun i => decide (i < n) && c i) = (List.range n).filter c := by
  intro d
  induction d with
  | zero => exact List.filter_congr (fun i hi => by rw [decide_eq_true (show i < n from List.mem_range.mp hi)]; rfl)
  | succ d ih =>
    rw [← Nat.add_assoc, List.range_succ, List.filter_append, ih, List.filter_cons_of_neg (by simp only [decide_eq_false (show ¬ n + d < n by omega)]; simp), List.filter_nil, List.append_nil]
/-- what one bore adds to the weight of kind k at cell c -/
def wad (w : Nat) (M : Mm) (c k i : Nat) : Int32 := nI (alk w M c (M.1 (38 + 2 * i) 2).toNatClampNeg) * M.1 159 (64 * (M.1 (38 + 2 * i) 1).toNatClampNeg + 8 * k + (M.1 (38 + 2 * i) 5).toNatClampNeg)
def wv (w : Nat) (M : Mm) (c : Nat) (L : List Nat) (k : Nat) : Int32 := L.foldl (fun a i => a + wad w M c k i) 1
def rW (id _k : Nat) : Prop := id = 25 ∨ id = 32 ∨ id = 33 ∨ 38 ≤ id ∧ id < 158 ∨ id = 159
theorem alk_fr {w a b : Nat} {M M1 : Mm} (hf : ∀ id k, id = 25 ∨ id = 32 ∨ id = 33 → M1.1 id k = M.1 id k) : alk w M1 a b = alk w M a b := by
  unfold alk
  rw [hf 25 _ (by omega), hf 25 _ (by omega), hf 32 _ (by omega), hf 32 _ (by omega), hf 33 _ (by omega), hf 33 _ (by omega)]
theorem wad_fr {w c k i : Nat} {M M1 : Mm} (hi : i < 60) (hf : ∀ id k, rW id k → M1.1 id k = M.1 id k) : wad w M1 c k i = wad w M c k i := by
  unfold wad
  rw [hf (38 + 2 * i) 2 (by unfold rW; omega), hf (38 + 2 * i) 1 (by unfold rW; omega), hf (38 + 2 * i) 5 (by unfold rW; omega), hf 159 _ (by unfold rW; omega), alk_fr (M := M) (M1 := M1) (fun id k q => hf id k (by unfold rW; omega))]
theorem wv_fr {w c k : Nat} {M M1 : Mm} {L : List Nat} (hL : ∀ i ∈ L, i < 60) (hf : ∀ id k, rW id k → M1.1 id k = M.1 id k) : wv w M1 c L k = wv w M c L k := by
  unfold wv
  have : ∀ (L : List Nat) (a : Int32), (∀ i ∈ L, i < 60) → L.foldl (fun a i => a + wad w M1 c k i) a = L.foldl (fun a i => a + wad w M c k i) a := by
    intro L
    induction L with
    | nil => intro a _; rfl
    | cons x L ih =>
      intro a h
      rw [List.foldl_cons, List.foldl_cons, wad_fr (h x (List.mem_cons_self ..)) hf]
      exact ih _ (fun i hi => h i (List.mem_cons_of_mem _ hi))
  exact this L 1 hL
/-- the bores of the list are as they should be -/
def Lok (w h K : Nat) (M : Mm) (L : List Nat) : Prop := ∀ i ∈ L, i < 60 ∧ (∃ d, d < 3 ∧ M.1 (38 + 2 * i) 1 = nI d) ∧ (∃ c, c < w * h ∧ M.1 (38 + 2 * i) 2 = nI c) ∧ (∃ k, k < K ∧ M.1 (38 + 2 * i) 5 = nI k)
def p161 (id _k : Nat) : Prop := id = 161
def pW (id k : Nat) : Prop := id = 161 ∨ id = 158 ∧ (k = 6 ∨ k = 7)
theorem x_add {w h K c i : Nat} {M : Mm} (g : iLandW w h M) (hK : K ≤ 8) (eK : M.1 158 4 = nI K) (hc : c < w * h) (hi : i < 60) (h1 : ∃ d, d < 3 ∧ M.1 (38 + 2 * i) 1 = nI d) (h2 : ∃ c, c < w * h ∧ M.1 (38 + 2 * i) 2 = nI c) (h3 : ∃ k, k < K ∧ M.1 (38 + 2 * i) 5 = nI k) : ∃ M', sX2_addBore (38 + 2 * i) (nI c) M = some M' ∧ Fr p161 M M' ∧ ∀ k, k < K → M'.1 161 k = M.1 161 k + wad w M c k i := by
  have h64 := wh64 g.1
  obtain ⟨d, hd, ed⟩ := h1
  obtain ⟨c2, hc2, ec2⟩ := h2
  obtain ⟨kk, hkk, ekk⟩ := h3
  have ew : ∀ k, wad w M c k i = nI (alk w M c c2) * M.1 159 (64 * d + 8 * k + kk) := fun k => by
    unfold wad
    rw [ed, ec2, ekk, nI_clamp (by omega), nI_clamp (by omega), nI_clamp (by omega)]
  unfold sX2_addBore
  rw [ec2, x_like g hc hc2, Option.bind_some]
  dsimp only
  generalize ea : nI (alk w M c c2) = a at ew
  obtain ⟨M', e, f, q1, q2⟩ := lp_M (f := fun F j M => sX2_addBore_16 (38 + 2 * i) F a j M) (n := K) (I := fun j M' => Fr p161 M M' ∧ (∀ k, k < j → M'.1 161 k = M.1 161 k + wad w M c k i) ∧ ∀ k, j ≤ k → M'.1 161 k = M.1 161 k) (fun F j M1 hj hI => by
    obtain ⟨f, q1, q2⟩ := hI
    refine ⟨sI M1 161 j (M.1 161 j + wad w M c j i), ?_, Fr_sI f rfl, fun k hk => ?_, fun k hk => ?_⟩
    · show sX2_addBore_16 (38 + 2 * i) (F + 1) a (nI j) M1 = _
      have e1 : M1.1 158 4 = nI K := by rw [(f 158 4 (by unfold p161; omega)).1]; exact eK
      have e2 : M1.1 (38 + 2 * i) 1 = nI d := by rw [(f _ _ (by unfold p161; omega)).1]; exact ed
      have e3 : M1.1 (38 + 2 * i) 5 = nI kk := by rw [(f _ _ (by unfold p161; omega)).1]; exact ekk
      have ep : (nI d * 8 + nI j) * 8 + nI kk = nI (64 * d + 8 * j + kk) := by
        rw [show (8 : Int32) = nI 8 from rfl, nI_mul, nI_add, nI_mul, nI_add]
        congr 1
        omega
      rw [sX2_addBore_16, e1, if_neg (nle_nI hj (by omega)), ckT (inb_nI (by omega) (by decide)), e2, e3]
      unfold sX2_place
      rw [Option.bind_some]
      dsimp only
      rw [ep, ckT (inb_nI (by omega) (by decide)), ckT (inb_nI (by omega) (by decide)), nI_clamp (by omega), nI_clamp (by omega), nI_1, q2 j (Nat.le_refl j), (f 159 _ (by unfold p161; omega)).1, ew j]
    · by_cases u : k = j
      · rw [u, rdS]
      · rw [rdN (by omega)]; exact q1 k (by omega)
    · rw [rdN (by omega)]; exact q2 k (by omega)) K 0 4096 M (by omega) (by omega) ⟨Fr_rf _ _, fun k hk => absurd hk (Nat.not_lt_zero k), fun _ _ => rfl⟩
  refine ⟨M', ?_, f, q1⟩
  refine Eq.trans e ?_
  show sX2_addBore_16 (38 + 2 * i) (4096 - K) a (nI K) M' = _
  rw [show 4096 - K = (4095 - K) + 1 by omega, sX2_addBore_16, (f 158 4 (by unfold p161; omega)).1, eK, if_pos (nI_le (by omega) (by omega))]
def tot (f : Nat → Int32) : Nat → Int32
  | 0 => 0
  | k + 1 => tot f k + f k
def bst (f : Nat → Int32) : Nat → Nat
  | 0 => 0
  | k + 1 => if f k ≤ f (bst f k) then bst f k else k
theorem bst_lt (f : Nat → Int32) : ∀ k, bst f k < k ∨ k = 0 ∧ bst f k = 0 := by
  intro k
  induction k with
  | zero => exact Or.inr ⟨rfl, rfl⟩
  | succ k ih =>
    rw [bst]
    split
    · omega
    · omega
theorem tot_cg {f g : Nat → Int32} : ∀ k, (∀ j, j < k → f j = g j) → tot f k = tot g k := by
  intro k
  induction k with
  | zero => intro _; rfl
  | succ k ih => intro h; rw [tot, tot, ih (fun j hj => h j (by omega)), h k (by omega)]
theorem bst_cg {f g : Nat → Int32} : ∀ k, (∀ j, j < k → f j = g j) → bst f k = bst g k := by
  intro k
  induction k with
  | zero => intro _; rfl
  | succ k ih =>
    intro h
    have e := ih (fun j hj => h j (by omega))
    rw [bst, bst, e, h k (by omega)]
    rcases bst_lt g k with q | ⟨q, q2⟩
    · rw [h (bst g k) (by omega)]
    · rw [h (bst g k) (by omega)]
/-- total and best of the weights that stand there -/
theorem x_w81 {K : Nat} {M : Mm} {f : Nat → Int32} (hK : K ≤ 8) (eK : M.1 158 4 = nI K) (hf : ∀ k, k < K → M.1 161 k = f k) : ∃ M', sX2_weigh_81 4096 0 (sI (sI M 158 6 0) 158 7 0) = some M' ∧ Fr (fun id k => id = 158 ∧ (k = 6 ∨ k = 7)) M M' ∧ M'.1 158 6 = tot f K ∧ M'.1 158 7 = nI (bst f K) := by
  obtain ⟨M', e, fr, q1, q2⟩ := lp_M (f := fun F j M => sX2_weigh_81 F j M) (n := K) (I := fun j M' => Fr (fun id k => id = 158 ∧ (k = 6 ∨ k = 7)) M M' ∧ M'.1 158 6 = tot f j ∧ M'.1 158 7 = nI (bst f j)) (fun F j M1 hj hI => by
    obtain ⟨fr, q1, q2⟩ := hI
    have hb : bst f j < 8 := by
      rcases bst_lt f j with q | ⟨q, q2⟩ <;> omega
    have hbK : bst f j < K := by
      rcases bst_lt f j with q | ⟨q, q2⟩ <;> omega
    have e1 : M1.1 158 4 = nI K := by rw [(fr 158 4 (by omega)).1]; exact eK
    have e2 : ∀ k, k < K → M1.1 161 k = f k := fun k hk => by rw [(fr 161 k (by omega)).1]; exact hf k hk
    refine ⟨sI (sI M1 158 6 (tot f (j + 1))) 158 7 (nI (bst f (j + 1))), ?_, Fr_sI (Fr_sI fr (by omega)) (by omega), by rw [rdN (by omega), rdS], rdS _ _ _ _⟩
    show sX2_weigh_81 (F + 1) (nI j) M1 = _
    rw [sX2_weigh_81, e1, if_neg (nle_nI hj (by omega)), ckT (inb_nI (by omega) (by decide)), ckT (inb_nI (by omega) (by decide)), nI_clamp (by omega), e2 j hj, q1]
    rw [rdN (by omega), q2, nI_clamp (by omega), rdN (by omega), rdN (by omega), e2 j hj, e2 _ hbK, ckT (inb_nI hb (by decide))]
    unfold sX2_weigh_131
    rw [nI_1]
    congr 1
    rw [bst]
    split <;> rfl) K 0 4096 (sI (sI M 158 6 0) 158 7 0) (by omega) (by omega) ⟨Fr_sI (Fr_sI (Fr_rf _ _) (by omega)) (by omega), by rw [rdN (by omega), rdS]; rfl, by rw [rdS]; rfl⟩
  refine ⟨M', ?_, fr, q1, q2⟩
  refine Eq.trans e ?_
  show sX2_weigh_81 (4096 - K) (nI K) M' = _
  rw [show 4096 - K = (4095 - K) + 1 by omega, sX2_weigh_81, (fr 158 4 (by omega)).1, eK, if_pos (nI_le (by omega) (by omega))]
theorem x_weigh {w h K c wo : Nat} {x2 : Int32} {M : Mm} {L : List Nat} (g : iLandW w h M) (hK : K ≤ 8) (eK : M.1 158 4 = nI K) (hc : c < w * h) (hL : Lok w h K M L) (hn : L.length ≤ 60) (e3 : M.1 34 3 = nI L.length) (e36 : ∀ j, j < L.length → M.1 36 j = nI (L.getD j 0)) (hx : ∀ j, j < L.length → (nI j = x2 ↔ L.getD j 0 = wo)) :
    ∃ M', sX2_weigh (nI c) x2 M = some M' ∧ Fr pW M M' ∧ (∀ k, k < K → M'.1 161 k = wv w M c (L.filter (fun i => i ≠ wo)) k) ∧ M'.1 158 6 = tot (wv w M c (L.filter (fun i => i ≠ wo))) K ∧ M'.1 158 7 = nI (bst (wv w M c (L.filter (fun i => i ≠ wo))) K) := by
  -- ones
  obtain ⟨A, a1, a2, a3⟩ := lp_M (f := fun F j M => sX2_weigh_2 F (nI c) x2 j M) (n := K) (I := fun j M' => Fr p161 M M' ∧ ∀ k, k < j → M'.1 161 k = 1) (fun F j M1 hj hI => by
    refine ⟨sI M1 161 j 1, ?_, Fr_sI hI.1 rfl, fun k hk => ?_⟩
    · show sX2_weigh_2 (F + 1) (nI c) x2 (nI j) M1 = _
      rw [sX2_weigh_2, (hI.1 158 4 (by unfold p161; omega)).1, eK, if_neg (nle_nI hj (by omega)), ckT (inb_nI (by omega) (by decide)), nI_clamp (by omega), nI_1]
    · by_cases u : k = j
      · rw [u, rdS]
      · rw [rdN (by omega)]; exact hI.2 k (by omega)) K 0 4096 M (by omega) (by omega) ⟨Fr_rf _ _, fun k hk => absurd hk (Nat.not_lt_zero k)⟩
  -- the bores
  obtain ⟨B, b1, b2', b3⟩ := lp_M (f := fun F j M => sX2_weigh_25 F (nI c) x2 j M) (n := L.length) (I := fun j M' => Fr p161 M M' ∧ ∀ k, k < K → M'.1 161 k = wv w M c ((L.take j).filter (fun i => i ≠ wo)) k) (fun F j M1 hj hI => by
    obtain ⟨f, q⟩ := hI
    have hm := getD_in hj
    obtain ⟨k1, k2, k3, k4⟩ := hL _ hm
    have E3 : M1.1 34 3 = nI L.length := by rw [(f 34 3 (by unfold p161; omega)).1]; exact e3
    have E36 : M1.1 36 j = nI (L.getD j 0) := by rw [(f 36 j (by unfold p161; omega)).1]; exact e36 j hj
    show ∃ M', sX2_weigh_25 (F + 1) (nI c) x2 (nI j) M1 = _ ∧ _
    rw [sX2_weigh_25, E3, if_neg (nle_nI hj (by omega)), take_sc hj, List.filter_append]
    by_cases u : L.getD j 0 = wo
    · rw [if_pos ((hx j hj).mpr u), List.filter_cons_of_neg (by simp only [u]; simp), List.filter_nil, List.append_nil]
      unfold sX2_weigh_63
      rw [nI_1]
      exact ⟨M1, rfl, f, q⟩
    · rw [if_neg (fun p => u ((hx j hj).mp p)), List.filter_cons_of_pos (by simp only [ne_eq, decide_not, Bool.not_eq_true', decide_eq_false_iff_not]; exact u), List.filter_nil, ckT (inb_nI (by omega) (by decide)), nI_clamp (by omega), E36, ckT (inb_nI k1 (by decide)), nI_clamp (by omega)]
      generalize hi : L.getD j 0 = i at k1 k2 k3 k4 E36 u
      have fx : ∀ id k, id ≠ 161 → M1.1 id k = M.1 id k := fun id k z => (f id k z).1
      obtain ⟨M2, m1, m2, m3⟩ := x_add (w := w) (h := h) (K := K) (c := c) (i := i) (M := M1) (iLandW_fr g f (fun id k q p => by unfold rLand at q; unfold p161 at p; omega)) hK (by rw [fx _ _ (by omega)]; exact eK) hc k1 (by rw [fx _ _ (by omega)]; exact k2) (by rw [fx _ _ (by omega)]; exact k3) (by rw [fx _ _ (by omega)]; exact k4)
      rw [m1, Option.bind_some]
      unfold sX2_weigh_63
      rw [nI_1]
      refine ⟨M2, rfl, Fr_tr f m2, fun k hk => ?_⟩
      rw [m3 k hk, q k hk, wad_fr k1 (fun id k z => fx id k (by unfold rW at z; omega))]
      unfold wv
      rw [List.foldl_append]
      rfl) L.length 0 4096 A (by omega) (by omega) ⟨a2, fun k hk => a3 k hk⟩
  rw [List.take_length] at b3
  obtain ⟨D, d1, d2, d3, d4⟩ := x_w81 (K := K) (M := B) hK (by rw [(b2' 158 4 (by unfold p161; omega)).1]; exact eK) b3
  refine ⟨D, ?_, Fr_tr (Fr_mo b2' (fun id k q => Or.inl q)) (Fr_mo d2 (fun id k q => Or.inr q)), fun k hk => by rw [(d2 161 k (by omega)).1]; exact b3 k hk, d3, d4⟩
  unfold sX2_weigh
  refine Eq.trans a1 ?_
  show sX2_weigh_2 (4096 - K) (nI c) x2 (nI K) A = _
  rw [show 4096 - K = (4095 - K) + 1 by omega, sX2_weigh_2, (a2 158 4 (by unfold p161; omega)).1, eK, if_pos (nI_le (by omega) (by omega))]
  refine Eq.trans b1 ?_
  show sX2_weigh_25 (4096 - L.length) (nI c) x2 (nI L.length) B = _
  rw [show 4096 - L.length = (4095 - L.length) + 1 by omega, sX2_weigh_25, (b2' 34 3 (by unfold p161; omega)).1, e3, if_pos (nI_le (by omega) (by omega)), d1]
