theorem m_320 {kq : Nat × Nat} {w h N K n S bd be i l : Nat} {cl : Nat → Nat} {M0 M : Mm} {x6 : Int32} {k299 : Int32 → Int32 → Int32 → Mm → Option (Int32 × Mm)} (d : Dr kq w h N K n S bd be cl M0) (s : Sm kq M0 M) (hi : i + 1 < S) (hl : l < K) (e1 : ∀ i, i < S → M.1 231 i = nI (cl i) ∧ ∀ k, k < K → M.1 230 (8 * i + k) = nI (DP w K n cl M0 i k)) (e2 : ∀ i' k, i' < S → k < K → M.1 229 (8 * i' + k) = nI (dC (DP w K n cl M0) (dch M0 cl bd be) K S i' k)) :
    ∀ (z k F : Nat), k + z = amn (dB (DP w K n cl M0) (dch M0 cl bd be) K S i l) K → z < F → sX12_draw_320 k299 F (nI S) x6 (nI (i + 1)) (nI l) (nI k) M = k299 (nI S) x6 (nI (i + 2)) (sI M 232 (i + 1) (nI (amn (dB (DP w K n cl M0) (dch M0 cl bd be) K S i l) K))) := by
  have hK := d.1.2.2.2.1.1
  have hS := d.2.2.2.1
  have h1 := d.2.2.1
  have hle := DP_le (w := w) (K := K) (n := n) (cl := cl) (M0 := M0)
  have hch := dch_le (M0 := M0) (cl := cl) d.2.2.2.2.2.1
  have hb := amn_lt (dB (DP w K n cl M0) (dch M0 cl bd be) K S i l) K
  intro z
  induction z with
  | zero =>
    intro k F hk hF
    obtain ⟨F, rfl⟩ : ∃ G, F = G + 1 := ⟨F - 1, by omega⟩
    have hk' : k = amn (dB (DP w K n cl M0) (dch M0 cl bd be) K S i l) K := by omega
    have hkK : k < K := by omega
    have ea : 8 * nI (i + 1) - 8 + nI l = nI (8 * i + l) := by
      rw [show (8 : Int32) = nI 8 from rfl, nI_mul, nI_sb (by omega), nI_add, show 8 * (i + 1) - 8 = 8 * i by omega]
    have eb : 8 * nI (i + 1) + nI k = nI (8 * (i + 1) + k) := by rw [show (8 : Int32) = nI 8 from rfl, nI_mul, nI_add]
    have es : nI (DP w K n cl M0 i l) + nI (if l = k then 0 else dch M0 cl bd be i) + nI (dC (DP w K n cl M0) (dch M0 cl bd be) K S (i + 1) k) = nI (DP w K n cl M0 i l + dB (DP w K n cl M0) (dch M0 cl bd be) K S i l k) := by
      rw [nI_add, nI_add]
      unfold dB
      congr 1
      omega
    rw [sX12_draw_320, ea, ckT (inb_nI (by omega) (by decide)), nI_dn, m_chg d s hi (by omega) (by omega) (e1 i (by omega)).1 (e1 (i + 1) hi).1, Option.bind_some]
    dsimp only
    rw [eb, ckT (inb_nI (by omega) (by decide)), ckT (inb_nI (by omega) (by decide)), nI_clamp (by omega), nI_clamp (by omega), (e1 i (by omega)).2 l hl, e2 (i + 1) k hi hkK, e2 i l (by omega) hl, es, dC_st hi, ← hk', if_pos rfl, ckT (inb_nI (by omega) (by decide)), nI_clamp (by omega), show nI (i + 1) + 1 = nI (i + 2) by rw [nI_1]]
  | succ z ih =>
    intro k F hk hF
    obtain ⟨F, rfl⟩ : ∃ G, F = G + 1 := ⟨F - 1, by omega⟩
    have hkK : k < K := by omega
    have ea : 8 * nI (i + 1) - 8 + nI l = nI (8 * i + l) := by
      rw [show (8 : Int32) = nI 8 from rfl, nI_mul, nI_sb (by omega), nI_add, show 8 * (i + 1) - 8 = 8 * i by omega]
    have eb : 8 * nI (i + 1) + nI k = nI (8 * (i + 1) + k) := by rw [show (8 : Int32) = nI 8 from rfl, nI_mul, nI_add]
    have es : nI (DP w K n cl M0 i l) + nI (if l = k then 0 else dch M0 cl bd be i) + nI (dC (DP w K n cl M0) (dch M0 cl bd be) K S (i + 1) k) = nI (DP w K n cl M0 i l + dB (DP w K n cl M0) (dch M0 cl bd be) K S i l k) := by
      rw [nI_add, nI_add]
      unfold dB
      congr 1
      omega
    have hf := amn_fst (dB (DP w K n cl M0) (dch M0 cl bd be) K S i l) K k (by omega)
    have hP := hle i l hl
    have l1 := dB_le (i := i) (k := l) hle hch hS.2 hkK
    have l2 := dB_le (i := i) (k := l) hle hch hS.2 (show amn (dB (DP w K n cl M0) (dch M0 cl bd be) K S i l) K < K by omega)
    rw [sX12_draw_320, ea, ckT (inb_nI (by omega) (by decide)), nI_dn, m_chg d s hi (by omega) (by omega) (e1 i (by omega)).1 (e1 (i + 1) hi).1, Option.bind_some]
    dsimp only
    rw [eb, ckT (inb_nI (by omega) (by decide)), ckT (inb_nI (by omega) (by decide)), nI_clamp (by omega), nI_clamp (by omega), (e1 i (by omega)).2 l hl, e2 (i + 1) k hi hkK, e2 i l (by omega) hl, es, dC_st hi, if_neg (ne_nI (by omega) (by omega) (by omega)), show nI k + 1 = nI (k + 1) by rw [nI_1]]
    exact ih (k + 1) F (by omega) (by omega)
theorem m_232 {kq : Nat × Nat} {w h N K n S bd be : Nat} {cl : Nat → Nat} {M0 M : Mm} (hq : isKq kq) (d : Dr kq w h N K n S bd be cl M0) (x : Mk kq N M0 M (Lof M0 n)) (e1 : ∀ i, i < S → M.1 231 i = nI (cl i) ∧ ∀ k, k < K → M.1 230 (8 * i + k) = nI (DP w K n cl M0 i k)) (e2 : ∀ i' k, i' < S → k < K → M.1 229 (8 * i' + k) = nI (dC (DP w K n cl M0) (dch M0 cl bd be) K S i' k)) :
    ∃ M', sX12_draw_232 4096 (nI S) 0 1 M = some (nI (dC (DP w K n cl M0) (dch M0 cl bd be) K S 0 (dln (DP w K n cl M0) (dch M0 cl bd be) K S 0)), M') ∧ Fr pDm M M' ∧ M'.1 194 70 = nI S ∧ ∀ i, i < S → M'.1 232 i = nI (dln (DP w K n cl M0) (dch M0 cl bd be) K S i) := by
  have hK := d.1.2.2.2.1.1
  have hS := d.2.2.2.1
  have h1 := d.2.2.1
  have eK : M.1 194 33 = nI K := (Bk_sm d.1 x.1).2.2.2.1.2.2.1
  have hle := DP_le (w := w) (K := K) (n := n) (cl := cl) (M0 := M0)
  have z0 : inb 0 8 = true := by decide
  have c0 : ∀ k, k < K → M.1 229 k = nI (dC (DP w K n cl M0) (dch M0 cl bd be) K S 0 k) := fun k hk => by
    have := e2 0 k (by omega) hk
    rw [show 8 * 0 + k = k by omega] at this
    exact this
  obtain ⟨a, M', e, f1, f2⟩ := lp_A (f := fun F a j M => sX12_draw_232 F (nI S) a j M) (n := K) (I := fun j a M' => M' = M ∧ a = nI (amn (dC (DP w K n cl M0) (dch M0 cl bd be) K S 0) j)) (fun F j a M1 hj hI => by
    obtain ⟨rfl, rfl⟩ := hI
    have hb := amn_lt (dC (DP w K n cl M0) (dch M0 cl bd be) K S 0) j
    refine ⟨_, M1, ?_, rfl, rfl⟩
    show sX12_draw_232 (F + 1) (nI S) _ (nI j) M1 = _
    rw [sX12_draw_232, eK, if_neg (nle_nI hj (by omega)), ckT (inb_nI (by omega) (by decide)), ckT (inb_nI (by omega) (by decide)), nI_clamp (by omega), nI_clamp (by omega), c0 j hj, c0 _ (by omega)]
    unfold sX12_draw_265
    rw [nI_1, amn]
    congr 1
    have l1 := dC_le (ch := dch M0 cl bd be) (i := 0) hle hS.2 hj
    have l2 := dC_le (ch := dch M0 cl bd be) (i := 0) hle hS.2 (show amn (dC (DP w K n cl M0) (dch M0 cl bd be) K S 0) j < K by omega)
    by_cases z : dC (DP w K n cl M0) (dch M0 cl bd be) K S 0 (amn (dC (DP w K n cl M0) (dch M0 cl bd be) K S 0) j) ≤ dC (DP w K n cl M0) (dch M0 cl bd be) K S 0 j
    · rw [if_pos (nI_le z (by omega)), if_pos z]
    · rw [if_neg (nle_nI (by omega) (by omega)), if_neg z]) (K - 1) 1 4096 (nI (amn (dC (DP w K n cl M0) (dch M0 cl bd be) K S 0) 1)) M (by omega) (by omega) ⟨rfl, rfl⟩
  have e0 : amn (dC (DP w K n cl M0) (dch M0 cl bd be) K S 0) 1 = 0 := by
    have := amn_lt (dC (DP w K n cl M0) (dch M0 cl bd be) K S 0) 1
    omega
  rw [e0] at e
  obtain ⟨rfl, rfl⟩ := And.intro f1 f2
  have hb := amn_lt (dC (DP w K n cl M0) (dch M0 cl bd be) K S 0) K
  have hd0 : dln (DP w K n cl M0) (dch M0 cl bd be) K S 0 = amn (dC (DP w K n cl M0) (dch M0 cl bd be) K S 0) K := rfl
  have fs : Fr pDm M' (sI (sI M' 194 70 (nI S)) 232 0 (nI (amn (dC (DP w K n cl M0) (dch M0 cl bd be) K S 0) K))) := Fr_sI (Fr_sI (Fr_rf _ _) (by unfold pDm; omega)) (by unfold pDm; omega)
  obtain ⟨D, d1, d2, d3, d4⟩ := lp_M (f := fun F j M => sX12_draw_299 F (nI S) (nI (dC (DP w K n cl M0) (dch M0 cl bd be) K S 0 (amn (dC (DP w K n cl M0) (dch M0 cl bd be) K S 0) K))) j M) (n := S) (I := fun j D => 1 ≤ j ∧ Fr (fun id _ => id = 232) (sI (sI M' 194 70 (nI S)) 232 0 (nI (amn (dC (DP w K n cl M0) (dch M0 cl bd be) K S 0) K))) D ∧ ∀ i, i < j → D.1 232 i = nI (dln (DP w K n cl M0) (dch M0 cl bd be) K S i)) (fun F j M1 hj h => by
    obtain ⟨h0, h2, h3⟩ := h
    obtain ⟨i, rfl⟩ : ∃ i, j = i + 1 := ⟨j - 1, by omega⟩
    have hl := dln_lt (P := DP w K n cl M0) (ch := dch M0 cl bd be) (S := S) h1 i
    have x1 := Mk_dm hq x (Fr_tr fs (Fr_mo h2 (fun id k q => by unfold pDm; omega)))
    have hb2 := amn_lt (dB (DP w K n cl M0) (dch M0 cl bd be) K S i (dln (DP w K n cl M0) (dch M0 cl bd be) K S i)) K
    refine ⟨sI M1 232 (i + 1) (nI (dln (DP w K n cl M0) (dch M0 cl bd be) K S (i + 1))), ?_, by omega, Fr_sI h2 rfl, fun i' hi' => ?_⟩
    · show sX12_draw_299 (F + 1) (nI S) _ (nI (i + 1)) M1 = _
      rw [sX12_draw_299, if_neg (nle_nI hj (by omega)), nI_dn, ckT (inb_nI (by omega) (by decide)), nI_clamp (by omega), h3 i (by omega)]
      refine Eq.trans (m_320 (x6 := nI (dC (DP w K n cl M0) (dch M0 cl bd be) K S 0 (amn (dC (DP w K n cl M0) (dch M0 cl bd be) K S 0) K))) (k299 := sX12_draw_299 F) (l := dln (DP w K n cl M0) (dch M0 cl bd be) K S i) d x1.1 hj hl (fun i' hi' => ?_) (fun i' k hi' hk => ?_) (amn (dB (DP w K n cl M0) (dch M0 cl bd be) K S i (dln (DP w K n cl M0) (dch M0 cl bd be) K S i)) K) 0 4096 (by omega) (by omega)) ?_
      · rw [(h2 231 i' (by omega)).1, rdN (by omega), rdN (by omega)]
        exact ⟨(e1 i' hi').1, fun k hk => by rw [(h2 230 _ (by omega)).1, rdN (by omega), rdN (by omega)]; exact (e1 i' hi').2 k hk⟩
      · rw [(h2 229 _ (by omega)).1, rdN (by omega), rdN (by omega)]; exact e2 i' k hi' hk
      · rfl
    · by_cases u : i' = i + 1
      · rw [u, rdS]
      · rw [rdN (by omega)]; exact h3 i' (by omega)) (S - 1) 1 4096 (sI (sI M' 194 70 (nI S)) 232 0 (nI (amn (dC (DP w K n cl M0) (dch M0 cl bd be) K S 0) K))) (by omega) (by omega) ⟨Nat.le_refl 1, Fr_rf _ _, fun i hi => by
    have : i = 0 := by omega
    subst this
    rw [rdS, hd0]⟩
  refine ⟨D, ?_, Fr_tr fs (Fr_mo d3 (fun id k q => by unfold pDm; omega)), by rw [(d3 194 70 (by omega)).1, rdN (by omega), rdS], d4⟩
  refine Eq.trans e ?_
  show sX12_draw_232 (4096 - (K - 1)) (nI S) _ (nI K) M' = _
  rw [show 4096 - (K - 1) = (4095 - (K - 1)) + 1 by omega, sX12_draw_232, eK, if_pos (nI_le (by omega) (by omega)), ckT (inb_nI (by omega) (by decide)), ckT z0, nI_clamp (by omega), c0 _ (by omega), hd0]
  refine Eq.trans d1 ?_
  show sX12_draw_299 (4096 - (S - 1)) (nI S) _ (nI S) D = _
  rw [show 4096 - (S - 1) = (4095 - (S - 1)) + 1 by omega, sX12_draw_299, if_pos (nI_le (by omega) (by omega))]
def pDw (id k : Nat) : Prop := pSc id k ∨ pDx id k ∨ pDm id k
theorem step_draw {kq : Nat × Nat} {w h N K : Nat} {M : Mm} (a1 a2 a3 a4 a5 a6 : Int32) (hq : isKq kq) (b : Bk kq w h N K M) (hp : iPrice M) (hd : iDrawn M) : ∃ M1, st_draw kq a1 a2 a3 a4 a5 a6 M = some (kq, M1) ∧ iDrawn M1 ∧ Fr pDw M M1 ∧ Sm kq M M1 := by
  have one : ¬ (1 : Int32) = 0 := by decide
  have f0 := sc_2 M
  have hN := b.2.1.1
  have hK := b.2.2.2.1.1
  have gw := b.1.1
  have h64 := wh64 b.1.1
  have ew := b.1.2.1
  have b0 := Bk_sm b (sc_sm hq f0)
  have ew0 := b0.1.2.1
  have d0 : iDrawn (sI M 194 2 0) := by
    obtain ⟨n, n1, n2, n3, n4⟩ := hd
    exact ⟨n, n1, by rw [rdN (by omega)]; exact n2, by rw [rdN (by omega)]; exact n3, fun k hk => by rw [rdN (by omega), rdN (by omega)]; exact n4 k hk⟩
  have fw0 : Fr pDw M (sI M 194 2 0) := Fr_mo f0 (fun id k q => Or.inl q)
  have s0 := sc_sm hq f0
  have xk := fun x => x_knows (x := x) b.2.1.2.1
  have mk := fun x => m_known (x := x) b0.2.1.2.2
  generalize hcol : (if a2 = 0 then (0 : Int32) else 1) = cf
  have hcf : cf = 0 ∨ cf = 1 := by rw [← hcol]; split; exact Or.inl rfl; exact Or.inr rfl
  obtain ⟨T, hT, eT⟩ : ∃ T, T ≤ 8 ∧ (if cf = 0 then M.1 22 1 else M.1 22 0) = nI T ∧ (if cf = 0 then (sI M 194 2 0).1 194 4 else (sI M 194 2 0).1 194 3) = nI T ∧ (cf = 0 → T = h) ∧ (cf = 1 → T = w) := by
    rcases hcf with q | q
    · subst q
      exact ⟨h, gw.2.2.2, by rw [if_pos rfl]; exact ew.2.1, by rw [if_pos rfl]; exact ew0.2.2.2.2, fun _ => rfl, fun q => absurd q (by decide)⟩
    · subst q
      exact ⟨w, gw.2.1, by rw [if_neg one]; exact ew.1, by rw [if_neg one]; exact ew0.2.2.2.1, fun q => absurd q (by decide), fun _ => rfl⟩
  unfold st_draw
  rw [hcol]
  by_cases c1 : a1 < 0
  · exact ⟨_, st_join (v := -1) (Ma := M) (by simp only [sX11_draw, sX11_draw_21, xk, if_pos c1, Option.bind_some, if_true]) (by simp only [sX12_draw, mk, if_pos c1, Option.bind_some, if_true]), d0, fw0, s0⟩
  by_cases c2 : nI N < a1
  · exact ⟨_, st_join (v := -1) (Ma := M) (by simp only [sX11_draw, sX11_draw_21, xk, if_neg c1, if_pos c2, Option.bind_some, if_true]) (by simp only [sX12_draw, mk, if_neg c1, if_pos c2, Option.bind_some, if_true]), d0, fw0, s0⟩
  by_cases d1 : a3 < 0
  · exact ⟨_, st_join (v := -1) (Ma := M) (by simp only [sX11_draw, sX11_draw_21, xk, if_neg c1, if_neg c2, if_neg one, if_pos d1, Option.bind_some]) (by simp only [sX12_draw, mk, if_neg c1, if_neg c2, if_neg one, if_pos d1, Option.bind_some]), d0, fw0, s0⟩
  by_cases d2 : nI T ≤ a3
  · exact ⟨_, st_join (v := -1) (Ma := M) (by simp only [sX11_draw, sX11_draw_21, xk, if_neg c1, if_neg c2, if_neg one, if_neg d1, eT.1, if_pos d2, Option.bind_some]) (by simp only [sX12_draw, sX12_draw_33, mk, if_neg c1, if_neg c2, if_neg one, if_neg d1, eT.2.1, if_pos d2, Option.bind_some]), d0, fw0, s0⟩
  by_cases k0 : K = 0
  · subst k0
    have eK := b.2.2.2.1.2.1
    have eK0 := b0.2.2.2.1.2.2.1
    exact ⟨_, st_join (v := -1) (Ma := M) (by simp only [sX11_draw, sX11_draw_21, xk, if_neg c1, if_neg c2, if_neg one, if_neg d1, eT.1, if_neg d2, Option.bind_some, eK]; rfl) (by simp only [sX12_draw, sX12_draw_33, mk, if_neg c1, if_neg c2, if_neg one, if_neg d1, eT.2.1, if_neg d2, Option.bind_some, eK0]; rfl), d0, fw0, s0⟩
  have nK : ¬ nI K = 0 := ne0_nI k0 (by omega)
  obtain ⟨n, hn, en⟩ := nI_ex (n := N) c1 (Int32.not_lt.mp c2) (by omega)
  subst en
  obtain ⟨p, hp', ep⟩ := nI_ex (n := T) d1 (Int32.le_of_lt (Int32.not_le.mp d2)) (by omega)
  subst ep
  have hpT : p < T := (nI_ltI (by omega) (by omega)).mp (Int32.not_le.mp d2)
  obtain ⟨p1, p2, ⟨bd, q1, q2⟩, ⟨be, q3, q4⟩⟩ := hp
  -- the line's cells
  obtain ⟨S, cl, hD, hS7, x3, x4, e17, g3, g4, gm, gs⟩ : ∃ (S : Nat) (cl : Nat → Nat), Dr kq w h N K n S bd be cl M ∧ S ≤ 8 ∧ ∃ x3 x4 : Int32, (∀ X : Mm, X.1 22 0 = nI w → X.1 22 1 = nI h → sX3_drawLine cf (nI p) X = sX3_drawLine_57 x3 x4 (nI S) X) ∧ (∀ i, i < S → x3 + nI i * x4 = nI (cl i)) ∧ (∀ i, i + 1 < S → nI (cl i) + x4 = nI (cl (i + 1))) ∧ (∀ i, i < S → (if cf = 0 then nI w * nI p + nI i else nI w * nI i + nI p) = nI (cl i)) ∧ (if cf = 0 then nI w else nI h) = nI S := by
    rcases hcf with q | q
    · subst q
      have hTh := eT.2.2.1 rfl
      subst hTh
      refine ⟨w, fun i => w * p + i, ⟨b, hn, by omega, ⟨gw.1, gw.2.1⟩, fun i hi => ?_, ⟨q1, q3⟩, p1.trans q2, p2.trans q4, q2, q4⟩, gw.2.1, nI p * nI w, 1, fun X e1 e2 => ?_, fun i hi => ?_, fun i hi => ?_, fun i hi => ?_, ?_⟩
      · have h7 : w * (p + 1) ≤ w * T := Nat.mul_le_mul_left w hpT
        rw [Nat.mul_succ] at h7
        show w * p + i < w * T
        omega
      · unfold sX3_drawLine sX3_drawLine_17 sX3_drawLine_33
        rw [if_pos rfl, if_pos rfl, if_pos rfl, e1]
      · rw [show (1 : Int32) = nI 1 from rfl, nI_mul, nI_mul, nI_add, Nat.mul_comm p w, Nat.mul_one]
      · rw [nI_1]; rfl
      · rw [if_pos rfl, nI_mul, nI_add]
      · rw [if_pos rfl]
    · subst q
      have hTw := eT.2.2.2 rfl
      subst hTw
      refine ⟨h, fun i => T * i + p, ⟨b, hn, by omega, ⟨gw.2.2.1, gw.2.2.2⟩, fun i hi => ?_, ⟨q1, q3⟩, p1.trans q2, p2.trans q4, q2, q4⟩, gw.2.2.2, nI p, nI T, fun X e1 e2 => ?_, fun i hi => ?_, fun i hi => ?_, fun i hi => ?_, ?_⟩
      · have h7 : T * (i + 1) ≤ T * h := Nat.mul_le_mul_left T hi
        rw [Nat.mul_succ] at h7
        show T * i + p < T * h
        omega
      · unfold sX3_drawLine sX3_drawLine_17 sX3_drawLine_33
        rw [if_neg one, if_neg one, if_neg one, e1, e2]
      · rw [nI_mul, nI_add, Nat.mul_comm i T, Nat.add_comm]
      · show nI (T * i + p) + nI T = nI (T * (i + 1) + p)
        rw [nI_add, Nat.mul_succ]
        congr 1
        omega
      · rw [if_neg one, nI_mul, nI_add]
      · rw [if_neg one]
  -- the class
  obtain ⟨A, g1, f1, x1⟩ := xk_gather (n := n) hq b (Sm_rf kq M) hn
  have bA := Bk_sm b x1.1
  have fA1 : Fr pDx A (sI A 162 7 (nI S)) := Fr_sI (Fr_rf _ _) (by unfold pDx; omega)
  obtain ⟨A2, a1, a2', a3, a4, a5, a6'⟩ := x_68 (x3 := x3) (x4 := x4) hq hD g3 g4 S 4096 (sI A 162 7 (nI S)) (Nat.le_refl S) (by omega) (Xk_dx hq x1 fA1) (rdS _ _ _ _) (fun i' k u1 u2 => by omega) (fun i' u1 u2 => by omega)
  obtain ⟨A3, c1', c2'', c3⟩ := x_choose hq hD a3 a4 a5 a6'
  have fA : Fr pDw M A3 := Fr_tr (Fr_mo (sc_ga f1) (fun id k q => Or.inl q)) (Fr_tr (Fr_mo fA1 (fun id k q => Or.inr (Or.inl q))) (Fr_tr (Fr_mo a2' (fun id k q => Or.inr (Or.inl q))) (Fr_mo c2'' (fun id k q => Or.inr (Or.inl (by unfold pDx; omega))))))
  have x3' : Xk kq M A3 (Lof M n) := Xk_dx hq a3 (Fr_mo c2'' (fun id k q => by unfold pDx; omega))
  -- the model
  have s2 : Sm kq M (sI A3 194 2 0) := Sm_tr x3'.1 (sc_sm hq (sc_2 A3))
  obtain ⟨B, g2, f2, y2⟩ := mk_know (n := n) hq b s2 hn
  have bs := Bk_sm b s2
  have bB := Bk_sm b y2.1
  obtain ⟨B2, i1, i2, i3, i4⟩ := m_70 (x2 := cf) (x3 := nI p) hq hD gm y2
  obtain ⟨B3, j1, j2, j3, j4, j5⟩ := m_174 hq hD S 4096 B2 (Nat.le_refl S) (by omega) i3 i4 (fun i' k u1 u2 => by omega)
  obtain ⟨B4, l1, l2, l3, l4⟩ := m_232 hq hD j3 j4 j5
  have fB : Fr pDm B B4 := Fr_tr i2 (Fr_tr j2 l2)
  have y4 := Mk_dm hq y2 fB
  have q7 : B4.1 162 7 = nI S := by
    rw [(fB 162 7 (by unfold pDm; omega)).1, (f2 162 7 (by unfold pKn; omega)).1, rdN (by omega), (c2'' 162 7 (by omega)).1]; exact a4
  refine ⟨B4, st_join (v := nI (dC (DP w K n cl M) (dch M cl bd be) K S 0 (dln (DP w K n cl M) (dch M cl bd be) K S 0))) (Ma := A3) ?_ ?_, ⟨S, hS7, q7, l3, fun k hk => ?_⟩, Fr_tr fA (Fr_tr (Fr_mo (sc_2 A3) (fun id k q => Or.inl q)) (Fr_tr (Fr_mo (sc_kn f2) (fun id k q => Or.inl q)) (Fr_mo fB (fun id k q => Or.inr (Or.inr q))))), y4.1⟩
  · have el : sX3_drawLine cf (nI p) A = some (nI (dC (DP w K n cl M) (dch M cl bd be) K S 0 (dln (DP w K n cl M) (dch M cl bd be) K S 0)), A3) := by
      rw [e17 A bA.1.2.1.1 bA.1.2.1.2.1]
      unfold sX3_drawLine_57
      rw [rdS, a1, c1', Option.bind_some]
    simp only [sX11_draw, sX11_draw_21, xk, if_neg c1, if_neg c2, if_neg one, if_neg d1, eT.1, if_neg d2, Option.bind_some, b.2.2.2.1.2.1, if_neg nK, g1, el]
  · have eT3 : (if cf = 0 then (sI A3 194 2 0).1 194 4 else (sI A3 194 2 0).1 194 3) = nI T := by
      rw [bs.1.2.1.2.2.2.2, bs.1.2.1.2.2.2.1, ← ew0.2.2.2.2, ← ew0.2.2.2.1]
      exact eT.2.1
    have eS : (if cf = 0 then B.1 194 3 else B.1 194 4) = nI S := by
      rw [bB.1.2.1.2.2.2.2, bB.1.2.1.2.2.2.1]
      exact gs
    simp only [sX12_draw, sX12_draw_33, sX12_draw_65, m_known (x := nI n) bs.2.1.2.2, if_neg c1, if_neg c2, if_neg one, if_neg d1, eT3, if_neg d2, Option.bind_some, bs.2.2.2.1.2.2.1, if_neg nK, g2, eS]
    rw [i1, j1, l1]
  · rw [l4 k hk, (fB 173 k (by unfold pDm; omega)).1, (f2 173 k (by unfold pKn; omega)).1, rdN (by omega)]
    exact c3 k hk
