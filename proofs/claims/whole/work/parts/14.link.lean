theorem lkX12_kindOf {l0 : Launch} {E : En} {d n : Nat} {Rf : Nat → Nat → Nat} {ex : Bool} {kq : Nat × Nat} (hd : 4 ≤ d) (hn : 238 ≤ n) (hRf : RfOk 194 238 kq Rf) {x1 : Int32} {M : Mm} {q : Int32 × Mm} (h : sX12_kindOf x1 M = some q) : Ct l0 E yX12_kindOf cX12_kindOf 3 (some .int) d 0 0 [rr E.1 194, .int x1] ex n Rf M n Rf (some (.int q.1)) q.2 := by
  obtain ⟨d, rfl⟩ := Nat.exists_eq_add_of_le' hd
  refine Ct.of pnX12 (Nat.le_of_ble_eq_true rfl) (fun g hg hr _ => ?_)
  replace hg : Ok g l0 E cX12_kindOf RX12 3 (d + 4) 0 0 := hg
  show WG g E 3 n Rf ex 0 0 0 [(0, rr E.1 194), (1, .int x1)] [] M
  unfold sX12_kindOf at h
  refine g_rload_n hg dX12_kindOf_0 rfl 0 rfl ?_
  refine g_iload_n hg dX12_kindOf_1 rfl 1 rfl ?_
  obtain ⟨q2, e2, h⟩ := Option.bind_eq_some_iff.mp h
  refine g_callVi (As := [.int x1]) (rest := []) hg (lkX12_lineOf (by omega) hn hRf  e2) cv_X12_353 rfl ly194 (idb rfl rfl hn) rfl rfl (Nat.le_of_ble_eq_true rfl) ⟨Nat.le_refl _, Nat.le_refl _⟩ dX12_kindOf_2 ?_
  refine g_istore_n (lv' := [(2, .int q2.1), (0, rr E.1 194), (1, .int x1)]) hg dX12_kindOf_5 rfl (by decide) rfl ?_
  refine g_iload_n hg dX12_kindOf_6 rfl 0 rfl ?_
  refine g_if_ge (tgt := 14) hg dX12_kindOf_7 (by decide) (fun c => ?_) (fun c => ?_)
  · replace h := itT c h
    refine g_rload_n hg dX12_kindOf_14 rfl 1 rfl ?_
    refine g_getR (r := 210) hg fl_X12_84 ly194 rfl (idb rfl rfl hn) (rfc hRf rfl rfl rfl rfl) (by decide) dX12_kindOf_15 ?_
    refine g_iload_n hg dX12_kindOf_18 rfl 0 rfl ?_
    obtain ⟨c19, h⟩ := ck_some h
    refine g_iald hg ly210 (idb rfl rfl hn) (inb_vp c19) dX12_kindOf_19 ?_
    replace h := Option.some.inj h
    subst h
    exact g_iret hg hr dX12_kindOf_20
  · replace h := itF c h
    refine g_iconst hg dX12_kindOf_10 kI_m1 ?_
    refine g_goto (tgt := 20) hg dX12_kindOf_11 (by decide) ?_
    replace h := Option.some.inj h
    subst h
    exact g_iret hg hr dX12_kindOf_20
theorem lkX12_told {l0 : Launch} {E : En} {d n : Nat} {Rf : Nat → Nat → Nat} {ex : Bool} {kq : Nat × Nat} (hd : 5 ≤ d) (hn : 238 ≤ n) (hRf : RfOk 194 238 kq Rf) {x1 : Int32} {x2 : Int32} {M : Mm} {q : Int32 × Mm} (h : sX12_told x1 x2 M = some q) : Ct l0 E yX12_told cX12_told 3 (some .int) d 0 0 [rr E.1 194, .int x1, .int x2] ex n Rf M n Rf (some (.int q.1)) q.2 := by
  obtain ⟨d, rfl⟩ := Nat.exists_eq_add_of_le' hd
  refine Ct.of pnX12 (Nat.le_of_ble_eq_true rfl) (fun g hg hr _ => ?_)
  replace hg : Ok g l0 E cX12_told RX12 3 (d + 5) 0 0 := hg
  show WG g E 3 n Rf ex 0 0 0 [(0, rr E.1 194), (1, .int x1), (2, .int x2)] [] M
  unfold sX12_told at h
  refine g_rload_n hg dX12_told_0 rfl 0 rfl ?_
  refine g_iconst hg dX12_told_1 kI_0 ?_
  refine g_putI hg fp_X12_171 ly194 rfl (idb rfl rfl hn) dX12_told_2 ?_
  refine g_rload_n hg dX12_told_5 rfl 0 rfl ?_
  refine g_iload_n hg dX12_told_6 rfl 1 rfl ?_
  obtain ⟨q7, e7, h⟩ := Option.bind_eq_some_iff.mp h
  refine g_callVi (As := [.int x1]) (rest := []) hg (lkX12_isBore (by omega) hn hRf  e7) cv_X12_251 rfl ly194 (idb rfl rfl hn) rfl rfl (Nat.le_of_ble_eq_true rfl) ⟨Nat.le_refl _, Nat.le_refl _⟩ dX12_told_7 ?_
  refine g_if_ne (tgt := 16) hg dX12_told_10 (by decide) (fun c => ?_) (fun c => ?_)
  · replace h := itF c h
    refine g_iload_n hg dX12_told_16 rfl 2 rfl ?_
    by_cases c0w : x2 = 0
    · replace h := itT c0w h
      refine g_tabI (tgt := 52) (off := 35) hg dX12_told_17 c0w (by decide) (by decide) ?_
      refine g_rload_n hg dX12_told_52 rfl 0 rfl ?_
      refine g_getR (r := 203) hg fl_X12_62 ly194 rfl (idb rfl rfl hn) (rfc hRf rfl rfl rfl rfl) (by decide) dX12_told_53 ?_
      refine g_iload_n hg dX12_told_56 rfl 1 rfl ?_
      obtain ⟨c57, h⟩ := ck_some h
      refine g_iald hg ly203 (idb rfl rfl hn) (inb_vp c57) dX12_told_57 ?_
      replace h := Option.some.inj h
      subst h
      exact g_iret hg hr dX12_told_58
    replace h := itF c0w h
    by_cases c1w : x2 = 1
    · replace h := itT c1w h
      refine g_tabI (tgt := 59) (off := 42) hg dX12_told_17 c1w (by decide) (by decide) ?_
      refine g_rload_n hg dX12_told_59 rfl 0 rfl ?_
      refine g_getR (r := 204) hg fl_X12_65 ly194 rfl (idb rfl rfl hn) (rfc hRf rfl rfl rfl rfl) (by decide) dX12_told_60 ?_
      refine g_iload_n hg dX12_told_63 rfl 1 rfl ?_
      obtain ⟨c64, h⟩ := ck_some h
      refine g_iald hg ly204 (idb rfl rfl hn) (inb_vp c64) dX12_told_64 ?_
      replace h := Option.some.inj h
      subst h
      exact g_iret hg hr dX12_told_65
    replace h := itF c1w h
    by_cases c2w : x2 = 2
    · replace h := itT c2w h
      refine g_tabI (tgt := 66) (off := 49) hg dX12_told_17 c2w (by decide) (by decide) ?_
      refine g_rload_n hg dX12_told_66 rfl 0 rfl ?_
      refine g_getR (r := 205) hg fl_X12_68 ly194 rfl (idb rfl rfl hn) (rfc hRf rfl rfl rfl rfl) (by decide) dX12_told_67 ?_
      refine g_iload_n hg dX12_told_70 rfl 1 rfl ?_
      obtain ⟨c71, h⟩ := ck_some h
      refine g_iald hg ly205 (idb rfl rfl hn) (inb_vp c71) dX12_told_71 ?_
      replace h := Option.some.inj h
      subst h
      exact g_iret hg hr dX12_told_72
    replace h := itF c2w h
    by_cases c3w : x2 = 3
    · replace h := itT c3w h
      refine g_tabI (tgt := 73) (off := 56) hg dX12_told_17 c3w (by decide) (by decide) ?_
      refine g_rload_n hg dX12_told_73 rfl 0 rfl ?_
      refine g_iload_n hg dX12_told_74 rfl 1 rfl ?_
      obtain ⟨q75, e75, h⟩ := Option.bind_eq_some_iff.mp h
      refine g_callVi (As := [.int x1]) (rest := []) hg (lkX12_kindOf (by omega) hn hRf  e75) cv_X12_356 rfl ly194 (idb rfl rfl hn) rfl rfl (Nat.le_of_ble_eq_true rfl) ⟨Nat.le_refl _, Nat.le_refl _⟩ dX12_told_75 ?_
      replace h := Option.some.inj h
      subst h
      exact g_iret hg hr dX12_told_78
    replace h := itF c3w h
    by_cases c4w : x2 = 4
    · replace h := itT c4w h
      refine g_tabI (tgt := 79) (off := 62) hg dX12_told_17 c4w (by decide) (by decide) ?_
      refine g_rload_n hg dX12_told_79 rfl 0 rfl ?_
      refine g_iload_n hg dX12_told_80 rfl 1 rfl ?_
      obtain ⟨q81, e81, h⟩ := Option.bind_eq_some_iff.mp h
      refine g_callVi (As := [.int x1]) (rest := []) hg (lkX12_lineOf (by omega) hn hRf  e81) cv_X12_353 rfl ly194 (idb rfl rfl hn) rfl rfl (Nat.le_of_ble_eq_true rfl) ⟨Nat.le_refl _, Nat.le_refl _⟩ dX12_told_81 ?_
      replace h := Option.some.inj h
      subst h
      exact g_iret hg hr dX12_told_84
    replace h := itF c4w h
    refine g_tabO (tgt := 85) hg dX12_told_17 (by have e0w := lv_neT (a := 0) c0w (by decide); have e1w := lv_neT (a := 1) c1w (by decide); have e2w := lv_neT (a := 2) c2w (by decide); have e3w := lv_neT (a := 3) c3w (by decide); have e4w := lv_neT (a := 4) c4w (by decide); omega) (by decide) ?_
    refine g_bipush hg dX12_told_85 kB_m2 ?_
    replace h := Option.some.inj h
    subst h
    exact g_iret hg hr dX12_told_87
  · replace h := itT c h
    refine g_bipush hg dX12_told_13 kB_m2 ?_
    replace h := Option.some.inj h
    subst h
    exact g_iret hg hr dX12_told_15
theorem lkX12_size {l0 : Launch} {E : En} {d n : Nat} {Rf : Nat → Nat → Nat} {ex : Bool} {kq : Nat × Nat} (hd : 1 ≤ d) (hn : 238 ≤ n) (hRf : RfOk 194 238 kq Rf) {x0 : Int32} {M : Mm} {q : Int32 × Mm} (h : sX12_size x0 M = some q) : Ct l0 E yX12_size cX12_size 1 (some .int) d 0 0 [.int x0] ex n Rf M n Rf (some (.int q.1)) q.2 := by
  obtain ⟨d, rfl⟩ := Nat.exists_eq_add_of_le' hd
  refine Ct.of pnX12 (Nat.le_of_ble_eq_true rfl) (fun g hg hr _ => ?_)
  replace hg : Ok g l0 E cX12_size RX12 1 (d + 1) 0 0 := hg
  show WG g E 1 n Rf ex 0 0 0 [(0, .int x0)] [] M
  unfold sX12_size at h
  refine g_iload_n hg dX12_size_0 rfl 0 rfl ?_
  refine g_if_ge (tgt := 9) hg dX12_size_1 (by decide) (fun c => ?_) (fun c => ?_)
  · rw [if_pos c] at h
    refine g_iload_n hg dX12_size_9 rfl 0 rfl ?_
    replace h := Option.some.inj h
    subst h
    exact g_iret hg hr dX12_size_10
  · rw [if_neg c] at h
    refine g_iload_n hg dX12_size_4 rfl 0 rfl ?_
    refine g_ineg hg dX12_size_5 ?_
    refine g_goto (tgt := 10) hg dX12_size_6 (by decide) ?_
    replace h := Option.some.inj h
    subst h
    exact g_iret hg hr dX12_size_10
theorem lkX12_slope_130 {g : Gm} {l0 : Launch} {E : En} {d n : Nat} {Rf : Nat → Nat → Nat} {ex : Bool} {kq : Nat × Nat} (hn : 238 ≤ n) (hRf : RfOk 194 238 kq Rf) (hg : Ok g l0 E cX12_slope RX12 7 (d + 2) 0 0) {q : Int32 × Mm} (hr : Ret g E 0 0 (some .int) ex n Rf (some (.int q.1)) q.2) {k12 : Int32 → Int32 → Int32 → Int32 → Mm → Option (Int32 × Mm)} (hk12 : ∀ (x1 : Int32) (x2 : Int32) (x3 : Int32) (x4 : Int32) (M : Mm), k12 x1 x2 x3 x4 M = some q → WG g E 7 n Rf ex 0 0 12 [(0, rr E.1 194), (1, .int x1), (2, .int x2), (3, .int x3), (4, .int x4)] [] M) : ∀ (x1 : Int32) (x2 : Int32) (x3 : Int32) (x4 : Int32) (M : Mm), sX12_slope_130 k12 x1 x2 x3 x4 M = some q → WG g E 7 n Rf ex 0 0 130 [(0, rr E.1 194), (1, .int x1), (2, .int x2), (3, .int x3), (4, .int x4)] [] M := by
  intro x1 x2 x3 x4 M h
  unfold sX12_slope_130 at h
  refine g_inc (lv' := [(4, .int (x4 + 1)), (0, rr E.1 194), (1, .int x1), (2, .int x2), (3, .int x3)]) hg dX12_slope_130 kI_1 4 rfl (by decide) rfl ?_
  refine g_goto (tgt := 12) hg dX12_slope_133 (by decide) ?_
  refine g_sub (lv' := [(0, rr E.1 194), (1, .int x1), (2, .int x2), (3, .int x3), (4, .int (x4 + 1))]) [1, 2, 3, 4, 0] rfl ?_
  exact hk12 _ _ _ _ _ h
theorem lkX12_slope_129 {g : Gm} {l0 : Launch} {E : En} {d n : Nat} {Rf : Nat → Nat → Nat} {ex : Bool} {kq : Nat × Nat} (hn : 238 ≤ n) (hRf : RfOk 194 238 kq Rf) (hg : Ok g l0 E cX12_slope RX12 7 (d + 2) 0 0) {q : Int32 × Mm} (hr : Ret g E 0 0 (some .int) ex n Rf (some (.int q.1)) q.2) {k12 : Int32 → Int32 → Int32 → Int32 → Mm → Option (Int32 × Mm)} (hk12 : ∀ (x1 : Int32) (x2 : Int32) (x3 : Int32) (x4 : Int32) (M : Mm), k12 x1 x2 x3 x4 M = some q → WG g E 7 n Rf ex 0 0 12 [(0, rr E.1 194), (1, .int x1), (2, .int x2), (3, .int x3), (4, .int x4)] [] M) : ∀ (x1 : Int32) (x2 : Int32) (x4 : Int32) (s0 : Int32) (M : Mm), sX12_slope_129 k12 x1 x2 x4 s0 M = some q → WG g E 7 n Rf ex 0 0 129 [(0, rr E.1 194), (1, .int x1), (2, .int x2), (4, .int x4)] [.int s0] M := by
  intro x1 x2 x4 s0 M h
  unfold sX12_slope_129 at h
  refine g_istore_n (lv' := [(3, .int s0), (0, rr E.1 194), (1, .int x1), (2, .int x2), (4, .int x4)]) hg dX12_slope_129 rfl (by decide) rfl ?_
  refine g_sub (lv' := [(0, rr E.1 194), (1, .int x1), (2, .int x2), (3, .int s0), (4, .int x4)]) [1, 2, 3, 0, 4] rfl ?_
  exact lkX12_slope_130 hn hRf hg hr hk12 _ _ _ _ _ h
theorem lkX12_slope_84 {g : Gm} {l0 : Launch} {E : En} {d n : Nat} {Rf : Nat → Nat → Nat} {ex : Bool} {kq : Nat × Nat} (hn : 238 ≤ n) (hRf : RfOk 194 238 kq Rf) (hg : Ok g l0 E cX12_slope RX12 7 (d + 2) 0 0) {q : Int32 × Mm} (hr : Ret g E 0 0 (some .int) ex n Rf (some (.int q.1)) q.2) {k12 : Int32 → Int32 → Int32 → Int32 → Mm → Option (Int32 × Mm)} (hk12 : ∀ (x1 : Int32) (x2 : Int32) (x3 : Int32) (x4 : Int32) (M : Mm), k12 x1 x2 x3 x4 M = some q → WG g E 7 n Rf ex 0 0 12 [(0, rr E.1 194), (1, .int x1), (2, .int x2), (3, .int x3), (4, .int x4)] [] M) : ∀ (x1 : Int32) (x2 : Int32) (x3 : Int32) (x4 : Int32) (s0 : Int32) (M : Mm), sX12_slope_84 k12 x1 x2 x3 x4 s0 M = some q → WG g E 7 n Rf ex 0 0 84 [(0, rr E.1 194), (1, .int x1), (2, .int x2), (3, .int x3), (4, .int x4)] [.int s0] M := by
  intro x1 x2 x3 x4 s0 M h
  unfold sX12_slope_84 at h
  refine g_istore (lv' := [(5, .int s0), (0, rr E.1 194), (1, .int x1), (2, .int x2), (3, .int x3), (4, .int x4)]) hg dX12_slope_84 (by decide) rfl ?_
  refine g_rload_n hg dX12_slope_86 rfl 1 rfl ?_
  refine g_iload hg dX12_slope_87 0 rfl ?_
  obtain ⟨q89, e89, h⟩ := Option.bind_eq_some_iff.mp h
  refine g_callVi (As := [.int s0]) (rest := []) hg (lkX12_isCell (by omega) hn hRf  e89) cv_X12_180 rfl ly194 (idb rfl rfl hn) rfl rfl (Nat.le_of_ble_eq_true rfl) ⟨Nat.le_refl _, Nat.le_refl _⟩ dX12_slope_89 ?_
  refine g_if_ne (tgt := 98) hg dX12_slope_92 (by decide) (fun c => ?_) (fun c => ?_)
  · replace h := itF c h
    refine g_rload_n hg dX12_slope_98 rfl 1 rfl ?_
    refine g_getR (r := 196) hg fl_X12_20 ly194 rfl (idb rfl rfl hn) (rfc hRf rfl rfl rfl rfl) (by decide) dX12_slope_99 ?_
    refine g_iload_n hg dX12_slope_102 rfl 2 rfl ?_
    obtain ⟨c103, h⟩ := ck_some h
    refine g_iald hg ly196 (idb rfl rfl hn) (inb_vp c103) dX12_slope_103 ?_
    refine g_rload_n hg dX12_slope_104 rfl 1 rfl ?_
    refine g_getR (r := 196) hg fl_X12_20 ly194 rfl (idb rfl rfl hn) (rfc hRf rfl rfl rfl rfl) (by decide) dX12_slope_105 ?_
    refine g_iload hg dX12_slope_108 0 rfl ?_
    obtain ⟨c110, h⟩ := ck_some h
    refine g_iald hg ly196 (idb rfl rfl hn) (inb_vp c110) dX12_slope_110 ?_
    refine g_isub hg dX12_slope_111 ?_
    obtain ⟨q112, e112, h⟩ := Option.bind_eq_some_iff.mp h
    refine g_callSi (As := [.int ((q89.2.1 196 x1.toNatClampNeg) - (q89.2.1 196 s0.toNatClampNeg))]) (rest := []) hg (lkX12_size (by omega) hn hRf  e112) cs_X12_359 rfl rfl (Nat.le_of_ble_eq_true rfl) ⟨Nat.le_refl _, Nat.le_refl _⟩ dX12_slope_112 ?_
    refine g_istore (lv' := [(6, .int q112.1), (5, .int s0), (0, rr E.1 194), (1, .int x1), (2, .int x2), (3, .int x3), (4, .int x4)]) hg dX12_slope_115 (by decide) rfl ?_
    refine g_iload hg dX12_slope_117 0 rfl ?_
    refine g_iload_n hg dX12_slope_119 rfl 5 rfl ?_
    refine g_icmp_le (tgt := 128) hg dX12_slope_120 (by decide) (fun c => ?_) (fun c => ?_)
    · rw [if_pos c] at h
      refine g_iload_n hg dX12_slope_128 rfl 5 rfl ?_
      refine g_sub (lv' := [(0, rr E.1 194), (1, .int x1), (2, .int x2), (4, .int x4)]) [2, 3, 4, 6] rfl ?_
      exact lkX12_slope_129 hn hRf hg hr hk12 _ _ _ _ _ h
    · rw [if_neg c] at h
      refine g_iload hg dX12_slope_123 0 rfl ?_
      refine g_goto (tgt := 129) hg dX12_slope_125 (by decide) ?_
      refine g_sub (lv' := [(0, rr E.1 194), (1, .int x1), (2, .int x2), (4, .int x4)]) [2, 3, 4, 6] rfl ?_
      exact lkX12_slope_129 hn hRf hg hr hk12 _ _ _ _ _ h
  · replace h := itT c h
    refine g_goto (tgt := 130) hg dX12_slope_95 (by decide) ?_
    refine g_sub (lv' := [(0, rr E.1 194), (1, .int x1), (2, .int x2), (3, .int x3), (4, .int x4)]) [1, 2, 3, 4, 5] rfl ?_
    exact lkX12_slope_130 hn hRf hg hr hk12 _ _ _ _ _ h
theorem lkX12_slope_12 {g : Gm} {l0 : Launch} {E : En} {d n : Nat} {Rf : Nat → Nat → Nat} {ex : Bool} {kq : Nat × Nat} (hn : 238 ≤ n) (hRf : RfOk 194 238 kq Rf) (hg : Ok g l0 E cX12_slope RX12 7 (d + 2) 0 0) {q : Int32 × Mm} (hr : Ret g E 0 0 (some .int) ex n Rf (some (.int q.1)) q.2) : ∀ (F : Nat) (x1 : Int32) (x2 : Int32) (x3 : Int32) (x4 : Int32) (M : Mm), sX12_slope_12 F x1 x2 x3 x4 M = some q → WG g E 7 n Rf ex 0 0 12 [(0, rr E.1 194), (1, .int x1), (2, .int x2), (3, .int x3), (4, .int x4)] [] M := by
  intro F
  induction F with
  | zero =>
    intro x1 x2 x3 x4 M h
    cases h
  | succ F ih =>
    intro x1 x2 x3 x4 M h
    rw [sX12_slope_12] at h
    refine g_iload hg dX12_slope_12 4 rfl ?_
    refine g_iconst hg dX12_slope_14 kI_4 ?_
    refine g_icmp_ge (tgt := 136) hg dX12_slope_15 (by decide) (fun c => ?_) (fun c => ?_)
    · replace h := itT c h
      refine g_iload_n hg dX12_slope_136 rfl 3 rfl ?_
      replace h := Option.some.inj h
      subst h
      exact g_iret hg hr dX12_slope_137
    · replace h := itF c h
      refine g_iload hg dX12_slope_18 4 rfl ?_
      refine g_if_ne (tgt := 37) hg dX12_slope_20 (by decide) (fun c => ?_) (fun c => ?_)
      · rw [if_neg c] at h
        refine g_iload hg dX12_slope_37 4 rfl ?_
        refine g_iconst hg dX12_slope_39 kI_1 ?_
        refine g_icmp_ne (tgt := 63) hg dX12_slope_40 (by decide) (fun c => ?_) (fun c => ?_)
        · rw [if_neg c] at h
          refine g_iload hg dX12_slope_63 4 rfl ?_
          refine g_iconst hg dX12_slope_65 kI_2 ?_
          refine g_icmp_ne (tgt := 78) hg dX12_slope_66 (by decide) (fun c => ?_) (fun c => ?_)
          · rw [if_neg c] at h
            refine g_iload_n hg dX12_slope_78 rfl 1 rfl ?_
            refine g_rload_n hg dX12_slope_79 rfl 0 rfl ?_
            refine g_getI hg fl_X12_13 ly194 rfl (idb rfl rfl hn) dX12_slope_80 ?_
            refine g_iadd hg dX12_slope_83 ?_
            exact lkX12_slope_84 hn hRf hg hr ih _ _ _ _ _ _ h
          · rw [if_pos c] at h
            refine g_iload_n hg dX12_slope_69 rfl 1 rfl ?_
            refine g_rload_n hg dX12_slope_70 rfl 0 rfl ?_
            refine g_getI hg fl_X12_13 ly194 rfl (idb rfl rfl hn) dX12_slope_71 ?_
            refine g_isub hg dX12_slope_74 ?_
            refine g_goto (tgt := 84) hg dX12_slope_75 (by decide) ?_
            exact lkX12_slope_84 hn hRf hg hr ih _ _ _ _ _ _ h
        · rw [if_pos c] at h
          refine g_iload_n hg dX12_slope_43 rfl 2 rfl ?_
          refine g_rload_n hg dX12_slope_44 rfl 0 rfl ?_
          refine g_getI hg fl_X12_13 ly194 rfl (idb rfl rfl hn) dX12_slope_45 ?_
          refine g_iconst hg dX12_slope_48 kI_1 ?_
          refine g_isub hg dX12_slope_49 ?_
          refine g_icmp_ge (tgt := 59) hg dX12_slope_50 (by decide) (fun c => ?_) (fun c => ?_)
          · rw [if_pos c] at h
            refine g_iconst hg dX12_slope_59 kI_m1 ?_
            refine g_goto (tgt := 84) hg dX12_slope_60 (by decide) ?_
            exact lkX12_slope_84 hn hRf hg hr ih _ _ _ _ _ _ h
          · rw [if_neg c] at h
            refine g_iload_n hg dX12_slope_53 rfl 1 rfl ?_
            refine g_iconst hg dX12_slope_54 kI_1 ?_
            refine g_iadd hg dX12_slope_55 ?_
            refine g_goto (tgt := 84) hg dX12_slope_56 (by decide) ?_
            exact lkX12_slope_84 hn hRf hg hr ih _ _ _ _ _ _ h
      · rw [if_pos c] at h
        refine g_iload_n hg dX12_slope_23 rfl 2 rfl ?_
        refine g_if_le (tgt := 33) hg dX12_slope_24 (by decide) (fun c => ?_) (fun c => ?_)
        · rw [if_pos c] at h
          refine g_iconst hg dX12_slope_33 kI_m1 ?_
          refine g_goto (tgt := 84) hg dX12_slope_34 (by decide) ?_
          exact lkX12_slope_84 hn hRf hg hr ih _ _ _ _ _ _ h
        · rw [if_neg c] at h
          refine g_iload_n hg dX12_slope_27 rfl 1 rfl ?_
          refine g_iconst hg dX12_slope_28 kI_1 ?_
          refine g_isub hg dX12_slope_29 ?_
          refine g_goto (tgt := 84) hg dX12_slope_30 (by decide) ?_
          exact lkX12_slope_84 hn hRf hg hr ih _ _ _ _ _ _ h
theorem lkX12_slope {l0 : Launch} {E : En} {d n : Nat} {Rf : Nat → Nat → Nat} {ex : Bool} {kq : Nat × Nat} (hd : 2 ≤ d) (hn : 238 ≤ n) (hRf : RfOk 194 238 kq Rf) {x1 : Int32} {M : Mm} {q : Int32 × Mm} (h : sX12_slope x1 M = some q) : Ct l0 E yX12_slope cX12_slope 7 (some .int) d 0 0 [rr E.1 194, .int x1] ex n Rf M n Rf (some (.int q.1)) q.2 := by
  obtain ⟨d, rfl⟩ := Nat.exists_eq_add_of_le' hd
  refine Ct.of pnX12 (Nat.le_of_ble_eq_true rfl) (fun g hg hr _ => ?_)
  replace hg : Ok g l0 E cX12_slope RX12 7 (d + 2) 0 0 := hg
  show WG g E 7 n Rf ex 0 0 0 [(0, rr E.1 194), (1, .int x1)] [] M
  unfold sX12_slope at h
  refine g_iload_n hg dX12_slope_0 rfl 1 rfl ?_
  refine g_rload_n hg dX12_slope_1 rfl 0 rfl ?_
  refine g_getI hg fl_X12_13 ly194 rfl (idb rfl rfl hn) dX12_slope_2 ?_
  obtain ⟨c5, h⟩ := ck_some h
  refine g_irem hg dX12_slope_5 (nz_ne c5) ?_
  refine g_istore_n (lv' := [(2, .int (x1 - x1 / (M.1 194 3) * (M.1 194 3))), (0, rr E.1 194), (1, .int x1)]) hg dX12_slope_6 rfl (by decide) rfl ?_
  refine g_iconst hg dX12_slope_7 kI_0 ?_
  refine g_istore_n (lv' := [(3, .int 0), (2, .int (x1 - x1 / (M.1 194 3) * (M.1 194 3))), (0, rr E.1 194), (1, .int x1)]) hg dX12_slope_8 rfl (by decide) rfl ?_
  refine g_iconst hg dX12_slope_9 kI_0 ?_
  refine g_istore (lv' := [(4, .int 0), (3, .int 0), (2, .int (x1 - x1 / (M.1 194 3) * (M.1 194 3))), (0, rr E.1 194), (1, .int x1)]) hg dX12_slope_10 (by decide) rfl ?_
  refine g_sub (lv' := [(0, rr E.1 194), (1, .int x1), (2, .int (x1 - x1 / (M.1 194 3) * (M.1 194 3))), (3, .int 0), (4, .int 0)]) [3, 4, 2, 1, 0] rfl ?_
  exact lkX12_slope_12 hn hRf hg hr  4096 _ _ _ _ _ h
theorem lkX12_steep {l0 : Launch} {E : En} {d n : Nat} {Rf : Nat → Nat → Nat} {ex : Bool} {kq : Nat × Nat} (hd : 3 ≤ d) (hn : 238 ≤ n) (hRf : RfOk 194 238 kq Rf) {x1 : Int32} {M : Mm} {q : Int32 × Mm} (h : sX12_steep x1 M = some q) : Ct l0 E yX12_steep cX12_steep 2 (some .int) d 0 0 [rr E.1 194, .int x1] ex n Rf M n Rf (some (.int q.1)) q.2 := by
  obtain ⟨d, rfl⟩ := Nat.exists_eq_add_of_le' hd
  refine Ct.of pnX12 (Nat.le_of_ble_eq_true rfl) (fun g hg hr _ => ?_)
  replace hg : Ok g l0 E cX12_steep RX12 2 (d + 3) 0 0 := hg
  show WG g E 2 n Rf ex 0 0 0 [(0, rr E.1 194), (1, .int x1)] [] M
  unfold sX12_steep at h
  refine g_rload_n hg dX12_steep_0 rfl 0 rfl ?_
  refine g_iload_n hg dX12_steep_1 rfl 1 rfl ?_
  obtain ⟨q2, e2, h⟩ := Option.bind_eq_some_iff.mp h
  refine g_callVi (As := [.int x1]) (rest := []) hg (lkX12_slope (by omega) hn hRf  e2) cv_X12_362 rfl ly194 (idb rfl rfl hn) rfl rfl (Nat.le_of_ble_eq_true rfl) ⟨Nat.le_refl _, Nat.le_refl _⟩ dX12_steep_2 ?_
  refine g_rload_n hg dX12_steep_5 rfl 0 rfl ?_
  refine g_getI hg fl_X12_35 ly194 rfl (idb rfl rfl hn) dX12_steep_6 ?_
  refine g_icmp_ge (tgt := 16) hg dX12_steep_9 (by decide) (fun c => ?_) (fun c => ?_)
  · replace h := itT c h
    refine g_rload_n hg dX12_steep_16 rfl 0 rfl ?_
    refine g_iload_n hg dX12_steep_17 rfl 1 rfl ?_
    obtain ⟨q18, e18, h⟩ := Option.bind_eq_some_iff.mp h
    refine g_callVi (As := [.int x1]) (rest := []) hg (lkX12_slope (by omega) hn hRf  e18) cv_X12_362 rfl ly194 (idb rfl rfl hn) rfl rfl (Nat.le_of_ble_eq_true rfl) ⟨Nat.le_refl _, Nat.le_refl _⟩ dX12_steep_18 ?_
    refine g_rload_n hg dX12_steep_21 rfl 0 rfl ?_
    refine g_getI hg fl_X12_38 ly194 rfl (idb rfl rfl hn) dX12_steep_22 ?_
    refine g_icmp_ge (tgt := 32) hg dX12_steep_25 (by decide) (fun c => ?_) (fun c => ?_)
    · rw [if_pos c] at h
      refine g_iconst hg dX12_steep_32 kI_2 ?_
      replace h := Option.some.inj h
      subst h
      exact g_iret hg hr dX12_steep_33
    · rw [if_neg c] at h
      refine g_iconst hg dX12_steep_28 kI_1 ?_
      refine g_goto (tgt := 33) hg dX12_steep_29 (by decide) ?_
      replace h := Option.some.inj h
      subst h
      exact g_iret hg hr dX12_steep_33
  · replace h := itF c h
    refine g_iconst hg dX12_steep_12 kI_0 ?_
    refine g_goto (tgt := 33) hg dX12_steep_13 (by decide) ?_
    replace h := Option.some.inj h
    subst h
    exact g_iret hg hr dX12_steep_33
theorem lkX12_feel {l0 : Launch} {E : En} {d n : Nat} {Rf : Nat → Nat → Nat} {ex : Bool} {kq : Nat × Nat} (hd : 1 ≤ d) (hn : 238 ≤ n) (hRf : RfOk 194 238 kq Rf) {x1 : Int32} {M : Mm} {q : Int32 × Mm} (h : sX12_feel x1 M = some q) : Ct l0 E yX12_feel cX12_feel 2 (some .int) d 0 0 [rr E.1 194, .int x1] ex n Rf M n Rf (some (.int q.1)) q.2 := by
  obtain ⟨d, rfl⟩ := Nat.exists_eq_add_of_le' hd
  refine Ct.of pnX12 (Nat.le_of_ble_eq_true rfl) (fun g hg hr _ => ?_)
  replace hg : Ok g l0 E cX12_feel RX12 2 (d + 1) 0 0 := hg
  show WG g E 2 n Rf ex 0 0 0 [(0, rr E.1 194), (1, .int x1)] [] M
  unfold sX12_feel at h
  refine g_rload_n hg dX12_feel_0 rfl 0 rfl ?_
  refine g_getR (r := 198) hg fl_X12_26 ly194 rfl (idb rfl rfl hn) (rfc hRf rfl rfl rfl rfl) (by decide) dX12_feel_1 ?_
  refine g_iload_n hg dX12_feel_4 rfl 1 rfl ?_
  obtain ⟨c5, h⟩ := ck_some h
  refine g_iald hg ly198 (idb rfl rfl hn) (inb_vp c5) dX12_feel_5 ?_
  refine g_if_ge (tgt := 13) hg dX12_feel_6 (by decide) (fun c => ?_) (fun c => ?_)
  · replace h := itT c h
    refine g_rload_n hg dX12_feel_13 rfl 0 rfl ?_
    refine g_getR (r := 198) hg fl_X12_26 ly194 rfl (idb rfl rfl hn) (rfc hRf rfl rfl rfl rfl) (by decide) dX12_feel_14 ?_
    refine g_iload_n hg dX12_feel_17 rfl 1 rfl ?_
    obtain ⟨c18, h⟩ := ck_some h
    refine g_iald hg ly198 (idb rfl rfl hn) (inb_vp c18) dX12_feel_18 ?_
    refine g_rload_n hg dX12_feel_19 rfl 0 rfl ?_
    refine g_getI hg fl_X12_41 ly194 rfl (idb rfl rfl hn) dX12_feel_20 ?_
    refine g_icmp_ge (tgt := 30) hg dX12_feel_23 (by decide) (fun c => ?_) (fun c => ?_)
    · replace h := itT c h
      refine g_rload_n hg dX12_feel_30 rfl 0 rfl ?_
      refine g_getR (r := 198) hg fl_X12_26 ly194 rfl (idb rfl rfl hn) (rfc hRf rfl rfl rfl rfl) (by decide) dX12_feel_31 ?_
      refine g_iload_n hg dX12_feel_34 rfl 1 rfl ?_
      obtain ⟨c35, h⟩ := ck_some h
      refine g_iald hg ly198 (idb rfl rfl hn) (inb_vp c35) dX12_feel_35 ?_
      refine g_rload_n hg dX12_feel_36 rfl 0 rfl ?_
      refine g_getI hg fl_X12_44 ly194 rfl (idb rfl rfl hn) dX12_feel_37 ?_
      refine g_icmp_ge (tgt := 47) hg dX12_feel_40 (by decide) (fun c => ?_) (fun c => ?_)
      · rw [if_pos c] at h
        refine g_iconst hg dX12_feel_47 kI_2 ?_
        replace h := Option.some.inj h
        subst h
        exact g_iret hg hr dX12_feel_48
      · rw [if_neg c] at h
        refine g_iconst hg dX12_feel_43 kI_1 ?_
        refine g_goto (tgt := 48) hg dX12_feel_44 (by decide) ?_
        replace h := Option.some.inj h
        subst h
        exact g_iret hg hr dX12_feel_48
    · replace h := itF c h
      refine g_iconst hg dX12_feel_26 kI_0 ?_
      refine g_goto (tgt := 48) hg dX12_feel_27 (by decide) ?_
      replace h := Option.some.inj h
      subst h
      exact g_iret hg hr dX12_feel_48
  · replace h := itF c h
    refine g_iconst hg dX12_feel_9 kI_m1 ?_
    refine g_goto (tgt := 48) hg dX12_feel_10 (by decide) ?_
    replace h := Option.some.inj h
    subst h
    exact g_iret hg hr dX12_feel_48
theorem lkX12_fails {l0 : Launch} {E : En} {d n : Nat} {Rf : Nat → Nat → Nat} {ex : Bool} {kq : Nat × Nat} (hd : 1 ≤ d) (hn : 238 ≤ n) (hRf : RfOk 194 238 kq Rf) {x1 : Int32} {M : Mm} {q : Int32 × Mm} (h : sX12_fails x1 M = some q) : Ct l0 E yX12_fails cX12_fails 2 (some .int) d 0 0 [rr E.1 194, .int x1] ex n Rf M n Rf (some (.int q.1)) q.2 := by
  obtain ⟨d, rfl⟩ := Nat.exists_eq_add_of_le' hd
  refine Ct.of pnX12 (Nat.le_of_ble_eq_true rfl) (fun g hg hr _ => ?_)
  replace hg : Ok g l0 E cX12_fails RX12 2 (d + 1) 0 0 := hg
  show WG g E 2 n Rf ex 0 0 0 [(0, rr E.1 194), (1, .int x1)] [] M
  unfold sX12_fails at h
  refine g_rload_n hg dX12_fails_0 rfl 0 rfl ?_
  refine g_iload_n hg dX12_fails_1 rfl 1 rfl ?_
  refine g_putI hg fp_X12_171 ly194 rfl (idb rfl rfl hn) dX12_fails_2 ?_
  refine g_iconst hg dX12_fails_5 kI_0 ?_
  replace h := Option.some.inj h
  subst h
  exact g_iret hg hr dX12_fails_6
theorem lkX12_look {l0 : Launch} {E : En} {d n : Nat} {Rf : Nat → Nat → Nat} {ex : Bool} {kq : Nat × Nat} (hd : 4 ≤ d) (hn : 238 ≤ n) (hRf : RfOk 194 238 kq Rf) {x1 : Int32} {x2 : Int32} {M : Mm} {q : Int32 × Mm} (h : sX12_look x1 x2 M = some q) : Ct l0 E yX12_look cX12_look 3 (some .int) d 0 0 [rr E.1 194, .int x1, .int x2] ex n Rf M n Rf (some (.int q.1)) q.2 := by
  obtain ⟨d, rfl⟩ := Nat.exists_eq_add_of_le' hd
  refine Ct.of pnX12 (Nat.le_of_ble_eq_true rfl) (fun g hg hr _ => ?_)
  replace hg : Ok g l0 E cX12_look RX12 3 (d + 4) 0 0 := hg
  show WG g E 3 n Rf ex 0 0 0 [(0, rr E.1 194), (1, .int x1), (2, .int x2)] [] M
  unfold sX12_look at h
  refine g_rload_n hg dX12_look_0 rfl 0 rfl ?_
  refine g_iconst hg dX12_look_1 kI_0 ?_
  refine g_putI hg fp_X12_171 ly194 rfl (idb rfl rfl hn) dX12_look_2 ?_
  refine g_rload_n hg dX12_look_5 rfl 0 rfl ?_
  refine g_iload_n hg dX12_look_6 rfl 1 rfl ?_
  obtain ⟨q7, e7, h⟩ := Option.bind_eq_some_iff.mp h
  refine g_callVi (As := [.int x1]) (rest := []) hg (lkX12_isCell (by omega) hn hRf  e7) cv_X12_180 rfl ly194 (idb rfl rfl hn) rfl rfl (Nat.le_of_ble_eq_true rfl) ⟨Nat.le_refl _, Nat.le_refl _⟩ dX12_look_7 ?_
  refine g_if_ne (tgt := 19) hg dX12_look_10 (by decide) (fun c => ?_) (fun c => ?_)
  · replace h := itF c h
    refine g_iload_n hg dX12_look_19 rfl 2 rfl ?_
    by_cases c0w : x2 = 0
    · replace h := itT c0w h
      refine g_tabI (tgt := 68) (off := 48) hg dX12_look_20 c0w (by decide) (by decide) ?_
      refine g_rload_n hg dX12_look_68 rfl 0 rfl ?_
      refine g_iload_n hg dX12_look_69 rfl 1 rfl ?_
      obtain ⟨q70, e70, h⟩ := Option.bind_eq_some_iff.mp h
      refine g_callVi (As := [.int x1]) (rest := []) hg (lkX12_slope (by omega) hn hRf  e70) cv_X12_362 rfl ly194 (idb rfl rfl hn) rfl rfl (Nat.le_of_ble_eq_true rfl) ⟨Nat.le_refl _, Nat.le_refl _⟩ dX12_look_70 ?_
      replace h := Option.some.inj h
      subst h
      exact g_iret hg hr dX12_look_73
    replace h := itF c0w h
    by_cases c1w : x2 = 1
    · replace h := itT c1w h
      refine g_tabI (tgt := 74) (off := 54) hg dX12_look_20 c1w (by decide) (by decide) ?_
      refine g_rload_n hg dX12_look_74 rfl 0 rfl ?_
      refine g_iload_n hg dX12_look_75 rfl 1 rfl ?_
      obtain ⟨q76, e76, h⟩ := Option.bind_eq_some_iff.mp h
      refine g_callVi (As := [.int x1]) (rest := []) hg (lkX12_steep (by omega) hn hRf  e76) cv_X12_368 rfl ly194 (idb rfl rfl hn) rfl rfl (Nat.le_of_ble_eq_true rfl) ⟨Nat.le_refl _, Nat.le_refl _⟩ dX12_look_76 ?_
      replace h := Option.some.inj h
      subst h
      exact g_iret hg hr dX12_look_79
    replace h := itF c1w h
    by_cases c2w : x2 = 2
    · replace h := itT c2w h
      refine g_tabI (tgt := 80) (off := 60) hg dX12_look_20 c2w (by decide) (by decide) ?_
      refine g_rload_n hg dX12_look_80 rfl 0 rfl ?_
      refine g_iload_n hg dX12_look_81 rfl 1 rfl ?_
      obtain ⟨q82, e82, h⟩ := Option.bind_eq_some_iff.mp h
      refine g_callVi (As := [.int x1]) (rest := []) hg (lkX12_feel (by omega) hn hRf  e82) cv_X12_371 rfl ly194 (idb rfl rfl hn) rfl rfl (Nat.le_of_ble_eq_true rfl) ⟨Nat.le_refl _, Nat.le_refl _⟩ dX12_look_82 ?_
      replace h := Option.some.inj h
      subst h
      exact g_iret hg hr dX12_look_85
    replace h := itF c2w h
    by_cases c3w : x2 = 3
    · replace h := itT c3w h
      refine g_tabI (tgt := 86) (off := 66) hg dX12_look_20 c3w (by decide) (by decide) ?_
      refine g_rload_n hg dX12_look_86 rfl 0 rfl ?_
      refine g_getR (r := 196) hg fl_X12_20 ly194 rfl (idb rfl rfl hn) (rfc hRf rfl rfl rfl rfl) (by decide) dX12_look_87 ?_
      refine g_iload_n hg dX12_look_90 rfl 1 rfl ?_
      obtain ⟨c91, h⟩ := ck_some h
      refine g_iald hg ly196 (idb rfl rfl hn) (inb_vp c91) dX12_look_91 ?_
      replace h := Option.some.inj h
      subst h
      exact g_iret hg hr dX12_look_92
    replace h := itF c3w h
    by_cases c4w : x2 = 4
    · replace h := itT c4w h
      refine g_tabI (tgt := 93) (off := 73) hg dX12_look_20 c4w (by decide) (by decide) ?_
      refine g_rload_n hg dX12_look_93 rfl 0 rfl ?_
      refine g_getR (r := 197) hg fl_X12_23 ly194 rfl (idb rfl rfl hn) (rfc hRf rfl rfl rfl rfl) (by decide) dX12_look_94 ?_
      refine g_iload_n hg dX12_look_97 rfl 1 rfl ?_
      obtain ⟨c98, h⟩ := ck_some h
      refine g_iald hg ly197 (idb rfl rfl hn) (inb_vp c98) dX12_look_98 ?_
      replace h := Option.some.inj h
      subst h
      exact g_iret hg hr dX12_look_99
    replace h := itF c4w h
    by_cases c5w : x2 = 5
    · replace h := itT c5w h
      refine g_tabI (tgt := 100) (off := 80) hg dX12_look_20 c5w (by decide) (by decide) ?_
      refine g_rload_n hg dX12_look_100 rfl 0 rfl ?_
      refine g_getR (r := 198) hg fl_X12_26 ly194 rfl (idb rfl rfl hn) (rfc hRf rfl rfl rfl rfl) (by decide) dX12_look_101 ?_
      refine g_iload_n hg dX12_look_104 rfl 1 rfl ?_
      obtain ⟨c105, h⟩ := ck_some h
      refine g_iald hg ly198 (idb rfl rfl hn) (inb_vp c105) dX12_look_105 ?_
      replace h := Option.some.inj h
      subst h
      exact g_iret hg hr dX12_look_106
    replace h := itF c5w h
    by_cases c6w : x2 = 6
    · replace h := itT c6w h
      refine g_tabI (tgt := 107) (off := 87) hg dX12_look_20 c6w (by decide) (by decide) ?_
      refine g_rload_n hg dX12_look_107 rfl 0 rfl ?_
      refine g_getR (r := 199) hg fl_X12_29 ly194 rfl (idb rfl rfl hn) (rfc hRf rfl rfl rfl rfl) (by decide) dX12_look_108 ?_
      refine g_iload_n hg dX12_look_111 rfl 1 rfl ?_
      obtain ⟨c112, h⟩ := ck_some h
      refine g_iald hg ly199 (idb rfl rfl hn) (inb_vp c112) dX12_look_112 ?_
      replace h := Option.some.inj h
      subst h
      exact g_iret hg hr dX12_look_113
    replace h := itF c6w h
    by_cases c7w : x2 = 7
    · replace h := itT c7w h
      refine g_tabI (tgt := 114) (off := 94) hg dX12_look_20 c7w (by decide) (by decide) ?_
      refine g_rload_n hg dX12_look_114 rfl 0 rfl ?_
      refine g_getR (r := 200) hg fl_X12_32 ly194 rfl (idb rfl rfl hn) (rfc hRf rfl rfl rfl rfl) (by decide) dX12_look_115 ?_
      refine g_iload_n hg dX12_look_118 rfl 1 rfl ?_
      obtain ⟨c119, h⟩ := ck_some h
      refine g_iald hg ly200 (idb rfl rfl hn) (inb_vp c119) dX12_look_119 ?_
      replace h := Option.some.inj h
      subst h
      exact g_iret hg hr dX12_look_120
    replace h := itF c7w h
    refine g_tabO (tgt := 121) hg dX12_look_20 (by have e0w := lv_neT (a := 0) c0w (by decide); have e1w := lv_neT (a := 1) c1w (by decide); have e2w := lv_neT (a := 2) c2w (by decide); have e3w := lv_neT (a := 3) c3w (by decide); have e4w := lv_neT (a := 4) c4w (by decide); have e5w := lv_neT (a := 5) c5w (by decide); have e6w := lv_neT (a := 6) c6w (by decide); have e7w := lv_neT (a := 7) c7w (by decide); omega) (by decide) ?_
    refine g_rload_n hg dX12_look_121 rfl 0 rfl ?_
    refine g_iconst hg dX12_look_122 kI_2 ?_
    obtain ⟨q123, e123, h⟩ := Option.bind_eq_some_iff.mp h
    refine g_callVi (As := [.int 2]) (rest := []) hg (lkX12_fails (by omega) hn hRf  e123) cv_X12_365 rfl ly194 (idb rfl rfl hn) rfl rfl (Nat.le_of_ble_eq_true rfl) ⟨Nat.le_refl _, Nat.le_refl _⟩ dX12_look_123 ?_
    replace h := Option.some.inj h
    subst h
    exact g_iret hg hr dX12_look_126
  · replace h := itT c h
    refine g_rload_n hg dX12_look_13 rfl 0 rfl ?_
    refine g_iconst hg dX12_look_14 kI_1 ?_
    obtain ⟨q15, e15, h⟩ := Option.bind_eq_some_iff.mp h
    refine g_callVi (As := [.int 1]) (rest := []) hg (lkX12_fails (by omega) hn hRf  e15) cv_X12_365 rfl ly194 (idb rfl rfl hn) rfl rfl (Nat.le_of_ble_eq_true rfl) ⟨Nat.le_refl _, Nat.le_refl _⟩ dX12_look_15 ?_
    replace h := Option.some.inj h
    subst h
    exact g_iret hg hr dX12_look_18
theorem lkX12_far {l0 : Launch} {E : En} {d n : Nat} {Rf : Nat → Nat → Nat} {ex : Bool} {kq : Nat × Nat} (hd : 2 ≤ d) (hn : 238 ≤ n) (hRf : RfOk 194 238 kq Rf) {x1 : Int32} {x2 : Int32} {M : Mm} {q : Int32 × Mm} (h : sX12_far x1 x2 M = some q) : Ct l0 E yX12_far cX12_far 5 (some .int) d 0 0 [rr E.1 194, .int x1, .int x2] ex n Rf M n Rf (some (.int q.1)) q.2 := by
  obtain ⟨d, rfl⟩ := Nat.exists_eq_add_of_le' hd
  refine Ct.of pnX12 (Nat.le_of_ble_eq_true rfl) (fun g hg hr _ => ?_)
  replace hg : Ok g l0 E cX12_far RX12 5 (d + 2) 0 0 := hg
  show WG g E 5 n Rf ex 0 0 0 [(0, rr E.1 194), (1, .int x1), (2, .int x2)] [] M
  unfold sX12_far at h
  refine g_iload_n hg dX12_far_0 rfl 1 rfl ?_
  refine g_rload_n hg dX12_far_1 rfl 0 rfl ?_
  refine g_getI hg fl_X12_13 ly194 rfl (idb rfl rfl hn) dX12_far_2 ?_
  obtain ⟨c5, h⟩ := ck_some h
  refine g_irem hg dX12_far_5 (nz_ne c5) ?_
  refine g_iload_n hg dX12_far_6 rfl 2 rfl ?_
  refine g_rload_n hg dX12_far_7 rfl 0 rfl ?_
  refine g_getI hg fl_X12_13 ly194 rfl (idb rfl rfl hn) dX12_far_8 ?_
  obtain ⟨c11, h⟩ := ck_some h
  refine g_irem hg dX12_far_11 (nz_ne c11) ?_
  refine g_isub hg dX12_far_12 ?_
  obtain ⟨q13, e13, h⟩ := Option.bind_eq_some_iff.mp h
  refine g_callSi (As := [.int ((x1 - x1 / (M.1 194 3) * (M.1 194 3)) - (x2 - x2 / (M.1 194 3) * (M.1 194 3)))]) (rest := []) hg (lkX12_size (by omega) hn hRf  e13) cs_X12_359 rfl rfl (Nat.le_of_ble_eq_true rfl) ⟨Nat.le_refl _, Nat.le_refl _⟩ dX12_far_13 ?_
  refine g_istore_n (lv' := [(3, .int q13.1), (0, rr E.1 194), (1, .int x1), (2, .int x2)]) hg dX12_far_16 rfl (by decide) rfl ?_
  refine g_iload_n hg dX12_far_17 rfl 2 rfl ?_
  refine g_rload_n hg dX12_far_18 rfl 1 rfl ?_
  refine g_getI hg fl_X12_13 ly194 rfl (idb rfl rfl hn) dX12_far_19 ?_
  obtain ⟨c22, h⟩ := ck_some h
  refine g_idiv hg dX12_far_22 (nz_ne c22) ?_
  refine g_iload_n hg dX12_far_23 rfl 3 rfl ?_
  refine g_rload_n hg dX12_far_24 rfl 1 rfl ?_
  refine g_getI hg fl_X12_13 ly194 rfl (idb rfl rfl hn) dX12_far_25 ?_
  obtain ⟨c28, h⟩ := ck_some h
  refine g_idiv hg dX12_far_28 (nz_ne c28) ?_
  refine g_isub hg dX12_far_29 ?_
  obtain ⟨q30, e30, h⟩ := Option.bind_eq_some_iff.mp h
  refine g_callSi (As := [.int ((x1 / (q13.2.1 194 3)) - (x2 / (q13.2.1 194 3)))]) (rest := []) hg (lkX12_size (by omega) hn hRf  e30) cs_X12_359 rfl rfl (Nat.le_of_ble_eq_true rfl) ⟨Nat.le_refl _, Nat.le_refl _⟩ dX12_far_30 ?_
  refine g_istore (lv' := [(4, .int q30.1), (3, .int q13.1), (0, rr E.1 194), (1, .int x1), (2, .int x2)]) hg dX12_far_33 (by decide) rfl ?_
  refine g_iload_n hg dX12_far_35 rfl 1 rfl ?_
  refine g_iload hg dX12_far_36 0 rfl ?_
  refine g_icmp_le (tgt := 45) hg dX12_far_38 (by decide) (fun c => ?_) (fun c => ?_)
  · rw [if_pos c] at h
    refine g_iload hg dX12_far_45 0 rfl ?_
    replace h := Option.some.inj h
    subst h
    exact g_iret hg hr dX12_far_47
  · rw [if_neg c] at h
    refine g_iload_n hg dX12_far_41 rfl 1 rfl ?_
    refine g_goto (tgt := 47) hg dX12_far_42 (by decide) ?_
    replace h := Option.some.inj h
    subst h
    exact g_iret hg hr dX12_far_47
theorem lkX12_alike_67 {g : Gm} {l0 : Launch} {E : En} {d n : Nat} {Rf : Nat → Nat → Nat} {ex : Bool} {kq : Nat × Nat} (hn : 238 ≤ n) (hRf : RfOk 194 238 kq Rf) (hg : Ok g l0 E cX12_alike RX12 4 (d + 4) 0 0) {q : Int32 × Mm} (hr : Ret g E 0 0 (some .int) ex n Rf (some (.int q.1)) q.2) : ∀ (x1 : Int32) (x2 : Int32) (s0 : Int32) (s1 : Int32) (M : Mm), sX12_alike_67 x1 x2 s0 s1 M = some q → WG g E 4 n Rf ex 0 0 67 [(0, rr E.1 194), (1, .int x1), (2, .int x2)] [.int s1, .int s0] M := by
  intro x1 x2 s0 s1 M h
  unfold sX12_alike_67 at h
  refine g_iadd hg dX12_alike_67 ?_
  refine g_istore_n (lv' := [(3, .int (s0 + s1)), (0, rr E.1 194), (1, .int x1), (2, .int x2)]) hg dX12_alike_68 rfl (by decide) rfl ?_
  refine g_iload_n hg dX12_alike_69 rfl 0 rfl ?_
  refine g_rload_n hg dX12_alike_70 rfl 1 rfl ?_
  refine g_iload_n hg dX12_alike_71 rfl 2 rfl ?_
  obtain ⟨q72, e72, h⟩ := Option.bind_eq_some_iff.mp h
  refine g_callVi (As := [.int x1]) (rest := [.int (s0 + s1)]) hg (lkX12_feel (by omega) hn hRf  e72) cv_X12_371 rfl ly194 (idb rfl rfl hn) rfl rfl (Nat.le_of_ble_eq_true rfl) ⟨Nat.le_refl _, Nat.le_refl _⟩ dX12_alike_72 ?_
  refine g_if_lt (tgt := 95) hg dX12_alike_75 (by decide) (fun c => ?_) (fun c => ?_)
  · replace h := itT c h
    refine g_iconst hg dX12_alike_95 kI_0 ?_
    refine g_iadd hg dX12_alike_96 ?_
    replace h := Option.some.inj h
    subst h
    exact g_iret hg hr dX12_alike_97
  · replace h := itF c h
    refine g_rload_n hg dX12_alike_78 rfl 1 rfl ?_
    refine g_iload_n hg dX12_alike_79 rfl 2 rfl ?_
    obtain ⟨q80, e80, h⟩ := Option.bind_eq_some_iff.mp h
    refine g_callVi (As := [.int x1]) (rest := [.int (s0 + s1)]) hg (lkX12_feel (by omega) hn hRf  e80) cv_X12_371 rfl ly194 (idb rfl rfl hn) rfl rfl (Nat.le_of_ble_eq_true rfl) ⟨Nat.le_refl _, Nat.le_refl _⟩ dX12_alike_80 ?_
    refine g_rload_n hg dX12_alike_83 rfl 1 rfl ?_
    refine g_iload_n hg dX12_alike_84 rfl 3 rfl ?_
    obtain ⟨q85, e85, h⟩ := Option.bind_eq_some_iff.mp h
    refine g_callVi (As := [.int x2]) (rest := [.int q80.1, .int (s0 + s1)]) hg (lkX12_feel (by omega) hn hRf  e85) cv_X12_371 rfl ly194 (idb rfl rfl hn) rfl rfl (Nat.le_of_ble_eq_true rfl) ⟨Nat.le_refl _, Nat.le_refl _⟩ dX12_alike_85 ?_
    refine g_icmp_ne (tgt := 95) hg dX12_alike_88 (by decide) (fun c => ?_) (fun c => ?_)
    · rw [if_neg c] at h
      refine g_iconst hg dX12_alike_95 kI_0 ?_
      refine g_iadd hg dX12_alike_96 ?_
      replace h := Option.some.inj h
      subst h
      exact g_iret hg hr dX12_alike_97
    · rw [if_pos c] at h
      refine g_iconst hg dX12_alike_91 kI_2 ?_
      refine g_goto (tgt := 96) hg dX12_alike_92 (by decide) ?_
      refine g_iadd hg dX12_alike_96 ?_
      replace h := Option.some.inj h
      subst h
      exact g_iret hg hr dX12_alike_97
theorem lkX12_alike_46 {g : Gm} {l0 : Launch} {E : En} {d n : Nat} {Rf : Nat → Nat → Nat} {ex : Bool} {kq : Nat × Nat} (hn : 238 ≤ n) (hRf : RfOk 194 238 kq Rf) (hg : Ok g l0 E cX12_alike RX12 4 (d + 4) 0 0) {q : Int32 × Mm} (hr : Ret g E 0 0 (some .int) ex n Rf (some (.int q.1)) q.2) : ∀ (x1 : Int32) (x2 : Int32) (s0 : Int32) (s1 : Int32) (M : Mm), sX12_alike_46 x1 x2 s0 s1 M = some q → WG g E 4 n Rf ex 0 0 46 [(0, rr E.1 194), (1, .int x1), (2, .int x2)] [.int s1, .int s0] M := by
  intro x1 x2 s0 s1 M h
  unfold sX12_alike_46 at h
  refine g_iadd hg dX12_alike_46 ?_
  refine g_istore_n (lv' := [(3, .int (s0 + s1)), (0, rr E.1 194), (1, .int x1), (2, .int x2)]) hg dX12_alike_47 rfl (by decide) rfl ?_
  refine g_iload_n hg dX12_alike_48 rfl 0 rfl ?_
  refine g_rload_n hg dX12_alike_49 rfl 1 rfl ?_
  refine g_iload_n hg dX12_alike_50 rfl 2 rfl ?_
  obtain ⟨q51, e51, h⟩ := Option.bind_eq_some_iff.mp h
  refine g_callVi (As := [.int x1]) (rest := [.int (s0 + s1)]) hg (lkX12_steep (by omega) hn hRf  e51) cv_X12_368 rfl ly194 (idb rfl rfl hn) rfl rfl (Nat.le_of_ble_eq_true rfl) ⟨Nat.le_refl _, Nat.le_refl _⟩ dX12_alike_51 ?_
  refine g_rload_n hg dX12_alike_54 rfl 1 rfl ?_
  refine g_iload_n hg dX12_alike_55 rfl 3 rfl ?_
  obtain ⟨q56, e56, h⟩ := Option.bind_eq_some_iff.mp h
  refine g_callVi (As := [.int x2]) (rest := [.int q51.1, .int (s0 + s1)]) hg (lkX12_steep (by omega) hn hRf  e56) cv_X12_368 rfl ly194 (idb rfl rfl hn) rfl rfl (Nat.le_of_ble_eq_true rfl) ⟨Nat.le_refl _, Nat.le_refl _⟩ dX12_alike_56 ?_
  refine g_icmp_ne (tgt := 66) hg dX12_alike_59 (by decide) (fun c => ?_) (fun c => ?_)
  · rw [if_neg c] at h
    refine g_iconst hg dX12_alike_66 kI_0 ?_
    refine g_sub (lv' := [(0, rr E.1 194), (1, .int x1), (2, .int x2)]) [1, 2, 3] rfl ?_
    exact lkX12_alike_67 hn hRf hg hr  _ _ _ _ _ h
  · rw [if_pos c] at h
    refine g_iconst hg dX12_alike_62 kI_2 ?_
    refine g_goto (tgt := 67) hg dX12_alike_63 (by decide) ?_
    refine g_sub (lv' := [(0, rr E.1 194), (1, .int x1), (2, .int x2)]) [1, 2, 3] rfl ?_
    exact lkX12_alike_67 hn hRf hg hr  _ _ _ _ _ h
theorem lkX12_alike_24 {g : Gm} {l0 : Launch} {E : En} {d n : Nat} {Rf : Nat → Nat → Nat} {ex : Bool} {kq : Nat × Nat} (hn : 238 ≤ n) (hRf : RfOk 194 238 kq Rf) (hg : Ok g l0 E cX12_alike RX12 4 (d + 4) 0 0) {q : Int32 × Mm} (hr : Ret g E 0 0 (some .int) ex n Rf (some (.int q.1)) q.2) : ∀ (x1 : Int32) (x2 : Int32) (s0 : Int32) (M : Mm), sX12_alike_24 x1 x2 s0 M = some q → WG g E 4 n Rf ex 0 0 24 [(0, rr E.1 194), (1, .int x1), (2, .int x2)] [.int s0] M := by
  intro x1 x2 s0 M h
  unfold sX12_alike_24 at h
  refine g_istore_n (lv' := [(3, .int s0), (0, rr E.1 194), (1, .int x1), (2, .int x2)]) hg dX12_alike_24 rfl (by decide) rfl ?_
  refine g_iload_n hg dX12_alike_25 rfl 0 rfl ?_
  refine g_rload_n hg dX12_alike_26 rfl 1 rfl ?_
  refine g_getR (r := 197) hg fl_X12_23 ly194 rfl (idb rfl rfl hn) (rfc hRf rfl rfl rfl rfl) (by decide) dX12_alike_27 ?_
  refine g_iload_n hg dX12_alike_30 rfl 2 rfl ?_
  obtain ⟨c31, h⟩ := ck_some h
  refine g_iald hg ly197 (idb rfl rfl hn) (inb_vp c31) dX12_alike_31 ?_
  refine g_rload_n hg dX12_alike_32 rfl 1 rfl ?_
  refine g_getR (r := 197) hg fl_X12_23 ly194 rfl (idb rfl rfl hn) (rfc hRf rfl rfl rfl rfl) (by decide) dX12_alike_33 ?_
  refine g_iload_n hg dX12_alike_36 rfl 3 rfl ?_
  obtain ⟨c37, h⟩ := ck_some h
  refine g_iald hg ly197 (idb rfl rfl hn) (inb_vp c37) dX12_alike_37 ?_
  refine g_icmp_ne (tgt := 45) hg dX12_alike_38 (by decide) (fun c => ?_) (fun c => ?_)
  · rw [if_neg c] at h
    refine g_iconst hg dX12_alike_45 kI_0 ?_
    refine g_sub (lv' := [(0, rr E.1 194), (1, .int x1), (2, .int x2)]) [1, 2, 3] rfl ?_
    exact lkX12_alike_46 hn hRf hg hr  _ _ _ _ _ h
  · rw [if_pos c] at h
    refine g_iconst hg dX12_alike_41 kI_4 ?_
    refine g_goto (tgt := 46) hg dX12_alike_42 (by decide) ?_
    refine g_sub (lv' := [(0, rr E.1 194), (1, .int x1), (2, .int x2)]) [1, 2, 3] rfl ?_
    exact lkX12_alike_46 hn hRf hg hr  _ _ _ _ _ h
theorem lkX12_alike {l0 : Launch} {E : En} {d n : Nat} {Rf : Nat → Nat → Nat} {ex : Bool} {kq : Nat × Nat} (hd : 4 ≤ d) (hn : 238 ≤ n) (hRf : RfOk 194 238 kq Rf) {x1 : Int32} {x2 : Int32} {M : Mm} {q : Int32 × Mm} (h : sX12_alike x1 x2 M = some q) : Ct l0 E yX12_alike cX12_alike 4 (some .int) d 0 0 [rr E.1 194, .int x1, .int x2] ex n Rf M n Rf (some (.int q.1)) q.2 := by
  obtain ⟨d, rfl⟩ := Nat.exists_eq_add_of_le' hd
  refine Ct.of pnX12 (Nat.le_of_ble_eq_true rfl) (fun g hg hr _ => ?_)
  replace hg : Ok g l0 E cX12_alike RX12 4 (d + 4) 0 0 := hg
  show WG g E 4 n Rf ex 0 0 0 [(0, rr E.1 194), (1, .int x1), (2, .int x2)] [] M
  unfold sX12_alike at h
  refine g_rload_n hg dX12_alike_0 rfl 0 rfl ?_
  refine g_iload_n hg dX12_alike_1 rfl 1 rfl ?_
  refine g_iload_n hg dX12_alike_2 rfl 2 rfl ?_
  obtain ⟨q3, e3, h⟩ := Option.bind_eq_some_iff.mp h
  refine g_callVi (As := [.int x1, .int x2]) (rest := []) hg (lkX12_far (by omega) hn hRf  e3) cv_X12_374 rfl ly194 (idb rfl rfl hn) rfl rfl (Nat.le_of_ble_eq_true rfl) ⟨Nat.le_refl _, Nat.le_refl _⟩ dX12_alike_3 ?_
  refine g_bipush hg dX12_alike_6 kB_6 ?_
  refine g_icmp_ge (tgt := 23) hg dX12_alike_8 (by decide) (fun c => ?_) (fun c => ?_)
  · replace h := itT c h
    refine g_iconst hg dX12_alike_23 kI_0 ?_
    exact lkX12_alike_24 hn hRf hg hr  _ _ _ _ h
  · replace h := itF c h
    refine g_bipush hg dX12_alike_11 kB_6 ?_
    refine g_rload_n hg dX12_alike_13 rfl 0 rfl ?_
    refine g_iload_n hg dX12_alike_14 rfl 1 rfl ?_
    refine g_iload_n hg dX12_alike_15 rfl 2 rfl ?_
    obtain ⟨q16, e16, h⟩ := Option.bind_eq_some_iff.mp h
    refine g_callVi (As := [.int x1, .int x2]) (rest := [.int 6]) hg (lkX12_far (by omega) hn hRf  e16) cv_X12_374 rfl ly194 (idb rfl rfl hn) rfl rfl (Nat.le_of_ble_eq_true rfl) ⟨Nat.le_refl _, Nat.le_refl _⟩ dX12_alike_16 ?_
    refine g_isub hg dX12_alike_19 ?_
    refine g_goto (tgt := 24) hg dX12_alike_20 (by decide) ?_
    exact lkX12_alike_24 hn hRf hg hr  _ _ _ _ h
theorem lkX12_like {l0 : Launch} {E : En} {d n : Nat} {Rf : Nat → Nat → Nat} {ex : Bool} {kq : Nat × Nat} (hd : 5 ≤ d) (hn : 238 ≤ n) (hRf : RfOk 194 238 kq Rf) {x1 : Int32} {x2 : Int32} {M : Mm} {q : Int32 × Mm} (h : sX12_like x1 x2 M = some q) : Ct l0 E yX12_like cX12_like 3 (some .int) d 0 0 [rr E.1 194, .int x1, .int x2] ex n Rf M n Rf (some (.int q.1)) q.2 := by
  obtain ⟨d, rfl⟩ := Nat.exists_eq_add_of_le' hd
  refine Ct.of pnX12 (Nat.le_of_ble_eq_true rfl) (fun g hg hr _ => ?_)
  replace hg : Ok g l0 E cX12_like RX12 3 (d + 5) 0 0 := hg
  show WG g E 3 n Rf ex 0 0 0 [(0, rr E.1 194), (1, .int x1), (2, .int x2)] [] M
  unfold sX12_like at h
  refine g_rload_n hg dX12_like_0 rfl 0 rfl ?_
  refine g_iconst hg dX12_like_1 kI_0 ?_
  refine g_putI hg fp_X12_171 ly194 rfl (idb rfl rfl hn) dX12_like_2 ?_
  refine g_rload_n hg dX12_like_5 rfl 0 rfl ?_
  refine g_iload_n hg dX12_like_6 rfl 1 rfl ?_
  obtain ⟨q7, e7, h⟩ := Option.bind_eq_some_iff.mp h
  refine g_callVi (As := [.int x1]) (rest := []) hg (lkX12_isCell (by omega) hn hRf  e7) cv_X12_180 rfl ly194 (idb rfl rfl hn) rfl rfl (Nat.le_of_ble_eq_true rfl) ⟨Nat.le_refl _, Nat.le_refl _⟩ dX12_like_7 ?_
  refine g_if_eq (tgt := 30) hg dX12_like_10 (by decide) (fun c => ?_) (fun c => ?_)
  · replace h := itT c h
    refine g_iconst hg dX12_like_30 kI_m1 ?_
    replace h := Option.some.inj h
    subst h
    exact g_iret hg hr dX12_like_31
  · replace h := itF c h
    refine g_rload_n hg dX12_like_13 rfl 0 rfl ?_
    refine g_iload_n hg dX12_like_14 rfl 2 rfl ?_
    obtain ⟨q15, e15, h⟩ := Option.bind_eq_some_iff.mp h
    refine g_callVi (As := [.int x2]) (rest := []) hg (lkX12_isCell (by omega) hn hRf  e15) cv_X12_180 rfl ly194 (idb rfl rfl hn) rfl rfl (Nat.le_of_ble_eq_true rfl) ⟨Nat.le_refl _, Nat.le_refl _⟩ dX12_like_15 ?_
    refine g_if_eq (tgt := 30) hg dX12_like_18 (by decide) (fun c => ?_) (fun c => ?_)
    · replace h := itT c h
      refine g_iconst hg dX12_like_30 kI_m1 ?_
      replace h := Option.some.inj h
      subst h
      exact g_iret hg hr dX12_like_31
    · replace h := itF c h
      refine g_rload_n hg dX12_like_21 rfl 0 rfl ?_
      refine g_iload_n hg dX12_like_22 rfl 1 rfl ?_
      refine g_iload_n hg dX12_like_23 rfl 2 rfl ?_
      obtain ⟨q24, e24, h⟩ := Option.bind_eq_some_iff.mp h
      refine g_callVi (As := [.int x1, .int x2]) (rest := []) hg (lkX12_alike (by omega) hn hRf  e24) cv_X12_377 rfl ly194 (idb rfl rfl hn) rfl rfl (Nat.le_of_ble_eq_true rfl) ⟨Nat.le_refl _, Nat.le_refl _⟩ dX12_like_24 ?_
      refine g_goto (tgt := 31) hg dX12_like_27 (by decide) ?_
      replace h := Option.some.inj h
      subst h
      exact g_iret hg hr dX12_like_31
theorem lkX12_reads_197 {g : Gm} {l0 : Launch} {E : En} {d n : Nat} {Rf : Nat → Nat → Nat} {ex : Bool} {kq : Nat × Nat} (hn : 238 ≤ n) (hRf : RfOk 194 238 kq Rf) (hg : Ok g l0 E cX12_reads RX12 10 (d + 1) 0 0) {q : Int32 × Mm} (hr : Ret g E 0 0 (some .boolean) ex n Rf (some (.int q.1)) q.2) : ∀ (F : Nat) (x1 : Int32) (x2 : Int32) (x8 : Int32) (M : Mm), sX12_reads_197 F x1 x2 x8 M = some q → WG g E 10 n Rf ex 0 0 197 [(0, rr E.1 194), (1, .int x1), (2, .int x2), (8, .int x8)] [] M := by
  intro F
  induction F with
  | zero =>
    intro x1 x2 x8 M h
    cases h
  | succ F ih =>
    intro x1 x2 x8 M h
    rw [sX12_reads_197] at h
    refine g_iload hg dX12_reads_197 3 rfl ?_
    refine g_bipush hg dX12_reads_199 kB_8 ?_
    refine g_icmp_ge (tgt := 234) hg dX12_reads_201 (by decide) (fun c => ?_) (fun c => ?_)
    · replace h := itT c h
      refine g_iconst hg dX12_reads_234 kI_1 ?_
      replace h := Option.some.inj h
      subst h
      exact g_zret hg hr rfl dX12_reads_235
    · replace h := itF c h
      refine g_rload_n hg dX12_reads_204 rfl 0 rfl ?_
      refine g_getR (r := 224) hg fl_X12_126 ly194 rfl (idb rfl rfl hn) (rfc hRf rfl rfl rfl rfl) (by decide) dX12_reads_205 ?_
      refine g_bipush hg dX12_reads_208 kB_64 ?_
      refine g_iload_n hg dX12_reads_210 rfl 1 rfl ?_
      refine g_imul hg dX12_reads_211 ?_
      refine g_bipush hg dX12_reads_212 kB_8 ?_
      refine g_iload_n hg dX12_reads_214 rfl 2 rfl ?_
      refine g_imul hg dX12_reads_215 ?_
      refine g_iadd hg dX12_reads_216 ?_
      refine g_iload hg dX12_reads_217 3 rfl ?_
      refine g_iadd hg dX12_reads_219 ?_
      refine g_rload_n hg dX12_reads_220 rfl 0 rfl ?_
      refine g_getR (r := 226) hg fl_X12_132 ly194 rfl (idb rfl rfl hn) (rfc hRf rfl rfl rfl rfl) (by decide) dX12_reads_221 ?_
      refine g_iload hg dX12_reads_224 3 rfl ?_
      obtain ⟨c226, h⟩ := ck_some h
      refine g_iald hg ly226 (idb rfl rfl hn) (inb_vp c226) dX12_reads_226 ?_
      obtain ⟨c227, h⟩ := ck_some h
      refine g_iast hg ly224 (idb rfl rfl hn) (inb_vp c227) dX12_reads_227 ?_
      refine g_inc (lv' := [(8, .int (x8 + 1)), (0, rr E.1 194), (1, .int x1), (2, .int x2)]) hg dX12_reads_228 kI_1 3 rfl (by decide) rfl ?_
      refine g_goto (tgt := 197) hg dX12_reads_231 (by decide) ?_
      refine g_sub (lv' := [(0, rr E.1 194), (1, .int x1), (2, .int x2), (8, .int (x8 + 1))]) [1, 2, 3, 0] rfl ?_
      exact ih _ _ _ _ h
theorem lkX12_reads_169 {g : Gm} {l0 : Launch} {E : En} {d n : Nat} {Rf : Nat → Nat → Nat} {ex : Bool} {kq : Nat × Nat} (hn : 238 ≤ n) (hRf : RfOk 194 238 kq Rf) (hg : Ok g l0 E cX12_reads RX12 10 (d + 1) 0 0) {q : Int32 × Mm} (hr : Ret g E 0 0 (some .boolean) ex n Rf (some (.int q.1)) q.2) : ∀ (F : Nat) (x1 : Int32) (x2 : Int32) (x8 : Int32) (M : Mm), sX12_reads_169 F x1 x2 x8 M = some q → WG g E 10 n Rf ex 0 0 169 [(0, rr E.1 194), (1, .int x1), (2, .int x2), (8, .int x8)] [] M := by
  intro F
  induction F with
  | zero =>
    intro x1 x2 x8 M h
    cases h
  | succ F ih =>
    intro x1 x2 x8 M h
    rw [sX12_reads_169] at h
    refine g_iload hg dX12_reads_169 3 rfl ?_
    refine g_bipush hg dX12_reads_171 kB_8 ?_
    refine g_icmp_ge (tgt := 194) hg dX12_reads_173 (by decide) (fun c => ?_) (fun c => ?_)
    · replace h := itT c h
      refine g_iconst hg dX12_reads_194 kI_0 ?_
      refine g_istore (lv' := [(8, .int 0), (0, rr E.1 194), (1, .int x1), (2, .int x2)]) hg dX12_reads_195 (by decide) rfl ?_
      refine g_sub (lv' := [(0, rr E.1 194), (1, .int x1), (2, .int x2), (8, .int 0)]) [1, 2, 3, 0] rfl ?_
      exact lkX12_reads_197 hn hRf hg hr  4096 _ _ _ _ h
    · replace h := itF c h
      refine g_rload_n hg dX12_reads_176 rfl 0 rfl ?_
      refine g_getR (r := 226) hg fl_X12_132 ly194 rfl (idb rfl rfl hn) (rfc hRf rfl rfl rfl rfl) (by decide) dX12_reads_177 ?_
      refine g_iload hg dX12_reads_180 3 rfl ?_
      obtain ⟨c182, h⟩ := ck_some h
      refine g_iald hg ly226 (idb rfl rfl hn) (inb_vp c182) dX12_reads_182 ?_
      refine g_if_eq (tgt := 188) hg dX12_reads_183 (by decide) (fun c => ?_) (fun c => ?_)
      · replace h := itT c h
        refine g_inc (lv' := [(8, .int (x8 + 1)), (0, rr E.1 194), (1, .int x1), (2, .int x2)]) hg dX12_reads_188 kI_1 3 rfl (by decide) rfl ?_
        refine g_goto (tgt := 169) hg dX12_reads_191 (by decide) ?_
        refine g_sub (lv' := [(0, rr E.1 194), (1, .int x1), (2, .int x2), (8, .int (x8 + 1))]) [1, 2, 3, 0] rfl ?_
        exact ih _ _ _ _ h
      · replace h := itF c h
        refine g_iconst hg dX12_reads_186 kI_0 ?_
        replace h := Option.some.inj h
        subst h
        exact g_zret hg hr rfl dX12_reads_187
theorem lkX12_reads_73 {g : Gm} {l0 : Launch} {E : En} {d n : Nat} {Rf : Nat → Nat → Nat} {ex : Bool} {kq : Nat × Nat} (hn : 238 ≤ n) (hRf : RfOk 194 238 kq Rf) (hg : Ok g l0 E cX12_reads RX12 10 (d + 1) 0 0) {q : Int32 × Mm} (hr : Ret g E 0 0 (some .boolean) ex n Rf (some (.int q.1)) q.2) {k34 : Int32 → Int32 → Int32 → Int32 → Int32 → Int32 → Int32 → Int32 → Mm → Option (Int32 × Mm)} (hk34 : ∀ (x1 : Int32) (x2 : Int32) (x3 : Int32) (x4 : Int32) (x5 : Int32) (x6 : Int32) (x7 : Int32) (x8 : Int32) (M : Mm), k34 x1 x2 x3 x4 x5 x6 x7 x8 M = some q → WG g E 10 n Rf ex 0 0 34 [(0, rr E.1 194), (1, .int x1), (2, .int x2), (3, .int x3), (4, .int x4), (5, .int x5), (6, .int x6), (7, .int x7), (8, .int x8)] [] M) : ∀ (x1 : Int32) (x2 : Int32) (x3 : Int32) (x4 : Int32) (x5 : Int32) (x6 : Int32) (x7 : Int32) (x8 : Int32) (s0 : Int32) (M : Mm), sX12_reads_73 k34 x1 x2 x3 x4 x5 x6 x7 x8 s0 M = some q → WG g E 10 n Rf ex 0 0 73 [(0, rr E.1 194), (1, .int x1), (2, .int x2), (3, .int x3), (4, .int x4), (5, .int x5), (6, .int x6), (7, .int x7), (8, .int x8)] [.int s0] M := by
  intro x1 x2 x3 x4 x5 x6 x7 x8 s0 M h
  unfold sX12_reads_73 at h
  refine g_istore (lv' := [(9, .int s0), (0, rr E.1 194), (1, .int x1), (2, .int x2), (3, .int x3), (4, .int x4), (5, .int x5), (6, .int x6), (7, .int x7), (8, .int x8)]) hg dX12_reads_73 (by decide) rfl ?_
  refine g_iload hg dX12_reads_75 0 rfl ?_
  refine g_if_lt (tgt := 100) hg dX12_reads_77 (by decide) (fun c => ?_) (fun c => ?_)
  · replace h := itT c h
    refine g_iconst hg dX12_reads_100 kI_0 ?_
    replace h := Option.some.inj h
    subst h
    exact g_zret hg hr rfl dX12_reads_101
  · replace h := itF c h
    refine g_iload hg dX12_reads_80 0 rfl ?_
    refine g_bipush hg dX12_reads_82 kB_32 ?_
    refine g_idiv hg dX12_reads_84 (by decide) ?_
    refine g_bipush hg dX12_reads_85 kB_16 ?_
    refine g_icmp_gt (tgt := 100) hg dX12_reads_87 (by decide) (fun c => ?_) (fun c => ?_)
    · replace h := itT c h
      refine g_iconst hg dX12_reads_100 kI_0 ?_
      replace h := Option.some.inj h
      subst h
      exact g_zret hg hr rfl dX12_reads_101
    · replace h := itF c h
      refine g_iload hg dX12_reads_90 0 rfl ?_
      refine g_bipush hg dX12_reads_92 kB_32 ?_
      refine g_irem hg dX12_reads_94 (by decide) ?_
      refine g_bipush hg dX12_reads_95 kB_16 ?_
      refine g_icmp_le (tgt := 102) hg dX12_reads_97 (by decide) (fun c => ?_) (fun c => ?_)
      · replace h := itT c h
        refine g_rload_n hg dX12_reads_102 rfl 1 rfl ?_
        refine g_getR (r := 226) hg fl_X12_132 ly194 rfl (idb rfl rfl hn) (rfc hRf rfl rfl rfl rfl) (by decide) dX12_reads_103 ?_
        refine g_iconst hg dX12_reads_106 kI_2 ?_
        refine g_iload hg dX12_reads_107 9 rfl ?_
        refine g_imul hg dX12_reads_109 ?_
        refine g_iload hg dX12_reads_110 0 rfl ?_
        refine g_bipush hg dX12_reads_112 kB_32 ?_
        refine g_idiv hg dX12_reads_114 (by decide) ?_
        obtain ⟨c115, h⟩ := ck_some h
        refine g_iast hg ly226 (idb rfl rfl hn) (inb_vp c115) dX12_reads_115 ?_
        refine g_rload_n hg dX12_reads_116 rfl 1 rfl ?_
        refine g_getR (r := 226) hg fl_X12_132 ly194 rfl (idb rfl rfl hn) (rfc hRf rfl rfl rfl rfl) (by decide) dX12_reads_117 ?_
        refine g_iconst hg dX12_reads_120 kI_2 ?_
        refine g_iload hg dX12_reads_121 9 rfl ?_
        refine g_imul hg dX12_reads_123 ?_
        refine g_iconst hg dX12_reads_124 kI_1 ?_
        refine g_iadd hg dX12_reads_125 ?_
        refine g_iload hg dX12_reads_126 0 rfl ?_
        refine g_bipush hg dX12_reads_128 kB_32 ?_
        refine g_irem hg dX12_reads_130 (by decide) ?_
        obtain ⟨c131, h⟩ := ck_some h
        refine g_iast hg ly226 (idb rfl rfl hn) (inb_vp c131) dX12_reads_131 ?_
        refine g_iload hg dX12_reads_132 8 rfl ?_
        refine g_iload hg dX12_reads_134 0 rfl ?_
        refine g_bipush hg dX12_reads_136 kB_32 ?_
        refine g_idiv hg dX12_reads_138 (by decide) ?_
        refine g_iload hg dX12_reads_139 0 rfl ?_
        refine g_bipush hg dX12_reads_141 kB_32 ?_
        refine g_irem hg dX12_reads_143 (by decide) ?_
        refine g_iadd hg dX12_reads_144 ?_
        refine g_iadd hg dX12_reads_145 ?_
        refine g_istore (lv' := [(7, .int (x7 + ((s0 / 32) + (s0 - s0 / 32 * 32)))), (9, .int s0), (0, rr E.1 194), (1, .int x1), (2, .int x2), (3, .int x3), (4, .int x4), (5, .int x5), (6, .int x6), (8, .int x8)]) hg dX12_reads_146 (by decide) rfl ?_
        refine g_inc (lv' := [(8, .int (x8 + 1)), (7, .int (x7 + ((s0 / 32) + (s0 - s0 / 32 * 32)))), (9, .int s0), (0, rr E.1 194), (1, .int x1), (2, .int x2), (3, .int x3), (4, .int x4), (5, .int x5), (6, .int x6)]) hg dX12_reads_148 kI_1 9 rfl (by decide) rfl ?_
        refine g_goto (tgt := 34) hg dX12_reads_151 (by decide) ?_
        refine g_sub (lv' := [(0, rr E.1 194), (1, .int x1), (2, .int x2), (3, .int x3), (4, .int x4), (5, .int x5), (6, .int x6), (7, .int (x7 + ((s0 / 32) + (s0 - s0 / 32 * 32)))), (8, .int (x8 + 1))]) [3, 4, 5, 6, 7, 8, 9, 1, 0] rfl ?_
        exact hk34 _ _ _ _ _ _ _ _ _ h
      · replace h := itF c h
        refine g_iconst hg dX12_reads_100 kI_0 ?_
        replace h := Option.some.inj h
        subst h
        exact g_zret hg hr rfl dX12_reads_101
theorem lkX12_reads_34 {g : Gm} {l0 : Launch} {E : En} {d n : Nat} {Rf : Nat → Nat → Nat} {ex : Bool} {kq : Nat × Nat} (hn : 238 ≤ n) (hRf : RfOk 194 238 kq Rf) (hg : Ok g l0 E cX12_reads RX12 10 (d + 1) 0 0) {q : Int32 × Mm} (hr : Ret g E 0 0 (some .boolean) ex n Rf (some (.int q.1)) q.2) : ∀ (F : Nat) (x1 : Int32) (x2 : Int32) (x3 : Int32) (x4 : Int32) (x5 : Int32) (x6 : Int32) (x7 : Int32) (x8 : Int32) (M : Mm), sX12_reads_34 F x1 x2 x3 x4 x5 x6 x7 x8 M = some q → WG g E 10 n Rf ex 0 0 34 [(0, rr E.1 194), (1, .int x1), (2, .int x2), (3, .int x3), (4, .int x4), (5, .int x5), (6, .int x6), (7, .int x7), (8, .int x8)] [] M := by
  intro F
  induction F with
  | zero =>
    intro x1 x2 x3 x4 x5 x6 x7 x8 M h
    cases h
  | succ F ih =>
    intro x1 x2 x3 x4 x5 x6 x7 x8 M h
    rw [sX12_reads_34] at h
    refine g_iload hg dX12_reads_34 8 rfl ?_
    refine g_iconst hg dX12_reads_36 kI_4 ?_
    refine g_icmp_ge (tgt := 154) hg dX12_reads_37 (by decide) (fun c => ?_) (fun c => ?_)
    · replace h := itT c h
      refine g_iload hg dX12_reads_154 7 rfl ?_
      refine g_bipush hg dX12_reads_156 kB_16 ?_
      refine g_icmp_eq (tgt := 163) hg dX12_reads_158 (by decide) (fun c => ?_) (fun c => ?_)
      · replace h := itT c h
        refine g_rload_n hg dX12_reads_163 rfl 0 rfl ?_
        refine g_getI hg fl_X12_330 ly194 rfl (idb rfl rfl hn) dX12_reads_164 ?_
        refine g_istore (lv' := [(8, .int (M.1 194 33)), (0, rr E.1 194), (1, .int x1), (2, .int x2), (3, .int x3), (4, .int x4), (5, .int x5), (6, .int x6), (7, .int x7)]) hg dX12_reads_167 (by decide) rfl ?_
        refine g_sub (lv' := [(0, rr E.1 194), (1, .int x1), (2, .int x2), (8, .int (M.1 194 33))]) [1, 2, 3, 0] rfl ?_
        exact lkX12_reads_169 hn hRf hg hr  4096 _ _ _ _ h
      · replace h := itF c h
        refine g_iconst hg dX12_reads_161 kI_0 ?_
        replace h := Option.some.inj h
        subst h
        exact g_zret hg hr rfl dX12_reads_162
    · replace h := itF c h
      refine g_iload hg dX12_reads_40 8 rfl ?_
      refine g_if_ne (tgt := 49) hg dX12_reads_42 (by decide) (fun c => ?_) (fun c => ?_)
      · rw [if_neg c] at h
        refine g_iload hg dX12_reads_49 8 rfl ?_
        refine g_iconst hg dX12_reads_51 kI_1 ?_
        refine g_icmp_ne (tgt := 60) hg dX12_reads_52 (by decide) (fun c => ?_) (fun c => ?_)
        · rw [if_neg c] at h
          refine g_iload hg dX12_reads_60 8 rfl ?_
          refine g_iconst hg dX12_reads_62 kI_2 ?_
          refine g_icmp_ne (tgt := 71) hg dX12_reads_63 (by decide) (fun c => ?_) (fun c => ?_)
          · rw [if_neg c] at h
            refine g_iload hg dX12_reads_71 6 rfl ?_
            exact lkX12_reads_73 hn hRf hg hr ih _ _ _ _ _ _ _ _ _ _ h
          · rw [if_pos c] at h
            refine g_iload hg dX12_reads_66 5 rfl ?_
            refine g_goto (tgt := 73) hg dX12_reads_68 (by decide) ?_
            exact lkX12_reads_73 hn hRf hg hr ih _ _ _ _ _ _ _ _ _ _ h
        · rw [if_pos c] at h
          refine g_iload hg dX12_reads_55 4 rfl ?_
          refine g_goto (tgt := 73) hg dX12_reads_57 (by decide) ?_
          exact lkX12_reads_73 hn hRf hg hr ih _ _ _ _ _ _ _ _ _ _ h
      · rw [if_pos c] at h
        refine g_iload_n hg dX12_reads_45 rfl 3 rfl ?_
        refine g_goto (tgt := 73) hg dX12_reads_46 (by decide) ?_
        exact lkX12_reads_73 hn hRf hg hr ih _ _ _ _ _ _ _ _ _ _ h
theorem lkX12_reads {l0 : Launch} {E : En} {d n : Nat} {Rf : Nat → Nat → Nat} {ex : Bool} {kq : Nat × Nat} (hd : 1 ≤ d) (hn : 238 ≤ n) (hRf : RfOk 194 238 kq Rf) {x1 : Int32} {x2 : Int32} {x3 : Int32} {x4 : Int32} {x5 : Int32} {x6 : Int32} {M : Mm} {q : Int32 × Mm} (h : sX12_reads x1 x2 x3 x4 x5 x6 M = some q) : Ct l0 E yX12_reads cX12_reads 10 (some .boolean) d 0 0 [rr E.1 194, .int x1, .int x2, .int x3, .int x4, .int x5, .int x6] ex n Rf M n Rf (some (.int q.1)) q.2 := by
  obtain ⟨d, rfl⟩ := Nat.exists_eq_add_of_le' hd
  refine Ct.of pnX12 (Nat.le_of_ble_eq_true rfl) (fun g hg hr _ => ?_)
  replace hg : Ok g l0 E cX12_reads RX12 10 (d + 1) 0 0 := hg
  show WG g E 10 n Rf ex 0 0 0 [(0, rr E.1 194), (1, .int x1), (2, .int x2), (3, .int x3), (4, .int x4), (5, .int x5), (6, .int x6)] [] M
  unfold sX12_reads at h
  refine g_rload_n hg dX12_reads_0 rfl 0 rfl ?_
  refine g_iconst hg dX12_reads_1 kI_0 ?_
  refine g_putI hg fp_X12_171 ly194 rfl (idb rfl rfl hn) dX12_reads_2 ?_
  refine g_iload_n hg dX12_reads_5 rfl 1 rfl ?_
  refine g_if_lt (tgt := 26) hg dX12_reads_6 (by decide) (fun c => ?_) (fun c => ?_)
  · replace h := itT c h
    refine g_iconst hg dX12_reads_26 kI_0 ?_
    replace h := Option.some.inj h
    subst h
    exact g_zret hg hr rfl dX12_reads_27
  · replace h := itF c h
    refine g_iload_n hg dX12_reads_9 rfl 1 rfl ?_
    refine g_iconst hg dX12_reads_10 kI_2 ?_
    refine g_icmp_gt (tgt := 26) hg dX12_reads_11 (by decide) (fun c => ?_) (fun c => ?_)
    · replace h := itT c h
      refine g_iconst hg dX12_reads_26 kI_0 ?_
      replace h := Option.some.inj h
      subst h
      exact g_zret hg hr rfl dX12_reads_27
    · replace h := itF c h
      refine g_iload_n hg dX12_reads_14 rfl 2 rfl ?_
      refine g_if_lt (tgt := 26) hg dX12_reads_15 (by decide) (fun c => ?_) (fun c => ?_)
      · replace h := itT c h
        refine g_iconst hg dX12_reads_26 kI_0 ?_
        replace h := Option.some.inj h
        subst h
        exact g_zret hg hr rfl dX12_reads_27
      · replace h := itF c h
        refine g_iload_n hg dX12_reads_18 rfl 2 rfl ?_
        refine g_rload_n hg dX12_reads_19 rfl 0 rfl ?_
        refine g_getI hg fl_X12_330 ly194 rfl (idb rfl rfl hn) dX12_reads_20 ?_
        refine g_icmp_lt (tgt := 28) hg dX12_reads_23 (by decide) (fun c => ?_) (fun c => ?_)
        · replace h := itT c h
          refine g_iconst hg dX12_reads_28 kI_0 ?_
          refine g_istore (lv' := [(7, .int 0), (0, rr E.1 194), (1, .int x1), (2, .int x2), (3, .int x3), (4, .int x4), (5, .int x5), (6, .int x6)]) hg dX12_reads_29 (by decide) rfl ?_
          refine g_iconst hg dX12_reads_31 kI_0 ?_
          refine g_istore (lv' := [(8, .int 0), (7, .int 0), (0, rr E.1 194), (1, .int x1), (2, .int x2), (3, .int x3), (4, .int x4), (5, .int x5), (6, .int x6)]) hg dX12_reads_32 (by decide) rfl ?_
          refine g_sub (lv' := [(0, rr E.1 194), (1, .int x1), (2, .int x2), (3, .int x3), (4, .int x4), (5, .int x5), (6, .int x6), (7, .int 0), (8, .int 0)]) [2, 3, 4, 5, 6, 7, 8, 1, 0] rfl ?_
          exact lkX12_reads_34 hn hRf hg hr  4096 _ _ _ _ _ _ _ _ _ h
        · replace h := itF c h
          refine g_iconst hg dX12_reads_26 kI_0 ?_
          replace h := Option.some.inj h
          subst h
          exact g_zret hg hr rfl dX12_reads_27
theorem lkX12_value {l0 : Launch} {E : En} {d n : Nat} {Rf : Nat → Nat → Nat} {ex : Bool} {kq : Nat × Nat} (hd : 1 ≤ d) (hn : 238 ≤ n) (hRf : RfOk 194 238 kq Rf) {x1 : Int32} {x2 : Int32} {M : Mm} {q : Int32 × Mm} (h : sX12_value x1 x2 M = some q) : Ct l0 E yX12_value cX12_value 3 (some .boolean) d 0 0 [rr E.1 194, .int x1, .int x2] ex n Rf M n Rf (some (.int q.1)) q.2 := by
  obtain ⟨d, rfl⟩ := Nat.exists_eq_add_of_le' hd
  refine Ct.of pnX12 (Nat.le_of_ble_eq_true rfl) (fun g hg hr _ => ?_)
  replace hg : Ok g l0 E cX12_value RX12 3 (d + 1) 0 0 := hg
  show WG g E 3 n Rf ex 0 0 0 [(0, rr E.1 194), (1, .int x1), (2, .int x2)] [] M
  unfold sX12_value at h
  refine g_rload_n hg dX12_value_0 rfl 0 rfl ?_
  refine g_iconst hg dX12_value_1 kI_0 ?_
  refine g_putI hg fp_X12_171 ly194 rfl (idb rfl rfl hn) dX12_value_2 ?_
  refine g_iload_n hg dX12_value_5 rfl 1 rfl ?_
  refine g_if_lt (tgt := 28) hg dX12_value_6 (by decide) (fun c => ?_) (fun c => ?_)
  · replace h := itT c h
    refine g_iconst hg dX12_value_28 kI_0 ?_
    replace h := Option.some.inj h
    subst h
    exact g_zret hg hr rfl dX12_value_29
  · replace h := itF c h
    refine g_iload_n hg dX12_value_9 rfl 1 rfl ?_
    refine g_rload_n hg dX12_value_10 rfl 0 rfl ?_
    refine g_getI hg fl_X12_330 ly194 rfl (idb rfl rfl hn) dX12_value_11 ?_
    refine g_icmp_ge (tgt := 28) hg dX12_value_14 (by decide) (fun c => ?_) (fun c => ?_)
    · replace h := itT c h
      refine g_iconst hg dX12_value_28 kI_0 ?_
      replace h := Option.some.inj h
      subst h
      exact g_zret hg hr rfl dX12_value_29
    · replace h := itF c h
      refine g_iload_n hg dX12_value_17 rfl 2 rfl ?_
      refine g_if_lt (tgt := 28) hg dX12_value_18 (by decide) (fun c => ?_) (fun c => ?_)
      · replace h := itT c h
        refine g_iconst hg dX12_value_28 kI_0 ?_
        replace h := Option.some.inj h
        subst h
        exact g_zret hg hr rfl dX12_value_29
      · replace h := itF c h
        refine g_iload_n hg dX12_value_21 rfl 2 rfl ?_
        refine g_sipush hg dX12_value_22 kS_9999 ?_
        refine g_icmp_le (tgt := 30) hg dX12_value_25 (by decide) (fun c => ?_) (fun c => ?_)
        · replace h := itT c h
          refine g_rload_n hg dX12_value_30 rfl 0 rfl ?_
          refine g_getR (r := 225) hg fl_X12_129 ly194 rfl (idb rfl rfl hn) (rfc hRf rfl rfl rfl rfl) (by decide) dX12_value_31 ?_
          refine g_iload_n hg dX12_value_34 rfl 1 rfl ?_
          refine g_iload_n hg dX12_value_35 rfl 2 rfl ?_
          obtain ⟨c36, h⟩ := ck_some h
          refine g_iast hg ly225 (idb rfl rfl hn) (inb_vp c36) dX12_value_36 ?_
          refine g_iconst hg dX12_value_37 kI_1 ?_
          replace h := Option.some.inj h
          subst h
          exact g_zret hg hr rfl dX12_value_38
        · replace h := itF c h
          refine g_iconst hg dX12_value_28 kI_0 ?_
          replace h := Option.some.inj h
          subst h
          exact g_zret hg hr rfl dX12_value_29
theorem lkX12_know_114 {g : Gm} {l0 : Launch} {E : En} {d n : Nat} {Rf : Nat → Nat → Nat} {ex : Bool} {kq : Nat × Nat} (hn : 238 ≤ n) (hRf : RfOk 194 238 kq Rf) (hg : Ok g l0 E cX12_know RX12 3 (d + 5) 0 0) {q : Mm} (hr : Ret g E 0 0 none ex n Rf none q) {k76 : Int32 → Mm → Option (Mm)} (hk76 : ∀ (x2 : Int32) (M : Mm), k76 x2 M = some q → WG g E 3 n Rf ex 0 0 76 [(0, rr E.1 194), (2, .int x2)] [] M) : ∀ (x2 : Int32) (s1 : Int32) (s2 : Int32) (M : Mm), sX12_know_114 k76 x2 s1 s2 M = some q → WG g E 3 n Rf ex 0 0 114 [(0, rr E.1 194), (2, .int x2)] [.int s2, .int s1, rr E.1 227] M := by
  intro x2 s1 s2 M h
  unfold sX12_know_114 at h
  obtain ⟨c114, h⟩ := ck_some h
  refine g_iast hg ly227 (idb rfl rfl hn) (inb_vp c114) dX12_know_114 ?_
  refine g_inc (lv' := [(2, .int (x2 + 1)), (0, rr E.1 194)]) hg dX12_know_115 kI_1 1 rfl (by decide) rfl ?_
  refine g_goto (tgt := 76) hg dX12_know_118 (by decide) ?_
  refine g_sub (lv' := [(0, rr E.1 194), (2, .int (x2 + 1))]) [1, 0] rfl ?_
  exact hk76 _ _ h
theorem lkX12_know_113 {g : Gm} {l0 : Launch} {E : En} {d n : Nat} {Rf : Nat → Nat → Nat} {ex : Bool} {kq : Nat × Nat} (hn : 238 ≤ n) (hRf : RfOk 194 238 kq Rf) (hg : Ok g l0 E cX12_know RX12 3 (d + 5) 0 0) {q : Mm} (hr : Ret g E 0 0 none ex n Rf none q) {k76 : Int32 → Mm → Option (Mm)} (hk76 : ∀ (x2 : Int32) (M : Mm), k76 x2 M = some q → WG g E 3 n Rf ex 0 0 76 [(0, rr E.1 194), (2, .int x2)] [] M) : ∀ (x2 : Int32) (s1 : Int32) (M : Mm), sX12_know_113 k76 x2 s1 M = some q → WG g E 3 n Rf ex 0 0 113 [(0, rr E.1 194), (2, .int x2)] [.int s1, rr E.1 227] M := by
  intro x2 s1 M h
  unfold sX12_know_113 at h
  refine g_iconst hg dX12_know_113 kI_m1 ?_
  exact lkX12_know_114 hn hRf hg hr hk76 _ _ _ _ h
theorem lkX12_know_76 {g : Gm} {l0 : Launch} {E : En} {d n : Nat} {Rf : Nat → Nat → Nat} {ex : Bool} {kq : Nat × Nat} (hn : 238 ≤ n) (hRf : RfOk 194 238 kq Rf) (hg : Ok g l0 E cX12_know RX12 3 (d + 5) 0 0) {q : Mm} (hr : Ret g E 0 0 none ex n Rf none q) : ∀ (F : Nat) (x2 : Int32) (M : Mm), sX12_know_76 F x2 M = some q → WG g E 3 n Rf ex 0 0 76 [(0, rr E.1 194), (2, .int x2)] [] M := by
  intro F
  induction F with
  | zero =>
    intro x2 M h
    cases h
  | succ F ih =>
    intro x2 M h
    rw [sX12_know_76] at h
    refine g_iload_n hg dX12_know_76 rfl 1 rfl ?_
    refine g_bipush hg dX12_know_77 kB_60 ?_
    refine g_icmp_ge (tgt := 121) hg dX12_know_79 (by decide) (fun c => ?_) (fun c => ?_)
    · replace h := itT c h
      replace h := Option.some.inj h
      subst h
      exact g_vret hg hr dX12_know_121
    · replace h := itF c h
      refine g_rload_n hg dX12_know_82 rfl 0 rfl ?_
      refine g_getR (r := 227) hg fl_X12_135 ly194 rfl (idb rfl rfl hn) (rfc hRf rfl rfl rfl rfl) (by decide) dX12_know_83 ?_
      refine g_iload_n hg dX12_know_86 rfl 1 rfl ?_
      refine g_rload_n hg dX12_know_87 rfl 0 rfl ?_
      refine g_getR (r := 207) hg fl_X12_74 ly194 rfl (idb rfl rfl hn) (rfc hRf rfl rfl rfl rfl) (by decide) dX12_know_88 ?_
      refine g_iload_n hg dX12_know_91 rfl 1 rfl ?_
      obtain ⟨c92, h⟩ := ck_some h
      refine g_zald hg ly207 (idb rfl rfl hn) (inb_vp c92) dX12_know_92 ?_
      refine g_if_eq (tgt := 113) hg dX12_know_93 (by decide) (fun c => ?_) (fun c => ?_)
      · replace h := itT c h
        exact lkX12_know_113 hn hRf hg hr ih _ _ _ h
      · replace h := itF c h
        refine g_rload_n hg dX12_know_96 rfl 0 rfl ?_
        refine g_getR (r := 202) hg fl_X12_59 ly194 rfl (idb rfl rfl hn) (rfc hRf rfl rfl rfl rfl) (by decide) dX12_know_97 ?_
        refine g_iload_n hg dX12_know_100 rfl 1 rfl ?_
        obtain ⟨c101, h⟩ := ck_some h
        refine g_iald hg ly202 (idb rfl rfl hn) (inb_vp c101) dX12_know_101 ?_
        refine g_if_ge (tgt := 113) hg dX12_know_102 (by decide) (fun c => ?_) (fun c => ?_)
        · replace h := itT c h
          exact lkX12_know_113 hn hRf hg hr ih _ _ _ h
        · replace h := itF c h
          refine g_rload_n hg dX12_know_105 rfl 0 rfl ?_
          refine g_iload_n hg dX12_know_106 rfl 1 rfl ?_
          obtain ⟨q107, e107, h⟩ := Option.bind_eq_some_iff.mp h
          refine g_callVi (As := [.int x2]) (rest := [.int x2, rr E.1 227]) hg (lkX12_kindOf (by omega) hn hRf  e107) cv_X12_356 rfl ly194 (idb rfl rfl hn) rfl rfl (Nat.le_of_ble_eq_true rfl) ⟨Nat.le_refl _, Nat.le_refl _⟩ dX12_know_107 ?_
          refine g_goto (tgt := 114) hg dX12_know_110 (by decide) ?_
          exact lkX12_know_114 hn hRf hg hr ih _ _ _ _ h
theorem lkX12_know_68 {g : Gm} {l0 : Launch} {E : En} {d n : Nat} {Rf : Nat → Nat → Nat} {ex : Bool} {kq : Nat × Nat} (hn : 238 ≤ n) (hRf : RfOk 194 238 kq Rf) (hg : Ok g l0 E cX12_know RX12 3 (d + 5) 0 0) {q : Mm} (hr : Ret g E 0 0 none ex n Rf none q) {k34 : Int32 → Mm → Option (Mm)} (hk34 : ∀ (x2 : Int32) (M : Mm), k34 x2 M = some q → WG g E 3 n Rf ex 0 0 34 [(0, rr E.1 194), (2, .int x2)] [] M) : ∀ (x2 : Int32) (M : Mm), sX12_know_68 k34 x2 M = some q → WG g E 3 n Rf ex 0 0 68 [(0, rr E.1 194), (2, .int x2)] [] M := by
  intro x2 M h
  unfold sX12_know_68 at h
  refine g_inc (lv' := [(2, .int (x2 + (-1))), (0, rr E.1 194)]) hg dX12_know_68 kI_m1 1 rfl (by decide) rfl ?_
  refine g_goto (tgt := 34) hg dX12_know_71 (by decide) ?_
  refine g_sub (lv' := [(0, rr E.1 194), (2, .int (x2 + (-1)))]) [1, 0] rfl ?_
  exact hk34 _ _ h
theorem lkX12_know_34 {g : Gm} {l0 : Launch} {E : En} {d n : Nat} {Rf : Nat → Nat → Nat} {ex : Bool} {kq : Nat × Nat} (hn : 238 ≤ n) (hRf : RfOk 194 238 kq Rf) (hg : Ok g l0 E cX12_know RX12 3 (d + 5) 0 0) {q : Mm} (hr : Ret g E 0 0 none ex n Rf none q) : ∀ (F : Nat) (x2 : Int32) (M : Mm), sX12_know_34 F x2 M = some q → WG g E 3 n Rf ex 0 0 34 [(0, rr E.1 194), (2, .int x2)] [] M := by
  intro F
  induction F with
  | zero =>
    intro x2 M h
    cases h
  | succ F ih =>
    intro x2 M h
    rw [sX12_know_34] at h
    refine g_iload_n hg dX12_know_34 rfl 1 rfl ?_
    refine g_if_lt (tgt := 74) hg dX12_know_35 (by decide) (fun c => ?_) (fun c => ?_)
    · replace h := itT c h
      refine g_iconst hg dX12_know_74 kI_0 ?_
      refine g_istore_n (lv' := [(2, .int 0), (0, rr E.1 194)]) hg dX12_know_75 rfl (by decide) rfl ?_
      refine g_sub (lv' := [(0, rr E.1 194), (2, .int 0)]) [1, 0] rfl ?_
      exact lkX12_know_76 hn hRf hg hr  4096 _ _ h
    · replace h := itF c h
      refine g_rload_n hg dX12_know_38 rfl 0 rfl ?_
      refine g_getR (r := 202) hg fl_X12_59 ly194 rfl (idb rfl rfl hn) (rfc hRf rfl rfl rfl rfl) (by decide) dX12_know_39 ?_
      refine g_iload_n hg dX12_know_42 rfl 1 rfl ?_
      obtain ⟨c43, h⟩ := ck_some h
      refine g_iald hg ly202 (idb rfl rfl hn) (inb_vp c43) dX12_know_43 ?_
      refine g_if_lt (tgt := 68) hg dX12_know_44 (by decide) (fun c => ?_) (fun c => ?_)
      · replace h := itT c h
        exact lkX12_know_68 hn hRf hg hr ih _ _ h
      · replace h := itF c h
        refine g_rload_n hg dX12_know_47 rfl 0 rfl ?_
        refine g_getR (r := 207) hg fl_X12_74 ly194 rfl (idb rfl rfl hn) (rfc hRf rfl rfl rfl rfl) (by decide) dX12_know_48 ?_
        refine g_iload_n hg dX12_know_51 rfl 1 rfl ?_
        obtain ⟨c52, h⟩ := ck_some h
        refine g_zald hg ly207 (idb rfl rfl hn) (inb_vp c52) dX12_know_52 ?_
        refine g_if_eq (tgt := 68) hg dX12_know_53 (by decide) (fun c => ?_) (fun c => ?_)
        · replace h := itT c h
          exact lkX12_know_68 hn hRf hg hr ih _ _ h
        · replace h := itF c h
          refine g_rload_n hg dX12_know_56 rfl 0 rfl ?_
          refine g_getR (r := 207) hg fl_X12_74 ly194 rfl (idb rfl rfl hn) (rfc hRf rfl rfl rfl rfl) (by decide) dX12_know_57 ?_
          refine g_rload_n hg dX12_know_60 rfl 0 rfl ?_
          refine g_getR (r := 202) hg fl_X12_59 ly194 rfl (idb rfl rfl hn) (rfc hRf rfl rfl rfl rfl) (by decide) dX12_know_61 ?_
          refine g_iload_n hg dX12_know_64 rfl 1 rfl ?_
          obtain ⟨c65, h⟩ := ck_some h
          refine g_iald hg ly202 (idb rfl rfl hn) (inb_vp c65) dX12_know_65 ?_
          refine g_iconst hg dX12_know_66 kI_0 ?_
          obtain ⟨c67, h⟩ := ck_some h
          refine g_zast hg ly207 (idb rfl rfl hn) (inb_vp c67) rfl dX12_know_67 ?_
          exact lkX12_know_68 hn hRf hg hr ih _ _ h
theorem lkX12_know_23 {g : Gm} {l0 : Launch} {E : En} {d n : Nat} {Rf : Nat → Nat → Nat} {ex : Bool} {kq : Nat × Nat} (hn : 238 ≤ n) (hRf : RfOk 194 238 kq Rf) (hg : Ok g l0 E cX12_know RX12 3 (d + 5) 0 0) {q : Mm} (hr : Ret g E 0 0 none ex n Rf none q) {k2 : Int32 → Int32 → Mm → Option (Mm)} (hk2 : ∀ (x1 : Int32) (x2 : Int32) (M : Mm), k2 x1 x2 M = some q → WG g E 3 n Rf ex 0 0 2 [(0, rr E.1 194), (1, .int x1), (2, .int x2)] [] M) : ∀ (x1 : Int32) (x2 : Int32) (s1 : Int32) (s2 : Int32) (M : Mm), sX12_know_23 k2 x1 x2 s1 s2 M = some q → WG g E 3 n Rf ex 0 0 23 [(0, rr E.1 194), (1, .int x1), (2, .int x2)] [.int s2, .int s1, rr E.1 207] M := by
  intro x1 x2 s1 s2 M h
  unfold sX12_know_23 at h
  obtain ⟨c23, h⟩ := ck_some h
  obtain ⟨c23b, h⟩ := ck_some h
  refine g_zast hg ly207 (idb rfl rfl hn) (inb_vp c23) (isb_nar c23b) dX12_know_23 ?_
  refine g_inc (lv' := [(2, .int (x2 + 1)), (0, rr E.1 194), (1, .int x1)]) hg dX12_know_24 kI_1 2 rfl (by decide) rfl ?_
  refine g_goto (tgt := 2) hg dX12_know_27 (by decide) ?_
  refine g_sub (lv' := [(0, rr E.1 194), (1, .int x1), (2, .int (x2 + 1))]) [1, 2, 0] rfl ?_
  exact hk2 _ _ _ h
theorem lkX12_know_2 {g : Gm} {l0 : Launch} {E : En} {d n : Nat} {Rf : Nat → Nat → Nat} {ex : Bool} {kq : Nat × Nat} (hn : 238 ≤ n) (hRf : RfOk 194 238 kq Rf) (hg : Ok g l0 E cX12_know RX12 3 (d + 5) 0 0) {q : Mm} (hr : Ret g E 0 0 none ex n Rf none q) : ∀ (F : Nat) (x1 : Int32) (x2 : Int32) (M : Mm), sX12_know_2 F x1 x2 M = some q → WG g E 3 n Rf ex 0 0 2 [(0, rr E.1 194), (1, .int x1), (2, .int x2)] [] M := by
  intro F
  induction F with
  | zero =>
    intro x1 x2 M h
    cases h
  | succ F ih =>
    intro x1 x2 M h
    rw [sX12_know_2] at h
    refine g_iload_n hg dX12_know_2 rfl 2 rfl ?_
    refine g_bipush hg dX12_know_3 kB_60 ?_
    refine g_icmp_ge (tgt := 30) hg dX12_know_5 (by decide) (fun c => ?_) (fun c => ?_)
    · replace h := itT c h
      refine g_iload_n hg dX12_know_30 rfl 1 rfl ?_
      refine g_iconst hg dX12_know_31 kI_1 ?_
      refine g_isub hg dX12_know_32 ?_
      refine g_istore_n (lv' := [(2, .int (x1 - 1)), (0, rr E.1 194), (1, .int x1)]) hg dX12_know_33 rfl (by decide) rfl ?_
      refine g_sub (lv' := [(0, rr E.1 194), (2, .int (x1 - 1))]) [1, 0] rfl ?_
      exact lkX12_know_34 hn hRf hg hr  4096 _ _ h
    · replace h := itF c h
      refine g_rload_n hg dX12_know_8 rfl 0 rfl ?_
      refine g_getR (r := 207) hg fl_X12_74 ly194 rfl (idb rfl rfl hn) (rfc hRf rfl rfl rfl rfl) (by decide) dX12_know_9 ?_
      refine g_iload_n hg dX12_know_12 rfl 2 rfl ?_
      refine g_iload_n hg dX12_know_13 rfl 2 rfl ?_
      refine g_iload_n hg dX12_know_14 rfl 1 rfl ?_
      refine g_icmp_ge (tgt := 22) hg dX12_know_15 (by decide) (fun c => ?_) (fun c => ?_)
      · rw [if_pos c] at h
        refine g_iconst hg dX12_know_22 kI_0 ?_
        exact lkX12_know_23 hn hRf hg hr ih _ _ _ _ _ h
      · rw [if_neg c] at h
        refine g_iconst hg dX12_know_18 kI_1 ?_
        refine g_goto (tgt := 23) hg dX12_know_19 (by decide) ?_
        exact lkX12_know_23 hn hRf hg hr ih _ _ _ _ _ h
theorem lkX12_know {l0 : Launch} {E : En} {d n : Nat} {Rf : Nat → Nat → Nat} {ex : Bool} {kq : Nat × Nat} (hd : 5 ≤ d) (hn : 238 ≤ n) (hRf : RfOk 194 238 kq Rf) {x1 : Int32} {M : Mm} {q : Mm} (h : sX12_know x1 M = some q) : Ct l0 E yX12_know cX12_know 3 none d 0 0 [rr E.1 194, .int x1] ex n Rf M n Rf none q := by
  obtain ⟨d, rfl⟩ := Nat.exists_eq_add_of_le' hd
  refine Ct.of pnX12 (Nat.le_of_ble_eq_true rfl) (fun g hg hr _ => ?_)
  replace hg : Ok g l0 E cX12_know RX12 3 (d + 5) 0 0 := hg
  show WG g E 3 n Rf ex 0 0 0 [(0, rr E.1 194), (1, .int x1)] [] M
  unfold sX12_know at h
  refine g_iconst hg dX12_know_0 kI_0 ?_
  refine g_istore_n (lv' := [(2, .int 0), (0, rr E.1 194), (1, .int x1)]) hg dX12_know_1 rfl (by decide) rfl ?_
  refine g_sub (lv' := [(0, rr E.1 194), (1, .int x1), (2, .int 0)]) [1, 2, 0] rfl ?_
  exact lkX12_know_2 hn hRf hg hr  4096 _ _ _ h
theorem lkX12_weigh_134 {g : Gm} {l0 : Launch} {E : En} {d n : Nat} {Rf : Nat → Nat → Nat} {ex : Bool} {kq : Nat × Nat} (hn : 238 ≤ n) (hRf : RfOk 194 238 kq Rf) (hg : Ok g l0 E cX12_weigh RX12 6 (d + 5) 0 0) {q : Mm} (hr : Ret g E 0 0 none ex n Rf none q) : ∀ (F : Nat) (x3 : Int32) (M : Mm), sX12_weigh_134 F x3 M = some q → WG g E 6 n Rf ex 0 0 134 [(0, rr E.1 194), (3, .int x3)] [] M := by
  intro F
  induction F with
  | zero =>
    intro x3 M h
    cases h
  | succ F ih =>
    intro x3 M h
    rw [sX12_weigh_134] at h
    refine g_iload_n hg dX12_weigh_134 rfl 1 rfl ?_
    refine g_rload_n hg dX12_weigh_135 rfl 0 rfl ?_
    refine g_getI hg fl_X12_330 ly194 rfl (idb rfl rfl hn) dX12_weigh_136 ?_
    refine g_icmp_ge (tgt := 163) hg dX12_weigh_139 (by decide) (fun c => ?_) (fun c => ?_)
    · replace h := itT c h
      replace h := Option.some.inj h
      subst h
      exact g_vret hg hr dX12_weigh_163
    · replace h := itF c h
      refine g_rload_n hg dX12_weigh_142 rfl 0 rfl ?_
      refine g_dup hg dX12_weigh_143 rfl ?_
      refine g_getI hg fl_X12_380 ly194 rfl (idb rfl rfl hn) dX12_weigh_144 ?_
      refine g_rload_n hg dX12_weigh_147 rfl 0 rfl ?_
      refine g_getR (r := 228) hg fl_X12_138 ly194 rfl (idb rfl rfl hn) (rfc hRf rfl rfl rfl rfl) (by decide) dX12_weigh_148 ?_
      refine g_iload_n hg dX12_weigh_151 rfl 1 rfl ?_
      obtain ⟨c152, h⟩ := ck_some h
      refine g_iald hg ly228 (idb rfl rfl hn) (inb_vp c152) dX12_weigh_152 ?_
      refine g_iadd hg dX12_weigh_153 ?_
      refine g_putI hg fp_X12_380 ly194 rfl (idb rfl rfl hn) dX12_weigh_154 ?_
      refine g_inc (lv' := [(3, .int (x3 + 1)), (0, rr E.1 194)]) hg dX12_weigh_157 kI_1 1 rfl (by decide) rfl ?_
      refine g_goto (tgt := 134) hg dX12_weigh_160 (by decide) ?_
      refine g_sub (lv' := [(0, rr E.1 194), (3, .int (x3 + 1))]) [1, 0] rfl ?_
      exact ih _ _ h
theorem lkX12_weigh_126 {g : Gm} {l0 : Launch} {E : En} {d n : Nat} {Rf : Nat → Nat → Nat} {ex : Bool} {kq : Nat × Nat} (hn : 238 ≤ n) (hRf : RfOk 194 238 kq Rf) (hg : Ok g l0 E cX12_weigh RX12 6 (d + 5) 0 0) {q : Mm} (hr : Ret g E 0 0 none ex n Rf none q) {k30 : Int32 → Int32 → Int32 → Mm → Option (Mm)} (hk30 : ∀ (x1 : Int32) (x2 : Int32) (x3 : Int32) (M : Mm), k30 x1 x2 x3 M = some q → WG g E 6 n Rf ex 0 0 30 [(0, rr E.1 194), (1, .int x1), (2, .int x2), (3, .int x3)] [] M) : ∀ (x1 : Int32) (x2 : Int32) (x3 : Int32) (M : Mm), sX12_weigh_126 k30 x1 x2 x3 M = some q → WG g E 6 n Rf ex 0 0 126 [(0, rr E.1 194), (1, .int x1), (2, .int x2), (3, .int x3)] [] M := by
  intro x1 x2 x3 M h
  unfold sX12_weigh_126 at h
  refine g_inc (lv' := [(3, .int (x3 + 1)), (0, rr E.1 194), (1, .int x1), (2, .int x2)]) hg dX12_weigh_126 kI_1 3 rfl (by decide) rfl ?_
  refine g_goto (tgt := 30) hg dX12_weigh_129 (by decide) ?_
  refine g_sub (lv' := [(0, rr E.1 194), (1, .int x1), (2, .int x2), (3, .int (x3 + 1))]) [1, 2, 3, 0] rfl ?_
  exact hk30 _ _ _ _ h
theorem lkX12_weigh_71 {g : Gm} {l0 : Launch} {E : En} {d n : Nat} {Rf : Nat → Nat → Nat} {ex : Bool} {kq : Nat × Nat} (hn : 238 ≤ n) (hRf : RfOk 194 238 kq Rf) (hg : Ok g l0 E cX12_weigh RX12 6 (d + 5) 0 0) {q : Mm} (hr : Ret g E 0 0 none ex n Rf none q) {k30 : Int32 → Int32 → Int32 → Mm → Option (Mm)} (hk30 : ∀ (x1 : Int32) (x2 : Int32) (x3 : Int32) (M : Mm), k30 x1 x2 x3 M = some q → WG g E 6 n Rf ex 0 0 30 [(0, rr E.1 194), (1, .int x1), (2, .int x2), (3, .int x3)] [] M) : ∀ (F : Nat) (x1 : Int32) (x2 : Int32) (x3 : Int32) (x4 : Int32) (x5 : Int32) (M : Mm), sX12_weigh_71 k30 F x1 x2 x3 x4 x5 M = some q → WG g E 6 n Rf ex 0 0 71 [(0, rr E.1 194), (1, .int x1), (2, .int x2), (3, .int x3), (4, .int x4), (5, .int x5)] [] M := by
  intro F
  induction F with
  | zero =>
    intro x1 x2 x3 x4 x5 M h
    cases h
  | succ F ih =>
    intro x1 x2 x3 x4 x5 M h
    rw [sX12_weigh_71] at h
    refine g_iload hg dX12_weigh_71 5 rfl ?_
    refine g_rload_n hg dX12_weigh_73 rfl 0 rfl ?_
    refine g_getI hg fl_X12_330 ly194 rfl (idb rfl rfl hn) dX12_weigh_74 ?_
    refine g_icmp_ge (tgt := 126) hg dX12_weigh_77 (by decide) (fun c => ?_) (fun c => ?_)
    · replace h := itT c h
      refine g_sub (lv' := [(0, rr E.1 194), (1, .int x1), (2, .int x2), (3, .int x3)]) [0, 1, 2, 3] rfl ?_
      exact lkX12_weigh_126 hn hRf hg hr hk30 _ _ _ _ h
    · replace h := itF c h
      refine g_rload_n hg dX12_weigh_80 rfl 0 rfl ?_
      refine g_getR (r := 228) hg fl_X12_138 ly194 rfl (idb rfl rfl hn) (rfc hRf rfl rfl rfl rfl) (by decide) dX12_weigh_81 ?_
      refine g_iload hg dX12_weigh_84 5 rfl ?_
      refine g_dup2 hg dX12_weigh_86 rfl rfl ?_
      obtain ⟨c87, h⟩ := ck_some h
      refine g_iald hg ly228 (idb rfl rfl hn) (inb_vp c87) dX12_weigh_87 ?_
      refine g_iload hg dX12_weigh_88 4 rfl ?_
      refine g_rload_n hg dX12_weigh_90 rfl 0 rfl ?_
      refine g_getR (r := 224) hg fl_X12_126 ly194 rfl (idb rfl rfl hn) (rfc hRf rfl rfl rfl rfl) (by decide) dX12_weigh_91 ?_
      refine g_bipush hg dX12_weigh_94 kB_64 ?_
      refine g_rload_n hg dX12_weigh_96 rfl 0 rfl ?_
      refine g_getR (r := 203) hg fl_X12_62 ly194 rfl (idb rfl rfl hn) (rfc hRf rfl rfl rfl rfl) (by decide) dX12_weigh_97 ?_
      refine g_iload_n hg dX12_weigh_100 rfl 3 rfl ?_
      obtain ⟨c101, h⟩ := ck_some h
      refine g_iald hg ly203 (idb rfl rfl hn) (inb_vp c101) dX12_weigh_101 ?_
      refine g_imul hg dX12_weigh_102 ?_
      refine g_bipush hg dX12_weigh_103 kB_8 ?_
      refine g_iload hg dX12_weigh_105 5 rfl ?_
      refine g_imul hg dX12_weigh_107 ?_
      refine g_iadd hg dX12_weigh_108 ?_
      refine g_rload_n hg dX12_weigh_109 rfl 0 rfl ?_
      refine g_getR (r := 227) hg fl_X12_135 ly194 rfl (idb rfl rfl hn) (rfc hRf rfl rfl rfl rfl) (by decide) dX12_weigh_110 ?_
      refine g_iload_n hg dX12_weigh_113 rfl 3 rfl ?_
      obtain ⟨c114, h⟩ := ck_some h
      refine g_iald hg ly227 (idb rfl rfl hn) (inb_vp c114) dX12_weigh_114 ?_
      refine g_iadd hg dX12_weigh_115 ?_
      obtain ⟨c116, h⟩ := ck_some h
      refine g_iald hg ly224 (idb rfl rfl hn) (inb_vp c116) dX12_weigh_116 ?_
      refine g_imul hg dX12_weigh_117 ?_
      refine g_iadd hg dX12_weigh_118 ?_
      obtain ⟨c119, h⟩ := ck_some h
      refine g_iast hg ly228 (idb rfl rfl hn) (inb_vp c119) dX12_weigh_119 ?_
      refine g_inc (lv' := [(5, .int (x5 + 1)), (0, rr E.1 194), (1, .int x1), (2, .int x2), (3, .int x3), (4, .int x4)]) hg dX12_weigh_120 kI_1 5 rfl (by decide) rfl ?_
      refine g_goto (tgt := 71) hg dX12_weigh_123 (by decide) ?_
      refine g_sub (lv' := [(0, rr E.1 194), (1, .int x1), (2, .int x2), (3, .int x3), (4, .int x4), (5, .int (x5 + 1))]) [1, 2, 3, 4, 5, 0] rfl ?_
      exact ih _ _ _ _ _ _ h
theorem lkX12_weigh_30 {g : Gm} {l0 : Launch} {E : En} {d n : Nat} {Rf : Nat → Nat → Nat} {ex : Bool} {kq : Nat × Nat} (hn : 238 ≤ n) (hRf : RfOk 194 238 kq Rf) (hg : Ok g l0 E cX12_weigh RX12 6 (d + 5) 0 0) {q : Mm} (hr : Ret g E 0 0 none ex n Rf none q) : ∀ (F : Nat) (x1 : Int32) (x2 : Int32) (x3 : Int32) (M : Mm), sX12_weigh_30 F x1 x2 x3 M = some q → WG g E 6 n Rf ex 0 0 30 [(0, rr E.1 194), (1, .int x1), (2, .int x2), (3, .int x3)] [] M := by
  intro F
  induction F with
  | zero =>
    intro x1 x2 x3 M h
    cases h
  | succ F ih =>
    intro x1 x2 x3 M h
    rw [sX12_weigh_30] at h
    refine g_iload_n hg dX12_weigh_30 rfl 3 rfl ?_
    refine g_rload_n hg dX12_weigh_31 rfl 0 rfl ?_
    refine g_getI hg fl_X12_174 ly194 rfl (idb rfl rfl hn) dX12_weigh_32 ?_
    refine g_icmp_ge (tgt := 132) hg dX12_weigh_35 (by decide) (fun c => ?_) (fun c => ?_)
    · replace h := itT c h
      refine g_iconst hg dX12_weigh_132 kI_0 ?_
      refine g_istore_n (lv' := [(3, .int 0), (0, rr E.1 194), (1, .int x1), (2, .int x2)]) hg dX12_weigh_133 rfl (by decide) rfl ?_
      refine g_sub (lv' := [(0, rr E.1 194), (3, .int 0)]) [1, 0] rfl ?_
      exact lkX12_weigh_134 hn hRf hg hr  4096 _ _ h
    · replace h := itF c h
      refine g_rload_n hg dX12_weigh_38 rfl 0 rfl ?_
      refine g_getR (r := 227) hg fl_X12_135 ly194 rfl (idb rfl rfl hn) (rfc hRf rfl rfl rfl rfl) (by decide) dX12_weigh_39 ?_
      refine g_iload_n hg dX12_weigh_42 rfl 3 rfl ?_
      obtain ⟨c43, h⟩ := ck_some h
      refine g_iald hg ly227 (idb rfl rfl hn) (inb_vp c43) dX12_weigh_43 ?_
      refine g_if_lt (tgt := 126) hg dX12_weigh_44 (by decide) (fun c => ?_) (fun c => ?_)
      · replace h := itT c h
        exact lkX12_weigh_126 hn hRf hg hr ih _ _ _ _ h
      · replace h := itF c h
        refine g_iload_n hg dX12_weigh_47 rfl 3 rfl ?_
        refine g_iload_n hg dX12_weigh_48 rfl 2 rfl ?_
        refine g_icmp_ne (tgt := 55) hg dX12_weigh_49 (by decide) (fun c => ?_) (fun c => ?_)
        · replace h := itF c h
          refine g_rload_n hg dX12_weigh_55 rfl 0 rfl ?_
          refine g_iload_n hg dX12_weigh_56 rfl 1 rfl ?_
          refine g_rload_n hg dX12_weigh_57 rfl 0 rfl ?_
          refine g_getR (r := 204) hg fl_X12_65 ly194 rfl (idb rfl rfl hn) (rfc hRf rfl rfl rfl rfl) (by decide) dX12_weigh_58 ?_
          refine g_iload_n hg dX12_weigh_61 rfl 3 rfl ?_
          obtain ⟨c62, h⟩ := ck_some h
          refine g_iald hg ly204 (idb rfl rfl hn) (inb_vp c62) dX12_weigh_62 ?_
          obtain ⟨q63, e63, h⟩ := Option.bind_eq_some_iff.mp h
          refine g_callVi (As := [.int x1, .int (M.1 204 x3.toNatClampNeg)]) (rest := []) hg (lkX12_alike (by omega) hn hRf  e63) cv_X12_377 rfl ly194 (idb rfl rfl hn) rfl rfl (Nat.le_of_ble_eq_true rfl) ⟨Nat.le_refl _, Nat.le_refl _⟩ dX12_weigh_63 ?_
          refine g_istore (lv' := [(4, .int q63.1), (0, rr E.1 194), (1, .int x1), (2, .int x2), (3, .int x3)]) hg dX12_weigh_66 (by decide) rfl ?_
          refine g_iconst hg dX12_weigh_68 kI_0 ?_
          refine g_istore (lv' := [(5, .int 0), (4, .int q63.1), (0, rr E.1 194), (1, .int x1), (2, .int x2), (3, .int x3)]) hg dX12_weigh_69 (by decide) rfl ?_
          refine g_sub (lv' := [(0, rr E.1 194), (1, .int x1), (2, .int x2), (3, .int x3), (4, .int q63.1), (5, .int 0)]) [2, 3, 4, 5, 1, 0] rfl ?_
          exact lkX12_weigh_71 hn hRf hg hr ih 4096 _ _ _ _ _ _ h
        · replace h := itT c h
          refine g_goto (tgt := 126) hg dX12_weigh_52 (by decide) ?_
          exact lkX12_weigh_126 hn hRf hg hr ih _ _ _ _ h
theorem lkX12_weigh_7 {g : Gm} {l0 : Launch} {E : En} {d n : Nat} {Rf : Nat → Nat → Nat} {ex : Bool} {kq : Nat × Nat} (hn : 238 ≤ n) (hRf : RfOk 194 238 kq Rf) (hg : Ok g l0 E cX12_weigh RX12 6 (d + 5) 0 0) {q : Mm} (hr : Ret g E 0 0 none ex n Rf none q) : ∀ (F : Nat) (x1 : Int32) (x2 : Int32) (x3 : Int32) (M : Mm), sX12_weigh_7 F x1 x2 x3 M = some q → WG g E 6 n Rf ex 0 0 7 [(0, rr E.1 194), (1, .int x1), (2, .int x2), (3, .int x3)] [] M := by
  intro F
  induction F with
  | zero =>
    intro x1 x2 x3 M h
    cases h
  | succ F ih =>
    intro x1 x2 x3 M h
    rw [sX12_weigh_7] at h
    refine g_iload_n hg dX12_weigh_7 rfl 3 rfl ?_
    refine g_rload_n hg dX12_weigh_8 rfl 0 rfl ?_
    refine g_getI hg fl_X12_330 ly194 rfl (idb rfl rfl hn) dX12_weigh_9 ?_
    refine g_icmp_ge (tgt := 28) hg dX12_weigh_12 (by decide) (fun c => ?_) (fun c => ?_)
    · replace h := itT c h
      refine g_iconst hg dX12_weigh_28 kI_0 ?_
      refine g_istore_n (lv' := [(3, .int 0), (0, rr E.1 194), (1, .int x1), (2, .int x2)]) hg dX12_weigh_29 rfl (by decide) rfl ?_
      refine g_sub (lv' := [(0, rr E.1 194), (1, .int x1), (2, .int x2), (3, .int 0)]) [1, 2, 3, 0] rfl ?_
      exact lkX12_weigh_30 hn hRf hg hr  4096 _ _ _ _ h
    · replace h := itF c h
      refine g_rload_n hg dX12_weigh_15 rfl 0 rfl ?_
      refine g_getR (r := 228) hg fl_X12_138 ly194 rfl (idb rfl rfl hn) (rfc hRf rfl rfl rfl rfl) (by decide) dX12_weigh_16 ?_
      refine g_iload_n hg dX12_weigh_19 rfl 3 rfl ?_
      refine g_iconst hg dX12_weigh_20 kI_1 ?_
      obtain ⟨c21, h⟩ := ck_some h
      refine g_iast hg ly228 (idb rfl rfl hn) (inb_vp c21) dX12_weigh_21 ?_
      refine g_inc (lv' := [(3, .int (x3 + 1)), (0, rr E.1 194), (1, .int x1), (2, .int x2)]) hg dX12_weigh_22 kI_1 3 rfl (by decide) rfl ?_
      refine g_goto (tgt := 7) hg dX12_weigh_25 (by decide) ?_
      refine g_sub (lv' := [(0, rr E.1 194), (1, .int x1), (2, .int x2), (3, .int (x3 + 1))]) [1, 2, 3, 0] rfl ?_
      exact ih _ _ _ _ h
theorem lkX12_weigh {l0 : Launch} {E : En} {d n : Nat} {Rf : Nat → Nat → Nat} {ex : Bool} {kq : Nat × Nat} (hd : 5 ≤ d) (hn : 238 ≤ n) (hRf : RfOk 194 238 kq Rf) {x1 : Int32} {x2 : Int32} {M : Mm} {q : Mm} (h : sX12_weigh x1 x2 M = some q) : Ct l0 E yX12_weigh cX12_weigh 6 none d 0 0 [rr E.1 194, .int x1, .int x2] ex n Rf M n Rf none q := by
  obtain ⟨d, rfl⟩ := Nat.exists_eq_add_of_le' hd
  refine Ct.of pnX12 (Nat.le_of_ble_eq_true rfl) (fun g hg hr _ => ?_)
  replace hg : Ok g l0 E cX12_weigh RX12 6 (d + 5) 0 0 := hg
  show WG g E 6 n Rf ex 0 0 0 [(0, rr E.1 194), (1, .int x1), (2, .int x2)] [] M
  unfold sX12_weigh at h
  refine g_rload_n hg dX12_weigh_0 rfl 0 rfl ?_
  refine g_iconst hg dX12_weigh_1 kI_0 ?_
  refine g_putI hg fp_X12_380 ly194 rfl (idb rfl rfl hn) dX12_weigh_2 ?_
  refine g_iconst hg dX12_weigh_5 kI_0 ?_
  refine g_istore_n (lv' := [(3, .int 0), (0, rr E.1 194), (1, .int x1), (2, .int x2)]) hg dX12_weigh_6 rfl (by decide) rfl ?_
  refine g_sub (lv' := [(0, rr E.1 194), (1, .int x1), (2, .int x2), (3, .int 0)]) [1, 2, 3, 0] rfl ?_
  exact lkX12_weigh_7 hn hRf hg hr  4096 _ _ _ _ h
theorem lkX12_part {l0 : Launch} {E : En} {d n : Nat} {Rf : Nat → Nat → Nat} {ex : Bool} {kq : Nat × Nat} (hd : 1 ≤ d) (hn : 238 ≤ n) (hRf : RfOk 194 238 kq Rf) {x1 : Int32} {M : Mm} {q : Int32 × Mm} (h : sX12_part x1 M = some q) : Ct l0 E yX12_part cX12_part 2 (some .int) d 0 0 [rr E.1 194, .int x1] ex n Rf M n Rf (some (.int q.1)) q.2 := by
  obtain ⟨d, rfl⟩ := Nat.exists_eq_add_of_le' hd
  refine Ct.of pnX12 (Nat.le_of_ble_eq_true rfl) (fun g hg hr _ => ?_)
  replace hg : Ok g l0 E cX12_part RX12 2 (d + 1) 0 0 := hg
  show WG g E 2 n Rf ex 0 0 0 [(0, rr E.1 194), (1, .int x1)] [] M
  unfold sX12_part at h
  refine g_sipush hg dX12_part_0 kS_1000 ?_
  refine g_rload_n hg dX12_part_3 rfl 0 rfl ?_
  refine g_getR (r := 228) hg fl_X12_138 ly194 rfl (idb rfl rfl hn) (rfc hRf rfl rfl rfl rfl) (by decide) dX12_part_4 ?_
  refine g_iload_n hg dX12_part_7 rfl 1 rfl ?_
  obtain ⟨c8, h⟩ := ck_some h
  refine g_iald hg ly228 (idb rfl rfl hn) (inb_vp c8) dX12_part_8 ?_
  refine g_imul hg dX12_part_9 ?_
  refine g_rload_n hg dX12_part_10 rfl 0 rfl ?_
  refine g_getI hg fl_X12_380 ly194 rfl (idb rfl rfl hn) dX12_part_11 ?_
  obtain ⟨c14, h⟩ := ck_some h
  refine g_idiv hg dX12_part_14 (nz_ne c14) ?_
  replace h := Option.some.inj h
  subst h
  exact g_iret hg hr dX12_part_15
theorem lkX12_bestHere_32 {g : Gm} {l0 : Launch} {E : En} {d n : Nat} {Rf : Nat → Nat → Nat} {ex : Bool} {kq : Nat × Nat} (hn : 238 ≤ n) (hRf : RfOk 194 238 kq Rf) (hg : Ok g l0 E cX12_bestHere RX12 3 (d + 1) 0 0) {q : Int32 × Mm} (hr : Ret g E 0 0 (some .int) ex n Rf (some (.int q.1)) q.2) {k4 : Int32 → Int32 → Mm → Option (Int32 × Mm)} (hk4 : ∀ (x1 : Int32) (x2 : Int32) (M : Mm), k4 x1 x2 M = some q → WG g E 3 n Rf ex 0 0 4 [(0, rr E.1 194), (1, .int x1), (2, .int x2)] [] M) : ∀ (x2 : Int32) (s0 : Int32) (M : Mm), sX12_bestHere_32 k4 x2 s0 M = some q → WG g E 3 n Rf ex 0 0 32 [(0, rr E.1 194), (2, .int x2)] [.int s0] M := by
  intro x2 s0 M h
  unfold sX12_bestHere_32 at h
  refine g_istore_n (lv' := [(1, .int s0), (0, rr E.1 194), (2, .int x2)]) hg dX12_bestHere_32 rfl (by decide) rfl ?_
  refine g_inc (lv' := [(2, .int (x2 + 1)), (1, .int s0), (0, rr E.1 194)]) hg dX12_bestHere_33 kI_1 2 rfl (by decide) rfl ?_
  refine g_goto (tgt := 4) hg dX12_bestHere_36 (by decide) ?_
  refine g_sub (lv' := [(0, rr E.1 194), (1, .int s0), (2, .int (x2 + 1))]) [2, 1, 0] rfl ?_
  exact hk4 _ _ _ h
theorem lkX12_bestHere_4 {g : Gm} {l0 : Launch} {E : En} {d n : Nat} {Rf : Nat → Nat → Nat} {ex : Bool} {kq : Nat × Nat} (hn : 238 ≤ n) (hRf : RfOk 194 238 kq Rf) (hg : Ok g l0 E cX12_bestHere RX12 3 (d + 1) 0 0) {q : Int32 × Mm} (hr : Ret g E 0 0 (some .int) ex n Rf (some (.int q.1)) q.2) : ∀ (F : Nat) (x1 : Int32) (x2 : Int32) (M : Mm), sX12_bestHere_4 F x1 x2 M = some q → WG g E 3 n Rf ex 0 0 4 [(0, rr E.1 194), (1, .int x1), (2, .int x2)] [] M := by
  intro F
  induction F with
  | zero =>
    intro x1 x2 M h
    cases h
  | succ F ih =>
    intro x1 x2 M h
    rw [sX12_bestHere_4] at h
    refine g_iload_n hg dX12_bestHere_4 rfl 2 rfl ?_
    refine g_rload_n hg dX12_bestHere_5 rfl 0 rfl ?_
    refine g_getI hg fl_X12_330 ly194 rfl (idb rfl rfl hn) dX12_bestHere_6 ?_
    refine g_icmp_ge (tgt := 39) hg dX12_bestHere_9 (by decide) (fun c => ?_) (fun c => ?_)
    · replace h := itT c h
      refine g_iload_n hg dX12_bestHere_39 rfl 1 rfl ?_
      replace h := Option.some.inj h
      subst h
      exact g_iret hg hr dX12_bestHere_40
    · replace h := itF c h
      refine g_rload_n hg dX12_bestHere_12 rfl 0 rfl ?_
      refine g_getR (r := 228) hg fl_X12_138 ly194 rfl (idb rfl rfl hn) (rfc hRf rfl rfl rfl rfl) (by decide) dX12_bestHere_13 ?_
      refine g_iload_n hg dX12_bestHere_16 rfl 2 rfl ?_
      obtain ⟨c17, h⟩ := ck_some h
      refine g_iald hg ly228 (idb rfl rfl hn) (inb_vp c17) dX12_bestHere_17 ?_
      refine g_rload_n hg dX12_bestHere_18 rfl 0 rfl ?_
      refine g_getR (r := 228) hg fl_X12_138 ly194 rfl (idb rfl rfl hn) (rfc hRf rfl rfl rfl rfl) (by decide) dX12_bestHere_19 ?_
      refine g_iload_n hg dX12_bestHere_22 rfl 1 rfl ?_
      obtain ⟨c23, h⟩ := ck_some h
      refine g_iald hg ly228 (idb rfl rfl hn) (inb_vp c23) dX12_bestHere_23 ?_
      refine g_icmp_le (tgt := 31) hg dX12_bestHere_24 (by decide) (fun c => ?_) (fun c => ?_)
      · rw [if_pos c] at h
        refine g_iload_n hg dX12_bestHere_31 rfl 1 rfl ?_
        refine g_sub (lv' := [(0, rr E.1 194), (2, .int x2)]) [0, 2] rfl ?_
        exact lkX12_bestHere_32 hn hRf hg hr ih _ _ _ h
      · rw [if_neg c] at h
        refine g_iload_n hg dX12_bestHere_27 rfl 2 rfl ?_
        refine g_goto (tgt := 32) hg dX12_bestHere_28 (by decide) ?_
        refine g_sub (lv' := [(0, rr E.1 194), (2, .int x2)]) [0, 2] rfl ?_
        exact lkX12_bestHere_32 hn hRf hg hr ih _ _ _ h
theorem lkX12_bestHere {l0 : Launch} {E : En} {d n : Nat} {Rf : Nat → Nat → Nat} {ex : Bool} {kq : Nat × Nat} (hd : 1 ≤ d) (hn : 238 ≤ n) (hRf : RfOk 194 238 kq Rf)  {M : Mm} {q : Int32 × Mm} (h : sX12_bestHere M = some q) : Ct l0 E yX12_bestHere cX12_bestHere 3 (some .int) d 0 0 [rr E.1 194] ex n Rf M n Rf (some (.int q.1)) q.2 := by
  obtain ⟨d, rfl⟩ := Nat.exists_eq_add_of_le' hd
  refine Ct.of pnX12 (Nat.le_of_ble_eq_true rfl) (fun g hg hr _ => ?_)
  replace hg : Ok g l0 E cX12_bestHere RX12 3 (d + 1) 0 0 := hg
  show WG g E 3 n Rf ex 0 0 0 [(0, rr E.1 194)] [] M
  unfold sX12_bestHere at h
  refine g_iconst hg dX12_bestHere_0 kI_0 ?_
  refine g_istore_n (lv' := [(1, .int 0), (0, rr E.1 194)]) hg dX12_bestHere_1 rfl (by decide) rfl ?_
  refine g_iconst hg dX12_bestHere_2 kI_1 ?_
  refine g_istore_n (lv' := [(2, .int 1), (1, .int 0), (0, rr E.1 194)]) hg dX12_bestHere_3 rfl (by decide) rfl ?_
  refine g_sub (lv' := [(0, rr E.1 194), (1, .int 0), (2, .int 1)]) [2, 1, 0] rfl ?_
  exact lkX12_bestHere_4 hn hRf hg hr  4096 _ _ _ h
theorem lkX12_isKnown {l0 : Launch} {E : En} {d n : Nat} {Rf : Nat → Nat → Nat} {ex : Bool} {kq : Nat × Nat} (hd : 1 ≤ d) (hn : 238 ≤ n) (hRf : RfOk 194 238 kq Rf) {x1 : Int32} {M : Mm} {q : Int32 × Mm} (h : sX12_isKnown x1 M = some q) : Ct l0 E yX12_isKnown cX12_isKnown 2 (some .boolean) d 0 0 [rr E.1 194, .int x1] ex n Rf M n Rf (some (.int q.1)) q.2 := by
  obtain ⟨d, rfl⟩ := Nat.exists_eq_add_of_le' hd
  refine Ct.of pnX12 (Nat.le_of_ble_eq_true rfl) (fun g hg hr _ => ?_)
  replace hg : Ok g l0 E cX12_isKnown RX12 2 (d + 1) 0 0 := hg
  show WG g E 2 n Rf ex 0 0 0 [(0, rr E.1 194), (1, .int x1)] [] M
  unfold sX12_isKnown at h
  refine g_iload_n hg dX12_isKnown_0 rfl 1 rfl ?_
  refine g_if_lt (tgt := 16) hg dX12_isKnown_1 (by decide) (fun c => ?_) (fun c => ?_)
  · rw [if_pos c] at h
    refine g_iconst hg dX12_isKnown_16 kI_0 ?_
    replace h := Option.some.inj h
    subst h
    exact g_zret hg hr rfl dX12_isKnown_17
  · rw [if_neg c] at h
    refine g_iload_n hg dX12_isKnown_4 rfl 1 rfl ?_
    refine g_rload_n hg dX12_isKnown_5 rfl 0 rfl ?_
    refine g_getI hg fl_X12_174 ly194 rfl (idb rfl rfl hn) dX12_isKnown_6 ?_
    refine g_icmp_gt (tgt := 16) hg dX12_isKnown_9 (by decide) (fun c => ?_) (fun c => ?_)
    · rw [if_pos c] at h
      refine g_iconst hg dX12_isKnown_16 kI_0 ?_
      replace h := Option.some.inj h
      subst h
      exact g_zret hg hr rfl dX12_isKnown_17
    · rw [if_neg c] at h
      refine g_iconst hg dX12_isKnown_12 kI_1 ?_
      refine g_goto (tgt := 17) hg dX12_isKnown_13 (by decide) ?_
      replace h := Option.some.inj h
      subst h
      exact g_zret hg hr rfl dX12_isKnown_17
theorem lkX12_chance_59 {g : Gm} {l0 : Launch} {E : En} {d n : Nat} {Rf : Nat → Nat → Nat} {ex : Bool} {kq : Nat × Nat} (hn : 238 ≤ n) (hRf : RfOk 194 238 kq Rf) (hg : Ok g l0 E cX12_chance RX12 5 (d + 6) 0 0) {q : Int32 × Mm} (hr : Ret g E 0 0 (some .int) ex n Rf (some (.int q.1)) q.2) : ∀ (x1 : Int32) (x2 : Int32) (x3 : Int32) (x4 : Int32) (M : Mm), sX12_chance_59 x1 x2 x3 x4 M = some q → WG g E 5 n Rf ex 0 0 59 [(0, rr E.1 194), (1, .int x1), (2, .int x2), (3, .int x3), (4, .int x4)] [] M := by
  intro x1 x2 x3 x4 M h
  unfold sX12_chance_59 at h
  refine g_rload_n hg dX12_chance_59 rfl 0 rfl ?_
  refine g_iload_n hg dX12_chance_60 rfl 1 rfl ?_
  obtain ⟨M61, e61, h⟩ := Option.bind_eq_some_iff.mp h
  refine g_callVv (As := [.int x1]) (rest := []) hg (lkX12_know (by omega) hn hRf  e61) cv_X12_386 rfl ly194 (idb rfl rfl hn) rfl rfl (Nat.le_of_ble_eq_true rfl) ⟨Nat.le_refl _, Nat.le_refl _⟩ dX12_chance_61 ?_
  refine g_rload_n hg dX12_chance_64 rfl 0 rfl ?_
  refine g_iload_n hg dX12_chance_65 rfl 2 rfl ?_
  refine g_iconst hg dX12_chance_66 kI_m1 ?_
  obtain ⟨M67, e67, h⟩ := Option.bind_eq_some_iff.mp h
  refine g_callVv (As := [.int x2, .int (-1)]) (rest := []) hg (lkX12_weigh (by omega) hn hRf  e67) cv_X12_389 rfl ly194 (idb rfl rfl hn) rfl rfl (Nat.le_of_ble_eq_true rfl) ⟨Nat.le_refl _, Nat.le_refl _⟩ dX12_chance_67 ?_
  refine g_iload hg dX12_chance_70 4 rfl ?_
  by_cases c0w : x4 = 0
  · replace h := itT c0w h
    refine g_tabI (tgt := 104) (off := 32) hg dX12_chance_72 c0w (by decide) (by decide) ?_
    refine g_rload_n hg dX12_chance_104 rfl 0 rfl ?_
    refine g_getR (r := 228) hg fl_X12_138 ly194 rfl (idb rfl rfl hn) (rfc hRf rfl rfl rfl rfl) (by decide) dX12_chance_105 ?_
    refine g_iload_n hg dX12_chance_108 rfl 3 rfl ?_
    obtain ⟨c109, h⟩ := ck_some h
    refine g_iald hg ly228 (idb rfl rfl hn) (inb_vp c109) dX12_chance_109 ?_
    replace h := Option.some.inj h
    subst h
    exact g_iret hg hr dX12_chance_110
  replace h := itF c0w h
  by_cases c1w : x4 = 1
  · replace h := itT c1w h
    refine g_tabI (tgt := 111) (off := 39) hg dX12_chance_72 c1w (by decide) (by decide) ?_
    refine g_rload_n hg dX12_chance_111 rfl 0 rfl ?_
    refine g_iload_n hg dX12_chance_112 rfl 3 rfl ?_
    obtain ⟨q113, e113, h⟩ := Option.bind_eq_some_iff.mp h
    refine g_callVi (As := [.int x3]) (rest := []) hg (lkX12_part (by omega) hn hRf  e113) cv_X12_392 rfl ly194 (idb rfl rfl hn) rfl rfl (Nat.le_of_ble_eq_true rfl) ⟨Nat.le_refl _, Nat.le_refl _⟩ dX12_chance_113 ?_
    replace h := Option.some.inj h
    subst h
    exact g_iret hg hr dX12_chance_116
  replace h := itF c1w h
  by_cases c2w : x4 = 2
  · replace h := itT c2w h
    refine g_tabI (tgt := 117) (off := 45) hg dX12_chance_72 c2w (by decide) (by decide) ?_
    refine g_rload_n hg dX12_chance_117 rfl 0 rfl ?_
    obtain ⟨q118, e118, h⟩ := Option.bind_eq_some_iff.mp h
    refine g_callVi (As := []) (rest := []) hg (lkX12_bestHere (by omega) hn hRf  e118) cv_X12_395 rfl ly194 (idb rfl rfl hn) rfl rfl (Nat.le_of_ble_eq_true rfl) ⟨Nat.le_refl _, Nat.le_refl _⟩ dX12_chance_118 ?_
    replace h := Option.some.inj h
    subst h
    exact g_iret hg hr dX12_chance_121
  replace h := itF c2w h
  by_cases c3w : x4 = 3
  · replace h := itT c3w h
    refine g_tabI (tgt := 122) (off := 50) hg dX12_chance_72 c3w (by decide) (by decide) ?_
    refine g_sipush hg dX12_chance_122 kS_1000 ?_
    refine g_rload_n hg dX12_chance_125 rfl 0 rfl ?_
    refine g_rload_n hg dX12_chance_126 rfl 0 rfl ?_
    obtain ⟨q127, e127, h⟩ := Option.bind_eq_some_iff.mp h
    refine g_callVi (As := []) (rest := [rr E.1 194, .int 1000]) hg (lkX12_bestHere (by omega) hn hRf  e127) cv_X12_395 rfl ly194 (idb rfl rfl hn) rfl rfl (Nat.le_of_ble_eq_true rfl) ⟨Nat.le_refl _, Nat.le_refl _⟩ dX12_chance_127 ?_
    obtain ⟨q130, e130, h⟩ := Option.bind_eq_some_iff.mp h
    refine g_callVi (As := [.int q127.1]) (rest := [.int 1000]) hg (lkX12_part (by omega) hn hRf  e130) cv_X12_392 rfl ly194 (idb rfl rfl hn) rfl rfl (Nat.le_of_ble_eq_true rfl) ⟨Nat.le_refl _, Nat.le_refl _⟩ dX12_chance_130 ?_
    refine g_isub hg dX12_chance_133 ?_
    replace h := Option.some.inj h
    subst h
    exact g_iret hg hr dX12_chance_134
  replace h := itF c3w h
  refine g_tabO (tgt := 135) hg dX12_chance_72 (by have e0w := lv_neT (a := 0) c0w (by decide); have e1w := lv_neT (a := 1) c1w (by decide); have e2w := lv_neT (a := 2) c2w (by decide); have e3w := lv_neT (a := 3) c3w (by decide); omega) (by decide) ?_
  refine g_rload_n hg dX12_chance_135 rfl 0 rfl ?_
  refine g_getI hg fl_X12_380 ly194 rfl (idb rfl rfl hn) dX12_chance_136 ?_
  replace h := Option.some.inj h
  subst h
  exact g_iret hg hr dX12_chance_139
theorem lkX12_chance {l0 : Launch} {E : En} {d n : Nat} {Rf : Nat → Nat → Nat} {ex : Bool} {kq : Nat × Nat} (hd : 6 ≤ d) (hn : 238 ≤ n) (hRf : RfOk 194 238 kq Rf) {x1 : Int32} {x2 : Int32} {x3 : Int32} {x4 : Int32} {M : Mm} {q : Int32 × Mm} (h : sX12_chance x1 x2 x3 x4 M = some q) : Ct l0 E yX12_chance cX12_chance 5 (some .int) d 0 0 [rr E.1 194, .int x1, .int x2, .int x3, .int x4] ex n Rf M n Rf (some (.int q.1)) q.2 := by
  obtain ⟨d, rfl⟩ := Nat.exists_eq_add_of_le' hd
  refine Ct.of pnX12 (Nat.le_of_ble_eq_true rfl) (fun g hg hr _ => ?_)
  replace hg : Ok g l0 E cX12_chance RX12 5 (d + 6) 0 0 := hg
  show WG g E 5 n Rf ex 0 0 0 [(0, rr E.1 194), (1, .int x1), (2, .int x2), (3, .int x3), (4, .int x4)] [] M
  unfold sX12_chance at h
  refine g_rload_n hg dX12_chance_0 rfl 0 rfl ?_
  refine g_iconst hg dX12_chance_1 kI_0 ?_
  refine g_putI hg fp_X12_171 ly194 rfl (idb rfl rfl hn) dX12_chance_2 ?_
  refine g_rload_n hg dX12_chance_5 rfl 0 rfl ?_
  refine g_iload_n hg dX12_chance_6 rfl 1 rfl ?_
  obtain ⟨q7, e7, h⟩ := Option.bind_eq_some_iff.mp h
  refine g_callVi (As := [.int x1]) (rest := []) hg (lkX12_isKnown (by omega) hn hRf  e7) cv_X12_383 rfl ly194 (idb rfl rfl hn) rfl rfl (Nat.le_of_ble_eq_true rfl) ⟨Nat.le_refl _, Nat.le_refl _⟩ dX12_chance_7 ?_
  refine g_if_eq (tgt := 57) hg dX12_chance_10 (by decide) (fun c => ?_) (fun c => ?_)
  · replace h := itT c h
    refine g_iconst hg dX12_chance_57 kI_m1 ?_
    replace h := Option.some.inj h
    subst h
    exact g_iret hg hr dX12_chance_58
  · replace h := itF c h
    refine g_rload_n hg dX12_chance_13 rfl 0 rfl ?_
    refine g_iload_n hg dX12_chance_14 rfl 2 rfl ?_
    obtain ⟨q15, e15, h⟩ := Option.bind_eq_some_iff.mp h
    refine g_callVi (As := [.int x2]) (rest := []) hg (lkX12_isCell (by omega) hn hRf  e15) cv_X12_180 rfl ly194 (idb rfl rfl hn) rfl rfl (Nat.le_of_ble_eq_true rfl) ⟨Nat.le_refl _, Nat.le_refl _⟩ dX12_chance_15 ?_
    refine g_if_eq (tgt := 57) hg dX12_chance_18 (by decide) (fun c => ?_) (fun c => ?_)
    · replace h := itT c h
      refine g_iconst hg dX12_chance_57 kI_m1 ?_
      replace h := Option.some.inj h
      subst h
      exact g_iret hg hr dX12_chance_58
    · replace h := itF c h
      refine g_iload hg dX12_chance_21 4 rfl ?_
      refine g_if_lt (tgt := 57) hg dX12_chance_23 (by decide) (fun c => ?_) (fun c => ?_)
      · replace h := itT c h
        refine g_iconst hg dX12_chance_57 kI_m1 ?_
        replace h := Option.some.inj h
        subst h
        exact g_iret hg hr dX12_chance_58
      · replace h := itF c h
        refine g_iload hg dX12_chance_26 4 rfl ?_
        refine g_iconst hg dX12_chance_28 kI_4 ?_
        refine g_icmp_gt (tgt := 57) hg dX12_chance_29 (by decide) (fun c => ?_) (fun c => ?_)
        · replace h := itT c h
          refine g_iconst hg dX12_chance_57 kI_m1 ?_
          replace h := Option.some.inj h
          subst h
          exact g_iret hg hr dX12_chance_58
        · replace h := itF c h
          refine g_rload_n hg dX12_chance_32 rfl 0 rfl ?_
          refine g_getI hg fl_X12_330 ly194 rfl (idb rfl rfl hn) dX12_chance_33 ?_
          refine g_if_eq (tgt := 57) hg dX12_chance_36 (by decide) (fun c => ?_) (fun c => ?_)
          · replace h := itT c h
            refine g_iconst hg dX12_chance_57 kI_m1 ?_
            replace h := Option.some.inj h
            subst h
            exact g_iret hg hr dX12_chance_58
          · replace h := itF c h
            refine g_iload hg dX12_chance_39 4 rfl ?_
            refine g_iconst hg dX12_chance_41 kI_2 ?_
            refine g_icmp_ge (tgt := 59) hg dX12_chance_42 (by decide) (fun c => ?_) (fun c => ?_)
            · replace h := itT c h
              exact lkX12_chance_59 hn hRf hg hr  _ _ _ _ _ h
            · replace h := itF c h
              refine g_iload_n hg dX12_chance_45 rfl 3 rfl ?_
              refine g_if_lt (tgt := 57) hg dX12_chance_46 (by decide) (fun c => ?_) (fun c => ?_)
              · replace h := itT c h
                refine g_iconst hg dX12_chance_57 kI_m1 ?_
                replace h := Option.some.inj h
                subst h
                exact g_iret hg hr dX12_chance_58
              · replace h := itF c h
                refine g_iload_n hg dX12_chance_49 rfl 3 rfl ?_
                refine g_rload_n hg dX12_chance_50 rfl 0 rfl ?_
                refine g_getI hg fl_X12_330 ly194 rfl (idb rfl rfl hn) dX12_chance_51 ?_
                refine g_icmp_lt (tgt := 59) hg dX12_chance_54 (by decide) (fun c => ?_) (fun c => ?_)
                · replace h := itT c h
                  exact lkX12_chance_59 hn hRf hg hr  _ _ _ _ _ h
                · replace h := itF c h
                  refine g_iconst hg dX12_chance_57 kI_m1 ?_
                  replace h := Option.some.inj h
                  subst h
                  exact g_iret hg hr dX12_chance_58
theorem lkX12_leftOut_115 {g : Gm} {l0 : Launch} {E : En} {d n : Nat} {Rf : Nat → Nat → Nat} {ex : Bool} {kq : Nat × Nat} (hn : 238 ≤ n) (hRf : RfOk 194 238 kq Rf) (hg : Ok g l0 E cX12_leftOut RX12 7 (d + 6) 0 0) {q : Int32 × Mm} (hr : Ret g E 0 0 (some .int) ex n Rf (some (.int q.1)) q.2) {k40 : Int32 → Int32 → Int32 → Int32 → Int32 → Mm → Option (Int32 × Mm)} (hk40 : ∀ (x2 : Int32) (x3 : Int32) (x4 : Int32) (x5 : Int32) (x6 : Int32) (M : Mm), k40 x2 x3 x4 x5 x6 M = some q → WG g E 7 n Rf ex 0 0 40 [(0, rr E.1 194), (2, .int x2), (3, .int x3), (4, .int x4), (5, .int x5), (6, .int x6)] [] M) : ∀ (x2 : Int32) (x3 : Int32) (x4 : Int32) (x5 : Int32) (x6 : Int32) (M : Mm), sX12_leftOut_115 k40 x2 x3 x4 x5 x6 M = some q → WG g E 7 n Rf ex 0 0 115 [(0, rr E.1 194), (2, .int x2), (3, .int x3), (4, .int x4), (5, .int x5), (6, .int x6)] [] M := by
  intro x2 x3 x4 x5 x6 M h
  unfold sX12_leftOut_115 at h
  refine g_inc (lv' := [(6, .int (x6 + 1)), (0, rr E.1 194), (2, .int x2), (3, .int x3), (4, .int x4), (5, .int x5)]) hg dX12_leftOut_115 kI_1 5 rfl (by decide) rfl ?_
  refine g_goto (tgt := 40) hg dX12_leftOut_118 (by decide) ?_
  refine g_sub (lv' := [(0, rr E.1 194), (2, .int x2), (3, .int x3), (4, .int x4), (5, .int x5), (6, .int (x6 + 1))]) [1, 2, 3, 4, 5, 0] rfl ?_
  exact hk40 _ _ _ _ _ _ h
theorem lkX12_leftOut_99 {g : Gm} {l0 : Launch} {E : En} {d n : Nat} {Rf : Nat → Nat → Nat} {ex : Bool} {kq : Nat × Nat} (hn : 238 ≤ n) (hRf : RfOk 194 238 kq Rf) (hg : Ok g l0 E cX12_leftOut RX12 7 (d + 6) 0 0) {q : Int32 × Mm} (hr : Ret g E 0 0 (some .int) ex n Rf (some (.int q.1)) q.2) {k40 : Int32 → Int32 → Int32 → Int32 → Int32 → Mm → Option (Int32 × Mm)} (hk40 : ∀ (x2 : Int32) (x3 : Int32) (x4 : Int32) (x5 : Int32) (x6 : Int32) (M : Mm), k40 x2 x3 x4 x5 x6 M = some q → WG g E 7 n Rf ex 0 0 40 [(0, rr E.1 194), (2, .int x2), (3, .int x3), (4, .int x4), (5, .int x5), (6, .int x6)] [] M) : ∀ (x2 : Int32) (x3 : Int32) (x5 : Int32) (x6 : Int32) (s0 : Int32) (s1 : Int32) (M : Mm), sX12_leftOut_99 k40 x2 x3 x5 x6 s0 s1 M = some q → WG g E 7 n Rf ex 0 0 99 [(0, rr E.1 194), (2, .int x2), (3, .int x3), (5, .int x5), (6, .int x6)] [.int s1, .int s0] M := by
  intro x2 x3 x5 x6 s0 s1 M h
  unfold sX12_leftOut_99 at h
  refine g_iadd hg dX12_leftOut_99 ?_
  refine g_istore (lv' := [(4, .int (s0 + s1)), (0, rr E.1 194), (2, .int x2), (3, .int x3), (5, .int x5), (6, .int x6)]) hg dX12_leftOut_100 (by decide) rfl ?_
  refine g_iload hg dX12_leftOut_102 4 rfl ?_
  refine g_rload_n hg dX12_leftOut_104 rfl 1 rfl ?_
  refine g_rload_n hg dX12_leftOut_105 rfl 1 rfl ?_
  obtain ⟨q106, e106, h⟩ := Option.bind_eq_some_iff.mp h
  refine g_callVi (As := []) (rest := [rr E.1 194, .int x5]) hg (lkX12_bestHere (by omega) hn hRf  e106) cv_X12_395 rfl ly194 (idb rfl rfl hn) rfl rfl (Nat.le_of_ble_eq_true rfl) ⟨Nat.le_refl _, Nat.le_refl _⟩ dX12_leftOut_106 ?_
  obtain ⟨q109, e109, h⟩ := Option.bind_eq_some_iff.mp h
  refine g_callVi (As := [.int q106.1]) (rest := [.int x5]) hg (lkX12_part (by omega) hn hRf  e109) cv_X12_392 rfl ly194 (idb rfl rfl hn) rfl rfl (Nat.le_of_ble_eq_true rfl) ⟨Nat.le_refl _, Nat.le_refl _⟩ dX12_leftOut_109 ?_
  refine g_iadd hg dX12_leftOut_112 ?_
  refine g_istore (lv' := [(5, .int (x5 + q109.1)), (4, .int (s0 + s1)), (0, rr E.1 194), (2, .int x2), (3, .int x3), (6, .int x6)]) hg dX12_leftOut_113 (by decide) rfl ?_
  refine g_sub (lv' := [(0, rr E.1 194), (2, .int x2), (3, .int x3), (4, .int (s0 + s1)), (5, .int (x5 + q109.1)), (6, .int x6)]) [2, 3, 4, 1, 0, 5] rfl ?_
  exact lkX12_leftOut_115 hn hRf hg hr hk40 _ _ _ _ _ _ h
theorem lkX12_leftOut_40 {g : Gm} {l0 : Launch} {E : En} {d n : Nat} {Rf : Nat → Nat → Nat} {ex : Bool} {kq : Nat × Nat} (hn : 238 ≤ n) (hRf : RfOk 194 238 kq Rf) (hg : Ok g l0 E cX12_leftOut RX12 7 (d + 6) 0 0) {q : Int32 × Mm} (hr : Ret g E 0 0 (some .int) ex n Rf (some (.int q.1)) q.2) : ∀ (F : Nat) (x2 : Int32) (x3 : Int32) (x4 : Int32) (x5 : Int32) (x6 : Int32) (M : Mm), sX12_leftOut_40 F x2 x3 x4 x5 x6 M = some q → WG g E 7 n Rf ex 0 0 40 [(0, rr E.1 194), (2, .int x2), (3, .int x3), (4, .int x4), (5, .int x5), (6, .int x6)] [] M := by
  intro F
  induction F with
  | zero =>
    intro x2 x3 x4 x5 x6 M h
    cases h
  | succ F ih =>
    intro x2 x3 x4 x5 x6 M h
    rw [sX12_leftOut_40] at h
    refine g_iload hg dX12_leftOut_40 5 rfl ?_
    refine g_rload_n hg dX12_leftOut_42 rfl 0 rfl ?_
    refine g_getI hg fl_X12_174 ly194 rfl (idb rfl rfl hn) dX12_leftOut_43 ?_
    refine g_icmp_ge (tgt := 121) hg dX12_leftOut_46 (by decide) (fun c => ?_) (fun c => ?_)
    · replace h := itT c h
      refine g_iload_n hg dX12_leftOut_121 rfl 1 rfl ?_
      refine g_if_ne (tgt := 129) hg dX12_leftOut_122 (by decide) (fun c => ?_) (fun c => ?_)
      · rw [if_neg c] at h
        refine g_iload_n hg dX12_leftOut_129 rfl 1 rfl ?_
        refine g_iconst hg dX12_leftOut_130 kI_1 ?_
        refine g_icmp_ne (tgt := 139) hg dX12_leftOut_131 (by decide) (fun c => ?_) (fun c => ?_)
        · rw [if_neg c] at h
          refine g_iload hg dX12_leftOut_139 4 rfl ?_
          replace h := Option.some.inj h
          subst h
          exact g_iret hg hr dX12_leftOut_141
        · rw [if_pos c] at h
          refine g_iload hg dX12_leftOut_134 3 rfl ?_
          refine g_goto (tgt := 141) hg dX12_leftOut_136 (by decide) ?_
          replace h := Option.some.inj h
          subst h
          exact g_iret hg hr dX12_leftOut_141
      · rw [if_pos c] at h
        refine g_iload_n hg dX12_leftOut_125 rfl 2 rfl ?_
        refine g_goto (tgt := 141) hg dX12_leftOut_126 (by decide) ?_
        replace h := Option.some.inj h
        subst h
        exact g_iret hg hr dX12_leftOut_141
    · replace h := itF c h
      refine g_rload_n hg dX12_leftOut_49 rfl 0 rfl ?_
      refine g_getR (r := 227) hg fl_X12_135 ly194 rfl (idb rfl rfl hn) (rfc hRf rfl rfl rfl rfl) (by decide) dX12_leftOut_50 ?_
      refine g_iload hg dX12_leftOut_53 5 rfl ?_
      obtain ⟨c55, h⟩ := ck_some h
      refine g_iald hg ly227 (idb rfl rfl hn) (inb_vp c55) dX12_leftOut_55 ?_
      refine g_if_ge (tgt := 62) hg dX12_leftOut_56 (by decide) (fun c => ?_) (fun c => ?_)
      · replace h := itT c h
        refine g_rload_n hg dX12_leftOut_62 rfl 0 rfl ?_
        refine g_rload_n hg dX12_leftOut_63 rfl 0 rfl ?_
        refine g_getR (r := 204) hg fl_X12_65 ly194 rfl (idb rfl rfl hn) (rfc hRf rfl rfl rfl rfl) (by decide) dX12_leftOut_64 ?_
        refine g_iload hg dX12_leftOut_67 5 rfl ?_
        obtain ⟨c69, h⟩ := ck_some h
        refine g_iald hg ly204 (idb rfl rfl hn) (inb_vp c69) dX12_leftOut_69 ?_
        refine g_iload hg dX12_leftOut_70 5 rfl ?_
        obtain ⟨M72, e72, h⟩ := Option.bind_eq_some_iff.mp h
        refine g_callVv (As := [.int (M.1 204 x6.toNatClampNeg), .int x6]) (rest := []) hg (lkX12_weigh (by omega) hn hRf  e72) cv_X12_389 rfl ly194 (idb rfl rfl hn) rfl rfl (Nat.le_of_ble_eq_true rfl) ⟨Nat.le_refl _, Nat.le_refl _⟩ dX12_leftOut_72 ?_
        refine g_inc (lv' := [(3, .int (x3 + 1)), (0, rr E.1 194), (2, .int x2), (4, .int x4), (5, .int x5), (6, .int x6)]) hg dX12_leftOut_75 kI_1 2 rfl (by decide) rfl ?_
        refine g_iload hg dX12_leftOut_78 3 rfl ?_
        refine g_rload_n hg dX12_leftOut_80 rfl 1 rfl ?_
        obtain ⟨q81, e81, h⟩ := Option.bind_eq_some_iff.mp h
        refine g_callVi (As := []) (rest := [.int x4]) hg (lkX12_bestHere (by omega) hn hRf  e81) cv_X12_395 rfl ly194 (idb rfl rfl hn) rfl rfl (Nat.le_of_ble_eq_true rfl) ⟨Nat.le_refl _, Nat.le_refl _⟩ dX12_leftOut_81 ?_
        refine g_rload_n hg dX12_leftOut_84 rfl 1 rfl ?_
        refine g_getR (r := 227) hg fl_X12_135 ly194 rfl (idb rfl rfl hn) (rfc hRf rfl rfl rfl rfl) (by decide) dX12_leftOut_85 ?_
        refine g_iload hg dX12_leftOut_88 5 rfl ?_
        obtain ⟨c90, h⟩ := ck_some h
        refine g_iald hg ly227 (idb rfl rfl hn) (inb_vp c90) dX12_leftOut_90 ?_
        refine g_icmp_ne (tgt := 98) hg dX12_leftOut_91 (by decide) (fun c => ?_) (fun c => ?_)
        · rw [if_neg c] at h
          refine g_iconst hg dX12_leftOut_98 kI_0 ?_
          refine g_sub (lv' := [(0, rr E.1 194), (2, .int x2), (3, .int (x3 + 1)), (5, .int x5), (6, .int x6)]) [1, 2, 0, 4, 5] rfl ?_
          exact lkX12_leftOut_99 hn hRf hg hr ih _ _ _ _ _ _ _ h
        · rw [if_pos c] at h
          refine g_iconst hg dX12_leftOut_94 kI_1 ?_
          refine g_goto (tgt := 99) hg dX12_leftOut_95 (by decide) ?_
          refine g_sub (lv' := [(0, rr E.1 194), (2, .int x2), (3, .int (x3 + 1)), (5, .int x5), (6, .int x6)]) [1, 2, 0, 4, 5] rfl ?_
          exact lkX12_leftOut_99 hn hRf hg hr ih _ _ _ _ _ _ _ h
      · replace h := itF c h
        refine g_goto (tgt := 115) hg dX12_leftOut_59 (by decide) ?_
        exact lkX12_leftOut_115 hn hRf hg hr ih _ _ _ _ _ _ h
theorem lkX12_leftOut {l0 : Launch} {E : En} {d n : Nat} {Rf : Nat → Nat → Nat} {ex : Bool} {kq : Nat × Nat} (hd : 6 ≤ d) (hn : 238 ≤ n) (hRf : RfOk 194 238 kq Rf) {x1 : Int32} {x2 : Int32} {M : Mm} {q : Int32 × Mm} (h : sX12_leftOut x1 x2 M = some q) : Ct l0 E yX12_leftOut cX12_leftOut 7 (some .int) d 0 0 [rr E.1 194, .int x1, .int x2] ex n Rf M n Rf (some (.int q.1)) q.2 := by
  obtain ⟨d, rfl⟩ := Nat.exists_eq_add_of_le' hd
  refine Ct.of pnX12 (Nat.le_of_ble_eq_true rfl) (fun g hg hr _ => ?_)
  replace hg : Ok g l0 E cX12_leftOut RX12 7 (d + 6) 0 0 := hg
  show WG g E 7 n Rf ex 0 0 0 [(0, rr E.1 194), (1, .int x1), (2, .int x2)] [] M
  unfold sX12_leftOut at h
  refine g_rload_n hg dX12_leftOut_0 rfl 0 rfl ?_
  refine g_iconst hg dX12_leftOut_1 kI_0 ?_
  refine g_putI hg fp_X12_171 ly194 rfl (idb rfl rfl hn) dX12_leftOut_2 ?_
  refine g_rload_n hg dX12_leftOut_5 rfl 0 rfl ?_
  refine g_iload_n hg dX12_leftOut_6 rfl 1 rfl ?_
  obtain ⟨q7, e7, h⟩ := Option.bind_eq_some_iff.mp h
  refine g_callVi (As := [.int x1]) (rest := []) hg (lkX12_isKnown (by omega) hn hRf  e7) cv_X12_383 rfl ly194 (idb rfl rfl hn) rfl rfl (Nat.le_of_ble_eq_true rfl) ⟨Nat.le_refl _, Nat.le_refl _⟩ dX12_leftOut_7 ?_
  refine g_if_eq (tgt := 22) hg dX12_leftOut_10 (by decide) (fun c => ?_) (fun c => ?_)
  · replace h := itT c h
    refine g_iconst hg dX12_leftOut_22 kI_m1 ?_
    replace h := Option.some.inj h
    subst h
    exact g_iret hg hr dX12_leftOut_23
  · replace h := itF c h
    refine g_iload_n hg dX12_leftOut_13 rfl 2 rfl ?_
    refine g_if_lt (tgt := 22) hg dX12_leftOut_14 (by decide) (fun c => ?_) (fun c => ?_)
    · replace h := itT c h
      refine g_iconst hg dX12_leftOut_22 kI_m1 ?_
      replace h := Option.some.inj h
      subst h
      exact g_iret hg hr dX12_leftOut_23
    · replace h := itF c h
      refine g_iload_n hg dX12_leftOut_17 rfl 2 rfl ?_
      refine g_iconst hg dX12_leftOut_18 kI_2 ?_
      refine g_icmp_le (tgt := 24) hg dX12_leftOut_19 (by decide) (fun c => ?_) (fun c => ?_)
      · replace h := itT c h
        refine g_rload_n hg dX12_leftOut_24 rfl 0 rfl ?_
        refine g_iload_n hg dX12_leftOut_25 rfl 1 rfl ?_
        obtain ⟨M26, e26, h⟩ := Option.bind_eq_some_iff.mp h
        refine g_callVv (As := [.int x1]) (rest := []) hg (lkX12_know (by omega) hn hRf  e26) cv_X12_386 rfl ly194 (idb rfl rfl hn) rfl rfl (Nat.le_of_ble_eq_true rfl) ⟨Nat.le_refl _, Nat.le_refl _⟩ dX12_leftOut_26 ?_
        refine g_iconst hg dX12_leftOut_29 kI_0 ?_
        refine g_istore_n (lv' := [(3, .int 0), (0, rr E.1 194), (1, .int x1), (2, .int x2)]) hg dX12_leftOut_30 rfl (by decide) rfl ?_
        refine g_iconst hg dX12_leftOut_31 kI_0 ?_
        refine g_istore (lv' := [(4, .int 0), (3, .int 0), (0, rr E.1 194), (1, .int x1), (2, .int x2)]) hg dX12_leftOut_32 (by decide) rfl ?_
        refine g_iconst hg dX12_leftOut_34 kI_0 ?_
        refine g_istore (lv' := [(5, .int 0), (4, .int 0), (3, .int 0), (0, rr E.1 194), (1, .int x1), (2, .int x2)]) hg dX12_leftOut_35 (by decide) rfl ?_
        refine g_iconst hg dX12_leftOut_37 kI_0 ?_
        refine g_istore (lv' := [(6, .int 0), (5, .int 0), (4, .int 0), (3, .int 0), (0, rr E.1 194), (1, .int x1), (2, .int x2)]) hg dX12_leftOut_38 (by decide) rfl ?_
        refine g_sub (lv' := [(0, rr E.1 194), (2, .int x2), (3, .int 0), (4, .int 0), (5, .int 0), (6, .int 0)]) [4, 6, 3, 2, 1, 0] rfl ?_
        exact lkX12_leftOut_40 hn hRf hg hr  4096 _ _ _ _ _ _ h
      · replace h := itF c h
        refine g_iconst hg dX12_leftOut_22 kI_m1 ?_
        replace h := Option.some.inj h
        subst h
        exact g_iret hg hr dX12_leftOut_23
theorem lkX12_change {l0 : Launch} {E : En} {d n : Nat} {Rf : Nat → Nat → Nat} {ex : Bool} {kq : Nat × Nat} (hd : 2 ≤ d) (hn : 238 ≤ n) (hRf : RfOk 194 238 kq Rf) {x1 : Int32} {x2 : Int32} {x3 : Int32} {M : Mm} {q : Int32 × Mm} (h : sX12_change x1 x2 x3 M = some q) : Ct l0 E yX12_change cX12_change 4 (some .int) d 0 0 [rr E.1 194, .int x1, .int x2, .int x3] ex n Rf M n Rf (some (.int q.1)) q.2 := by
  obtain ⟨d, rfl⟩ := Nat.exists_eq_add_of_le' hd
  refine Ct.of pnX12 (Nat.le_of_ble_eq_true rfl) (fun g hg hr _ => ?_)
  replace hg : Ok g l0 E cX12_change RX12 4 (d + 2) 0 0 := hg
  show WG g E 4 n Rf ex 0 0 0 [(0, rr E.1 194), (1, .int x1), (2, .int x2), (3, .int x3)] [] M
  unfold sX12_change at h
  refine g_iload_n hg dX12_change_0 rfl 2 rfl ?_
  refine g_iload_n hg dX12_change_1 rfl 3 rfl ?_
  refine g_icmp_ne (tgt := 7) hg dX12_change_2 (by decide) (fun c => ?_) (fun c => ?_)
  · replace h := itF c h
    refine g_rload_n hg dX12_change_7 rfl 0 rfl ?_
    refine g_getR (r := 196) hg fl_X12_20 ly194 rfl (idb rfl rfl hn) (rfc hRf rfl rfl rfl rfl) (by decide) dX12_change_8 ?_
    refine g_rload_n hg dX12_change_11 rfl 0 rfl ?_
    refine g_getR (r := 231) hg fl_X12_147 ly194 rfl (idb rfl rfl hn) (rfc hRf rfl rfl rfl rfl) (by decide) dX12_change_12 ?_
    refine g_iload_n hg dX12_change_15 rfl 1 rfl ?_
    obtain ⟨c16, h⟩ := ck_some h
    refine g_iald hg ly231 (idb rfl rfl hn) (inb_vp c16) dX12_change_16 ?_
    obtain ⟨c17, h⟩ := ck_some h
    refine g_iald hg ly196 (idb rfl rfl hn) (inb_vp c17) dX12_change_17 ?_
    refine g_rload_n hg dX12_change_18 rfl 0 rfl ?_
    refine g_getR (r := 196) hg fl_X12_20 ly194 rfl (idb rfl rfl hn) (rfc hRf rfl rfl rfl rfl) (by decide) dX12_change_19 ?_
    refine g_rload_n hg dX12_change_22 rfl 0 rfl ?_
    refine g_getR (r := 231) hg fl_X12_147 ly194 rfl (idb rfl rfl hn) (rfc hRf rfl rfl rfl rfl) (by decide) dX12_change_23 ?_
    refine g_iload_n hg dX12_change_26 rfl 1 rfl ?_
    refine g_iconst hg dX12_change_27 kI_1 ?_
    refine g_iadd hg dX12_change_28 ?_
    obtain ⟨c29, h⟩ := ck_some h
    refine g_iald hg ly231 (idb rfl rfl hn) (inb_vp c29) dX12_change_29 ?_
    obtain ⟨c30, h⟩ := ck_some h
    refine g_iald hg ly196 (idb rfl rfl hn) (inb_vp c30) dX12_change_30 ?_
    refine g_isub hg dX12_change_31 ?_
    obtain ⟨q32, e32, h⟩ := Option.bind_eq_some_iff.mp h
    refine g_callSi (As := [.int ((M.1 196 (M.1 231 x1.toNatClampNeg).toNatClampNeg) - (M.1 196 (M.1 231 (x1 + 1).toNatClampNeg).toNatClampNeg))]) (rest := []) hg (lkX12_size (by omega) hn hRf  e32) cs_X12_359 rfl rfl (Nat.le_of_ble_eq_true rfl) ⟨Nat.le_refl _, Nat.le_refl _⟩ dX12_change_32 ?_
    refine g_rload_n hg dX12_change_35 rfl 0 rfl ?_
    refine g_getI hg fl_X12_35 ly194 rfl (idb rfl rfl hn) dX12_change_36 ?_
    refine g_icmp_lt (tgt := 49) hg dX12_change_39 (by decide) (fun c => ?_) (fun c => ?_)
    · rw [if_pos c] at h
      refine g_rload_n hg dX12_change_49 rfl 0 rfl ?_
      refine g_getI hg fl_X12_47 ly194 rfl (idb rfl rfl hn) dX12_change_50 ?_
      replace h := Option.some.inj h
      subst h
      exact g_iret hg hr dX12_change_53
    · rw [if_neg c] at h
      refine g_rload_n hg dX12_change_42 rfl 0 rfl ?_
      refine g_getI hg fl_X12_50 ly194 rfl (idb rfl rfl hn) dX12_change_43 ?_
      refine g_goto (tgt := 53) hg dX12_change_46 (by decide) ?_
      replace h := Option.some.inj h
      subst h
      exact g_iret hg hr dX12_change_53
  · replace h := itT c h
    refine g_iconst hg dX12_change_5 kI_0 ?_
    replace h := Option.some.inj h
    subst h
    exact g_iret hg hr dX12_change_6
theorem lkX12_onward_91 {g : Gm} {l0 : Launch} {E : En} {d n : Nat} {Rf : Nat → Nat → Nat} {ex : Bool} {kq : Nat × Nat} (hn : 238 ≤ n) (hRf : RfOk 194 238 kq Rf) (hg : Ok g l0 E cX12_onward RX12 7 (d + 3) 0 0) {q : Int32 × Mm} (hr : Ret g E 0 0 (some .int) ex n Rf (some (.int q.1)) q.2) {k25 : Int32 → Int32 → Int32 → Int32 → Mm → Option (Int32 × Mm)} (hk25 : ∀ (x1 : Int32) (x2 : Int32) (x4 : Int32) (x5 : Int32) (M : Mm), k25 x1 x2 x4 x5 M = some q → WG g E 7 n Rf ex 0 0 25 [(0, rr E.1 194), (1, .int x1), (2, .int x2), (4, .int x4), (5, .int x5)] [] M) : ∀ (x1 : Int32) (x2 : Int32) (x5 : Int32) (s0 : Int32) (M : Mm), sX12_onward_91 k25 x1 x2 x5 s0 M = some q → WG g E 7 n Rf ex 0 0 91 [(0, rr E.1 194), (1, .int x1), (2, .int x2), (5, .int x5)] [.int s0] M := by
  intro x1 x2 x5 s0 M h
  unfold sX12_onward_91 at h
  refine g_istore (lv' := [(4, .int s0), (0, rr E.1 194), (1, .int x1), (2, .int x2), (5, .int x5)]) hg dX12_onward_91 (by decide) rfl ?_
  refine g_inc (lv' := [(5, .int (x5 + 1)), (4, .int s0), (0, rr E.1 194), (1, .int x1), (2, .int x2)]) hg dX12_onward_93 kI_1 4 rfl (by decide) rfl ?_
  refine g_goto (tgt := 25) hg dX12_onward_96 (by decide) ?_
  refine g_sub (lv' := [(0, rr E.1 194), (1, .int x1), (2, .int x2), (4, .int s0), (5, .int (x5 + 1))]) [2, 3, 4, 1, 0] rfl ?_
  exact hk25 _ _ _ _ _ h
theorem lkX12_onward_84 {g : Gm} {l0 : Launch} {E : En} {d n : Nat} {Rf : Nat → Nat → Nat} {ex : Bool} {kq : Nat × Nat} (hn : 238 ≤ n) (hRf : RfOk 194 238 kq Rf) (hg : Ok g l0 E cX12_onward RX12 7 (d + 3) 0 0) {q : Int32 × Mm} (hr : Ret g E 0 0 (some .int) ex n Rf (some (.int q.1)) q.2) {k25 : Int32 → Int32 → Int32 → Int32 → Mm → Option (Int32 × Mm)} (hk25 : ∀ (x1 : Int32) (x2 : Int32) (x4 : Int32) (x5 : Int32) (M : Mm), k25 x1 x2 x4 x5 M = some q → WG g E 7 n Rf ex 0 0 25 [(0, rr E.1 194), (1, .int x1), (2, .int x2), (4, .int x4), (5, .int x5)] [] M) : ∀ (x1 : Int32) (x2 : Int32) (x5 : Int32) (x6 : Int32) (M : Mm), sX12_onward_84 k25 x1 x2 x5 x6 M = some q → WG g E 7 n Rf ex 0 0 84 [(0, rr E.1 194), (1, .int x1), (2, .int x2), (5, .int x5), (6, .int x6)] [] M := by
  intro x1 x2 x5 x6 M h
  unfold sX12_onward_84 at h
  refine g_iload hg dX12_onward_84 4 rfl ?_
  refine g_goto (tgt := 91) hg dX12_onward_86 (by decide) ?_
  refine g_sub (lv' := [(0, rr E.1 194), (1, .int x1), (2, .int x2), (5, .int x5)]) [0, 1, 2, 3] rfl ?_
  exact lkX12_onward_91 hn hRf hg hr hk25 _ _ _ _ _ h
theorem lkX12_onward_25 {g : Gm} {l0 : Launch} {E : En} {d n : Nat} {Rf : Nat → Nat → Nat} {ex : Bool} {kq : Nat × Nat} (hn : 238 ≤ n) (hRf : RfOk 194 238 kq Rf) (hg : Ok g l0 E cX12_onward RX12 7 (d + 3) 0 0) {q : Int32 × Mm} (hr : Ret g E 0 0 (some .int) ex n Rf (some (.int q.1)) q.2) : ∀ (F : Nat) (x1 : Int32) (x2 : Int32) (x4 : Int32) (x5 : Int32) (M : Mm), sX12_onward_25 F x1 x2 x4 x5 M = some q → WG g E 7 n Rf ex 0 0 25 [(0, rr E.1 194), (1, .int x1), (2, .int x2), (4, .int x4), (5, .int x5)] [] M := by
  intro F
  induction F with
  | zero =>
    intro x1 x2 x4 x5 M h
    cases h
  | succ F ih =>
    intro x1 x2 x4 x5 M h
    rw [sX12_onward_25] at h
    refine g_iload hg dX12_onward_25 4 rfl ?_
    refine g_rload_n hg dX12_onward_27 rfl 0 rfl ?_
    refine g_getI hg fl_X12_330 ly194 rfl (idb rfl rfl hn) dX12_onward_28 ?_
    refine g_icmp_ge (tgt := 99) hg dX12_onward_31 (by decide) (fun c => ?_) (fun c => ?_)
    · replace h := itT c h
      refine g_iload hg dX12_onward_99 3 rfl ?_
      replace h := Option.some.inj h
      subst h
      exact g_iret hg hr dX12_onward_101
    · replace h := itF c h
      refine g_rload_n hg dX12_onward_34 rfl 0 rfl ?_
      refine g_getR (r := 230) hg fl_X12_144 ly194 rfl (idb rfl rfl hn) (rfc hRf rfl rfl rfl rfl) (by decide) dX12_onward_35 ?_
      refine g_bipush hg dX12_onward_38 kB_8 ?_
      refine g_iload_n hg dX12_onward_40 rfl 1 rfl ?_
      refine g_imul hg dX12_onward_41 ?_
      refine g_iload_n hg dX12_onward_42 rfl 2 rfl ?_
      refine g_iadd hg dX12_onward_43 ?_
      obtain ⟨c44, h⟩ := ck_some h
      refine g_iald hg ly230 (idb rfl rfl hn) (inb_vp c44) dX12_onward_44 ?_
      refine g_rload_n hg dX12_onward_45 rfl 0 rfl ?_
      refine g_iload_n hg dX12_onward_46 rfl 1 rfl ?_
      refine g_iload_n hg dX12_onward_47 rfl 2 rfl ?_
      refine g_iload hg dX12_onward_48 4 rfl ?_
      obtain ⟨q50, e50, h⟩ := Option.bind_eq_some_iff.mp h
      refine g_callVi (As := [.int x1, .int x2, .int x5]) (rest := [.int (M.1 230 ((8 * x1) + x2).toNatClampNeg)]) hg (lkX12_change (by omega) hn hRf  e50) cv_X12_398 rfl ly194 (idb rfl rfl hn) rfl rfl (Nat.le_of_ble_eq_true rfl) ⟨Nat.le_refl _, Nat.le_refl _⟩ dX12_onward_50 ?_
      refine g_iadd hg dX12_onward_53 ?_
      refine g_rload_n hg dX12_onward_54 rfl 0 rfl ?_
      refine g_getR (r := 229) hg fl_X12_141 ly194 rfl (idb rfl rfl hn) (rfc hRf rfl rfl rfl rfl) (by decide) dX12_onward_55 ?_
      refine g_bipush hg dX12_onward_58 kB_8 ?_
      refine g_iload_n hg dX12_onward_60 rfl 1 rfl ?_
      refine g_imul hg dX12_onward_61 ?_
      refine g_bipush hg dX12_onward_62 kB_8 ?_
      refine g_iadd hg dX12_onward_64 ?_
      refine g_iload hg dX12_onward_65 4 rfl ?_
      refine g_iadd hg dX12_onward_67 ?_
      obtain ⟨c68, h⟩ := ck_some h
      refine g_iald hg ly229 (idb rfl rfl hn) (inb_vp c68) dX12_onward_68 ?_
      refine g_iadd hg dX12_onward_69 ?_
      refine g_istore (lv' := [(6, .int (((M.1 230 ((8 * x1) + x2).toNatClampNeg) + q50.1) + (q50.2.1 229 (((8 * x1) + 8) + x5).toNatClampNeg))), (0, rr E.1 194), (1, .int x1), (2, .int x2), (4, .int x4), (5, .int x5)]) hg dX12_onward_70 (by decide) rfl ?_
      refine g_iload hg dX12_onward_72 4 rfl ?_
      refine g_if_lt (tgt := 84) hg dX12_onward_74 (by decide) (fun c => ?_) (fun c => ?_)
      · replace h := itT c h
        refine g_sub (lv' := [(0, rr E.1 194), (1, .int x1), (2, .int x2), (5, .int x5), (6, .int (((M.1 230 ((8 * x1) + x2).toNatClampNeg) + q50.1) + (q50.2.1 229 (((8 * x1) + 8) + x5).toNatClampNeg)))]) [1, 2, 3, 5, 0] rfl ?_
        exact lkX12_onward_84 hn hRf hg hr ih _ _ _ _ _ h
      · replace h := itF c h
        refine g_iload hg dX12_onward_77 0 rfl ?_
        refine g_iload hg dX12_onward_79 4 rfl ?_
        refine g_icmp_ge (tgt := 89) hg dX12_onward_81 (by decide) (fun c => ?_) (fun c => ?_)
        · replace h := itT c h
          refine g_iload hg dX12_onward_89 4 rfl ?_
          refine g_sub (lv' := [(0, rr E.1 194), (1, .int x1), (2, .int x2), (5, .int x5)]) [1, 2, 3, 5] rfl ?_
          exact lkX12_onward_91 hn hRf hg hr ih _ _ _ _ _ h
        · replace h := itF c h
          refine g_sub (lv' := [(0, rr E.1 194), (1, .int x1), (2, .int x2), (5, .int x5), (6, .int (((M.1 230 ((8 * x1) + x2).toNatClampNeg) + q50.1) + (q50.2.1 229 (((8 * x1) + 8) + x5).toNatClampNeg)))]) [1, 2, 3, 5, 0] rfl ?_
          exact lkX12_onward_84 hn hRf hg hr ih _ _ _ _ _ h
theorem lkX12_onward {l0 : Launch} {E : En} {d n : Nat} {Rf : Nat → Nat → Nat} {ex : Bool} {kq : Nat × Nat} (hd : 3 ≤ d) (hn : 238 ≤ n) (hRf : RfOk 194 238 kq Rf) {x1 : Int32} {x2 : Int32} {x3 : Int32} {M : Mm} {q : Int32 × Mm} (h : sX12_onward x1 x2 x3 M = some q) : Ct l0 E yX12_onward cX12_onward 7 (some .int) d 0 0 [rr E.1 194, .int x1, .int x2, .int x3] ex n Rf M n Rf (some (.int q.1)) q.2 := by
  obtain ⟨d, rfl⟩ := Nat.exists_eq_add_of_le' hd
  refine Ct.of pnX12 (Nat.le_of_ble_eq_true rfl) (fun g hg hr _ => ?_)
  replace hg : Ok g l0 E cX12_onward RX12 7 (d + 3) 0 0 := hg
  show WG g E 7 n Rf ex 0 0 0 [(0, rr E.1 194), (1, .int x1), (2, .int x2), (3, .int x3)] [] M
  unfold sX12_onward at h
  refine g_iload_n hg dX12_onward_0 rfl 1 rfl ?_
  refine g_iload_n hg dX12_onward_1 rfl 3 rfl ?_
  refine g_iconst hg dX12_onward_2 kI_1 ?_
  refine g_isub hg dX12_onward_3 ?_
  refine g_icmp_ne (tgt := 19) hg dX12_onward_4 (by decide) (fun c => ?_) (fun c => ?_)
  · replace h := itF c h
    refine g_iconst hg dX12_onward_19 kI_m1 ?_
    refine g_istore (lv' := [(4, .int (-1)), (0, rr E.1 194), (1, .int x1), (2, .int x2), (3, .int x3)]) hg dX12_onward_20 (by decide) rfl ?_
    refine g_iconst hg dX12_onward_22 kI_0 ?_
    refine g_istore (lv' := [(5, .int 0), (4, .int (-1)), (0, rr E.1 194), (1, .int x1), (2, .int x2), (3, .int x3)]) hg dX12_onward_23 (by decide) rfl ?_
    refine g_sub (lv' := [(0, rr E.1 194), (1, .int x1), (2, .int x2), (4, .int (-1)), (5, .int 0)]) [2, 3, 4, 1, 0] rfl ?_
    exact lkX12_onward_25 hn hRf hg hr  4096 _ _ _ _ _ h
  · replace h := itT c h
    refine g_rload_n hg dX12_onward_7 rfl 0 rfl ?_
    refine g_getR (r := 230) hg fl_X12_144 ly194 rfl (idb rfl rfl hn) (rfc hRf rfl rfl rfl rfl) (by decide) dX12_onward_8 ?_
    refine g_bipush hg dX12_onward_11 kB_8 ?_
    refine g_iload_n hg dX12_onward_13 rfl 1 rfl ?_
    refine g_imul hg dX12_onward_14 ?_
    refine g_iload_n hg dX12_onward_15 rfl 2 rfl ?_
    refine g_iadd hg dX12_onward_16 ?_
    obtain ⟨c17, h⟩ := ck_some h
    refine g_iald hg ly230 (idb rfl rfl hn) (inb_vp c17) dX12_onward_17 ?_
    replace h := Option.some.inj h
    subst h
    exact g_iret hg hr dX12_onward_18
theorem lkX12_draw_320 {g : Gm} {l0 : Launch} {E : En} {d n : Nat} {Rf : Nat → Nat → Nat} {ex : Bool} {kq : Nat × Nat} (hn : 238 ≤ n) (hRf : RfOk 194 238 kq Rf) (hg : Ok g l0 E cX12_draw RX12 10 (d + 6) 0 0) {q : Int32 × Mm} (hr : Ret g E 0 0 (some .int) ex n Rf (some (.int q.1)) q.2) {k299 : Int32 → Int32 → Int32 → Mm → Option (Int32 × Mm)} (hk299 : ∀ (x4 : Int32) (x6 : Int32) (x7 : Int32) (M : Mm), k299 x4 x6 x7 M = some q → WG g E 10 n Rf ex 0 0 299 [(0, rr E.1 194), (4, .int x4), (6, .int x6), (7, .int x7)] [] M) : ∀ (F : Nat) (x4 : Int32) (x6 : Int32) (x7 : Int32) (x8 : Int32) (x9 : Int32) (M : Mm), sX12_draw_320 k299 F x4 x6 x7 x8 x9 M = some q → WG g E 10 n Rf ex 0 0 320 [(0, rr E.1 194), (4, .int x4), (6, .int x6), (7, .int x7), (8, .int x8), (9, .int x9)] [] M := by
  intro F
  induction F with
  | zero =>
    intro x4 x6 x7 x8 x9 M h
    cases h
  | succ F ih =>
    intro x4 x6 x7 x8 x9 M h
    rw [sX12_draw_320] at h
    refine g_rload_n hg dX12_draw_320 rfl 0 rfl ?_
    refine g_getR (r := 230) hg fl_X12_144 ly194 rfl (idb rfl rfl hn) (rfc hRf rfl rfl rfl rfl) (by decide) dX12_draw_321 ?_
    refine g_bipush hg dX12_draw_324 kB_8 ?_
    refine g_iload hg dX12_draw_326 3 rfl ?_
    refine g_imul hg dX12_draw_328 ?_
    refine g_bipush hg dX12_draw_329 kB_8 ?_
    refine g_isub hg dX12_draw_331 ?_
    refine g_iload hg dX12_draw_332 4 rfl ?_
    refine g_iadd hg dX12_draw_334 ?_
    obtain ⟨c335, h⟩ := ck_some h
    refine g_iald hg ly230 (idb rfl rfl hn) (inb_vp c335) dX12_draw_335 ?_
    refine g_rload_n hg dX12_draw_336 rfl 0 rfl ?_
    refine g_iload hg dX12_draw_337 3 rfl ?_
    refine g_iconst hg dX12_draw_339 kI_1 ?_
    refine g_isub hg dX12_draw_340 ?_
    refine g_iload hg dX12_draw_341 4 rfl ?_
    refine g_iload hg dX12_draw_343 5 rfl ?_
    obtain ⟨q345, e345, h⟩ := Option.bind_eq_some_iff.mp h
    refine g_callVi (As := [.int (x7 - 1), .int x8, .int x9]) (rest := [.int (M.1 230 (((8 * x7) - 8) + x8).toNatClampNeg)]) hg (lkX12_change (by omega) hn hRf  e345) cv_X12_398 rfl ly194 (idb rfl rfl hn) rfl rfl (Nat.le_of_ble_eq_true rfl) ⟨Nat.le_refl _, Nat.le_refl _⟩ dX12_draw_345 ?_
    refine g_iadd hg dX12_draw_348 ?_
    refine g_rload_n hg dX12_draw_349 rfl 0 rfl ?_
    refine g_getR (r := 229) hg fl_X12_141 ly194 rfl (idb rfl rfl hn) (rfc hRf rfl rfl rfl rfl) (by decide) dX12_draw_350 ?_
    refine g_bipush hg dX12_draw_353 kB_8 ?_
    refine g_iload hg dX12_draw_355 3 rfl ?_
    refine g_imul hg dX12_draw_357 ?_
    refine g_iload hg dX12_draw_358 5 rfl ?_
    refine g_iadd hg dX12_draw_360 ?_
    obtain ⟨c361, h⟩ := ck_some h
    refine g_iald hg ly229 (idb rfl rfl hn) (inb_vp c361) dX12_draw_361 ?_
    refine g_iadd hg dX12_draw_362 ?_
    refine g_rload_n hg dX12_draw_363 rfl 0 rfl ?_
    refine g_getR (r := 229) hg fl_X12_141 ly194 rfl (idb rfl rfl hn) (rfc hRf rfl rfl rfl rfl) (by decide) dX12_draw_364 ?_
    refine g_bipush hg dX12_draw_367 kB_8 ?_
    refine g_iload hg dX12_draw_369 3 rfl ?_
    refine g_imul hg dX12_draw_371 ?_
    refine g_bipush hg dX12_draw_372 kB_8 ?_
    refine g_isub hg dX12_draw_374 ?_
    refine g_iload hg dX12_draw_375 4 rfl ?_
    refine g_iadd hg dX12_draw_377 ?_
    obtain ⟨c378, h⟩ := ck_some h
    refine g_iald hg ly229 (idb rfl rfl hn) (inb_vp c378) dX12_draw_378 ?_
    refine g_icmp_eq (tgt := 388) hg dX12_draw_379 (by decide) (fun c => ?_) (fun c => ?_)
    · replace h := itT c h
      refine g_rload_n hg dX12_draw_388 rfl 0 rfl ?_
      refine g_getR (r := 232) hg fl_X12_150 ly194 rfl (idb rfl rfl hn) (rfc hRf rfl rfl rfl rfl) (by decide) dX12_draw_389 ?_
      refine g_iload hg dX12_draw_392 3 rfl ?_
      refine g_iload hg dX12_draw_394 5 rfl ?_
      obtain ⟨c396, h⟩ := ck_some h
      refine g_iast hg ly232 (idb rfl rfl hn) (inb_vp c396) dX12_draw_396 ?_
      refine g_inc (lv' := [(7, .int (x7 + 1)), (0, rr E.1 194), (4, .int x4), (6, .int x6), (8, .int x8), (9, .int x9)]) hg dX12_draw_397 kI_1 3 rfl (by decide) rfl ?_
      refine g_goto (tgt := 299) hg dX12_draw_400 (by decide) ?_
      refine g_sub (lv' := [(0, rr E.1 194), (4, .int x4), (6, .int x6), (7, .int (x7 + 1))]) [1, 2, 3, 0] rfl ?_
      exact hk299 _ _ _ _ h
    · replace h := itF c h
      refine g_inc (lv' := [(9, .int (x9 + 1)), (0, rr E.1 194), (4, .int x4), (6, .int x6), (7, .int x7), (8, .int x8)]) hg dX12_draw_382 kI_1 5 rfl (by decide) rfl ?_
      refine g_goto (tgt := 320) hg dX12_draw_385 (by decide) ?_
      refine g_sub (lv' := [(0, rr E.1 194), (4, .int x4), (6, .int x6), (7, .int x7), (8, .int x8), (9, .int (x9 + 1))]) [1, 2, 3, 4, 5, 0] rfl ?_
      exact ih _ _ _ _ _ _ h
theorem lkX12_draw_299 {g : Gm} {l0 : Launch} {E : En} {d n : Nat} {Rf : Nat → Nat → Nat} {ex : Bool} {kq : Nat × Nat} (hn : 238 ≤ n) (hRf : RfOk 194 238 kq Rf) (hg : Ok g l0 E cX12_draw RX12 10 (d + 6) 0 0) {q : Int32 × Mm} (hr : Ret g E 0 0 (some .int) ex n Rf (some (.int q.1)) q.2) : ∀ (F : Nat) (x4 : Int32) (x6 : Int32) (x7 : Int32) (M : Mm), sX12_draw_299 F x4 x6 x7 M = some q → WG g E 10 n Rf ex 0 0 299 [(0, rr E.1 194), (4, .int x4), (6, .int x6), (7, .int x7)] [] M := by
  intro F
  induction F with
  | zero =>
    intro x4 x6 x7 M h
    cases h
  | succ F ih =>
    intro x4 x6 x7 M h
    rw [sX12_draw_299] at h
    refine g_iload hg dX12_draw_299 3 rfl ?_
    refine g_iload hg dX12_draw_301 1 rfl ?_
    refine g_icmp_ge (tgt := 403) hg dX12_draw_303 (by decide) (fun c => ?_) (fun c => ?_)
    · replace h := itT c h
      refine g_iload hg dX12_draw_403 2 rfl ?_
      replace h := Option.some.inj h
      subst h
      exact g_iret hg hr dX12_draw_405
    · replace h := itF c h
      refine g_rload_n hg dX12_draw_306 rfl 0 rfl ?_
      refine g_getR (r := 232) hg fl_X12_150 ly194 rfl (idb rfl rfl hn) (rfc hRf rfl rfl rfl rfl) (by decide) dX12_draw_307 ?_
      refine g_iload hg dX12_draw_310 3 rfl ?_
      refine g_iconst hg dX12_draw_312 kI_1 ?_
      refine g_isub hg dX12_draw_313 ?_
      obtain ⟨c314, h⟩ := ck_some h
      refine g_iald hg ly232 (idb rfl rfl hn) (inb_vp c314) dX12_draw_314 ?_
      refine g_istore (lv' := [(8, .int (M.1 232 (x7 - 1).toNatClampNeg)), (0, rr E.1 194), (4, .int x4), (6, .int x6), (7, .int x7)]) hg dX12_draw_315 (by decide) rfl ?_
      refine g_iconst hg dX12_draw_317 kI_0 ?_
      refine g_istore (lv' := [(9, .int 0), (8, .int (M.1 232 (x7 - 1).toNatClampNeg)), (0, rr E.1 194), (4, .int x4), (6, .int x6), (7, .int x7)]) hg dX12_draw_318 (by decide) rfl ?_
      refine g_sub (lv' := [(0, rr E.1 194), (4, .int x4), (6, .int x6), (7, .int x7), (8, .int (M.1 232 (x7 - 1).toNatClampNeg)), (9, .int 0)]) [2, 3, 4, 5, 1, 0] rfl ?_
      exact lkX12_draw_320 hn hRf hg hr ih 4096 _ _ _ _ _ _ h
theorem lkX12_draw_265 {g : Gm} {l0 : Launch} {E : En} {d n : Nat} {Rf : Nat → Nat → Nat} {ex : Bool} {kq : Nat × Nat} (hn : 238 ≤ n) (hRf : RfOk 194 238 kq Rf) (hg : Ok g l0 E cX12_draw RX12 10 (d + 6) 0 0) {q : Int32 × Mm} (hr : Ret g E 0 0 (some .int) ex n Rf (some (.int q.1)) q.2) {k232 : Int32 → Int32 → Int32 → Mm → Option (Int32 × Mm)} (hk232 : ∀ (x4 : Int32) (x5 : Int32) (x6 : Int32) (M : Mm), k232 x4 x5 x6 M = some q → WG g E 10 n Rf ex 0 0 232 [(0, rr E.1 194), (4, .int x4), (5, .int x5), (6, .int x6)] [] M) : ∀ (x4 : Int32) (x6 : Int32) (s0 : Int32) (M : Mm), sX12_draw_265 k232 x4 x6 s0 M = some q → WG g E 10 n Rf ex 0 0 265 [(0, rr E.1 194), (4, .int x4), (6, .int x6)] [.int s0] M := by
  intro x4 x6 s0 M h
  unfold sX12_draw_265 at h
  refine g_istore (lv' := [(5, .int s0), (0, rr E.1 194), (4, .int x4), (6, .int x6)]) hg dX12_draw_265 (by decide) rfl ?_
  refine g_inc (lv' := [(6, .int (x6 + 1)), (5, .int s0), (0, rr E.1 194), (4, .int x4)]) hg dX12_draw_267 kI_1 3 rfl (by decide) rfl ?_
  refine g_goto (tgt := 232) hg dX12_draw_270 (by decide) ?_
  refine g_sub (lv' := [(0, rr E.1 194), (4, .int x4), (5, .int s0), (6, .int (x6 + 1))]) [2, 3, 1, 0] rfl ?_
  exact hk232 _ _ _ _ h
theorem lkX12_draw_232 {g : Gm} {l0 : Launch} {E : En} {d n : Nat} {Rf : Nat → Nat → Nat} {ex : Bool} {kq : Nat × Nat} (hn : 238 ≤ n) (hRf : RfOk 194 238 kq Rf) (hg : Ok g l0 E cX12_draw RX12 10 (d + 6) 0 0) {q : Int32 × Mm} (hr : Ret g E 0 0 (some .int) ex n Rf (some (.int q.1)) q.2) : ∀ (F : Nat) (x4 : Int32) (x5 : Int32) (x6 : Int32) (M : Mm), sX12_draw_232 F x4 x5 x6 M = some q → WG g E 10 n Rf ex 0 0 232 [(0, rr E.1 194), (4, .int x4), (5, .int x5), (6, .int x6)] [] M := by
  intro F
  induction F with
  | zero =>
    intro x4 x5 x6 M h
    cases h
  | succ F ih =>
    intro x4 x5 x6 M h
    rw [sX12_draw_232] at h
    refine g_iload hg dX12_draw_232 3 rfl ?_
    refine g_rload_n hg dX12_draw_234 rfl 0 rfl ?_
    refine g_getI hg fl_X12_330 ly194 rfl (idb rfl rfl hn) dX12_draw_235 ?_
    refine g_icmp_ge (tgt := 273) hg dX12_draw_238 (by decide) (fun c => ?_) (fun c => ?_)
    · replace h := itT c h
      refine g_rload_n hg dX12_draw_273 rfl 0 rfl ?_
      refine g_getR (r := 229) hg fl_X12_141 ly194 rfl (idb rfl rfl hn) (rfc hRf rfl rfl rfl rfl) (by decide) dX12_draw_274 ?_
      refine g_iload hg dX12_draw_277 2 rfl ?_
      obtain ⟨c279, h⟩ := ck_some h
      refine g_iald hg ly229 (idb rfl rfl hn) (inb_vp c279) dX12_draw_279 ?_
      refine g_istore (lv' := [(6, .int (M.1 229 x5.toNatClampNeg)), (0, rr E.1 194), (4, .int x4), (5, .int x5)]) hg dX12_draw_280 (by decide) rfl ?_
      refine g_rload_n hg dX12_draw_282 rfl 1 rfl ?_
      refine g_iload hg dX12_draw_283 2 rfl ?_
      refine g_putI hg fp_X12_404 ly194 rfl (idb rfl rfl hn) dX12_draw_285 ?_
      refine g_rload_n hg dX12_draw_288 rfl 1 rfl ?_
      refine g_getR (r := 232) hg fl_X12_150 ly194 rfl (idb rfl rfl hn) (rfc hRf rfl rfl rfl rfl) (by decide) dX12_draw_289 ?_
      refine g_iconst hg dX12_draw_292 kI_0 ?_
      refine g_iload hg dX12_draw_293 3 rfl ?_
      obtain ⟨c295, h⟩ := ck_some h
      refine g_iast hg ly232 (idb rfl rfl hn) (inb_vp c295) dX12_draw_295 ?_
      refine g_iconst hg dX12_draw_296 kI_1 ?_
      refine g_istore (lv' := [(7, .int 1), (6, .int (M.1 229 x5.toNatClampNeg)), (0, rr E.1 194), (4, .int x4), (5, .int x5)]) hg dX12_draw_297 (by decide) rfl ?_
      refine g_sub (lv' := [(0, rr E.1 194), (4, .int x4), (6, .int (M.1 229 x5.toNatClampNeg)), (7, .int 1)]) [2, 3, 1, 0] rfl ?_
      exact lkX12_draw_299 hn hRf hg hr  4096 _ _ _ _ h
    · replace h := itF c h
      refine g_rload_n hg dX12_draw_241 rfl 0 rfl ?_
      refine g_getR (r := 229) hg fl_X12_141 ly194 rfl (idb rfl rfl hn) (rfc hRf rfl rfl rfl rfl) (by decide) dX12_draw_242 ?_
      refine g_iload hg dX12_draw_245 3 rfl ?_
      obtain ⟨c247, h⟩ := ck_some h
      refine g_iald hg ly229 (idb rfl rfl hn) (inb_vp c247) dX12_draw_247 ?_
      refine g_rload_n hg dX12_draw_248 rfl 0 rfl ?_
      refine g_getR (r := 229) hg fl_X12_141 ly194 rfl (idb rfl rfl hn) (rfc hRf rfl rfl rfl rfl) (by decide) dX12_draw_249 ?_
      refine g_iload hg dX12_draw_252 2 rfl ?_
      obtain ⟨c254, h⟩ := ck_some h
      refine g_iald hg ly229 (idb rfl rfl hn) (inb_vp c254) dX12_draw_254 ?_
      refine g_icmp_ge (tgt := 263) hg dX12_draw_255 (by decide) (fun c => ?_) (fun c => ?_)
      · rw [if_pos c] at h
        refine g_iload hg dX12_draw_263 2 rfl ?_
        refine g_sub (lv' := [(0, rr E.1 194), (4, .int x4), (6, .int x6)]) [0, 1, 3] rfl ?_
        exact lkX12_draw_265 hn hRf hg hr ih _ _ _ _ h
      · rw [if_neg c] at h
        refine g_iload hg dX12_draw_258 3 rfl ?_
        refine g_goto (tgt := 265) hg dX12_draw_260 (by decide) ?_
        refine g_sub (lv' := [(0, rr E.1 194), (4, .int x4), (6, .int x6)]) [0, 1, 3] rfl ?_
        exact lkX12_draw_265 hn hRf hg hr ih _ _ _ _ h
theorem lkX12_draw_182 {g : Gm} {l0 : Launch} {E : En} {d n : Nat} {Rf : Nat → Nat → Nat} {ex : Bool} {kq : Nat × Nat} (hn : 238 ≤ n) (hRf : RfOk 194 238 kq Rf) (hg : Ok g l0 E cX12_draw RX12 10 (d + 6) 0 0) {q : Int32 × Mm} (hr : Ret g E 0 0 (some .int) ex n Rf (some (.int q.1)) q.2) {k174 : Int32 → Int32 → Mm → Option (Int32 × Mm)} (hk174 : ∀ (x4 : Int32) (x5 : Int32) (M : Mm), k174 x4 x5 M = some q → WG g E 10 n Rf ex 0 0 174 [(0, rr E.1 194), (4, .int x4), (5, .int x5)] [] M) : ∀ (F : Nat) (x4 : Int32) (x5 : Int32) (x6 : Int32) (M : Mm), sX12_draw_182 k174 F x4 x5 x6 M = some q → WG g E 10 n Rf ex 0 0 182 [(0, rr E.1 194), (4, .int x4), (5, .int x5), (6, .int x6)] [] M := by
  intro F
  induction F with
  | zero =>
    intro x4 x5 x6 M h
    cases h
  | succ F ih =>
    intro x4 x5 x6 M h
    rw [sX12_draw_182] at h
    refine g_iload hg dX12_draw_182 3 rfl ?_
    refine g_rload_n hg dX12_draw_184 rfl 0 rfl ?_
    refine g_getI hg fl_X12_330 ly194 rfl (idb rfl rfl hn) dX12_draw_185 ?_
    refine g_icmp_ge (tgt := 220) hg dX12_draw_188 (by decide) (fun c => ?_) (fun c => ?_)
    · replace h := itT c h
      refine g_inc (lv' := [(5, .int (x5 + (-1))), (0, rr E.1 194), (4, .int x4), (6, .int x6)]) hg dX12_draw_220 kI_m1 2 rfl (by decide) rfl ?_
      refine g_goto (tgt := 174) hg dX12_draw_223 (by decide) ?_
      refine g_sub (lv' := [(0, rr E.1 194), (4, .int x4), (5, .int (x5 + (-1)))]) [1, 2, 0] rfl ?_
      exact hk174 _ _ _ h
    · replace h := itF c h
      refine g_rload_n hg dX12_draw_191 rfl 0 rfl ?_
      refine g_getR (r := 229) hg fl_X12_141 ly194 rfl (idb rfl rfl hn) (rfc hRf rfl rfl rfl rfl) (by decide) dX12_draw_192 ?_
      refine g_bipush hg dX12_draw_195 kB_8 ?_
      refine g_iload hg dX12_draw_197 2 rfl ?_
      refine g_imul hg dX12_draw_199 ?_
      refine g_iload hg dX12_draw_200 3 rfl ?_
      refine g_iadd hg dX12_draw_202 ?_
      refine g_rload_n hg dX12_draw_203 rfl 0 rfl ?_
      refine g_iload hg dX12_draw_204 2 rfl ?_
      refine g_iload hg dX12_draw_206 3 rfl ?_
      refine g_iload hg dX12_draw_208 1 rfl ?_
      obtain ⟨q210, e210, h⟩ := Option.bind_eq_some_iff.mp h
      refine g_callVi (As := [.int x5, .int x6, .int x4]) (rest := [.int ((8 * x5) + x6), rr E.1 229]) hg (lkX12_onward (by omega) hn hRf  e210) cv_X12_401 rfl ly194 (idb rfl rfl hn) rfl rfl (Nat.le_of_ble_eq_true rfl) ⟨Nat.le_refl _, Nat.le_refl _⟩ dX12_draw_210 ?_
      obtain ⟨c213, h⟩ := ck_some h
      refine g_iast hg ly229 (idb rfl rfl hn) (inb_vp c213) dX12_draw_213 ?_
      refine g_inc (lv' := [(6, .int (x6 + 1)), (0, rr E.1 194), (4, .int x4), (5, .int x5)]) hg dX12_draw_214 kI_1 3 rfl (by decide) rfl ?_
      refine g_goto (tgt := 182) hg dX12_draw_217 (by decide) ?_
      refine g_sub (lv' := [(0, rr E.1 194), (4, .int x4), (5, .int x5), (6, .int (x6 + 1))]) [1, 2, 3, 0] rfl ?_
      exact ih _ _ _ _ h
theorem lkX12_draw_174 {g : Gm} {l0 : Launch} {E : En} {d n : Nat} {Rf : Nat → Nat → Nat} {ex : Bool} {kq : Nat × Nat} (hn : 238 ≤ n) (hRf : RfOk 194 238 kq Rf) (hg : Ok g l0 E cX12_draw RX12 10 (d + 6) 0 0) {q : Int32 × Mm} (hr : Ret g E 0 0 (some .int) ex n Rf (some (.int q.1)) q.2) : ∀ (F : Nat) (x4 : Int32) (x5 : Int32) (M : Mm), sX12_draw_174 F x4 x5 M = some q → WG g E 10 n Rf ex 0 0 174 [(0, rr E.1 194), (4, .int x4), (5, .int x5)] [] M := by
  intro F
  induction F with
  | zero =>
    intro x4 x5 M h
    cases h
  | succ F ih =>
    intro x4 x5 M h
    rw [sX12_draw_174] at h
    refine g_iload hg dX12_draw_174 2 rfl ?_
    refine g_if_lt (tgt := 226) hg dX12_draw_176 (by decide) (fun c => ?_) (fun c => ?_)
    · replace h := itT c h
      refine g_iconst hg dX12_draw_226 kI_0 ?_
      refine g_istore (lv' := [(5, .int 0), (0, rr E.1 194), (4, .int x4)]) hg dX12_draw_227 (by decide) rfl ?_
      refine g_iconst hg dX12_draw_229 kI_1 ?_
      refine g_istore (lv' := [(6, .int 1), (5, .int 0), (0, rr E.1 194), (4, .int x4)]) hg dX12_draw_230 (by decide) rfl ?_
      refine g_sub (lv' := [(0, rr E.1 194), (4, .int x4), (5, .int 0), (6, .int 1)]) [2, 3, 1, 0] rfl ?_
      exact lkX12_draw_232 hn hRf hg hr  4096 _ _ _ _ h
    · replace h := itF c h
      refine g_iconst hg dX12_draw_179 kI_0 ?_
      refine g_istore (lv' := [(6, .int 0), (0, rr E.1 194), (4, .int x4), (5, .int x5)]) hg dX12_draw_180 (by decide) rfl ?_
      refine g_sub (lv' := [(0, rr E.1 194), (4, .int x4), (5, .int x5), (6, .int 0)]) [1, 2, 3, 0] rfl ?_
      exact lkX12_draw_182 hn hRf hg hr ih 4096 _ _ _ _ h
theorem lkX12_draw_124 {g : Gm} {l0 : Launch} {E : En} {d n : Nat} {Rf : Nat → Nat → Nat} {ex : Bool} {kq : Nat × Nat} (hn : 238 ≤ n) (hRf : RfOk 194 238 kq Rf) (hg : Ok g l0 E cX12_draw RX12 10 (d + 6) 0 0) {q : Int32 × Mm} (hr : Ret g E 0 0 (some .int) ex n Rf (some (.int q.1)) q.2) {k70 : Int32 → Int32 → Int32 → Int32 → Mm → Option (Int32 × Mm)} (hk70 : ∀ (x2 : Int32) (x3 : Int32) (x4 : Int32) (x5 : Int32) (M : Mm), k70 x2 x3 x4 x5 M = some q → WG g E 10 n Rf ex 0 0 70 [(0, rr E.1 194), (2, .int x2), (3, .int x3), (4, .int x4), (5, .int x5)] [] M) : ∀ (F : Nat) (x2 : Int32) (x3 : Int32) (x4 : Int32) (x5 : Int32) (x6 : Int32) (M : Mm), sX12_draw_124 k70 F x2 x3 x4 x5 x6 M = some q → WG g E 10 n Rf ex 0 0 124 [(0, rr E.1 194), (2, .int x2), (3, .int x3), (4, .int x4), (5, .int x5), (6, .int x6)] [] M := by
  intro F
  induction F with
  | zero =>
    intro x2 x3 x4 x5 x6 M h
    cases h
  | succ F ih =>
    intro x2 x3 x4 x5 x6 M h
    rw [sX12_draw_124] at h
    refine g_iload hg dX12_draw_124 5 rfl ?_
    refine g_rload_n hg dX12_draw_126 rfl 0 rfl ?_
    refine g_getI hg fl_X12_330 ly194 rfl (idb rfl rfl hn) dX12_draw_127 ?_
    refine g_icmp_ge (tgt := 162) hg dX12_draw_130 (by decide) (fun c => ?_) (fun c => ?_)
    · replace h := itT c h
      refine g_inc (lv' := [(5, .int (x5 + 1)), (0, rr E.1 194), (2, .int x2), (3, .int x3), (4, .int x4), (6, .int x6)]) hg dX12_draw_162 kI_1 4 rfl (by decide) rfl ?_
      refine g_goto (tgt := 70) hg dX12_draw_165 (by decide) ?_
      refine g_sub (lv' := [(0, rr E.1 194), (2, .int x2), (3, .int x3), (4, .int x4), (5, .int (x5 + 1))]) [1, 2, 3, 4, 0] rfl ?_
      exact hk70 _ _ _ _ _ h
    · replace h := itF c h
      refine g_rload_n hg dX12_draw_133 rfl 0 rfl ?_
      refine g_getR (r := 230) hg fl_X12_144 ly194 rfl (idb rfl rfl hn) (rfc hRf rfl rfl rfl rfl) (by decide) dX12_draw_134 ?_
      refine g_bipush hg dX12_draw_137 kB_8 ?_
      refine g_iload hg dX12_draw_139 4 rfl ?_
      refine g_imul hg dX12_draw_141 ?_
      refine g_iload hg dX12_draw_142 5 rfl ?_
      refine g_iadd hg dX12_draw_144 ?_
      refine g_sipush hg dX12_draw_145 kS_1000 ?_
      refine g_rload_n hg dX12_draw_148 rfl 0 rfl ?_
      refine g_iload hg dX12_draw_149 5 rfl ?_
      obtain ⟨q151, e151, h⟩ := Option.bind_eq_some_iff.mp h
      refine g_callVi (As := [.int x6]) (rest := [.int 1000, .int ((8 * x5) + x6), rr E.1 230]) hg (lkX12_part (by omega) hn hRf  e151) cv_X12_392 rfl ly194 (idb rfl rfl hn) rfl rfl (Nat.le_of_ble_eq_true rfl) ⟨Nat.le_refl _, Nat.le_refl _⟩ dX12_draw_151 ?_
      refine g_isub hg dX12_draw_154 ?_
      obtain ⟨c155, h⟩ := ck_some h
      refine g_iast hg ly230 (idb rfl rfl hn) (inb_vp c155) dX12_draw_155 ?_
      refine g_inc (lv' := [(6, .int (x6 + 1)), (0, rr E.1 194), (2, .int x2), (3, .int x3), (4, .int x4), (5, .int x5)]) hg dX12_draw_156 kI_1 5 rfl (by decide) rfl ?_
      refine g_goto (tgt := 124) hg dX12_draw_159 (by decide) ?_
      refine g_sub (lv' := [(0, rr E.1 194), (2, .int x2), (3, .int x3), (4, .int x4), (5, .int x5), (6, .int (x6 + 1))]) [1, 2, 3, 4, 5, 0] rfl ?_
      exact ih _ _ _ _ _ _ h
theorem lkX12_draw_108 {g : Gm} {l0 : Launch} {E : En} {d n : Nat} {Rf : Nat → Nat → Nat} {ex : Bool} {kq : Nat × Nat} (hn : 238 ≤ n) (hRf : RfOk 194 238 kq Rf) (hg : Ok g l0 E cX12_draw RX12 10 (d + 6) 0 0) {q : Int32 × Mm} (hr : Ret g E 0 0 (some .int) ex n Rf (some (.int q.1)) q.2) {k70 : Int32 → Int32 → Int32 → Int32 → Mm → Option (Int32 × Mm)} (hk70 : ∀ (x2 : Int32) (x3 : Int32) (x4 : Int32) (x5 : Int32) (M : Mm), k70 x2 x3 x4 x5 M = some q → WG g E 10 n Rf ex 0 0 70 [(0, rr E.1 194), (2, .int x2), (3, .int x3), (4, .int x4), (5, .int x5)] [] M) : ∀ (x2 : Int32) (x3 : Int32) (x4 : Int32) (x5 : Int32) (s1 : Int32) (s2 : Int32) (M : Mm), sX12_draw_108 k70 x2 x3 x4 x5 s1 s2 M = some q → WG g E 10 n Rf ex 0 0 108 [(0, rr E.1 194), (2, .int x2), (3, .int x3), (4, .int x4), (5, .int x5)] [.int s2, .int s1, rr E.1 231] M := by
  intro x2 x3 x4 x5 s1 s2 M h
  unfold sX12_draw_108 at h
  obtain ⟨c108, h⟩ := ck_some h
  refine g_iast hg ly231 (idb rfl rfl hn) (inb_vp c108) dX12_draw_108 ?_
  refine g_rload_n hg dX12_draw_109 rfl 0 rfl ?_
  refine g_rload_n hg dX12_draw_110 rfl 0 rfl ?_
  refine g_getR (r := 231) hg fl_X12_147 ly194 rfl (idb rfl rfl hn) (rfc hRf rfl rfl rfl rfl) (by decide) dX12_draw_111 ?_
  refine g_iload hg dX12_draw_114 4 rfl ?_
  obtain ⟨c116, h⟩ := ck_some h
  refine g_iald hg ly231 (idb rfl rfl hn) (inb_vp c116) dX12_draw_116 ?_
  refine g_iconst hg dX12_draw_117 kI_m1 ?_
  obtain ⟨M118, e118, h⟩ := Option.bind_eq_some_iff.mp h
  refine g_callVv (As := [.int ((sI M 231 s1.toNatClampNeg s2).1 231 x5.toNatClampNeg), .int (-1)]) (rest := []) hg (lkX12_weigh (by omega) hn hRf  e118) cv_X12_389 rfl ly194 (idb rfl rfl hn) rfl rfl (Nat.le_of_ble_eq_true rfl) ⟨Nat.le_refl _, Nat.le_refl _⟩ dX12_draw_118 ?_
  refine g_iconst hg dX12_draw_121 kI_0 ?_
  refine g_istore (lv' := [(6, .int 0), (0, rr E.1 194), (2, .int x2), (3, .int x3), (4, .int x4), (5, .int x5)]) hg dX12_draw_122 (by decide) rfl ?_
  refine g_sub (lv' := [(0, rr E.1 194), (2, .int x2), (3, .int x3), (4, .int x4), (5, .int x5), (6, .int 0)]) [1, 2, 3, 4, 5, 0] rfl ?_
  exact lkX12_draw_124 hn hRf hg hr hk70 4096 _ _ _ _ _ _ h
theorem lkX12_draw_70 {g : Gm} {l0 : Launch} {E : En} {d n : Nat} {Rf : Nat → Nat → Nat} {ex : Bool} {kq : Nat × Nat} (hn : 238 ≤ n) (hRf : RfOk 194 238 kq Rf) (hg : Ok g l0 E cX12_draw RX12 10 (d + 6) 0 0) {q : Int32 × Mm} (hr : Ret g E 0 0 (some .int) ex n Rf (some (.int q.1)) q.2) : ∀ (F : Nat) (x2 : Int32) (x3 : Int32) (x4 : Int32) (x5 : Int32) (M : Mm), sX12_draw_70 F x2 x3 x4 x5 M = some q → WG g E 10 n Rf ex 0 0 70 [(0, rr E.1 194), (2, .int x2), (3, .int x3), (4, .int x4), (5, .int x5)] [] M := by
  intro F
  induction F with
  | zero =>
    intro x2 x3 x4 x5 M h
    cases h
  | succ F ih =>
    intro x2 x3 x4 x5 M h
    rw [sX12_draw_70] at h
    refine g_iload hg dX12_draw_70 4 rfl ?_
    refine g_iload hg dX12_draw_72 3 rfl ?_
    refine g_icmp_ge (tgt := 168) hg dX12_draw_74 (by decide) (fun c => ?_) (fun c => ?_)
    · replace h := itT c h
      refine g_iload hg dX12_draw_168 3 rfl ?_
      refine g_iconst hg dX12_draw_170 kI_1 ?_
      refine g_isub hg dX12_draw_171 ?_
      refine g_istore (lv' := [(5, .int (x4 - 1)), (0, rr E.1 194), (2, .int x2), (3, .int x3), (4, .int x4)]) hg dX12_draw_172 (by decide) rfl ?_
      refine g_sub (lv' := [(0, rr E.1 194), (4, .int x4), (5, .int (x4 - 1))]) [1, 4, 0] rfl ?_
      exact lkX12_draw_174 hn hRf hg hr  4096 _ _ _ h
    · replace h := itF c h
      refine g_rload_n hg dX12_draw_77 rfl 0 rfl ?_
      refine g_getR (r := 231) hg fl_X12_147 ly194 rfl (idb rfl rfl hn) (rfc hRf rfl rfl rfl rfl) (by decide) dX12_draw_78 ?_
      refine g_iload hg dX12_draw_81 4 rfl ?_
      refine g_iload_n hg dX12_draw_83 rfl 1 rfl ?_
      refine g_if_eq (tgt := 99) hg dX12_draw_84 (by decide) (fun c => ?_) (fun c => ?_)
      · rw [if_pos c] at h
        refine g_rload_n hg dX12_draw_99 rfl 0 rfl ?_
        refine g_getI hg fl_X12_13 ly194 rfl (idb rfl rfl hn) dX12_draw_100 ?_
        refine g_iload_n hg dX12_draw_103 rfl 2 rfl ?_
        refine g_imul hg dX12_draw_104 ?_
        refine g_iload hg dX12_draw_105 4 rfl ?_
        refine g_iadd hg dX12_draw_107 ?_
        exact lkX12_draw_108 hn hRf hg hr ih _ _ _ _ _ _ _ h
      · rw [if_neg c] at h
        refine g_rload_n hg dX12_draw_87 rfl 0 rfl ?_
        refine g_getI hg fl_X12_13 ly194 rfl (idb rfl rfl hn) dX12_draw_88 ?_
        refine g_iload hg dX12_draw_91 4 rfl ?_
        refine g_imul hg dX12_draw_93 ?_
        refine g_iload_n hg dX12_draw_94 rfl 2 rfl ?_
        refine g_iadd hg dX12_draw_95 ?_
        refine g_goto (tgt := 108) hg dX12_draw_96 (by decide) ?_
        exact lkX12_draw_108 hn hRf hg hr ih _ _ _ _ _ _ _ h
theorem lkX12_draw_65 {g : Gm} {l0 : Launch} {E : En} {d n : Nat} {Rf : Nat → Nat → Nat} {ex : Bool} {kq : Nat × Nat} (hn : 238 ≤ n) (hRf : RfOk 194 238 kq Rf) (hg : Ok g l0 E cX12_draw RX12 10 (d + 6) 0 0) {q : Int32 × Mm} (hr : Ret g E 0 0 (some .int) ex n Rf (some (.int q.1)) q.2) : ∀ (x2 : Int32) (x3 : Int32) (s0 : Int32) (M : Mm), sX12_draw_65 x2 x3 s0 M = some q → WG g E 10 n Rf ex 0 0 65 [(0, rr E.1 194), (2, .int x2), (3, .int x3)] [.int s0] M := by
  intro x2 x3 s0 M h
  unfold sX12_draw_65 at h
  refine g_istore (lv' := [(4, .int s0), (0, rr E.1 194), (2, .int x2), (3, .int x3)]) hg dX12_draw_65 (by decide) rfl ?_
  refine g_iconst hg dX12_draw_67 kI_0 ?_
  refine g_istore (lv' := [(5, .int 0), (4, .int s0), (0, rr E.1 194), (2, .int x2), (3, .int x3)]) hg dX12_draw_68 (by decide) rfl ?_
  refine g_sub (lv' := [(0, rr E.1 194), (2, .int x2), (3, .int x3), (4, .int s0), (5, .int 0)]) [2, 3, 4, 1, 0] rfl ?_
  exact lkX12_draw_70 hn hRf hg hr  4096 _ _ _ _ _ h
theorem lkX12_draw_33 {g : Gm} {l0 : Launch} {E : En} {d n : Nat} {Rf : Nat → Nat → Nat} {ex : Bool} {kq : Nat × Nat} (hn : 238 ≤ n) (hRf : RfOk 194 238 kq Rf) (hg : Ok g l0 E cX12_draw RX12 10 (d + 6) 0 0) {q : Int32 × Mm} (hr : Ret g E 0 0 (some .int) ex n Rf (some (.int q.1)) q.2) : ∀ (x1 : Int32) (x2 : Int32) (x3 : Int32) (s0 : Int32) (s1 : Int32) (M : Mm), sX12_draw_33 x1 x2 x3 s0 s1 M = some q → WG g E 10 n Rf ex 0 0 33 [(0, rr E.1 194), (1, .int x1), (2, .int x2), (3, .int x3)] [.int s1, .int s0] M := by
  intro x1 x2 x3 s0 s1 M h
  unfold sX12_draw_33 at h
  refine g_icmp_ge (tgt := 43) hg dX12_draw_33 (by decide) (fun c => ?_) (fun c => ?_)
  · replace h := itT c h
    refine g_iconst hg dX12_draw_43 kI_m1 ?_
    replace h := Option.some.inj h
    subst h
    exact g_iret hg hr dX12_draw_44
  · replace h := itF c h
    refine g_rload_n hg dX12_draw_36 rfl 0 rfl ?_
    refine g_getI hg fl_X12_330 ly194 rfl (idb rfl rfl hn) dX12_draw_37 ?_
    refine g_if_ne (tgt := 45) hg dX12_draw_40 (by decide) (fun c => ?_) (fun c => ?_)
    · replace h := itF c h
      refine g_rload_n hg dX12_draw_45 rfl 0 rfl ?_
      refine g_iload_n hg dX12_draw_46 rfl 1 rfl ?_
      obtain ⟨M47, e47, h⟩ := Option.bind_eq_some_iff.mp h
      refine g_callVv (As := [.int x1]) (rest := []) hg (lkX12_know (by omega) hn hRf  e47) cv_X12_386 rfl ly194 (idb rfl rfl hn) rfl rfl (Nat.le_of_ble_eq_true rfl) ⟨Nat.le_refl _, Nat.le_refl _⟩ dX12_draw_47 ?_
      refine g_iload_n hg dX12_draw_50 rfl 2 rfl ?_
      refine g_if_eq (tgt := 61) hg dX12_draw_51 (by decide) (fun c => ?_) (fun c => ?_)
      · rw [if_pos c] at h
        refine g_rload_n hg dX12_draw_61 rfl 0 rfl ?_
        refine g_getI hg fl_X12_13 ly194 rfl (idb rfl rfl hn) dX12_draw_62 ?_
        refine g_sub (lv' := [(0, rr E.1 194), (2, .int x2), (3, .int x3)]) [0, 2, 3] rfl ?_
        exact lkX12_draw_65 hn hRf hg hr  _ _ _ _ h
      · rw [if_neg c] at h
        refine g_rload_n hg dX12_draw_54 rfl 0 rfl ?_
        refine g_getI hg fl_X12_17 ly194 rfl (idb rfl rfl hn) dX12_draw_55 ?_
        refine g_goto (tgt := 65) hg dX12_draw_58 (by decide) ?_
        refine g_sub (lv' := [(0, rr E.1 194), (2, .int x2), (3, .int x3)]) [0, 2, 3] rfl ?_
        exact lkX12_draw_65 hn hRf hg hr  _ _ _ _ h
    · replace h := itT c h
      refine g_iconst hg dX12_draw_43 kI_m1 ?_
      replace h := Option.some.inj h
      subst h
      exact g_iret hg hr dX12_draw_44
theorem lkX12_draw {l0 : Launch} {E : En} {d n : Nat} {Rf : Nat → Nat → Nat} {ex : Bool} {kq : Nat × Nat} (hd : 6 ≤ d) (hn : 238 ≤ n) (hRf : RfOk 194 238 kq Rf) {x1 : Int32} {x2 : Int32} {x3 : Int32} {M : Mm} {q : Int32 × Mm} (h : sX12_draw x1 x2 x3 M = some q) : Ct l0 E yX12_draw cX12_draw 10 (some .int) d 0 0 [rr E.1 194, .int x1, .int x2, .int x3] ex n Rf M n Rf (some (.int q.1)) q.2 := by
  obtain ⟨d, rfl⟩ := Nat.exists_eq_add_of_le' hd
  refine Ct.of pnX12 (Nat.le_of_ble_eq_true rfl) (fun g hg hr _ => ?_)
  replace hg : Ok g l0 E cX12_draw RX12 10 (d + 6) 0 0 := hg
  show WG g E 10 n Rf ex 0 0 0 [(0, rr E.1 194), (1, .int x1), (2, .int x2), (3, .int x3)] [] M
  unfold sX12_draw at h
  refine g_rload_n hg dX12_draw_0 rfl 0 rfl ?_
  refine g_iconst hg dX12_draw_1 kI_0 ?_
  refine g_putI hg fp_X12_171 ly194 rfl (idb rfl rfl hn) dX12_draw_2 ?_
  refine g_rload_n hg dX12_draw_5 rfl 0 rfl ?_
  refine g_iload_n hg dX12_draw_6 rfl 1 rfl ?_
  obtain ⟨q7, e7, h⟩ := Option.bind_eq_some_iff.mp h
  refine g_callVi (As := [.int x1]) (rest := []) hg (lkX12_isKnown (by omega) hn hRf  e7) cv_X12_383 rfl ly194 (idb rfl rfl hn) rfl rfl (Nat.le_of_ble_eq_true rfl) ⟨Nat.le_refl _, Nat.le_refl _⟩ dX12_draw_7 ?_
  refine g_if_eq (tgt := 43) hg dX12_draw_10 (by decide) (fun c => ?_) (fun c => ?_)
  · replace h := itT c h
    refine g_iconst hg dX12_draw_43 kI_m1 ?_
    replace h := Option.some.inj h
    subst h
    exact g_iret hg hr dX12_draw_44
  · replace h := itF c h
    refine g_iload_n hg dX12_draw_13 rfl 3 rfl ?_
    refine g_if_lt (tgt := 43) hg dX12_draw_14 (by decide) (fun c => ?_) (fun c => ?_)
    · replace h := itT c h
      refine g_iconst hg dX12_draw_43 kI_m1 ?_
      replace h := Option.some.inj h
      subst h
      exact g_iret hg hr dX12_draw_44
    · replace h := itF c h
      refine g_iload_n hg dX12_draw_17 rfl 3 rfl ?_
      refine g_iload_n hg dX12_draw_18 rfl 2 rfl ?_
      refine g_if_eq (tgt := 29) hg dX12_draw_19 (by decide) (fun c => ?_) (fun c => ?_)
      · rw [if_pos c] at h
        refine g_rload_n hg dX12_draw_29 rfl 0 rfl ?_
        refine g_getI hg fl_X12_17 ly194 rfl (idb rfl rfl hn) dX12_draw_30 ?_
        exact lkX12_draw_33 hn hRf hg hr  _ _ _ _ _ _ h
      · rw [if_neg c] at h
        refine g_rload_n hg dX12_draw_22 rfl 0 rfl ?_
        refine g_getI hg fl_X12_13 ly194 rfl (idb rfl rfl hn) dX12_draw_23 ?_
        refine g_goto (tgt := 33) hg dX12_draw_26 (by decide) ?_
        exact lkX12_draw_33 hn hRf hg hr  _ _ _ _ _ _ h
theorem lkX12_drawn_17 {g : Gm} {l0 : Launch} {E : En} {d n : Nat} {Rf : Nat → Nat → Nat} {ex : Bool} {kq : Nat × Nat} (hn : 238 ≤ n) (hRf : RfOk 194 238 kq Rf) (hg : Ok g l0 E cX12_drawn RX12 2 (d + 1) 0 0) {q : Int32 × Mm} (hr : Ret g E 0 0 (some .int) ex n Rf (some (.int q.1)) q.2) : ∀  (M : Mm), sX12_drawn_17  M = some q → WG g E 2 n Rf ex 0 0 17 [] [] M := by
  intro M h
  unfold sX12_drawn_17 at h
  refine g_iconst hg dX12_drawn_17 kI_m1 ?_
  refine g_goto (tgt := 27) hg dX12_drawn_18 (by decide) ?_
  replace h := Option.some.inj h
  subst h
  exact g_iret hg hr dX12_drawn_27
theorem lkX12_drawn {l0 : Launch} {E : En} {d n : Nat} {Rf : Nat → Nat → Nat} {ex : Bool} {kq : Nat × Nat} (hd : 1 ≤ d) (hn : 238 ≤ n) (hRf : RfOk 194 238 kq Rf) {x1 : Int32} {M : Mm} {q : Int32 × Mm} (h : sX12_drawn x1 M = some q) : Ct l0 E yX12_drawn cX12_drawn 2 (some .int) d 0 0 [rr E.1 194, .int x1] ex n Rf M n Rf (some (.int q.1)) q.2 := by
  obtain ⟨d, rfl⟩ := Nat.exists_eq_add_of_le' hd
  refine Ct.of pnX12 (Nat.le_of_ble_eq_true rfl) (fun g hg hr _ => ?_)
  replace hg : Ok g l0 E cX12_drawn RX12 2 (d + 1) 0 0 := hg
  show WG g E 2 n Rf ex 0 0 0 [(0, rr E.1 194), (1, .int x1)] [] M
  unfold sX12_drawn at h
  refine g_rload_n hg dX12_drawn_0 rfl 0 rfl ?_
  refine g_iconst hg dX12_drawn_1 kI_0 ?_
  refine g_putI hg fp_X12_171 ly194 rfl (idb rfl rfl hn) dX12_drawn_2 ?_
  refine g_iload_n hg dX12_drawn_5 rfl 1 rfl ?_
  refine g_if_lt (tgt := 17) hg dX12_drawn_6 (by decide) (fun c => ?_) (fun c => ?_)
  · replace h := itT c h
    refine g_sub (lv' := []) [] rfl ?_
    exact lkX12_drawn_17 hn hRf hg hr  _ h
  · replace h := itF c h
    refine g_iload_n hg dX12_drawn_9 rfl 1 rfl ?_
    refine g_rload_n hg dX12_drawn_10 rfl 0 rfl ?_
    refine g_getI hg fl_X12_404 ly194 rfl (idb rfl rfl hn) dX12_drawn_11 ?_
    refine g_icmp_lt (tgt := 21) hg dX12_drawn_14 (by decide) (fun c => ?_) (fun c => ?_)
    · replace h := itT c h
      refine g_rload_n hg dX12_drawn_21 rfl 0 rfl ?_
      refine g_getR (r := 232) hg fl_X12_150 ly194 rfl (idb rfl rfl hn) (rfc hRf rfl rfl rfl rfl) (by decide) dX12_drawn_22 ?_
      refine g_iload_n hg dX12_drawn_25 rfl 1 rfl ?_
      obtain ⟨c26, h⟩ := ck_some h
      refine g_iald hg ly232 (idb rfl rfl hn) (inb_vp c26) dX12_drawn_26 ?_
      replace h := Option.some.inj h
      subst h
      exact g_iret hg hr dX12_drawn_27
    · replace h := itF c h
      refine g_sub (lv' := []) [] rfl ?_
      exact lkX12_drawn_17 hn hRf hg hr  _ h
theorem lkX12_steps {l0 : Launch} {E : En} {d n : Nat} {Rf : Nat → Nat → Nat} {ex : Bool} {kq : Nat × Nat} (hd : 2 ≤ d) (hn : 238 ≤ n) (hRf : RfOk 194 238 kq Rf) {x1 : Int32} {x2 : Int32} {M : Mm} {q : Int32 × Mm} (h : sX12_steps x1 x2 M = some q) : Ct l0 E yX12_steps cX12_steps 3 (some .int) d 0 0 [rr E.1 194, .int x1, .int x2] ex n Rf M n Rf (some (.int q.1)) q.2 := by
  obtain ⟨d, rfl⟩ := Nat.exists_eq_add_of_le' hd
  refine Ct.of pnX12 (Nat.le_of_ble_eq_true rfl) (fun g hg hr _ => ?_)
  replace hg : Ok g l0 E cX12_steps RX12 3 (d + 2) 0 0 := hg
  show WG g E 3 n Rf ex 0 0 0 [(0, rr E.1 194), (1, .int x1), (2, .int x2)] [] M
  unfold sX12_steps at h
  refine g_iload_n hg dX12_steps_0 rfl 1 rfl ?_
  refine g_rload_n hg dX12_steps_1 rfl 0 rfl ?_
  refine g_getI hg fl_X12_13 ly194 rfl (idb rfl rfl hn) dX12_steps_2 ?_
  obtain ⟨c5, h⟩ := ck_some h
  refine g_irem hg dX12_steps_5 (nz_ne c5) ?_
  refine g_iload_n hg dX12_steps_6 rfl 2 rfl ?_
  refine g_rload_n hg dX12_steps_7 rfl 0 rfl ?_
  refine g_getI hg fl_X12_13 ly194 rfl (idb rfl rfl hn) dX12_steps_8 ?_
  obtain ⟨c11, h⟩ := ck_some h
  refine g_irem hg dX12_steps_11 (nz_ne c11) ?_
  refine g_isub hg dX12_steps_12 ?_
  obtain ⟨q13, e13, h⟩ := Option.bind_eq_some_iff.mp h
  refine g_callSi (As := [.int ((x1 - x1 / (M.1 194 3) * (M.1 194 3)) - (x2 - x2 / (M.1 194 3) * (M.1 194 3)))]) (rest := []) hg (lkX12_size (by omega) hn hRf  e13) cs_X12_359 rfl rfl (Nat.le_of_ble_eq_true rfl) ⟨Nat.le_refl _, Nat.le_refl _⟩ dX12_steps_13 ?_
  refine g_iload_n hg dX12_steps_16 rfl 1 rfl ?_
  refine g_rload_n hg dX12_steps_17 rfl 0 rfl ?_
  refine g_getI hg fl_X12_13 ly194 rfl (idb rfl rfl hn) dX12_steps_18 ?_
  obtain ⟨c21, h⟩ := ck_some h
  refine g_idiv hg dX12_steps_21 (nz_ne c21) ?_
  refine g_iload_n hg dX12_steps_22 rfl 2 rfl ?_
  refine g_rload_n hg dX12_steps_23 rfl 0 rfl ?_
  refine g_getI hg fl_X12_13 ly194 rfl (idb rfl rfl hn) dX12_steps_24 ?_
  obtain ⟨c27, h⟩ := ck_some h
  refine g_idiv hg dX12_steps_27 (nz_ne c27) ?_
  refine g_isub hg dX12_steps_28 ?_
  obtain ⟨q29, e29, h⟩ := Option.bind_eq_some_iff.mp h
  refine g_callSi (As := [.int ((x1 / (q13.2.1 194 3)) - (x2 / (q13.2.1 194 3)))]) (rest := [.int q13.1]) hg (lkX12_size (by omega) hn hRf  e29) cs_X12_359 rfl rfl (Nat.le_of_ble_eq_true rfl) ⟨Nat.le_refl _, Nat.le_refl _⟩ dX12_steps_29 ?_
  refine g_iadd hg dX12_steps_32 ?_
  replace h := Option.some.inj h
  subst h
  exact g_iret hg hr dX12_steps_33
theorem lkX12_mayBore {l0 : Launch} {E : En} {d n : Nat} {Rf : Nat → Nat → Nat} {ex : Bool} {kq : Nat × Nat} (hd : 1 ≤ d) (hn : 238 ≤ n) (hRf : RfOk 194 238 kq Rf) {x1 : Int32} {M : Mm} {q : Int32 × Mm} (h : sX12_mayBore x1 M = some q) : Ct l0 E yX12_mayBore cX12_mayBore 2 (some .boolean) d 0 0 [rr E.1 194, .int x1] ex n Rf M n Rf (some (.int q.1)) q.2 := by
  obtain ⟨d, rfl⟩ := Nat.exists_eq_add_of_le' hd
  refine Ct.of pnX12 (Nat.le_of_ble_eq_true rfl) (fun g hg hr _ => ?_)
  replace hg : Ok g l0 E cX12_mayBore RX12 2 (d + 1) 0 0 := hg
  show WG g E 2 n Rf ex 0 0 0 [(0, rr E.1 194), (1, .int x1)] [] M
  unfold sX12_mayBore at h
  refine g_rload_n hg dX12_mayBore_0 rfl 0 rfl ?_
  refine g_getR (r := 234) hg fl_X12_156 ly194 rfl (idb rfl rfl hn) (rfc hRf rfl rfl rfl rfl) (by decide) dX12_mayBore_1 ?_
  refine g_iload_n hg dX12_mayBore_4 rfl 1 rfl ?_
  obtain ⟨c5, h⟩ := ck_some h
  refine g_zald hg ly234 (idb rfl rfl hn) (inb_vp c5) dX12_mayBore_5 ?_
  refine g_if_ne (tgt := 13) hg dX12_mayBore_6 (by decide) (fun c => ?_) (fun c => ?_)
  · rw [if_neg c] at h
    refine g_iconst hg dX12_mayBore_13 kI_0 ?_
    replace h := Option.some.inj h
    subst h
    exact g_zret hg hr rfl dX12_mayBore_14
  · rw [if_pos c] at h
    refine g_iconst hg dX12_mayBore_9 kI_1 ?_
    refine g_goto (tgt := 14) hg dX12_mayBore_10 (by decide) ?_
    replace h := Option.some.inj h
    subst h
    exact g_zret hg hr rfl dX12_mayBore_14
theorem lkX12_better_35 {g : Gm} {l0 : Launch} {E : En} {d n : Nat} {Rf : Nat → Nat → Nat} {ex : Bool} {kq : Nat × Nat} (hn : 238 ≤ n) (hRf : RfOk 194 238 kq Rf) (hg : Ok g l0 E cX12_better RX12 8 (d + 1) 0 0) {q : Mm} (hr : Ret g E 0 0 none ex n Rf none q) : ∀ (x1 : Int32) (x2 : Int32) (x3 : Int32) (x4 : Int32) (x5 : Int32) (x6 : Int32) (M : Mm), sX12_better_35 x1 x2 x3 x4 x5 x6 M = some q → WG g E 8 n Rf ex 0 0 35 [(0, rr E.1 194), (1, .int x1), (2, .int x2), (3, .int x3), (4, .int x4), (5, .int x5), (6, .int x6)] [] M := by
  intro x1 x2 x3 x4 x5 x6 M h
  unfold sX12_better_35 at h
  refine g_rload_n hg dX12_better_35 rfl 0 rfl ?_
  refine g_iload hg dX12_better_36 6 rfl ?_
  refine g_putI hg fp_X12_407 ly194 rfl (idb rfl rfl hn) dX12_better_38 ?_
  refine g_rload_n hg dX12_better_41 rfl 0 rfl ?_
  refine g_iload hg dX12_better_42 5 rfl ?_
  refine g_putI hg fp_X12_410 ly194 rfl (idb rfl rfl hn) dX12_better_44 ?_
  refine g_rload_n hg dX12_better_47 rfl 0 rfl ?_
  refine g_iload_n hg dX12_better_48 rfl 1 rfl ?_
  refine g_putI hg fp_X12_413 ly194 rfl (idb rfl rfl hn) dX12_better_49 ?_
  refine g_rload_n hg dX12_better_52 rfl 0 rfl ?_
  refine g_iload hg dX12_better_53 5 rfl ?_
  refine g_putI hg fp_X12_416 ly194 rfl (idb rfl rfl hn) dX12_better_55 ?_
  refine g_rload_n hg dX12_better_58 rfl 0 rfl ?_
  refine g_getR (r := 235) hg fl_X12_159 ly194 rfl (idb rfl rfl hn) (rfc hRf rfl rfl rfl rfl) (by decide) dX12_better_59 ?_
  refine g_iconst hg dX12_better_62 kI_0 ?_
  refine g_iload_n hg dX12_better_63 rfl 2 rfl ?_
  obtain ⟨c64, h⟩ := ck_some h
  refine g_iast hg ly235 (idb rfl rfl hn) (inb_vp c64) dX12_better_64 ?_
  refine g_rload_n hg dX12_better_65 rfl 0 rfl ?_
  refine g_getR (r := 235) hg fl_X12_159 ly194 rfl (idb rfl rfl hn) (rfc hRf rfl rfl rfl rfl) (by decide) dX12_better_66 ?_
  refine g_iconst hg dX12_better_69 kI_1 ?_
  refine g_iload_n hg dX12_better_70 rfl 3 rfl ?_
  obtain ⟨c71, h⟩ := ck_some h
  refine g_iast hg ly235 (idb rfl rfl hn) (inb_vp c71) dX12_better_71 ?_
  refine g_rload_n hg dX12_better_72 rfl 0 rfl ?_
  refine g_getR (r := 235) hg fl_X12_159 ly194 rfl (idb rfl rfl hn) (rfc hRf rfl rfl rfl rfl) (by decide) dX12_better_73 ?_
  refine g_iconst hg dX12_better_76 kI_2 ?_
  refine g_iload hg dX12_better_77 4 rfl ?_
  obtain ⟨c79, h⟩ := ck_some h
  refine g_iast hg ly235 (idb rfl rfl hn) (inb_vp c79) dX12_better_79 ?_
  replace h := Option.some.inj h
  subst h
  exact g_vret hg hr dX12_better_80
theorem lkX12_better {l0 : Launch} {E : En} {d n : Nat} {Rf : Nat → Nat → Nat} {ex : Bool} {kq : Nat × Nat} (hd : 1 ≤ d) (hn : 238 ≤ n) (hRf : RfOk 194 238 kq Rf) {x1 : Int32} {x2 : Int32} {x3 : Int32} {x4 : Int32} {x5 : Int32} {x6 : Int32} {x7 : Int32} {M : Mm} {q : Mm} (h : sX12_better x1 x2 x3 x4 x5 x6 x7 M = some q) : Ct l0 E yX12_better cX12_better 8 none d 0 0 [rr E.1 194, .int x1, .int x2, .int x3, .int x4, .int x5, .int x6, .int x7] ex n Rf M n Rf none q := by
  obtain ⟨d, rfl⟩ := Nat.exists_eq_add_of_le' hd
  refine Ct.of pnX12 (Nat.le_of_ble_eq_true rfl) (fun g hg hr _ => ?_)
  replace hg : Ok g l0 E cX12_better RX12 8 (d + 1) 0 0 := hg
  show WG g E 8 n Rf ex 0 0 0 [(0, rr E.1 194), (1, .int x1), (2, .int x2), (3, .int x3), (4, .int x4), (5, .int x5), (6, .int x6), (7, .int x7)] [] M
  unfold sX12_better at h
  refine g_iload hg dX12_better_0 5 rfl ?_
  refine g_iload hg dX12_better_2 7 rfl ?_
  refine g_icmp_gt (tgt := 34) hg dX12_better_4 (by decide) (fun c => ?_) (fun c => ?_)
  · replace h := itT c h
    replace h := Option.some.inj h
    subst h
    exact g_vret hg hr dX12_better_34
  · replace h := itF c h
    refine g_iload hg dX12_better_7 6 rfl ?_
    refine g_rload_n hg dX12_better_9 rfl 0 rfl ?_
    refine g_getI hg fl_X12_407 ly194 rfl (idb rfl rfl hn) dX12_better_10 ?_
    refine g_icmp_lt (tgt := 34) hg dX12_better_13 (by decide) (fun c => ?_) (fun c => ?_)
    · replace h := itT c h
      replace h := Option.some.inj h
      subst h
      exact g_vret hg hr dX12_better_34
    · replace h := itF c h
      refine g_iload hg dX12_better_16 6 rfl ?_
      refine g_rload_n hg dX12_better_18 rfl 0 rfl ?_
      refine g_getI hg fl_X12_407 ly194 rfl (idb rfl rfl hn) dX12_better_19 ?_
      refine g_icmp_ne (tgt := 35) hg dX12_better_22 (by decide) (fun c => ?_) (fun c => ?_)
      · replace h := itF c h
        refine g_sub (lv' := [(0, rr E.1 194), (1, .int x1), (2, .int x2), (3, .int x3), (4, .int x4), (5, .int x5), (6, .int x6)]) [0, 1, 2, 3, 4, 5, 6] rfl ?_
        exact lkX12_better_35 hn hRf hg hr  _ _ _ _ _ _ _ h
      · replace h := itT c h
        refine g_iload hg dX12_better_25 5 rfl ?_
        refine g_rload_n hg dX12_better_27 rfl 0 rfl ?_
        refine g_getI hg fl_X12_410 ly194 rfl (idb rfl rfl hn) dX12_better_28 ?_
        refine g_icmp_lt (tgt := 35) hg dX12_better_31 (by decide) (fun c => ?_) (fun c => ?_)
        · replace h := itT c h
          refine g_sub (lv' := [(0, rr E.1 194), (1, .int x1), (2, .int x2), (3, .int x3), (4, .int x4), (5, .int x5), (6, .int x6)]) [0, 1, 2, 3, 4, 5, 6] rfl ?_
          exact lkX12_better_35 hn hRf hg hr  _ _ _ _ _ _ _ h
        · replace h := itF c h
          replace h := Option.some.inj h
          subst h
          exact g_vret hg hr dX12_better_34
theorem lkX12_plan_426 {g : Gm} {l0 : Launch} {E : En} {d n : Nat} {Rf : Nat → Nat → Nat} {ex : Bool} {kq : Nat × Nat} (hn : 238 ≤ n) (hRf : RfOk 194 238 kq Rf) (hg : Ok g l0 E cX12_plan RX12 10 (d + 6) 0 0) {q : Int32 × Mm} (hr : Ret g E 0 0 (some .int) ex n Rf (some (.int q.1)) q.2) {k174 : Int32 → Int32 → Int32 → Int32 → Int32 → Mm → Option (Int32 × Mm)} (hk174 : ∀ (x1 : Int32) (x2 : Int32) (x3 : Int32) (x4 : Int32) (x5 : Int32) (M : Mm), k174 x1 x2 x3 x4 x5 M = some q → WG g E 10 n Rf ex 0 0 174 [(0, rr E.1 194), (1, .int x1), (2, .int x2), (3, .int x3), (4, .int x4), (5, .int x5)] [] M) : ∀ (x1 : Int32) (x2 : Int32) (x3 : Int32) (x4 : Int32) (x5 : Int32) (M : Mm), sX12_plan_426 k174 x1 x2 x3 x4 x5 M = some q → WG g E 10 n Rf ex 0 0 426 [(0, rr E.1 194), (1, .int x1), (2, .int x2), (3, .int x3), (4, .int x4), (5, .int x5)] [] M := by
  intro x1 x2 x3 x4 x5 M h
  unfold sX12_plan_426 at h
  refine g_inc (lv' := [(5, .int (x5 + 1)), (0, rr E.1 194), (1, .int x1), (2, .int x2), (3, .int x3), (4, .int x4)]) hg dX12_plan_426 kI_1 5 rfl (by decide) rfl ?_
  refine g_goto (tgt := 174) hg dX12_plan_429 (by decide) ?_
  refine g_sub (lv' := [(0, rr E.1 194), (1, .int x1), (2, .int x2), (3, .int x3), (4, .int x4), (5, .int (x5 + 1))]) [1, 2, 3, 4, 5, 0] rfl ?_
  exact hk174 _ _ _ _ _ _ h
theorem lkX12_plan_420 {g : Gm} {l0 : Launch} {E : En} {d n : Nat} {Rf : Nat → Nat → Nat} {ex : Bool} {kq : Nat × Nat} (hn : 238 ≤ n) (hRf : RfOk 194 238 kq Rf) (hg : Ok g l0 E cX12_plan RX12 10 (d + 6) 0 0) {q : Int32 × Mm} (hr : Ret g E 0 0 (some .int) ex n Rf (some (.int q.1)) q.2) {k174 : Int32 → Int32 → Int32 → Int32 → Int32 → Mm → Option (Int32 × Mm)} (hk174 : ∀ (x1 : Int32) (x2 : Int32) (x3 : Int32) (x4 : Int32) (x5 : Int32) (M : Mm), k174 x1 x2 x3 x4 x5 M = some q → WG g E 10 n Rf ex 0 0 174 [(0, rr E.1 194), (1, .int x1), (2, .int x2), (3, .int x3), (4, .int x4), (5, .int x5)] [] M) {k231 : Int32 → Int32 → Int32 → Int32 → Int32 → Int32 → Int32 → Mm → Option (Int32 × Mm)} (hk231 : ∀ (x1 : Int32) (x2 : Int32) (x3 : Int32) (x4 : Int32) (x5 : Int32) (x6 : Int32) (x7 : Int32) (M : Mm), k231 x1 x2 x3 x4 x5 x6 x7 M = some q → WG g E 10 n Rf ex 0 0 231 [(0, rr E.1 194), (1, .int x1), (2, .int x2), (3, .int x3), (4, .int x4), (5, .int x5), (6, .int x6), (7, .int x7)] [] M) : ∀ (x1 : Int32) (x2 : Int32) (x3 : Int32) (x4 : Int32) (x5 : Int32) (x6 : Int32) (x7 : Int32) (M : Mm), sX12_plan_420 k174 k231 x1 x2 x3 x4 x5 x6 x7 M = some q → WG g E 10 n Rf ex 0 0 420 [(0, rr E.1 194), (1, .int x1), (2, .int x2), (3, .int x3), (4, .int x4), (5, .int x5), (6, .int x6), (7, .int x7)] [] M := by
  intro x1 x2 x3 x4 x5 x6 x7 M h
  unfold sX12_plan_420 at h
  refine g_inc (lv' := [(7, .int (x7 + 1)), (0, rr E.1 194), (1, .int x1), (2, .int x2), (3, .int x3), (4, .int x4), (5, .int x5), (6, .int x6)]) hg dX12_plan_420 kI_1 7 rfl (by decide) rfl ?_
  refine g_goto (tgt := 231) hg dX12_plan_423 (by decide) ?_
  refine g_sub (lv' := [(0, rr E.1 194), (1, .int x1), (2, .int x2), (3, .int x3), (4, .int x4), (5, .int x5), (6, .int x6), (7, .int (x7 + 1))]) [1, 2, 3, 4, 5, 6, 7, 0] rfl ?_
  exact hk231 _ _ _ _ _ _ _ _ h
theorem lkX12_plan_414 {g : Gm} {l0 : Launch} {E : En} {d n : Nat} {Rf : Nat → Nat → Nat} {ex : Bool} {kq : Nat × Nat} (hn : 238 ≤ n) (hRf : RfOk 194 238 kq Rf) (hg : Ok g l0 E cX12_plan RX12 10 (d + 6) 0 0) {q : Int32 × Mm} (hr : Ret g E 0 0 (some .int) ex n Rf (some (.int q.1)) q.2) {k174 : Int32 → Int32 → Int32 → Int32 → Int32 → Mm → Option (Int32 × Mm)} (hk174 : ∀ (x1 : Int32) (x2 : Int32) (x3 : Int32) (x4 : Int32) (x5 : Int32) (M : Mm), k174 x1 x2 x3 x4 x5 M = some q → WG g E 10 n Rf ex 0 0 174 [(0, rr E.1 194), (1, .int x1), (2, .int x2), (3, .int x3), (4, .int x4), (5, .int x5)] [] M) {k231 : Int32 → Int32 → Int32 → Int32 → Int32 → Int32 → Int32 → Mm → Option (Int32 × Mm)} (hk231 : ∀ (x1 : Int32) (x2 : Int32) (x3 : Int32) (x4 : Int32) (x5 : Int32) (x6 : Int32) (x7 : Int32) (M : Mm), k231 x1 x2 x3 x4 x5 x6 x7 M = some q → WG g E 10 n Rf ex 0 0 231 [(0, rr E.1 194), (1, .int x1), (2, .int x2), (3, .int x3), (4, .int x4), (5, .int x5), (6, .int x6), (7, .int x7)] [] M) {k318 : Int32 → Int32 → Int32 → Int32 → Int32 → Int32 → Int32 → Int32 → Int32 → Mm → Option (Int32 × Mm)} (hk318 : ∀ (x1 : Int32) (x2 : Int32) (x3 : Int32) (x4 : Int32) (x5 : Int32) (x6 : Int32) (x7 : Int32) (x8 : Int32) (x9 : Int32) (M : Mm), k318 x1 x2 x3 x4 x5 x6 x7 x8 x9 M = some q → WG g E 10 n Rf ex 0 0 318 [(0, rr E.1 194), (1, .int x1), (2, .int x2), (3, .int x3), (4, .int x4), (5, .int x5), (6, .int x6), (7, .int x7), (8, .int x8), (9, .int x9)] [] M) : ∀ (x1 : Int32) (x2 : Int32) (x3 : Int32) (x4 : Int32) (x5 : Int32) (x6 : Int32) (x7 : Int32) (x8 : Int32) (x9 : Int32) (M : Mm), sX12_plan_414 k174 k231 k318 x1 x2 x3 x4 x5 x6 x7 x8 x9 M = some q → WG g E 10 n Rf ex 0 0 414 [(0, rr E.1 194), (1, .int x1), (2, .int x2), (3, .int x3), (4, .int x4), (5, .int x5), (6, .int x6), (7, .int x7), (8, .int x8), (9, .int x9)] [] M := by
  intro x1 x2 x3 x4 x5 x6 x7 x8 x9 M h
  unfold sX12_plan_414 at h
  refine g_inc (lv' := [(9, .int (x9 + 1)), (0, rr E.1 194), (1, .int x1), (2, .int x2), (3, .int x3), (4, .int x4), (5, .int x5), (6, .int x6), (7, .int x7), (8, .int x8)]) hg dX12_plan_414 kI_1 9 rfl (by decide) rfl ?_
  refine g_goto (tgt := 318) hg dX12_plan_417 (by decide) ?_
  refine g_sub (lv' := [(0, rr E.1 194), (1, .int x1), (2, .int x2), (3, .int x3), (4, .int x4), (5, .int x5), (6, .int x6), (7, .int x7), (8, .int x8), (9, .int (x9 + 1))]) [1, 2, 3, 4, 5, 6, 7, 8, 9, 0] rfl ?_
  exact hk318 _ _ _ _ _ _ _ _ _ _ h
theorem lkX12_plan_318 {g : Gm} {l0 : Launch} {E : En} {d n : Nat} {Rf : Nat → Nat → Nat} {ex : Bool} {kq : Nat × Nat} (hn : 238 ≤ n) (hRf : RfOk 194 238 kq Rf) (hg : Ok g l0 E cX12_plan RX12 10 (d + 6) 0 0) {q : Int32 × Mm} (hr : Ret g E 0 0 (some .int) ex n Rf (some (.int q.1)) q.2) {k174 : Int32 → Int32 → Int32 → Int32 → Int32 → Mm → Option (Int32 × Mm)} (hk174 : ∀ (x1 : Int32) (x2 : Int32) (x3 : Int32) (x4 : Int32) (x5 : Int32) (M : Mm), k174 x1 x2 x3 x4 x5 M = some q → WG g E 10 n Rf ex 0 0 174 [(0, rr E.1 194), (1, .int x1), (2, .int x2), (3, .int x3), (4, .int x4), (5, .int x5)] [] M) {k231 : Int32 → Int32 → Int32 → Int32 → Int32 → Int32 → Int32 → Mm → Option (Int32 × Mm)} (hk231 : ∀ (x1 : Int32) (x2 : Int32) (x3 : Int32) (x4 : Int32) (x5 : Int32) (x6 : Int32) (x7 : Int32) (M : Mm), k231 x1 x2 x3 x4 x5 x6 x7 M = some q → WG g E 10 n Rf ex 0 0 231 [(0, rr E.1 194), (1, .int x1), (2, .int x2), (3, .int x3), (4, .int x4), (5, .int x5), (6, .int x6), (7, .int x7)] [] M) : ∀ (F : Nat) (x1 : Int32) (x2 : Int32) (x3 : Int32) (x4 : Int32) (x5 : Int32) (x6 : Int32) (x7 : Int32) (x8 : Int32) (x9 : Int32) (M : Mm), sX12_plan_318 k174 k231 F x1 x2 x3 x4 x5 x6 x7 x8 x9 M = some q → WG g E 10 n Rf ex 0 0 318 [(0, rr E.1 194), (1, .int x1), (2, .int x2), (3, .int x3), (4, .int x4), (5, .int x5), (6, .int x6), (7, .int x7), (8, .int x8), (9, .int x9)] [] M := by
  intro F
  induction F with
  | zero =>
    intro x1 x2 x3 x4 x5 x6 x7 x8 x9 M h
    cases h
  | succ F ih =>
    intro x1 x2 x3 x4 x5 x6 x7 x8 x9 M h
    rw [sX12_plan_318] at h
    refine g_iload hg dX12_plan_318 9 rfl ?_
    refine g_iload hg dX12_plan_320 4 rfl ?_
    refine g_icmp_ge (tgt := 420) hg dX12_plan_322 (by decide) (fun c => ?_) (fun c => ?_)
    · replace h := itT c h
      refine g_sub (lv' := [(0, rr E.1 194), (1, .int x1), (2, .int x2), (3, .int x3), (4, .int x4), (5, .int x5), (6, .int x6), (7, .int x7)]) [0, 1, 2, 3, 4, 5, 6, 7] rfl ?_
      exact lkX12_plan_420 hn hRf hg hr hk174 hk231 _ _ _ _ _ _ _ _ h
    · replace h := itF c h
      refine g_iload_n hg dX12_plan_325 rfl 1 rfl ?_
      refine g_iconst hg dX12_plan_326 kI_2 ?_
      refine g_icmp_le (tgt := 420) hg dX12_plan_327 (by decide) (fun c => ?_) (fun c => ?_)
      · replace h := itT c h
        refine g_sub (lv' := [(0, rr E.1 194), (1, .int x1), (2, .int x2), (3, .int x3), (4, .int x4), (5, .int x5), (6, .int x6), (7, .int x7)]) [0, 1, 2, 3, 4, 5, 6, 7] rfl ?_
        exact lkX12_plan_420 hn hRf hg hr hk174 hk231 _ _ _ _ _ _ _ _ h
      · replace h := itF c h
        refine g_rload_n hg dX12_plan_330 rfl 0 rfl ?_
        refine g_iload hg dX12_plan_331 9 rfl ?_
        obtain ⟨q333, e333, h⟩ := Option.bind_eq_some_iff.mp h
        refine g_callVi (As := [.int x9]) (rest := []) hg (lkX12_mayBore (by omega) hn hRf  e333) cv_X12_419 rfl ly194 (idb rfl rfl hn) rfl rfl (Nat.le_of_ble_eq_true rfl) ⟨Nat.le_refl _, Nat.le_refl _⟩ dX12_plan_333 ?_
        refine g_if_eq (tgt := 414) hg dX12_plan_336 (by decide) (fun c => ?_) (fun c => ?_)
        · replace h := itT c h
          exact lkX12_plan_414 hn hRf hg hr hk174 hk231 ih _ _ _ _ _ _ _ _ _ _ h
        · replace h := itF c h
          refine g_rload_n hg dX12_plan_339 rfl 0 rfl ?_
          refine g_iload hg dX12_plan_340 5 rfl ?_
          refine g_iload hg dX12_plan_342 9 rfl ?_
          obtain ⟨q344, e344, h⟩ := Option.bind_eq_some_iff.mp h
          refine g_callVi (As := [.int x5, .int x9]) (rest := []) hg (lkX12_far (by omega) hn hRf  e344) cv_X12_374 rfl ly194 (idb rfl rfl hn) rfl rfl (Nat.le_of_ble_eq_true rfl) ⟨Nat.le_refl _, Nat.le_refl _⟩ dX12_plan_344 ?_
          refine g_iconst hg dX12_plan_347 kI_2 ?_
          refine g_icmp_lt (tgt := 414) hg dX12_plan_348 (by decide) (fun c => ?_) (fun c => ?_)
          · replace h := itT c h
            exact lkX12_plan_414 hn hRf hg hr hk174 hk231 ih _ _ _ _ _ _ _ _ _ _ h
          · replace h := itF c h
            refine g_rload_n hg dX12_plan_351 rfl 0 rfl ?_
            refine g_iload hg dX12_plan_352 7 rfl ?_
            refine g_iload hg dX12_plan_354 9 rfl ?_
            obtain ⟨q356, e356, h⟩ := Option.bind_eq_some_iff.mp h
            refine g_callVi (As := [.int x7, .int x9]) (rest := []) hg (lkX12_far (by omega) hn hRf  e356) cv_X12_374 rfl ly194 (idb rfl rfl hn) rfl rfl (Nat.le_of_ble_eq_true rfl) ⟨Nat.le_refl _, Nat.le_refl _⟩ dX12_plan_356 ?_
            refine g_iconst hg dX12_plan_359 kI_2 ?_
            refine g_icmp_ge (tgt := 366) hg dX12_plan_360 (by decide) (fun c => ?_) (fun c => ?_)
            · replace h := itT c h
              refine g_rload_n hg dX12_plan_366 rfl 0 rfl ?_
              refine g_iconst hg dX12_plan_367 kI_3 ?_
              refine g_iload hg dX12_plan_368 5 rfl ?_
              refine g_iload hg dX12_plan_370 7 rfl ?_
              refine g_iload hg dX12_plan_372 9 rfl ?_
              refine g_iload hg dX12_plan_374 8 rfl ?_
              refine g_rload_n hg dX12_plan_376 rfl 0 rfl ?_
              refine g_iload hg dX12_plan_377 7 rfl ?_
              refine g_iload hg dX12_plan_379 9 rfl ?_
              obtain ⟨q381, e381, h⟩ := Option.bind_eq_some_iff.mp h
              refine g_callVi (As := [.int x7, .int x9]) (rest := [.int x8, .int x9, .int x7, .int x5, .int 3, rr E.1 194]) hg (lkX12_steps (by omega) hn hRf  e381) cv_X12_422 rfl ly194 (idb rfl rfl hn) rfl rfl (Nat.le_of_ble_eq_true rfl) ⟨Nat.le_refl _, Nat.le_refl _⟩ dX12_plan_381 ?_
              refine g_iadd hg dX12_plan_384 ?_
              refine g_iconst hg dX12_plan_385 kI_1 ?_
              refine g_iadd hg dX12_plan_386 ?_
              refine g_rload_n hg dX12_plan_387 rfl 0 rfl ?_
              refine g_getR (r := 233) hg fl_X12_153 ly194 rfl (idb rfl rfl hn) (rfc hRf rfl rfl rfl rfl) (by decide) dX12_plan_388 ?_
              refine g_iload hg dX12_plan_391 5 rfl ?_
              obtain ⟨c393, h⟩ := ck_some h
              refine g_iald hg ly233 (idb rfl rfl hn) (inb_vp c393) dX12_plan_393 ?_
              refine g_rload_n hg dX12_plan_394 rfl 0 rfl ?_
              refine g_getR (r := 233) hg fl_X12_153 ly194 rfl (idb rfl rfl hn) (rfc hRf rfl rfl rfl rfl) (by decide) dX12_plan_395 ?_
              refine g_iload hg dX12_plan_398 7 rfl ?_
              obtain ⟨c400, h⟩ := ck_some h
              refine g_iald hg ly233 (idb rfl rfl hn) (inb_vp c400) dX12_plan_400 ?_
              refine g_iadd hg dX12_plan_401 ?_
              refine g_rload_n hg dX12_plan_402 rfl 0 rfl ?_
              refine g_getR (r := 233) hg fl_X12_153 ly194 rfl (idb rfl rfl hn) (rfc hRf rfl rfl rfl rfl) (by decide) dX12_plan_403 ?_
              refine g_iload hg dX12_plan_406 9 rfl ?_
              obtain ⟨c408, h⟩ := ck_some h
              refine g_iald hg ly233 (idb rfl rfl hn) (inb_vp c408) dX12_plan_408 ?_
              refine g_iadd hg dX12_plan_409 ?_
              refine g_iload_n hg dX12_plan_410 rfl 2 rfl ?_
              obtain ⟨M411, e411, h⟩ := Option.bind_eq_some_iff.mp h
              refine g_callVv (As := [.int 3, .int x5, .int x7, .int x9, .int ((x8 + q381.1) + 1), .int (((q381.2.1 233 x5.toNatClampNeg) + (q381.2.1 233 x7.toNatClampNeg)) + (q381.2.1 233 x9.toNatClampNeg)), .int x2]) (rest := []) hg (lkX12_better (by omega) hn hRf  e411) cv_X12_425 rfl ly194 (idb rfl rfl hn) rfl rfl (Nat.le_of_ble_eq_true rfl) ⟨Nat.le_refl _, Nat.le_refl _⟩ dX12_plan_411 ?_
              exact lkX12_plan_414 hn hRf hg hr hk174 hk231 ih _ _ _ _ _ _ _ _ _ _ h
            · replace h := itF c h
              refine g_goto (tgt := 414) hg dX12_plan_363 (by decide) ?_
              exact lkX12_plan_414 hn hRf hg hr hk174 hk231 ih _ _ _ _ _ _ _ _ _ _ h
theorem lkX12_plan_315 {g : Gm} {l0 : Launch} {E : En} {d n : Nat} {Rf : Nat → Nat → Nat} {ex : Bool} {kq : Nat × Nat} (hn : 238 ≤ n) (hRf : RfOk 194 238 kq Rf) (hg : Ok g l0 E cX12_plan RX12 10 (d + 6) 0 0) {q : Int32 × Mm} (hr : Ret g E 0 0 (some .int) ex n Rf (some (.int q.1)) q.2) {k174 : Int32 → Int32 → Int32 → Int32 → Int32 → Mm → Option (Int32 × Mm)} (hk174 : ∀ (x1 : Int32) (x2 : Int32) (x3 : Int32) (x4 : Int32) (x5 : Int32) (M : Mm), k174 x1 x2 x3 x4 x5 M = some q → WG g E 10 n Rf ex 0 0 174 [(0, rr E.1 194), (1, .int x1), (2, .int x2), (3, .int x3), (4, .int x4), (5, .int x5)] [] M) {k231 : Int32 → Int32 → Int32 → Int32 → Int32 → Int32 → Int32 → Mm → Option (Int32 × Mm)} (hk231 : ∀ (x1 : Int32) (x2 : Int32) (x3 : Int32) (x4 : Int32) (x5 : Int32) (x6 : Int32) (x7 : Int32) (M : Mm), k231 x1 x2 x3 x4 x5 x6 x7 M = some q → WG g E 10 n Rf ex 0 0 231 [(0, rr E.1 194), (1, .int x1), (2, .int x2), (3, .int x3), (4, .int x4), (5, .int x5), (6, .int x6), (7, .int x7)] [] M) : ∀ (x1 : Int32) (x2 : Int32) (x3 : Int32) (x4 : Int32) (x5 : Int32) (x6 : Int32) (x7 : Int32) (x8 : Int32) (M : Mm), sX12_plan_315 k174 k231 x1 x2 x3 x4 x5 x6 x7 x8 M = some q → WG g E 10 n Rf ex 0 0 315 [(0, rr E.1 194), (1, .int x1), (2, .int x2), (3, .int x3), (4, .int x4), (5, .int x5), (6, .int x6), (7, .int x7), (8, .int x8)] [] M := by
  intro x1 x2 x3 x4 x5 x6 x7 x8 M h
  unfold sX12_plan_315 at h
  refine g_iconst hg dX12_plan_315 kI_0 ?_
  refine g_istore (lv' := [(9, .int 0), (0, rr E.1 194), (1, .int x1), (2, .int x2), (3, .int x3), (4, .int x4), (5, .int x5), (6, .int x6), (7, .int x7), (8, .int x8)]) hg dX12_plan_316 (by decide) rfl ?_
  refine g_sub (lv' := [(0, rr E.1 194), (1, .int x1), (2, .int x2), (3, .int x3), (4, .int x4), (5, .int x5), (6, .int x6), (7, .int x7), (8, .int x8), (9, .int 0)]) [1, 2, 3, 4, 5, 6, 7, 8, 9, 0] rfl ?_
  exact lkX12_plan_318 hn hRf hg hr hk174 hk231 4096 _ _ _ _ _ _ _ _ _ _ h
theorem lkX12_plan_231 {g : Gm} {l0 : Launch} {E : En} {d n : Nat} {Rf : Nat → Nat → Nat} {ex : Bool} {kq : Nat × Nat} (hn : 238 ≤ n) (hRf : RfOk 194 238 kq Rf) (hg : Ok g l0 E cX12_plan RX12 10 (d + 6) 0 0) {q : Int32 × Mm} (hr : Ret g E 0 0 (some .int) ex n Rf (some (.int q.1)) q.2) {k174 : Int32 → Int32 → Int32 → Int32 → Int32 → Mm → Option (Int32 × Mm)} (hk174 : ∀ (x1 : Int32) (x2 : Int32) (x3 : Int32) (x4 : Int32) (x5 : Int32) (M : Mm), k174 x1 x2 x3 x4 x5 M = some q → WG g E 10 n Rf ex 0 0 174 [(0, rr E.1 194), (1, .int x1), (2, .int x2), (3, .int x3), (4, .int x4), (5, .int x5)] [] M) : ∀ (F : Nat) (x1 : Int32) (x2 : Int32) (x3 : Int32) (x4 : Int32) (x5 : Int32) (x6 : Int32) (x7 : Int32) (M : Mm), sX12_plan_231 k174 F x1 x2 x3 x4 x5 x6 x7 M = some q → WG g E 10 n Rf ex 0 0 231 [(0, rr E.1 194), (1, .int x1), (2, .int x2), (3, .int x3), (4, .int x4), (5, .int x5), (6, .int x6), (7, .int x7)] [] M := by
  intro F
  induction F with
  | zero =>
    intro x1 x2 x3 x4 x5 x6 x7 M h
    cases h
  | succ F ih =>
    intro x1 x2 x3 x4 x5 x6 x7 M h
    rw [sX12_plan_231] at h
    refine g_iload hg dX12_plan_231 7 rfl ?_
    refine g_iload hg dX12_plan_233 4 rfl ?_
    refine g_icmp_ge (tgt := 426) hg dX12_plan_235 (by decide) (fun c => ?_) (fun c => ?_)
    · replace h := itT c h
      refine g_sub (lv' := [(0, rr E.1 194), (1, .int x1), (2, .int x2), (3, .int x3), (4, .int x4), (5, .int x5)]) [0, 1, 2, 3, 4, 5] rfl ?_
      exact lkX12_plan_426 hn hRf hg hr hk174 _ _ _ _ _ _ h
    · replace h := itF c h
      refine g_iload_n hg dX12_plan_238 rfl 1 rfl ?_
      refine g_iconst hg dX12_plan_239 kI_1 ?_
      refine g_icmp_le (tgt := 426) hg dX12_plan_240 (by decide) (fun c => ?_) (fun c => ?_)
      · replace h := itT c h
        refine g_sub (lv' := [(0, rr E.1 194), (1, .int x1), (2, .int x2), (3, .int x3), (4, .int x4), (5, .int x5)]) [0, 1, 2, 3, 4, 5] rfl ?_
        exact lkX12_plan_426 hn hRf hg hr hk174 _ _ _ _ _ _ h
      · replace h := itF c h
        refine g_rload_n hg dX12_plan_243 rfl 0 rfl ?_
        refine g_iload hg dX12_plan_244 7 rfl ?_
        obtain ⟨q246, e246, h⟩ := Option.bind_eq_some_iff.mp h
        refine g_callVi (As := [.int x7]) (rest := []) hg (lkX12_mayBore (by omega) hn hRf  e246) cv_X12_419 rfl ly194 (idb rfl rfl hn) rfl rfl (Nat.le_of_ble_eq_true rfl) ⟨Nat.le_refl _, Nat.le_refl _⟩ dX12_plan_246 ?_
        refine g_if_eq (tgt := 420) hg dX12_plan_249 (by decide) (fun c => ?_) (fun c => ?_)
        · replace h := itT c h
          exact lkX12_plan_420 hn hRf hg hr hk174 ih _ _ _ _ _ _ _ _ h
        · replace h := itF c h
          refine g_rload_n hg dX12_plan_252 rfl 0 rfl ?_
          refine g_iload hg dX12_plan_253 5 rfl ?_
          refine g_iload hg dX12_plan_255 7 rfl ?_
          obtain ⟨q257, e257, h⟩ := Option.bind_eq_some_iff.mp h
          refine g_callVi (As := [.int x5, .int x7]) (rest := []) hg (lkX12_far (by omega) hn hRf  e257) cv_X12_374 rfl ly194 (idb rfl rfl hn) rfl rfl (Nat.le_of_ble_eq_true rfl) ⟨Nat.le_refl _, Nat.le_refl _⟩ dX12_plan_257 ?_
          refine g_iconst hg dX12_plan_260 kI_2 ?_
          refine g_icmp_ge (tgt := 267) hg dX12_plan_261 (by decide) (fun c => ?_) (fun c => ?_)
          · replace h := itT c h
            refine g_iload hg dX12_plan_267 6 rfl ?_
            refine g_rload_n hg dX12_plan_269 rfl 0 rfl ?_
            refine g_iload hg dX12_plan_270 5 rfl ?_
            refine g_iload hg dX12_plan_272 7 rfl ?_
            obtain ⟨q274, e274, h⟩ := Option.bind_eq_some_iff.mp h
            refine g_callVi (As := [.int x5, .int x7]) (rest := [.int x6]) hg (lkX12_steps (by omega) hn hRf  e274) cv_X12_422 rfl ly194 (idb rfl rfl hn) rfl rfl (Nat.le_of_ble_eq_true rfl) ⟨Nat.le_refl _, Nat.le_refl _⟩ dX12_plan_274 ?_
            refine g_iadd hg dX12_plan_277 ?_
            refine g_iconst hg dX12_plan_278 kI_1 ?_
            refine g_iadd hg dX12_plan_279 ?_
            refine g_istore (lv' := [(8, .int ((x6 + q274.1) + 1)), (0, rr E.1 194), (1, .int x1), (2, .int x2), (3, .int x3), (4, .int x4), (5, .int x5), (6, .int x6), (7, .int x7)]) hg dX12_plan_280 (by decide) rfl ?_
            refine g_iload_n hg dX12_plan_282 rfl 2 rfl ?_
            refine g_iconst hg dX12_plan_283 kI_2 ?_
            refine g_icmp_ne (tgt := 315) hg dX12_plan_284 (by decide) (fun c => ?_) (fun c => ?_)
            · replace h := itF c h
              refine g_sub (lv' := [(0, rr E.1 194), (1, .int x1), (2, .int x2), (3, .int x3), (4, .int x4), (5, .int x5), (6, .int x6), (7, .int x7), (8, .int ((x6 + q274.1) + 1))]) [1, 2, 3, 4, 5, 6, 7, 8, 0] rfl ?_
              exact lkX12_plan_315 hn hRf hg hr hk174 ih _ _ _ _ _ _ _ _ _ h
            · replace h := itT c h
              refine g_rload_n hg dX12_plan_287 rfl 1 rfl ?_
              refine g_iconst hg dX12_plan_288 kI_2 ?_
              refine g_iload hg dX12_plan_289 6 rfl ?_
              refine g_iload hg dX12_plan_291 8 rfl ?_
              refine g_iconst hg dX12_plan_293 kI_m1 ?_
              refine g_iload hg dX12_plan_294 0 rfl ?_
              refine g_rload_n hg dX12_plan_296 rfl 1 rfl ?_
              refine g_getR (r := 233) hg fl_X12_153 ly194 rfl (idb rfl rfl hn) (rfc hRf rfl rfl rfl rfl) (by decide) dX12_plan_297 ?_
              refine g_iload hg dX12_plan_300 6 rfl ?_
              obtain ⟨c302, h⟩ := ck_some h
              refine g_iald hg ly233 (idb rfl rfl hn) (inb_vp c302) dX12_plan_302 ?_
              refine g_rload_n hg dX12_plan_303 rfl 1 rfl ?_
              refine g_getR (r := 233) hg fl_X12_153 ly194 rfl (idb rfl rfl hn) (rfc hRf rfl rfl rfl rfl) (by decide) dX12_plan_304 ?_
              refine g_iload hg dX12_plan_307 8 rfl ?_
              obtain ⟨c309, h⟩ := ck_some h
              refine g_iald hg ly233 (idb rfl rfl hn) (inb_vp c309) dX12_plan_309 ?_
              refine g_iadd hg dX12_plan_310 ?_
              refine g_iload_n hg dX12_plan_311 rfl 3 rfl ?_
              obtain ⟨M312, e312, h⟩ := Option.bind_eq_some_iff.mp h
              refine g_callVv (As := [.int 2, .int x5, .int x7, .int (-1), .int ((x6 + q274.1) + 1), .int ((q274.2.1 233 x5.toNatClampNeg) + (q274.2.1 233 x7.toNatClampNeg)), .int x2]) (rest := []) hg (lkX12_better (by omega) hn hRf  e312) cv_X12_425 rfl ly194 (idb rfl rfl hn) rfl rfl (Nat.le_of_ble_eq_true rfl) ⟨Nat.le_refl _, Nat.le_refl _⟩ dX12_plan_312 ?_
              refine g_sub (lv' := [(0, rr E.1 194), (1, .int x1), (2, .int x2), (3, .int x3), (4, .int x4), (5, .int x5), (6, .int x6), (7, .int x7), (8, .int ((x6 + q274.1) + 1))]) [1, 2, 3, 4, 5, 6, 7, 8, 0] rfl ?_
              exact lkX12_plan_315 hn hRf hg hr hk174 ih _ _ _ _ _ _ _ _ _ h
          · replace h := itF c h
            refine g_goto (tgt := 420) hg dX12_plan_264 (by decide) ?_
            exact lkX12_plan_420 hn hRf hg hr hk174 ih _ _ _ _ _ _ _ _ h
theorem lkX12_plan_228 {g : Gm} {l0 : Launch} {E : En} {d n : Nat} {Rf : Nat → Nat → Nat} {ex : Bool} {kq : Nat × Nat} (hn : 238 ≤ n) (hRf : RfOk 194 238 kq Rf) (hg : Ok g l0 E cX12_plan RX12 10 (d + 6) 0 0) {q : Int32 × Mm} (hr : Ret g E 0 0 (some .int) ex n Rf (some (.int q.1)) q.2) {k174 : Int32 → Int32 → Int32 → Int32 → Int32 → Mm → Option (Int32 × Mm)} (hk174 : ∀ (x1 : Int32) (x2 : Int32) (x3 : Int32) (x4 : Int32) (x5 : Int32) (M : Mm), k174 x1 x2 x3 x4 x5 M = some q → WG g E 10 n Rf ex 0 0 174 [(0, rr E.1 194), (1, .int x1), (2, .int x2), (3, .int x3), (4, .int x4), (5, .int x5)] [] M) : ∀ (x1 : Int32) (x2 : Int32) (x3 : Int32) (x4 : Int32) (x5 : Int32) (x6 : Int32) (M : Mm), sX12_plan_228 k174 x1 x2 x3 x4 x5 x6 M = some q → WG g E 10 n Rf ex 0 0 228 [(0, rr E.1 194), (1, .int x1), (2, .int x2), (3, .int x3), (4, .int x4), (5, .int x5), (6, .int x6)] [] M := by
  intro x1 x2 x3 x4 x5 x6 M h
  unfold sX12_plan_228 at h
  refine g_iconst hg dX12_plan_228 kI_0 ?_
  refine g_istore (lv' := [(7, .int 0), (0, rr E.1 194), (1, .int x1), (2, .int x2), (3, .int x3), (4, .int x4), (5, .int x5), (6, .int x6)]) hg dX12_plan_229 (by decide) rfl ?_
  refine g_sub (lv' := [(0, rr E.1 194), (1, .int x1), (2, .int x2), (3, .int x3), (4, .int x4), (5, .int x5), (6, .int x6), (7, .int 0)]) [1, 2, 3, 4, 5, 6, 7, 0] rfl ?_
  exact lkX12_plan_231 hn hRf hg hr hk174 4096 _ _ _ _ _ _ _ _ h
theorem lkX12_plan_174 {g : Gm} {l0 : Launch} {E : En} {d n : Nat} {Rf : Nat → Nat → Nat} {ex : Bool} {kq : Nat × Nat} (hn : 238 ≤ n) (hRf : RfOk 194 238 kq Rf) (hg : Ok g l0 E cX12_plan RX12 10 (d + 6) 0 0) {q : Int32 × Mm} (hr : Ret g E 0 0 (some .int) ex n Rf (some (.int q.1)) q.2) : ∀ (F : Nat) (x1 : Int32) (x2 : Int32) (x3 : Int32) (x4 : Int32) (x5 : Int32) (M : Mm), sX12_plan_174 F x1 x2 x3 x4 x5 M = some q → WG g E 10 n Rf ex 0 0 174 [(0, rr E.1 194), (1, .int x1), (2, .int x2), (3, .int x3), (4, .int x4), (5, .int x5)] [] M := by
  intro F
  induction F with
  | zero =>
    intro x1 x2 x3 x4 x5 M h
    cases h
  | succ F ih =>
    intro x1 x2 x3 x4 x5 M h
    rw [sX12_plan_174] at h
    refine g_iload hg dX12_plan_174 5 rfl ?_
    refine g_iload hg dX12_plan_176 4 rfl ?_
    refine g_icmp_ge (tgt := 432) hg dX12_plan_178 (by decide) (fun c => ?_) (fun c => ?_)
    · replace h := itT c h
      refine g_rload_n hg dX12_plan_432 rfl 0 rfl ?_
      refine g_getI hg fl_X12_407 ly194 rfl (idb rfl rfl hn) dX12_plan_433 ?_
      replace h := Option.some.inj h
      subst h
      exact g_iret hg hr dX12_plan_436
    · replace h := itF c h
      refine g_rload_n hg dX12_plan_181 rfl 0 rfl ?_
      refine g_iload hg dX12_plan_182 5 rfl ?_
      obtain ⟨q184, e184, h⟩ := Option.bind_eq_some_iff.mp h
      refine g_callVi (As := [.int x5]) (rest := []) hg (lkX12_mayBore (by omega) hn hRf  e184) cv_X12_419 rfl ly194 (idb rfl rfl hn) rfl rfl (Nat.le_of_ble_eq_true rfl) ⟨Nat.le_refl _, Nat.le_refl _⟩ dX12_plan_184 ?_
      refine g_if_ne (tgt := 193) hg dX12_plan_187 (by decide) (fun c => ?_) (fun c => ?_)
      · replace h := itF c h
        refine g_rload_n hg dX12_plan_193 rfl 0 rfl ?_
        refine g_iload_n hg dX12_plan_194 rfl 3 rfl ?_
        refine g_iload hg dX12_plan_195 5 rfl ?_
        obtain ⟨q197, e197, h⟩ := Option.bind_eq_some_iff.mp h
        refine g_callVi (As := [.int x3, .int x5]) (rest := []) hg (lkX12_steps (by omega) hn hRf  e197) cv_X12_422 rfl ly194 (idb rfl rfl hn) rfl rfl (Nat.le_of_ble_eq_true rfl) ⟨Nat.le_refl _, Nat.le_refl _⟩ dX12_plan_197 ?_
        refine g_iconst hg dX12_plan_200 kI_1 ?_
        refine g_iadd hg dX12_plan_201 ?_
        refine g_istore (lv' := [(6, .int (q197.1 + 1)), (0, rr E.1 194), (1, .int x1), (2, .int x2), (3, .int x3), (4, .int x4), (5, .int x5)]) hg dX12_plan_202 (by decide) rfl ?_
        refine g_iload_n hg dX12_plan_204 rfl 2 rfl ?_
        refine g_iconst hg dX12_plan_205 kI_1 ?_
        refine g_icmp_ne (tgt := 228) hg dX12_plan_206 (by decide) (fun c => ?_) (fun c => ?_)
        · replace h := itF c h
          refine g_sub (lv' := [(0, rr E.1 194), (1, .int x1), (2, .int x2), (3, .int x3), (4, .int x4), (5, .int x5), (6, .int (q197.1 + 1))]) [1, 2, 3, 4, 5, 6, 0] rfl ?_
          exact lkX12_plan_228 hn hRf hg hr ih _ _ _ _ _ _ _ h
        · replace h := itT c h
          refine g_rload_n hg dX12_plan_209 rfl 1 rfl ?_
          refine g_iconst hg dX12_plan_210 kI_1 ?_
          refine g_iload hg dX12_plan_211 6 rfl ?_
          refine g_iconst hg dX12_plan_213 kI_m1 ?_
          refine g_iconst hg dX12_plan_214 kI_m1 ?_
          refine g_iload hg dX12_plan_215 0 rfl ?_
          refine g_rload_n hg dX12_plan_217 rfl 1 rfl ?_
          refine g_getR (r := 233) hg fl_X12_153 ly194 rfl (idb rfl rfl hn) (rfc hRf rfl rfl rfl rfl) (by decide) dX12_plan_218 ?_
          refine g_iload hg dX12_plan_221 6 rfl ?_
          obtain ⟨c223, h⟩ := ck_some h
          refine g_iald hg ly233 (idb rfl rfl hn) (inb_vp c223) dX12_plan_223 ?_
          refine g_iload_n hg dX12_plan_224 rfl 3 rfl ?_
          obtain ⟨M225, e225, h⟩ := Option.bind_eq_some_iff.mp h
          refine g_callVv (As := [.int 1, .int x5, .int (-1), .int (-1), .int (q197.1 + 1), .int (q197.2.1 233 x5.toNatClampNeg), .int x2]) (rest := []) hg (lkX12_better (by omega) hn hRf  e225) cv_X12_425 rfl ly194 (idb rfl rfl hn) rfl rfl (Nat.le_of_ble_eq_true rfl) ⟨Nat.le_refl _, Nat.le_refl _⟩ dX12_plan_225 ?_
          refine g_sub (lv' := [(0, rr E.1 194), (1, .int x1), (2, .int x2), (3, .int x3), (4, .int x4), (5, .int x5), (6, .int (q197.1 + 1))]) [1, 2, 3, 4, 5, 6, 0] rfl ?_
          exact lkX12_plan_228 hn hRf hg hr ih _ _ _ _ _ _ _ h
      · replace h := itT c h
        refine g_goto (tgt := 426) hg dX12_plan_190 (by decide) ?_
        exact lkX12_plan_426 hn hRf hg hr ih _ _ _ _ _ _ h
theorem lkX12_plan_155 {g : Gm} {l0 : Launch} {E : En} {d n : Nat} {Rf : Nat → Nat → Nat} {ex : Bool} {kq : Nat × Nat} (hn : 238 ≤ n) (hRf : RfOk 194 238 kq Rf) (hg : Ok g l0 E cX12_plan RX12 10 (d + 6) 0 0) {q : Int32 × Mm} (hr : Ret g E 0 0 (some .int) ex n Rf (some (.int q.1)) q.2) {k123 : Int32 → Int32 → Int32 → Int32 → Int32 → Mm → Option (Int32 × Mm)} (hk123 : ∀ (x1 : Int32) (x2 : Int32) (x3 : Int32) (x4 : Int32) (x5 : Int32) (M : Mm), k123 x1 x2 x3 x4 x5 M = some q → WG g E 10 n Rf ex 0 0 123 [(0, rr E.1 194), (1, .int x1), (2, .int x2), (3, .int x3), (4, .int x4), (5, .int x5)] [] M) : ∀ (x1 : Int32) (x2 : Int32) (x3 : Int32) (x4 : Int32) (x5 : Int32) (M : Mm), sX12_plan_155 k123 x1 x2 x3 x4 x5 M = some q → WG g E 10 n Rf ex 0 0 155 [(0, rr E.1 194), (1, .int x1), (2, .int x2), (3, .int x3), (4, .int x4), (5, .int x5)] [] M := by
  intro x1 x2 x3 x4 x5 M h
  unfold sX12_plan_155 at h
  refine g_inc (lv' := [(5, .int (x5 + 1)), (0, rr E.1 194), (1, .int x1), (2, .int x2), (3, .int x3), (4, .int x4)]) hg dX12_plan_155 kI_1 5 rfl (by decide) rfl ?_
  refine g_goto (tgt := 123) hg dX12_plan_158 (by decide) ?_
  refine g_sub (lv' := [(0, rr E.1 194), (1, .int x1), (2, .int x2), (3, .int x3), (4, .int x4), (5, .int (x5 + 1))]) [1, 2, 3, 4, 5, 0] rfl ?_
  exact hk123 _ _ _ _ _ _ h
theorem lkX12_plan_123 {g : Gm} {l0 : Launch} {E : En} {d n : Nat} {Rf : Nat → Nat → Nat} {ex : Bool} {kq : Nat × Nat} (hn : 238 ≤ n) (hRf : RfOk 194 238 kq Rf) (hg : Ok g l0 E cX12_plan RX12 10 (d + 6) 0 0) {q : Int32 × Mm} (hr : Ret g E 0 0 (some .int) ex n Rf (some (.int q.1)) q.2) : ∀ (F : Nat) (x1 : Int32) (x2 : Int32) (x3 : Int32) (x4 : Int32) (x5 : Int32) (M : Mm), sX12_plan_123 F x1 x2 x3 x4 x5 M = some q → WG g E 10 n Rf ex 0 0 123 [(0, rr E.1 194), (1, .int x1), (2, .int x2), (3, .int x3), (4, .int x4), (5, .int x5)] [] M := by
  intro F
  induction F with
  | zero =>
    intro x1 x2 x3 x4 x5 M h
    cases h
  | succ F ih =>
    intro x1 x2 x3 x4 x5 M h
    rw [sX12_plan_123] at h
    refine g_iload hg dX12_plan_123 5 rfl ?_
    refine g_rload_n hg dX12_plan_125 rfl 0 rfl ?_
    refine g_getI hg fl_X12_174 ly194 rfl (idb rfl rfl hn) dX12_plan_126 ?_
    refine g_icmp_ge (tgt := 161) hg dX12_plan_129 (by decide) (fun c => ?_) (fun c => ?_)
    · replace h := itT c h
      refine g_rload_n hg dX12_plan_161 rfl 0 rfl ?_
      refine g_iconst hg dX12_plan_162 kI_m1 ?_
      refine g_putI hg fp_X12_407 ly194 rfl (idb rfl rfl hn) dX12_plan_163 ?_
      refine g_rload_n hg dX12_plan_166 rfl 0 rfl ?_
      refine g_iconst hg dX12_plan_167 kI_0 ?_
      refine g_putI hg fp_X12_410 ly194 rfl (idb rfl rfl hn) dX12_plan_168 ?_
      refine g_iconst hg dX12_plan_171 kI_0 ?_
      refine g_istore (lv' := [(5, .int 0), (0, rr E.1 194), (1, .int x1), (2, .int x2), (3, .int x3), (4, .int x4)]) hg dX12_plan_172 (by decide) rfl ?_
      refine g_sub (lv' := [(0, rr E.1 194), (1, .int x1), (2, .int x2), (3, .int x3), (4, .int x4), (5, .int 0)]) [1, 2, 3, 4, 5, 0] rfl ?_
      exact lkX12_plan_174 hn hRf hg hr  4096 _ _ _ _ _ _ h
    · replace h := itF c h
      refine g_rload_n hg dX12_plan_132 rfl 0 rfl ?_
      refine g_getR (r := 227) hg fl_X12_135 ly194 rfl (idb rfl rfl hn) (rfc hRf rfl rfl rfl rfl) (by decide) dX12_plan_133 ?_
      refine g_iload hg dX12_plan_136 5 rfl ?_
      obtain ⟨c138, h⟩ := ck_some h
      refine g_iald hg ly227 (idb rfl rfl hn) (inb_vp c138) dX12_plan_138 ?_
      refine g_if_lt (tgt := 155) hg dX12_plan_139 (by decide) (fun c => ?_) (fun c => ?_)
      · replace h := itT c h
        exact lkX12_plan_155 hn hRf hg hr ih _ _ _ _ _ _ h
      · replace h := itF c h
        refine g_rload_n hg dX12_plan_142 rfl 0 rfl ?_
        refine g_getR (r := 234) hg fl_X12_156 ly194 rfl (idb rfl rfl hn) (rfc hRf rfl rfl rfl rfl) (by decide) dX12_plan_143 ?_
        refine g_rload_n hg dX12_plan_146 rfl 0 rfl ?_
        refine g_getR (r := 204) hg fl_X12_65 ly194 rfl (idb rfl rfl hn) (rfc hRf rfl rfl rfl rfl) (by decide) dX12_plan_147 ?_
        refine g_iload hg dX12_plan_150 5 rfl ?_
        obtain ⟨c152, h⟩ := ck_some h
        refine g_iald hg ly204 (idb rfl rfl hn) (inb_vp c152) dX12_plan_152 ?_
        refine g_iconst hg dX12_plan_153 kI_1 ?_
        obtain ⟨c154, h⟩ := ck_some h
        refine g_zast hg ly234 (idb rfl rfl hn) (inb_vp c154) rfl dX12_plan_154 ?_
        exact lkX12_plan_155 hn hRf hg hr ih _ _ _ _ _ _ h
theorem lkX12_plan_65 {g : Gm} {l0 : Launch} {E : En} {d n : Nat} {Rf : Nat → Nat → Nat} {ex : Bool} {kq : Nat × Nat} (hn : 238 ≤ n) (hRf : RfOk 194 238 kq Rf) (hg : Ok g l0 E cX12_plan RX12 10 (d + 6) 0 0) {q : Int32 × Mm} (hr : Ret g E 0 0 (some .int) ex n Rf (some (.int q.1)) q.2) : ∀ (F : Nat) (x1 : Int32) (x2 : Int32) (x3 : Int32) (x4 : Int32) (x5 : Int32) (M : Mm), sX12_plan_65 F x1 x2 x3 x4 x5 M = some q → WG g E 10 n Rf ex 0 0 65 [(0, rr E.1 194), (1, .int x1), (2, .int x2), (3, .int x3), (4, .int x4), (5, .int x5)] [] M := by
  intro F
  induction F with
  | zero =>
    intro x1 x2 x3 x4 x5 M h
    cases h
  | succ F ih =>
    intro x1 x2 x3 x4 x5 M h
    rw [sX12_plan_65] at h
    refine g_iload hg dX12_plan_65 5 rfl ?_
    refine g_iload hg dX12_plan_67 4 rfl ?_
    refine g_icmp_ge (tgt := 120) hg dX12_plan_69 (by decide) (fun c => ?_) (fun c => ?_)
    · replace h := itT c h
      refine g_iconst hg dX12_plan_120 kI_0 ?_
      refine g_istore (lv' := [(5, .int 0), (0, rr E.1 194), (1, .int x1), (2, .int x2), (3, .int x3), (4, .int x4)]) hg dX12_plan_121 (by decide) rfl ?_
      refine g_sub (lv' := [(0, rr E.1 194), (1, .int x1), (2, .int x2), (3, .int x3), (4, .int x4), (5, .int 0)]) [1, 2, 3, 4, 5, 0] rfl ?_
      exact lkX12_plan_123 hn hRf hg hr  4096 _ _ _ _ _ _ h
    · replace h := itF c h
      refine g_rload_n hg dX12_plan_72 rfl 0 rfl ?_
      refine g_getR (r := 234) hg fl_X12_156 ly194 rfl (idb rfl rfl hn) (rfc hRf rfl rfl rfl rfl) (by decide) dX12_plan_73 ?_
      refine g_iload hg dX12_plan_76 5 rfl ?_
      refine g_iconst hg dX12_plan_78 kI_0 ?_
      obtain ⟨c79, h⟩ := ck_some h
      refine g_zast hg ly234 (idb rfl rfl hn) (inb_vp c79) rfl dX12_plan_79 ?_
      refine g_rload_n hg dX12_plan_80 rfl 0 rfl ?_
      refine g_iload hg dX12_plan_81 5 rfl ?_
      refine g_iconst hg dX12_plan_83 kI_m1 ?_
      obtain ⟨M84, e84, h⟩ := Option.bind_eq_some_iff.mp h
      refine g_callVv (As := [.int x5, .int (-1)]) (rest := []) hg (lkX12_weigh (by omega) hn hRf  e84) cv_X12_389 rfl ly194 (idb rfl rfl hn) rfl rfl (Nat.le_of_ble_eq_true rfl) ⟨Nat.le_refl _, Nat.le_refl _⟩ dX12_plan_84 ?_
      refine g_rload_n hg dX12_plan_87 rfl 0 rfl ?_
      refine g_getR (r := 233) hg fl_X12_153 ly194 rfl (idb rfl rfl hn) (rfc hRf rfl rfl rfl rfl) (by decide) dX12_plan_88 ?_
      refine g_iload hg dX12_plan_91 5 rfl ?_
      refine g_sipush hg dX12_plan_93 kS_1000 ?_
      refine g_rload_n hg dX12_plan_96 rfl 0 rfl ?_
      refine g_rload_n hg dX12_plan_97 rfl 0 rfl ?_
      obtain ⟨q98, e98, h⟩ := Option.bind_eq_some_iff.mp h
      refine g_callVi (As := []) (rest := [rr E.1 194, .int 1000, .int x5, rr E.1 233]) hg (lkX12_bestHere (by omega) hn hRf  e98) cv_X12_395 rfl ly194 (idb rfl rfl hn) rfl rfl (Nat.le_of_ble_eq_true rfl) ⟨Nat.le_refl _, Nat.le_refl _⟩ dX12_plan_98 ?_
      obtain ⟨q101, e101, h⟩ := Option.bind_eq_some_iff.mp h
      refine g_callVi (As := [.int q98.1]) (rest := [.int 1000, .int x5, rr E.1 233]) hg (lkX12_part (by omega) hn hRf  e101) cv_X12_392 rfl ly194 (idb rfl rfl hn) rfl rfl (Nat.le_of_ble_eq_true rfl) ⟨Nat.le_refl _, Nat.le_refl _⟩ dX12_plan_101 ?_
      refine g_isub hg dX12_plan_104 ?_
      refine g_rload_n hg dX12_plan_105 rfl 0 rfl ?_
      refine g_getR (r := 199) hg fl_X12_29 ly194 rfl (idb rfl rfl hn) (rfc hRf rfl rfl rfl rfl) (by decide) dX12_plan_106 ?_
      refine g_iload hg dX12_plan_109 5 rfl ?_
      obtain ⟨c111, h⟩ := ck_some h
      refine g_iald hg ly199 (idb rfl rfl hn) (inb_vp c111) dX12_plan_111 ?_
      refine g_imul hg dX12_plan_112 ?_
      obtain ⟨c113, h⟩ := ck_some h
      refine g_iast hg ly233 (idb rfl rfl hn) (inb_vp c113) dX12_plan_113 ?_
      refine g_inc (lv' := [(5, .int (x5 + 1)), (0, rr E.1 194), (1, .int x1), (2, .int x2), (3, .int x3), (4, .int x4)]) hg dX12_plan_114 kI_1 5 rfl (by decide) rfl ?_
      refine g_goto (tgt := 65) hg dX12_plan_117 (by decide) ?_
      refine g_sub (lv' := [(0, rr E.1 194), (1, .int x1), (2, .int x2), (3, .int x3), (4, .int x4), (5, .int (x5 + 1))]) [1, 2, 3, 4, 5, 0] rfl ?_
      exact ih _ _ _ _ _ _ h
theorem lkX12_plan {l0 : Launch} {E : En} {d n : Nat} {Rf : Nat → Nat → Nat} {ex : Bool} {kq : Nat × Nat} (hd : 6 ≤ d) (hn : 238 ≤ n) (hRf : RfOk 194 238 kq Rf) {x1 : Int32} {x2 : Int32} {x3 : Int32} {M : Mm} {q : Int32 × Mm} (h : sX12_plan x1 x2 x3 M = some q) : Ct l0 E yX12_plan cX12_plan 10 (some .int) d 0 0 [rr E.1 194, .int x1, .int x2, .int x3] ex n Rf M n Rf (some (.int q.1)) q.2 := by
  obtain ⟨d, rfl⟩ := Nat.exists_eq_add_of_le' hd
  refine Ct.of pnX12 (Nat.le_of_ble_eq_true rfl) (fun g hg hr _ => ?_)
  replace hg : Ok g l0 E cX12_plan RX12 10 (d + 6) 0 0 := hg
  show WG g E 10 n Rf ex 0 0 0 [(0, rr E.1 194), (1, .int x1), (2, .int x2), (3, .int x3)] [] M
  unfold sX12_plan at h
  refine g_rload_n hg dX12_plan_0 rfl 0 rfl ?_
  refine g_iconst hg dX12_plan_1 kI_0 ?_
  refine g_putI hg fp_X12_171 ly194 rfl (idb rfl rfl hn) dX12_plan_2 ?_
  refine g_iload_n hg dX12_plan_5 rfl 1 rfl ?_
  refine g_iconst hg dX12_plan_6 kI_1 ?_
  refine g_icmp_lt (tgt := 41) hg dX12_plan_7 (by decide) (fun c => ?_) (fun c => ?_)
  · replace h := itT c h
    refine g_iconst hg dX12_plan_41 kI_m1 ?_
    replace h := Option.some.inj h
    subst h
    exact g_iret hg hr dX12_plan_42
  · replace h := itF c h
    refine g_iload_n hg dX12_plan_10 rfl 1 rfl ?_
    refine g_iconst hg dX12_plan_11 kI_3 ?_
    refine g_icmp_gt (tgt := 41) hg dX12_plan_12 (by decide) (fun c => ?_) (fun c => ?_)
    · replace h := itT c h
      refine g_iconst hg dX12_plan_41 kI_m1 ?_
      replace h := Option.some.inj h
      subst h
      exact g_iret hg hr dX12_plan_42
    · replace h := itF c h
      refine g_iload_n hg dX12_plan_15 rfl 2 rfl ?_
      refine g_iconst hg dX12_plan_16 kI_1 ?_
      refine g_icmp_lt (tgt := 41) hg dX12_plan_17 (by decide) (fun c => ?_) (fun c => ?_)
      · replace h := itT c h
        refine g_iconst hg dX12_plan_41 kI_m1 ?_
        replace h := Option.some.inj h
        subst h
        exact g_iret hg hr dX12_plan_42
      · replace h := itF c h
        refine g_iload_n hg dX12_plan_20 rfl 2 rfl ?_
        refine g_bipush hg dX12_plan_21 kB_60 ?_
        refine g_icmp_gt (tgt := 41) hg dX12_plan_23 (by decide) (fun c => ?_) (fun c => ?_)
        · replace h := itT c h
          refine g_iconst hg dX12_plan_41 kI_m1 ?_
          replace h := Option.some.inj h
          subst h
          exact g_iret hg hr dX12_plan_42
        · replace h := itF c h
          refine g_rload_n hg dX12_plan_26 rfl 0 rfl ?_
          refine g_iload_n hg dX12_plan_27 rfl 3 rfl ?_
          obtain ⟨q28, e28, h⟩ := Option.bind_eq_some_iff.mp h
          refine g_callVi (As := [.int x3]) (rest := []) hg (lkX12_isCell (by omega) hn hRf  e28) cv_X12_180 rfl ly194 (idb rfl rfl hn) rfl rfl (Nat.le_of_ble_eq_true rfl) ⟨Nat.le_refl _, Nat.le_refl _⟩ dX12_plan_28 ?_
          refine g_if_eq (tgt := 41) hg dX12_plan_31 (by decide) (fun c => ?_) (fun c => ?_)
          · replace h := itT c h
            refine g_iconst hg dX12_plan_41 kI_m1 ?_
            replace h := Option.some.inj h
            subst h
            exact g_iret hg hr dX12_plan_42
          · replace h := itF c h
            refine g_rload_n hg dX12_plan_34 rfl 0 rfl ?_
            refine g_getI hg fl_X12_330 ly194 rfl (idb rfl rfl hn) dX12_plan_35 ?_
            refine g_if_ne (tgt := 43) hg dX12_plan_38 (by decide) (fun c => ?_) (fun c => ?_)
            · replace h := itF c h
              refine g_rload_n hg dX12_plan_43 rfl 0 rfl ?_
              refine g_rload_n hg dX12_plan_44 rfl 0 rfl ?_
              refine g_getI hg fl_X12_174 ly194 rfl (idb rfl rfl hn) dX12_plan_45 ?_
              obtain ⟨M48, e48, h⟩ := Option.bind_eq_some_iff.mp h
              refine g_callVv (As := [.int (q28.2.1 194 26)]) (rest := []) hg (lkX12_know (by omega) hn hRf  e48) cv_X12_386 rfl ly194 (idb rfl rfl hn) rfl rfl (Nat.le_of_ble_eq_true rfl) ⟨Nat.le_refl _, Nat.le_refl _⟩ dX12_plan_48 ?_
              refine g_rload_n hg dX12_plan_51 rfl 0 rfl ?_
              refine g_getI hg fl_X12_13 ly194 rfl (idb rfl rfl hn) dX12_plan_52 ?_
              refine g_rload_n hg dX12_plan_55 rfl 0 rfl ?_
              refine g_getI hg fl_X12_17 ly194 rfl (idb rfl rfl hn) dX12_plan_56 ?_
              refine g_imul hg dX12_plan_59 ?_
              refine g_istore (lv' := [(4, .int ((M48.1 194 3) * (M48.1 194 4))), (0, rr E.1 194), (1, .int x1), (2, .int x2), (3, .int x3)]) hg dX12_plan_60 (by decide) rfl ?_
              refine g_iconst hg dX12_plan_62 kI_0 ?_
              refine g_istore (lv' := [(5, .int 0), (4, .int ((M48.1 194 3) * (M48.1 194 4))), (0, rr E.1 194), (1, .int x1), (2, .int x2), (3, .int x3)]) hg dX12_plan_63 (by decide) rfl ?_
              refine g_sub (lv' := [(0, rr E.1 194), (1, .int x1), (2, .int x2), (3, .int x3), (4, .int ((M48.1 194 3) * (M48.1 194 4))), (5, .int 0)]) [2, 3, 4, 5, 1, 0] rfl ?_
              exact lkX12_plan_65 hn hRf hg hr  4096 _ _ _ _ _ _ h
            · replace h := itT c h
              refine g_iconst hg dX12_plan_41 kI_m1 ?_
              replace h := Option.some.inj h
              subst h
              exact g_iret hg hr dX12_plan_42
theorem lkX12_planned_30 {g : Gm} {l0 : Launch} {E : En} {d n : Nat} {Rf : Nat → Nat → Nat} {ex : Bool} {kq : Nat × Nat} (hn : 238 ≤ n) (hRf : RfOk 194 238 kq Rf) (hg : Ok g l0 E cX12_planned RX12 3 (d + 1) 0 0) {q : Int32 × Mm} (hr : Ret g E 0 0 (some .int) ex n Rf (some (.int q.1)) q.2) : ∀  (M : Mm), sX12_planned_30  M = some q → WG g E 3 n Rf ex 0 0 30 [] [] M := by
  intro M h
  unfold sX12_planned_30 at h
  refine g_iconst hg dX12_planned_30 kI_m1 ?_
  refine g_goto (tgt := 56) hg dX12_planned_31 (by decide) ?_
  replace h := Option.some.inj h
  subst h
  exact g_iret hg hr dX12_planned_56
theorem lkX12_planned {l0 : Launch} {E : En} {d n : Nat} {Rf : Nat → Nat → Nat} {ex : Bool} {kq : Nat × Nat} (hd : 1 ≤ d) (hn : 238 ≤ n) (hRf : RfOk 194 238 kq Rf) {x1 : Int32} {x2 : Int32} {M : Mm} {q : Int32 × Mm} (h : sX12_planned x1 x2 M = some q) : Ct l0 E yX12_planned cX12_planned 3 (some .int) d 0 0 [rr E.1 194, .int x1, .int x2] ex n Rf M n Rf (some (.int q.1)) q.2 := by
  obtain ⟨d, rfl⟩ := Nat.exists_eq_add_of_le' hd
  refine Ct.of pnX12 (Nat.le_of_ble_eq_true rfl) (fun g hg hr _ => ?_)
  replace hg : Ok g l0 E cX12_planned RX12 3 (d + 1) 0 0 := hg
  show WG g E 3 n Rf ex 0 0 0 [(0, rr E.1 194), (1, .int x1), (2, .int x2)] [] M
  unfold sX12_planned at h
  refine g_rload_n hg dX12_planned_0 rfl 0 rfl ?_
  refine g_iconst hg dX12_planned_1 kI_0 ?_
  refine g_putI hg fp_X12_171 ly194 rfl (idb rfl rfl hn) dX12_planned_2 ?_
  refine g_rload_n hg dX12_planned_5 rfl 0 rfl ?_
  refine g_getI hg fl_X12_413 ly194 rfl (idb rfl rfl hn) dX12_planned_6 ?_
  refine g_if_ne (tgt := 14) hg dX12_planned_9 (by decide) (fun c => ?_) (fun c => ?_)
  · replace h := itF c h
    refine g_iload_n hg dX12_planned_14 rfl 1 rfl ?_
    refine g_if_ne (tgt := 43) hg dX12_planned_15 (by decide) (fun c => ?_) (fun c => ?_)
    · replace h := itF c h
      refine g_iload_n hg dX12_planned_43 rfl 1 rfl ?_
      refine g_iconst hg dX12_planned_44 kI_1 ?_
      refine g_icmp_ne (tgt := 55) hg dX12_planned_45 (by decide) (fun c => ?_) (fun c => ?_)
      · rw [if_neg c] at h
        refine g_iconst hg dX12_planned_55 kI_m1 ?_
        replace h := Option.some.inj h
        subst h
        exact g_iret hg hr dX12_planned_56
      · rw [if_pos c] at h
        refine g_rload_n hg dX12_planned_48 rfl 0 rfl ?_
        refine g_getI hg fl_X12_416 ly194 rfl (idb rfl rfl hn) dX12_planned_49 ?_
        refine g_goto (tgt := 56) hg dX12_planned_52 (by decide) ?_
        replace h := Option.some.inj h
        subst h
        exact g_iret hg hr dX12_planned_56
    · replace h := itT c h
      refine g_iload_n hg dX12_planned_18 rfl 2 rfl ?_
      refine g_if_lt (tgt := 30) hg dX12_planned_19 (by decide) (fun c => ?_) (fun c => ?_)
      · replace h := itT c h
        refine g_sub (lv' := []) [] rfl ?_
        exact lkX12_planned_30 hn hRf hg hr  _ h
      · replace h := itF c h
        refine g_iload_n hg dX12_planned_22 rfl 2 rfl ?_
        refine g_rload_n hg dX12_planned_23 rfl 0 rfl ?_
        refine g_getI hg fl_X12_413 ly194 rfl (idb rfl rfl hn) dX12_planned_24 ?_
        refine g_icmp_lt (tgt := 34) hg dX12_planned_27 (by decide) (fun c => ?_) (fun c => ?_)
        · replace h := itT c h
          refine g_rload_n hg dX12_planned_34 rfl 0 rfl ?_
          refine g_getR (r := 235) hg fl_X12_159 ly194 rfl (idb rfl rfl hn) (rfc hRf rfl rfl rfl rfl) (by decide) dX12_planned_35 ?_
          refine g_iload_n hg dX12_planned_38 rfl 2 rfl ?_
          obtain ⟨c39, h⟩ := ck_some h
          refine g_iald hg ly235 (idb rfl rfl hn) (inb_vp c39) dX12_planned_39 ?_
          refine g_goto (tgt := 56) hg dX12_planned_40 (by decide) ?_
          replace h := Option.some.inj h
          subst h
          exact g_iret hg hr dX12_planned_56
        · replace h := itF c h
          refine g_sub (lv' := []) [] rfl ?_
          exact lkX12_planned_30 hn hRf hg hr  _ h
  · replace h := itT c h
    refine g_iconst hg dX12_planned_12 kI_m1 ?_
    replace h := Option.some.inj h
    subst h
    exact g_iret hg hr dX12_planned_13
theorem lkX12_boresOf_47 {g : Gm} {l0 : Launch} {E : En} {d n : Nat} {Rf : Nat → Nat → Nat} {ex : Bool} {kq : Nat × Nat} (hn : 238 ≤ n) (hRf : RfOk 194 238 kq Rf) (hg : Ok g l0 E cX12_boresOf RX12 5 (d + 1) 0 0) {q : Int32 × Mm} (hr : Ret g E 0 0 (some .int) ex n Rf (some (.int q.1)) q.2) {k5 : Int32 → Int32 → Int32 → Int32 → Mm → Option (Int32 × Mm)} (hk5 : ∀ (x1 : Int32) (x2 : Int32) (x3 : Int32) (x4 : Int32) (M : Mm), k5 x1 x2 x3 x4 M = some q → WG g E 5 n Rf ex 0 0 5 [(0, rr E.1 194), (1, .int x1), (2, .int x2), (3, .int x3), (4, .int x4)] [] M) : ∀ (x1 : Int32) (x2 : Int32) (x4 : Int32) (s0 : Int32) (s1 : Int32) (M : Mm), sX12_boresOf_47 k5 x1 x2 x4 s0 s1 M = some q → WG g E 5 n Rf ex 0 0 47 [(0, rr E.1 194), (1, .int x1), (2, .int x2), (4, .int x4)] [.int s1, .int s0] M := by
  intro x1 x2 x4 s0 s1 M h
  unfold sX12_boresOf_47 at h
  refine g_iadd hg dX12_boresOf_47 ?_
  refine g_istore_n (lv' := [(3, .int (s0 + s1)), (0, rr E.1 194), (1, .int x1), (2, .int x2), (4, .int x4)]) hg dX12_boresOf_48 rfl (by decide) rfl ?_
  refine g_inc (lv' := [(4, .int (x4 + 1)), (3, .int (s0 + s1)), (0, rr E.1 194), (1, .int x1), (2, .int x2)]) hg dX12_boresOf_49 kI_1 4 rfl (by decide) rfl ?_
  refine g_goto (tgt := 5) hg dX12_boresOf_52 (by decide) ?_
  refine g_sub (lv' := [(0, rr E.1 194), (1, .int x1), (2, .int x2), (3, .int (s0 + s1)), (4, .int (x4 + 1))]) [2, 3, 4, 1, 0] rfl ?_
  exact hk5 _ _ _ _ _ h
theorem lkX12_boresOf_46 {g : Gm} {l0 : Launch} {E : En} {d n : Nat} {Rf : Nat → Nat → Nat} {ex : Bool} {kq : Nat × Nat} (hn : 238 ≤ n) (hRf : RfOk 194 238 kq Rf) (hg : Ok g l0 E cX12_boresOf RX12 5 (d + 1) 0 0) {q : Int32 × Mm} (hr : Ret g E 0 0 (some .int) ex n Rf (some (.int q.1)) q.2) {k5 : Int32 → Int32 → Int32 → Int32 → Mm → Option (Int32 × Mm)} (hk5 : ∀ (x1 : Int32) (x2 : Int32) (x3 : Int32) (x4 : Int32) (M : Mm), k5 x1 x2 x3 x4 M = some q → WG g E 5 n Rf ex 0 0 5 [(0, rr E.1 194), (1, .int x1), (2, .int x2), (3, .int x3), (4, .int x4)] [] M) : ∀ (x1 : Int32) (x2 : Int32) (x4 : Int32) (s0 : Int32) (M : Mm), sX12_boresOf_46 k5 x1 x2 x4 s0 M = some q → WG g E 5 n Rf ex 0 0 46 [(0, rr E.1 194), (1, .int x1), (2, .int x2), (4, .int x4)] [.int s0] M := by
  intro x1 x2 x4 s0 M h
  unfold sX12_boresOf_46 at h
  refine g_iconst hg dX12_boresOf_46 kI_0 ?_
  exact lkX12_boresOf_47 hn hRf hg hr hk5 _ _ _ _ _ _ h
theorem lkX12_boresOf_5 {g : Gm} {l0 : Launch} {E : En} {d n : Nat} {Rf : Nat → Nat → Nat} {ex : Bool} {kq : Nat × Nat} (hn : 238 ≤ n) (hRf : RfOk 194 238 kq Rf) (hg : Ok g l0 E cX12_boresOf RX12 5 (d + 1) 0 0) {q : Int32 × Mm} (hr : Ret g E 0 0 (some .int) ex n Rf (some (.int q.1)) q.2) : ∀ (F : Nat) (x1 : Int32) (x2 : Int32) (x3 : Int32) (x4 : Int32) (M : Mm), sX12_boresOf_5 F x1 x2 x3 x4 M = some q → WG g E 5 n Rf ex 0 0 5 [(0, rr E.1 194), (1, .int x1), (2, .int x2), (3, .int x3), (4, .int x4)] [] M := by
  intro F
  induction F with
  | zero =>
    intro x1 x2 x3 x4 M h
    cases h
  | succ F ih =>
    intro x1 x2 x3 x4 M h
    rw [sX12_boresOf_5] at h
    refine g_iload hg dX12_boresOf_5 4 rfl ?_
    refine g_rload_n hg dX12_boresOf_7 rfl 0 rfl ?_
    refine g_getI hg fl_X12_174 ly194 rfl (idb rfl rfl hn) dX12_boresOf_8 ?_
    refine g_icmp_ge (tgt := 55) hg dX12_boresOf_11 (by decide) (fun c => ?_) (fun c => ?_)
    · replace h := itT c h
      refine g_iload_n hg dX12_boresOf_55 rfl 3 rfl ?_
      replace h := Option.some.inj h
      subst h
      exact g_iret hg hr dX12_boresOf_56
    · replace h := itF c h
      refine g_iload_n hg dX12_boresOf_14 rfl 3 rfl ?_
      refine g_rload_n hg dX12_boresOf_15 rfl 0 rfl ?_
      refine g_getR (r := 227) hg fl_X12_135 ly194 rfl (idb rfl rfl hn) (rfc hRf rfl rfl rfl rfl) (by decide) dX12_boresOf_16 ?_
      refine g_iload hg dX12_boresOf_19 4 rfl ?_
      obtain ⟨c21, h⟩ := ck_some h
      refine g_iald hg ly227 (idb rfl rfl hn) (inb_vp c21) dX12_boresOf_21 ?_
      refine g_iload_n hg dX12_boresOf_22 rfl 2 rfl ?_
      refine g_icmp_ne (tgt := 46) hg dX12_boresOf_23 (by decide) (fun c => ?_) (fun c => ?_)
      · replace h := itF c h
        refine g_sub (lv' := [(0, rr E.1 194), (1, .int x1), (2, .int x2), (4, .int x4)]) [0, 1, 2, 4] rfl ?_
        exact lkX12_boresOf_46 hn hRf hg hr ih _ _ _ _ _ h
      · replace h := itT c h
        refine g_rload_n hg dX12_boresOf_26 rfl 0 rfl ?_
        refine g_getR (r := 200) hg fl_X12_32 ly194 rfl (idb rfl rfl hn) (rfc hRf rfl rfl rfl rfl) (by decide) dX12_boresOf_27 ?_
        refine g_rload_n hg dX12_boresOf_30 rfl 0 rfl ?_
        refine g_getR (r := 204) hg fl_X12_65 ly194 rfl (idb rfl rfl hn) (rfc hRf rfl rfl rfl rfl) (by decide) dX12_boresOf_31 ?_
        refine g_iload hg dX12_boresOf_34 4 rfl ?_
        obtain ⟨c36, h⟩ := ck_some h
        refine g_iald hg ly204 (idb rfl rfl hn) (inb_vp c36) dX12_boresOf_36 ?_
        obtain ⟨c37, h⟩ := ck_some h
        refine g_iald hg ly200 (idb rfl rfl hn) (inb_vp c37) dX12_boresOf_37 ?_
        refine g_iload_n hg dX12_boresOf_38 rfl 1 rfl ?_
        refine g_icmp_ne (tgt := 46) hg dX12_boresOf_39 (by decide) (fun c => ?_) (fun c => ?_)
        · replace h := itF c h
          refine g_sub (lv' := [(0, rr E.1 194), (1, .int x1), (2, .int x2), (4, .int x4)]) [0, 1, 2, 4] rfl ?_
          exact lkX12_boresOf_46 hn hRf hg hr ih _ _ _ _ _ h
        · replace h := itT c h
          refine g_iconst hg dX12_boresOf_42 kI_1 ?_
          refine g_goto (tgt := 47) hg dX12_boresOf_43 (by decide) ?_
          refine g_sub (lv' := [(0, rr E.1 194), (1, .int x1), (2, .int x2), (4, .int x4)]) [0, 1, 2, 4] rfl ?_
          exact lkX12_boresOf_47 hn hRf hg hr ih _ _ _ _ _ _ h
theorem lkX12_boresOf {l0 : Launch} {E : En} {d n : Nat} {Rf : Nat → Nat → Nat} {ex : Bool} {kq : Nat × Nat} (hd : 1 ≤ d) (hn : 238 ≤ n) (hRf : RfOk 194 238 kq Rf) {x1 : Int32} {x2 : Int32} {M : Mm} {q : Int32 × Mm} (h : sX12_boresOf x1 x2 M = some q) : Ct l0 E yX12_boresOf cX12_boresOf 5 (some .int) d 0 0 [rr E.1 194, .int x1, .int x2] ex n Rf M n Rf (some (.int q.1)) q.2 := by
  obtain ⟨d, rfl⟩ := Nat.exists_eq_add_of_le' hd
  refine Ct.of pnX12 (Nat.le_of_ble_eq_true rfl) (fun g hg hr _ => ?_)
  replace hg : Ok g l0 E cX12_boresOf RX12 5 (d + 1) 0 0 := hg
  show WG g E 5 n Rf ex 0 0 0 [(0, rr E.1 194), (1, .int x1), (2, .int x2)] [] M
  unfold sX12_boresOf at h
  refine g_iconst hg dX12_boresOf_0 kI_0 ?_
  refine g_istore_n (lv' := [(3, .int 0), (0, rr E.1 194), (1, .int x1), (2, .int x2)]) hg dX12_boresOf_1 rfl (by decide) rfl ?_
  refine g_iconst hg dX12_boresOf_2 kI_0 ?_
  refine g_istore (lv' := [(4, .int 0), (3, .int 0), (0, rr E.1 194), (1, .int x1), (2, .int x2)]) hg dX12_boresOf_3 (by decide) rfl ?_
  refine g_sub (lv' := [(0, rr E.1 194), (1, .int x1), (2, .int x2), (3, .int 0), (4, .int 0)]) [2, 3, 4, 1, 0] rfl ?_
  exact lkX12_boresOf_5 hn hRf hg hr  4096 _ _ _ _ _ h
theorem lkX12_turnedTo_42 {g : Gm} {l0 : Launch} {E : En} {d n : Nat} {Rf : Nat → Nat → Nat} {ex : Bool} {kq : Nat × Nat} (hn : 238 ≤ n) (hRf : RfOk 194 238 kq Rf) (hg : Ok g l0 E cX12_turnedTo RX12 5 (d + 2) 0 0) {q : Int32 × Mm} (hr : Ret g E 0 0 (some .int) ex n Rf (some (.int q.1)) q.2) {k4 : Int32 → Int32 → Int32 → Mm → Option (Int32 × Mm)} (hk4 : ∀ (x1 : Int32) (x2 : Int32) (x3 : Int32) (M : Mm), k4 x1 x2 x3 M = some q → WG g E 5 n Rf ex 0 0 4 [(0, rr E.1 194), (1, .int x1), (2, .int x2), (3, .int x3)] [] M) : ∀ (x1 : Int32) (x2 : Int32) (x3 : Int32) (M : Mm), sX12_turnedTo_42 k4 x1 x2 x3 M = some q → WG g E 5 n Rf ex 0 0 42 [(0, rr E.1 194), (1, .int x1), (2, .int x2), (3, .int x3)] [] M := by
  intro x1 x2 x3 M h
  unfold sX12_turnedTo_42 at h
  refine g_inc (lv' := [(3, .int (x3 + 1)), (0, rr E.1 194), (1, .int x1), (2, .int x2)]) hg dX12_turnedTo_42 kI_1 3 rfl (by decide) rfl ?_
  refine g_goto (tgt := 4) hg dX12_turnedTo_45 (by decide) ?_
  refine g_sub (lv' := [(0, rr E.1 194), (1, .int x1), (2, .int x2), (3, .int (x3 + 1))]) [1, 2, 3, 0] rfl ?_
  exact hk4 _ _ _ _ h
theorem lkX12_turnedTo_40 {g : Gm} {l0 : Launch} {E : En} {d n : Nat} {Rf : Nat → Nat → Nat} {ex : Bool} {kq : Nat × Nat} (hn : 238 ≤ n) (hRf : RfOk 194 238 kq Rf) (hg : Ok g l0 E cX12_turnedTo RX12 5 (d + 2) 0 0) {q : Int32 × Mm} (hr : Ret g E 0 0 (some .int) ex n Rf (some (.int q.1)) q.2) {k4 : Int32 → Int32 → Int32 → Mm → Option (Int32 × Mm)} (hk4 : ∀ (x1 : Int32) (x2 : Int32) (x3 : Int32) (M : Mm), k4 x1 x2 x3 M = some q → WG g E 5 n Rf ex 0 0 4 [(0, rr E.1 194), (1, .int x1), (2, .int x2), (3, .int x3)] [] M) : ∀ (x1 : Int32) (x3 : Int32) (M : Mm), sX12_turnedTo_40 k4 x1 x3 M = some q → WG g E 5 n Rf ex 0 0 40 [(0, rr E.1 194), (1, .int x1), (3, .int x3)] [] M := by
  intro x1 x3 M h
  unfold sX12_turnedTo_40 at h
  refine g_iload_n hg dX12_turnedTo_40 rfl 2 rfl ?_
  refine g_istore_n (lv' := [(2, .int x3), (0, rr E.1 194), (1, .int x1), (3, .int x3)]) hg dX12_turnedTo_41 rfl (by decide) rfl ?_
  refine g_sub (lv' := [(0, rr E.1 194), (1, .int x1), (2, .int x3), (3, .int x3)]) [1, 2, 0, 3] rfl ?_
  exact lkX12_turnedTo_42 hn hRf hg hr hk4 _ _ _ _ h
theorem lkX12_turnedTo_4 {g : Gm} {l0 : Launch} {E : En} {d n : Nat} {Rf : Nat → Nat → Nat} {ex : Bool} {kq : Nat × Nat} (hn : 238 ≤ n) (hRf : RfOk 194 238 kq Rf) (hg : Ok g l0 E cX12_turnedTo RX12 5 (d + 2) 0 0) {q : Int32 × Mm} (hr : Ret g E 0 0 (some .int) ex n Rf (some (.int q.1)) q.2) : ∀ (F : Nat) (x1 : Int32) (x2 : Int32) (x3 : Int32) (M : Mm), sX12_turnedTo_4 F x1 x2 x3 M = some q → WG g E 5 n Rf ex 0 0 4 [(0, rr E.1 194), (1, .int x1), (2, .int x2), (3, .int x3)] [] M := by
  intro F
  induction F with
  | zero =>
    intro x1 x2 x3 M h
    cases h
  | succ F ih =>
    intro x1 x2 x3 M h
    rw [sX12_turnedTo_4] at h
    refine g_iload_n hg dX12_turnedTo_4 rfl 3 rfl ?_
    refine g_rload_n hg dX12_turnedTo_5 rfl 0 rfl ?_
    refine g_getI hg fl_X12_330 ly194 rfl (idb rfl rfl hn) dX12_turnedTo_6 ?_
    refine g_icmp_ge (tgt := 48) hg dX12_turnedTo_9 (by decide) (fun c => ?_) (fun c => ?_)
    · replace h := itT c h
      refine g_iload_n hg dX12_turnedTo_48 rfl 2 rfl ?_
      replace h := Option.some.inj h
      subst h
      exact g_iret hg hr dX12_turnedTo_49
    · replace h := itF c h
      refine g_rload_n hg dX12_turnedTo_12 rfl 0 rfl ?_
      refine g_iload_n hg dX12_turnedTo_13 rfl 1 rfl ?_
      refine g_iload_n hg dX12_turnedTo_14 rfl 3 rfl ?_
      obtain ⟨q15, e15, h⟩ := Option.bind_eq_some_iff.mp h
      refine g_callVi (As := [.int x1, .int x3]) (rest := []) hg (lkX12_boresOf (by omega) hn hRf  e15) cv_X12_429 rfl ly194 (idb rfl rfl hn) rfl rfl (Nat.le_of_ble_eq_true rfl) ⟨Nat.le_refl _, Nat.le_refl _⟩ dX12_turnedTo_15 ?_
      refine g_istore (lv' := [(4, .int q15.1), (0, rr E.1 194), (1, .int x1), (2, .int x2), (3, .int x3)]) hg dX12_turnedTo_18 (by decide) rfl ?_
      refine g_iload hg dX12_turnedTo_20 0 rfl ?_
      refine g_if_le (tgt := 42) hg dX12_turnedTo_22 (by decide) (fun c => ?_) (fun c => ?_)
      · replace h := itT c h
        refine g_sub (lv' := [(0, rr E.1 194), (1, .int x1), (2, .int x2), (3, .int x3)]) [1, 2, 3, 4] rfl ?_
        exact lkX12_turnedTo_42 hn hRf hg hr ih _ _ _ _ h
      · replace h := itF c h
        refine g_iload_n hg dX12_turnedTo_25 rfl 3 rfl ?_
        refine g_if_lt (tgt := 40) hg dX12_turnedTo_26 (by decide) (fun c => ?_) (fun c => ?_)
        · replace h := itT c h
          refine g_sub (lv' := [(0, rr E.1 194), (1, .int x1), (3, .int x3)]) [1, 2, 4] rfl ?_
          exact lkX12_turnedTo_40 hn hRf hg hr ih _ _ _ h
        · replace h := itF c h
          refine g_iload hg dX12_turnedTo_29 0 rfl ?_
          refine g_rload_n hg dX12_turnedTo_31 rfl 1 rfl ?_
          refine g_iload_n hg dX12_turnedTo_32 rfl 2 rfl ?_
          refine g_iload_n hg dX12_turnedTo_33 rfl 3 rfl ?_
          obtain ⟨q34, e34, h⟩ := Option.bind_eq_some_iff.mp h
          refine g_callVi (As := [.int x1, .int x2]) (rest := [.int q15.1]) hg (lkX12_boresOf (by omega) hn hRf  e34) cv_X12_429 rfl ly194 (idb rfl rfl hn) rfl rfl (Nat.le_of_ble_eq_true rfl) ⟨Nat.le_refl _, Nat.le_refl _⟩ dX12_turnedTo_34 ?_
          refine g_icmp_le (tgt := 42) hg dX12_turnedTo_37 (by decide) (fun c => ?_) (fun c => ?_)
          · replace h := itT c h
            refine g_sub (lv' := [(0, rr E.1 194), (1, .int x1), (2, .int x2), (3, .int x3)]) [1, 2, 3, 4] rfl ?_
            exact lkX12_turnedTo_42 hn hRf hg hr ih _ _ _ _ h
          · replace h := itF c h
            refine g_sub (lv' := [(0, rr E.1 194), (1, .int x1), (3, .int x3)]) [1, 2, 4] rfl ?_
            exact lkX12_turnedTo_40 hn hRf hg hr ih _ _ _ h
theorem lkX12_turnedTo {l0 : Launch} {E : En} {d n : Nat} {Rf : Nat → Nat → Nat} {ex : Bool} {kq : Nat × Nat} (hd : 2 ≤ d) (hn : 238 ≤ n) (hRf : RfOk 194 238 kq Rf) {x1 : Int32} {M : Mm} {q : Int32 × Mm} (h : sX12_turnedTo x1 M = some q) : Ct l0 E yX12_turnedTo cX12_turnedTo 5 (some .int) d 0 0 [rr E.1 194, .int x1] ex n Rf M n Rf (some (.int q.1)) q.2 := by
  obtain ⟨d, rfl⟩ := Nat.exists_eq_add_of_le' hd
  refine Ct.of pnX12 (Nat.le_of_ble_eq_true rfl) (fun g hg hr _ => ?_)
  replace hg : Ok g l0 E cX12_turnedTo RX12 5 (d + 2) 0 0 := hg
  show WG g E 5 n Rf ex 0 0 0 [(0, rr E.1 194), (1, .int x1)] [] M
  unfold sX12_turnedTo at h
  refine g_iconst hg dX12_turnedTo_0 kI_m1 ?_
  refine g_istore_n (lv' := [(2, .int (-1)), (0, rr E.1 194), (1, .int x1)]) hg dX12_turnedTo_1 rfl (by decide) rfl ?_
  refine g_iconst hg dX12_turnedTo_2 kI_0 ?_
  refine g_istore_n (lv' := [(3, .int 0), (2, .int (-1)), (0, rr E.1 194), (1, .int x1)]) hg dX12_turnedTo_3 rfl (by decide) rfl ?_
  refine g_sub (lv' := [(0, rr E.1 194), (1, .int x1), (2, .int (-1)), (3, .int 0)]) [2, 3, 1, 0] rfl ?_
  exact lkX12_turnedTo_4 hn hRf hg hr  4096 _ _ _ _ h
theorem lkX12_turned {l0 : Launch} {E : En} {d n : Nat} {Rf : Nat → Nat → Nat} {ex : Bool} {kq : Nat × Nat} (hd : 6 ≤ d) (hn : 238 ≤ n) (hRf : RfOk 194 238 kq Rf) {x1 : Int32} {x2 : Int32} {M : Mm} {q : Int32 × Mm} (h : sX12_turned x1 x2 M = some q) : Ct l0 E yX12_turned cX12_turned 3 (some .int) d 0 0 [rr E.1 194, .int x1, .int x2] ex n Rf M n Rf (some (.int q.1)) q.2 := by
  obtain ⟨d, rfl⟩ := Nat.exists_eq_add_of_le' hd
  refine Ct.of pnX12 (Nat.le_of_ble_eq_true rfl) (fun g hg hr _ => ?_)
  replace hg : Ok g l0 E cX12_turned RX12 3 (d + 6) 0 0 := hg
  show WG g E 3 n Rf ex 0 0 0 [(0, rr E.1 194), (1, .int x1), (2, .int x2)] [] M
  unfold sX12_turned at h
  refine g_rload_n hg dX12_turned_0 rfl 0 rfl ?_
  refine g_iconst hg dX12_turned_1 kI_0 ?_
  refine g_putI hg fp_X12_171 ly194 rfl (idb rfl rfl hn) dX12_turned_2 ?_
  refine g_iload_n hg dX12_turned_5 rfl 1 rfl ?_
  refine g_if_lt (tgt := 24) hg dX12_turned_6 (by decide) (fun c => ?_) (fun c => ?_)
  · replace h := itT c h
    refine g_bipush hg dX12_turned_24 kB_m2 ?_
    replace h := Option.some.inj h
    subst h
    exact g_iret hg hr dX12_turned_26
  · replace h := itF c h
    refine g_iload_n hg dX12_turned_9 rfl 1 rfl ?_
    refine g_iconst hg dX12_turned_10 kI_5 ?_
    refine g_icmp_gt (tgt := 24) hg dX12_turned_11 (by decide) (fun c => ?_) (fun c => ?_)
    · replace h := itT c h
      refine g_bipush hg dX12_turned_24 kB_m2 ?_
      replace h := Option.some.inj h
      subst h
      exact g_iret hg hr dX12_turned_26
    · replace h := itF c h
      refine g_iload_n hg dX12_turned_14 rfl 2 rfl ?_
      refine g_if_lt (tgt := 24) hg dX12_turned_15 (by decide) (fun c => ?_) (fun c => ?_)
      · replace h := itT c h
        refine g_bipush hg dX12_turned_24 kB_m2 ?_
        replace h := Option.some.inj h
        subst h
        exact g_iret hg hr dX12_turned_26
      · replace h := itF c h
        refine g_iload_n hg dX12_turned_18 rfl 2 rfl ?_
        refine g_bipush hg dX12_turned_19 kB_8 ?_
        refine g_icmp_le (tgt := 27) hg dX12_turned_21 (by decide) (fun c => ?_) (fun c => ?_)
        · replace h := itT c h
          refine g_rload_n hg dX12_turned_27 rfl 0 rfl ?_
          refine g_rload_n hg dX12_turned_28 rfl 0 rfl ?_
          refine g_getI hg fl_X12_174 ly194 rfl (idb rfl rfl hn) dX12_turned_29 ?_
          obtain ⟨M32, e32, h⟩ := Option.bind_eq_some_iff.mp h
          refine g_callVv (As := [.int ((sI M 194 2 0).1 194 26)]) (rest := []) hg (lkX12_know (by omega) hn hRf  e32) cv_X12_386 rfl ly194 (idb rfl rfl hn) rfl rfl (Nat.le_of_ble_eq_true rfl) ⟨Nat.le_refl _, Nat.le_refl _⟩ dX12_turned_32 ?_
          refine g_iload_n hg dX12_turned_35 rfl 2 rfl ?_
          refine g_bipush hg dX12_turned_36 kB_8 ?_
          refine g_icmp_ne (tgt := 49) hg dX12_turned_38 (by decide) (fun c => ?_) (fun c => ?_)
          · replace h := itF c h
            refine g_iload_n hg dX12_turned_49 rfl 2 rfl ?_
            refine g_rload_n hg dX12_turned_50 rfl 0 rfl ?_
            refine g_getI hg fl_X12_330 ly194 rfl (idb rfl rfl hn) dX12_turned_51 ?_
            refine g_icmp_ge (tgt := 66) hg dX12_turned_54 (by decide) (fun c => ?_) (fun c => ?_)
            · replace h := itT c h
              refine g_iconst hg dX12_turned_66 kI_0 ?_
              replace h := Option.some.inj h
              subst h
              exact g_iret hg hr dX12_turned_67
            · replace h := itF c h
              refine g_rload_n hg dX12_turned_57 rfl 0 rfl ?_
              refine g_iload_n hg dX12_turned_58 rfl 1 rfl ?_
              refine g_iload_n hg dX12_turned_59 rfl 2 rfl ?_
              obtain ⟨q60, e60, h⟩ := Option.bind_eq_some_iff.mp h
              refine g_callVi (As := [.int x1, .int x2]) (rest := []) hg (lkX12_boresOf (by omega) hn hRf  e60) cv_X12_429 rfl ly194 (idb rfl rfl hn) rfl rfl (Nat.le_of_ble_eq_true rfl) ⟨Nat.le_refl _, Nat.le_refl _⟩ dX12_turned_60 ?_
              refine g_goto (tgt := 67) hg dX12_turned_63 (by decide) ?_
              replace h := Option.some.inj h
              subst h
              exact g_iret hg hr dX12_turned_67
          · replace h := itT c h
            refine g_rload_n hg dX12_turned_41 rfl 0 rfl ?_
            refine g_iload_n hg dX12_turned_42 rfl 1 rfl ?_
            obtain ⟨q43, e43, h⟩ := Option.bind_eq_some_iff.mp h
            refine g_callVi (As := [.int x1]) (rest := []) hg (lkX12_turnedTo (by omega) hn hRf  e43) cv_X12_432 rfl ly194 (idb rfl rfl hn) rfl rfl (Nat.le_of_ble_eq_true rfl) ⟨Nat.le_refl _, Nat.le_refl _⟩ dX12_turned_43 ?_
            refine g_goto (tgt := 67) hg dX12_turned_46 (by decide) ?_
            replace h := Option.some.inj h
            subst h
            exact g_iret hg hr dX12_turned_67
        · replace h := itF c h
          refine g_bipush hg dX12_turned_24 kB_m2 ?_
          replace h := Option.some.inj h
          subst h
          exact g_iret hg hr dX12_turned_26
theorem lkX12_turnedAt {l0 : Launch} {E : En} {d n : Nat} {Rf : Nat → Nat → Nat} {ex : Bool} {kq : Nat × Nat} (hd : 3 ≤ d) (hn : 238 ≤ n) (hRf : RfOk 194 238 kq Rf) {x1 : Int32} {M : Mm} {q : Int32 × Mm} (h : sX12_turnedAt x1 M = some q) : Ct l0 E yX12_turnedAt cX12_turnedAt 2 (some .int) d 0 0 [rr E.1 194, .int x1] ex n Rf M n Rf (some (.int q.1)) q.2 := by
  obtain ⟨d, rfl⟩ := Nat.exists_eq_add_of_le' hd
  refine Ct.of pnX12 (Nat.le_of_ble_eq_true rfl) (fun g hg hr _ => ?_)
  replace hg : Ok g l0 E cX12_turnedAt RX12 2 (d + 3) 0 0 := hg
  show WG g E 2 n Rf ex 0 0 0 [(0, rr E.1 194), (1, .int x1)] [] M
  unfold sX12_turnedAt at h
  refine g_rload_n hg dX12_turnedAt_0 rfl 0 rfl ?_
  refine g_getR (r := 200) hg fl_X12_32 ly194 rfl (idb rfl rfl hn) (rfc hRf rfl rfl rfl rfl) (by decide) dX12_turnedAt_1 ?_
  refine g_iload_n hg dX12_turnedAt_4 rfl 1 rfl ?_
  obtain ⟨c5, h⟩ := ck_some h
  refine g_iald hg ly200 (idb rfl rfl hn) (inb_vp c5) dX12_turnedAt_5 ?_
  refine g_if_ge (tgt := 13) hg dX12_turnedAt_6 (by decide) (fun c => ?_) (fun c => ?_)
  · replace h := itT c h
    refine g_rload_n hg dX12_turnedAt_13 rfl 0 rfl ?_
    refine g_rload_n hg dX12_turnedAt_14 rfl 0 rfl ?_
    refine g_getR (r := 200) hg fl_X12_32 ly194 rfl (idb rfl rfl hn) (rfc hRf rfl rfl rfl rfl) (by decide) dX12_turnedAt_15 ?_
    refine g_iload_n hg dX12_turnedAt_18 rfl 1 rfl ?_
    obtain ⟨c19, h⟩ := ck_some h
    refine g_iald hg ly200 (idb rfl rfl hn) (inb_vp c19) dX12_turnedAt_19 ?_
    obtain ⟨q20, e20, h⟩ := Option.bind_eq_some_iff.mp h
    refine g_callVi (As := [.int (M.1 200 x1.toNatClampNeg)]) (rest := []) hg (lkX12_turnedTo (by omega) hn hRf  e20) cv_X12_432 rfl ly194 (idb rfl rfl hn) rfl rfl (Nat.le_of_ble_eq_true rfl) ⟨Nat.le_refl _, Nat.le_refl _⟩ dX12_turnedAt_20 ?_
    replace h := Option.some.inj h
    subst h
    exact g_iret hg hr dX12_turnedAt_23
  · replace h := itF c h
    refine g_iconst hg dX12_turnedAt_9 kI_m1 ?_
    refine g_goto (tgt := 23) hg dX12_turnedAt_10 (by decide) ?_
    replace h := Option.some.inj h
    subst h
    exact g_iret hg hr dX12_turnedAt_23
theorem lkX12_bestAt {l0 : Launch} {E : En} {d n : Nat} {Rf : Nat → Nat → Nat} {ex : Bool} {kq : Nat × Nat} (hd : 6 ≤ d) (hn : 238 ≤ n) (hRf : RfOk 194 238 kq Rf) {x1 : Int32} {M : Mm} {q : Int32 × Mm} (h : sX12_bestAt x1 M = some q) : Ct l0 E yX12_bestAt cX12_bestAt 2 (some .int) d 0 0 [rr E.1 194, .int x1] ex n Rf M n Rf (some (.int q.1)) q.2 := by
  obtain ⟨d, rfl⟩ := Nat.exists_eq_add_of_le' hd
  refine Ct.of pnX12 (Nat.le_of_ble_eq_true rfl) (fun g hg hr _ => ?_)
  replace hg : Ok g l0 E cX12_bestAt RX12 2 (d + 6) 0 0 := hg
  show WG g E 2 n Rf ex 0 0 0 [(0, rr E.1 194), (1, .int x1)] [] M
  unfold sX12_bestAt at h
  refine g_rload_n hg dX12_bestAt_0 rfl 0 rfl ?_
  refine g_iload_n hg dX12_bestAt_1 rfl 1 rfl ?_
  refine g_iconst hg dX12_bestAt_2 kI_m1 ?_
  obtain ⟨M3, e3, h⟩ := Option.bind_eq_some_iff.mp h
  refine g_callVv (As := [.int x1, .int (-1)]) (rest := []) hg (lkX12_weigh (by omega) hn hRf  e3) cv_X12_389 rfl ly194 (idb rfl rfl hn) rfl rfl (Nat.le_of_ble_eq_true rfl) ⟨Nat.le_refl _, Nat.le_refl _⟩ dX12_bestAt_3 ?_
  refine g_rload_n hg dX12_bestAt_6 rfl 0 rfl ?_
  obtain ⟨q7, e7, h⟩ := Option.bind_eq_some_iff.mp h
  refine g_callVi (As := []) (rest := []) hg (lkX12_bestHere (by omega) hn hRf  e7) cv_X12_395 rfl ly194 (idb rfl rfl hn) rfl rfl (Nat.le_of_ble_eq_true rfl) ⟨Nat.le_refl _, Nat.le_refl _⟩ dX12_bestAt_7 ?_
  replace h := Option.some.inj h
  subst h
  exact g_iret hg hr dX12_bestAt_10
theorem lkX12_maps_215 {g : Gm} {l0 : Launch} {E : En} {d n : Nat} {Rf : Nat → Nat → Nat} {ex : Bool} {kq : Nat × Nat} (hn : 238 ≤ n) (hRf : RfOk 194 238 kq Rf) (hg : Ok g l0 E cX12_maps RX12 6 (d + 7) 0 0) {q : Int32 × Mm} (hr : Ret g E 0 0 (some .int) ex n Rf (some (.int q.1)) q.2) {k117 : Int32 → Int32 → Int32 → Int32 → Mm → Option (Int32 × Mm)} (hk117 : ∀ (x1 : Int32) (x2 : Int32) (x3 : Int32) (x4 : Int32) (M : Mm), k117 x1 x2 x3 x4 M = some q → WG g E 6 n Rf ex 0 0 117 [(0, rr E.1 194), (1, .int x1), (2, .int x2), (3, .int x3), (4, .int x4)] [] M) : ∀ (x1 : Int32) (x2 : Int32) (x3 : Int32) (x4 : Int32) (M : Mm), sX12_maps_215 k117 x1 x2 x3 x4 M = some q → WG g E 6 n Rf ex 0 0 215 [(0, rr E.1 194), (1, .int x1), (2, .int x2), (3, .int x3), (4, .int x4)] [] M := by
  intro x1 x2 x3 x4 M h
  unfold sX12_maps_215 at h
  refine g_inc (lv' := [(4, .int (x4 + 1)), (0, rr E.1 194), (1, .int x1), (2, .int x2), (3, .int x3)]) hg dX12_maps_215 kI_1 4 rfl (by decide) rfl ?_
  refine g_goto (tgt := 117) hg dX12_maps_218 (by decide) ?_
  refine g_sub (lv' := [(0, rr E.1 194), (1, .int x1), (2, .int x2), (3, .int x3), (4, .int (x4 + 1))]) [1, 2, 3, 4, 0] rfl ?_
  exact hk117 _ _ _ _ _ h
theorem lkX12_maps_213 {g : Gm} {l0 : Launch} {E : En} {d n : Nat} {Rf : Nat → Nat → Nat} {ex : Bool} {kq : Nat × Nat} (hn : 238 ≤ n) (hRf : RfOk 194 238 kq Rf) (hg : Ok g l0 E cX12_maps RX12 6 (d + 7) 0 0) {q : Int32 × Mm} (hr : Ret g E 0 0 (some .int) ex n Rf (some (.int q.1)) q.2) {k117 : Int32 → Int32 → Int32 → Int32 → Mm → Option (Int32 × Mm)} (hk117 : ∀ (x1 : Int32) (x2 : Int32) (x3 : Int32) (x4 : Int32) (M : Mm), k117 x1 x2 x3 x4 M = some q → WG g E 6 n Rf ex 0 0 117 [(0, rr E.1 194), (1, .int x1), (2, .int x2), (3, .int x3), (4, .int x4)] [] M) : ∀ (x1 : Int32) (x2 : Int32) (x4 : Int32) (s0 : Int32) (s1 : Int32) (M : Mm), sX12_maps_213 k117 x1 x2 x4 s0 s1 M = some q → WG g E 6 n Rf ex 0 0 213 [(0, rr E.1 194), (1, .int x1), (2, .int x2), (4, .int x4)] [.int s1, .int s0] M := by
  intro x1 x2 x4 s0 s1 M h
  unfold sX12_maps_213 at h
  refine g_iadd hg dX12_maps_213 ?_
  refine g_istore_n (lv' := [(3, .int (s0 + s1)), (0, rr E.1 194), (1, .int x1), (2, .int x2), (4, .int x4)]) hg dX12_maps_214 rfl (by decide) rfl ?_
  refine g_sub (lv' := [(0, rr E.1 194), (1, .int x1), (2, .int x2), (3, .int (s0 + s1)), (4, .int x4)]) [1, 2, 3, 0, 4] rfl ?_
  exact lkX12_maps_215 hn hRf hg hr hk117 _ _ _ _ _ h
theorem lkX12_maps_185 {g : Gm} {l0 : Launch} {E : En} {d n : Nat} {Rf : Nat → Nat → Nat} {ex : Bool} {kq : Nat × Nat} (hn : 238 ≤ n) (hRf : RfOk 194 238 kq Rf) (hg : Ok g l0 E cX12_maps RX12 6 (d + 7) 0 0) {q : Int32 × Mm} (hr : Ret g E 0 0 (some .int) ex n Rf (some (.int q.1)) q.2) {k117 : Int32 → Int32 → Int32 → Int32 → Mm → Option (Int32 × Mm)} (hk117 : ∀ (x1 : Int32) (x2 : Int32) (x3 : Int32) (x4 : Int32) (M : Mm), k117 x1 x2 x3 x4 M = some q → WG g E 6 n Rf ex 0 0 117 [(0, rr E.1 194), (1, .int x1), (2, .int x2), (3, .int x3), (4, .int x4)] [] M) : ∀ (x1 : Int32) (x2 : Int32) (x4 : Int32) (s0 : Int32) (s1 : Int32) (M : Mm), sX12_maps_185 k117 x1 x2 x4 s0 s1 M = some q → WG g E 6 n Rf ex 0 0 185 [(0, rr E.1 194), (1, .int x1), (2, .int x2), (4, .int x4)] [.int s1, .int s0] M := by
  intro x1 x2 x4 s0 s1 M h
  unfold sX12_maps_185 at h
  refine g_iadd hg dX12_maps_185 ?_
  refine g_istore_n (lv' := [(3, .int (s0 + s1)), (0, rr E.1 194), (1, .int x1), (2, .int x2), (4, .int x4)]) hg dX12_maps_186 rfl (by decide) rfl ?_
  refine g_goto (tgt := 215) hg dX12_maps_187 (by decide) ?_
  refine g_sub (lv' := [(0, rr E.1 194), (1, .int x1), (2, .int x2), (3, .int (s0 + s1)), (4, .int x4)]) [1, 2, 3, 0, 4] rfl ?_
  exact lkX12_maps_215 hn hRf hg hr hk117 _ _ _ _ _ h
theorem lkX12_maps_184 {g : Gm} {l0 : Launch} {E : En} {d n : Nat} {Rf : Nat → Nat → Nat} {ex : Bool} {kq : Nat × Nat} (hn : 238 ≤ n) (hRf : RfOk 194 238 kq Rf) (hg : Ok g l0 E cX12_maps RX12 6 (d + 7) 0 0) {q : Int32 × Mm} (hr : Ret g E 0 0 (some .int) ex n Rf (some (.int q.1)) q.2) {k117 : Int32 → Int32 → Int32 → Int32 → Mm → Option (Int32 × Mm)} (hk117 : ∀ (x1 : Int32) (x2 : Int32) (x3 : Int32) (x4 : Int32) (M : Mm), k117 x1 x2 x3 x4 M = some q → WG g E 6 n Rf ex 0 0 117 [(0, rr E.1 194), (1, .int x1), (2, .int x2), (3, .int x3), (4, .int x4)] [] M) : ∀ (x1 : Int32) (x2 : Int32) (x4 : Int32) (s0 : Int32) (M : Mm), sX12_maps_184 k117 x1 x2 x4 s0 M = some q → WG g E 6 n Rf ex 0 0 184 [(0, rr E.1 194), (1, .int x1), (2, .int x2), (4, .int x4)] [.int s0] M := by
  intro x1 x2 x4 s0 M h
  unfold sX12_maps_184 at h
  refine g_iconst hg dX12_maps_184 kI_0 ?_
  exact lkX12_maps_185 hn hRf hg hr hk117 _ _ _ _ _ _ h
theorem lkX12_maps_117 {g : Gm} {l0 : Launch} {E : En} {d n : Nat} {Rf : Nat → Nat → Nat} {ex : Bool} {kq : Nat × Nat} (hn : 238 ≤ n) (hRf : RfOk 194 238 kq Rf) (hg : Ok g l0 E cX12_maps RX12 6 (d + 7) 0 0) {q : Int32 × Mm} (hr : Ret g E 0 0 (some .int) ex n Rf (some (.int q.1)) q.2) : ∀ (F : Nat) (x1 : Int32) (x2 : Int32) (x3 : Int32) (x4 : Int32) (M : Mm), sX12_maps_117 F x1 x2 x3 x4 M = some q → WG g E 6 n Rf ex 0 0 117 [(0, rr E.1 194), (1, .int x1), (2, .int x2), (3, .int x3), (4, .int x4)] [] M := by
  intro F
  induction F with
  | zero =>
    intro x1 x2 x3 x4 M h
    cases h
  | succ F ih =>
    intro x1 x2 x3 x4 M h
    rw [sX12_maps_117] at h
    refine g_iload hg dX12_maps_117 4 rfl ?_
    refine g_rload_n hg dX12_maps_119 rfl 0 rfl ?_
    refine g_getI hg fl_X12_17 ly194 rfl (idb rfl rfl hn) dX12_maps_120 ?_
    refine g_icmp_ge (tgt := 221) hg dX12_maps_123 (by decide) (fun c => ?_) (fun c => ?_)
    · replace h := itT c h
      refine g_iload_n hg dX12_maps_221 rfl 3 rfl ?_
      replace h := Option.some.inj h
      subst h
      exact g_iret hg hr dX12_maps_222
    · replace h := itF c h
      refine g_rload_n hg dX12_maps_126 rfl 0 rfl ?_
      refine g_getI hg fl_X12_13 ly194 rfl (idb rfl rfl hn) dX12_maps_127 ?_
      refine g_iload hg dX12_maps_130 4 rfl ?_
      refine g_imul hg dX12_maps_132 ?_
      refine g_iload_n hg dX12_maps_133 rfl 2 rfl ?_
      refine g_iadd hg dX12_maps_134 ?_
      refine g_istore (lv' := [(5, .int (((M.1 194 3) * x4) + x2)), (0, rr E.1 194), (1, .int x1), (2, .int x2), (3, .int x3), (4, .int x4)]) hg dX12_maps_135 (by decide) rfl ?_
      refine g_iload_n hg dX12_maps_137 rfl 2 rfl ?_
      refine g_iconst hg dX12_maps_138 kI_1 ?_
      refine g_icmp_ne (tgt := 190) hg dX12_maps_139 (by decide) (fun c => ?_) (fun c => ?_)
      · replace h := itF c h
        refine g_iload_n hg dX12_maps_190 rfl 4 rfl ?_
        refine g_rload_n hg dX12_maps_191 rfl 1 rfl ?_
        refine g_iload hg dX12_maps_192 0 rfl ?_
        obtain ⟨q194, e194, h⟩ := Option.bind_eq_some_iff.mp h
        refine g_callVi (As := [.int (((M.1 194 3) * x4) + x2)]) (rest := [.int x3]) hg (lkX12_bestAt (by omega) hn hRf  e194) cv_X12_438 rfl ly194 (idb rfl rfl hn) rfl rfl (Nat.le_of_ble_eq_true rfl) ⟨Nat.le_refl _, Nat.le_refl _⟩ dX12_maps_194 ?_
        refine g_rload_n hg dX12_maps_197 rfl 1 rfl ?_
        refine g_iload hg dX12_maps_198 0 rfl ?_
        refine g_iconst hg dX12_maps_200 kI_1 ?_
        refine g_iadd hg dX12_maps_201 ?_
        obtain ⟨q202, e202, h⟩ := Option.bind_eq_some_iff.mp h
        refine g_callVi (As := [.int ((((M.1 194 3) * x4) + x2) + 1)]) (rest := [.int q194.1, .int x3]) hg (lkX12_bestAt (by omega) hn hRf  e202) cv_X12_438 rfl ly194 (idb rfl rfl hn) rfl rfl (Nat.le_of_ble_eq_true rfl) ⟨Nat.le_refl _, Nat.le_refl _⟩ dX12_maps_202 ?_
        refine g_icmp_eq (tgt := 212) hg dX12_maps_205 (by decide) (fun c => ?_) (fun c => ?_)
        · rw [if_pos c] at h
          refine g_iconst hg dX12_maps_212 kI_0 ?_
          refine g_sub (lv' := [(0, rr E.1 194), (1, .int x1), (2, .int x2), (4, .int x4)]) [1, 2, 3, 5] rfl ?_
          exact lkX12_maps_213 hn hRf hg hr ih _ _ _ _ _ _ h
        · rw [if_neg c] at h
          refine g_iconst hg dX12_maps_208 kI_1 ?_
          refine g_goto (tgt := 213) hg dX12_maps_209 (by decide) ?_
          refine g_sub (lv' := [(0, rr E.1 194), (1, .int x1), (2, .int x2), (4, .int x4)]) [1, 2, 3, 5] rfl ?_
          exact lkX12_maps_213 hn hRf hg hr ih _ _ _ _ _ _ h
      · replace h := itT c h
        refine g_iload_n hg dX12_maps_142 rfl 4 rfl ?_
        refine g_rload_n hg dX12_maps_143 rfl 1 rfl ?_
        refine g_iload hg dX12_maps_144 0 rfl ?_
        obtain ⟨q146, e146, h⟩ := Option.bind_eq_some_iff.mp h
        refine g_callVi (As := [.int (((M.1 194 3) * x4) + x2)]) (rest := [.int x3]) hg (lkX12_turnedAt (by omega) hn hRf  e146) cv_X12_435 rfl ly194 (idb rfl rfl hn) rfl rfl (Nat.le_of_ble_eq_true rfl) ⟨Nat.le_refl _, Nat.le_refl _⟩ dX12_maps_146 ?_
        refine g_if_lt (tgt := 184) hg dX12_maps_149 (by decide) (fun c => ?_) (fun c => ?_)
        · replace h := itT c h
          refine g_sub (lv' := [(0, rr E.1 194), (1, .int x1), (2, .int x2), (4, .int x4)]) [1, 2, 3, 5] rfl ?_
          exact lkX12_maps_184 hn hRf hg hr ih _ _ _ _ _ h
        · replace h := itF c h
          refine g_rload_n hg dX12_maps_152 rfl 1 rfl ?_
          refine g_iload hg dX12_maps_153 0 rfl ?_
          refine g_iconst hg dX12_maps_155 kI_1 ?_
          refine g_iadd hg dX12_maps_156 ?_
          obtain ⟨q157, e157, h⟩ := Option.bind_eq_some_iff.mp h
          refine g_callVi (As := [.int ((((M.1 194 3) * x4) + x2) + 1)]) (rest := [.int x3]) hg (lkX12_turnedAt (by omega) hn hRf  e157) cv_X12_435 rfl ly194 (idb rfl rfl hn) rfl rfl (Nat.le_of_ble_eq_true rfl) ⟨Nat.le_refl _, Nat.le_refl _⟩ dX12_maps_157 ?_
          refine g_if_lt (tgt := 184) hg dX12_maps_160 (by decide) (fun c => ?_) (fun c => ?_)
          · replace h := itT c h
            refine g_sub (lv' := [(0, rr E.1 194), (1, .int x1), (2, .int x2), (4, .int x4)]) [1, 2, 3, 5] rfl ?_
            exact lkX12_maps_184 hn hRf hg hr ih _ _ _ _ _ h
          · replace h := itF c h
            refine g_rload_n hg dX12_maps_163 rfl 1 rfl ?_
            refine g_iload hg dX12_maps_164 0 rfl ?_
            obtain ⟨q166, e166, h⟩ := Option.bind_eq_some_iff.mp h
            refine g_callVi (As := [.int (((M.1 194 3) * x4) + x2)]) (rest := [.int x3]) hg (lkX12_turnedAt (by omega) hn hRf  e166) cv_X12_435 rfl ly194 (idb rfl rfl hn) rfl rfl (Nat.le_of_ble_eq_true rfl) ⟨Nat.le_refl _, Nat.le_refl _⟩ dX12_maps_166 ?_
            refine g_rload_n hg dX12_maps_169 rfl 1 rfl ?_
            refine g_iload hg dX12_maps_170 0 rfl ?_
            refine g_iconst hg dX12_maps_172 kI_1 ?_
            refine g_iadd hg dX12_maps_173 ?_
            obtain ⟨q174, e174, h⟩ := Option.bind_eq_some_iff.mp h
            refine g_callVi (As := [.int ((((M.1 194 3) * x4) + x2) + 1)]) (rest := [.int q166.1, .int x3]) hg (lkX12_turnedAt (by omega) hn hRf  e174) cv_X12_435 rfl ly194 (idb rfl rfl hn) rfl rfl (Nat.le_of_ble_eq_true rfl) ⟨Nat.le_refl _, Nat.le_refl _⟩ dX12_maps_174 ?_
            refine g_icmp_eq (tgt := 184) hg dX12_maps_177 (by decide) (fun c => ?_) (fun c => ?_)
            · replace h := itT c h
              refine g_sub (lv' := [(0, rr E.1 194), (1, .int x1), (2, .int x2), (4, .int x4)]) [1, 2, 3, 5] rfl ?_
              exact lkX12_maps_184 hn hRf hg hr ih _ _ _ _ _ h
            · replace h := itF c h
              refine g_iconst hg dX12_maps_180 kI_1 ?_
              refine g_goto (tgt := 185) hg dX12_maps_181 (by decide) ?_
              refine g_sub (lv' := [(0, rr E.1 194), (1, .int x1), (2, .int x2), (4, .int x4)]) [1, 2, 3, 5] rfl ?_
              exact lkX12_maps_185 hn hRf hg hr ih _ _ _ _ _ _ h
theorem lkX12_maps_104 {g : Gm} {l0 : Launch} {E : En} {d n : Nat} {Rf : Nat → Nat → Nat} {ex : Bool} {kq : Nat × Nat} (hn : 238 ≤ n) (hRf : RfOk 194 238 kq Rf) (hg : Ok g l0 E cX12_maps RX12 6 (d + 7) 0 0) {q : Int32 × Mm} (hr : Ret g E 0 0 (some .int) ex n Rf (some (.int q.1)) q.2) {k60 : Int32 → Int32 → Mm → Option (Int32 × Mm)} (hk60 : ∀ (x3 : Int32) (x4 : Int32) (M : Mm), k60 x3 x4 M = some q → WG g E 6 n Rf ex 0 0 60 [(0, rr E.1 194), (3, .int x3), (4, .int x4)] [] M) : ∀ (x4 : Int32) (s0 : Int32) (s1 : Int32) (M : Mm), sX12_maps_104 k60 x4 s0 s1 M = some q → WG g E 6 n Rf ex 0 0 104 [(0, rr E.1 194), (4, .int x4)] [.int s1, .int s0] M := by
  intro x4 s0 s1 M h
  unfold sX12_maps_104 at h
  refine g_iadd hg dX12_maps_104 ?_
  refine g_istore_n (lv' := [(3, .int (s0 + s1)), (0, rr E.1 194), (4, .int x4)]) hg dX12_maps_105 rfl (by decide) rfl ?_
  refine g_inc (lv' := [(4, .int (x4 + 1)), (3, .int (s0 + s1)), (0, rr E.1 194)]) hg dX12_maps_106 kI_1 2 rfl (by decide) rfl ?_
  refine g_goto (tgt := 60) hg dX12_maps_109 (by decide) ?_
  refine g_sub (lv' := [(0, rr E.1 194), (3, .int (s0 + s1)), (4, .int (x4 + 1))]) [2, 1, 0] rfl ?_
  exact hk60 _ _ _ h
theorem lkX12_maps_103 {g : Gm} {l0 : Launch} {E : En} {d n : Nat} {Rf : Nat → Nat → Nat} {ex : Bool} {kq : Nat × Nat} (hn : 238 ≤ n) (hRf : RfOk 194 238 kq Rf) (hg : Ok g l0 E cX12_maps RX12 6 (d + 7) 0 0) {q : Int32 × Mm} (hr : Ret g E 0 0 (some .int) ex n Rf (some (.int q.1)) q.2) {k60 : Int32 → Int32 → Mm → Option (Int32 × Mm)} (hk60 : ∀ (x3 : Int32) (x4 : Int32) (M : Mm), k60 x3 x4 M = some q → WG g E 6 n Rf ex 0 0 60 [(0, rr E.1 194), (3, .int x3), (4, .int x4)] [] M) : ∀ (x4 : Int32) (s0 : Int32) (M : Mm), sX12_maps_103 k60 x4 s0 M = some q → WG g E 6 n Rf ex 0 0 103 [(0, rr E.1 194), (4, .int x4)] [.int s0] M := by
  intro x4 s0 M h
  unfold sX12_maps_103 at h
  refine g_iconst hg dX12_maps_103 kI_0 ?_
  exact lkX12_maps_104 hn hRf hg hr hk60 _ _ _ _ h
theorem lkX12_maps_60 {g : Gm} {l0 : Launch} {E : En} {d n : Nat} {Rf : Nat → Nat → Nat} {ex : Bool} {kq : Nat × Nat} (hn : 238 ≤ n) (hRf : RfOk 194 238 kq Rf) (hg : Ok g l0 E cX12_maps RX12 6 (d + 7) 0 0) {q : Int32 × Mm} (hr : Ret g E 0 0 (some .int) ex n Rf (some (.int q.1)) q.2) : ∀ (F : Nat) (x3 : Int32) (x4 : Int32) (M : Mm), sX12_maps_60 F x3 x4 M = some q → WG g E 6 n Rf ex 0 0 60 [(0, rr E.1 194), (3, .int x3), (4, .int x4)] [] M := by
  intro F
  induction F with
  | zero =>
    intro x3 x4 M h
    cases h
  | succ F ih =>
    intro x3 x4 M h
    rw [sX12_maps_60] at h
    refine g_iload hg dX12_maps_60 2 rfl ?_
    refine g_rload_n hg dX12_maps_62 rfl 0 rfl ?_
    refine g_getI hg fl_X12_13 ly194 rfl (idb rfl rfl hn) dX12_maps_63 ?_
    refine g_rload_n hg dX12_maps_66 rfl 0 rfl ?_
    refine g_getI hg fl_X12_17 ly194 rfl (idb rfl rfl hn) dX12_maps_67 ?_
    refine g_imul hg dX12_maps_70 ?_
    refine g_icmp_ge (tgt := 112) hg dX12_maps_71 (by decide) (fun c => ?_) (fun c => ?_)
    · replace h := itT c h
      refine g_iload_n hg dX12_maps_112 rfl 1 rfl ?_
      replace h := Option.some.inj h
      subst h
      exact g_iret hg hr dX12_maps_113
    · replace h := itF c h
      refine g_iload_n hg dX12_maps_74 rfl 1 rfl ?_
      refine g_rload_n hg dX12_maps_75 rfl 0 rfl ?_
      refine g_iload hg dX12_maps_76 2 rfl ?_
      obtain ⟨q78, e78, h⟩ := Option.bind_eq_some_iff.mp h
      refine g_callVi (As := [.int x4]) (rest := [.int x3]) hg (lkX12_turnedAt (by omega) hn hRf  e78) cv_X12_435 rfl ly194 (idb rfl rfl hn) rfl rfl (Nat.le_of_ble_eq_true rfl) ⟨Nat.le_refl _, Nat.le_refl _⟩ dX12_maps_78 ?_
      refine g_if_lt (tgt := 103) hg dX12_maps_81 (by decide) (fun c => ?_) (fun c => ?_)
      · replace h := itT c h
        refine g_sub (lv' := [(0, rr E.1 194), (4, .int x4)]) [0, 2] rfl ?_
        exact lkX12_maps_103 hn hRf hg hr ih _ _ _ h
      · replace h := itF c h
        refine g_rload_n hg dX12_maps_84 rfl 0 rfl ?_
        refine g_iload hg dX12_maps_85 2 rfl ?_
        obtain ⟨q87, e87, h⟩ := Option.bind_eq_some_iff.mp h
        refine g_callVi (As := [.int x4]) (rest := [.int x3]) hg (lkX12_turnedAt (by omega) hn hRf  e87) cv_X12_435 rfl ly194 (idb rfl rfl hn) rfl rfl (Nat.le_of_ble_eq_true rfl) ⟨Nat.le_refl _, Nat.le_refl _⟩ dX12_maps_87 ?_
        refine g_rload_n hg dX12_maps_90 rfl 0 rfl ?_
        refine g_iload hg dX12_maps_91 2 rfl ?_
        obtain ⟨q93, e93, h⟩ := Option.bind_eq_some_iff.mp h
        refine g_callVi (As := [.int x4]) (rest := [.int q87.1, .int x3]) hg (lkX12_bestAt (by omega) hn hRf  e93) cv_X12_438 rfl ly194 (idb rfl rfl hn) rfl rfl (Nat.le_of_ble_eq_true rfl) ⟨Nat.le_refl _, Nat.le_refl _⟩ dX12_maps_93 ?_
        refine g_icmp_ne (tgt := 103) hg dX12_maps_96 (by decide) (fun c => ?_) (fun c => ?_)
        · replace h := itF c h
          refine g_sub (lv' := [(0, rr E.1 194), (4, .int x4)]) [0, 2] rfl ?_
          exact lkX12_maps_103 hn hRf hg hr ih _ _ _ h
        · replace h := itT c h
          refine g_iconst hg dX12_maps_99 kI_1 ?_
          refine g_goto (tgt := 104) hg dX12_maps_100 (by decide) ?_
          refine g_sub (lv' := [(0, rr E.1 194), (4, .int x4)]) [0, 2] rfl ?_
          exact lkX12_maps_104 hn hRf hg hr ih _ _ _ _ h
theorem lkX12_maps_34 {g : Gm} {l0 : Launch} {E : En} {d n : Nat} {Rf : Nat → Nat → Nat} {ex : Bool} {kq : Nat × Nat} (hn : 238 ≤ n) (hRf : RfOk 194 238 kq Rf) (hg : Ok g l0 E cX12_maps RX12 6 (d + 7) 0 0) {q : Int32 × Mm} (hr : Ret g E 0 0 (some .int) ex n Rf (some (.int q.1)) q.2) : ∀ (x1 : Int32) (x2 : Int32) (M : Mm), sX12_maps_34 x1 x2 M = some q → WG g E 6 n Rf ex 0 0 34 [(0, rr E.1 194), (1, .int x1), (2, .int x2)] [] M := by
  intro x1 x2 M h
  unfold sX12_maps_34 at h
  refine g_rload_n hg dX12_maps_34 rfl 0 rfl ?_
  refine g_rload_n hg dX12_maps_35 rfl 0 rfl ?_
  refine g_getI hg fl_X12_174 ly194 rfl (idb rfl rfl hn) dX12_maps_36 ?_
  obtain ⟨M39, e39, h⟩ := Option.bind_eq_some_iff.mp h
  refine g_callVv (As := [.int (M.1 194 26)]) (rest := []) hg (lkX12_know (by omega) hn hRf  e39) cv_X12_386 rfl ly194 (idb rfl rfl hn) rfl rfl (Nat.le_of_ble_eq_true rfl) ⟨Nat.le_refl _, Nat.le_refl _⟩ dX12_maps_39 ?_
  refine g_iconst hg dX12_maps_42 kI_0 ?_
  refine g_istore_n (lv' := [(3, .int 0), (0, rr E.1 194), (1, .int x1), (2, .int x2)]) hg dX12_maps_43 rfl (by decide) rfl ?_
  refine g_rload_n hg dX12_maps_44 rfl 1 rfl ?_
  refine g_getI hg fl_X12_330 ly194 rfl (idb rfl rfl hn) dX12_maps_45 ?_
  refine g_if_ne (tgt := 53) hg dX12_maps_48 (by decide) (fun c => ?_) (fun c => ?_)
  · replace h := itF c h
    refine g_iload_n hg dX12_maps_53 rfl 2 rfl ?_
    refine g_if_ne (tgt := 114) hg dX12_maps_54 (by decide) (fun c => ?_) (fun c => ?_)
    · replace h := itF c h
      refine g_iconst hg dX12_maps_114 kI_0 ?_
      refine g_istore (lv' := [(4, .int 0), (3, .int 0), (0, rr E.1 194), (1, .int x1), (2, .int x2)]) hg dX12_maps_115 (by decide) rfl ?_
      refine g_sub (lv' := [(0, rr E.1 194), (1, .int x1), (2, .int x2), (3, .int 0), (4, .int 0)]) [2, 3, 4, 1, 0] rfl ?_
      exact lkX12_maps_117 hn hRf hg hr  4096 _ _ _ _ _ h
    · replace h := itT c h
      refine g_iconst hg dX12_maps_57 kI_0 ?_
      refine g_istore (lv' := [(4, .int 0), (3, .int 0), (0, rr E.1 194), (1, .int x1), (2, .int x2)]) hg dX12_maps_58 (by decide) rfl ?_
      refine g_sub (lv' := [(0, rr E.1 194), (3, .int 0), (4, .int 0)]) [2, 1, 0] rfl ?_
      exact lkX12_maps_60 hn hRf hg hr  4096 _ _ _ h
  · replace h := itT c h
    refine g_iconst hg dX12_maps_51 kI_0 ?_
    replace h := Option.some.inj h
    subst h
    exact g_iret hg hr dX12_maps_52
theorem lkX12_maps {l0 : Launch} {E : En} {d n : Nat} {Rf : Nat → Nat → Nat} {ex : Bool} {kq : Nat × Nat} (hd : 7 ≤ d) (hn : 238 ≤ n) (hRf : RfOk 194 238 kq Rf) {x1 : Int32} {x2 : Int32} {M : Mm} {q : Int32 × Mm} (h : sX12_maps x1 x2 M = some q) : Ct l0 E yX12_maps cX12_maps 6 (some .int) d 0 0 [rr E.1 194, .int x1, .int x2] ex n Rf M n Rf (some (.int q.1)) q.2 := by
  obtain ⟨d, rfl⟩ := Nat.exists_eq_add_of_le' hd
  refine Ct.of pnX12 (Nat.le_of_ble_eq_true rfl) (fun g hg hr _ => ?_)
  replace hg : Ok g l0 E cX12_maps RX12 6 (d + 7) 0 0 := hg
  show WG g E 6 n Rf ex 0 0 0 [(0, rr E.1 194), (1, .int x1), (2, .int x2)] [] M
  unfold sX12_maps at h
  refine g_rload_n hg dX12_maps_0 rfl 0 rfl ?_
  refine g_iconst hg dX12_maps_1 kI_0 ?_
  refine g_putI hg fp_X12_171 ly194 rfl (idb rfl rfl hn) dX12_maps_2 ?_
  refine g_iload_n hg dX12_maps_5 rfl 1 rfl ?_
  refine g_if_lt (tgt := 32) hg dX12_maps_6 (by decide) (fun c => ?_) (fun c => ?_)
  · replace h := itT c h
    refine g_iconst hg dX12_maps_32 kI_m1 ?_
    replace h := Option.some.inj h
    subst h
    exact g_iret hg hr dX12_maps_33
  · replace h := itF c h
    refine g_iload_n hg dX12_maps_9 rfl 1 rfl ?_
    refine g_iconst hg dX12_maps_10 kI_2 ?_
    refine g_icmp_gt (tgt := 32) hg dX12_maps_11 (by decide) (fun c => ?_) (fun c => ?_)
    · replace h := itT c h
      refine g_iconst hg dX12_maps_32 kI_m1 ?_
      replace h := Option.some.inj h
      subst h
      exact g_iret hg hr dX12_maps_33
    · replace h := itF c h
      refine g_iload_n hg dX12_maps_14 rfl 1 rfl ?_
      refine g_if_le (tgt := 34) hg dX12_maps_15 (by decide) (fun c => ?_) (fun c => ?_)
      · replace h := itT c h
        exact lkX12_maps_34 hn hRf hg hr  _ _ _ h
      · replace h := itF c h
        refine g_iload_n hg dX12_maps_18 rfl 2 rfl ?_
        refine g_if_lt (tgt := 32) hg dX12_maps_19 (by decide) (fun c => ?_) (fun c => ?_)
        · replace h := itT c h
          refine g_iconst hg dX12_maps_32 kI_m1 ?_
          replace h := Option.some.inj h
          subst h
          exact g_iret hg hr dX12_maps_33
        · replace h := itF c h
          refine g_iload_n hg dX12_maps_22 rfl 2 rfl ?_
          refine g_rload_n hg dX12_maps_23 rfl 0 rfl ?_
          refine g_getI hg fl_X12_13 ly194 rfl (idb rfl rfl hn) dX12_maps_24 ?_
          refine g_iconst hg dX12_maps_27 kI_1 ?_
          refine g_isub hg dX12_maps_28 ?_
          refine g_icmp_lt (tgt := 34) hg dX12_maps_29 (by decide) (fun c => ?_) (fun c => ?_)
          · replace h := itT c h
            exact lkX12_maps_34 hn hRf hg hr  _ _ _ h
          · replace h := itF c h
            refine g_iconst hg dX12_maps_32 kI_m1 ?_
            replace h := Option.some.inj h
            subst h
            exact g_iret hg hr dX12_maps_33
