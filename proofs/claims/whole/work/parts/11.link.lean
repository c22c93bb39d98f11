theorem lkX11_value {l0 : Launch} {E : En} {d n : Nat} {Rf : Nat → Nat → Nat} {ex : Bool} {kq : Nat × Nat} (hd : 2 ≤ d) (hn : 239 ≤ n) (hRf : RfOk 1 239 kq Rf) (hkq : isKq kq) {x1 : Int32} {x2 : Int32} {M : Mm} {q : Int32 × Mm} (h : sX11_value kq x1 x2 M = some q) : Ct l0 E yX11_value cX11_value 3 (some .boolean) d 0 0 [rr E.1 1, .int x1, .int x2] ex n Rf M n Rf (some (.int q.1)) q.2 := by
  obtain ⟨d, rfl⟩ := Nat.exists_eq_add_of_le' hd
  refine Ct.of pnX11 (Nat.le_of_ble_eq_true rfl) (fun g hg hr _ => ?_)
  replace hg : Ok g l0 E cX11_value RX11 3 (d + 2) 0 0 := hg
  show WG g E 3 n Rf ex 0 0 0 [(0, rr E.1 1), (1, .int x1), (2, .int x2)] [] M
  unfold sX11_value at h
  refine g_rload_n hg dX11_value_0 rfl 0 rfl ?_
  refine g_iload_n hg dX11_value_1 rfl 1 rfl ?_
  obtain ⟨q2, e2, h⟩ := Option.bind_eq_some_iff.mp h
  refine g_callVi (As := [.int x1]) (rest := []) hg (lkX11_isKind (by omega) hn hRf hkq  e2) cv_X11_193 rfl ly1 (idb rfl rfl hn) rfl rfl (Nat.le_of_ble_eq_true rfl) ⟨Nat.le_refl _, Nat.le_refl _⟩ dX11_value_2 ?_
  refine g_if_eq (tgt := 19) hg dX11_value_5 (by decide) (fun c => ?_) (fun c => ?_)
  · replace h := itT c h
    refine g_iconst hg dX11_value_19 kI_0 ?_
    replace h := Option.some.inj h
    subst h
    exact g_zret hg hr rfl dX11_value_20
  · replace h := itF c h
    refine g_iload_n hg dX11_value_8 rfl 2 rfl ?_
    refine g_if_lt (tgt := 19) hg dX11_value_9 (by decide) (fun c => ?_) (fun c => ?_)
    · replace h := itT c h
      refine g_iconst hg dX11_value_19 kI_0 ?_
      replace h := Option.some.inj h
      subst h
      exact g_zret hg hr rfl dX11_value_20
    · replace h := itF c h
      refine g_iload_n hg dX11_value_12 rfl 2 rfl ?_
      refine g_sipush hg dX11_value_13 kS_9999 ?_
      refine g_icmp_le (tgt := 21) hg dX11_value_16 (by decide) (fun c => ?_) (fun c => ?_)
      · replace h := itT c h
        refine g_rload_n hg dX11_value_21 rfl 0 rfl ?_
        refine g_getR (r := 193) hg fl_X11_101 ly1 rfl (idb rfl rfl hn) (rfc hRf rfl rfl rfl rfl) (by decide) dX11_value_22 ?_
        refine g_iload_n hg dX11_value_25 rfl 1 rfl ?_
        refine g_iload_n hg dX11_value_26 rfl 2 rfl ?_
        obtain ⟨c27, h⟩ := ck_some h
        refine g_iast hg ly193 (idb rfl rfl hn) (inb_vp c27) dX11_value_27 ?_
        refine g_iconst hg dX11_value_28 kI_1 ?_
        replace h := Option.some.inj h
        subst h
        exact g_zret hg hr rfl dX11_value_29
      · replace h := itF c h
        refine g_iconst hg dX11_value_19 kI_0 ?_
        replace h := Option.some.inj h
        subst h
        exact g_zret hg hr rfl dX11_value_20
theorem lkX1_hasBore {l0 : Launch} {E : En} {d n : Nat} {Rf : Nat → Nat → Nat} {ex : Bool} {kq : Nat × Nat} (hd : 2 ≤ d) (hn : 239 ≤ n) (hRf : RfOk 1 239 kq Rf) {x1 : Int32} {M : Mm} {q : Int32 × Mm} (h : sX1_hasBore x1 M = some q) : Ct l0 E yX1_hasBore cX1_hasBore 2 (some .boolean) d 0 0 [rr E.1 34, .int x1] ex n Rf M n Rf (some (.int q.1)) q.2 := by
  obtain ⟨d, rfl⟩ := Nat.exists_eq_add_of_le' hd
  refine Ct.of pnX1 (Nat.le_of_ble_eq_true rfl) (fun g hg hr _ => ?_)
  replace hg : Ok g l0 E cX1_hasBore RX1 2 (d + 2) 0 0 := hg
  show WG g E 2 n Rf ex 0 0 0 [(0, rr E.1 34), (1, .int x1)] [] M
  unfold sX1_hasBore at h
  refine g_rload_n hg dX1_hasBore_0 rfl 0 rfl ?_
  refine g_iload_n hg dX1_hasBore_1 rfl 1 rfl ?_
  obtain ⟨q2, e2, h⟩ := Option.bind_eq_some_iff.mp h
  refine g_callVi (As := [.int x1]) (rest := []) hg (lkX1_hasNote (by omega) hn hRf  e2) cv_X1_30 rfl ly34 (idb rfl rfl hn) rfl rfl (Nat.le_of_ble_eq_true rfl) ⟨Nat.le_refl _, Nat.le_refl _⟩ dX1_hasBore_2 ?_
  refine g_if_eq (tgt := 25) hg dX1_hasBore_5 (by decide) (fun c => ?_) (fun c => ?_)
  · replace h := itT c h
    refine g_iconst hg dX1_hasBore_25 kI_0 ?_
    replace h := Option.some.inj h
    subst h
    exact g_zret hg hr rfl dX1_hasBore_26
  · replace h := itF c h
    refine g_rload_n hg dX1_hasBore_8 rfl 0 rfl ?_
    refine g_getR (r := 35) hg fl_X1_11 ly34 rfl (idb rfl rfl hn) (rfc hRf rfl rfl rfl rfl) (by decide) dX1_hasBore_9 ?_
    refine g_iload_n hg dX1_hasBore_12 rfl 1 rfl ?_
    obtain ⟨c13, h⟩ := ck_some h
    refine g_aald3 (r := (38 + 2 * x1.toNatClampNeg)) hg ly35 (idb rfl rfl hn) (inb_vp c13) (nt_rfA (inb_vp c13) hRf) (Nat.lt_of_lt_of_le (by decide) (Nat.le_add_right _ _)) dX1_hasBore_13 ?_
    refine g_getI hg fl_X1_34 (nt_lay (nt_of (inb_vp c13))) rfl (nt_bd (nt_of (inb_vp c13)) hn) dX1_hasBore_14 ?_
    refine g_iconst hg dX1_hasBore_17 kI_m1 ?_
    refine g_icmp_ne (tgt := 25) hg dX1_hasBore_18 (by decide) (fun c => ?_) (fun c => ?_)
    · rw [if_neg c] at h
      refine g_iconst hg dX1_hasBore_25 kI_0 ?_
      replace h := Option.some.inj h
      subst h
      exact g_zret hg hr rfl dX1_hasBore_26
    · rw [if_pos c] at h
      refine g_iconst hg dX1_hasBore_21 kI_1 ?_
      refine g_goto (tgt := 26) hg dX1_hasBore_22 (by decide) ?_
      replace h := Option.some.inj h
      subst h
      exact g_zret hg hr rfl dX1_hasBore_26
theorem lkX11_layer_47 {g : Gm} {l0 : Launch} {E : En} {d n : Nat} {Rf : Nat → Nat → Nat} {ex : Bool} {kq : Nat × Nat} (hn : 239 ≤ n) (hRf : RfOk 1 239 kq Rf) (hg : Ok g l0 E cX11_layer RX11 5 (d + 3) 0 0) {q : Int32 × Mm} (hr : Ret g E 0 0 (some .int) ex n Rf (some (.int q.1)) q.2) : ∀  (M : Mm), sX11_layer_47  M = some q → WG g E 5 n Rf ex 0 0 47 [] [] M := by
  intro M h
  unfold sX11_layer_47 at h
  refine g_iconst hg dX11_layer_47 kI_m1 ?_
  refine g_goto (tgt := 58) hg dX11_layer_48 (by decide) ?_
  replace h := Option.some.inj h
  subst h
  exact g_iret hg hr dX11_layer_58
theorem lkX11_layer {l0 : Launch} {E : En} {d n : Nat} {Rf : Nat → Nat → Nat} {ex : Bool} {kq : Nat × Nat} (hd : 3 ≤ d) (hn : 239 ≤ n) (hRf : RfOk 1 239 kq Rf) {x1 : Int32} {x2 : Int32} {x3 : Int32} {M : Mm} {q : Int32 × Mm} (h : sX11_layer x1 x2 x3 M = some q) : Ct l0 E yX11_layer cX11_layer 5 (some .int) d 0 0 [rr E.1 1, .int x1, .int x2, .int x3] ex n Rf M n Rf (some (.int q.1)) q.2 := by
  obtain ⟨d, rfl⟩ := Nat.exists_eq_add_of_le' hd
  refine Ct.of pnX11 (Nat.le_of_ble_eq_true rfl) (fun g hg hr _ => ?_)
  replace hg : Ok g l0 E cX11_layer RX11 5 (d + 3) 0 0 := hg
  show WG g E 5 n Rf ex 0 0 0 [(0, rr E.1 1), (1, .int x1), (2, .int x2), (3, .int x3)] [] M
  unfold sX11_layer at h
  refine g_rload_n hg dX11_layer_0 rfl 0 rfl ?_
  refine g_getR (r := 34) hg fl_X11_52 ly1 rfl (idb rfl rfl hn) (rfc hRf rfl rfl rfl rfl) (by decide) dX11_layer_1 ?_
  refine g_iload_n hg dX11_layer_4 rfl 1 rfl ?_
  obtain ⟨q5, e5, h⟩ := Option.bind_eq_some_iff.mp h
  refine g_callVi (As := [.int x1]) (rest := []) hg (lkX1_hasBore (by omega) hn hRf  e5) cv_X11_203 rfl ly34 (idb rfl rfl hn) rfl rfl (Nat.le_of_ble_eq_true rfl) ⟨Nat.le_refl _, Nat.le_refl _⟩ dX11_layer_5 ?_
  refine g_if_eq (tgt := 21) hg dX11_layer_8 (by decide) (fun c => ?_) (fun c => ?_)
  · replace h := itT c h
    refine g_iconst hg dX11_layer_21 kI_m1 ?_
    replace h := Option.some.inj h
    subst h
    exact g_iret hg hr dX11_layer_22
  · replace h := itF c h
    refine g_iload_n hg dX11_layer_11 rfl 3 rfl ?_
    refine g_if_lt (tgt := 21) hg dX11_layer_12 (by decide) (fun c => ?_) (fun c => ?_)
    · replace h := itT c h
      refine g_iconst hg dX11_layer_21 kI_m1 ?_
      replace h := Option.some.inj h
      subst h
      exact g_iret hg hr dX11_layer_22
    · replace h := itF c h
      refine g_iload_n hg dX11_layer_15 rfl 3 rfl ?_
      refine g_bipush hg dX11_layer_16 kB_6 ?_
      refine g_icmp_lt (tgt := 23) hg dX11_layer_18 (by decide) (fun c => ?_) (fun c => ?_)
      · replace h := itT c h
        refine g_rload_n hg dX11_layer_23 rfl 0 rfl ?_
        refine g_getR (r := 34) hg fl_X11_52 ly1 rfl (idb rfl rfl hn) (rfc hRf rfl rfl rfl rfl) (by decide) dX11_layer_24 ?_
        refine g_getR (r := 35) hg fl_X11_148 ly34 rfl (idb rfl rfl hn) (rfc hRf rfl rfl rfl rfl) (by decide) dX11_layer_27 ?_
        refine g_iload_n hg dX11_layer_30 rfl 1 rfl ?_
        obtain ⟨c31, h⟩ := ck_some h
        refine g_aald3 (r := (38 + 2 * x1.toNatClampNeg)) hg ly35 (idb rfl rfl hn) (inb_vp c31) (nt_rfA (inb_vp c31) hRf) (Nat.lt_of_lt_of_le (by decide) (Nat.le_add_right _ _)) dX11_layer_31 ?_
        refine g_rstore (lv' := [(4, rr E.1 (38 + 2 * x1.toNatClampNeg)), (0, rr E.1 1), (1, .int x1), (2, .int x2), (3, .int x3)]) hg dX11_layer_32 (by decide) rfl ?_
        refine g_iload_n hg dX11_layer_34 rfl 3 rfl ?_
        refine g_if_lt (tgt := 47) hg dX11_layer_35 (by decide) (fun c => ?_) (fun c => ?_)
        · replace h := itT c h
          refine g_sub (lv' := []) [] rfl ?_
          exact lkX11_layer_47 hn hRf hg hr  _ h
        · replace h := itF c h
          refine g_iload_n hg dX11_layer_38 rfl 3 rfl ?_
          refine g_rload hg dX11_layer_39 0 rfl ?_
          refine g_getI hg fl_X11_206 (nt_lay (nt_of (inb_vp c31))) rfl (nt_bd (nt_of (inb_vp c31)) hn) dX11_layer_41 ?_
          refine g_icmp_lt (tgt := 51) hg dX11_layer_44 (by decide) (fun c => ?_) (fun c => ?_)
          · replace h := itT c h
            refine g_rload hg dX11_layer_51 0 rfl ?_
            refine g_iload_n hg dX11_layer_53 rfl 3 rfl ?_
            refine g_iload_n hg dX11_layer_54 rfl 4 rfl ?_
            obtain ⟨q55, e55, h⟩ := Option.bind_eq_some_iff.mp h
            refine g_callVi (As := [.int x2, .int x3]) (rest := []) hg (lkX7_get (by omega) hn hRf (nt_of (inb_vp c31)) e55) cv_X11_209 rfl (nt_lay (nt_of (inb_vp c31))) (nt_bd (nt_of (inb_vp c31)) hn) rfl rfl (Nat.le_of_ble_eq_true rfl) ⟨Nat.le_refl _, Nat.le_refl _⟩ dX11_layer_55 ?_
            replace h := Option.some.inj h
            subst h
            exact g_iret hg hr dX11_layer_58
          · replace h := itF c h
            refine g_sub (lv' := []) [] rfl ?_
            exact lkX11_layer_47 hn hRf hg hr  _ h
      · replace h := itF c h
        refine g_iconst hg dX11_layer_21 kI_m1 ?_
        replace h := Option.some.inj h
        subst h
        exact g_iret hg hr dX11_layer_22
theorem lkX11_told {l0 : Launch} {E : En} {d n : Nat} {Rf : Nat → Nat → Nat} {ex : Bool} {kq : Nat × Nat} (hd : 3 ≤ d) (hn : 239 ≤ n) (hRf : RfOk 1 239 kq Rf) {x1 : Int32} {x2 : Int32} {M : Mm} {q : Int32 × Mm} (h : sX11_told x1 x2 M = some q) : Ct l0 E yX11_told cX11_told 4 (some .int) d 0 0 [rr E.1 1, .int x1, .int x2] ex n Rf M n Rf (some (.int q.1)) q.2 := by
  obtain ⟨d, rfl⟩ := Nat.exists_eq_add_of_le' hd
  refine Ct.of pnX11 (Nat.le_of_ble_eq_true rfl) (fun g hg hr _ => ?_)
  replace hg : Ok g l0 E cX11_told RX11 4 (d + 3) 0 0 := hg
  show WG g E 4 n Rf ex 0 0 0 [(0, rr E.1 1), (1, .int x1), (2, .int x2)] [] M
  unfold sX11_told at h
  refine g_rload_n hg dX11_told_0 rfl 0 rfl ?_
  refine g_getR (r := 34) hg fl_X11_52 ly1 rfl (idb rfl rfl hn) (rfc hRf rfl rfl rfl rfl) (by decide) dX11_told_1 ?_
  refine g_iload_n hg dX11_told_4 rfl 1 rfl ?_
  obtain ⟨q5, e5, h⟩ := Option.bind_eq_some_iff.mp h
  refine g_callVi (As := [.int x1]) (rest := []) hg (lkX1_hasBore (by omega) hn hRf  e5) cv_X11_203 rfl ly34 (idb rfl rfl hn) rfl rfl (Nat.le_of_ble_eq_true rfl) ⟨Nat.le_refl _, Nat.le_refl _⟩ dX11_told_5 ?_
  refine g_if_ne (tgt := 14) hg dX11_told_8 (by decide) (fun c => ?_) (fun c => ?_)
  · replace h := itF c h
    refine g_rload_n hg dX11_told_14 rfl 0 rfl ?_
    refine g_getR (r := 34) hg fl_X11_52 ly1 rfl (idb rfl rfl hn) (rfc hRf rfl rfl rfl rfl) (by decide) dX11_told_15 ?_
    refine g_getR (r := 35) hg fl_X11_148 ly34 rfl (idb rfl rfl hn) (rfc hRf rfl rfl rfl rfl) (by decide) dX11_told_18 ?_
    refine g_iload_n hg dX11_told_21 rfl 1 rfl ?_
    obtain ⟨c22, h⟩ := ck_some h
    refine g_aald3 (r := (38 + 2 * x1.toNatClampNeg)) hg ly35 (idb rfl rfl hn) (inb_vp c22) (nt_rfA (inb_vp c22) hRf) (Nat.lt_of_lt_of_le (by decide) (Nat.le_add_right _ _)) dX11_told_22 ?_
    refine g_rstore_n (lv' := [(3, rr E.1 (38 + 2 * x1.toNatClampNeg)), (0, rr E.1 1), (1, .int x1), (2, .int x2)]) hg dX11_told_23 rfl (by decide) rfl ?_
    refine g_iload_n hg dX11_told_24 rfl 3 rfl ?_
    by_cases c0w : x2 = 0
    · replace h := itT c0w h
      refine g_tabI (tgt := 60) (off := 35) hg dX11_told_25 c0w (by decide) (by decide) ?_
      refine g_rload_n hg dX11_told_60 rfl 0 rfl ?_
      refine g_getI hg fl_X11_161 (nt_lay (nt_of (inb_vp c22))) rfl (nt_bd (nt_of (inb_vp c22)) hn) dX11_told_61 ?_
      replace h := Option.some.inj h
      subst h
      exact g_iret hg hr dX11_told_64
    replace h := itF c0w h
    by_cases c1w : x2 = 1
    · replace h := itT c1w h
      refine g_tabI (tgt := 65) (off := 40) hg dX11_told_25 c1w (by decide) (by decide) ?_
      refine g_rload_n hg dX11_told_65 rfl 0 rfl ?_
      refine g_getI hg fl_X11_164 (nt_lay (nt_of (inb_vp c22))) rfl (nt_bd (nt_of (inb_vp c22)) hn) dX11_told_66 ?_
      replace h := Option.some.inj h
      subst h
      exact g_iret hg hr dX11_told_69
    replace h := itF c1w h
    by_cases c2w : x2 = 2
    · replace h := itT c2w h
      refine g_tabI (tgt := 70) (off := 45) hg dX11_told_25 c2w (by decide) (by decide) ?_
      refine g_rload_n hg dX11_told_70 rfl 0 rfl ?_
      refine g_getI hg fl_X11_206 (nt_lay (nt_of (inb_vp c22))) rfl (nt_bd (nt_of (inb_vp c22)) hn) dX11_told_71 ?_
      replace h := Option.some.inj h
      subst h
      exact g_iret hg hr dX11_told_74
    replace h := itF c2w h
    by_cases c3w : x2 = 3
    · replace h := itT c3w h
      refine g_tabI (tgt := 75) (off := 50) hg dX11_told_25 c3w (by decide) (by decide) ?_
      refine g_rload_n hg dX11_told_75 rfl 0 rfl ?_
      refine g_getI hg fl_X11_213 (nt_lay (nt_of (inb_vp c22))) rfl (nt_bd (nt_of (inb_vp c22)) hn) dX11_told_76 ?_
      replace h := Option.some.inj h
      subst h
      exact g_iret hg hr dX11_told_79
    replace h := itF c3w h
    by_cases c4w : x2 = 4
    · replace h := itT c4w h
      refine g_tabI (tgt := 80) (off := 55) hg dX11_told_25 c4w (by decide) (by decide) ?_
      refine g_rload_n hg dX11_told_80 rfl 0 rfl ?_
      refine g_getI hg fl_X11_216 (nt_lay (nt_of (inb_vp c22))) rfl (nt_bd (nt_of (inb_vp c22)) hn) dX11_told_81 ?_
      replace h := Option.some.inj h
      subst h
      exact g_iret hg hr dX11_told_84
    replace h := itF c4w h
    refine g_tabO (tgt := 85) hg dX11_told_25 (by have e0w := lv_neT (a := 0) c0w (by decide); have e1w := lv_neT (a := 1) c1w (by decide); have e2w := lv_neT (a := 2) c2w (by decide); have e3w := lv_neT (a := 3) c3w (by decide); have e4w := lv_neT (a := 4) c4w (by decide); omega) (by decide) ?_
    refine g_bipush hg dX11_told_85 kB_m2 ?_
    replace h := Option.some.inj h
    subst h
    exact g_iret hg hr dX11_told_87
  · replace h := itT c h
    refine g_bipush hg dX11_told_11 kB_m2 ?_
    replace h := Option.some.inj h
    subst h
    exact g_iret hg hr dX11_told_13
theorem lkX6_far {l0 : Launch} {E : En} {d n : Nat} {Rf : Nat → Nat → Nat} {ex : Bool} {kq : Nat × Nat} (hd : 1 ≤ d) (hn : 34 ≤ n) (hRf : RfOk 22 34 kq Rf) {x1 : Int32} {x2 : Int32} {M : Mm} {q : Int32 × Mm} (h : sX6_far x1 x2 M = some q) : Ct l0 E yX6_far cX6_far 3 (some .int) d 0 0 [rr E.1 22, .int x1, .int x2] ex n Rf M n Rf (some (.int q.1)) q.2 := by
  obtain ⟨d, rfl⟩ := Nat.exists_eq_add_of_le' hd
  refine Ct.of pnX6 (Nat.le_of_ble_eq_true rfl) (fun g hg hr _ => ?_)
  replace hg : Ok g l0 E cX6_far RX6 3 (d + 1) 0 0 := hg
  show WG g E 3 n Rf ex 0 0 0 [(0, rr E.1 22), (1, .int x1), (2, .int x2)] [] M
  unfold sX6_far at h
  refine g_rload_n hg dX6_far_0 rfl 0 rfl ?_
  refine g_getR (r := 29) hg fl_X6_16 ly22 rfl (idb rfl rfl hn) (rfc hRf rfl rfl rfl rfl) (by decide) dX6_far_1 ?_
  refine g_iload_n hg dX6_far_4 rfl 1 rfl ?_
  obtain ⟨c5, h⟩ := ck_some h
  refine g_iald hg ly29 (idb rfl rfl hn) (inb_vp c5) dX6_far_5 ?_
  refine g_rload_n hg dX6_far_6 rfl 0 rfl ?_
  refine g_getR (r := 29) hg fl_X6_16 ly22 rfl (idb rfl rfl hn) (rfc hRf rfl rfl rfl rfl) (by decide) dX6_far_7 ?_
  refine g_iload_n hg dX6_far_10 rfl 2 rfl ?_
  obtain ⟨c11, h⟩ := ck_some h
  refine g_iald hg ly29 (idb rfl rfl hn) (inb_vp c11) dX6_far_11 ?_
  refine g_isub hg dX6_far_12 ?_
  refine g_mabs hg mw_X6_70 (Nat.le_of_ble_eq_true rfl) ⟨Nat.le_refl _, Nat.le_refl _⟩ dX6_far_13 ?_
  refine g_rload_n hg dX6_far_16 rfl 0 rfl ?_
  refine g_getR (r := 30) hg fl_X6_20 ly22 rfl (idb rfl rfl hn) (rfc hRf rfl rfl rfl rfl) (by decide) dX6_far_17 ?_
  refine g_iload_n hg dX6_far_20 rfl 1 rfl ?_
  obtain ⟨c21, h⟩ := ck_some h
  refine g_iald hg ly30 (idb rfl rfl hn) (inb_vp c21) dX6_far_21 ?_
  refine g_rload_n hg dX6_far_22 rfl 0 rfl ?_
  refine g_getR (r := 30) hg fl_X6_20 ly22 rfl (idb rfl rfl hn) (rfc hRf rfl rfl rfl rfl) (by decide) dX6_far_23 ?_
  refine g_iload_n hg dX6_far_26 rfl 2 rfl ?_
  obtain ⟨c27, h⟩ := ck_some h
  refine g_iald hg ly30 (idb rfl rfl hn) (inb_vp c27) dX6_far_27 ?_
  refine g_isub hg dX6_far_28 ?_
  refine g_mabs hg mw_X6_70 (Nat.le_of_ble_eq_true rfl) ⟨Nat.le_refl _, Nat.le_refl _⟩ dX6_far_29 ?_
  refine g_mmax hg mw_X6_76 (Nat.le_of_ble_eq_true rfl) ⟨Nat.le_refl _, Nat.le_refl _⟩ dX6_far_32 ?_
  replace h := Option.some.inj h
  subst h
  exact g_iret hg hr dX6_far_35
theorem lkX6_likeness_79 {g : Gm} {l0 : Launch} {E : En} {d n : Nat} {Rf : Nat → Nat → Nat} {ex : Bool} {kq : Nat × Nat} (hn : 34 ≤ n) (hRf : RfOk 22 34 kq Rf) (hg : Ok g l0 E cX6_likeness RX6 4 (d + 2) 0 0) {q : Int32 × Mm} (hr : Ret g E 0 0 (some .int) ex n Rf (some (.int q.1)) q.2) : ∀ (x1 : Int32) (x2 : Int32) (s0 : Int32) (s1 : Int32) (M : Mm), sX6_likeness_79 x1 x2 s0 s1 M = some q → WG g E 4 n Rf ex 0 0 79 [(0, rr E.1 22), (1, .int x1), (2, .int x2)] [.int s1, .int s0] M := by
  intro x1 x2 s0 s1 M h
  unfold sX6_likeness_79 at h
  refine g_iadd hg dX6_likeness_79 ?_
  refine g_istore_n (lv' := [(3, .int (s0 + s1)), (0, rr E.1 22), (1, .int x1), (2, .int x2)]) hg dX6_likeness_80 rfl (by decide) rfl ?_
  refine g_iload_n hg dX6_likeness_81 rfl 0 rfl ?_
  refine g_iconst hg dX6_likeness_82 kI_0 ?_
  refine g_bipush hg dX6_likeness_83 kB_6 ?_
  refine g_rload_n hg dX6_likeness_85 rfl 1 rfl ?_
  refine g_iload_n hg dX6_likeness_86 rfl 2 rfl ?_
  refine g_iload_n hg dX6_likeness_87 rfl 3 rfl ?_
  obtain ⟨q88, e88, h⟩ := Option.bind_eq_some_iff.mp h
  refine g_callVi (As := [.int x1, .int x2]) (rest := [.int 6, .int 0, .int (s0 + s1)]) hg (lkX6_far (by omega) hn hRf  e88) cv_X6_80 rfl ly22 (idb rfl rfl hn) rfl rfl (Nat.le_of_ble_eq_true rfl) ⟨Nat.le_refl _, Nat.le_refl _⟩ dX6_likeness_88 ?_
  refine g_isub hg dX6_likeness_91 ?_
  refine g_mmax hg mw_X6_76 (Nat.le_of_ble_eq_true rfl) ⟨Nat.le_refl _, Nat.le_refl _⟩ dX6_likeness_92 ?_
  refine g_iadd hg dX6_likeness_95 ?_
  replace h := Option.some.inj h
  subst h
  exact g_iret hg hr dX6_likeness_96
theorem lkX6_likeness_78 {g : Gm} {l0 : Launch} {E : En} {d n : Nat} {Rf : Nat → Nat → Nat} {ex : Bool} {kq : Nat × Nat} (hn : 34 ≤ n) (hRf : RfOk 22 34 kq Rf) (hg : Ok g l0 E cX6_likeness RX6 4 (d + 2) 0 0) {q : Int32 × Mm} (hr : Ret g E 0 0 (some .int) ex n Rf (some (.int q.1)) q.2) : ∀ (x1 : Int32) (x2 : Int32) (s0 : Int32) (M : Mm), sX6_likeness_78 x1 x2 s0 M = some q → WG g E 4 n Rf ex 0 0 78 [(0, rr E.1 22), (1, .int x1), (2, .int x2)] [.int s0] M := by
  intro x1 x2 s0 M h
  unfold sX6_likeness_78 at h
  refine g_iconst hg dX6_likeness_78 kI_0 ?_
  exact lkX6_likeness_79 hn hRf hg hr  _ _ _ _ _ h
theorem lkX6_likeness_46 {g : Gm} {l0 : Launch} {E : En} {d n : Nat} {Rf : Nat → Nat → Nat} {ex : Bool} {kq : Nat × Nat} (hn : 34 ≤ n) (hRf : RfOk 22 34 kq Rf) (hg : Ok g l0 E cX6_likeness RX6 4 (d + 2) 0 0) {q : Int32 × Mm} (hr : Ret g E 0 0 (some .int) ex n Rf (some (.int q.1)) q.2) : ∀ (x1 : Int32) (x2 : Int32) (s0 : Int32) (s1 : Int32) (M : Mm), sX6_likeness_46 x1 x2 s0 s1 M = some q → WG g E 4 n Rf ex 0 0 46 [(0, rr E.1 22), (1, .int x1), (2, .int x2)] [.int s1, .int s0] M := by
  intro x1 x2 s0 s1 M h
  unfold sX6_likeness_46 at h
  refine g_iadd hg dX6_likeness_46 ?_
  refine g_istore_n (lv' := [(3, .int (s0 + s1)), (0, rr E.1 22), (1, .int x1), (2, .int x2)]) hg dX6_likeness_47 rfl (by decide) rfl ?_
  refine g_iload_n hg dX6_likeness_48 rfl 0 rfl ?_
  refine g_rload_n hg dX6_likeness_49 rfl 1 rfl ?_
  refine g_getR (r := 33) hg fl_X6_29 ly22 rfl (idb rfl rfl hn) (rfc hRf rfl rfl rfl rfl) (by decide) dX6_likeness_50 ?_
  refine g_iload_n hg dX6_likeness_53 rfl 2 rfl ?_
  obtain ⟨c54, h⟩ := ck_some h
  refine g_iald hg ly33 (idb rfl rfl hn) (inb_vp c54) dX6_likeness_54 ?_
  refine g_iconst hg dX6_likeness_55 kI_m1 ?_
  refine g_icmp_eq (tgt := 78) hg dX6_likeness_56 (by decide) (fun c => ?_) (fun c => ?_)
  · replace h := itT c h
    refine g_sub (lv' := [(0, rr E.1 22), (1, .int x1), (2, .int x2)]) [1, 2, 3] rfl ?_
    exact lkX6_likeness_78 hn hRf hg hr  _ _ _ _ h
  · replace h := itF c h
    refine g_rload_n hg dX6_likeness_59 rfl 1 rfl ?_
    refine g_getR (r := 33) hg fl_X6_29 ly22 rfl (idb rfl rfl hn) (rfc hRf rfl rfl rfl rfl) (by decide) dX6_likeness_60 ?_
    refine g_iload_n hg dX6_likeness_63 rfl 2 rfl ?_
    obtain ⟨c64, h⟩ := ck_some h
    refine g_iald hg ly33 (idb rfl rfl hn) (inb_vp c64) dX6_likeness_64 ?_
    refine g_rload_n hg dX6_likeness_65 rfl 1 rfl ?_
    refine g_getR (r := 33) hg fl_X6_29 ly22 rfl (idb rfl rfl hn) (rfc hRf rfl rfl rfl rfl) (by decide) dX6_likeness_66 ?_
    refine g_iload_n hg dX6_likeness_69 rfl 3 rfl ?_
    obtain ⟨c70, h⟩ := ck_some h
    refine g_iald hg ly33 (idb rfl rfl hn) (inb_vp c70) dX6_likeness_70 ?_
    refine g_icmp_ne (tgt := 78) hg dX6_likeness_71 (by decide) (fun c => ?_) (fun c => ?_)
    · replace h := itF c h
      refine g_sub (lv' := [(0, rr E.1 22), (1, .int x1), (2, .int x2)]) [1, 2, 3] rfl ?_
      exact lkX6_likeness_78 hn hRf hg hr  _ _ _ _ h
    · replace h := itT c h
      refine g_iconst hg dX6_likeness_74 kI_2 ?_
      refine g_goto (tgt := 79) hg dX6_likeness_75 (by decide) ?_
      refine g_sub (lv' := [(0, rr E.1 22), (1, .int x1), (2, .int x2)]) [1, 2, 3] rfl ?_
      exact lkX6_likeness_79 hn hRf hg hr  _ _ _ _ _ h
theorem lkX6_likeness_24 {g : Gm} {l0 : Launch} {E : En} {d n : Nat} {Rf : Nat → Nat → Nat} {ex : Bool} {kq : Nat × Nat} (hn : 34 ≤ n) (hRf : RfOk 22 34 kq Rf) (hg : Ok g l0 E cX6_likeness RX6 4 (d + 2) 0 0) {q : Int32 × Mm} (hr : Ret g E 0 0 (some .int) ex n Rf (some (.int q.1)) q.2) : ∀ (x1 : Int32) (x2 : Int32) (s0 : Int32) (M : Mm), sX6_likeness_24 x1 x2 s0 M = some q → WG g E 4 n Rf ex 0 0 24 [(0, rr E.1 22), (1, .int x1), (2, .int x2)] [.int s0] M := by
  intro x1 x2 s0 M h
  unfold sX6_likeness_24 at h
  refine g_istore_n (lv' := [(3, .int s0), (0, rr E.1 22), (1, .int x1), (2, .int x2)]) hg dX6_likeness_24 rfl (by decide) rfl ?_
  refine g_iload_n hg dX6_likeness_25 rfl 0 rfl ?_
  refine g_rload_n hg dX6_likeness_26 rfl 1 rfl ?_
  refine g_getR (r := 32) hg fl_X6_26 ly22 rfl (idb rfl rfl hn) (rfc hRf rfl rfl rfl rfl) (by decide) dX6_likeness_27 ?_
  refine g_iload_n hg dX6_likeness_30 rfl 2 rfl ?_
  obtain ⟨c31, h⟩ := ck_some h
  refine g_iald hg ly32 (idb rfl rfl hn) (inb_vp c31) dX6_likeness_31 ?_
  refine g_rload_n hg dX6_likeness_32 rfl 1 rfl ?_
  refine g_getR (r := 32) hg fl_X6_26 ly22 rfl (idb rfl rfl hn) (rfc hRf rfl rfl rfl rfl) (by decide) dX6_likeness_33 ?_
  refine g_iload_n hg dX6_likeness_36 rfl 3 rfl ?_
  obtain ⟨c37, h⟩ := ck_some h
  refine g_iald hg ly32 (idb rfl rfl hn) (inb_vp c37) dX6_likeness_37 ?_
  refine g_icmp_ne (tgt := 45) hg dX6_likeness_38 (by decide) (fun c => ?_) (fun c => ?_)
  · rw [if_neg c] at h
    refine g_iconst hg dX6_likeness_45 kI_0 ?_
    refine g_sub (lv' := [(0, rr E.1 22), (1, .int x1), (2, .int x2)]) [1, 2, 3] rfl ?_
    exact lkX6_likeness_46 hn hRf hg hr  _ _ _ _ _ h
  · rw [if_pos c] at h
    refine g_iconst hg dX6_likeness_41 kI_2 ?_
    refine g_goto (tgt := 46) hg dX6_likeness_42 (by decide) ?_
    refine g_sub (lv' := [(0, rr E.1 22), (1, .int x1), (2, .int x2)]) [1, 2, 3] rfl ?_
    exact lkX6_likeness_46 hn hRf hg hr  _ _ _ _ _ h
theorem lkX6_likeness {l0 : Launch} {E : En} {d n : Nat} {Rf : Nat → Nat → Nat} {ex : Bool} {kq : Nat × Nat} (hd : 2 ≤ d) (hn : 34 ≤ n) (hRf : RfOk 22 34 kq Rf) {x1 : Int32} {x2 : Int32} {M : Mm} {q : Int32 × Mm} (h : sX6_likeness x1 x2 M = some q) : Ct l0 E yX6_likeness cX6_likeness 4 (some .int) d 0 0 [rr E.1 22, .int x1, .int x2] ex n Rf M n Rf (some (.int q.1)) q.2 := by
  obtain ⟨d, rfl⟩ := Nat.exists_eq_add_of_le' hd
  refine Ct.of pnX6 (Nat.le_of_ble_eq_true rfl) (fun g hg hr _ => ?_)
  replace hg : Ok g l0 E cX6_likeness RX6 4 (d + 2) 0 0 := hg
  show WG g E 4 n Rf ex 0 0 0 [(0, rr E.1 22), (1, .int x1), (2, .int x2)] [] M
  unfold sX6_likeness at h
  refine g_rload_n hg dX6_likeness_0 rfl 0 rfl ?_
  refine g_getR (r := 23) hg fl_X6_13 ly22 rfl (idb rfl rfl hn) (rfc hRf rfl rfl rfl rfl) (by decide) dX6_likeness_1 ?_
  refine g_iconst hg dX6_likeness_4 kI_1 ?_
  obtain ⟨c5, h⟩ := ck_some h
  refine g_aald4 (r := (24 + ((1 : Int32).toNatClampNeg))) hg ly23 (idb rfl rfl hn) (inb_vp c5) (fr23_rf (inb_vp c5) hRf) (Nat.lt_of_lt_of_le (by decide) (Nat.le_add_right _ _)) dX6_likeness_5 ?_
  refine g_iload_n hg dX6_likeness_6 rfl 1 rfl ?_
  obtain ⟨c7, h⟩ := ck_some h
  refine g_iald hg (fr23_lay (inb_vp c5)) (fr23_bd (inb_vp c5) hn) (inb_vp c7) dX6_likeness_7 ?_
  refine g_rload_n hg dX6_likeness_8 rfl 0 rfl ?_
  refine g_getR (r := 23) hg fl_X6_13 ly22 rfl (idb rfl rfl hn) (rfc hRf rfl rfl rfl rfl) (by decide) dX6_likeness_9 ?_
  refine g_iconst hg dX6_likeness_12 kI_1 ?_
  obtain ⟨c13, h⟩ := ck_some h
  refine g_aald4 (r := (24 + ((1 : Int32).toNatClampNeg))) hg ly23 (idb rfl rfl hn) (inb_vp c13) (fr23_rf (inb_vp c13) hRf) (Nat.lt_of_lt_of_le (by decide) (Nat.le_add_right _ _)) dX6_likeness_13 ?_
  refine g_iload_n hg dX6_likeness_14 rfl 2 rfl ?_
  obtain ⟨c15, h⟩ := ck_some h
  refine g_iald hg (fr23_lay (inb_vp c13)) (fr23_bd (inb_vp c13) hn) (inb_vp c15) dX6_likeness_15 ?_
  refine g_icmp_ne (tgt := 23) hg dX6_likeness_16 (by decide) (fun c => ?_) (fun c => ?_)
  · rw [if_neg c] at h
    refine g_iconst hg dX6_likeness_23 kI_0 ?_
    exact lkX6_likeness_24 hn hRf hg hr  _ _ _ _ h
  · rw [if_pos c] at h
    refine g_iconst hg dX6_likeness_19 kI_4 ?_
    refine g_goto (tgt := 24) hg dX6_likeness_20 (by decide) ?_
    exact lkX6_likeness_24 hn hRf hg hr  _ _ _ _ h
theorem lkX11_like {l0 : Launch} {E : En} {d n : Nat} {Rf : Nat → Nat → Nat} {ex : Bool} {kq : Nat × Nat} (hd : 3 ≤ d) (hn : 239 ≤ n) (hRf : RfOk 1 239 kq Rf) {x1 : Int32} {x2 : Int32} {M : Mm} {q : Int32 × Mm} (h : sX11_like x1 x2 M = some q) : Ct l0 E yX11_like cX11_like 3 (some .int) d 0 0 [rr E.1 1, .int x1, .int x2] ex n Rf M n Rf (some (.int q.1)) q.2 := by
  obtain ⟨d, rfl⟩ := Nat.exists_eq_add_of_le' hd
  refine Ct.of pnX11 (Nat.le_of_ble_eq_true rfl) (fun g hg hr _ => ?_)
  replace hg : Ok g l0 E cX11_like RX11 3 (d + 3) 0 0 := hg
  show WG g E 3 n Rf ex 0 0 0 [(0, rr E.1 1), (1, .int x1), (2, .int x2)] [] M
  unfold sX11_like at h
  refine g_rload_n hg dX11_like_0 rfl 0 rfl ?_
  refine g_getR (r := 22) hg fl_X11_45 ly1 rfl (idb rfl rfl hn) (rfc hRf rfl rfl rfl rfl) (by decide) dX11_like_1 ?_
  refine g_iload_n hg dX11_like_4 rfl 1 rfl ?_
  obtain ⟨q5, e5, h⟩ := Option.bind_eq_some_iff.mp h
  refine g_callVi (As := [.int x1]) (rest := []) hg (lkX6_hasCell (by omega) (Nat.le_trans (by decide : 34 ≤ 239) hn) (hRf.mono (by decide) (by decide))  e5) cv_X11_142 rfl ly22 (idb rfl rfl hn) rfl rfl (Nat.le_of_ble_eq_true rfl) ⟨Nat.le_refl _, Nat.le_refl _⟩ dX11_like_5 ?_
  refine g_if_eq (tgt := 34) hg dX11_like_8 (by decide) (fun c => ?_) (fun c => ?_)
  · replace h := itT c h
    refine g_iconst hg dX11_like_34 kI_m1 ?_
    replace h := Option.some.inj h
    subst h
    exact g_iret hg hr dX11_like_35
  · replace h := itF c h
    refine g_rload_n hg dX11_like_11 rfl 0 rfl ?_
    refine g_getR (r := 22) hg fl_X11_45 ly1 rfl (idb rfl rfl hn) (rfc hRf rfl rfl rfl rfl) (by decide) dX11_like_12 ?_
    refine g_iload_n hg dX11_like_15 rfl 2 rfl ?_
    obtain ⟨q16, e16, h⟩ := Option.bind_eq_some_iff.mp h
    refine g_callVi (As := [.int x2]) (rest := []) hg (lkX6_hasCell (by omega) (Nat.le_trans (by decide : 34 ≤ 239) hn) (hRf.mono (by decide) (by decide))  e16) cv_X11_142 rfl ly22 (idb rfl rfl hn) rfl rfl (Nat.le_of_ble_eq_true rfl) ⟨Nat.le_refl _, Nat.le_refl _⟩ dX11_like_16 ?_
    refine g_if_eq (tgt := 34) hg dX11_like_19 (by decide) (fun c => ?_) (fun c => ?_)
    · replace h := itT c h
      refine g_iconst hg dX11_like_34 kI_m1 ?_
      replace h := Option.some.inj h
      subst h
      exact g_iret hg hr dX11_like_35
    · replace h := itF c h
      refine g_rload_n hg dX11_like_22 rfl 0 rfl ?_
      refine g_getR (r := 22) hg fl_X11_45 ly1 rfl (idb rfl rfl hn) (rfc hRf rfl rfl rfl rfl) (by decide) dX11_like_23 ?_
      refine g_iload_n hg dX11_like_26 rfl 1 rfl ?_
      refine g_iload_n hg dX11_like_27 rfl 2 rfl ?_
      obtain ⟨q28, e28, h⟩ := Option.bind_eq_some_iff.mp h
      refine g_callVi (As := [.int x1, .int x2]) (rest := []) hg (lkX6_likeness (by omega) (Nat.le_trans (by decide : 34 ≤ 239) hn) (hRf.mono (by decide) (by decide))  e28) cv_X11_244 rfl ly22 (idb rfl rfl hn) rfl rfl (Nat.le_of_ble_eq_true rfl) ⟨Nat.le_refl _, Nat.le_refl _⟩ dX11_like_28 ?_
      refine g_goto (tgt := 35) hg dX11_like_31 (by decide) ?_
      replace h := Option.some.inj h
      subst h
      exact g_iret hg hr dX11_like_35
theorem lkX1_knows {l0 : Launch} {E : En} {d n : Nat} {Rf : Nat → Nat → Nat} {ex : Bool} {kq : Nat × Nat} (hd : 1 ≤ d) (hn : 239 ≤ n) (hRf : RfOk 1 239 kq Rf) {x1 : Int32} {M : Mm} {q : Int32 × Mm} (h : sX1_knows x1 M = some q) : Ct l0 E yX1_knows cX1_knows 2 (some .boolean) d 0 0 [rr E.1 34, .int x1] ex n Rf M n Rf (some (.int q.1)) q.2 := by
  obtain ⟨d, rfl⟩ := Nat.exists_eq_add_of_le' hd
  refine Ct.of pnX1 (Nat.le_of_ble_eq_true rfl) (fun g hg hr _ => ?_)
  replace hg : Ok g l0 E cX1_knows RX1 2 (d + 1) 0 0 := hg
  show WG g E 2 n Rf ex 0 0 0 [(0, rr E.1 34), (1, .int x1)] [] M
  unfold sX1_knows at h
  refine g_iload_n hg dX1_knows_0 rfl 1 rfl ?_
  refine g_if_lt (tgt := 16) hg dX1_knows_1 (by decide) (fun c => ?_) (fun c => ?_)
  · rw [if_pos c] at h
    refine g_iconst hg dX1_knows_16 kI_0 ?_
    replace h := Option.some.inj h
    subst h
    exact g_zret hg hr rfl dX1_knows_17
  · rw [if_neg c] at h
    refine g_iload_n hg dX1_knows_4 rfl 1 rfl ?_
    refine g_rload_n hg dX1_knows_5 rfl 0 rfl ?_
    refine g_getI hg fl_X1_26 ly34 rfl (idb rfl rfl hn) dX1_knows_6 ?_
    refine g_icmp_gt (tgt := 16) hg dX1_knows_9 (by decide) (fun c => ?_) (fun c => ?_)
    · rw [if_pos c] at h
      refine g_iconst hg dX1_knows_16 kI_0 ?_
      replace h := Option.some.inj h
      subst h
      exact g_zret hg hr rfl dX1_knows_17
    · rw [if_neg c] at h
      refine g_iconst hg dX1_knows_12 kI_1 ?_
      refine g_goto (tgt := 17) hg dX1_knows_13 (by decide) ?_
      replace h := Option.some.inj h
      subst h
      exact g_zret hg hr rfl dX1_knows_17
theorem lkX1_findStruck_74 {g : Gm} {l0 : Launch} {E : En} {d n : Nat} {Rf : Nat → Nat → Nat} {ex : Bool} {kq : Nat × Nat} (hn : 239 ≤ n) (hRf : RfOk 1 239 kq Rf) (hg : Ok g l0 E cX1_findStruck RX1 5 (d + 1) 0 0) {q : Mm} (hr : Ret g E 0 0 none ex n Rf none q) {k31 : Int32 → Mm → Option (Mm)} (hk31 : ∀ (x3 : Int32) (M : Mm), k31 x3 M = some q → WG g E 5 n Rf ex 0 0 31 [(0, rr E.1 34), (3, .int x3)] [] M) : ∀ (x3 : Int32) (M : Mm), sX1_findStruck_74 k31 x3 M = some q → WG g E 5 n Rf ex 0 0 74 [(0, rr E.1 34), (3, .int x3)] [] M := by
  intro x3 M h
  unfold sX1_findStruck_74 at h
  refine g_inc (lv' := [(3, .int (x3 + (-1))), (0, rr E.1 34)]) hg dX1_findStruck_74 kI_m1 1 rfl (by decide) rfl ?_
  refine g_goto (tgt := 31) hg dX1_findStruck_77 (by decide) ?_
  refine g_sub (lv' := [(0, rr E.1 34), (3, .int (x3 + (-1)))]) [1, 0] rfl ?_
  exact hk31 _ _ h
theorem lkX1_findStruck_31 {g : Gm} {l0 : Launch} {E : En} {d n : Nat} {Rf : Nat → Nat → Nat} {ex : Bool} {kq : Nat × Nat} (hn : 239 ≤ n) (hRf : RfOk 1 239 kq Rf) (hg : Ok g l0 E cX1_findStruck RX1 5 (d + 1) 0 0) {q : Mm} (hr : Ret g E 0 0 none ex n Rf none q) : ∀ (F : Nat) (x3 : Int32) (M : Mm), sX1_findStruck_31 F x3 M = some q → WG g E 5 n Rf ex 0 0 31 [(0, rr E.1 34), (3, .int x3)] [] M := by
  intro F
  induction F with
  | zero =>
    intro x3 M h
    cases h
  | succ F ih =>
    intro x3 M h
    rw [sX1_findStruck_31] at h
    refine g_iload_n hg dX1_findStruck_31 rfl 1 rfl ?_
    refine g_if_lt (tgt := 80) hg dX1_findStruck_32 (by decide) (fun c => ?_) (fun c => ?_)
    · replace h := itT c h
      replace h := Option.some.inj h
      subst h
      exact g_vret hg hr dX1_findStruck_80
    · replace h := itF c h
      refine g_rload_n hg dX1_findStruck_35 rfl 0 rfl ?_
      refine g_getR (r := 35) hg fl_X1_11 ly34 rfl (idb rfl rfl hn) (rfc hRf rfl rfl rfl rfl) (by decide) dX1_findStruck_36 ?_
      refine g_iload_n hg dX1_findStruck_39 rfl 1 rfl ?_
      obtain ⟨c40, h⟩ := ck_some h
      refine g_aald3 (r := (38 + 2 * x3.toNatClampNeg)) hg ly35 (idb rfl rfl hn) (inb_vp c40) (nt_rfA (inb_vp c40) hRf) (Nat.lt_of_lt_of_le (by decide) (Nat.le_add_right _ _)) dX1_findStruck_40 ?_
      refine g_getI hg fl_X1_34 (nt_lay (nt_of (inb_vp c40))) rfl (nt_bd (nt_of (inb_vp c40)) hn) dX1_findStruck_41 ?_
      refine g_istore (lv' := [(4, .int (M.1 (38 + 2 * x3.toNatClampNeg) 0)), (0, rr E.1 34), (3, .int x3)]) hg dX1_findStruck_44 (by decide) rfl ?_
      refine g_iload hg dX1_findStruck_46 0 rfl ?_
      refine g_if_lt (tgt := 74) hg dX1_findStruck_48 (by decide) (fun c => ?_) (fun c => ?_)
      · replace h := itT c h
        refine g_sub (lv' := [(0, rr E.1 34), (3, .int x3)]) [1, 2] rfl ?_
        exact lkX1_findStruck_74 hn hRf hg hr ih _ _ h
      · replace h := itF c h
        refine g_iload hg dX1_findStruck_51 0 rfl ?_
        refine g_iload_n hg dX1_findStruck_53 rfl 2 rfl ?_
        refine g_icmp_ge (tgt := 74) hg dX1_findStruck_54 (by decide) (fun c => ?_) (fun c => ?_)
        · replace h := itT c h
          refine g_sub (lv' := [(0, rr E.1 34), (3, .int x3)]) [1, 2] rfl ?_
          exact lkX1_findStruck_74 hn hRf hg hr ih _ _ h
        · replace h := itF c h
          refine g_rload_n hg dX1_findStruck_57 rfl 1 rfl ?_
          refine g_getR (r := 37) hg fl_X1_21 ly34 rfl (idb rfl rfl hn) (rfc hRf rfl rfl rfl rfl) (by decide) dX1_findStruck_58 ?_
          refine g_iload_n hg dX1_findStruck_61 rfl 2 rfl ?_
          obtain ⟨c62, h⟩ := ck_some h
          refine g_zald hg ly37 (idb rfl rfl hn) (inb_vp c62) dX1_findStruck_62 ?_
          refine g_if_ne (tgt := 74) hg dX1_findStruck_63 (by decide) (fun c => ?_) (fun c => ?_)
          · replace h := itF c h
            refine g_sub (lv' := [(0, rr E.1 34), (3, .int x3)]) [1, 2] rfl ?_
            exact lkX1_findStruck_74 hn hRf hg hr ih _ _ h
          · replace h := itT c h
            refine g_rload_n hg dX1_findStruck_66 rfl 1 rfl ?_
            refine g_getR (r := 37) hg fl_X1_21 ly34 rfl (idb rfl rfl hn) (rfc hRf rfl rfl rfl rfl) (by decide) dX1_findStruck_67 ?_
            refine g_iload hg dX1_findStruck_70 0 rfl ?_
            refine g_iconst hg dX1_findStruck_72 kI_1 ?_
            obtain ⟨c73, h⟩ := ck_some h
            refine g_zast hg ly37 (idb rfl rfl hn) (inb_vp c73) rfl dX1_findStruck_73 ?_
            refine g_sub (lv' := [(0, rr E.1 34), (3, .int x3)]) [1, 2] rfl ?_
            exact lkX1_findStruck_74 hn hRf hg hr ih _ _ h
theorem lkX1_findStruck_9 {g : Gm} {l0 : Launch} {E : En} {d n : Nat} {Rf : Nat → Nat → Nat} {ex : Bool} {kq : Nat × Nat} (hn : 239 ≤ n) (hRf : RfOk 1 239 kq Rf) (hg : Ok g l0 E cX1_findStruck RX1 5 (d + 1) 0 0) {q : Mm} (hr : Ret g E 0 0 none ex n Rf none q) : ∀ (F : Nat) (x2 : Int32) (x3 : Int32) (M : Mm), sX1_findStruck_9 F x2 x3 M = some q → WG g E 5 n Rf ex 0 0 9 [(0, rr E.1 34), (2, .int x2), (3, .int x3)] [] M := by
  intro F
  induction F with
  | zero =>
    intro x2 x3 M h
    cases h
  | succ F ih =>
    intro x2 x3 M h
    rw [sX1_findStruck_9] at h
    refine g_iload_n hg dX1_findStruck_9 rfl 2 rfl ?_
    refine g_iload_n hg dX1_findStruck_10 rfl 1 rfl ?_
    refine g_icmp_ge (tgt := 27) hg dX1_findStruck_11 (by decide) (fun c => ?_) (fun c => ?_)
    · replace h := itT c h
      refine g_iload_n hg dX1_findStruck_27 rfl 1 rfl ?_
      refine g_iconst hg dX1_findStruck_28 kI_1 ?_
      refine g_isub hg dX1_findStruck_29 ?_
      refine g_istore_n (lv' := [(3, .int (x2 - 1)), (0, rr E.1 34), (2, .int x2)]) hg dX1_findStruck_30 rfl (by decide) rfl ?_
      refine g_sub (lv' := [(0, rr E.1 34), (3, .int (x2 - 1))]) [1, 0] rfl ?_
      exact lkX1_findStruck_31 hn hRf hg hr  4096 _ _ h
    · replace h := itF c h
      refine g_rload_n hg dX1_findStruck_14 rfl 0 rfl ?_
      refine g_getR (r := 37) hg fl_X1_21 ly34 rfl (idb rfl rfl hn) (rfc hRf rfl rfl rfl rfl) (by decide) dX1_findStruck_15 ?_
      refine g_iload_n hg dX1_findStruck_18 rfl 2 rfl ?_
      refine g_iconst hg dX1_findStruck_19 kI_0 ?_
      obtain ⟨c20, h⟩ := ck_some h
      refine g_zast hg ly37 (idb rfl rfl hn) (inb_vp c20) rfl dX1_findStruck_20 ?_
      refine g_inc (lv' := [(3, .int (x3 + 1)), (0, rr E.1 34), (2, .int x2)]) hg dX1_findStruck_21 kI_1 2 rfl (by decide) rfl ?_
      refine g_goto (tgt := 9) hg dX1_findStruck_24 (by decide) ?_
      refine g_sub (lv' := [(0, rr E.1 34), (2, .int x2), (3, .int (x3 + 1))]) [1, 2, 0] rfl ?_
      exact ih _ _ _ h
theorem lkX1_findStruck {l0 : Launch} {E : En} {d n : Nat} {Rf : Nat → Nat → Nat} {ex : Bool} {kq : Nat × Nat} (hd : 1 ≤ d) (hn : 239 ≤ n) (hRf : RfOk 1 239 kq Rf) {x1 : Int32} {M : Mm} {q : Mm} (h : sX1_findStruck x1 M = some q) : Ct l0 E yX1_findStruck cX1_findStruck 5 none d 0 0 [rr E.1 34, .int x1] ex n Rf M n Rf none q := by
  obtain ⟨d, rfl⟩ := Nat.exists_eq_add_of_le' hd
  refine Ct.of pnX1 (Nat.le_of_ble_eq_true rfl) (fun g hg hr _ => ?_)
  replace hg : Ok g l0 E cX1_findStruck RX1 5 (d + 1) 0 0 := hg
  show WG g E 5 n Rf ex 0 0 0 [(0, rr E.1 34), (1, .int x1)] [] M
  unfold sX1_findStruck at h
  refine g_iload_n hg dX1_findStruck_0 rfl 1 rfl ?_
  refine g_bipush hg dX1_findStruck_1 kB_60 ?_
  refine g_mmin hg mw_X1_51 (Nat.le_of_ble_eq_true rfl) ⟨Nat.le_refl _, Nat.le_refl _⟩ dX1_findStruck_3 ?_
  refine g_istore_n (lv' := [(2, .int (if 60 < x1 then 60 else x1)), (0, rr E.1 34), (1, .int x1)]) hg dX1_findStruck_6 rfl (by decide) rfl ?_
  refine g_iconst hg dX1_findStruck_7 kI_0 ?_
  refine g_istore_n (lv' := [(3, .int 0), (2, .int (if 60 < x1 then 60 else x1)), (0, rr E.1 34), (1, .int x1)]) hg dX1_findStruck_8 rfl (by decide) rfl ?_
  refine g_sub (lv' := [(0, rr E.1 34), (2, .int (if 60 < x1 then 60 else x1)), (3, .int 0)]) [2, 1, 0] rfl ?_
  exact lkX1_findStruck_9 hn hRf hg hr  4096 _ _ _ h
theorem lkX1_gather_78 {g : Gm} {l0 : Launch} {E : En} {d n : Nat} {Rf : Nat → Nat → Nat} {ex : Bool} {kq : Nat × Nat} (hn : 239 ≤ n) (hRf : RfOk 1 239 kq Rf) (hg : Ok g l0 E cX1_gather RX1 3 (d + 2) 0 0) {q : Mm} (hr : Ret g E 0 0 none ex n Rf none q) {k12 : Int32 → Int32 → Mm → Option (Mm)} (hk12 : ∀ (x1 : Int32) (x2 : Int32) (M : Mm), k12 x1 x2 M = some q → WG g E 3 n Rf ex 0 0 12 [(0, rr E.1 34), (1, .int x1), (2, .int x2)] [] M) : ∀ (x1 : Int32) (x2 : Int32) (M : Mm), sX1_gather_78 k12 x1 x2 M = some q → WG g E 3 n Rf ex 0 0 78 [(0, rr E.1 34), (1, .int x1), (2, .int x2)] [] M := by
  intro x1 x2 M h
  unfold sX1_gather_78 at h
  refine g_inc (lv' := [(2, .int (x2 + 1)), (0, rr E.1 34), (1, .int x1)]) hg dX1_gather_78 kI_1 2 rfl (by decide) rfl ?_
  refine g_goto (tgt := 12) hg dX1_gather_81 (by decide) ?_
  refine g_sub (lv' := [(0, rr E.1 34), (1, .int x1), (2, .int (x2 + 1))]) [1, 2, 0] rfl ?_
  exact hk12 _ _ _ h
theorem lkX1_gather_12 {g : Gm} {l0 : Launch} {E : En} {d n : Nat} {Rf : Nat → Nat → Nat} {ex : Bool} {kq : Nat × Nat} (hn : 239 ≤ n) (hRf : RfOk 1 239 kq Rf) (hg : Ok g l0 E cX1_gather RX1 3 (d + 2) 0 0) {q : Mm} (hr : Ret g E 0 0 none ex n Rf none q) : ∀ (F : Nat) (x1 : Int32) (x2 : Int32) (M : Mm), sX1_gather_12 F x1 x2 M = some q → WG g E 3 n Rf ex 0 0 12 [(0, rr E.1 34), (1, .int x1), (2, .int x2)] [] M := by
  intro F
  induction F with
  | zero =>
    intro x1 x2 M h
    cases h
  | succ F ih =>
    intro x1 x2 M h
    rw [sX1_gather_12] at h
    refine g_iload_n hg dX1_gather_12 rfl 2 rfl ?_
    refine g_iload_n hg dX1_gather_13 rfl 1 rfl ?_
    refine g_icmp_ge (tgt := 84) hg dX1_gather_14 (by decide) (fun c => ?_) (fun c => ?_)
    · replace h := itT c h
      replace h := Option.some.inj h
      subst h
      exact g_vret hg hr dX1_gather_84
    · replace h := itF c h
      refine g_iload_n hg dX1_gather_17 rfl 2 rfl ?_
      refine g_bipush hg dX1_gather_18 kB_60 ?_
      refine g_icmp_ge (tgt := 84) hg dX1_gather_20 (by decide) (fun c => ?_) (fun c => ?_)
      · replace h := itT c h
        replace h := Option.some.inj h
        subst h
        exact g_vret hg hr dX1_gather_84
      · replace h := itF c h
        refine g_rload_n hg dX1_gather_23 rfl 0 rfl ?_
        refine g_getR (r := 35) hg fl_X1_11 ly34 rfl (idb rfl rfl hn) (rfc hRf rfl rfl rfl rfl) (by decide) dX1_gather_24 ?_
        refine g_iload_n hg dX1_gather_27 rfl 2 rfl ?_
        obtain ⟨c28, h⟩ := ck_some h
        refine g_aald3 (r := (38 + 2 * x2.toNatClampNeg)) hg ly35 (idb rfl rfl hn) (inb_vp c28) (nt_rfA (inb_vp c28) hRf) (Nat.lt_of_lt_of_le (by decide) (Nat.le_add_right _ _)) dX1_gather_28 ?_
        refine g_getI hg fl_X1_34 (nt_lay (nt_of (inb_vp c28))) rfl (nt_bd (nt_of (inb_vp c28)) hn) dX1_gather_29 ?_
        refine g_iconst hg dX1_gather_32 kI_m1 ?_
        refine g_icmp_ne (tgt := 78) hg dX1_gather_33 (by decide) (fun c => ?_) (fun c => ?_)
        · replace h := itF c h
          exact lkX1_gather_78 hn hRf hg hr ih _ _ _ h
        · replace h := itT c h
          refine g_rload_n hg dX1_gather_36 rfl 0 rfl ?_
          refine g_getR (r := 37) hg fl_X1_21 ly34 rfl (idb rfl rfl hn) (rfc hRf rfl rfl rfl rfl) (by decide) dX1_gather_37 ?_
          refine g_iload_n hg dX1_gather_40 rfl 2 rfl ?_
          obtain ⟨c41, h⟩ := ck_some h
          refine g_zald hg ly37 (idb rfl rfl hn) (inb_vp c41) dX1_gather_41 ?_
          refine g_if_ne (tgt := 78) hg dX1_gather_42 (by decide) (fun c => ?_) (fun c => ?_)
          · replace h := itF c h
            exact lkX1_gather_78 hn hRf hg hr ih _ _ _ h
          · replace h := itT c h
            refine g_rload_n hg dX1_gather_45 rfl 0 rfl ?_
            refine g_getR (r := 35) hg fl_X1_11 ly34 rfl (idb rfl rfl hn) (rfc hRf rfl rfl rfl rfl) (by decide) dX1_gather_46 ?_
            refine g_iload_n hg dX1_gather_49 rfl 2 rfl ?_
            obtain ⟨c50, h⟩ := ck_some h
            refine g_aald3 (r := (38 + 2 * x2.toNatClampNeg)) hg ly35 (idb rfl rfl hn) (inb_vp c50) (nt_rfA (inb_vp c50) hRf) (Nat.lt_of_lt_of_le (by decide) (Nat.le_add_right _ _)) dX1_gather_50 ?_
            refine g_getI hg fl_X1_48 (nt_lay (nt_of (inb_vp c50))) rfl (nt_bd (nt_of (inb_vp c50)) hn) dX1_gather_51 ?_
            refine g_iconst hg dX1_gather_54 kI_m1 ?_
            refine g_icmp_eq (tgt := 78) hg dX1_gather_55 (by decide) (fun c => ?_) (fun c => ?_)
            · replace h := itT c h
              exact lkX1_gather_78 hn hRf hg hr ih _ _ _ h
            · replace h := itF c h
              refine g_rload_n hg dX1_gather_58 rfl 0 rfl ?_
              refine g_getR (r := 36) hg fl_X1_17 ly34 rfl (idb rfl rfl hn) (rfc hRf rfl rfl rfl rfl) (by decide) dX1_gather_59 ?_
              refine g_rload_n hg dX1_gather_62 rfl 0 rfl ?_
              refine g_getI hg fl_X1_45 ly34 rfl (idb rfl rfl hn) dX1_gather_63 ?_
              refine g_iload_n hg dX1_gather_66 rfl 2 rfl ?_
              obtain ⟨c67, h⟩ := ck_some h
              refine g_iast hg ly36 (idb rfl rfl hn) (inb_vp c67) dX1_gather_67 ?_
              refine g_rload_n hg dX1_gather_68 rfl 0 rfl ?_
              refine g_dup hg dX1_gather_69 rfl ?_
              refine g_getI hg fl_X1_45 ly34 rfl (idb rfl rfl hn) dX1_gather_70 ?_
              refine g_iconst hg dX1_gather_73 kI_1 ?_
              refine g_iadd hg dX1_gather_74 ?_
              refine g_putI hg fp_X1_45 ly34 rfl (idb rfl rfl hn) dX1_gather_75 ?_
              exact lkX1_gather_78 hn hRf hg hr ih _ _ _ h
theorem lkX1_gather {l0 : Launch} {E : En} {d n : Nat} {Rf : Nat → Nat → Nat} {ex : Bool} {kq : Nat × Nat} (hd : 2 ≤ d) (hn : 239 ≤ n) (hRf : RfOk 1 239 kq Rf) {x1 : Int32} {M : Mm} {q : Mm} (h : sX1_gather x1 M = some q) : Ct l0 E yX1_gather cX1_gather 3 none d 0 0 [rr E.1 34, .int x1] ex n Rf M n Rf none q := by
  obtain ⟨d, rfl⟩ := Nat.exists_eq_add_of_le' hd
  refine Ct.of pnX1 (Nat.le_of_ble_eq_true rfl) (fun g hg hr _ => ?_)
  replace hg : Ok g l0 E cX1_gather RX1 3 (d + 2) 0 0 := hg
  show WG g E 3 n Rf ex 0 0 0 [(0, rr E.1 34), (1, .int x1)] [] M
  unfold sX1_gather at h
  refine g_rload_n hg dX1_gather_0 rfl 0 rfl ?_
  refine g_iload_n hg dX1_gather_1 rfl 1 rfl ?_
  obtain ⟨M2, e2, h⟩ := Option.bind_eq_some_iff.mp h
  refine g_callVv (As := [.int x1]) (rest := []) hg (lkX1_findStruck (by omega) hn hRf  e2) cv_X1_41 rfl ly34 (idb rfl rfl hn) rfl rfl (Nat.le_of_ble_eq_true rfl) ⟨Nat.le_refl _, Nat.le_refl _⟩ dX1_gather_2 ?_
  refine g_rload_n hg dX1_gather_5 rfl 0 rfl ?_
  refine g_iconst hg dX1_gather_6 kI_0 ?_
  refine g_putI hg fp_X1_45 ly34 rfl (idb rfl rfl hn) dX1_gather_7 ?_
  refine g_iconst hg dX1_gather_10 kI_0 ?_
  refine g_istore_n (lv' := [(2, .int 0), (0, rr E.1 34), (1, .int x1)]) hg dX1_gather_11 rfl (by decide) rfl ?_
  refine g_sub (lv' := [(0, rr E.1 34), (1, .int x1), (2, .int 0)]) [1, 2, 0] rfl ?_
  exact lkX1_gather_12 hn hRf hg hr  4096 _ _ _ h
theorem lkX2_addBore_16 {g : Gm} {l0 : Launch} {E : En} {d n : Nat} {Rf : Nat → Nat → Nat} {ex : Bool} {kq : Nat × Nat} (hn : 239 ≤ n) (hRf : RfOk 1 239 kq Rf) {r2 : Nat} (hr2 : isNt r2) (hg : Ok g l0 E cX2_addBore RX2 5 (d + 3) 0 0) {q : Mm} (hr : Ret g E 0 0 none ex n Rf none q) : ∀ (F : Nat) (x3 : Int32) (x4 : Int32) (M : Mm), sX2_addBore_16 r2 F x3 x4 M = some q → WG g E 5 n Rf ex 0 0 16 [(0, rr E.1 158), (2, rr E.1 r2), (3, .int x3), (4, .int x4)] [] M := by
  intro F
  induction F with
  | zero =>
    intro x3 x4 M h
    cases h
  | succ F ih =>
    intro x3 x4 M h
    rw [sX2_addBore_16] at h
    refine g_iload hg dX2_addBore_16 3 rfl ?_
    refine g_rload_n hg dX2_addBore_18 rfl 0 rfl ?_
    refine g_getI hg fl_X2_29 ly158 rfl (idb rfl rfl hn) dX2_addBore_19 ?_
    refine g_icmp_ge (tgt := 61) hg dX2_addBore_22 (by decide) (fun c => ?_) (fun c => ?_)
    · replace h := itT c h
      replace h := Option.some.inj h
      subst h
      exact g_vret hg hr dX2_addBore_61
    · replace h := itF c h
      refine g_rload_n hg dX2_addBore_25 rfl 0 rfl ?_
      refine g_getR (r := 161) hg fl_X2_18 ly158 rfl (idb rfl rfl hn) (rfc hRf rfl rfl rfl rfl) (by decide) dX2_addBore_26 ?_
      refine g_iload hg dX2_addBore_29 3 rfl ?_
      refine g_dup2 hg dX2_addBore_31 rfl rfl ?_
      obtain ⟨c32, h⟩ := ck_some h
      refine g_iald hg ly161 (idb rfl rfl hn) (inb_vp c32) dX2_addBore_32 ?_
      refine g_iload_n hg dX2_addBore_33 rfl 2 rfl ?_
      refine g_rload_n hg dX2_addBore_34 rfl 0 rfl ?_
      refine g_getR (r := 159) hg fl_X2_9 ly158 rfl (idb rfl rfl hn) (rfc hRf rfl rfl rfl rfl) (by decide) dX2_addBore_35 ?_
      refine g_rload_n hg dX2_addBore_38 rfl 1 rfl ?_
      refine g_getI hg fl_X2_74 (nt_lay hr2) rfl (nt_bd hr2 hn) dX2_addBore_39 ?_
      refine g_iload hg dX2_addBore_42 3 rfl ?_
      refine g_rload_n hg dX2_addBore_44 rfl 1 rfl ?_
      refine g_getI hg fl_X2_77 (nt_lay hr2) rfl (nt_bd hr2 hn) dX2_addBore_45 ?_
      obtain ⟨q48, e48, h⟩ := Option.bind_eq_some_iff.mp h
      refine g_callSi (As := [.int (M.1 r2 1), .int x4, .int (M.1 r2 5)]) (rest := [rr E.1 159, .int x3, .int (M.1 161 x4.toNatClampNeg), .int x4, rr E.1 161]) hg (lkX2_place (by omega) hn hRf  e48) cs_X2_33 rfl rfl (Nat.le_of_ble_eq_true rfl) ⟨Nat.le_refl _, Nat.le_refl _⟩ dX2_addBore_48 ?_
      obtain ⟨c51, h⟩ := ck_some h
      refine g_iald hg ly159 (idb rfl rfl hn) (inb_vp c51) dX2_addBore_51 ?_
      refine g_imul hg dX2_addBore_52 ?_
      refine g_iadd hg dX2_addBore_53 ?_
      obtain ⟨c54, h⟩ := ck_some h
      refine g_iast hg ly161 (idb rfl rfl hn) (inb_vp c54) dX2_addBore_54 ?_
      refine g_inc (lv' := [(4, .int (x4 + 1)), (0, rr E.1 158), (2, rr E.1 r2), (3, .int x3)]) hg dX2_addBore_55 kI_1 3 rfl (by decide) rfl ?_
      refine g_goto (tgt := 16) hg dX2_addBore_58 (by decide) ?_
      refine g_sub (lv' := [(0, rr E.1 158), (2, rr E.1 r2), (3, .int x3), (4, .int (x4 + 1))]) [1, 2, 3, 0] rfl ?_
      exact ih _ _ _ h
theorem lkX2_addBore {l0 : Launch} {E : En} {d n : Nat} {Rf : Nat → Nat → Nat} {ex : Bool} {kq : Nat × Nat} (hd : 3 ≤ d) (hn : 239 ≤ n) (hRf : RfOk 1 239 kq Rf) {r2 : Nat} (hr2 : isNt r2) {x1 : Int32} {M : Mm} {q : Mm} (h : sX2_addBore r2 x1 M = some q) : Ct l0 E yX2_addBore cX2_addBore 5 none d 0 0 [rr E.1 158, .int x1, rr E.1 r2] ex n Rf M n Rf none q := by
  obtain ⟨d, rfl⟩ := Nat.exists_eq_add_of_le' hd
  refine Ct.of pnX2 (Nat.le_of_ble_eq_true rfl) (fun g hg hr _ => ?_)
  replace hg : Ok g l0 E cX2_addBore RX2 5 (d + 3) 0 0 := hg
  show WG g E 5 n Rf ex 0 0 0 [(0, rr E.1 158), (1, .int x1), (2, rr E.1 r2)] [] M
  unfold sX2_addBore at h
  refine g_rload_n hg dX2_addBore_0 rfl 0 rfl ?_
  refine g_getR (r := 22) hg fl_X2_21 ly158 rfl (idb rfl rfl hn) (rfc hRf rfl rfl rfl rfl) (by decide) dX2_addBore_1 ?_
  refine g_iload_n hg dX2_addBore_4 rfl 1 rfl ?_
  refine g_rload_n hg dX2_addBore_5 rfl 2 rfl ?_
  refine g_getI hg fl_X2_63 (nt_lay hr2) rfl (nt_bd hr2 hn) dX2_addBore_6 ?_
  obtain ⟨q9, e9, h⟩ := Option.bind_eq_some_iff.mp h
  refine g_callVi (As := [.int x1, .int (M.1 r2 2)]) (rest := []) hg (lkX6_likeness (by omega) (Nat.le_trans (by decide : 34 ≤ 239) hn) (hRf.mono (by decide) (by decide))  e9) cv_X2_68 rfl ly22 (idb rfl rfl hn) rfl rfl (Nat.le_of_ble_eq_true rfl) ⟨Nat.le_refl _, Nat.le_refl _⟩ dX2_addBore_9 ?_
  refine g_istore_n (lv' := [(3, .int q9.1), (0, rr E.1 158), (1, .int x1), (2, rr E.1 r2)]) hg dX2_addBore_12 rfl (by decide) rfl ?_
  refine g_iconst hg dX2_addBore_13 kI_0 ?_
  refine g_istore (lv' := [(4, .int 0), (3, .int q9.1), (0, rr E.1 158), (1, .int x1), (2, rr E.1 r2)]) hg dX2_addBore_14 (by decide) rfl ?_
  refine g_sub (lv' := [(0, rr E.1 158), (2, rr E.1 r2), (3, .int q9.1), (4, .int 0)]) [2, 4, 1, 0] rfl ?_
  exact lkX2_addBore_16 hn hRf hr2 hg hr  4096 _ _ _ h
theorem lkX2_weigh_131 {g : Gm} {l0 : Launch} {E : En} {d n : Nat} {Rf : Nat → Nat → Nat} {ex : Bool} {kq : Nat × Nat} (hn : 239 ≤ n) (hRf : RfOk 1 239 kq Rf) (hg : Ok g l0 E cX2_weigh RX2 4 (d + 4) 0 0) {q : Mm} (hr : Ret g E 0 0 none ex n Rf none q) {k81 : Int32 → Mm → Option (Mm)} (hk81 : ∀ (x3 : Int32) (M : Mm), k81 x3 M = some q → WG g E 4 n Rf ex 0 0 81 [(0, rr E.1 158), (3, .int x3)] [] M) : ∀ (x3 : Int32) (s1 : Int32) (M : Mm), sX2_weigh_131 k81 x3 s1 M = some q → WG g E 4 n Rf ex 0 0 131 [(0, rr E.1 158), (3, .int x3)] [.int s1, rr E.1 158] M := by
  intro x3 s1 M h
  unfold sX2_weigh_131 at h
  refine g_putI hg fp_X2_56 ly158 rfl (idb rfl rfl hn) dX2_weigh_131 ?_
  refine g_inc (lv' := [(3, .int (x3 + 1)), (0, rr E.1 158)]) hg dX2_weigh_134 kI_1 1 rfl (by decide) rfl ?_
  refine g_goto (tgt := 81) hg dX2_weigh_137 (by decide) ?_
  refine g_sub (lv' := [(0, rr E.1 158), (3, .int (x3 + 1))]) [1, 0] rfl ?_
  exact hk81 _ _ h
theorem lkX2_weigh_81 {g : Gm} {l0 : Launch} {E : En} {d n : Nat} {Rf : Nat → Nat → Nat} {ex : Bool} {kq : Nat × Nat} (hn : 239 ≤ n) (hRf : RfOk 1 239 kq Rf) (hg : Ok g l0 E cX2_weigh RX2 4 (d + 4) 0 0) {q : Mm} (hr : Ret g E 0 0 none ex n Rf none q) : ∀ (F : Nat) (x3 : Int32) (M : Mm), sX2_weigh_81 F x3 M = some q → WG g E 4 n Rf ex 0 0 81 [(0, rr E.1 158), (3, .int x3)] [] M := by
  intro F
  induction F with
  | zero =>
    intro x3 M h
    cases h
  | succ F ih =>
    intro x3 M h
    rw [sX2_weigh_81] at h
    refine g_iload_n hg dX2_weigh_81 rfl 1 rfl ?_
    refine g_rload_n hg dX2_weigh_82 rfl 0 rfl ?_
    refine g_getI hg fl_X2_29 ly158 rfl (idb rfl rfl hn) dX2_weigh_83 ?_
    refine g_icmp_ge (tgt := 140) hg dX2_weigh_86 (by decide) (fun c => ?_) (fun c => ?_)
    · replace h := itT c h
      replace h := Option.some.inj h
      subst h
      exact g_vret hg hr dX2_weigh_140
    · replace h := itF c h
      refine g_rload_n hg dX2_weigh_89 rfl 0 rfl ?_
      refine g_dup hg dX2_weigh_90 rfl ?_
      refine g_getI hg fl_X2_53 ly158 rfl (idb rfl rfl hn) dX2_weigh_91 ?_
      refine g_rload_n hg dX2_weigh_94 rfl 0 rfl ?_
      refine g_getR (r := 161) hg fl_X2_18 ly158 rfl (idb rfl rfl hn) (rfc hRf rfl rfl rfl rfl) (by decide) dX2_weigh_95 ?_
      refine g_iload_n hg dX2_weigh_98 rfl 1 rfl ?_
      obtain ⟨c99, h⟩ := ck_some h
      refine g_iald hg ly161 (idb rfl rfl hn) (inb_vp c99) dX2_weigh_99 ?_
      refine g_iadd hg dX2_weigh_100 ?_
      refine g_putI hg fp_X2_53 ly158 rfl (idb rfl rfl hn) dX2_weigh_101 ?_
      refine g_rload_n hg dX2_weigh_104 rfl 0 rfl ?_
      refine g_rload_n hg dX2_weigh_105 rfl 0 rfl ?_
      refine g_getR (r := 161) hg fl_X2_18 ly158 rfl (idb rfl rfl hn) (rfc hRf rfl rfl rfl rfl) (by decide) dX2_weigh_106 ?_
      refine g_iload_n hg dX2_weigh_109 rfl 1 rfl ?_
      obtain ⟨c110, h⟩ := ck_some h
      refine g_iald hg ly161 (idb rfl rfl hn) (inb_vp c110) dX2_weigh_110 ?_
      refine g_rload_n hg dX2_weigh_111 rfl 0 rfl ?_
      refine g_getR (r := 161) hg fl_X2_18 ly158 rfl (idb rfl rfl hn) (rfc hRf rfl rfl rfl rfl) (by decide) dX2_weigh_112 ?_
      refine g_rload_n hg dX2_weigh_115 rfl 0 rfl ?_
      refine g_getI hg fl_X2_56 ly158 rfl (idb rfl rfl hn) dX2_weigh_116 ?_
      obtain ⟨c119, h⟩ := ck_some h
      refine g_iald hg ly161 (idb rfl rfl hn) (inb_vp c119) dX2_weigh_119 ?_
      refine g_icmp_le (tgt := 127) hg dX2_weigh_120 (by decide) (fun c => ?_) (fun c => ?_)
      · rw [if_pos c] at h
        refine g_rload_n hg dX2_weigh_127 rfl 0 rfl ?_
        refine g_getI hg fl_X2_56 ly158 rfl (idb rfl rfl hn) dX2_weigh_128 ?_
        exact lkX2_weigh_131 hn hRf hg hr ih _ _ _ h
      · rw [if_neg c] at h
        refine g_iload_n hg dX2_weigh_123 rfl 1 rfl ?_
        refine g_goto (tgt := 131) hg dX2_weigh_124 (by decide) ?_
        exact lkX2_weigh_131 hn hRf hg hr ih _ _ _ h
theorem lkX2_weigh_63 {g : Gm} {l0 : Launch} {E : En} {d n : Nat} {Rf : Nat → Nat → Nat} {ex : Bool} {kq : Nat × Nat} (hn : 239 ≤ n) (hRf : RfOk 1 239 kq Rf) (hg : Ok g l0 E cX2_weigh RX2 4 (d + 4) 0 0) {q : Mm} (hr : Ret g E 0 0 none ex n Rf none q) {k25 : Int32 → Int32 → Int32 → Mm → Option (Mm)} (hk25 : ∀ (x1 : Int32) (x2 : Int32) (x3 : Int32) (M : Mm), k25 x1 x2 x3 M = some q → WG g E 4 n Rf ex 0 0 25 [(0, rr E.1 158), (1, .int x1), (2, .int x2), (3, .int x3)] [] M) : ∀ (x1 : Int32) (x2 : Int32) (x3 : Int32) (M : Mm), sX2_weigh_63 k25 x1 x2 x3 M = some q → WG g E 4 n Rf ex 0 0 63 [(0, rr E.1 158), (1, .int x1), (2, .int x2), (3, .int x3)] [] M := by
  intro x1 x2 x3 M h
  unfold sX2_weigh_63 at h
  refine g_inc (lv' := [(3, .int (x3 + 1)), (0, rr E.1 158), (1, .int x1), (2, .int x2)]) hg dX2_weigh_63 kI_1 3 rfl (by decide) rfl ?_
  refine g_goto (tgt := 25) hg dX2_weigh_66 (by decide) ?_
  refine g_sub (lv' := [(0, rr E.1 158), (1, .int x1), (2, .int x2), (3, .int (x3 + 1))]) [1, 2, 3, 0] rfl ?_
  exact hk25 _ _ _ _ h
theorem lkX2_weigh_25 {g : Gm} {l0 : Launch} {E : En} {d n : Nat} {Rf : Nat → Nat → Nat} {ex : Bool} {kq : Nat × Nat} (hn : 239 ≤ n) (hRf : RfOk 1 239 kq Rf) (hg : Ok g l0 E cX2_weigh RX2 4 (d + 4) 0 0) {q : Mm} (hr : Ret g E 0 0 none ex n Rf none q) : ∀ (F : Nat) (x1 : Int32) (x2 : Int32) (x3 : Int32) (M : Mm), sX2_weigh_25 F x1 x2 x3 M = some q → WG g E 4 n Rf ex 0 0 25 [(0, rr E.1 158), (1, .int x1), (2, .int x2), (3, .int x3)] [] M := by
  intro F
  induction F with
  | zero =>
    intro x1 x2 x3 M h
    cases h
  | succ F ih =>
    intro x1 x2 x3 M h
    rw [sX2_weigh_25] at h
    refine g_iload_n hg dX2_weigh_25 rfl 3 rfl ?_
    refine g_rload_n hg dX2_weigh_26 rfl 0 rfl ?_
    refine g_getR (r := 34) hg fl_X2_25 ly158 rfl (idb rfl rfl hn) (rfc hRf rfl rfl rfl rfl) (by decide) dX2_weigh_27 ?_
    refine g_getI hg fl_X2_37 ly34 rfl (idb rfl rfl hn) dX2_weigh_30 ?_
    refine g_icmp_ge (tgt := 69) hg dX2_weigh_33 (by decide) (fun c => ?_) (fun c => ?_)
    · replace h := itT c h
      refine g_rload_n hg dX2_weigh_69 rfl 0 rfl ?_
      refine g_iconst hg dX2_weigh_70 kI_0 ?_
      refine g_putI hg fp_X2_53 ly158 rfl (idb rfl rfl hn) dX2_weigh_71 ?_
      refine g_rload_n hg dX2_weigh_74 rfl 0 rfl ?_
      refine g_iconst hg dX2_weigh_75 kI_0 ?_
      refine g_putI hg fp_X2_56 ly158 rfl (idb rfl rfl hn) dX2_weigh_76 ?_
      refine g_iconst hg dX2_weigh_79 kI_0 ?_
      refine g_istore_n (lv' := [(3, .int 0), (0, rr E.1 158), (1, .int x1), (2, .int x2)]) hg dX2_weigh_80 rfl (by decide) rfl ?_
      refine g_sub (lv' := [(0, rr E.1 158), (3, .int 0)]) [1, 0] rfl ?_
      exact lkX2_weigh_81 hn hRf hg hr  4096 _ _ h
    · replace h := itF c h
      refine g_iload_n hg dX2_weigh_36 rfl 3 rfl ?_
      refine g_iload_n hg dX2_weigh_37 rfl 2 rfl ?_
      refine g_icmp_eq (tgt := 63) hg dX2_weigh_38 (by decide) (fun c => ?_) (fun c => ?_)
      · replace h := itT c h
        exact lkX2_weigh_63 hn hRf hg hr ih _ _ _ _ h
      · replace h := itF c h
        refine g_rload_n hg dX2_weigh_41 rfl 0 rfl ?_
        refine g_iload_n hg dX2_weigh_42 rfl 1 rfl ?_
        refine g_rload_n hg dX2_weigh_43 rfl 0 rfl ?_
        refine g_getR (r := 34) hg fl_X2_25 ly158 rfl (idb rfl rfl hn) (rfc hRf rfl rfl rfl rfl) (by decide) dX2_weigh_44 ?_
        refine g_getR (r := 35) hg fl_X2_42 ly34 rfl (idb rfl rfl hn) (rfc hRf rfl rfl rfl rfl) (by decide) dX2_weigh_47 ?_
        refine g_rload_n hg dX2_weigh_50 rfl 0 rfl ?_
        refine g_getR (r := 34) hg fl_X2_25 ly158 rfl (idb rfl rfl hn) (rfc hRf rfl rfl rfl rfl) (by decide) dX2_weigh_51 ?_
        refine g_getR (r := 36) hg fl_X2_46 ly34 rfl (idb rfl rfl hn) (rfc hRf rfl rfl rfl rfl) (by decide) dX2_weigh_54 ?_
        refine g_iload_n hg dX2_weigh_57 rfl 3 rfl ?_
        obtain ⟨c58, h⟩ := ck_some h
        refine g_iald hg ly36 (idb rfl rfl hn) (inb_vp c58) dX2_weigh_58 ?_
        obtain ⟨c59, h⟩ := ck_some h
        refine g_aald3 (r := (38 + 2 * (M.1 36 x3.toNatClampNeg).toNatClampNeg)) hg ly35 (idb rfl rfl hn) (inb_vp c59) (nt_rfA (inb_vp c59) hRf) (Nat.lt_of_lt_of_le (by decide) (Nat.le_add_right _ _)) dX2_weigh_59 ?_
        obtain ⟨M60, e60, h⟩ := Option.bind_eq_some_iff.mp h
        refine g_callVv (As := [.int x1, rr E.1 (38 + 2 * (M.1 36 x3.toNatClampNeg).toNatClampNeg)]) (rest := []) hg (lkX2_addBore (by omega) hn hRf (nt_of (inb_vp c59)) e60) cv_X2_49 rfl ly158 (idb rfl rfl hn) rfl rfl (Nat.le_of_ble_eq_true rfl) ⟨Nat.le_refl _, Nat.le_refl _⟩ dX2_weigh_60 ?_
        exact lkX2_weigh_63 hn hRf hg hr ih _ _ _ _ h
theorem lkX2_weigh_2 {g : Gm} {l0 : Launch} {E : En} {d n : Nat} {Rf : Nat → Nat → Nat} {ex : Bool} {kq : Nat × Nat} (hn : 239 ≤ n) (hRf : RfOk 1 239 kq Rf) (hg : Ok g l0 E cX2_weigh RX2 4 (d + 4) 0 0) {q : Mm} (hr : Ret g E 0 0 none ex n Rf none q) : ∀ (F : Nat) (x1 : Int32) (x2 : Int32) (x3 : Int32) (M : Mm), sX2_weigh_2 F x1 x2 x3 M = some q → WG g E 4 n Rf ex 0 0 2 [(0, rr E.1 158), (1, .int x1), (2, .int x2), (3, .int x3)] [] M := by
  intro F
  induction F with
  | zero =>
    intro x1 x2 x3 M h
    cases h
  | succ F ih =>
    intro x1 x2 x3 M h
    rw [sX2_weigh_2] at h
    refine g_iload_n hg dX2_weigh_2 rfl 3 rfl ?_
    refine g_rload_n hg dX2_weigh_3 rfl 0 rfl ?_
    refine g_getI hg fl_X2_29 ly158 rfl (idb rfl rfl hn) dX2_weigh_4 ?_
    refine g_icmp_ge (tgt := 23) hg dX2_weigh_7 (by decide) (fun c => ?_) (fun c => ?_)
    · replace h := itT c h
      refine g_iconst hg dX2_weigh_23 kI_0 ?_
      refine g_istore_n (lv' := [(3, .int 0), (0, rr E.1 158), (1, .int x1), (2, .int x2)]) hg dX2_weigh_24 rfl (by decide) rfl ?_
      refine g_sub (lv' := [(0, rr E.1 158), (1, .int x1), (2, .int x2), (3, .int 0)]) [1, 2, 3, 0] rfl ?_
      exact lkX2_weigh_25 hn hRf hg hr  4096 _ _ _ _ h
    · replace h := itF c h
      refine g_rload_n hg dX2_weigh_10 rfl 0 rfl ?_
      refine g_getR (r := 161) hg fl_X2_18 ly158 rfl (idb rfl rfl hn) (rfc hRf rfl rfl rfl rfl) (by decide) dX2_weigh_11 ?_
      refine g_iload_n hg dX2_weigh_14 rfl 3 rfl ?_
      refine g_iconst hg dX2_weigh_15 kI_1 ?_
      obtain ⟨c16, h⟩ := ck_some h
      refine g_iast hg ly161 (idb rfl rfl hn) (inb_vp c16) dX2_weigh_16 ?_
      refine g_inc (lv' := [(3, .int (x3 + 1)), (0, rr E.1 158), (1, .int x1), (2, .int x2)]) hg dX2_weigh_17 kI_1 3 rfl (by decide) rfl ?_
      refine g_goto (tgt := 2) hg dX2_weigh_20 (by decide) ?_
      refine g_sub (lv' := [(0, rr E.1 158), (1, .int x1), (2, .int x2), (3, .int (x3 + 1))]) [1, 2, 3, 0] rfl ?_
      exact ih _ _ _ _ h
theorem lkX2_weigh {l0 : Launch} {E : En} {d n : Nat} {Rf : Nat → Nat → Nat} {ex : Bool} {kq : Nat × Nat} (hd : 4 ≤ d) (hn : 239 ≤ n) (hRf : RfOk 1 239 kq Rf) {x1 : Int32} {x2 : Int32} {M : Mm} {q : Mm} (h : sX2_weigh x1 x2 M = some q) : Ct l0 E yX2_weigh cX2_weigh 4 none d 0 0 [rr E.1 158, .int x1, .int x2] ex n Rf M n Rf none q := by
  obtain ⟨d, rfl⟩ := Nat.exists_eq_add_of_le' hd
  refine Ct.of pnX2 (Nat.le_of_ble_eq_true rfl) (fun g hg hr _ => ?_)
  replace hg : Ok g l0 E cX2_weigh RX2 4 (d + 4) 0 0 := hg
  show WG g E 4 n Rf ex 0 0 0 [(0, rr E.1 158), (1, .int x1), (2, .int x2)] [] M
  unfold sX2_weigh at h
  refine g_iconst hg dX2_weigh_0 kI_0 ?_
  refine g_istore_n (lv' := [(3, .int 0), (0, rr E.1 158), (1, .int x1), (2, .int x2)]) hg dX2_weigh_1 rfl (by decide) rfl ?_
  refine g_sub (lv' := [(0, rr E.1 158), (1, .int x1), (2, .int x2), (3, .int 0)]) [1, 2, 3, 0] rfl ?_
  exact lkX2_weigh_2 hn hRf hg hr  4096 _ _ _ _ h
theorem lkX2_partsOf {l0 : Launch} {E : En} {d n : Nat} {Rf : Nat → Nat → Nat} {ex : Bool} {kq : Nat × Nat} (hd : 1 ≤ d) (hn : 239 ≤ n) (hRf : RfOk 1 239 kq Rf) {x1 : Int32} {M : Mm} {q : Int32 × Mm} (h : sX2_partsOf x1 M = some q) : Ct l0 E yX2_partsOf cX2_partsOf 2 (some .int) d 0 0 [rr E.1 158, .int x1] ex n Rf M n Rf (some (.int q.1)) q.2 := by
  obtain ⟨d, rfl⟩ := Nat.exists_eq_add_of_le' hd
  refine Ct.of pnX2 (Nat.le_of_ble_eq_true rfl) (fun g hg hr _ => ?_)
  replace hg : Ok g l0 E cX2_partsOf RX2 2 (d + 1) 0 0 := hg
  show WG g E 2 n Rf ex 0 0 0 [(0, rr E.1 158), (1, .int x1)] [] M
  unfold sX2_partsOf at h
  refine g_rload_n hg dX2_partsOf_0 rfl 0 rfl ?_
  refine g_getI hg fl_X2_53 ly158 rfl (idb rfl rfl hn) dX2_partsOf_1 ?_
  refine g_if_le (tgt := 25) hg dX2_partsOf_4 (by decide) (fun c => ?_) (fun c => ?_)
  · replace h := itT c h
    refine g_iconst hg dX2_partsOf_25 kI_0 ?_
    replace h := Option.some.inj h
    subst h
    exact g_iret hg hr dX2_partsOf_26
  · replace h := itF c h
    refine g_sipush hg dX2_partsOf_7 kS_1000 ?_
    refine g_rload_n hg dX2_partsOf_10 rfl 0 rfl ?_
    refine g_getR (r := 161) hg fl_X2_18 ly158 rfl (idb rfl rfl hn) (rfc hRf rfl rfl rfl rfl) (by decide) dX2_partsOf_11 ?_
    refine g_iload_n hg dX2_partsOf_14 rfl 1 rfl ?_
    obtain ⟨c15, h⟩ := ck_some h
    refine g_iald hg ly161 (idb rfl rfl hn) (inb_vp c15) dX2_partsOf_15 ?_
    refine g_imul hg dX2_partsOf_16 ?_
    refine g_rload_n hg dX2_partsOf_17 rfl 0 rfl ?_
    refine g_getI hg fl_X2_53 ly158 rfl (idb rfl rfl hn) dX2_partsOf_18 ?_
    obtain ⟨c21, h⟩ := ck_some h
    refine g_idiv hg dX2_partsOf_21 (nz_ne c21) ?_
    refine g_goto (tgt := 26) hg dX2_partsOf_22 (by decide) ?_
    replace h := Option.some.inj h
    subst h
    exact g_iret hg hr dX2_partsOf_26
theorem lkX2_doubt {l0 : Launch} {E : En} {d n : Nat} {Rf : Nat → Nat → Nat} {ex : Bool} {kq : Nat × Nat} (hd : 2 ≤ d) (hn : 239 ≤ n) (hRf : RfOk 1 239 kq Rf)  {M : Mm} {q : Int32 × Mm} (h : sX2_doubt M = some q) : Ct l0 E yX2_doubt cX2_doubt 1 (some .int) d 0 0 [rr E.1 158] ex n Rf M n Rf (some (.int q.1)) q.2 := by
  obtain ⟨d, rfl⟩ := Nat.exists_eq_add_of_le' hd
  refine Ct.of pnX2 (Nat.le_of_ble_eq_true rfl) (fun g hg hr _ => ?_)
  replace hg : Ok g l0 E cX2_doubt RX2 1 (d + 2) 0 0 := hg
  show WG g E 1 n Rf ex 0 0 0 [(0, rr E.1 158)] [] M
  unfold sX2_doubt at h
  refine g_sipush hg dX2_doubt_0 kS_1000 ?_
  refine g_rload_n hg dX2_doubt_3 rfl 0 rfl ?_
  refine g_rload_n hg dX2_doubt_4 rfl 0 rfl ?_
  refine g_getI hg fl_X2_56 ly158 rfl (idb rfl rfl hn) dX2_doubt_5 ?_
  obtain ⟨q8, e8, h⟩ := Option.bind_eq_some_iff.mp h
  refine g_callVi (As := [.int (M.1 158 7)]) (rest := [.int 1000]) hg (lkX2_partsOf (by omega) hn hRf  e8) cv_X2_59 rfl ly158 (idb rfl rfl hn) rfl rfl (Nat.le_of_ble_eq_true rfl) ⟨Nat.le_refl _, Nat.le_refl _⟩ dX2_doubt_8 ?_
  refine g_isub hg dX2_doubt_11 ?_
  replace h := Option.some.inj h
  subst h
  exact g_iret hg hr dX2_doubt_12
theorem lkX11_chance_71 {g : Gm} {l0 : Launch} {E : En} {d n : Nat} {Rf : Nat → Nat → Nat} {ex : Bool} {kq : Nat × Nat} (hn : 239 ≤ n) (hRf : RfOk 1 239 kq Rf) (hkq : isKq kq) (hg : Ok g l0 E cX11_chance RX11 6 (d + 5) 0 0) {q : Int32 × Mm} (hr : Ret g E 0 0 (some .int) ex n Rf (some (.int q.1)) q.2) : ∀ (x1 : Int32) (x2 : Int32) (x3 : Int32) (x4 : Int32) (M : Mm), sX11_chance_71 kq x1 x2 x3 x4 M = some q → WG g E 6 n Rf ex 0 0 71 [(0, rr E.1 1), (1, .int x1), (2, .int x2), (3, .int x3), (4, .int x4)] [] M := by
  intro x1 x2 x3 x4 M h
  unfold sX11_chance_71 at h
  refine g_rload_n hg dX11_chance_71 rfl 0 rfl ?_
  refine g_getR (r := 34) hg fl_X11_52 ly1 rfl (idb rfl rfl hn) (rfc hRf rfl rfl rfl rfl) (by decide) dX11_chance_72 ?_
  refine g_iload_n hg dX11_chance_75 rfl 1 rfl ?_
  obtain ⟨M76, e76, h⟩ := Option.bind_eq_some_iff.mp h
  refine g_callVv (As := [.int x1]) (rest := []) hg (lkX1_gather (by omega) hn hRf  e76) cv_X11_250 rfl ly34 (idb rfl rfl hn) rfl rfl (Nat.le_of_ble_eq_true rfl) ⟨Nat.le_refl _, Nat.le_refl _⟩ dX11_chance_76 ?_
  refine g_rload_n hg dX11_chance_79 rfl 0 rfl ?_
  refine g_getR (r := 158) hg fl_X11_61 ly1 rfl (idb rfl rfl hn) (rfc hRf rfl rfl rfl rfl) (by decide) dX11_chance_80 ?_
  refine g_iload_n hg dX11_chance_83 rfl 2 rfl ?_
  refine g_iconst hg dX11_chance_84 kI_m1 ?_
  obtain ⟨M85, e85, h⟩ := Option.bind_eq_some_iff.mp h
  refine g_callVv (As := [.int x2, .int (-1)]) (rest := []) hg (lkX2_weigh (by omega) hn hRf  e85) cv_X11_253 rfl ly158 (idb rfl rfl hn) rfl rfl (Nat.le_of_ble_eq_true rfl) ⟨Nat.le_refl _, Nat.le_refl _⟩ dX11_chance_85 ?_
  refine g_iload hg dX11_chance_88 4 rfl ?_
  by_cases c0w : x4 = 0
  · replace h := itT c0w h
    refine g_tabI (tgt := 120) (off := 30) hg dX11_chance_90 c0w (by decide) (by decide) ?_
    refine g_rload_n hg dX11_chance_120 rfl 0 rfl ?_
    refine g_getR (r := 158) hg fl_X11_61 ly1 rfl (idb rfl rfl hn) (rfc hRf rfl rfl rfl rfl) (by decide) dX11_chance_121 ?_
    refine g_getR (r := 161) hg fl_X11_256 ly158 rfl (idb rfl rfl hn) (rfc hRf rfl rfl rfl rfl) (by decide) dX11_chance_124 ?_
    refine g_iload_n hg dX11_chance_127 rfl 3 rfl ?_
    obtain ⟨c128, h⟩ := ck_some h
    refine g_iald hg ly161 (idb rfl rfl hn) (inb_vp c128) dX11_chance_128 ?_
    replace h := Option.some.inj h
    subst h
    exact g_iret hg hr dX11_chance_129
  replace h := itF c0w h
  by_cases c1w : x4 = 1
  · replace h := itT c1w h
    refine g_tabI (tgt := 130) (off := 40) hg dX11_chance_90 c1w (by decide) (by decide) ?_
    refine g_rload_n hg dX11_chance_130 rfl 0 rfl ?_
    refine g_getR (r := 158) hg fl_X11_61 ly1 rfl (idb rfl rfl hn) (rfc hRf rfl rfl rfl rfl) (by decide) dX11_chance_131 ?_
    refine g_iload_n hg dX11_chance_134 rfl 3 rfl ?_
    obtain ⟨q135, e135, h⟩ := Option.bind_eq_some_iff.mp h
    refine g_callVi (As := [.int x3]) (rest := []) hg (lkX2_partsOf (by omega) hn hRf  e135) cv_X11_259 rfl ly158 (idb rfl rfl hn) rfl rfl (Nat.le_of_ble_eq_true rfl) ⟨Nat.le_refl _, Nat.le_refl _⟩ dX11_chance_135 ?_
    replace h := Option.some.inj h
    subst h
    exact g_iret hg hr dX11_chance_138
  replace h := itF c1w h
  by_cases c2w : x4 = 2
  · replace h := itT c2w h
    refine g_tabI (tgt := 139) (off := 49) hg dX11_chance_90 c2w (by decide) (by decide) ?_
    refine g_rload_n hg dX11_chance_139 rfl 0 rfl ?_
    refine g_getR (r := 158) hg fl_X11_61 ly1 rfl (idb rfl rfl hn) (rfc hRf rfl rfl rfl rfl) (by decide) dX11_chance_140 ?_
    refine g_getI hg fl_X11_263 ly158 rfl (idb rfl rfl hn) dX11_chance_143 ?_
    replace h := Option.some.inj h
    subst h
    exact g_iret hg hr dX11_chance_146
  replace h := itF c2w h
  by_cases c3w : x4 = 3
  · replace h := itT c3w h
    refine g_tabI (tgt := 147) (off := 57) hg dX11_chance_90 c3w (by decide) (by decide) ?_
    refine g_rload_n hg dX11_chance_147 rfl 0 rfl ?_
    refine g_getR (r := 158) hg fl_X11_61 ly1 rfl (idb rfl rfl hn) (rfc hRf rfl rfl rfl rfl) (by decide) dX11_chance_148 ?_
    obtain ⟨q151, e151, h⟩ := Option.bind_eq_some_iff.mp h
    refine g_callVi (As := []) (rest := []) hg (lkX2_doubt (by omega) hn hRf  e151) cv_X11_266 rfl ly158 (idb rfl rfl hn) rfl rfl (Nat.le_of_ble_eq_true rfl) ⟨Nat.le_refl _, Nat.le_refl _⟩ dX11_chance_151 ?_
    replace h := Option.some.inj h
    subst h
    exact g_iret hg hr dX11_chance_154
  replace h := itF c3w h
  refine g_tabO (tgt := 155) hg dX11_chance_90 (by have e0w := lv_neT (a := 0) c0w (by decide); have e1w := lv_neT (a := 1) c1w (by decide); have e2w := lv_neT (a := 2) c2w (by decide); have e3w := lv_neT (a := 3) c3w (by decide); omega) (by decide) ?_
  refine g_rload_n hg dX11_chance_155 rfl 0 rfl ?_
  refine g_getR (r := 158) hg fl_X11_61 ly1 rfl (idb rfl rfl hn) (rfc hRf rfl rfl rfl rfl) (by decide) dX11_chance_156 ?_
  refine g_getI hg fl_X11_270 ly158 rfl (idb rfl rfl hn) dX11_chance_159 ?_
  replace h := Option.some.inj h
  subst h
  exact g_iret hg hr dX11_chance_162
theorem lkX11_chance_38 {g : Gm} {l0 : Launch} {E : En} {d n : Nat} {Rf : Nat → Nat → Nat} {ex : Bool} {kq : Nat × Nat} (hn : 239 ≤ n) (hRf : RfOk 1 239 kq Rf) (hkq : isKq kq) (hg : Ok g l0 E cX11_chance RX11 6 (d + 5) 0 0) {q : Int32 × Mm} (hr : Ret g E 0 0 (some .int) ex n Rf (some (.int q.1)) q.2) : ∀ (x1 : Int32) (x2 : Int32) (x3 : Int32) (x4 : Int32) (s0 : Int32) (M : Mm), sX11_chance_38 kq x1 x2 x3 x4 s0 M = some q → WG g E 6 n Rf ex 0 0 38 [(0, rr E.1 1), (1, .int x1), (2, .int x2), (3, .int x3), (4, .int x4)] [.int s0] M := by
  intro x1 x2 x3 x4 s0 M h
  unfold sX11_chance_38 at h
  refine g_istore (lv' := [(5, .int s0), (0, rr E.1 1), (1, .int x1), (2, .int x2), (3, .int x3), (4, .int x4)]) hg dX11_chance_38 (by decide) rfl ?_
  refine g_iload hg dX11_chance_40 0 rfl ?_
  refine g_if_ne (tgt := 69) hg dX11_chance_42 (by decide) (fun c => ?_) (fun c => ?_)
  · replace h := itF c h
    refine g_iconst hg dX11_chance_69 kI_m1 ?_
    replace h := Option.some.inj h
    subst h
    exact g_iret hg hr dX11_chance_70
  · replace h := itT c h
    refine g_rload_n hg dX11_chance_45 rfl 1 rfl ?_
    refine g_getR (r := kq.1) hg fl_X11_34 ly1 rfl (idb rfl rfl hn) (rfc hRf rfl rfl rfl rfl) (ky_pos hkq.1) dX11_chance_46 ?_
    refine g_getI hg fl_X11_125 (ky_lay hkq.1) rfl (ky_bd hkq.1 hn) dX11_chance_49 ?_
    refine g_if_eq (tgt := 69) hg dX11_chance_52 (by decide) (fun c => ?_) (fun c => ?_)
    · replace h := itT c h
      refine g_iconst hg dX11_chance_69 kI_m1 ?_
      replace h := Option.some.inj h
      subst h
      exact g_iret hg hr dX11_chance_70
    · replace h := itF c h
      refine g_iload hg dX11_chance_55 5 rfl ?_
      refine g_iconst hg dX11_chance_57 kI_2 ?_
      refine g_icmp_ge (tgt := 71) hg dX11_chance_58 (by decide) (fun c => ?_) (fun c => ?_)
      · replace h := itT c h
        refine g_sub (lv' := [(0, rr E.1 1), (1, .int x1), (2, .int x2), (3, .int x3), (4, .int x4)]) [1, 2, 3, 4, 5] rfl ?_
        exact lkX11_chance_71 hn hRf hkq hg hr  _ _ _ _ _ h
      · replace h := itF c h
        refine g_rload_n hg dX11_chance_61 rfl 1 rfl ?_
        refine g_iload_n hg dX11_chance_62 rfl 4 rfl ?_
        obtain ⟨q63, e63, h⟩ := Option.bind_eq_some_iff.mp h
        refine g_callVi (As := [.int x3]) (rest := []) hg (lkX11_isKind (by omega) hn hRf hkq  e63) cv_X11_193 rfl ly1 (idb rfl rfl hn) rfl rfl (Nat.le_of_ble_eq_true rfl) ⟨Nat.le_refl _, Nat.le_refl _⟩ dX11_chance_63 ?_
        refine g_if_ne (tgt := 71) hg dX11_chance_66 (by decide) (fun c => ?_) (fun c => ?_)
        · replace h := itF c h
          refine g_sub (lv' := [(0, rr E.1 1), (1, .int x1), (2, .int x2), (3, .int x3), (4, .int x4)]) [1, 2, 3, 4, 5] rfl ?_
          exact lkX11_chance_71 hn hRf hkq hg hr  _ _ _ _ _ h
        · replace h := itT c h
          refine g_iconst hg dX11_chance_69 kI_m1 ?_
          replace h := Option.some.inj h
          subst h
          exact g_iret hg hr dX11_chance_70
theorem lkX11_chance_33 {g : Gm} {l0 : Launch} {E : En} {d n : Nat} {Rf : Nat → Nat → Nat} {ex : Bool} {kq : Nat × Nat} (hn : 239 ≤ n) (hRf : RfOk 1 239 kq Rf) (hkq : isKq kq) (hg : Ok g l0 E cX11_chance RX11 6 (d + 5) 0 0) {q : Int32 × Mm} (hr : Ret g E 0 0 (some .int) ex n Rf (some (.int q.1)) q.2) : ∀ (x1 : Int32) (x2 : Int32) (x3 : Int32) (x4 : Int32) (M : Mm), sX11_chance_33 kq x1 x2 x3 x4 M = some q → WG g E 6 n Rf ex 0 0 33 [(0, rr E.1 1), (1, .int x1), (2, .int x2), (3, .int x3), (4, .int x4)] [] M := by
  intro x1 x2 x3 x4 M h
  unfold sX11_chance_33 at h
  refine g_iconst hg dX11_chance_33 kI_1 ?_
  refine g_goto (tgt := 38) hg dX11_chance_34 (by decide) ?_
  exact lkX11_chance_38 hn hRf hkq hg hr  _ _ _ _ _ _ h
theorem lkX11_chance {l0 : Launch} {E : En} {d n : Nat} {Rf : Nat → Nat → Nat} {ex : Bool} {kq : Nat × Nat} (hd : 5 ≤ d) (hn : 239 ≤ n) (hRf : RfOk 1 239 kq Rf) (hkq : isKq kq) {x1 : Int32} {x2 : Int32} {x3 : Int32} {x4 : Int32} {M : Mm} {q : Int32 × Mm} (h : sX11_chance kq x1 x2 x3 x4 M = some q) : Ct l0 E yX11_chance cX11_chance 6 (some .int) d 0 0 [rr E.1 1, .int x1, .int x2, .int x3, .int x4] ex n Rf M n Rf (some (.int q.1)) q.2 := by
  obtain ⟨d, rfl⟩ := Nat.exists_eq_add_of_le' hd
  refine Ct.of pnX11 (Nat.le_of_ble_eq_true rfl) (fun g hg hr _ => ?_)
  replace hg : Ok g l0 E cX11_chance RX11 6 (d + 5) 0 0 := hg
  show WG g E 6 n Rf ex 0 0 0 [(0, rr E.1 1), (1, .int x1), (2, .int x2), (3, .int x3), (4, .int x4)] [] M
  unfold sX11_chance at h
  refine g_rload_n hg dX11_chance_0 rfl 0 rfl ?_
  refine g_getR (r := 34) hg fl_X11_52 ly1 rfl (idb rfl rfl hn) (rfc hRf rfl rfl rfl rfl) (by decide) dX11_chance_1 ?_
  refine g_iload_n hg dX11_chance_4 rfl 1 rfl ?_
  obtain ⟨q5, e5, h⟩ := Option.bind_eq_some_iff.mp h
  refine g_callVi (As := [.int x1]) (rest := []) hg (lkX1_knows (by omega) hn hRf  e5) cv_X11_247 rfl ly34 (idb rfl rfl hn) rfl rfl (Nat.le_of_ble_eq_true rfl) ⟨Nat.le_refl _, Nat.le_refl _⟩ dX11_chance_5 ?_
  refine g_if_eq (tgt := 33) hg dX11_chance_8 (by decide) (fun c => ?_) (fun c => ?_)
  · replace h := itT c h
    exact lkX11_chance_33 hn hRf hkq hg hr  _ _ _ _ _ h
  · replace h := itF c h
    refine g_rload_n hg dX11_chance_11 rfl 0 rfl ?_
    refine g_getR (r := 22) hg fl_X11_45 ly1 rfl (idb rfl rfl hn) (rfc hRf rfl rfl rfl rfl) (by decide) dX11_chance_12 ?_
    refine g_iload_n hg dX11_chance_15 rfl 2 rfl ?_
    obtain ⟨q16, e16, h⟩ := Option.bind_eq_some_iff.mp h
    refine g_callVi (As := [.int x2]) (rest := []) hg (lkX6_hasCell (by omega) (Nat.le_trans (by decide : 34 ≤ 239) hn) (hRf.mono (by decide) (by decide))  e16) cv_X11_142 rfl ly22 (idb rfl rfl hn) rfl rfl (Nat.le_of_ble_eq_true rfl) ⟨Nat.le_refl _, Nat.le_refl _⟩ dX11_chance_16 ?_
    refine g_if_eq (tgt := 33) hg dX11_chance_19 (by decide) (fun c => ?_) (fun c => ?_)
    · replace h := itT c h
      exact lkX11_chance_33 hn hRf hkq hg hr  _ _ _ _ _ h
    · replace h := itF c h
      refine g_iload hg dX11_chance_22 4 rfl ?_
      refine g_if_lt (tgt := 33) hg dX11_chance_24 (by decide) (fun c => ?_) (fun c => ?_)
      · replace h := itT c h
        exact lkX11_chance_33 hn hRf hkq hg hr  _ _ _ _ _ h
      · replace h := itF c h
        refine g_iload hg dX11_chance_27 4 rfl ?_
        refine g_iconst hg dX11_chance_29 kI_4 ?_
        refine g_icmp_le (tgt := 37) hg dX11_chance_30 (by decide) (fun c => ?_) (fun c => ?_)
        · replace h := itT c h
          refine g_iconst hg dX11_chance_37 kI_0 ?_
          exact lkX11_chance_38 hn hRf hkq hg hr  _ _ _ _ _ _ h
        · replace h := itF c h
          exact lkX11_chance_33 hn hRf hkq hg hr  _ _ _ _ _ h
theorem lkX11_countRight_62 {g : Gm} {l0 : Launch} {E : En} {d n : Nat} {Rf : Nat → Nat → Nat} {ex : Bool} {kq : Nat × Nat} (hn : 239 ≤ n) (hRf : RfOk 1 239 kq Rf) (hg : Ok g l0 E cX11_countRight RX11 4 (d + 5) 0 0) {q : Int32 × Mm} (hr : Ret g E 0 0 (some .int) ex n Rf (some (.int q.1)) q.2) {k4 : Int32 → Int32 → Mm → Option (Int32 × Mm)} (hk4 : ∀ (x1 : Int32) (x2 : Int32) (M : Mm), k4 x1 x2 M = some q → WG g E 4 n Rf ex 0 0 4 [(0, rr E.1 1), (1, .int x1), (2, .int x2)] [] M) : ∀ (x1 : Int32) (x2 : Int32) (M : Mm), sX11_countRight_62 k4 x1 x2 M = some q → WG g E 4 n Rf ex 0 0 62 [(0, rr E.1 1), (1, .int x1), (2, .int x2)] [] M := by
  intro x1 x2 M h
  unfold sX11_countRight_62 at h
  refine g_inc (lv' := [(2, .int (x2 + 1)), (0, rr E.1 1), (1, .int x1)]) hg dX11_countRight_62 kI_1 2 rfl (by decide) rfl ?_
  refine g_goto (tgt := 4) hg dX11_countRight_65 (by decide) ?_
  refine g_sub (lv' := [(0, rr E.1 1), (1, .int x1), (2, .int (x2 + 1))]) [1, 2, 0] rfl ?_
  exact hk4 _ _ _ h
theorem lkX11_countRight_4 {g : Gm} {l0 : Launch} {E : En} {d n : Nat} {Rf : Nat → Nat → Nat} {ex : Bool} {kq : Nat × Nat} (hn : 239 ≤ n) (hRf : RfOk 1 239 kq Rf) (hg : Ok g l0 E cX11_countRight RX11 4 (d + 5) 0 0) {q : Int32 × Mm} (hr : Ret g E 0 0 (some .int) ex n Rf (some (.int q.1)) q.2) : ∀ (F : Nat) (x1 : Int32) (x2 : Int32) (M : Mm), sX11_countRight_4 F x1 x2 M = some q → WG g E 4 n Rf ex 0 0 4 [(0, rr E.1 1), (1, .int x1), (2, .int x2)] [] M := by
  intro F
  induction F with
  | zero =>
    intro x1 x2 M h
    cases h
  | succ F ih =>
    intro x1 x2 M h
    rw [sX11_countRight_4] at h
    refine g_iload_n hg dX11_countRight_4 rfl 2 rfl ?_
    refine g_rload_n hg dX11_countRight_5 rfl 0 rfl ?_
    refine g_getR (r := 34) hg fl_X11_52 ly1 rfl (idb rfl rfl hn) (rfc hRf rfl rfl rfl rfl) (by decide) dX11_countRight_6 ?_
    refine g_getI hg fl_X11_273 ly34 rfl (idb rfl rfl hn) dX11_countRight_9 ?_
    refine g_icmp_ge (tgt := 68) hg dX11_countRight_12 (by decide) (fun c => ?_) (fun c => ?_)
    · replace h := itT c h
      refine g_iload_n hg dX11_countRight_68 rfl 1 rfl ?_
      replace h := Option.some.inj h
      subst h
      exact g_iret hg hr dX11_countRight_69
    · replace h := itF c h
      refine g_rload_n hg dX11_countRight_15 rfl 0 rfl ?_
      refine g_getR (r := 34) hg fl_X11_52 ly1 rfl (idb rfl rfl hn) (rfc hRf rfl rfl rfl rfl) (by decide) dX11_countRight_16 ?_
      refine g_getR (r := 35) hg fl_X11_148 ly34 rfl (idb rfl rfl hn) (rfc hRf rfl rfl rfl rfl) (by decide) dX11_countRight_19 ?_
      refine g_rload_n hg dX11_countRight_22 rfl 0 rfl ?_
      refine g_getR (r := 34) hg fl_X11_52 ly1 rfl (idb rfl rfl hn) (rfc hRf rfl rfl rfl rfl) (by decide) dX11_countRight_23 ?_
      refine g_getR (r := 36) hg fl_X11_364 ly34 rfl (idb rfl rfl hn) (rfc hRf rfl rfl rfl rfl) (by decide) dX11_countRight_26 ?_
      refine g_iload_n hg dX11_countRight_29 rfl 2 rfl ?_
      obtain ⟨c30, h⟩ := ck_some h
      refine g_iald hg ly36 (idb rfl rfl hn) (inb_vp c30) dX11_countRight_30 ?_
      obtain ⟨c31, h⟩ := ck_some h
      refine g_aald3 (r := (38 + 2 * (M.1 36 x2.toNatClampNeg).toNatClampNeg)) hg ly35 (idb rfl rfl hn) (inb_vp c31) (nt_rfA (inb_vp c31) hRf) (Nat.lt_of_lt_of_le (by decide) (Nat.le_add_right _ _)) dX11_countRight_31 ?_
      refine g_rstore_n (lv' := [(3, rr E.1 (38 + 2 * (M.1 36 x2.toNatClampNeg).toNatClampNeg)), (0, rr E.1 1), (1, .int x1), (2, .int x2)]) hg dX11_countRight_32 rfl (by decide) rfl ?_
      refine g_rload_n hg dX11_countRight_33 rfl 1 rfl ?_
      refine g_getR (r := 158) hg fl_X11_61 ly1 rfl (idb rfl rfl hn) (rfc hRf rfl rfl rfl rfl) (by decide) dX11_countRight_34 ?_
      refine g_rload_n hg dX11_countRight_37 rfl 0 rfl ?_
      refine g_getI hg fl_X11_164 (nt_lay (nt_of (inb_vp c31))) rfl (nt_bd (nt_of (inb_vp c31)) hn) dX11_countRight_38 ?_
      refine g_iload_n hg dX11_countRight_41 rfl 3 rfl ?_
      obtain ⟨M42, e42, h⟩ := Option.bind_eq_some_iff.mp h
      refine g_callVv (As := [.int (M.1 (38 + 2 * (M.1 36 x2.toNatClampNeg).toNatClampNeg) 2), .int x2]) (rest := []) hg (lkX2_weigh (by omega) hn hRf  e42) cv_X11_253 rfl ly158 (idb rfl rfl hn) rfl rfl (Nat.le_of_ble_eq_true rfl) ⟨Nat.le_refl _, Nat.le_refl _⟩ dX11_countRight_42 ?_
      refine g_rload_n hg dX11_countRight_45 rfl 1 rfl ?_
      refine g_getR (r := 158) hg fl_X11_61 ly1 rfl (idb rfl rfl hn) (rfc hRf rfl rfl rfl rfl) (by decide) dX11_countRight_46 ?_
      refine g_getI hg fl_X11_263 ly158 rfl (idb rfl rfl hn) dX11_countRight_49 ?_
      refine g_rload_n hg dX11_countRight_52 rfl 0 rfl ?_
      refine g_getI hg fl_X11_213 (nt_lay (nt_of (inb_vp c31))) rfl (nt_bd (nt_of (inb_vp c31)) hn) dX11_countRight_53 ?_
      refine g_icmp_ne (tgt := 62) hg dX11_countRight_56 (by decide) (fun c => ?_) (fun c => ?_)
      · rw [if_neg c] at h
        refine g_sub (lv' := [(0, rr E.1 1), (1, .int x1), (2, .int x2)]) [1, 2, 3] rfl ?_
        exact lkX11_countRight_62 hn hRf hg hr ih _ _ _ h
      · rw [if_pos c] at h
        refine g_inc (lv' := [(1, .int (x1 + 1)), (3, rr E.1 (38 + 2 * (M.1 36 x2.toNatClampNeg).toNatClampNeg)), (0, rr E.1 1), (2, .int x2)]) hg dX11_countRight_59 kI_1 2 rfl (by decide) rfl ?_
        refine g_sub (lv' := [(0, rr E.1 1), (1, .int (x1 + 1)), (2, .int x2)]) [2, 0, 3] rfl ?_
        exact lkX11_countRight_62 hn hRf hg hr ih _ _ _ h
theorem lkX11_countRight {l0 : Launch} {E : En} {d n : Nat} {Rf : Nat → Nat → Nat} {ex : Bool} {kq : Nat × Nat} (hd : 5 ≤ d) (hn : 239 ≤ n) (hRf : RfOk 1 239 kq Rf)  {M : Mm} {q : Int32 × Mm} (h : sX11_countRight M = some q) : Ct l0 E yX11_countRight cX11_countRight 4 (some .int) d 0 0 [rr E.1 1] ex n Rf M n Rf (some (.int q.1)) q.2 := by
  obtain ⟨d, rfl⟩ := Nat.exists_eq_add_of_le' hd
  refine Ct.of pnX11 (Nat.le_of_ble_eq_true rfl) (fun g hg hr _ => ?_)
  replace hg : Ok g l0 E cX11_countRight RX11 4 (d + 5) 0 0 := hg
  show WG g E 4 n Rf ex 0 0 0 [(0, rr E.1 1)] [] M
  unfold sX11_countRight at h
  refine g_iconst hg dX11_countRight_0 kI_0 ?_
  refine g_istore_n (lv' := [(1, .int 0), (0, rr E.1 1)]) hg dX11_countRight_1 rfl (by decide) rfl ?_
  refine g_iconst hg dX11_countRight_2 kI_0 ?_
  refine g_istore_n (lv' := [(2, .int 0), (1, .int 0), (0, rr E.1 1)]) hg dX11_countRight_3 rfl (by decide) rfl ?_
  refine g_sub (lv' := [(0, rr E.1 1), (1, .int 0), (2, .int 0)]) [2, 1, 0] rfl ?_
  exact lkX11_countRight_4 hn hRf hg hr  4096 _ _ _ h
theorem lkX11_sumSaid_4 {g : Gm} {l0 : Launch} {E : En} {d n : Nat} {Rf : Nat → Nat → Nat} {ex : Bool} {kq : Nat × Nat} (hn : 239 ≤ n) (hRf : RfOk 1 239 kq Rf) (hg : Ok g l0 E cX11_sumSaid RX11 3 (d + 5) 0 0) {q : Int32 × Mm} (hr : Ret g E 0 0 (some .int) ex n Rf (some (.int q.1)) q.2) : ∀ (F : Nat) (x1 : Int32) (x2 : Int32) (M : Mm), sX11_sumSaid_4 F x1 x2 M = some q → WG g E 3 n Rf ex 0 0 4 [(0, rr E.1 1), (1, .int x1), (2, .int x2)] [] M := by
  intro F
  induction F with
  | zero =>
    intro x1 x2 M h
    cases h
  | succ F ih =>
    intro x1 x2 M h
    rw [sX11_sumSaid_4] at h
    refine g_iload_n hg dX11_sumSaid_4 rfl 2 rfl ?_
    refine g_rload_n hg dX11_sumSaid_5 rfl 0 rfl ?_
    refine g_getR (r := 34) hg fl_X11_52 ly1 rfl (idb rfl rfl hn) (rfc hRf rfl rfl rfl rfl) (by decide) dX11_sumSaid_6 ?_
    refine g_getI hg fl_X11_273 ly34 rfl (idb rfl rfl hn) dX11_sumSaid_9 ?_
    refine g_icmp_ge (tgt := 66) hg dX11_sumSaid_12 (by decide) (fun c => ?_) (fun c => ?_)
    · replace h := itT c h
      refine g_iload_n hg dX11_sumSaid_66 rfl 1 rfl ?_
      replace h := Option.some.inj h
      subst h
      exact g_iret hg hr dX11_sumSaid_67
    · replace h := itF c h
      refine g_rload_n hg dX11_sumSaid_15 rfl 0 rfl ?_
      refine g_getR (r := 158) hg fl_X11_61 ly1 rfl (idb rfl rfl hn) (rfc hRf rfl rfl rfl rfl) (by decide) dX11_sumSaid_16 ?_
      refine g_rload_n hg dX11_sumSaid_19 rfl 0 rfl ?_
      refine g_getR (r := 34) hg fl_X11_52 ly1 rfl (idb rfl rfl hn) (rfc hRf rfl rfl rfl rfl) (by decide) dX11_sumSaid_20 ?_
      refine g_getR (r := 35) hg fl_X11_148 ly34 rfl (idb rfl rfl hn) (rfc hRf rfl rfl rfl rfl) (by decide) dX11_sumSaid_23 ?_
      refine g_rload_n hg dX11_sumSaid_26 rfl 0 rfl ?_
      refine g_getR (r := 34) hg fl_X11_52 ly1 rfl (idb rfl rfl hn) (rfc hRf rfl rfl rfl rfl) (by decide) dX11_sumSaid_27 ?_
      refine g_getR (r := 36) hg fl_X11_364 ly34 rfl (idb rfl rfl hn) (rfc hRf rfl rfl rfl rfl) (by decide) dX11_sumSaid_30 ?_
      refine g_iload_n hg dX11_sumSaid_33 rfl 2 rfl ?_
      obtain ⟨c34, h⟩ := ck_some h
      refine g_iald hg ly36 (idb rfl rfl hn) (inb_vp c34) dX11_sumSaid_34 ?_
      obtain ⟨c35, h⟩ := ck_some h
      refine g_aald3 (r := (38 + 2 * (M.1 36 x2.toNatClampNeg).toNatClampNeg)) hg ly35 (idb rfl rfl hn) (inb_vp c35) (nt_rfA (inb_vp c35) hRf) (Nat.lt_of_lt_of_le (by decide) (Nat.le_add_right _ _)) dX11_sumSaid_35 ?_
      refine g_getI hg fl_X11_164 (nt_lay (nt_of (inb_vp c35))) rfl (nt_bd (nt_of (inb_vp c35)) hn) dX11_sumSaid_36 ?_
      refine g_iload_n hg dX11_sumSaid_39 rfl 2 rfl ?_
      obtain ⟨M40, e40, h⟩ := Option.bind_eq_some_iff.mp h
      refine g_callVv (As := [.int (M.1 (38 + 2 * (M.1 36 x2.toNatClampNeg).toNatClampNeg) 2), .int x2]) (rest := []) hg (lkX2_weigh (by omega) hn hRf  e40) cv_X11_253 rfl ly158 (idb rfl rfl hn) rfl rfl (Nat.le_of_ble_eq_true rfl) ⟨Nat.le_refl _, Nat.le_refl _⟩ dX11_sumSaid_40 ?_
      refine g_iload_n hg dX11_sumSaid_43 rfl 1 rfl ?_
      refine g_rload_n hg dX11_sumSaid_44 rfl 0 rfl ?_
      refine g_getR (r := 158) hg fl_X11_61 ly1 rfl (idb rfl rfl hn) (rfc hRf rfl rfl rfl rfl) (by decide) dX11_sumSaid_45 ?_
      refine g_rload_n hg dX11_sumSaid_48 rfl 0 rfl ?_
      refine g_getR (r := 158) hg fl_X11_61 ly1 rfl (idb rfl rfl hn) (rfc hRf rfl rfl rfl rfl) (by decide) dX11_sumSaid_49 ?_
      refine g_getI hg fl_X11_263 ly158 rfl (idb rfl rfl hn) dX11_sumSaid_52 ?_
      obtain ⟨q55, e55, h⟩ := Option.bind_eq_some_iff.mp h
      refine g_callVi (As := [.int (M40.1 158 7)]) (rest := [.int x1]) hg (lkX2_partsOf (by omega) hn hRf  e55) cv_X11_259 rfl ly158 (idb rfl rfl hn) rfl rfl (Nat.le_of_ble_eq_true rfl) ⟨Nat.le_refl _, Nat.le_refl _⟩ dX11_sumSaid_55 ?_
      refine g_iadd hg dX11_sumSaid_58 ?_
      refine g_istore_n (lv' := [(1, .int (x1 + q55.1)), (0, rr E.1 1), (2, .int x2)]) hg dX11_sumSaid_59 rfl (by decide) rfl ?_
      refine g_inc (lv' := [(2, .int (x2 + 1)), (1, .int (x1 + q55.1)), (0, rr E.1 1)]) hg dX11_sumSaid_60 kI_1 2 rfl (by decide) rfl ?_
      refine g_goto (tgt := 4) hg dX11_sumSaid_63 (by decide) ?_
      refine g_sub (lv' := [(0, rr E.1 1), (1, .int (x1 + q55.1)), (2, .int (x2 + 1))]) [2, 1, 0] rfl ?_
      exact ih _ _ _ h
theorem lkX11_sumSaid {l0 : Launch} {E : En} {d n : Nat} {Rf : Nat → Nat → Nat} {ex : Bool} {kq : Nat × Nat} (hd : 5 ≤ d) (hn : 239 ≤ n) (hRf : RfOk 1 239 kq Rf)  {M : Mm} {q : Int32 × Mm} (h : sX11_sumSaid M = some q) : Ct l0 E yX11_sumSaid cX11_sumSaid 3 (some .int) d 0 0 [rr E.1 1] ex n Rf M n Rf (some (.int q.1)) q.2 := by
  obtain ⟨d, rfl⟩ := Nat.exists_eq_add_of_le' hd
  refine Ct.of pnX11 (Nat.le_of_ble_eq_true rfl) (fun g hg hr _ => ?_)
  replace hg : Ok g l0 E cX11_sumSaid RX11 3 (d + 5) 0 0 := hg
  show WG g E 3 n Rf ex 0 0 0 [(0, rr E.1 1)] [] M
  unfold sX11_sumSaid at h
  refine g_iconst hg dX11_sumSaid_0 kI_0 ?_
  refine g_istore_n (lv' := [(1, .int 0), (0, rr E.1 1)]) hg dX11_sumSaid_1 rfl (by decide) rfl ?_
  refine g_iconst hg dX11_sumSaid_2 kI_0 ?_
  refine g_istore_n (lv' := [(2, .int 0), (1, .int 0), (0, rr E.1 1)]) hg dX11_sumSaid_3 rfl (by decide) rfl ?_
  refine g_sub (lv' := [(0, rr E.1 1), (1, .int 0), (2, .int 0)]) [2, 1, 0] rfl ?_
  exact lkX11_sumSaid_4 hn hRf hg hr  4096 _ _ _ h
theorem lkX11_leftOut {l0 : Launch} {E : En} {d n : Nat} {Rf : Nat → Nat → Nat} {ex : Bool} {kq : Nat × Nat} (hd : 6 ≤ d) (hn : 239 ≤ n) (hRf : RfOk 1 239 kq Rf) {x1 : Int32} {x2 : Int32} {M : Mm} {q : Int32 × Mm} (h : sX11_leftOut x1 x2 M = some q) : Ct l0 E yX11_leftOut cX11_leftOut 3 (some .int) d 0 0 [rr E.1 1, .int x1, .int x2] ex n Rf M n Rf (some (.int q.1)) q.2 := by
  obtain ⟨d, rfl⟩ := Nat.exists_eq_add_of_le' hd
  refine Ct.of pnX11 (Nat.le_of_ble_eq_true rfl) (fun g hg hr _ => ?_)
  replace hg : Ok g l0 E cX11_leftOut RX11 3 (d + 6) 0 0 := hg
  show WG g E 3 n Rf ex 0 0 0 [(0, rr E.1 1), (1, .int x1), (2, .int x2)] [] M
  unfold sX11_leftOut at h
  refine g_rload_n hg dX11_leftOut_0 rfl 0 rfl ?_
  refine g_getR (r := 34) hg fl_X11_52 ly1 rfl (idb rfl rfl hn) (rfc hRf rfl rfl rfl rfl) (by decide) dX11_leftOut_1 ?_
  refine g_iload_n hg dX11_leftOut_4 rfl 1 rfl ?_
  obtain ⟨q5, e5, h⟩ := Option.bind_eq_some_iff.mp h
  refine g_callVi (As := [.int x1]) (rest := []) hg (lkX1_knows (by omega) hn hRf  e5) cv_X11_247 rfl ly34 (idb rfl rfl hn) rfl rfl (Nat.le_of_ble_eq_true rfl) ⟨Nat.le_refl _, Nat.le_refl _⟩ dX11_leftOut_5 ?_
  refine g_if_eq (tgt := 20) hg dX11_leftOut_8 (by decide) (fun c => ?_) (fun c => ?_)
  · replace h := itT c h
    refine g_iconst hg dX11_leftOut_20 kI_m1 ?_
    replace h := Option.some.inj h
    subst h
    exact g_iret hg hr dX11_leftOut_21
  · replace h := itF c h
    refine g_iload_n hg dX11_leftOut_11 rfl 2 rfl ?_
    refine g_if_lt (tgt := 20) hg dX11_leftOut_12 (by decide) (fun c => ?_) (fun c => ?_)
    · replace h := itT c h
      refine g_iconst hg dX11_leftOut_20 kI_m1 ?_
      replace h := Option.some.inj h
      subst h
      exact g_iret hg hr dX11_leftOut_21
    · replace h := itF c h
      refine g_iload_n hg dX11_leftOut_15 rfl 2 rfl ?_
      refine g_iconst hg dX11_leftOut_16 kI_2 ?_
      refine g_icmp_le (tgt := 22) hg dX11_leftOut_17 (by decide) (fun c => ?_) (fun c => ?_)
      · replace h := itT c h
        refine g_rload_n hg dX11_leftOut_22 rfl 0 rfl ?_
        refine g_getR (r := 34) hg fl_X11_52 ly1 rfl (idb rfl rfl hn) (rfc hRf rfl rfl rfl rfl) (by decide) dX11_leftOut_23 ?_
        refine g_iload_n hg dX11_leftOut_26 rfl 1 rfl ?_
        obtain ⟨M27, e27, h⟩ := Option.bind_eq_some_iff.mp h
        refine g_callVv (As := [.int x1]) (rest := []) hg (lkX1_gather (by omega) hn hRf  e27) cv_X11_250 rfl ly34 (idb rfl rfl hn) rfl rfl (Nat.le_of_ble_eq_true rfl) ⟨Nat.le_refl _, Nat.le_refl _⟩ dX11_leftOut_27 ?_
        refine g_iload_n hg dX11_leftOut_30 rfl 2 rfl ?_
        refine g_if_ne (tgt := 44) hg dX11_leftOut_31 (by decide) (fun c => ?_) (fun c => ?_)
        · replace h := itF c h
          refine g_iload_n hg dX11_leftOut_44 rfl 2 rfl ?_
          refine g_iconst hg dX11_leftOut_45 kI_1 ?_
          refine g_icmp_ne (tgt := 56) hg dX11_leftOut_46 (by decide) (fun c => ?_) (fun c => ?_)
          · replace h := itF c h
            refine g_rload_n hg dX11_leftOut_56 rfl 0 rfl ?_
            obtain ⟨q57, e57, h⟩ := Option.bind_eq_some_iff.mp h
            refine g_callVi (As := []) (rest := []) hg (lkX11_sumSaid (by omega) hn hRf  e57) cv_X11_279 rfl ly1 (idb rfl rfl hn) rfl rfl (Nat.le_of_ble_eq_true rfl) ⟨Nat.le_refl _, Nat.le_refl _⟩ dX11_leftOut_57 ?_
            replace h := Option.some.inj h
            subst h
            exact g_iret hg hr dX11_leftOut_60
          · replace h := itT c h
            refine g_rload_n hg dX11_leftOut_49 rfl 0 rfl ?_
            obtain ⟨q50, e50, h⟩ := Option.bind_eq_some_iff.mp h
            refine g_callVi (As := []) (rest := []) hg (lkX11_countRight (by omega) hn hRf  e50) cv_X11_276 rfl ly1 (idb rfl rfl hn) rfl rfl (Nat.le_of_ble_eq_true rfl) ⟨Nat.le_refl _, Nat.le_refl _⟩ dX11_leftOut_50 ?_
            refine g_goto (tgt := 60) hg dX11_leftOut_53 (by decide) ?_
            replace h := Option.some.inj h
            subst h
            exact g_iret hg hr dX11_leftOut_60
        · replace h := itT c h
          refine g_rload_n hg dX11_leftOut_34 rfl 0 rfl ?_
          refine g_getR (r := 34) hg fl_X11_52 ly1 rfl (idb rfl rfl hn) (rfc hRf rfl rfl rfl rfl) (by decide) dX11_leftOut_35 ?_
          refine g_getI hg fl_X11_273 ly34 rfl (idb rfl rfl hn) dX11_leftOut_38 ?_
          refine g_goto (tgt := 60) hg dX11_leftOut_41 (by decide) ?_
          replace h := Option.some.inj h
          subst h
          exact g_iret hg hr dX11_leftOut_60
      · replace h := itF c h
        refine g_iconst hg dX11_leftOut_20 kI_m1 ?_
        replace h := Option.some.inj h
        subst h
        exact g_iret hg hr dX11_leftOut_21
theorem lkX3_costBehind {l0 : Launch} {E : En} {d n : Nat} {Rf : Nat → Nat → Nat} {ex : Bool} {kq : Nat × Nat} (hd : 1 ≤ d) (hn : 239 ≤ n) (hRf : RfOk 1 239 kq Rf) {x1 : Int32} {x2 : Int32} {x3 : Int32} {M : Mm} {q : Int32 × Mm} (h : sX3_costBehind x1 x2 x3 M = some q) : Ct l0 E yX3_costBehind cX3_costBehind 4 (some .int) d 0 0 [rr E.1 162, .int x1, .int x2, .int x3] ex n Rf M n Rf (some (.int q.1)) q.2 := by
  obtain ⟨d, rfl⟩ := Nat.exists_eq_add_of_le' hd
  refine Ct.of pnX3 (Nat.le_of_ble_eq_true rfl) (fun g hg hr _ => ?_)
  replace hg : Ok g l0 E cX3_costBehind RX3 4 (d + 1) 0 0 := hg
  show WG g E 4 n Rf ex 0 0 0 [(0, rr E.1 162), (1, .int x1), (2, .int x2), (3, .int x3)] [] M
  unfold sX3_costBehind at h
  refine g_rload_n hg dX3_costBehind_0 rfl 0 rfl ?_
  refine g_getR (r := 163) hg fl_X3_20 ly162 rfl (idb rfl rfl hn) (rfc hRf rfl rfl rfl rfl) (by decide) dX3_costBehind_1 ?_
  refine g_iload_n hg dX3_costBehind_4 rfl 1 rfl ?_
  refine g_iconst hg dX3_costBehind_5 kI_1 ?_
  refine g_iadd hg dX3_costBehind_6 ?_
  obtain ⟨c7, h⟩ := ck_some h
  refine g_aald4 (r := (164 + (x1 + 1).toNatClampNeg)) hg ly163 (idb rfl rfl hn) (inb_vp c7) (fr163_rf (inb_vp c7) hRf) (Nat.lt_of_lt_of_le (by decide) (Nat.le_add_right _ _)) dX3_costBehind_7 ?_
  refine g_iload_n hg dX3_costBehind_8 rfl 3 rfl ?_
  obtain ⟨c9, h⟩ := ck_some h
  refine g_iald hg (fr163_lay (inb_vp c7)) (fr163_bd (inb_vp c7) hn) (inb_vp c9) dX3_costBehind_9 ?_
  refine g_iload_n hg dX3_costBehind_10 rfl 2 rfl ?_
  refine g_iload_n hg dX3_costBehind_11 rfl 3 rfl ?_
  refine g_icmp_ne (tgt := 19) hg dX3_costBehind_12 (by decide) (fun c => ?_) (fun c => ?_)
  · replace h := itF c h
    refine g_rload_n hg dX3_costBehind_19 rfl 0 rfl ?_
    refine g_getR (r := 172) hg fl_X3_23 ly162 rfl (idb rfl rfl hn) (rfc hRf rfl rfl rfl rfl) (by decide) dX3_costBehind_20 ?_
    refine g_iload_n hg dX3_costBehind_23 rfl 1 rfl ?_
    obtain ⟨c24, h⟩ := ck_some h
    refine g_iald hg ly172 (idb rfl rfl hn) (inb_vp c24) dX3_costBehind_24 ?_
    refine g_iadd hg dX3_costBehind_25 ?_
    replace h := Option.some.inj h
    subst h
    exact g_iret hg hr dX3_costBehind_26
  · replace h := itT c h
    refine g_iconst hg dX3_costBehind_15 kI_0 ?_
    refine g_goto (tgt := 25) hg dX3_costBehind_16 (by decide) ?_
    refine g_iadd hg dX3_costBehind_25 ?_
    replace h := Option.some.inj h
    subst h
    exact g_iret hg hr dX3_costBehind_26
theorem lkX3_followerOf_41 {g : Gm} {l0 : Launch} {E : En} {d n : Nat} {Rf : Nat → Nat → Nat} {ex : Bool} {kq : Nat × Nat} (hn : 239 ≤ n) (hRf : RfOk 1 239 kq Rf) (hg : Ok g l0 E cX3_followerOf RX3 5 (d + 2) 0 0) {q : Int32 × Mm} (hr : Ret g E 0 0 (some .int) ex n Rf (some (.int q.1)) q.2) {k5 : Int32 → Int32 → Int32 → Int32 → Mm → Option (Int32 × Mm)} (hk5 : ∀ (x1 : Int32) (x2 : Int32) (x3 : Int32) (x4 : Int32) (M : Mm), k5 x1 x2 x3 x4 M = some q → WG g E 5 n Rf ex 0 0 5 [(0, rr E.1 162), (1, .int x1), (2, .int x2), (3, .int x3), (4, .int x4)] [] M) : ∀ (x1 : Int32) (x2 : Int32) (x4 : Int32) (s0 : Int32) (M : Mm), sX3_followerOf_41 k5 x1 x2 x4 s0 M = some q → WG g E 5 n Rf ex 0 0 41 [(0, rr E.1 162), (1, .int x1), (2, .int x2), (4, .int x4)] [.int s0] M := by
  intro x1 x2 x4 s0 M h
  unfold sX3_followerOf_41 at h
  refine g_istore_n (lv' := [(3, .int s0), (0, rr E.1 162), (1, .int x1), (2, .int x2), (4, .int x4)]) hg dX3_followerOf_41 rfl (by decide) rfl ?_
  refine g_inc (lv' := [(4, .int (x4 + 1)), (3, .int s0), (0, rr E.1 162), (1, .int x1), (2, .int x2)]) hg dX3_followerOf_42 kI_1 4 rfl (by decide) rfl ?_
  refine g_goto (tgt := 5) hg dX3_followerOf_45 (by decide) ?_
  refine g_sub (lv' := [(0, rr E.1 162), (1, .int x1), (2, .int x2), (3, .int s0), (4, .int (x4 + 1))]) [2, 3, 4, 1, 0] rfl ?_
  exact hk5 _ _ _ _ _ h
theorem lkX3_followerOf_5 {g : Gm} {l0 : Launch} {E : En} {d n : Nat} {Rf : Nat → Nat → Nat} {ex : Bool} {kq : Nat × Nat} (hn : 239 ≤ n) (hRf : RfOk 1 239 kq Rf) (hg : Ok g l0 E cX3_followerOf RX3 5 (d + 2) 0 0) {q : Int32 × Mm} (hr : Ret g E 0 0 (some .int) ex n Rf (some (.int q.1)) q.2) : ∀ (F : Nat) (x1 : Int32) (x2 : Int32) (x3 : Int32) (x4 : Int32) (M : Mm), sX3_followerOf_5 F x1 x2 x3 x4 M = some q → WG g E 5 n Rf ex 0 0 5 [(0, rr E.1 162), (1, .int x1), (2, .int x2), (3, .int x3), (4, .int x4)] [] M := by
  intro F
  induction F with
  | zero =>
    intro x1 x2 x3 x4 M h
    cases h
  | succ F ih =>
    intro x1 x2 x3 x4 M h
    rw [sX3_followerOf_5] at h
    refine g_iload hg dX3_followerOf_5 4 rfl ?_
    refine g_rload_n hg dX3_followerOf_7 rfl 0 rfl ?_
    refine g_getR (r := 158) hg fl_X3_34 ly162 rfl (idb rfl rfl hn) (rfc hRf rfl rfl rfl rfl) (by decide) dX3_followerOf_8 ?_
    refine g_getN hg ly158 (idb rfl rfl hn) dX3_followerOf_11 ?_
    refine g_icmp_ge (tgt := 48) hg dX3_followerOf_14 (by decide) (fun c => ?_) (fun c => ?_)
    · replace h := itT c h
      refine g_iload_n hg dX3_followerOf_48 rfl 3 rfl ?_
      replace h := Option.some.inj h
      subst h
      exact g_iret hg hr dX3_followerOf_49
    · replace h := itF c h
      refine g_rload_n hg dX3_followerOf_17 rfl 0 rfl ?_
      refine g_iload_n hg dX3_followerOf_18 rfl 1 rfl ?_
      refine g_iload_n hg dX3_followerOf_19 rfl 2 rfl ?_
      refine g_iload hg dX3_followerOf_20 4 rfl ?_
      obtain ⟨q22, e22, h⟩ := Option.bind_eq_some_iff.mp h
      refine g_callVi (As := [.int x1, .int x2, .int x4]) (rest := []) hg (lkX3_costBehind (by omega) hn hRf  e22) cv_X3_72 rfl ly162 (idb rfl rfl hn) rfl rfl (Nat.le_of_ble_eq_true rfl) ⟨Nat.le_refl _, Nat.le_refl _⟩ dX3_followerOf_22 ?_
      refine g_rload_n hg dX3_followerOf_25 rfl 0 rfl ?_
      refine g_iload_n hg dX3_followerOf_26 rfl 1 rfl ?_
      refine g_iload_n hg dX3_followerOf_27 rfl 2 rfl ?_
      refine g_iload_n hg dX3_followerOf_28 rfl 3 rfl ?_
      obtain ⟨q29, e29, h⟩ := Option.bind_eq_some_iff.mp h
      refine g_callVi (As := [.int x1, .int x2, .int x3]) (rest := [.int q22.1]) hg (lkX3_costBehind (by omega) hn hRf  e29) cv_X3_72 rfl ly162 (idb rfl rfl hn) rfl rfl (Nat.le_of_ble_eq_true rfl) ⟨Nat.le_refl _, Nat.le_refl _⟩ dX3_followerOf_29 ?_
      refine g_icmp_ge (tgt := 40) hg dX3_followerOf_32 (by decide) (fun c => ?_) (fun c => ?_)
      · rw [if_pos c] at h
        refine g_iload_n hg dX3_followerOf_40 rfl 3 rfl ?_
        refine g_sub (lv' := [(0, rr E.1 162), (1, .int x1), (2, .int x2), (4, .int x4)]) [0, 1, 2, 4] rfl ?_
        exact lkX3_followerOf_41 hn hRf hg hr ih _ _ _ _ _ h
      · rw [if_neg c] at h
        refine g_iload hg dX3_followerOf_35 4 rfl ?_
        refine g_goto (tgt := 41) hg dX3_followerOf_37 (by decide) ?_
        refine g_sub (lv' := [(0, rr E.1 162), (1, .int x1), (2, .int x2), (4, .int x4)]) [0, 1, 2, 4] rfl ?_
        exact lkX3_followerOf_41 hn hRf hg hr ih _ _ _ _ _ h
theorem lkX3_followerOf {l0 : Launch} {E : En} {d n : Nat} {Rf : Nat → Nat → Nat} {ex : Bool} {kq : Nat × Nat} (hd : 2 ≤ d) (hn : 239 ≤ n) (hRf : RfOk 1 239 kq Rf) {x1 : Int32} {x2 : Int32} {M : Mm} {q : Int32 × Mm} (h : sX3_followerOf x1 x2 M = some q) : Ct l0 E yX3_followerOf cX3_followerOf 5 (some .int) d 0 0 [rr E.1 162, .int x1, .int x2] ex n Rf M n Rf (some (.int q.1)) q.2 := by
  obtain ⟨d, rfl⟩ := Nat.exists_eq_add_of_le' hd
  refine Ct.of pnX3 (Nat.le_of_ble_eq_true rfl) (fun g hg hr _ => ?_)
  replace hg : Ok g l0 E cX3_followerOf RX3 5 (d + 2) 0 0 := hg
  show WG g E 5 n Rf ex 0 0 0 [(0, rr E.1 162), (1, .int x1), (2, .int x2)] [] M
  unfold sX3_followerOf at h
  refine g_iconst hg dX3_followerOf_0 kI_0 ?_
  refine g_istore_n (lv' := [(3, .int 0), (0, rr E.1 162), (1, .int x1), (2, .int x2)]) hg dX3_followerOf_1 rfl (by decide) rfl ?_
  refine g_iconst hg dX3_followerOf_2 kI_1 ?_
  refine g_istore (lv' := [(4, .int 1), (3, .int 0), (0, rr E.1 162), (1, .int x1), (2, .int x2)]) hg dX3_followerOf_3 (by decide) rfl ?_
  refine g_sub (lv' := [(0, rr E.1 162), (1, .int x1), (2, .int x2), (3, .int 0), (4, .int 1)]) [2, 3, 4, 1, 0] rfl ?_
  exact lkX3_followerOf_5 hn hRf hg hr  4096 _ _ _ _ _ h
theorem lkX3_chooseKinds_64 {g : Gm} {l0 : Launch} {E : En} {d n : Nat} {Rf : Nat → Nat → Nat} {ex : Bool} {kq : Nat × Nat} (hn : 239 ≤ n) (hRf : RfOk 1 239 kq Rf) (hg : Ok g l0 E cX3_chooseKinds RX3 4 (d + 3) 0 0) {q : Int32 × Mm} (hr : Ret g E 0 0 (some .int) ex n Rf (some (.int q.1)) q.2) : ∀ (F : Nat) (x2 : Int32) (x3 : Int32) (M : Mm), sX3_chooseKinds_64 F x2 x3 M = some q → WG g E 4 n Rf ex 0 0 64 [(0, rr E.1 162), (2, .int x2), (3, .int x3)] [] M := by
  intro F
  induction F with
  | zero =>
    intro x2 x3 M h
    cases h
  | succ F ih =>
    intro x2 x3 M h
    rw [sX3_chooseKinds_64] at h
    refine g_iload_n hg dX3_chooseKinds_64 rfl 2 rfl ?_
    refine g_rload_n hg dX3_chooseKinds_65 rfl 0 rfl ?_
    refine g_getI hg fl_X3_46 ly162 rfl (idb rfl rfl hn) dX3_chooseKinds_66 ?_
    refine g_icmp_ge (tgt := 99) hg dX3_chooseKinds_69 (by decide) (fun c => ?_) (fun c => ?_)
    · replace h := itT c h
      refine g_iload_n hg dX3_chooseKinds_99 rfl 1 rfl ?_
      replace h := Option.some.inj h
      subst h
      exact g_iret hg hr dX3_chooseKinds_100
    · replace h := itF c h
      refine g_rload_n hg dX3_chooseKinds_72 rfl 0 rfl ?_
      refine g_getR (r := 173) hg fl_X3_27 ly162 rfl (idb rfl rfl hn) (rfc hRf rfl rfl rfl rfl) (by decide) dX3_chooseKinds_73 ?_
      refine g_iload_n hg dX3_chooseKinds_76 rfl 2 rfl ?_
      refine g_rload_n hg dX3_chooseKinds_77 rfl 0 rfl ?_
      refine g_iload_n hg dX3_chooseKinds_78 rfl 2 rfl ?_
      refine g_iconst hg dX3_chooseKinds_79 kI_1 ?_
      refine g_isub hg dX3_chooseKinds_80 ?_
      refine g_rload_n hg dX3_chooseKinds_81 rfl 0 rfl ?_
      refine g_getR (r := 173) hg fl_X3_27 ly162 rfl (idb rfl rfl hn) (rfc hRf rfl rfl rfl rfl) (by decide) dX3_chooseKinds_82 ?_
      refine g_iload_n hg dX3_chooseKinds_85 rfl 2 rfl ?_
      refine g_iconst hg dX3_chooseKinds_86 kI_1 ?_
      refine g_isub hg dX3_chooseKinds_87 ?_
      obtain ⟨c88, h⟩ := ck_some h
      refine g_iald hg ly173 (idb rfl rfl hn) (inb_vp c88) dX3_chooseKinds_88 ?_
      obtain ⟨q89, e89, h⟩ := Option.bind_eq_some_iff.mp h
      refine g_callVi (As := [.int (x3 - 1), .int (M.1 173 (x3 - 1).toNatClampNeg)]) (rest := [.int x3, rr E.1 173]) hg (lkX3_followerOf (by omega) hn hRf  e89) cv_X3_69 rfl ly162 (idb rfl rfl hn) rfl rfl (Nat.le_of_ble_eq_true rfl) ⟨Nat.le_refl _, Nat.le_refl _⟩ dX3_chooseKinds_89 ?_
      obtain ⟨c92, h⟩ := ck_some h
      refine g_iast hg ly173 (idb rfl rfl hn) (inb_vp c92) dX3_chooseKinds_92 ?_
      refine g_inc (lv' := [(3, .int (x3 + 1)), (0, rr E.1 162), (2, .int x2)]) hg dX3_chooseKinds_93 kI_1 2 rfl (by decide) rfl ?_
      refine g_goto (tgt := 64) hg dX3_chooseKinds_96 (by decide) ?_
      refine g_sub (lv' := [(0, rr E.1 162), (2, .int x2), (3, .int (x3 + 1))]) [1, 2, 0] rfl ?_
      exact ih _ _ _ h
theorem lkX3_chooseKinds_39 {g : Gm} {l0 : Launch} {E : En} {d n : Nat} {Rf : Nat → Nat → Nat} {ex : Bool} {kq : Nat × Nat} (hn : 239 ≤ n) (hRf : RfOk 1 239 kq Rf) (hg : Ok g l0 E cX3_chooseKinds RX3 4 (d + 3) 0 0) {q : Int32 × Mm} (hr : Ret g E 0 0 (some .int) ex n Rf (some (.int q.1)) q.2) {k4 : Int32 → Int32 → Mm → Option (Int32 × Mm)} (hk4 : ∀ (x1 : Int32) (x2 : Int32) (M : Mm), k4 x1 x2 M = some q → WG g E 4 n Rf ex 0 0 4 [(0, rr E.1 162), (1, .int x1), (2, .int x2)] [] M) : ∀ (x2 : Int32) (s0 : Int32) (M : Mm), sX3_chooseKinds_39 k4 x2 s0 M = some q → WG g E 4 n Rf ex 0 0 39 [(0, rr E.1 162), (2, .int x2)] [.int s0] M := by
  intro x2 s0 M h
  unfold sX3_chooseKinds_39 at h
  refine g_istore_n (lv' := [(1, .int s0), (0, rr E.1 162), (2, .int x2)]) hg dX3_chooseKinds_39 rfl (by decide) rfl ?_
  refine g_inc (lv' := [(2, .int (x2 + 1)), (1, .int s0), (0, rr E.1 162)]) hg dX3_chooseKinds_40 kI_1 2 rfl (by decide) rfl ?_
  refine g_goto (tgt := 4) hg dX3_chooseKinds_43 (by decide) ?_
  refine g_sub (lv' := [(0, rr E.1 162), (1, .int s0), (2, .int (x2 + 1))]) [2, 1, 0] rfl ?_
  exact hk4 _ _ _ h
theorem lkX3_chooseKinds_4 {g : Gm} {l0 : Launch} {E : En} {d n : Nat} {Rf : Nat → Nat → Nat} {ex : Bool} {kq : Nat × Nat} (hn : 239 ≤ n) (hRf : RfOk 1 239 kq Rf) (hg : Ok g l0 E cX3_chooseKinds RX3 4 (d + 3) 0 0) {q : Int32 × Mm} (hr : Ret g E 0 0 (some .int) ex n Rf (some (.int q.1)) q.2) : ∀ (F : Nat) (x1 : Int32) (x2 : Int32) (M : Mm), sX3_chooseKinds_4 F x1 x2 M = some q → WG g E 4 n Rf ex 0 0 4 [(0, rr E.1 162), (1, .int x1), (2, .int x2)] [] M := by
  intro F
  induction F with
  | zero =>
    intro x1 x2 M h
    cases h
  | succ F ih =>
    intro x1 x2 M h
    rw [sX3_chooseKinds_4] at h
    refine g_iload_n hg dX3_chooseKinds_4 rfl 2 rfl ?_
    refine g_rload_n hg dX3_chooseKinds_5 rfl 0 rfl ?_
    refine g_getR (r := 158) hg fl_X3_34 ly162 rfl (idb rfl rfl hn) (rfc hRf rfl rfl rfl rfl) (by decide) dX3_chooseKinds_6 ?_
    refine g_getN hg ly158 (idb rfl rfl hn) dX3_chooseKinds_9 ?_
    refine g_icmp_ge (tgt := 46) hg dX3_chooseKinds_12 (by decide) (fun c => ?_) (fun c => ?_)
    · replace h := itT c h
      refine g_rload_n hg dX3_chooseKinds_46 rfl 0 rfl ?_
      refine g_getR (r := 163) hg fl_X3_20 ly162 rfl (idb rfl rfl hn) (rfc hRf rfl rfl rfl rfl) (by decide) dX3_chooseKinds_47 ?_
      refine g_iconst hg dX3_chooseKinds_50 kI_0 ?_
      obtain ⟨c51, h⟩ := ck_some h
      refine g_aald4 (r := (164 + ((0 : Int32).toNatClampNeg))) hg ly163 (idb rfl rfl hn) (inb_vp c51) (fr163_rf (inb_vp c51) hRf) (Nat.lt_of_lt_of_le (by decide) (Nat.le_add_right _ _)) dX3_chooseKinds_51 ?_
      refine g_iload_n hg dX3_chooseKinds_52 rfl 1 rfl ?_
      obtain ⟨c53, h⟩ := ck_some h
      refine g_iald hg (fr163_lay (inb_vp c51)) (fr163_bd (inb_vp c51) hn) (inb_vp c53) dX3_chooseKinds_53 ?_
      refine g_istore_n (lv' := [(2, .int (M.1 (164 + ((0 : Int32).toNatClampNeg)) x1.toNatClampNeg)), (0, rr E.1 162), (1, .int x1)]) hg dX3_chooseKinds_54 rfl (by decide) rfl ?_
      refine g_rload_n hg dX3_chooseKinds_55 rfl 1 rfl ?_
      refine g_getR (r := 173) hg fl_X3_27 ly162 rfl (idb rfl rfl hn) (rfc hRf rfl rfl rfl rfl) (by decide) dX3_chooseKinds_56 ?_
      refine g_iconst hg dX3_chooseKinds_59 kI_0 ?_
      refine g_iload_n hg dX3_chooseKinds_60 rfl 2 rfl ?_
      obtain ⟨c61, h⟩ := ck_some h
      refine g_iast hg ly173 (idb rfl rfl hn) (inb_vp c61) dX3_chooseKinds_61 ?_
      refine g_iconst hg dX3_chooseKinds_62 kI_1 ?_
      refine g_istore_n (lv' := [(3, .int 1), (2, .int (M.1 (164 + ((0 : Int32).toNatClampNeg)) x1.toNatClampNeg)), (0, rr E.1 162), (1, .int x1)]) hg dX3_chooseKinds_63 rfl (by decide) rfl ?_
      refine g_sub (lv' := [(0, rr E.1 162), (2, .int (M.1 (164 + ((0 : Int32).toNatClampNeg)) x1.toNatClampNeg)), (3, .int 1)]) [2, 1, 0] rfl ?_
      exact lkX3_chooseKinds_64 hn hRf hg hr  4096 _ _ _ h
    · replace h := itF c h
      refine g_rload_n hg dX3_chooseKinds_15 rfl 0 rfl ?_
      refine g_getR (r := 163) hg fl_X3_20 ly162 rfl (idb rfl rfl hn) (rfc hRf rfl rfl rfl rfl) (by decide) dX3_chooseKinds_16 ?_
      refine g_iconst hg dX3_chooseKinds_19 kI_0 ?_
      obtain ⟨c20, h⟩ := ck_some h
      refine g_aald4 (r := (164 + ((0 : Int32).toNatClampNeg))) hg ly163 (idb rfl rfl hn) (inb_vp c20) (fr163_rf (inb_vp c20) hRf) (Nat.lt_of_lt_of_le (by decide) (Nat.le_add_right _ _)) dX3_chooseKinds_20 ?_
      refine g_iload_n hg dX3_chooseKinds_21 rfl 2 rfl ?_
      obtain ⟨c22, h⟩ := ck_some h
      refine g_iald hg (fr163_lay (inb_vp c20)) (fr163_bd (inb_vp c20) hn) (inb_vp c22) dX3_chooseKinds_22 ?_
      refine g_rload_n hg dX3_chooseKinds_23 rfl 0 rfl ?_
      refine g_getR (r := 163) hg fl_X3_20 ly162 rfl (idb rfl rfl hn) (rfc hRf rfl rfl rfl rfl) (by decide) dX3_chooseKinds_24 ?_
      refine g_iconst hg dX3_chooseKinds_27 kI_0 ?_
      obtain ⟨c28, h⟩ := ck_some h
      refine g_aald4 (r := (164 + ((0 : Int32).toNatClampNeg))) hg ly163 (idb rfl rfl hn) (inb_vp c28) (fr163_rf (inb_vp c28) hRf) (Nat.lt_of_lt_of_le (by decide) (Nat.le_add_right _ _)) dX3_chooseKinds_28 ?_
      refine g_iload_n hg dX3_chooseKinds_29 rfl 1 rfl ?_
      obtain ⟨c30, h⟩ := ck_some h
      refine g_iald hg (fr163_lay (inb_vp c28)) (fr163_bd (inb_vp c28) hn) (inb_vp c30) dX3_chooseKinds_30 ?_
      refine g_icmp_ge (tgt := 38) hg dX3_chooseKinds_31 (by decide) (fun c => ?_) (fun c => ?_)
      · rw [if_pos c] at h
        refine g_iload_n hg dX3_chooseKinds_38 rfl 1 rfl ?_
        refine g_sub (lv' := [(0, rr E.1 162), (2, .int x2)]) [0, 2] rfl ?_
        exact lkX3_chooseKinds_39 hn hRf hg hr ih _ _ _ h
      · rw [if_neg c] at h
        refine g_iload_n hg dX3_chooseKinds_34 rfl 2 rfl ?_
        refine g_goto (tgt := 39) hg dX3_chooseKinds_35 (by decide) ?_
        refine g_sub (lv' := [(0, rr E.1 162), (2, .int x2)]) [0, 2] rfl ?_
        exact lkX3_chooseKinds_39 hn hRf hg hr ih _ _ _ h
theorem lkX3_chooseKinds {l0 : Launch} {E : En} {d n : Nat} {Rf : Nat → Nat → Nat} {ex : Bool} {kq : Nat × Nat} (hd : 3 ≤ d) (hn : 239 ≤ n) (hRf : RfOk 1 239 kq Rf)  {M : Mm} {q : Int32 × Mm} (h : sX3_chooseKinds M = some q) : Ct l0 E yX3_chooseKinds cX3_chooseKinds 4 (some .int) d 0 0 [rr E.1 162] ex n Rf M n Rf (some (.int q.1)) q.2 := by
  obtain ⟨d, rfl⟩ := Nat.exists_eq_add_of_le' hd
  refine Ct.of pnX3 (Nat.le_of_ble_eq_true rfl) (fun g hg hr _ => ?_)
  replace hg : Ok g l0 E cX3_chooseKinds RX3 4 (d + 3) 0 0 := hg
  show WG g E 4 n Rf ex 0 0 0 [(0, rr E.1 162)] [] M
  unfold sX3_chooseKinds at h
  refine g_iconst hg dX3_chooseKinds_0 kI_0 ?_
  refine g_istore_n (lv' := [(1, .int 0), (0, rr E.1 162)]) hg dX3_chooseKinds_1 rfl (by decide) rfl ?_
  refine g_iconst hg dX3_chooseKinds_2 kI_1 ?_
  refine g_istore_n (lv' := [(2, .int 1), (1, .int 0), (0, rr E.1 162)]) hg dX3_chooseKinds_3 rfl (by decide) rfl ?_
  refine g_sub (lv' := [(0, rr E.1 162), (1, .int 0), (2, .int 1)]) [2, 1, 0] rfl ?_
  exact lkX3_chooseKinds_4 hn hRf hg hr  4096 _ _ _ h
theorem lkX3_drawLine_219 {g : Gm} {l0 : Launch} {E : En} {d n : Nat} {Rf : Nat → Nat → Nat} {ex : Bool} {kq : Nat × Nat} (hn : 239 ≤ n) (hRf : RfOk 1 239 kq Rf) (hg : Ok g l0 E cX3_drawLine RX3 9 (d + 5) 0 0) {q : Int32 × Mm} (hr : Ret g E 0 0 (some .int) ex n Rf (some (.int q.1)) q.2) {k68 : Int32 → Int32 → Int32 → Mm → Option (Int32 × Mm)} (hk68 : ∀ (x3 : Int32) (x4 : Int32) (x5 : Int32) (M : Mm), k68 x3 x4 x5 M = some q → WG g E 9 n Rf ex 0 0 68 [(0, rr E.1 162), (3, .int x3), (4, .int x4), (5, .int x5)] [] M) {k160 : Int32 → Int32 → Int32 → Int32 → Int32 → Mm → Option (Int32 × Mm)} (hk160 : ∀ (x3 : Int32) (x4 : Int32) (x5 : Int32) (x7 : Int32) (x8 : Int32) (M : Mm), k160 x3 x4 x5 x7 x8 M = some q → WG g E 9 n Rf ex 0 0 160 [(0, rr E.1 162), (3, .int x3), (4, .int x4), (5, .int x5), (7, .int x7), (8, .int x8)] [] M) : ∀ (x3 : Int32) (x4 : Int32) (x5 : Int32) (x7 : Int32) (x8 : Int32) (t0 : Nat) (ht0 : isA 8 n t0) (s1 : Int32) (s2 : Int32) (s3 : Int32) (M : Mm), sX3_drawLine_219 k68 k160 x3 x4 x5 x7 x8 t0 s1 s2 s3 M = some q → WG g E 9 n Rf ex 0 0 219 [(0, rr E.1 162), (3, .int x3), (4, .int x4), (5, .int x5), (7, .int x7), (8, .int x8)] [.int s3, .int s2, .int s1, rr E.1 t0] M := by
  intro x3 x4 x5 x7 x8 t0 ht0 s1 s2 s3 M h
  unfold sX3_drawLine_219 at h
  refine g_iadd hg dX3_drawLine_219 ?_
  obtain ⟨c220, h⟩ := ck_some h
  refine g_iast hg ht0.1 ht0.2 (inb_vp c220) dX3_drawLine_220 ?_
  refine g_inc (lv' := [(8, .int (x8 + 1)), (0, rr E.1 162), (3, .int x3), (4, .int x4), (5, .int x5), (7, .int x7)]) hg dX3_drawLine_221 kI_1 5 rfl (by decide) rfl ?_
  refine g_goto (tgt := 160) hg dX3_drawLine_224 (by decide) ?_
  refine g_sub (lv' := [(0, rr E.1 162), (3, .int x3), (4, .int x4), (5, .int x5), (7, .int x7), (8, .int (x8 + 1))]) [1, 2, 3, 4, 5, 0] rfl ?_
  exact hk160 _ _ _ _ _ _ h
theorem lkX3_drawLine_160 {g : Gm} {l0 : Launch} {E : En} {d n : Nat} {Rf : Nat → Nat → Nat} {ex : Bool} {kq : Nat × Nat} (hn : 239 ≤ n) (hRf : RfOk 1 239 kq Rf) (hg : Ok g l0 E cX3_drawLine RX3 9 (d + 5) 0 0) {q : Int32 × Mm} (hr : Ret g E 0 0 (some .int) ex n Rf (some (.int q.1)) q.2) {k68 : Int32 → Int32 → Int32 → Mm → Option (Int32 × Mm)} (hk68 : ∀ (x3 : Int32) (x4 : Int32) (x5 : Int32) (M : Mm), k68 x3 x4 x5 M = some q → WG g E 9 n Rf ex 0 0 68 [(0, rr E.1 162), (3, .int x3), (4, .int x4), (5, .int x5)] [] M) : ∀ (F : Nat) (x3 : Int32) (x4 : Int32) (x5 : Int32) (x7 : Int32) (x8 : Int32) (M : Mm), sX3_drawLine_160 k68 F x3 x4 x5 x7 x8 M = some q → WG g E 9 n Rf ex 0 0 160 [(0, rr E.1 162), (3, .int x3), (4, .int x4), (5, .int x5), (7, .int x7), (8, .int x8)] [] M := by
  intro F
  induction F with
  | zero =>
    intro x3 x4 x5 x7 x8 M h
    cases h
  | succ F ih =>
    intro x3 x4 x5 x7 x8 M h
    rw [sX3_drawLine_160] at h
    refine g_iload hg dX3_drawLine_160 5 rfl ?_
    refine g_rload_n hg dX3_drawLine_162 rfl 0 rfl ?_
    refine g_getR (r := 158) hg fl_X3_34 ly162 rfl (idb rfl rfl hn) (rfc hRf rfl rfl rfl rfl) (by decide) dX3_drawLine_163 ?_
    refine g_getN hg ly158 (idb rfl rfl hn) dX3_drawLine_166 ?_
    refine g_icmp_ge (tgt := 227) hg dX3_drawLine_169 (by decide) (fun c => ?_) (fun c => ?_)
    · replace h := itT c h
      refine g_inc (lv' := [(5, .int (x5 + (-1))), (0, rr E.1 162), (3, .int x3), (4, .int x4), (7, .int x7), (8, .int x8)]) hg dX3_drawLine_227 kI_m1 3 rfl (by decide) rfl ?_
      refine g_goto (tgt := 68) hg dX3_drawLine_230 (by decide) ?_
      refine g_sub (lv' := [(0, rr E.1 162), (3, .int x3), (4, .int x4), (5, .int (x5 + (-1)))]) [1, 2, 3, 0] rfl ?_
      exact hk68 _ _ _ _ h
    · replace h := itF c h
      refine g_rload_n hg dX3_drawLine_172 rfl 0 rfl ?_
      refine g_getR (r := 163) hg fl_X3_20 ly162 rfl (idb rfl rfl hn) (rfc hRf rfl rfl rfl rfl) (by decide) dX3_drawLine_173 ?_
      refine g_iload hg dX3_drawLine_176 3 rfl ?_
      obtain ⟨c178, h⟩ := ck_some h
      refine g_aald4 (r := (164 + x5.toNatClampNeg)) hg ly163 (idb rfl rfl hn) (inb_vp c178) (fr163_rf (inb_vp c178) hRf) (Nat.lt_of_lt_of_le (by decide) (Nat.le_add_right _ _)) dX3_drawLine_178 ?_
      refine g_iload hg dX3_drawLine_179 5 rfl ?_
      refine g_sipush hg dX3_drawLine_181 kS_1000 ?_
      refine g_rload_n hg dX3_drawLine_184 rfl 0 rfl ?_
      refine g_getR (r := 158) hg fl_X3_34 ly162 rfl (idb rfl rfl hn) (rfc hRf rfl rfl rfl rfl) (by decide) dX3_drawLine_185 ?_
      refine g_iload hg dX3_drawLine_188 5 rfl ?_
      obtain ⟨q190, e190, h⟩ := Option.bind_eq_some_iff.mp h
      refine g_callVi (As := [.int x8]) (rest := [.int 1000, .int x8, rr E.1 (164 + x5.toNatClampNeg)]) hg (lkX2_partsOf (by omega) hn hRf  e190) cv_X3_65 rfl ly158 (idb rfl rfl hn) rfl rfl (Nat.le_of_ble_eq_true rfl) ⟨Nat.le_refl _, Nat.le_refl _⟩ dX3_drawLine_190 ?_
      refine g_isub hg dX3_drawLine_193 ?_
      refine g_iload hg dX3_drawLine_194 4 rfl ?_
      refine g_if_eq (tgt := 203) hg dX3_drawLine_196 (by decide) (fun c => ?_) (fun c => ?_)
      · replace h := itT c h
        refine g_rload_n hg dX3_drawLine_203 rfl 0 rfl ?_
        refine g_iload hg dX3_drawLine_204 3 rfl ?_
        refine g_iload hg dX3_drawLine_206 5 rfl ?_
        refine g_rload_n hg dX3_drawLine_208 rfl 0 rfl ?_
        refine g_iload hg dX3_drawLine_209 3 rfl ?_
        refine g_iload hg dX3_drawLine_211 5 rfl ?_
        obtain ⟨q213, e213, h⟩ := Option.bind_eq_some_iff.mp h
        refine g_callVi (As := [.int x5, .int x8]) (rest := [.int x8, .int x5, rr E.1 162, .int (1000 - q190.1), .int x8, rr E.1 (164 + x5.toNatClampNeg)]) hg (lkX3_followerOf (by omega) hn hRf  e213) cv_X3_69 rfl ly162 (idb rfl rfl hn) rfl rfl (Nat.le_of_ble_eq_true rfl) ⟨Nat.le_refl _, Nat.le_refl _⟩ dX3_drawLine_213 ?_
        obtain ⟨q216, e216, h⟩ := Option.bind_eq_some_iff.mp h
        refine g_callVi (As := [.int x5, .int x8, .int q213.1]) (rest := [.int (1000 - q190.1), .int x8, rr E.1 (164 + x5.toNatClampNeg)]) hg (lkX3_costBehind (by omega) hn hRf  e216) cv_X3_72 rfl ly162 (idb rfl rfl hn) rfl rfl (Nat.le_of_ble_eq_true rfl) ⟨Nat.le_refl _, Nat.le_refl _⟩ dX3_drawLine_216 ?_
        exact lkX3_drawLine_219 hn hRf hg hr hk68 ih _ _ _ _ _ _ ⟨(fr163_lay (inb_vp c178)), (fr163_bd (inb_vp c178) hn)⟩ _ _ _ _ h
      · replace h := itF c h
        refine g_iconst hg dX3_drawLine_199 kI_0 ?_
        refine g_goto (tgt := 219) hg dX3_drawLine_200 (by decide) ?_
        exact lkX3_drawLine_219 hn hRf hg hr hk68 ih _ _ _ _ _ _ ⟨(fr163_lay (inb_vp c178)), (fr163_bd (inb_vp c178) hn)⟩ _ _ _ _ h
theorem lkX3_drawLine_146 {g : Gm} {l0 : Launch} {E : En} {d n : Nat} {Rf : Nat → Nat → Nat} {ex : Bool} {kq : Nat × Nat} (hn : 239 ≤ n) (hRf : RfOk 1 239 kq Rf) (hg : Ok g l0 E cX3_drawLine RX3 9 (d + 5) 0 0) {q : Int32 × Mm} (hr : Ret g E 0 0 (some .int) ex n Rf (some (.int q.1)) q.2) {k68 : Int32 → Int32 → Int32 → Mm → Option (Int32 × Mm)} (hk68 : ∀ (x3 : Int32) (x4 : Int32) (x5 : Int32) (M : Mm), k68 x3 x4 x5 M = some q → WG g E 9 n Rf ex 0 0 68 [(0, rr E.1 162), (3, .int x3), (4, .int x4), (5, .int x5)] [] M) : ∀ (x3 : Int32) (x4 : Int32) (x5 : Int32) (x6 : Int32) (x7 : Int32) (s1 : Int32) (s2 : Int32) (M : Mm), sX3_drawLine_146 k68 x3 x4 x5 x6 x7 s1 s2 M = some q → WG g E 9 n Rf ex 0 0 146 [(0, rr E.1 162), (3, .int x3), (4, .int x4), (5, .int x5), (6, .int x6), (7, .int x7)] [.int s2, .int s1, rr E.1 172] M := by
  intro x3 x4 x5 x6 x7 s1 s2 M h
  unfold sX3_drawLine_146 at h
  obtain ⟨c146, h⟩ := ck_some h
  refine g_iast hg ly172 (idb rfl rfl hn) (inb_vp c146) dX3_drawLine_146 ?_
  refine g_rload_n hg dX3_drawLine_147 rfl 0 rfl ?_
  refine g_getR (r := 158) hg fl_X3_34 ly162 rfl (idb rfl rfl hn) (rfc hRf rfl rfl rfl rfl) (by decide) dX3_drawLine_148 ?_
  refine g_iload hg dX3_drawLine_151 4 rfl ?_
  refine g_iconst hg dX3_drawLine_153 kI_m1 ?_
  obtain ⟨M154, e154, h⟩ := Option.bind_eq_some_iff.mp h
  refine g_callVv (As := [.int x6, .int (-1)]) (rest := []) hg (lkX2_weigh (by omega) hn hRf  e154) cv_X3_56 rfl ly158 (idb rfl rfl hn) rfl rfl (Nat.le_of_ble_eq_true rfl) ⟨Nat.le_refl _, Nat.le_refl _⟩ dX3_drawLine_154 ?_
  refine g_iconst hg dX3_drawLine_157 kI_0 ?_
  refine g_istore (lv' := [(8, .int 0), (0, rr E.1 162), (3, .int x3), (4, .int x4), (5, .int x5), (6, .int x6), (7, .int x7)]) hg dX3_drawLine_158 (by decide) rfl ?_
  refine g_sub (lv' := [(0, rr E.1 162), (3, .int x3), (4, .int x4), (5, .int x5), (7, .int x7), (8, .int 0)]) [1, 2, 3, 4, 6, 0] rfl ?_
  exact lkX3_drawLine_160 hn hRf hg hr hk68 4096 _ _ _ _ _ _ h
theorem lkX3_drawLine_135 {g : Gm} {l0 : Launch} {E : En} {d n : Nat} {Rf : Nat → Nat → Nat} {ex : Bool} {kq : Nat × Nat} (hn : 239 ≤ n) (hRf : RfOk 1 239 kq Rf) (hg : Ok g l0 E cX3_drawLine RX3 9 (d + 5) 0 0) {q : Int32 × Mm} (hr : Ret g E 0 0 (some .int) ex n Rf (some (.int q.1)) q.2) {k68 : Int32 → Int32 → Int32 → Mm → Option (Int32 × Mm)} (hk68 : ∀ (x3 : Int32) (x4 : Int32) (x5 : Int32) (M : Mm), k68 x3 x4 x5 M = some q → WG g E 9 n Rf ex 0 0 68 [(0, rr E.1 162), (3, .int x3), (4, .int x4), (5, .int x5)] [] M) : ∀ (x3 : Int32) (x4 : Int32) (x5 : Int32) (x6 : Int32) (x7 : Int32) (s1 : Int32) (M : Mm), sX3_drawLine_135 k68 x3 x4 x5 x6 x7 s1 M = some q → WG g E 9 n Rf ex 0 0 135 [(0, rr E.1 162), (3, .int x3), (4, .int x4), (5, .int x5), (6, .int x6), (7, .int x7)] [.int s1, rr E.1 172] M := by
  intro x3 x4 x5 x6 x7 s1 M h
  unfold sX3_drawLine_135 at h
  refine g_rload_n hg dX3_drawLine_135 rfl 0 rfl ?_
  refine g_getI hg fl_X3_9 ly162 rfl (idb rfl rfl hn) dX3_drawLine_136 ?_
  refine g_goto (tgt := 146) hg dX3_drawLine_139 (by decide) ?_
  exact lkX3_drawLine_146 hn hRf hg hr hk68 _ _ _ _ _ _ _ _ h
theorem lkX3_drawLine_98 {g : Gm} {l0 : Launch} {E : En} {d n : Nat} {Rf : Nat → Nat → Nat} {ex : Bool} {kq : Nat × Nat} (hn : 239 ≤ n) (hRf : RfOk 1 239 kq Rf) (hg : Ok g l0 E cX3_drawLine RX3 9 (d + 5) 0 0) {q : Int32 × Mm} (hr : Ret g E 0 0 (some .int) ex n Rf (some (.int q.1)) q.2) {k68 : Int32 → Int32 → Int32 → Mm → Option (Int32 × Mm)} (hk68 : ∀ (x3 : Int32) (x4 : Int32) (x5 : Int32) (M : Mm), k68 x3 x4 x5 M = some q → WG g E 9 n Rf ex 0 0 68 [(0, rr E.1 162), (3, .int x3), (4, .int x4), (5, .int x5)] [] M) : ∀ (x3 : Int32) (x4 : Int32) (x5 : Int32) (x6 : Int32) (s0 : Int32) (M : Mm), sX3_drawLine_98 k68 x3 x4 x5 x6 s0 M = some q → WG g E 9 n Rf ex 0 0 98 [(0, rr E.1 162), (3, .int x3), (4, .int x4), (5, .int x5), (6, .int x6)] [.int s0] M := by
  intro x3 x4 x5 x6 s0 M h
  unfold sX3_drawLine_98 at h
  refine g_istore (lv' := [(7, .int s0), (0, rr E.1 162), (3, .int x3), (4, .int x4), (5, .int x5), (6, .int x6)]) hg dX3_drawLine_98 (by decide) rfl ?_
  refine g_rload_n hg dX3_drawLine_100 rfl 1 rfl ?_
  refine g_getR (r := 172) hg fl_X3_23 ly162 rfl (idb rfl rfl hn) (rfc hRf rfl rfl rfl rfl) (by decide) dX3_drawLine_101 ?_
  refine g_iload hg dX3_drawLine_104 4 rfl ?_
  refine g_iload hg dX3_drawLine_106 0 rfl ?_
  refine g_if_ne (tgt := 135) hg dX3_drawLine_108 (by decide) (fun c => ?_) (fun c => ?_)
  · replace h := itF c h
    refine g_sub (lv' := [(0, rr E.1 162), (3, .int x3), (4, .int x4), (5, .int x5), (6, .int x6), (7, .int s0)]) [1, 2, 3, 4, 5, 0] rfl ?_
    exact lkX3_drawLine_135 hn hRf hg hr hk68 _ _ _ _ _ _ _ h
  · replace h := itT c h
    refine g_rload_n hg dX3_drawLine_111 rfl 1 rfl ?_
    refine g_getR (r := 22) hg fl_X3_30 ly162 rfl (idb rfl rfl hn) (rfc hRf rfl rfl rfl rfl) (by decide) dX3_drawLine_112 ?_
    refine g_iload hg dX3_drawLine_115 5 rfl ?_
    refine g_iload hg dX3_drawLine_117 5 rfl ?_
    refine g_iload hg dX3_drawLine_119 3 rfl ?_
    refine g_iadd hg dX3_drawLine_121 ?_
    obtain ⟨q122, e122, h⟩ := Option.bind_eq_some_iff.mp h
    refine g_callVi (As := [.int x6, .int (x6 + x4)]) (rest := [.int x5, rr E.1 172]) hg (lkX6_heightGap (by omega) (Nat.le_trans (by decide : 34 ≤ 239) hn) (hRf.mono (by decide) (by decide))  e122) cv_X3_49 rfl ly22 (idb rfl rfl hn) rfl rfl (Nat.le_of_ble_eq_true rfl) ⟨Nat.le_refl _, Nat.le_refl _⟩ dX3_drawLine_122 ?_
    refine g_rload_n hg dX3_drawLine_125 rfl 1 rfl ?_
    refine g_getR (r := 22) hg fl_X3_30 ly162 rfl (idb rfl rfl hn) (rfc hRf rfl rfl rfl rfl) (by decide) dX3_drawLine_126 ?_
    refine g_getI hg fl_X3_53 ly22 rfl (idb rfl rfl hn) dX3_drawLine_129 ?_
    refine g_icmp_ge (tgt := 142) hg dX3_drawLine_132 (by decide) (fun c => ?_) (fun c => ?_)
    · replace h := itT c h
      refine g_rload_n hg dX3_drawLine_142 rfl 1 rfl ?_
      refine g_getI hg fl_X3_15 ly162 rfl (idb rfl rfl hn) dX3_drawLine_143 ?_
      refine g_sub (lv' := [(0, rr E.1 162), (3, .int x3), (4, .int x4), (5, .int x5), (6, .int x6), (7, .int s0)]) [1, 2, 3, 4, 5, 0] rfl ?_
      exact lkX3_drawLine_146 hn hRf hg hr hk68 _ _ _ _ _ _ _ _ h
    · replace h := itF c h
      refine g_sub (lv' := [(0, rr E.1 162), (3, .int x3), (4, .int x4), (5, .int x5), (6, .int x6), (7, .int s0)]) [1, 2, 3, 4, 5, 0] rfl ?_
      exact lkX3_drawLine_135 hn hRf hg hr hk68 _ _ _ _ _ _ _ h
theorem lkX3_drawLine_68 {g : Gm} {l0 : Launch} {E : En} {d n : Nat} {Rf : Nat → Nat → Nat} {ex : Bool} {kq : Nat × Nat} (hn : 239 ≤ n) (hRf : RfOk 1 239 kq Rf) (hg : Ok g l0 E cX3_drawLine RX3 9 (d + 5) 0 0) {q : Int32 × Mm} (hr : Ret g E 0 0 (some .int) ex n Rf (some (.int q.1)) q.2) : ∀ (F : Nat) (x3 : Int32) (x4 : Int32) (x5 : Int32) (M : Mm), sX3_drawLine_68 F x3 x4 x5 M = some q → WG g E 9 n Rf ex 0 0 68 [(0, rr E.1 162), (3, .int x3), (4, .int x4), (5, .int x5)] [] M := by
  intro F
  induction F with
  | zero =>
    intro x3 x4 x5 M h
    cases h
  | succ F ih =>
    intro x3 x4 x5 M h
    rw [sX3_drawLine_68] at h
    refine g_iload hg dX3_drawLine_68 3 rfl ?_
    refine g_if_lt (tgt := 233) hg dX3_drawLine_70 (by decide) (fun c => ?_) (fun c => ?_)
    · replace h := itT c h
      refine g_rload_n hg dX3_drawLine_233 rfl 0 rfl ?_
      obtain ⟨q234, e234, h⟩ := Option.bind_eq_some_iff.mp h
      refine g_callVi (As := []) (rest := []) hg (lkX3_chooseKinds (by omega) hn hRf  e234) cv_X3_76 rfl ly162 (idb rfl rfl hn) rfl rfl (Nat.le_of_ble_eq_true rfl) ⟨Nat.le_refl _, Nat.le_refl _⟩ dX3_drawLine_234 ?_
      replace h := Option.some.inj h
      subst h
      exact g_iret hg hr dX3_drawLine_237
    · replace h := itF c h
      refine g_iload_n hg dX3_drawLine_73 rfl 1 rfl ?_
      refine g_iload hg dX3_drawLine_74 3 rfl ?_
      refine g_iload hg dX3_drawLine_76 2 rfl ?_
      refine g_imul hg dX3_drawLine_78 ?_
      refine g_iadd hg dX3_drawLine_79 ?_
      refine g_istore (lv' := [(6, .int (x3 + (x5 * x4))), (0, rr E.1 162), (3, .int x3), (4, .int x4), (5, .int x5)]) hg dX3_drawLine_80 (by decide) rfl ?_
      refine g_iload hg dX3_drawLine_82 4 rfl ?_
      refine g_rload_n hg dX3_drawLine_84 rfl 1 rfl ?_
      refine g_getI hg fl_X3_46 ly162 rfl (idb rfl rfl hn) dX3_drawLine_85 ?_
      refine g_iconst hg dX3_drawLine_88 kI_1 ?_
      refine g_isub hg dX3_drawLine_89 ?_
      refine g_icmp_ne (tgt := 97) hg dX3_drawLine_90 (by decide) (fun c => ?_) (fun c => ?_)
      · rw [if_neg c] at h
        refine g_iconst hg dX3_drawLine_97 kI_0 ?_
        refine g_sub (lv' := [(0, rr E.1 162), (3, .int x3), (4, .int x4), (5, .int x5), (6, .int (x3 + (x5 * x4)))]) [1, 2, 3, 4, 0] rfl ?_
        exact lkX3_drawLine_98 hn hRf hg hr ih _ _ _ _ _ _ h
      · rw [if_pos c] at h
        refine g_iconst hg dX3_drawLine_93 kI_1 ?_
        refine g_goto (tgt := 98) hg dX3_drawLine_94 (by decide) ?_
        refine g_sub (lv' := [(0, rr E.1 162), (3, .int x3), (4, .int x4), (5, .int x5), (6, .int (x3 + (x5 * x4)))]) [1, 2, 3, 4, 0] rfl ?_
        exact lkX3_drawLine_98 hn hRf hg hr ih _ _ _ _ _ _ h
theorem lkX3_drawLine_57 {g : Gm} {l0 : Launch} {E : En} {d n : Nat} {Rf : Nat → Nat → Nat} {ex : Bool} {kq : Nat × Nat} (hn : 239 ≤ n) (hRf : RfOk 1 239 kq Rf) (hg : Ok g l0 E cX3_drawLine RX3 9 (d + 5) 0 0) {q : Int32 × Mm} (hr : Ret g E 0 0 (some .int) ex n Rf (some (.int q.1)) q.2) : ∀ (x3 : Int32) (x4 : Int32) (s1 : Int32) (M : Mm), sX3_drawLine_57 x3 x4 s1 M = some q → WG g E 9 n Rf ex 0 0 57 [(0, rr E.1 162), (3, .int x3), (4, .int x4)] [.int s1, rr E.1 162] M := by
  intro x3 x4 s1 M h
  unfold sX3_drawLine_57 at h
  refine g_putI hg fp_X3_46 ly162 rfl (idb rfl rfl hn) dX3_drawLine_57 ?_
  refine g_rload_n hg dX3_drawLine_60 rfl 0 rfl ?_
  refine g_getI hg fl_X3_46 ly162 rfl (idb rfl rfl hn) dX3_drawLine_61 ?_
  refine g_iconst hg dX3_drawLine_64 kI_1 ?_
  refine g_isub hg dX3_drawLine_65 ?_
  refine g_istore (lv' := [(5, .int (((sI M 162 7 s1).1 162 7) - 1)), (0, rr E.1 162), (3, .int x3), (4, .int x4)]) hg dX3_drawLine_66 (by decide) rfl ?_
  refine g_sub (lv' := [(0, rr E.1 162), (3, .int x3), (4, .int x4), (5, .int (((sI M 162 7 s1).1 162 7) - 1))]) [1, 2, 3, 0] rfl ?_
  exact lkX3_drawLine_68 hn hRf hg hr  4096 _ _ _ _ h
theorem lkX3_drawLine_33 {g : Gm} {l0 : Launch} {E : En} {d n : Nat} {Rf : Nat → Nat → Nat} {ex : Bool} {kq : Nat × Nat} (hn : 239 ≤ n) (hRf : RfOk 1 239 kq Rf) (hg : Ok g l0 E cX3_drawLine RX3 9 (d + 5) 0 0) {q : Int32 × Mm} (hr : Ret g E 0 0 (some .int) ex n Rf (some (.int q.1)) q.2) : ∀ (x1 : Int32) (x3 : Int32) (s0 : Int32) (M : Mm), sX3_drawLine_33 x1 x3 s0 M = some q → WG g E 9 n Rf ex 0 0 33 [(0, rr E.1 162), (1, .int x1), (3, .int x3)] [.int s0] M := by
  intro x1 x3 s0 M h
  unfold sX3_drawLine_33 at h
  refine g_istore (lv' := [(4, .int s0), (0, rr E.1 162), (1, .int x1), (3, .int x3)]) hg dX3_drawLine_33 (by decide) rfl ?_
  refine g_rload_n hg dX3_drawLine_35 rfl 1 rfl ?_
  refine g_iload_n hg dX3_drawLine_36 rfl 2 rfl ?_
  refine g_if_eq (tgt := 50) hg dX3_drawLine_37 (by decide) (fun c => ?_) (fun c => ?_)
  · rw [if_pos c] at h
    refine g_rload_n hg dX3_drawLine_50 rfl 1 rfl ?_
    refine g_getR (r := 22) hg fl_X3_30 ly162 rfl (idb rfl rfl hn) (rfc hRf rfl rfl rfl rfl) (by decide) dX3_drawLine_51 ?_
    refine g_getI hg fl_X3_38 ly22 rfl (idb rfl rfl hn) dX3_drawLine_54 ?_
    refine g_sub (lv' := [(0, rr E.1 162), (3, .int x3), (4, .int s0)]) [1, 3, 0] rfl ?_
    exact lkX3_drawLine_57 hn hRf hg hr  _ _ _ _ h
  · rw [if_neg c] at h
    refine g_rload_n hg dX3_drawLine_40 rfl 1 rfl ?_
    refine g_getR (r := 22) hg fl_X3_30 ly162 rfl (idb rfl rfl hn) (rfc hRf rfl rfl rfl rfl) (by decide) dX3_drawLine_41 ?_
    refine g_getI hg fl_X3_43 ly22 rfl (idb rfl rfl hn) dX3_drawLine_44 ?_
    refine g_goto (tgt := 57) hg dX3_drawLine_47 (by decide) ?_
    refine g_sub (lv' := [(0, rr E.1 162), (3, .int x3), (4, .int s0)]) [1, 3, 0] rfl ?_
    exact lkX3_drawLine_57 hn hRf hg hr  _ _ _ _ h
theorem lkX3_drawLine_17 {g : Gm} {l0 : Launch} {E : En} {d n : Nat} {Rf : Nat → Nat → Nat} {ex : Bool} {kq : Nat × Nat} (hn : 239 ≤ n) (hRf : RfOk 1 239 kq Rf) (hg : Ok g l0 E cX3_drawLine RX3 9 (d + 5) 0 0) {q : Int32 × Mm} (hr : Ret g E 0 0 (some .int) ex n Rf (some (.int q.1)) q.2) : ∀ (x1 : Int32) (s0 : Int32) (M : Mm), sX3_drawLine_17 x1 s0 M = some q → WG g E 9 n Rf ex 0 0 17 [(0, rr E.1 162), (1, .int x1)] [.int s0] M := by
  intro x1 s0 M h
  unfold sX3_drawLine_17 at h
  refine g_istore_n (lv' := [(3, .int s0), (0, rr E.1 162), (1, .int x1)]) hg dX3_drawLine_17 rfl (by decide) rfl ?_
  refine g_iload_n hg dX3_drawLine_18 rfl 2 rfl ?_
  refine g_if_eq (tgt := 32) hg dX3_drawLine_19 (by decide) (fun c => ?_) (fun c => ?_)
  · rw [if_pos c] at h
    refine g_iconst hg dX3_drawLine_32 kI_1 ?_
    refine g_sub (lv' := [(0, rr E.1 162), (1, .int x1), (3, .int s0)]) [1, 2, 0] rfl ?_
    exact lkX3_drawLine_33 hn hRf hg hr  _ _ _ _ h
  · rw [if_neg c] at h
    refine g_rload_n hg dX3_drawLine_22 rfl 1 rfl ?_
    refine g_getR (r := 22) hg fl_X3_30 ly162 rfl (idb rfl rfl hn) (rfc hRf rfl rfl rfl rfl) (by decide) dX3_drawLine_23 ?_
    refine g_getI hg fl_X3_38 ly22 rfl (idb rfl rfl hn) dX3_drawLine_26 ?_
    refine g_goto (tgt := 33) hg dX3_drawLine_29 (by decide) ?_
    refine g_sub (lv' := [(0, rr E.1 162), (1, .int x1), (3, .int s0)]) [1, 2, 0] rfl ?_
    exact lkX3_drawLine_33 hn hRf hg hr  _ _ _ _ h
theorem lkX3_drawLine {l0 : Launch} {E : En} {d n : Nat} {Rf : Nat → Nat → Nat} {ex : Bool} {kq : Nat × Nat} (hd : 5 ≤ d) (hn : 239 ≤ n) (hRf : RfOk 1 239 kq Rf) {x1 : Int32} {x2 : Int32} {M : Mm} {q : Int32 × Mm} (h : sX3_drawLine x1 x2 M = some q) : Ct l0 E yX3_drawLine cX3_drawLine 9 (some .int) d 0 0 [rr E.1 162, .int x1, .int x2] ex n Rf M n Rf (some (.int q.1)) q.2 := by
  obtain ⟨d, rfl⟩ := Nat.exists_eq_add_of_le' hd
  refine Ct.of pnX3 (Nat.le_of_ble_eq_true rfl) (fun g hg hr _ => ?_)
  replace hg : Ok g l0 E cX3_drawLine RX3 9 (d + 5) 0 0 := hg
  show WG g E 9 n Rf ex 0 0 0 [(0, rr E.1 162), (1, .int x1), (2, .int x2)] [] M
  unfold sX3_drawLine at h
  refine g_iload_n hg dX3_drawLine_0 rfl 1 rfl ?_
  refine g_if_eq (tgt := 8) hg dX3_drawLine_1 (by decide) (fun c => ?_) (fun c => ?_)
  · rw [if_pos c] at h
    refine g_iload_n hg dX3_drawLine_8 rfl 2 rfl ?_
    refine g_rload_n hg dX3_drawLine_9 rfl 0 rfl ?_
    refine g_getR (r := 22) hg fl_X3_30 ly162 rfl (idb rfl rfl hn) (rfc hRf rfl rfl rfl rfl) (by decide) dX3_drawLine_10 ?_
    refine g_getI hg fl_X3_38 ly22 rfl (idb rfl rfl hn) dX3_drawLine_13 ?_
    refine g_imul hg dX3_drawLine_16 ?_
    refine g_sub (lv' := [(0, rr E.1 162), (1, .int x1)]) [0, 1] rfl ?_
    exact lkX3_drawLine_17 hn hRf hg hr  _ _ _ h
  · rw [if_neg c] at h
    refine g_iload_n hg dX3_drawLine_4 rfl 2 rfl ?_
    refine g_goto (tgt := 17) hg dX3_drawLine_5 (by decide) ?_
    refine g_sub (lv' := [(0, rr E.1 162), (1, .int x1)]) [0, 1] rfl ?_
    exact lkX3_drawLine_17 hn hRf hg hr  _ _ _ h
theorem lkX11_draw_21 {g : Gm} {l0 : Launch} {E : En} {d n : Nat} {Rf : Nat → Nat → Nat} {ex : Bool} {kq : Nat × Nat} (hn : 239 ≤ n) (hRf : RfOk 1 239 kq Rf) (hkq : isKq kq) (hg : Ok g l0 E cX11_draw RX11 5 (d + 6) 0 0) {q : Int32 × Mm} (hr : Ret g E 0 0 (some .int) ex n Rf (some (.int q.1)) q.2) : ∀ (x1 : Int32) (x2 : Int32) (x3 : Int32) (s0 : Int32) (M : Mm), sX11_draw_21 kq x1 x2 x3 s0 M = some q → WG g E 5 n Rf ex 0 0 21 [(0, rr E.1 1), (1, .int x1), (2, .int x2), (3, .int x3)] [.int s0] M := by
  intro x1 x2 x3 s0 M h
  unfold sX11_draw_21 at h
  refine g_istore (lv' := [(4, .int s0), (0, rr E.1 1), (1, .int x1), (2, .int x2), (3, .int x3)]) hg dX11_draw_21 (by decide) rfl ?_
  refine g_rload_n hg dX11_draw_23 rfl 1 rfl ?_
  refine g_getR (r := 34) hg fl_X11_52 ly1 rfl (idb rfl rfl hn) (rfc hRf rfl rfl rfl rfl) (by decide) dX11_draw_24 ?_
  refine g_iload_n hg dX11_draw_27 rfl 2 rfl ?_
  obtain ⟨q28, e28, h⟩ := Option.bind_eq_some_iff.mp h
  refine g_callVi (As := [.int x1]) (rest := []) hg (lkX1_knows (by omega) hn hRf  e28) cv_X11_247 rfl ly34 (idb rfl rfl hn) rfl rfl (Nat.le_of_ble_eq_true rfl) ⟨Nat.le_refl _, Nat.le_refl _⟩ dX11_draw_28 ?_
  refine g_if_eq (tgt := 54) hg dX11_draw_31 (by decide) (fun c => ?_) (fun c => ?_)
  · replace h := itT c h
    refine g_iconst hg dX11_draw_54 kI_m1 ?_
    replace h := Option.some.inj h
    subst h
    exact g_iret hg hr dX11_draw_55
  · replace h := itF c h
    refine g_iload_n hg dX11_draw_34 rfl 4 rfl ?_
    refine g_if_lt (tgt := 54) hg dX11_draw_35 (by decide) (fun c => ?_) (fun c => ?_)
    · replace h := itT c h
      refine g_iconst hg dX11_draw_54 kI_m1 ?_
      replace h := Option.some.inj h
      subst h
      exact g_iret hg hr dX11_draw_55
    · replace h := itF c h
      refine g_iload_n hg dX11_draw_38 rfl 4 rfl ?_
      refine g_iload hg dX11_draw_39 0 rfl ?_
      refine g_icmp_ge (tgt := 54) hg dX11_draw_41 (by decide) (fun c => ?_) (fun c => ?_)
      · replace h := itT c h
        refine g_iconst hg dX11_draw_54 kI_m1 ?_
        replace h := Option.some.inj h
        subst h
        exact g_iret hg hr dX11_draw_55
      · replace h := itF c h
        refine g_rload_n hg dX11_draw_44 rfl 1 rfl ?_
        refine g_getR (r := kq.1) hg fl_X11_34 ly1 rfl (idb rfl rfl hn) (rfc hRf rfl rfl rfl rfl) (ky_pos hkq.1) dX11_draw_45 ?_
        refine g_getI hg fl_X11_125 (ky_lay hkq.1) rfl (ky_bd hkq.1 hn) dX11_draw_48 ?_
        refine g_if_ne (tgt := 56) hg dX11_draw_51 (by decide) (fun c => ?_) (fun c => ?_)
        · replace h := itF c h
          refine g_rload_n hg dX11_draw_56 rfl 1 rfl ?_
          refine g_getR (r := 34) hg fl_X11_52 ly1 rfl (idb rfl rfl hn) (rfc hRf rfl rfl rfl rfl) (by decide) dX11_draw_57 ?_
          refine g_iload_n hg dX11_draw_60 rfl 2 rfl ?_
          obtain ⟨M61, e61, h⟩ := Option.bind_eq_some_iff.mp h
          refine g_callVv (As := [.int x1]) (rest := []) hg (lkX1_gather (by omega) hn hRf  e61) cv_X11_250 rfl ly34 (idb rfl rfl hn) rfl rfl (Nat.le_of_ble_eq_true rfl) ⟨Nat.le_refl _, Nat.le_refl _⟩ dX11_draw_61 ?_
          refine g_rload_n hg dX11_draw_64 rfl 1 rfl ?_
          refine g_getR (r := 162) hg fl_X11_70 ly1 rfl (idb rfl rfl hn) (rfc hRf rfl rfl rfl rfl) (by decide) dX11_draw_65 ?_
          refine g_iload_n hg dX11_draw_68 rfl 3 rfl ?_
          refine g_iload_n hg dX11_draw_69 rfl 4 rfl ?_
          obtain ⟨q70, e70, h⟩ := Option.bind_eq_some_iff.mp h
          refine g_callVi (As := [.int x2, .int x3]) (rest := []) hg (lkX3_drawLine (by omega) hn hRf  e70) cv_X11_288 rfl ly162 (idb rfl rfl hn) rfl rfl (Nat.le_of_ble_eq_true rfl) ⟨Nat.le_refl _, Nat.le_refl _⟩ dX11_draw_70 ?_
          replace h := Option.some.inj h
          subst h
          exact g_iret hg hr dX11_draw_73
        · replace h := itT c h
          refine g_iconst hg dX11_draw_54 kI_m1 ?_
          replace h := Option.some.inj h
          subst h
          exact g_iret hg hr dX11_draw_55
theorem lkX11_draw {l0 : Launch} {E : En} {d n : Nat} {Rf : Nat → Nat → Nat} {ex : Bool} {kq : Nat × Nat} (hd : 6 ≤ d) (hn : 239 ≤ n) (hRf : RfOk 1 239 kq Rf) (hkq : isKq kq) {x1 : Int32} {x2 : Int32} {x3 : Int32} {M : Mm} {q : Int32 × Mm} (h : sX11_draw kq x1 x2 x3 M = some q) : Ct l0 E yX11_draw cX11_draw 5 (some .int) d 0 0 [rr E.1 1, .int x1, .int x2, .int x3] ex n Rf M n Rf (some (.int q.1)) q.2 := by
  obtain ⟨d, rfl⟩ := Nat.exists_eq_add_of_le' hd
  refine Ct.of pnX11 (Nat.le_of_ble_eq_true rfl) (fun g hg hr _ => ?_)
  replace hg : Ok g l0 E cX11_draw RX11 5 (d + 6) 0 0 := hg
  show WG g E 5 n Rf ex 0 0 0 [(0, rr E.1 1), (1, .int x1), (2, .int x2), (3, .int x3)] [] M
  unfold sX11_draw at h
  refine g_iload_n hg dX11_draw_0 rfl 2 rfl ?_
  refine g_if_eq (tgt := 14) hg dX11_draw_1 (by decide) (fun c => ?_) (fun c => ?_)
  · rw [if_pos c] at h
    refine g_rload_n hg dX11_draw_14 rfl 0 rfl ?_
    refine g_getR (r := 22) hg fl_X11_45 ly1 rfl (idb rfl rfl hn) (rfc hRf rfl rfl rfl rfl) (by decide) dX11_draw_15 ?_
    refine g_getI hg fl_X11_285 ly22 rfl (idb rfl rfl hn) dX11_draw_18 ?_
    exact lkX11_draw_21 hn hRf hkq hg hr  _ _ _ _ _ h
  · rw [if_neg c] at h
    refine g_rload_n hg dX11_draw_4 rfl 0 rfl ?_
    refine g_getR (r := 22) hg fl_X11_45 ly1 rfl (idb rfl rfl hn) (rfc hRf rfl rfl rfl rfl) (by decide) dX11_draw_5 ?_
    refine g_getI hg fl_X11_282 ly22 rfl (idb rfl rfl hn) dX11_draw_8 ?_
    refine g_goto (tgt := 21) hg dX11_draw_11 (by decide) ?_
    exact lkX11_draw_21 hn hRf hkq hg hr  _ _ _ _ _ h
theorem lkX11_drawn_15 {g : Gm} {l0 : Launch} {E : En} {d n : Nat} {Rf : Nat → Nat → Nat} {ex : Bool} {kq : Nat × Nat} (hn : 239 ≤ n) (hRf : RfOk 1 239 kq Rf) (hg : Ok g l0 E cX11_drawn RX11 2 (d + 1) 0 0) {q : Int32 × Mm} (hr : Ret g E 0 0 (some .int) ex n Rf (some (.int q.1)) q.2) : ∀  (M : Mm), sX11_drawn_15  M = some q → WG g E 2 n Rf ex 0 0 15 [] [] M := by
  intro M h
  unfold sX11_drawn_15 at h
  refine g_iconst hg dX11_drawn_15 kI_m1 ?_
  refine g_goto (tgt := 28) hg dX11_drawn_16 (by decide) ?_
  replace h := Option.some.inj h
  subst h
  exact g_iret hg hr dX11_drawn_28
theorem lkX11_drawn {l0 : Launch} {E : En} {d n : Nat} {Rf : Nat → Nat → Nat} {ex : Bool} {kq : Nat × Nat} (hd : 1 ≤ d) (hn : 239 ≤ n) (hRf : RfOk 1 239 kq Rf) {x1 : Int32} {M : Mm} {q : Int32 × Mm} (h : sX11_drawn x1 M = some q) : Ct l0 E yX11_drawn cX11_drawn 2 (some .int) d 0 0 [rr E.1 1, .int x1] ex n Rf M n Rf (some (.int q.1)) q.2 := by
  obtain ⟨d, rfl⟩ := Nat.exists_eq_add_of_le' hd
  refine Ct.of pnX11 (Nat.le_of_ble_eq_true rfl) (fun g hg hr _ => ?_)
  replace hg : Ok g l0 E cX11_drawn RX11 2 (d + 1) 0 0 := hg
  show WG g E 2 n Rf ex 0 0 0 [(0, rr E.1 1), (1, .int x1)] [] M
  unfold sX11_drawn at h
  refine g_iload_n hg dX11_drawn_0 rfl 1 rfl ?_
  refine g_if_lt (tgt := 15) hg dX11_drawn_1 (by decide) (fun c => ?_) (fun c => ?_)
  · replace h := itT c h
    refine g_sub (lv' := []) [] rfl ?_
    exact lkX11_drawn_15 hn hRf hg hr  _ h
  · replace h := itF c h
    refine g_iload_n hg dX11_drawn_4 rfl 1 rfl ?_
    refine g_rload_n hg dX11_drawn_5 rfl 0 rfl ?_
    refine g_getR (r := 162) hg fl_X11_70 ly1 rfl (idb rfl rfl hn) (rfc hRf rfl rfl rfl rfl) (by decide) dX11_drawn_6 ?_
    refine g_getI hg fl_X11_292 ly162 rfl (idb rfl rfl hn) dX11_drawn_9 ?_
    refine g_icmp_lt (tgt := 19) hg dX11_drawn_12 (by decide) (fun c => ?_) (fun c => ?_)
    · replace h := itT c h
      refine g_rload_n hg dX11_drawn_19 rfl 0 rfl ?_
      refine g_getR (r := 162) hg fl_X11_70 ly1 rfl (idb rfl rfl hn) (rfc hRf rfl rfl rfl rfl) (by decide) dX11_drawn_20 ?_
      refine g_getR (r := 173) hg fl_X11_293 ly162 rfl (idb rfl rfl hn) (rfc hRf rfl rfl rfl rfl) (by decide) dX11_drawn_23 ?_
      refine g_iload_n hg dX11_drawn_26 rfl 1 rfl ?_
      obtain ⟨c27, h⟩ := ck_some h
      refine g_iald hg ly173 (idb rfl rfl hn) (inb_vp c27) dX11_drawn_27 ?_
      replace h := Option.some.inj h
      subst h
      exact g_iret hg hr dX11_drawn_28
    · replace h := itF c h
      refine g_sub (lv' := []) [] rfl ?_
      exact lkX11_drawn_15 hn hRf hg hr  _ h
theorem lkX9_weighGains_90 {g : Gm} {l0 : Launch} {E : En} {d n : Nat} {Rf : Nat → Nat → Nat} {ex : Bool} {kq : Nat × Nat} (hn : 239 ≤ n) (hRf : RfOk 1 239 kq Rf) (hg : Ok g l0 E cX9_weighGains RX9 4 (d + 5) 0 0) {q : Mm} (hr : Ret g E 0 0 none ex n Rf none q) : ∀ (F : Nat) (x3 : Int32) (M : Mm), sX9_weighGains_90 F x3 M = some q → WG g E 4 n Rf ex 0 0 90 [(0, rr E.1 174), (3, .int x3)] [] M := by
  intro F
  induction F with
  | zero =>
    intro x3 M h
    cases h
  | succ F ih =>
    intro x3 M h
    rw [sX9_weighGains_90] at h
    refine g_iload_n hg dX9_weighGains_90 rfl 1 rfl ?_
    refine g_rload_n hg dX9_weighGains_91 rfl 0 rfl ?_
    refine g_getR (r := 22) hg fl_X9_28 ly174 rfl (idb rfl rfl hn) (rfc hRf rfl rfl rfl rfl) (by decide) dX9_weighGains_92 ?_
    refine g_getI hg fl_X9_35 ly22 rfl (idb rfl rfl hn) dX9_weighGains_95 ?_
    refine g_icmp_ge (tgt := 124) hg dX9_weighGains_98 (by decide) (fun c => ?_) (fun c => ?_)
    · replace h := itT c h
      replace h := Option.some.inj h
      subst h
      exact g_vret hg hr dX9_weighGains_124
    · replace h := itF c h
      refine g_rload_n hg dX9_weighGains_101 rfl 0 rfl ?_
      refine g_rload_n hg dX9_weighGains_102 rfl 0 rfl ?_
      refine g_getI hg fl_X9_32 ly174 rfl (idb rfl rfl hn) dX9_weighGains_103 ?_
      refine g_rload_n hg dX9_weighGains_106 rfl 0 rfl ?_
      refine g_getR (r := 175) hg fl_X9_9 ly174 rfl (idb rfl rfl hn) (rfc hRf rfl rfl rfl rfl) (by decide) dX9_weighGains_107 ?_
      refine g_iload_n hg dX9_weighGains_110 rfl 1 rfl ?_
      obtain ⟨c111, h⟩ := ck_some h
      refine g_iald hg ly175 (idb rfl rfl hn) (inb_vp c111) dX9_weighGains_111 ?_
      refine g_mmax hg mw_X9_70 (Nat.le_of_ble_eq_true rfl) ⟨Nat.le_refl _, Nat.le_refl _⟩ dX9_weighGains_112 ?_
      refine g_putI hg fp_X9_32 ly174 rfl (idb rfl rfl hn) dX9_weighGains_115 ?_
      refine g_inc (lv' := [(3, .int (x3 + 1)), (0, rr E.1 174)]) hg dX9_weighGains_118 kI_1 1 rfl (by decide) rfl ?_
      refine g_goto (tgt := 90) hg dX9_weighGains_121 (by decide) ?_
      refine g_sub (lv' := [(0, rr E.1 174), (3, .int (x3 + 1))]) [1, 0] rfl ?_
      exact ih _ _ h
theorem lkX9_weighGains_54 {g : Gm} {l0 : Launch} {E : En} {d n : Nat} {Rf : Nat → Nat → Nat} {ex : Bool} {kq : Nat × Nat} (hn : 239 ≤ n) (hRf : RfOk 1 239 kq Rf) (hg : Ok g l0 E cX9_weighGains RX9 4 (d + 5) 0 0) {q : Mm} (hr : Ret g E 0 0 none ex n Rf none q) : ∀ (F : Nat) (x3 : Int32) (M : Mm), sX9_weighGains_54 F x3 M = some q → WG g E 4 n Rf ex 0 0 54 [(0, rr E.1 174), (2, rr E.1 34), (3, .int x3)] [] M := by
  intro F
  induction F with
  | zero =>
    intro x3 M h
    cases h
  | succ F ih =>
    intro x3 M h
    rw [sX9_weighGains_54] at h
    refine g_iload_n hg dX9_weighGains_54 rfl 2 rfl ?_
    refine g_rload_n hg dX9_weighGains_55 rfl 1 rfl ?_
    refine g_getI hg fl_X9_53 ly34 rfl (idb rfl rfl hn) dX9_weighGains_56 ?_
    refine g_icmp_ge (tgt := 88) hg dX9_weighGains_59 (by decide) (fun c => ?_) (fun c => ?_)
    · replace h := itT c h
      refine g_iconst hg dX9_weighGains_88 kI_0 ?_
      refine g_istore_n (lv' := [(3, .int 0), (0, rr E.1 174), (2, rr E.1 34)]) hg dX9_weighGains_89 rfl (by decide) rfl ?_
      refine g_sub (lv' := [(0, rr E.1 174), (3, .int 0)]) [1, 0] rfl ?_
      exact lkX9_weighGains_90 hn hRf hg hr  4096 _ _ h
    · replace h := itF c h
      refine g_rload_n hg dX9_weighGains_62 rfl 0 rfl ?_
      refine g_getR (r := 175) hg fl_X9_9 ly174 rfl (idb rfl rfl hn) (rfc hRf rfl rfl rfl rfl) (by decide) dX9_weighGains_63 ?_
      refine g_rload_n hg dX9_weighGains_66 rfl 1 rfl ?_
      refine g_getR (r := 35) hg fl_X9_58 ly34 rfl (idb rfl rfl hn) (rfc hRf rfl rfl rfl rfl) (by decide) dX9_weighGains_67 ?_
      refine g_rload_n hg dX9_weighGains_70 rfl 1 rfl ?_
      refine g_getR (r := 36) hg fl_X9_62 ly34 rfl (idb rfl rfl hn) (rfc hRf rfl rfl rfl rfl) (by decide) dX9_weighGains_71 ?_
      refine g_iload_n hg dX9_weighGains_74 rfl 2 rfl ?_
      obtain ⟨c75, h⟩ := ck_some h
      refine g_iald hg ly36 (idb rfl rfl hn) (inb_vp c75) dX9_weighGains_75 ?_
      obtain ⟨c76, h⟩ := ck_some h
      refine g_aald3 (r := (38 + 2 * (M.1 36 x3.toNatClampNeg).toNatClampNeg)) hg ly35 (idb rfl rfl hn) (inb_vp c76) (nt_rfA (inb_vp c76) hRf) (Nat.lt_of_lt_of_le (by decide) (Nat.le_add_right _ _)) dX9_weighGains_76 ?_
      refine g_getI hg fl_X9_65 (nt_lay (nt_of (inb_vp c76))) rfl (nt_bd (nt_of (inb_vp c76)) hn) dX9_weighGains_77 ?_
      refine g_iconst hg dX9_weighGains_80 kI_m1 ?_
      obtain ⟨c81, h⟩ := ck_some h
      refine g_iast hg ly175 (idb rfl rfl hn) (inb_vp c81) dX9_weighGains_81 ?_
      refine g_inc (lv' := [(3, .int (x3 + 1)), (0, rr E.1 174), (2, rr E.1 34)]) hg dX9_weighGains_82 kI_1 2 rfl (by decide) rfl ?_
      refine g_goto (tgt := 54) hg dX9_weighGains_85 (by decide) ?_
      refine g_sub (lv' := [(0, rr E.1 174), (2, rr E.1 34), (3, .int (x3 + 1))]) [1, 2, 0] rfl ?_
      exact ih _ _ h
theorem lkX9_weighGains_7 {g : Gm} {l0 : Launch} {E : En} {d n : Nat} {Rf : Nat → Nat → Nat} {ex : Bool} {kq : Nat × Nat} (hn : 239 ≤ n) (hRf : RfOk 1 239 kq Rf) (hg : Ok g l0 E cX9_weighGains RX9 4 (d + 5) 0 0) {q : Mm} (hr : Ret g E 0 0 none ex n Rf none q) : ∀ (F : Nat) (x3 : Int32) (M : Mm), sX9_weighGains_7 F x3 M = some q → WG g E 4 n Rf ex 0 0 7 [(0, rr E.1 174), (1, rr E.1 158), (2, rr E.1 34), (3, .int x3)] [] M := by
  intro F
  induction F with
  | zero =>
    intro x3 M h
    cases h
  | succ F ih =>
    intro x3 M h
    rw [sX9_weighGains_7] at h
    refine g_iload_n hg dX9_weighGains_7 rfl 3 rfl ?_
    refine g_rload_n hg dX9_weighGains_8 rfl 0 rfl ?_
    refine g_getR (r := 22) hg fl_X9_28 ly174 rfl (idb rfl rfl hn) (rfc hRf rfl rfl rfl rfl) (by decide) dX9_weighGains_9 ?_
    refine g_getI hg fl_X9_35 ly22 rfl (idb rfl rfl hn) dX9_weighGains_12 ?_
    refine g_icmp_ge (tgt := 52) hg dX9_weighGains_15 (by decide) (fun c => ?_) (fun c => ?_)
    · replace h := itT c h
      refine g_iconst hg dX9_weighGains_52 kI_0 ?_
      refine g_istore_n (lv' := [(3, .int 0), (0, rr E.1 174), (1, rr E.1 158), (2, rr E.1 34)]) hg dX9_weighGains_53 rfl (by decide) rfl ?_
      refine g_sub (lv' := [(0, rr E.1 174), (2, rr E.1 34), (3, .int 0)]) [1, 3, 0] rfl ?_
      exact lkX9_weighGains_54 hn hRf hg hr  4096 _ _ h
    · replace h := itF c h
      refine g_rload_n hg dX9_weighGains_18 rfl 1 rfl ?_
      refine g_iload_n hg dX9_weighGains_19 rfl 3 rfl ?_
      refine g_iconst hg dX9_weighGains_20 kI_m1 ?_
      obtain ⟨M21, e21, h⟩ := Option.bind_eq_some_iff.mp h
      refine g_callVv (As := [.int x3, .int (-1)]) (rest := []) hg (lkX2_weigh (by omega) hn hRf  e21) cv_X9_39 rfl ly158 (idb rfl rfl hn) rfl rfl (Nat.le_of_ble_eq_true rfl) ⟨Nat.le_refl _, Nat.le_refl _⟩ dX9_weighGains_21 ?_
      refine g_rload_n hg dX9_weighGains_24 rfl 0 rfl ?_
      refine g_getR (r := 175) hg fl_X9_9 ly174 rfl (idb rfl rfl hn) (rfc hRf rfl rfl rfl rfl) (by decide) dX9_weighGains_25 ?_
      refine g_iload_n hg dX9_weighGains_28 rfl 3 rfl ?_
      refine g_rload_n hg dX9_weighGains_29 rfl 1 rfl ?_
      obtain ⟨q30, e30, h⟩ := Option.bind_eq_some_iff.mp h
      refine g_callVi (As := []) (rest := [.int x3, rr E.1 175]) hg (lkX2_doubt (by omega) hn hRf  e30) cv_X9_45 rfl ly158 (idb rfl rfl hn) rfl rfl (Nat.le_of_ble_eq_true rfl) ⟨Nat.le_refl _, Nat.le_refl _⟩ dX9_weighGains_30 ?_
      refine g_rload_n hg dX9_weighGains_33 rfl 0 rfl ?_
      refine g_getR (r := 22) hg fl_X9_28 ly174 rfl (idb rfl rfl hn) (rfc hRf rfl rfl rfl rfl) (by decide) dX9_weighGains_34 ?_
      refine g_getR (r := 23) hg fl_X9_49 ly22 rfl (idb rfl rfl hn) (rfc hRf rfl rfl rfl rfl) (by decide) dX9_weighGains_37 ?_
      refine g_iconst hg dX9_weighGains_40 kI_3 ?_
      obtain ⟨c41, h⟩ := ck_some h
      refine g_aald4 (r := (24 + ((3 : Int32).toNatClampNeg))) hg ly23 (idb rfl rfl hn) (inb_vp c41) (fr23_rf (inb_vp c41) (hRf.mono (by decide) (by decide))) (Nat.lt_of_lt_of_le (by decide) (Nat.le_add_right _ _)) dX9_weighGains_41 ?_
      refine g_iload_n hg dX9_weighGains_42 rfl 3 rfl ?_
      obtain ⟨c43, h⟩ := ck_some h
      refine g_iald hg (fr23_lay (inb_vp c41)) (fr23_bd (inb_vp c41) (Nat.le_trans (by decide) hn)) (inb_vp c43) dX9_weighGains_43 ?_
      refine g_imul hg dX9_weighGains_44 ?_
      obtain ⟨c45, h⟩ := ck_some h
      refine g_iast hg ly175 (idb rfl rfl hn) (inb_vp c45) dX9_weighGains_45 ?_
      refine g_inc (lv' := [(3, .int (x3 + 1)), (0, rr E.1 174), (1, rr E.1 158), (2, rr E.1 34)]) hg dX9_weighGains_46 kI_1 3 rfl (by decide) rfl ?_
      refine g_goto (tgt := 7) hg dX9_weighGains_49 (by decide) ?_
      refine g_sub (lv' := [(0, rr E.1 174), (1, rr E.1 158), (2, rr E.1 34), (3, .int (x3 + 1))]) [1, 2, 3, 0] rfl ?_
      exact ih _ _ h
theorem lkX9_weighGains {l0 : Launch} {E : En} {d n : Nat} {Rf : Nat → Nat → Nat} {ex : Bool} {kq : Nat × Nat} (hd : 5 ≤ d) (hn : 239 ≤ n) (hRf : RfOk 1 239 kq Rf)  {M : Mm} {q : Mm} (h : sX9_weighGains M = some q) : Ct l0 E yX9_weighGains cX9_weighGains 4 none d 0 0 [rr E.1 174, rr E.1 158, rr E.1 34] ex n Rf M n Rf none q := by
  obtain ⟨d, rfl⟩ := Nat.exists_eq_add_of_le' hd
  refine Ct.of pnX9 (Nat.le_of_ble_eq_true rfl) (fun g hg hr _ => ?_)
  replace hg : Ok g l0 E cX9_weighGains RX9 4 (d + 5) 0 0 := hg
  show WG g E 4 n Rf ex 0 0 0 [(0, rr E.1 174), (1, rr E.1 158), (2, rr E.1 34)] [] M
  unfold sX9_weighGains at h
  refine g_rload_n hg dX9_weighGains_0 rfl 0 rfl ?_
  refine g_iconst hg dX9_weighGains_1 kI_0 ?_
  refine g_putI hg fp_X9_32 ly174 rfl (idb rfl rfl hn) dX9_weighGains_2 ?_
  refine g_iconst hg dX9_weighGains_5 kI_0 ?_
  refine g_istore_n (lv' := [(3, .int 0), (0, rr E.1 174), (1, rr E.1 158), (2, rr E.1 34)]) hg dX9_weighGains_6 rfl (by decide) rfl ?_
  refine g_sub (lv' := [(0, rr E.1 174), (1, rr E.1 158), (2, rr E.1 34), (3, .int 0)]) [1, 2, 3, 0] rfl ?_
  exact lkX9_weighGains_7 hn hRf hg hr  4096 _ _ h
theorem lkX9_keepFound_12 {g : Gm} {l0 : Launch} {E : En} {d n : Nat} {Rf : Nat → Nat → Nat} {ex : Bool} {kq : Nat × Nat} (hn : 239 ≤ n) (hRf : RfOk 1 239 kq Rf) (hg : Ok g l0 E cX9_keepFound RX9 4 (d + 1) 0 0) {q : Mm} (hr : Ret g E 0 0 none ex n Rf none q) : ∀ (F : Nat) (x3 : Int32) (M : Mm), sX9_keepFound_12 F x3 M = some q → WG g E 4 n Rf ex 0 0 12 [(0, rr E.1 174), (3, .int x3)] [] M := by
  intro F
  induction F with
  | zero =>
    intro x3 M h
    cases h
  | succ F ih =>
    intro x3 M h
    rw [sX9_keepFound_12] at h
    refine g_iload_n hg dX9_keepFound_12 rfl 1 rfl ?_
    refine g_rload_n hg dX9_keepFound_13 rfl 0 rfl ?_
    refine g_getI hg fl_X9_76 ly174 rfl (idb rfl rfl hn) dX9_keepFound_14 ?_
    refine g_icmp_ge (tgt := 43) hg dX9_keepFound_17 (by decide) (fun c => ?_) (fun c => ?_)
    · replace h := itT c h
      replace h := Option.some.inj h
      subst h
      exact g_vret hg hr dX9_keepFound_43
    · replace h := itF c h
      refine g_iload_n hg dX9_keepFound_20 rfl 1 rfl ?_
      refine g_iconst hg dX9_keepFound_21 kI_3 ?_
      refine g_icmp_ge (tgt := 43) hg dX9_keepFound_22 (by decide) (fun c => ?_) (fun c => ?_)
      · replace h := itT c h
        replace h := Option.some.inj h
        subst h
        exact g_vret hg hr dX9_keepFound_43
      · replace h := itF c h
        refine g_rload_n hg dX9_keepFound_25 rfl 0 rfl ?_
        refine g_getR (r := 177) hg fl_X9_18 ly174 rfl (idb rfl rfl hn) (rfc hRf rfl rfl rfl rfl) (by decide) dX9_keepFound_26 ?_
        refine g_iload_n hg dX9_keepFound_29 rfl 1 rfl ?_
        refine g_rload_n hg dX9_keepFound_30 rfl 0 rfl ?_
        refine g_getR (r := 176) hg fl_X9_15 ly174 rfl (idb rfl rfl hn) (rfc hRf rfl rfl rfl rfl) (by decide) dX9_keepFound_31 ?_
        refine g_iload_n hg dX9_keepFound_34 rfl 1 rfl ?_
        obtain ⟨c35, h⟩ := ck_some h
        refine g_iald hg ly176 (idb rfl rfl hn) (inb_vp c35) dX9_keepFound_35 ?_
        obtain ⟨c36, h⟩ := ck_some h
        refine g_iast hg ly177 (idb rfl rfl hn) (inb_vp c36) dX9_keepFound_36 ?_
        refine g_inc (lv' := [(3, .int (x3 + 1)), (0, rr E.1 174)]) hg dX9_keepFound_37 kI_1 1 rfl (by decide) rfl ?_
        refine g_goto (tgt := 12) hg dX9_keepFound_40 (by decide) ?_
        refine g_sub (lv' := [(0, rr E.1 174), (3, .int (x3 + 1))]) [1, 0] rfl ?_
        exact ih _ _ h
theorem lkX9_keepFound {l0 : Launch} {E : En} {d n : Nat} {Rf : Nat → Nat → Nat} {ex : Bool} {kq : Nat × Nat} (hd : 1 ≤ d) (hn : 239 ≤ n) (hRf : RfOk 1 239 kq Rf) {x1 : Int32} {x2 : Int32} {M : Mm} {q : Mm} (h : sX9_keepFound x1 x2 M = some q) : Ct l0 E yX9_keepFound cX9_keepFound 4 none d 0 0 [rr E.1 174, .int x1, .int x2] ex n Rf M n Rf none q := by
  obtain ⟨d, rfl⟩ := Nat.exists_eq_add_of_le' hd
  refine Ct.of pnX9 (Nat.le_of_ble_eq_true rfl) (fun g hg hr _ => ?_)
  replace hg : Ok g l0 E cX9_keepFound RX9 4 (d + 1) 0 0 := hg
  show WG g E 4 n Rf ex 0 0 0 [(0, rr E.1 174), (1, .int x1), (2, .int x2)] [] M
  unfold sX9_keepFound at h
  refine g_rload_n hg dX9_keepFound_0 rfl 0 rfl ?_
  refine g_iload_n hg dX9_keepFound_1 rfl 1 rfl ?_
  refine g_putI hg fp_X9_82 ly174 rfl (idb rfl rfl hn) dX9_keepFound_2 ?_
  refine g_rload_n hg dX9_keepFound_5 rfl 0 rfl ?_
  refine g_iload_n hg dX9_keepFound_6 rfl 2 rfl ?_
  refine g_putI hg fp_X9_85 ly174 rfl (idb rfl rfl hn) dX9_keepFound_7 ?_
  refine g_iconst hg dX9_keepFound_10 kI_0 ?_
  refine g_istore_n (lv' := [(3, .int 0), (0, rr E.1 174), (1, .int x1), (2, .int x2)]) hg dX9_keepFound_11 rfl (by decide) rfl ?_
  refine g_sub (lv' := [(0, rr E.1 174), (3, .int 0)]) [1, 0] rfl ?_
  exact lkX9_keepFound_12 hn hRf hg hr  4096 _ _ h
theorem lkX6_steps {l0 : Launch} {E : En} {d n : Nat} {Rf : Nat → Nat → Nat} {ex : Bool} {kq : Nat × Nat} (hd : 1 ≤ d) (hn : 34 ≤ n) (hRf : RfOk 22 34 kq Rf) {x1 : Int32} {x2 : Int32} {M : Mm} {q : Int32 × Mm} (h : sX6_steps x1 x2 M = some q) : Ct l0 E yX6_steps cX6_steps 3 (some .int) d 0 0 [rr E.1 22, .int x1, .int x2] ex n Rf M n Rf (some (.int q.1)) q.2 := by
  obtain ⟨d, rfl⟩ := Nat.exists_eq_add_of_le' hd
  refine Ct.of pnX6 (Nat.le_of_ble_eq_true rfl) (fun g hg hr _ => ?_)
  replace hg : Ok g l0 E cX6_steps RX6 3 (d + 1) 0 0 := hg
  show WG g E 3 n Rf ex 0 0 0 [(0, rr E.1 22), (1, .int x1), (2, .int x2)] [] M
  unfold sX6_steps at h
  refine g_rload_n hg dX6_steps_0 rfl 0 rfl ?_
  refine g_getR (r := 29) hg fl_X6_16 ly22 rfl (idb rfl rfl hn) (rfc hRf rfl rfl rfl rfl) (by decide) dX6_steps_1 ?_
  refine g_iload_n hg dX6_steps_4 rfl 1 rfl ?_
  obtain ⟨c5, h⟩ := ck_some h
  refine g_iald hg ly29 (idb rfl rfl hn) (inb_vp c5) dX6_steps_5 ?_
  refine g_rload_n hg dX6_steps_6 rfl 0 rfl ?_
  refine g_getR (r := 29) hg fl_X6_16 ly22 rfl (idb rfl rfl hn) (rfc hRf rfl rfl rfl rfl) (by decide) dX6_steps_7 ?_
  refine g_iload_n hg dX6_steps_10 rfl 2 rfl ?_
  obtain ⟨c11, h⟩ := ck_some h
  refine g_iald hg ly29 (idb rfl rfl hn) (inb_vp c11) dX6_steps_11 ?_
  refine g_isub hg dX6_steps_12 ?_
  refine g_mabs hg mw_X6_70 (Nat.le_of_ble_eq_true rfl) ⟨Nat.le_refl _, Nat.le_refl _⟩ dX6_steps_13 ?_
  refine g_rload_n hg dX6_steps_16 rfl 0 rfl ?_
  refine g_getR (r := 30) hg fl_X6_20 ly22 rfl (idb rfl rfl hn) (rfc hRf rfl rfl rfl rfl) (by decide) dX6_steps_17 ?_
  refine g_iload_n hg dX6_steps_20 rfl 1 rfl ?_
  obtain ⟨c21, h⟩ := ck_some h
  refine g_iald hg ly30 (idb rfl rfl hn) (inb_vp c21) dX6_steps_21 ?_
  refine g_rload_n hg dX6_steps_22 rfl 0 rfl ?_
  refine g_getR (r := 30) hg fl_X6_20 ly22 rfl (idb rfl rfl hn) (rfc hRf rfl rfl rfl rfl) (by decide) dX6_steps_23 ?_
  refine g_iload_n hg dX6_steps_26 rfl 2 rfl ?_
  obtain ⟨c27, h⟩ := ck_some h
  refine g_iald hg ly30 (idb rfl rfl hn) (inb_vp c27) dX6_steps_27 ?_
  refine g_isub hg dX6_steps_28 ?_
  refine g_mabs hg mw_X6_70 (Nat.le_of_ble_eq_true rfl) ⟨Nat.le_refl _, Nat.le_refl _⟩ dX6_steps_29 ?_
  refine g_iadd hg dX6_steps_32 ?_
  replace h := Option.some.inj h
  subst h
  exact g_iret hg hr dX6_steps_33
theorem lkX9_isBetter_24 {g : Gm} {l0 : Launch} {E : En} {d n : Nat} {Rf : Nat → Nat → Nat} {ex : Bool} {kq : Nat × Nat} (hn : 239 ≤ n) (hRf : RfOk 1 239 kq Rf) (hg : Ok g l0 E cX9_isBetter RX9 3 (d + 1) 0 0) {q : Int32 × Mm} (hr : Ret g E 0 0 (some .boolean) ex n Rf (some (.int q.1)) q.2) : ∀  (M : Mm), sX9_isBetter_24  M = some q → WG g E 3 n Rf ex 0 0 24 [] [] M := by
  intro M h
  unfold sX9_isBetter_24 at h
  refine g_iconst hg dX9_isBetter_24 kI_1 ?_
  refine g_goto (tgt := 29) hg dX9_isBetter_25 (by decide) ?_
  replace h := Option.some.inj h
  subst h
  exact g_zret hg hr rfl dX9_isBetter_29
theorem lkX9_isBetter {l0 : Launch} {E : En} {d n : Nat} {Rf : Nat → Nat → Nat} {ex : Bool} {kq : Nat × Nat} (hd : 1 ≤ d) (hn : 239 ≤ n) (hRf : RfOk 1 239 kq Rf) {x1 : Int32} {x2 : Int32} {M : Mm} {q : Int32 × Mm} (h : sX9_isBetter x1 x2 M = some q) : Ct l0 E yX9_isBetter cX9_isBetter 3 (some .boolean) d 0 0 [rr E.1 174, .int x1, .int x2] ex n Rf M n Rf (some (.int q.1)) q.2 := by
  obtain ⟨d, rfl⟩ := Nat.exists_eq_add_of_le' hd
  refine Ct.of pnX9 (Nat.le_of_ble_eq_true rfl) (fun g hg hr _ => ?_)
  replace hg : Ok g l0 E cX9_isBetter RX9 3 (d + 1) 0 0 := hg
  show WG g E 3 n Rf ex 0 0 0 [(0, rr E.1 174), (1, .int x1), (2, .int x2)] [] M
  unfold sX9_isBetter at h
  refine g_iload_n hg dX9_isBetter_0 rfl 1 rfl ?_
  refine g_rload_n hg dX9_isBetter_1 rfl 0 rfl ?_
  refine g_getI hg fl_X9_82 ly174 rfl (idb rfl rfl hn) dX9_isBetter_2 ?_
  refine g_icmp_gt (tgt := 24) hg dX9_isBetter_5 (by decide) (fun c => ?_) (fun c => ?_)
  · replace h := itT c h
    refine g_sub (lv' := []) [] rfl ?_
    exact lkX9_isBetter_24 hn hRf hg hr  _ h
  · replace h := itF c h
    refine g_iload_n hg dX9_isBetter_8 rfl 1 rfl ?_
    refine g_rload_n hg dX9_isBetter_9 rfl 0 rfl ?_
    refine g_getI hg fl_X9_82 ly174 rfl (idb rfl rfl hn) dX9_isBetter_10 ?_
    refine g_icmp_ne (tgt := 28) hg dX9_isBetter_13 (by decide) (fun c => ?_) (fun c => ?_)
    · replace h := itF c h
      refine g_iconst hg dX9_isBetter_28 kI_0 ?_
      replace h := Option.some.inj h
      subst h
      exact g_zret hg hr rfl dX9_isBetter_29
    · replace h := itT c h
      refine g_iload_n hg dX9_isBetter_16 rfl 2 rfl ?_
      refine g_rload_n hg dX9_isBetter_17 rfl 0 rfl ?_
      refine g_getI hg fl_X9_85 ly174 rfl (idb rfl rfl hn) dX9_isBetter_18 ?_
      refine g_icmp_ge (tgt := 28) hg dX9_isBetter_21 (by decide) (fun c => ?_) (fun c => ?_)
      · replace h := itT c h
        refine g_iconst hg dX9_isBetter_28 kI_0 ?_
        replace h := Option.some.inj h
        subst h
        exact g_zret hg hr rfl dX9_isBetter_29
      · replace h := itF c h
        refine g_sub (lv' := []) [] rfl ?_
        exact lkX9_isBetter_24 hn hRf hg hr  _ h
theorem lkX9_isApart_2 {g : Gm} {l0 : Launch} {E : En} {d n : Nat} {Rf : Nat → Nat → Nat} {ex : Bool} {kq : Nat × Nat} (hn : 239 ≤ n) (hRf : RfOk 1 239 kq Rf) (hg : Ok g l0 E cX9_isApart RX9 4 (d + 2) 0 0) {q : Int32 × Mm} (hr : Ret g E 0 0 (some .boolean) ex n Rf (some (.int q.1)) q.2) : ∀ (F : Nat) (x1 : Int32) (x2 : Int32) (x3 : Int32) (M : Mm), sX9_isApart_2 F x1 x2 x3 M = some q → WG g E 4 n Rf ex 0 0 2 [(0, rr E.1 174), (1, .int x1), (2, .int x2), (3, .int x3)] [] M := by
  intro F
  induction F with
  | zero =>
    intro x1 x2 x3 M h
    cases h
  | succ F ih =>
    intro x1 x2 x3 M h
    rw [sX9_isApart_2] at h
    refine g_iload_n hg dX9_isApart_2 rfl 3 rfl ?_
    refine g_iload_n hg dX9_isApart_3 rfl 1 rfl ?_
    refine g_icmp_ge (tgt := 33) hg dX9_isApart_4 (by decide) (fun c => ?_) (fun c => ?_)
    · replace h := itT c h
      refine g_iconst hg dX9_isApart_33 kI_1 ?_
      replace h := Option.some.inj h
      subst h
      exact g_zret hg hr rfl dX9_isApart_34
    · replace h := itF c h
      refine g_rload_n hg dX9_isApart_7 rfl 0 rfl ?_
      refine g_getR (r := 22) hg fl_X9_28 ly174 rfl (idb rfl rfl hn) (rfc hRf rfl rfl rfl rfl) (by decide) dX9_isApart_8 ?_
      refine g_rload_n hg dX9_isApart_11 rfl 0 rfl ?_
      refine g_getR (r := 176) hg fl_X9_15 ly174 rfl (idb rfl rfl hn) (rfc hRf rfl rfl rfl rfl) (by decide) dX9_isApart_12 ?_
      refine g_iload_n hg dX9_isApart_15 rfl 3 rfl ?_
      obtain ⟨c16, h⟩ := ck_some h
      refine g_iald hg ly176 (idb rfl rfl hn) (inb_vp c16) dX9_isApart_16 ?_
      refine g_iload_n hg dX9_isApart_17 rfl 2 rfl ?_
      obtain ⟨q18, e18, h⟩ := Option.bind_eq_some_iff.mp h
      refine g_callVi (As := [.int (M.1 176 x3.toNatClampNeg), .int x2]) (rest := []) hg (lkX6_far (by omega) (Nat.le_trans (by decide : 34 ≤ 239) hn) (hRf.mono (by decide) (by decide))  e18) cv_X9_112 rfl ly22 (idb rfl rfl hn) rfl rfl (Nat.le_of_ble_eq_true rfl) ⟨Nat.le_refl _, Nat.le_refl _⟩ dX9_isApart_18 ?_
      refine g_iconst hg dX9_isApart_21 kI_2 ?_
      refine g_icmp_ge (tgt := 27) hg dX9_isApart_22 (by decide) (fun c => ?_) (fun c => ?_)
      · replace h := itT c h
        refine g_inc (lv' := [(3, .int (x3 + 1)), (0, rr E.1 174), (1, .int x1), (2, .int x2)]) hg dX9_isApart_27 kI_1 3 rfl (by decide) rfl ?_
        refine g_goto (tgt := 2) hg dX9_isApart_30 (by decide) ?_
        refine g_sub (lv' := [(0, rr E.1 174), (1, .int x1), (2, .int x2), (3, .int (x3 + 1))]) [1, 2, 3, 0] rfl ?_
        exact ih _ _ _ _ h
      · replace h := itF c h
        refine g_iconst hg dX9_isApart_25 kI_0 ?_
        replace h := Option.some.inj h
        subst h
        exact g_zret hg hr rfl dX9_isApart_26
theorem lkX9_isApart {l0 : Launch} {E : En} {d n : Nat} {Rf : Nat → Nat → Nat} {ex : Bool} {kq : Nat × Nat} (hd : 2 ≤ d) (hn : 239 ≤ n) (hRf : RfOk 1 239 kq Rf) {x1 : Int32} {x2 : Int32} {M : Mm} {q : Int32 × Mm} (h : sX9_isApart x1 x2 M = some q) : Ct l0 E yX9_isApart cX9_isApart 4 (some .boolean) d 0 0 [rr E.1 174, .int x1, .int x2] ex n Rf M n Rf (some (.int q.1)) q.2 := by
  obtain ⟨d, rfl⟩ := Nat.exists_eq_add_of_le' hd
  refine Ct.of pnX9 (Nat.le_of_ble_eq_true rfl) (fun g hg hr _ => ?_)
  replace hg : Ok g l0 E cX9_isApart RX9 4 (d + 2) 0 0 := hg
  show WG g E 4 n Rf ex 0 0 0 [(0, rr E.1 174), (1, .int x1), (2, .int x2)] [] M
  unfold sX9_isApart at h
  refine g_iconst hg dX9_isApart_0 kI_0 ?_
  refine g_istore_n (lv' := [(3, .int 0), (0, rr E.1 174), (1, .int x1), (2, .int x2)]) hg dX9_isApart_1 rfl (by decide) rfl ?_
  refine g_sub (lv' := [(0, rr E.1 174), (1, .int x1), (2, .int x2), (3, .int 0)]) [1, 2, 3, 0] rfl ?_
  exact lkX9_isApart_2 hn hRf hg hr  4096 _ _ _ _ h
theorem lkX9_tryCell {d0 : Nat} {l0 : Launch} {E : En} {d n : Nat} {Rf : Nat → Nat → Nat} {ex : Bool} {kq : Nat × Nat} (hd : d0 + 3 ≤ d) (hn : 239 ≤ n) (hRf : RfOk 1 239 kq Rf) {rec : Int32 → Int32 → Int32 → Int32 → Mm → Option (Mm)} (hrec : ∀ d', d0 ≤ d' → ∀ {x1 : Int32} {x2 : Int32} {x3 : Int32} {x4 : Int32} {M : Mm} {q : Mm}, rec x1 x2 x3 x4 M = some q → Ct l0 E yX9_search cX9_search 6 none d' 0 0 [rr E.1 174, .int x1, .int x2, .int x3, .int x4] ex n Rf M n Rf none q) {x1 : Int32} {x2 : Int32} {x3 : Int32} {x4 : Int32} {x5 : Int32} {M : Mm} {q : Mm} (h : sX9_tryCell rec x1 x2 x3 x4 x5 M = some q) : Ct l0 E yX9_tryCell cX9_tryCell 10 none d 0 0 [rr E.1 174, .int x1, .int x2, .int x3, .int x4, .int x5] ex n Rf M n Rf none q := by
  obtain ⟨d, hd0, rfl⟩ : ∃ e, d0 ≤ e ∧ d = e + 3 := ⟨d - 3, by omega, by omega⟩
  refine Ct.of pnX9 (Nat.le_of_ble_eq_true rfl) (fun g hg hr _ => ?_)
  replace hg : Ok g l0 E cX9_tryCell RX9 10 (d + 3) 0 0 := hg
  show WG g E 10 n Rf ex 0 0 0 [(0, rr E.1 174), (1, .int x1), (2, .int x2), (3, .int x3), (4, .int x4), (5, .int x5)] [] M
  unfold sX9_tryCell at h
  refine g_rload_n hg dX9_tryCell_0 rfl 0 rfl ?_
  refine g_getI hg fl_X9_76 ly174 rfl (idb rfl rfl hn) dX9_tryCell_1 ?_
  refine g_iload_n hg dX9_tryCell_4 rfl 1 rfl ?_
  refine g_isub hg dX9_tryCell_5 ?_
  refine g_iconst hg dX9_tryCell_6 kI_1 ?_
  refine g_isub hg dX9_tryCell_7 ?_
  refine g_istore (lv' := [(6, .int (((M.1 174 3) - x1) - 1)), (0, rr E.1 174), (1, .int x1), (2, .int x2), (3, .int x3), (4, .int x4), (5, .int x5)]) hg dX9_tryCell_8 (by decide) rfl ?_
  refine g_iload hg dX9_tryCell_10 6 rfl ?_
  refine g_rload_n hg dX9_tryCell_12 rfl 1 rfl ?_
  refine g_getR (r := 175) hg fl_X9_9 ly174 rfl (idb rfl rfl hn) (rfc hRf rfl rfl rfl rfl) (by decide) dX9_tryCell_13 ?_
  refine g_iload_n hg dX9_tryCell_16 rfl 4 rfl ?_
  obtain ⟨c17, h⟩ := ck_some h
  refine g_iald hg ly175 (idb rfl rfl hn) (inb_vp c17) dX9_tryCell_17 ?_
  refine g_iadd hg dX9_tryCell_18 ?_
  refine g_iload hg dX9_tryCell_19 0 rfl ?_
  refine g_rload_n hg dX9_tryCell_21 rfl 1 rfl ?_
  refine g_getI hg fl_X9_32 ly174 rfl (idb rfl rfl hn) dX9_tryCell_22 ?_
  refine g_imul hg dX9_tryCell_25 ?_
  refine g_iadd hg dX9_tryCell_26 ?_
  refine g_istore (lv' := [(7, .int ((x5 + (M.1 175 x3.toNatClampNeg)) + ((((M.1 174 3) - x1) - 1) * (M.1 174 2)))), (6, .int (((M.1 174 3) - x1) - 1)), (0, rr E.1 174), (1, .int x1), (2, .int x2), (3, .int x3), (4, .int x4), (5, .int x5)]) hg dX9_tryCell_27 (by decide) rfl ?_
  refine g_rload_n hg dX9_tryCell_29 rfl 2 rfl ?_
  refine g_getR (r := 175) hg fl_X9_9 ly174 rfl (idb rfl rfl hn) (rfc hRf rfl rfl rfl rfl) (by decide) dX9_tryCell_30 ?_
  refine g_iload_n hg dX9_tryCell_33 rfl 5 rfl ?_
  obtain ⟨c34, h⟩ := ck_some h
  refine g_iald hg ly175 (idb rfl rfl hn) (inb_vp c34) dX9_tryCell_34 ?_
  refine g_iconst hg dX9_tryCell_35 kI_m1 ?_
  refine g_icmp_eq (tgt := 48) hg dX9_tryCell_36 (by decide) (fun c => ?_) (fun c => ?_)
  · replace h := itT c h
    replace h := Option.some.inj h
    subst h
    exact g_vret hg hr dX9_tryCell_48
  · replace h := itF c h
    refine g_iload hg dX9_tryCell_39 0 rfl ?_
    refine g_rload_n hg dX9_tryCell_41 rfl 2 rfl ?_
    refine g_getI hg fl_X9_82 ly174 rfl (idb rfl rfl hn) dX9_tryCell_42 ?_
    refine g_icmp_ge (tgt := 49) hg dX9_tryCell_45 (by decide) (fun c => ?_) (fun c => ?_)
    · replace h := itT c h
      refine g_iload hg dX9_tryCell_49 6 rfl ?_
      refine g_rload_n hg dX9_tryCell_51 rfl 2 rfl ?_
      refine g_getR (r := 22) hg fl_X9_28 ly174 rfl (idb rfl rfl hn) (rfc hRf rfl rfl rfl rfl) (by decide) dX9_tryCell_52 ?_
      refine g_iload_n hg dX9_tryCell_55 rfl 4 rfl ?_
      refine g_iload_n hg dX9_tryCell_56 rfl 5 rfl ?_
      obtain ⟨q57, e57, h⟩ := Option.bind_eq_some_iff.mp h
      refine g_callVi (As := [.int x2, .int x3]) (rest := [.int x4]) hg (lkX6_steps (by omega) (Nat.le_trans (by decide : 34 ≤ 239) hn) (hRf.mono (by decide) (by decide))  e57) cv_X9_102 rfl ly22 (idb rfl rfl hn) rfl rfl (Nat.le_of_ble_eq_true rfl) ⟨Nat.le_refl _, Nat.le_refl _⟩ dX9_tryCell_57 ?_
      refine g_iadd hg dX9_tryCell_60 ?_
      refine g_iconst hg dX9_tryCell_61 kI_1 ?_
      refine g_iadd hg dX9_tryCell_62 ?_
      refine g_istore (lv' := [(8, .int ((x4 + q57.1) + 1)), (7, .int ((x5 + (M.1 175 x3.toNatClampNeg)) + ((((M.1 174 3) - x1) - 1) * (M.1 174 2)))), (6, .int (((M.1 174 3) - x1) - 1)), (0, rr E.1 174), (1, .int x1), (2, .int x2), (3, .int x3), (4, .int x4), (5, .int x5)]) hg dX9_tryCell_63 (by decide) rfl ?_
      refine g_iload hg dX9_tryCell_65 0 rfl ?_
      refine g_iload hg dX9_tryCell_67 2 rfl ?_
      refine g_iconst hg dX9_tryCell_69 kI_3 ?_
      refine g_imul hg dX9_tryCell_70 ?_
      refine g_iadd hg dX9_tryCell_71 ?_
      refine g_istore (lv' := [(9, .int (((x4 + q57.1) + 1) + ((((M.1 174 3) - x1) - 1) * 3))), (8, .int ((x4 + q57.1) + 1)), (7, .int ((x5 + (M.1 175 x3.toNatClampNeg)) + ((((M.1 174 3) - x1) - 1) * (M.1 174 2)))), (6, .int (((M.1 174 3) - x1) - 1)), (0, rr E.1 174), (1, .int x1), (2, .int x2), (3, .int x3), (4, .int x4), (5, .int x5)]) hg dX9_tryCell_72 (by decide) rfl ?_
      refine g_iload hg dX9_tryCell_74 0 rfl ?_
      refine g_rload_n hg dX9_tryCell_76 rfl 4 rfl ?_
      refine g_getI hg fl_X9_79 ly174 rfl (idb rfl rfl hn) dX9_tryCell_77 ?_
      refine g_icmp_gt (tgt := 129) hg dX9_tryCell_80 (by decide) (fun c => ?_) (fun c => ?_)
      · replace h := itT c h
        replace h := Option.some.inj h
        subst h
        exact g_vret hg hr dX9_tryCell_129
      · replace h := itF c h
        refine g_rload_n hg dX9_tryCell_83 rfl 4 rfl ?_
        refine g_iload hg dX9_tryCell_84 2 rfl ?_
        refine g_iload hg dX9_tryCell_86 0 rfl ?_
        obtain ⟨q88, e88, h⟩ := Option.bind_eq_some_iff.mp h
        refine g_callVi (As := [.int ((x5 + (M.1 175 x3.toNatClampNeg)) + ((((M.1 174 3) - x1) - 1) * (M.1 174 2))), .int (((x4 + q57.1) + 1) + ((((M.1 174 3) - x1) - 1) * 3))]) (rest := []) hg (lkX9_isBetter (by omega) hn hRf  e88) cv_X9_105 rfl ly174 (idb rfl rfl hn) rfl rfl (Nat.le_of_ble_eq_true rfl) ⟨Nat.le_refl _, Nat.le_refl _⟩ dX9_tryCell_88 ?_
        refine g_if_eq (tgt := 129) hg dX9_tryCell_91 (by decide) (fun c => ?_) (fun c => ?_)
        · replace h := itT c h
          replace h := Option.some.inj h
          subst h
          exact g_vret hg hr dX9_tryCell_129
        · replace h := itF c h
          refine g_rload_n hg dX9_tryCell_94 rfl 4 rfl ?_
          refine g_iload_n hg dX9_tryCell_95 rfl 5 rfl ?_
          refine g_iload_n hg dX9_tryCell_96 rfl 7 rfl ?_
          obtain ⟨q97, e97, h⟩ := Option.bind_eq_some_iff.mp h
          refine g_callVi (As := [.int x1, .int x3]) (rest := []) hg (lkX9_isApart (by omega) hn hRf  e97) cv_X9_109 rfl ly174 (idb rfl rfl hn) rfl rfl (Nat.le_of_ble_eq_true rfl) ⟨Nat.le_refl _, Nat.le_refl _⟩ dX9_tryCell_97 ?_
          refine g_if_eq (tgt := 129) hg dX9_tryCell_100 (by decide) (fun c => ?_) (fun c => ?_)
          · replace h := itT c h
            replace h := Option.some.inj h
            subst h
            exact g_vret hg hr dX9_tryCell_129
          · replace h := itF c h
            refine g_rload_n hg dX9_tryCell_103 rfl 4 rfl ?_
            refine g_getR (r := 176) hg fl_X9_15 ly174 rfl (idb rfl rfl hn) (rfc hRf rfl rfl rfl rfl) (by decide) dX9_tryCell_104 ?_
            refine g_iload_n hg dX9_tryCell_107 rfl 5 rfl ?_
            refine g_iload_n hg dX9_tryCell_108 rfl 7 rfl ?_
            obtain ⟨c109, h⟩ := ck_some h
            refine g_iast hg ly176 (idb rfl rfl hn) (inb_vp c109) dX9_tryCell_109 ?_
            refine g_rload_n hg dX9_tryCell_110 rfl 4 rfl ?_
            refine g_iload_n hg dX9_tryCell_111 rfl 5 rfl ?_
            refine g_iconst hg dX9_tryCell_112 kI_1 ?_
            refine g_iadd hg dX9_tryCell_113 ?_
            refine g_iload_n hg dX9_tryCell_114 rfl 7 rfl ?_
            refine g_iload hg dX9_tryCell_115 1 rfl ?_
            refine g_iload hg dX9_tryCell_117 9 rfl ?_
            refine g_rload_n hg dX9_tryCell_119 rfl 4 rfl ?_
            refine g_getR (r := 175) hg fl_X9_9 ly174 rfl (idb rfl rfl hn) (rfc hRf rfl rfl rfl rfl) (by decide) dX9_tryCell_120 ?_
            refine g_iload_n hg dX9_tryCell_123 rfl 7 rfl ?_
            obtain ⟨c124, h⟩ := ck_some h
            refine g_iald hg ly175 (idb rfl rfl hn) (inb_vp c124) dX9_tryCell_124 ?_
            refine g_iadd hg dX9_tryCell_125 ?_
            obtain ⟨M126, e126, h⟩ := Option.bind_eq_some_iff.mp h
            refine g_callVv (As := [.int (x1 + 1), .int x3, .int ((x4 + q57.1) + 1), .int (x5 + ((sI q97.2 176 x1.toNatClampNeg x3).1 175 x3.toNatClampNeg))]) (rest := []) hg (hrec _ (by omega) e126) cv_X9_88 rfl ly174 (idb rfl rfl hn) rfl rfl (Nat.le_of_ble_eq_true rfl) ⟨Nat.le_refl _, Nat.le_refl _⟩ dX9_tryCell_126 ?_
            replace h := Option.some.inj h
            subst h
            exact g_vret hg hr dX9_tryCell_129
    · replace h := itF c h
      replace h := Option.some.inj h
      subst h
      exact g_vret hg hr dX9_tryCell_48
theorem lkX9_search_o_13 {g : Gm} {l0 : Launch} {E : En} {d n : Nat} {Rf : Nat → Nat → Nat} {ex : Bool} {kq : Nat × Nat} (hn : 239 ≤ n) (hRf : RfOk 1 239 kq Rf) {d0 : Nat} (hd0 : d0 ≤ d) {rec : Int32 → Int32 → Int32 → Int32 → Mm → Option (Mm)} (hrec : ∀ d', d0 ≤ d' → ∀ {x1 : Int32} {x2 : Int32} {x3 : Int32} {x4 : Int32} {M : Mm} {q : Mm}, rec x1 x2 x3 x4 M = some q → Ct l0 E yX9_search cX9_search 6 none d' 0 0 [rr E.1 174, .int x1, .int x2, .int x3, .int x4] ex n Rf M n Rf none q) (hg : Ok g l0 E cX9_search RX9 6 (d + 4) 0 0) {q : Mm} (hr : Ret g E 0 0 none ex n Rf none q) : ∀ (x3 : Int32) (x4 : Int32) (M : Mm), sX9_search_o_13 rec x3 x4 M = some q → WG g E 6 n Rf ex 0 0 13 [(0, rr E.1 174), (3, .int x3), (4, .int x4)] [] M := by
  intro x3 x4 M h
  unfold sX9_search_o_13 at h
  refine g_rload_n hg dX9_search_13 rfl 0 rfl ?_
  refine g_iload hg dX9_search_14 2 rfl ?_
  refine g_iload_n hg dX9_search_16 rfl 1 rfl ?_
  obtain ⟨M17, e17, h⟩ := Option.bind_eq_some_iff.mp h
  refine g_callVv (As := [.int x4, .int x3]) (rest := []) hg (lkX9_keepFound (by omega) hn hRf  e17) cv_X9_95 rfl ly174 (idb rfl rfl hn) rfl rfl (Nat.le_of_ble_eq_true rfl) ⟨Nat.le_refl _, Nat.le_refl _⟩ dX9_search_17 ?_
  replace h := Option.some.inj h
  subst h
  exact g_vret hg hr dX9_search_20
theorem lkX9_search_o_24 {g : Gm} {l0 : Launch} {E : En} {d n : Nat} {Rf : Nat → Nat → Nat} {ex : Bool} {kq : Nat × Nat} (hn : 239 ≤ n) (hRf : RfOk 1 239 kq Rf) {d0 : Nat} (hd0 : d0 ≤ d) {rec : Int32 → Int32 → Int32 → Int32 → Mm → Option (Mm)} (hrec : ∀ d', d0 ≤ d' → ∀ {x1 : Int32} {x2 : Int32} {x3 : Int32} {x4 : Int32} {M : Mm} {q : Mm}, rec x1 x2 x3 x4 M = some q → Ct l0 E yX9_search cX9_search 6 none d' 0 0 [rr E.1 174, .int x1, .int x2, .int x3, .int x4] ex n Rf M n Rf none q) (hg : Ok g l0 E cX9_search RX9 6 (d + 4) 0 0) {q : Mm} (hr : Ret g E 0 0 none ex n Rf none q) : ∀ (F : Nat) (x1 : Int32) (x2 : Int32) (x3 : Int32) (x4 : Int32) (x5 : Int32) (M : Mm), sX9_search_o_24 rec F x1 x2 x3 x4 x5 M = some q → WG g E 6 n Rf ex 0 0 24 [(0, rr E.1 174), (1, .int x1), (2, .int x2), (3, .int x3), (4, .int x4), (5, .int x5)] [] M := by
  intro F
  induction F with
  | zero =>
    intro x1 x2 x3 x4 x5 M h
    cases h
  | succ F ih =>
    intro x1 x2 x3 x4 x5 M h
    rw [sX9_search_o_24] at h
    refine g_iload hg dX9_search_24 5 rfl ?_
    refine g_rload_n hg dX9_search_26 rfl 0 rfl ?_
    refine g_getR (r := 22) hg fl_X9_28 ly174 rfl (idb rfl rfl hn) (rfc hRf rfl rfl rfl rfl) (by decide) dX9_search_27 ?_
    refine g_getI hg fl_X9_35 ly22 rfl (idb rfl rfl hn) dX9_search_30 ?_
    refine g_icmp_ge (tgt := 53) hg dX9_search_33 (by decide) (fun c => ?_) (fun c => ?_)
    · replace h := itT c h
      replace h := Option.some.inj h
      subst h
      exact g_vret hg hr dX9_search_53
    · replace h := itF c h
      refine g_rload_n hg dX9_search_36 rfl 0 rfl ?_
      refine g_iload_n hg dX9_search_37 rfl 1 rfl ?_
      refine g_iload_n hg dX9_search_38 rfl 2 rfl ?_
      refine g_iload hg dX9_search_39 5 rfl ?_
      refine g_iload_n hg dX9_search_41 rfl 3 rfl ?_
      refine g_iload hg dX9_search_42 4 rfl ?_
      obtain ⟨M44, e44, h⟩ := Option.bind_eq_some_iff.mp h
      refine g_callVv (As := [.int x1, .int x2, .int x5, .int x3, .int x4]) (rest := []) hg (lkX9_tryCell (by omega) hn hRf hrec  e44) cv_X9_98 rfl ly174 (idb rfl rfl hn) rfl rfl (Nat.le_of_ble_eq_true rfl) ⟨Nat.le_refl _, Nat.le_refl _⟩ dX9_search_44 ?_
      refine g_inc (lv' := [(5, .int (x5 + 1)), (0, rr E.1 174), (1, .int x1), (2, .int x2), (3, .int x3), (4, .int x4)]) hg dX9_search_47 kI_1 5 rfl (by decide) rfl ?_
      refine g_goto (tgt := 24) hg dX9_search_50 (by decide) ?_
      refine g_sub (lv' := [(0, rr E.1 174), (1, .int x1), (2, .int x2), (3, .int x3), (4, .int x4), (5, .int (x5 + 1))]) [1, 2, 3, 4, 5, 0] rfl ?_
      exact ih _ _ _ _ _ _ h
theorem lkX9_search_o {d0 : Nat} {l0 : Launch} {E : En} {d n : Nat} {Rf : Nat → Nat → Nat} {ex : Bool} {kq : Nat × Nat} (hd : d0 + 4 ≤ d) (hn : 239 ≤ n) (hRf : RfOk 1 239 kq Rf) {rec : Int32 → Int32 → Int32 → Int32 → Mm → Option (Mm)} (hrec : ∀ d', d0 ≤ d' → ∀ {x1 : Int32} {x2 : Int32} {x3 : Int32} {x4 : Int32} {M : Mm} {q : Mm}, rec x1 x2 x3 x4 M = some q → Ct l0 E yX9_search cX9_search 6 none d' 0 0 [rr E.1 174, .int x1, .int x2, .int x3, .int x4] ex n Rf M n Rf none q) {x1 : Int32} {x2 : Int32} {x3 : Int32} {x4 : Int32} {M : Mm} {q : Mm} (h : sX9_search_o rec x1 x2 x3 x4 M = some q) : Ct l0 E yX9_search cX9_search 6 none d 0 0 [rr E.1 174, .int x1, .int x2, .int x3, .int x4] ex n Rf M n Rf none q := by
  obtain ⟨d, hd0, rfl⟩ : ∃ e, d0 ≤ e ∧ d = e + 4 := ⟨d - 4, by omega, by omega⟩
  refine Ct.of pnX9 (Nat.le_of_ble_eq_true rfl) (fun g hg hr _ => ?_)
  replace hg : Ok g l0 E cX9_search RX9 6 (d + 4) 0 0 := hg
  show WG g E 6 n Rf ex 0 0 0 [(0, rr E.1 174), (1, .int x1), (2, .int x2), (3, .int x3), (4, .int x4)] [] M
  unfold sX9_search_o at h
  refine g_iload_n hg dX9_search_0 rfl 1 rfl ?_
  refine g_rload_n hg dX9_search_1 rfl 0 rfl ?_
  refine g_getI hg fl_X9_76 ly174 rfl (idb rfl rfl hn) dX9_search_2 ?_
  refine g_icmp_ge (tgt := 13) hg dX9_search_5 (by decide) (fun c => ?_) (fun c => ?_)
  · replace h := itT c h
    refine g_sub (lv' := [(0, rr E.1 174), (3, .int x3), (4, .int x4)]) [0, 3, 4] rfl ?_
    exact lkX9_search_o_13 hn hRf hd0 hrec hg hr  _ _ _ h
  · replace h := itF c h
    refine g_iload_n hg dX9_search_8 rfl 1 rfl ?_
    refine g_iconst hg dX9_search_9 kI_3 ?_
    refine g_icmp_lt (tgt := 21) hg dX9_search_10 (by decide) (fun c => ?_) (fun c => ?_)
    · replace h := itT c h
      refine g_iconst hg dX9_search_21 kI_0 ?_
      refine g_istore (lv' := [(5, .int 0), (0, rr E.1 174), (1, .int x1), (2, .int x2), (3, .int x3), (4, .int x4)]) hg dX9_search_22 (by decide) rfl ?_
      refine g_sub (lv' := [(0, rr E.1 174), (1, .int x1), (2, .int x2), (3, .int x3), (4, .int x4), (5, .int 0)]) [1, 2, 3, 4, 5, 0] rfl ?_
      exact lkX9_search_o_24 hn hRf hd0 hrec hg hr  4096 _ _ _ _ _ _ h
    · replace h := itF c h
      refine g_sub (lv' := [(0, rr E.1 174), (3, .int x3), (4, .int x4)]) [0, 3, 4] rfl ?_
      exact lkX9_search_o_13 hn hRf hd0 hrec hg hr  _ _ _ h
theorem lkX9_search {l0 : Launch} {E : En} {n : Nat} {Rf : Nat → Nat → Nat} {ex : Bool} {kq : Nat × Nat} (F : Nat) {d : Nat} (hd : F * 4 ≤ d) (hn : 239 ≤ n) (hRf : RfOk 1 239 kq Rf) {x1 : Int32} {x2 : Int32} {x3 : Int32} {x4 : Int32} {M : Mm} {q : Mm} (h : sX9_search F x1 x2 x3 x4 M = some q) : Ct l0 E yX9_search cX9_search 6 none d 0 0 [rr E.1 174, .int x1, .int x2, .int x3, .int x4] ex n Rf M n Rf none q := by
  induction F generalizing d x1 x2 x3 x4 M q with
  | zero => cases h
  | succ F ih =>
    rw [sX9_search] at h
    exact lkX9_search_o (d0 := F * 4) (by rw [Nat.succ_mul] at hd; exact hd) hn hRf (fun d' hd' => by intros; exact ih hd' (by assumption)) h
theorem lkX9_findPlan_54 {g : Gm} {l0 : Launch} {E : En} {d n : Nat} {Rf : Nat → Nat → Nat} {ex : Bool} {kq : Nat × Nat} (hn : 239 ≤ n) (hRf : RfOk 1 239 kq Rf) (hg : Ok g l0 E cX9_findPlan RX9 5 (d + 49) 0 0) {q : Int32 × Mm} (hr : Ret g E 0 0 (some .int) ex n Rf (some (.int q.1)) q.2) : ∀ (F : Nat) (x1 : Int32) (x4 : Int32) (M : Mm), sX9_findPlan_54 F x1 x4 M = some q → WG g E 5 n Rf ex 0 0 54 [(0, rr E.1 174), (1, .int x1), (4, .int x4)] [] M := by
  intro F
  induction F with
  | zero =>
    intro x1 x4 M h
    cases h
  | succ F ih =>
    intro x1 x4 M h
    rw [sX9_findPlan_54] at h
    refine g_iload hg dX9_findPlan_54 2 rfl ?_
    refine g_iload_n hg dX9_findPlan_56 rfl 1 rfl ?_
    refine g_icmp_ge (tgt := 80) hg dX9_findPlan_57 (by decide) (fun c => ?_) (fun c => ?_)
    · replace h := itT c h
      refine g_rload_n hg dX9_findPlan_80 rfl 0 rfl ?_
      refine g_getI hg fl_X9_82 ly174 rfl (idb rfl rfl hn) dX9_findPlan_81 ?_
      replace h := Option.some.inj h
      subst h
      exact g_iret hg hr dX9_findPlan_84
    · replace h := itF c h
      refine g_rload_n hg dX9_findPlan_60 rfl 0 rfl ?_
      refine g_getR (r := 178) hg fl_X9_21 ly174 rfl (idb rfl rfl hn) (rfc hRf rfl rfl rfl rfl) (by decide) dX9_findPlan_61 ?_
      refine g_iload hg dX9_findPlan_64 2 rfl ?_
      refine g_rload_n hg dX9_findPlan_66 rfl 0 rfl ?_
      refine g_getR (r := 177) hg fl_X9_18 ly174 rfl (idb rfl rfl hn) (rfc hRf rfl rfl rfl rfl) (by decide) dX9_findPlan_67 ?_
      refine g_iload hg dX9_findPlan_70 2 rfl ?_
      obtain ⟨c72, h⟩ := ck_some h
      refine g_iald hg ly177 (idb rfl rfl hn) (inb_vp c72) dX9_findPlan_72 ?_
      obtain ⟨c73, h⟩ := ck_some h
      refine g_iast hg ly178 (idb rfl rfl hn) (inb_vp c73) dX9_findPlan_73 ?_
      refine g_inc (lv' := [(4, .int (x4 + 1)), (0, rr E.1 174), (1, .int x1)]) hg dX9_findPlan_74 kI_1 2 rfl (by decide) rfl ?_
      refine g_goto (tgt := 54) hg dX9_findPlan_77 (by decide) ?_
      refine g_sub (lv' := [(0, rr E.1 174), (1, .int x1), (4, .int (x4 + 1))]) [1, 2, 0] rfl ?_
      exact ih _ _ _ h
theorem lkX9_findPlan {l0 : Launch} {E : En} {d n : Nat} {Rf : Nat → Nat → Nat} {ex : Bool} {kq : Nat × Nat} (hd : 49 ≤ d) (hn : 239 ≤ n) (hRf : RfOk 1 239 kq Rf) {x1 : Int32} {x2 : Int32} {x3 : Int32} {M : Mm} {q : Int32 × Mm} (h : sX9_findPlan x1 x2 x3 M = some q) : Ct l0 E yX9_findPlan cX9_findPlan 5 (some .int) d 0 0 [rr E.1 174, .int x1, .int x2, .int x3] ex n Rf M n Rf (some (.int q.1)) q.2 := by
  obtain ⟨d, rfl⟩ := Nat.exists_eq_add_of_le' hd
  refine Ct.of pnX9 (Nat.le_of_ble_eq_true rfl) (fun g hg hr _ => ?_)
  replace hg : Ok g l0 E cX9_findPlan RX9 5 (d + 49) 0 0 := hg
  show WG g E 5 n Rf ex 0 0 0 [(0, rr E.1 174), (1, .int x1), (2, .int x2), (3, .int x3)] [] M
  unfold sX9_findPlan at h
  refine g_rload_n hg dX9_findPlan_0 rfl 0 rfl ?_
  refine g_iload_n hg dX9_findPlan_1 rfl 1 rfl ?_
  refine g_putI hg fp_X9_76 ly174 rfl (idb rfl rfl hn) dX9_findPlan_2 ?_
  refine g_rload_n hg dX9_findPlan_5 rfl 0 rfl ?_
  refine g_iload_n hg dX9_findPlan_6 rfl 2 rfl ?_
  refine g_putI hg fp_X9_79 ly174 rfl (idb rfl rfl hn) dX9_findPlan_7 ?_
  refine g_rload_n hg dX9_findPlan_10 rfl 0 rfl ?_
  refine g_iconst hg dX9_findPlan_11 kI_m1 ?_
  refine g_putI hg fp_X9_82 ly174 rfl (idb rfl rfl hn) dX9_findPlan_12 ?_
  refine g_rload_n hg dX9_findPlan_15 rfl 0 rfl ?_
  refine g_iconst hg dX9_findPlan_16 kI_0 ?_
  refine g_putI hg fp_X9_85 ly174 rfl (idb rfl rfl hn) dX9_findPlan_17 ?_
  refine g_rload_n hg dX9_findPlan_20 rfl 0 rfl ?_
  refine g_iconst hg dX9_findPlan_21 kI_0 ?_
  refine g_iload_n hg dX9_findPlan_22 rfl 3 rfl ?_
  refine g_iconst hg dX9_findPlan_23 kI_0 ?_
  refine g_iconst hg dX9_findPlan_24 kI_0 ?_
  obtain ⟨M25, e25, h⟩ := Option.bind_eq_some_iff.mp h
  refine g_callVv (As := [.int 0, .int x3, .int 0, .int 0]) (rest := []) hg (lkX9_search 12 (by omega) hn hRf  e25) cv_X9_88 rfl ly174 (idb rfl rfl hn) rfl rfl (Nat.le_of_ble_eq_true rfl) ⟨Nat.le_refl _, Nat.le_refl _⟩ dX9_findPlan_25 ?_
  refine g_rload_n hg dX9_findPlan_28 rfl 0 rfl ?_
  refine g_getI hg fl_X9_82 ly174 rfl (idb rfl rfl hn) dX9_findPlan_29 ?_
  refine g_iconst hg dX9_findPlan_32 kI_m1 ?_
  refine g_icmp_ne (tgt := 38) hg dX9_findPlan_33 (by decide) (fun c => ?_) (fun c => ?_)
  · replace h := itF c h
    refine g_rload_n hg dX9_findPlan_38 rfl 0 rfl ?_
    refine g_iload_n hg dX9_findPlan_39 rfl 1 rfl ?_
    refine g_putI hg fp_X9_92 ly174 rfl (idb rfl rfl hn) dX9_findPlan_40 ?_
    refine g_rload_n hg dX9_findPlan_43 rfl 0 rfl ?_
    refine g_rload_n hg dX9_findPlan_44 rfl 0 rfl ?_
    refine g_getI hg fl_X9_85 ly174 rfl (idb rfl rfl hn) dX9_findPlan_45 ?_
    refine g_putI hg fp_X9_24 ly174 rfl (idb rfl rfl hn) dX9_findPlan_48 ?_
    refine g_iconst hg dX9_findPlan_51 kI_0 ?_
    refine g_istore (lv' := [(4, .int 0), (0, rr E.1 174), (1, .int x1), (2, .int x2), (3, .int x3)]) hg dX9_findPlan_52 (by decide) rfl ?_
    refine g_sub (lv' := [(0, rr E.1 174), (1, .int x1), (4, .int 0)]) [1, 2, 0] rfl ?_
    exact lkX9_findPlan_54 hn hRf hg hr  4096 _ _ _ h
  · replace h := itT c h
    refine g_iconst hg dX9_findPlan_36 kI_m1 ?_
    replace h := Option.some.inj h
    subst h
    exact g_iret hg hr dX9_findPlan_37
theorem lkX11_plan_26 {g : Gm} {l0 : Launch} {E : En} {d n : Nat} {Rf : Nat → Nat → Nat} {ex : Bool} {kq : Nat × Nat} (hn : 239 ≤ n) (hRf : RfOk 1 239 kq Rf) (hkq : isKq kq) (hg : Ok g l0 E cX11_plan RX11 5 (d + 50) 0 0) {q : Int32 × Mm} (hr : Ret g E 0 0 (some .int) ex n Rf (some (.int q.1)) q.2) : ∀ (x1 : Int32) (x2 : Int32) (x3 : Int32) (s0 : Int32) (M : Mm), sX11_plan_26 kq x1 x2 x3 s0 M = some q → WG g E 5 n Rf ex 0 0 26 [(0, rr E.1 1), (1, .int x1), (2, .int x2), (3, .int x3)] [.int s0] M := by
  intro x1 x2 x3 s0 M h
  unfold sX11_plan_26 at h
  refine g_istore (lv' := [(4, .int s0), (0, rr E.1 1), (1, .int x1), (2, .int x2), (3, .int x3)]) hg dX11_plan_26 (by decide) rfl ?_
  refine g_iload hg dX11_plan_28 0 rfl ?_
  refine g_if_ne (tgt := 54) hg dX11_plan_30 (by decide) (fun c => ?_) (fun c => ?_)
  · replace h := itF c h
    refine g_iconst hg dX11_plan_54 kI_m1 ?_
    replace h := Option.some.inj h
    subst h
    exact g_iret hg hr dX11_plan_55
  · replace h := itT c h
    refine g_rload_n hg dX11_plan_33 rfl 1 rfl ?_
    refine g_getR (r := 22) hg fl_X11_45 ly1 rfl (idb rfl rfl hn) (rfc hRf rfl rfl rfl rfl) (by decide) dX11_plan_34 ?_
    refine g_iload_n hg dX11_plan_37 rfl 4 rfl ?_
    obtain ⟨q38, e38, h⟩ := Option.bind_eq_some_iff.mp h
    refine g_callVi (As := [.int x3]) (rest := []) hg (lkX6_hasCell (by omega) (Nat.le_trans (by decide : 34 ≤ 239) hn) (hRf.mono (by decide) (by decide))  e38) cv_X11_142 rfl ly22 (idb rfl rfl hn) rfl rfl (Nat.le_of_ble_eq_true rfl) ⟨Nat.le_refl _, Nat.le_refl _⟩ dX11_plan_38 ?_
    refine g_if_eq (tgt := 54) hg dX11_plan_41 (by decide) (fun c => ?_) (fun c => ?_)
    · replace h := itT c h
      refine g_iconst hg dX11_plan_54 kI_m1 ?_
      replace h := Option.some.inj h
      subst h
      exact g_iret hg hr dX11_plan_55
    · replace h := itF c h
      refine g_rload_n hg dX11_plan_44 rfl 1 rfl ?_
      refine g_getR (r := kq.1) hg fl_X11_34 ly1 rfl (idb rfl rfl hn) (rfc hRf rfl rfl rfl rfl) (ky_pos hkq.1) dX11_plan_45 ?_
      refine g_getI hg fl_X11_125 (ky_lay hkq.1) rfl (ky_bd hkq.1 hn) dX11_plan_48 ?_
      refine g_if_ne (tgt := 56) hg dX11_plan_51 (by decide) (fun c => ?_) (fun c => ?_)
      · replace h := itF c h
        refine g_rload_n hg dX11_plan_56 rfl 1 rfl ?_
        refine g_getR (r := 34) hg fl_X11_52 ly1 rfl (idb rfl rfl hn) (rfc hRf rfl rfl rfl rfl) (by decide) dX11_plan_57 ?_
        refine g_rload_n hg dX11_plan_60 rfl 1 rfl ?_
        refine g_getR (r := 34) hg fl_X11_52 ly1 rfl (idb rfl rfl hn) (rfc hRf rfl rfl rfl rfl) (by decide) dX11_plan_61 ?_
        refine g_getI hg fl_X11_145 ly34 rfl (idb rfl rfl hn) dX11_plan_64 ?_
        obtain ⟨M67, e67, h⟩ := Option.bind_eq_some_iff.mp h
        refine g_callVv (As := [.int (q38.2.1 34 1)]) (rest := []) hg (lkX1_gather (by omega) hn hRf  e67) cv_X11_250 rfl ly34 (idb rfl rfl hn) rfl rfl (Nat.le_of_ble_eq_true rfl) ⟨Nat.le_refl _, Nat.le_refl _⟩ dX11_plan_67 ?_
        refine g_rload_n hg dX11_plan_70 rfl 1 rfl ?_
        refine g_getR (r := 174) hg fl_X11_79 ly1 rfl (idb rfl rfl hn) (rfc hRf rfl rfl rfl rfl) (by decide) dX11_plan_71 ?_
        refine g_rload_n hg dX11_plan_74 rfl 1 rfl ?_
        refine g_getR (r := 158) hg fl_X11_61 ly1 rfl (idb rfl rfl hn) (rfc hRf rfl rfl rfl rfl) (by decide) dX11_plan_75 ?_
        refine g_rload_n hg dX11_plan_78 rfl 1 rfl ?_
        refine g_getR (r := 34) hg fl_X11_52 ly1 rfl (idb rfl rfl hn) (rfc hRf rfl rfl rfl rfl) (by decide) dX11_plan_79 ?_
        obtain ⟨M82, e82, h⟩ := Option.bind_eq_some_iff.mp h
        refine g_callVv (As := [rr E.1 158, rr E.1 34]) (rest := []) hg (lkX9_weighGains (by omega) hn hRf  e82) cv_X11_295 rfl ly174 (idb rfl rfl hn) rfl rfl (Nat.le_of_ble_eq_true rfl) ⟨Nat.le_refl _, Nat.le_refl _⟩ dX11_plan_82 ?_
        refine g_rload_n hg dX11_plan_85 rfl 1 rfl ?_
        refine g_getR (r := 174) hg fl_X11_79 ly1 rfl (idb rfl rfl hn) (rfc hRf rfl rfl rfl rfl) (by decide) dX11_plan_86 ?_
        refine g_iload_n hg dX11_plan_89 rfl 2 rfl ?_
        refine g_iload_n hg dX11_plan_90 rfl 3 rfl ?_
        refine g_iload_n hg dX11_plan_91 rfl 4 rfl ?_
        obtain ⟨q92, e92, h⟩ := Option.bind_eq_some_iff.mp h
        refine g_callVi (As := [.int x1, .int x2, .int x3]) (rest := []) hg (lkX9_findPlan (by omega) hn hRf  e92) cv_X11_299 rfl ly174 (idb rfl rfl hn) rfl rfl (Nat.le_of_ble_eq_true rfl) ⟨Nat.le_refl _, Nat.le_refl _⟩ dX11_plan_92 ?_
        replace h := Option.some.inj h
        subst h
        exact g_iret hg hr dX11_plan_95
      · replace h := itT c h
        refine g_iconst hg dX11_plan_54 kI_m1 ?_
        replace h := Option.some.inj h
        subst h
        exact g_iret hg hr dX11_plan_55
theorem lkX11_plan_21 {g : Gm} {l0 : Launch} {E : En} {d n : Nat} {Rf : Nat → Nat → Nat} {ex : Bool} {kq : Nat × Nat} (hn : 239 ≤ n) (hRf : RfOk 1 239 kq Rf) (hkq : isKq kq) (hg : Ok g l0 E cX11_plan RX11 5 (d + 50) 0 0) {q : Int32 × Mm} (hr : Ret g E 0 0 (some .int) ex n Rf (some (.int q.1)) q.2) : ∀ (x1 : Int32) (x2 : Int32) (x3 : Int32) (M : Mm), sX11_plan_21 kq x1 x2 x3 M = some q → WG g E 5 n Rf ex 0 0 21 [(0, rr E.1 1), (1, .int x1), (2, .int x2), (3, .int x3)] [] M := by
  intro x1 x2 x3 M h
  unfold sX11_plan_21 at h
  refine g_iconst hg dX11_plan_21 kI_1 ?_
  refine g_goto (tgt := 26) hg dX11_plan_22 (by decide) ?_
  exact lkX11_plan_26 hn hRf hkq hg hr  _ _ _ _ _ h
theorem lkX11_plan {l0 : Launch} {E : En} {d n : Nat} {Rf : Nat → Nat → Nat} {ex : Bool} {kq : Nat × Nat} (hd : 50 ≤ d) (hn : 239 ≤ n) (hRf : RfOk 1 239 kq Rf) (hkq : isKq kq) {x1 : Int32} {x2 : Int32} {x3 : Int32} {M : Mm} {q : Int32 × Mm} (h : sX11_plan kq x1 x2 x3 M = some q) : Ct l0 E yX11_plan cX11_plan 5 (some .int) d 0 0 [rr E.1 1, .int x1, .int x2, .int x3] ex n Rf M n Rf (some (.int q.1)) q.2 := by
  obtain ⟨d, rfl⟩ := Nat.exists_eq_add_of_le' hd
  refine Ct.of pnX11 (Nat.le_of_ble_eq_true rfl) (fun g hg hr _ => ?_)
  replace hg : Ok g l0 E cX11_plan RX11 5 (d + 50) 0 0 := hg
  show WG g E 5 n Rf ex 0 0 0 [(0, rr E.1 1), (1, .int x1), (2, .int x2), (3, .int x3)] [] M
  unfold sX11_plan at h
  refine g_iload_n hg dX11_plan_0 rfl 1 rfl ?_
  refine g_iconst hg dX11_plan_1 kI_1 ?_
  refine g_icmp_lt (tgt := 21) hg dX11_plan_2 (by decide) (fun c => ?_) (fun c => ?_)
  · replace h := itT c h
    exact lkX11_plan_21 hn hRf hkq hg hr  _ _ _ _ h
  · replace h := itF c h
    refine g_iload_n hg dX11_plan_5 rfl 1 rfl ?_
    refine g_iconst hg dX11_plan_6 kI_3 ?_
    refine g_icmp_gt (tgt := 21) hg dX11_plan_7 (by decide) (fun c => ?_) (fun c => ?_)
    · replace h := itT c h
      exact lkX11_plan_21 hn hRf hkq hg hr  _ _ _ _ h
    · replace h := itF c h
      refine g_iload_n hg dX11_plan_10 rfl 2 rfl ?_
      refine g_iconst hg dX11_plan_11 kI_1 ?_
      refine g_icmp_lt (tgt := 21) hg dX11_plan_12 (by decide) (fun c => ?_) (fun c => ?_)
      · replace h := itT c h
        exact lkX11_plan_21 hn hRf hkq hg hr  _ _ _ _ h
      · replace h := itF c h
        refine g_iload_n hg dX11_plan_15 rfl 2 rfl ?_
        refine g_bipush hg dX11_plan_16 kB_60 ?_
        refine g_icmp_le (tgt := 25) hg dX11_plan_18 (by decide) (fun c => ?_) (fun c => ?_)
        · replace h := itT c h
          refine g_iconst hg dX11_plan_25 kI_0 ?_
          exact lkX11_plan_26 hn hRf hkq hg hr  _ _ _ _ _ h
        · replace h := itF c h
          exact lkX11_plan_21 hn hRf hkq hg hr  _ _ _ _ h
theorem lkX11_planned_32 {g : Gm} {l0 : Launch} {E : En} {d n : Nat} {Rf : Nat → Nat → Nat} {ex : Bool} {kq : Nat × Nat} (hn : 239 ≤ n) (hRf : RfOk 1 239 kq Rf) (hg : Ok g l0 E cX11_planned RX11 3 (d + 1) 0 0) {q : Int32 × Mm} (hr : Ret g E 0 0 (some .int) ex n Rf (some (.int q.1)) q.2) : ∀  (M : Mm), sX11_planned_32  M = some q → WG g E 3 n Rf ex 0 0 32 [] [] M := by
  intro M h
  unfold sX11_planned_32 at h
  refine g_iconst hg dX11_planned_32 kI_m1 ?_
  refine g_goto (tgt := 45) hg dX11_planned_33 (by decide) ?_
  replace h := Option.some.inj h
  subst h
  exact g_iret hg hr dX11_planned_45
theorem lkX11_planned {l0 : Launch} {E : En} {d n : Nat} {Rf : Nat → Nat → Nat} {ex : Bool} {kq : Nat × Nat} (hd : 1 ≤ d) (hn : 239 ≤ n) (hRf : RfOk 1 239 kq Rf) {x1 : Int32} {x2 : Int32} {M : Mm} {q : Int32 × Mm} (h : sX11_planned x1 x2 M = some q) : Ct l0 E yX11_planned cX11_planned 3 (some .int) d 0 0 [rr E.1 1, .int x1, .int x2] ex n Rf M n Rf (some (.int q.1)) q.2 := by
  obtain ⟨d, rfl⟩ := Nat.exists_eq_add_of_le' hd
  refine Ct.of pnX11 (Nat.le_of_ble_eq_true rfl) (fun g hg hr _ => ?_)
  replace hg : Ok g l0 E cX11_planned RX11 3 (d + 1) 0 0 := hg
  show WG g E 3 n Rf ex 0 0 0 [(0, rr E.1 1), (1, .int x1), (2, .int x2)] [] M
  unfold sX11_planned at h
  refine g_iload_n hg dX11_planned_0 rfl 1 rfl ?_
  refine g_iconst hg dX11_planned_1 kI_1 ?_
  refine g_icmp_ne (tgt := 13) hg dX11_planned_2 (by decide) (fun c => ?_) (fun c => ?_)
  · replace h := itF c h
    refine g_iload_n hg dX11_planned_13 rfl 1 rfl ?_
    refine g_if_ne (tgt := 32) hg dX11_planned_14 (by decide) (fun c => ?_) (fun c => ?_)
    · replace h := itF c h
      refine g_sub (lv' := []) [] rfl ?_
      exact lkX11_planned_32 hn hRf hg hr  _ h
    · replace h := itT c h
      refine g_iload_n hg dX11_planned_17 rfl 2 rfl ?_
      refine g_if_lt (tgt := 32) hg dX11_planned_18 (by decide) (fun c => ?_) (fun c => ?_)
      · replace h := itT c h
        refine g_sub (lv' := []) [] rfl ?_
        exact lkX11_planned_32 hn hRf hg hr  _ h
      · replace h := itF c h
        refine g_iload_n hg dX11_planned_21 rfl 2 rfl ?_
        refine g_rload_n hg dX11_planned_22 rfl 0 rfl ?_
        refine g_getR (r := 174) hg fl_X11_79 ly1 rfl (idb rfl rfl hn) (rfc hRf rfl rfl rfl rfl) (by decide) dX11_planned_23 ?_
        refine g_getI hg fl_X11_306 ly174 rfl (idb rfl rfl hn) dX11_planned_26 ?_
        refine g_icmp_lt (tgt := 36) hg dX11_planned_29 (by decide) (fun c => ?_) (fun c => ?_)
        · replace h := itT c h
          refine g_rload_n hg dX11_planned_36 rfl 0 rfl ?_
          refine g_getR (r := 174) hg fl_X11_79 ly1 rfl (idb rfl rfl hn) (rfc hRf rfl rfl rfl rfl) (by decide) dX11_planned_37 ?_
          refine g_getR (r := 178) hg fl_X11_307 ly174 rfl (idb rfl rfl hn) (rfc hRf rfl rfl rfl rfl) (by decide) dX11_planned_40 ?_
          refine g_iload_n hg dX11_planned_43 rfl 2 rfl ?_
          obtain ⟨c44, h⟩ := ck_some h
          refine g_iald hg ly178 (idb rfl rfl hn) (inb_vp c44) dX11_planned_44 ?_
          replace h := Option.some.inj h
          subst h
          exact g_iret hg hr dX11_planned_45
        · replace h := itF c h
          refine g_sub (lv' := []) [] rfl ?_
          exact lkX11_planned_32 hn hRf hg hr  _ h
  · replace h := itT c h
    refine g_rload_n hg dX11_planned_5 rfl 0 rfl ?_
    refine g_getR (r := 174) hg fl_X11_79 ly1 rfl (idb rfl rfl hn) (rfc hRf rfl rfl rfl rfl) (by decide) dX11_planned_6 ?_
    refine g_getI hg fl_X11_303 ly174 rfl (idb rfl rfl hn) dX11_planned_9 ?_
    replace h := Option.some.inj h
    subst h
    exact g_iret hg hr dX11_planned_12
theorem lkX8_mostTold_40 {g : Gm} {l0 : Launch} {E : En} {d n : Nat} {Rf : Nat → Nat → Nat} {ex : Bool} {kq : Nat × Nat} (hn : 239 ≤ n) (hRf : RfOk 1 239 kq Rf) (hg : Ok g l0 E cX8_mostTold RX8 4 (d + 1) 0 0) {q : Int32 × Mm} (hr : Ret g E 0 0 (some .int) ex n Rf (some (.int q.1)) q.2) {k4 : Int32 → Int32 → Int32 → Mm → Option (Int32 × Mm)} (hk4 : ∀ (x1 : Int32) (x2 : Int32) (x3 : Int32) (M : Mm), k4 x1 x2 x3 M = some q → WG g E 4 n Rf ex 0 0 4 [(0, rr E.1 179), (1, .int x1), (2, .int x2), (3, .int x3)] [] M) : ∀ (x1 : Int32) (x2 : Int32) (x3 : Int32) (M : Mm), sX8_mostTold_40 k4 x1 x2 x3 M = some q → WG g E 4 n Rf ex 0 0 40 [(0, rr E.1 179), (1, .int x1), (2, .int x2), (3, .int x3)] [] M := by
  intro x1 x2 x3 M h
  unfold sX8_mostTold_40 at h
  refine g_inc (lv' := [(3, .int (x3 + 1)), (0, rr E.1 179), (1, .int x1), (2, .int x2)]) hg dX8_mostTold_40 kI_1 3 rfl (by decide) rfl ?_
  refine g_goto (tgt := 4) hg dX8_mostTold_43 (by decide) ?_
  refine g_sub (lv' := [(0, rr E.1 179), (1, .int x1), (2, .int x2), (3, .int (x3 + 1))]) [1, 2, 3, 0] rfl ?_
  exact hk4 _ _ _ _ h
theorem lkX8_mostTold_35 {g : Gm} {l0 : Launch} {E : En} {d n : Nat} {Rf : Nat → Nat → Nat} {ex : Bool} {kq : Nat × Nat} (hn : 239 ≤ n) (hRf : RfOk 1 239 kq Rf) (hg : Ok g l0 E cX8_mostTold RX8 4 (d + 1) 0 0) {q : Int32 × Mm} (hr : Ret g E 0 0 (some .int) ex n Rf (some (.int q.1)) q.2) {k4 : Int32 → Int32 → Int32 → Mm → Option (Int32 × Mm)} (hk4 : ∀ (x1 : Int32) (x2 : Int32) (x3 : Int32) (M : Mm), k4 x1 x2 x3 M = some q → WG g E 4 n Rf ex 0 0 4 [(0, rr E.1 179), (1, .int x1), (2, .int x2), (3, .int x3)] [] M) : ∀ (x1 : Int32) (x2 : Int32) (x3 : Int32) (s0 : Int32) (s1 : Int32) (M : Mm), sX8_mostTold_35 k4 x1 x2 x3 s0 s1 M = some q → WG g E 4 n Rf ex 0 0 35 [(0, rr E.1 179), (1, .int x1), (2, .int x2), (3, .int x3)] [.int s1, .int s0] M := by
  intro x1 x2 x3 s0 s1 M h
  unfold sX8_mostTold_35 at h
  refine g_icmp_le (tgt := 40) hg dX8_mostTold_35 (by decide) (fun c => ?_) (fun c => ?_)
  · rw [if_pos c] at h
    exact lkX8_mostTold_40 hn hRf hg hr hk4 _ _ _ _ h
  · rw [if_neg c] at h
    refine g_iload_n hg dX8_mostTold_38 rfl 3 rfl ?_
    refine g_istore_n (lv' := [(2, .int x3), (0, rr E.1 179), (1, .int x1), (3, .int x3)]) hg dX8_mostTold_39 rfl (by decide) rfl ?_
    refine g_sub (lv' := [(0, rr E.1 179), (1, .int x1), (2, .int x3), (3, .int x3)]) [1, 2, 0, 3] rfl ?_
    exact lkX8_mostTold_40 hn hRf hg hr hk4 _ _ _ _ h
theorem lkX8_mostTold_4 {g : Gm} {l0 : Launch} {E : En} {d n : Nat} {Rf : Nat → Nat → Nat} {ex : Bool} {kq : Nat × Nat} (hn : 239 ≤ n) (hRf : RfOk 1 239 kq Rf) (hg : Ok g l0 E cX8_mostTold RX8 4 (d + 1) 0 0) {q : Int32 × Mm} (hr : Ret g E 0 0 (some .int) ex n Rf (some (.int q.1)) q.2) : ∀ (F : Nat) (x1 : Int32) (x2 : Int32) (x3 : Int32) (M : Mm), sX8_mostTold_4 F x1 x2 x3 M = some q → WG g E 4 n Rf ex 0 0 4 [(0, rr E.1 179), (1, .int x1), (2, .int x2), (3, .int x3)] [] M := by
  intro F
  induction F with
  | zero =>
    intro x1 x2 x3 M h
    cases h
  | succ F ih =>
    intro x1 x2 x3 M h
    rw [sX8_mostTold_4] at h
    refine g_iload_n hg dX8_mostTold_4 rfl 3 rfl ?_
    refine g_bipush hg dX8_mostTold_5 kB_8 ?_
    refine g_icmp_ge (tgt := 46) hg dX8_mostTold_7 (by decide) (fun c => ?_) (fun c => ?_)
    · replace h := itT c h
      refine g_iload_n hg dX8_mostTold_46 rfl 2 rfl ?_
      replace h := Option.some.inj h
      subst h
      exact g_iret hg hr dX8_mostTold_47
    · replace h := itF c h
      refine g_rload_n hg dX8_mostTold_10 rfl 0 rfl ?_
      refine g_getR (r := 180) hg fl_X8_11 ly179 rfl (idb rfl rfl hn) (rfc hRf rfl rfl rfl rfl) (by decide) dX8_mostTold_11 ?_
      refine g_iload_n hg dX8_mostTold_14 rfl 1 rfl ?_
      obtain ⟨c15, h⟩ := ck_some h
      refine g_aald4 (r := (181 + x1.toNatClampNeg)) hg ly180 (idb rfl rfl hn) (inb_vp c15) (fr180_rf (inb_vp c15) hRf) (Nat.lt_of_lt_of_le (by decide) (Nat.le_add_right _ _)) dX8_mostTold_15 ?_
      refine g_iload_n hg dX8_mostTold_16 rfl 3 rfl ?_
      obtain ⟨c17, h⟩ := ck_some h
      refine g_iald hg (fr180_lay (inb_vp c15)) (fr180_bd (inb_vp c15) hn) (inb_vp c17) dX8_mostTold_17 ?_
      refine g_iload_n hg dX8_mostTold_18 rfl 2 rfl ?_
      refine g_iconst hg dX8_mostTold_19 kI_m1 ?_
      refine g_icmp_ne (tgt := 27) hg dX8_mostTold_20 (by decide) (fun c => ?_) (fun c => ?_)
      · replace h := itF c h
        refine g_rload_n hg dX8_mostTold_27 rfl 0 rfl ?_
        refine g_getR (r := 180) hg fl_X8_11 ly179 rfl (idb rfl rfl hn) (rfc hRf rfl rfl rfl rfl) (by decide) dX8_mostTold_28 ?_
        refine g_iload_n hg dX8_mostTold_31 rfl 1 rfl ?_
        obtain ⟨c32, h⟩ := ck_some h
        refine g_aald4 (r := (181 + x1.toNatClampNeg)) hg ly180 (idb rfl rfl hn) (inb_vp c32) (fr180_rf (inb_vp c32) hRf) (Nat.lt_of_lt_of_le (by decide) (Nat.le_add_right _ _)) dX8_mostTold_32 ?_
        refine g_iload_n hg dX8_mostTold_33 rfl 2 rfl ?_
        obtain ⟨c34, h⟩ := ck_some h
        refine g_iald hg (fr180_lay (inb_vp c32)) (fr180_bd (inb_vp c32) hn) (inb_vp c34) dX8_mostTold_34 ?_
        exact lkX8_mostTold_35 hn hRf hg hr ih _ _ _ _ _ _ h
      · replace h := itT c h
        refine g_iconst hg dX8_mostTold_23 kI_0 ?_
        refine g_goto (tgt := 35) hg dX8_mostTold_24 (by decide) ?_
        exact lkX8_mostTold_35 hn hRf hg hr ih _ _ _ _ _ _ h
theorem lkX8_mostTold {l0 : Launch} {E : En} {d n : Nat} {Rf : Nat → Nat → Nat} {ex : Bool} {kq : Nat × Nat} (hd : 1 ≤ d) (hn : 239 ≤ n) (hRf : RfOk 1 239 kq Rf) {x1 : Int32} {M : Mm} {q : Int32 × Mm} (h : sX8_mostTold x1 M = some q) : Ct l0 E yX8_mostTold cX8_mostTold 4 (some .int) d 0 0 [rr E.1 179, .int x1] ex n Rf M n Rf (some (.int q.1)) q.2 := by
  obtain ⟨d, rfl⟩ := Nat.exists_eq_add_of_le' hd
  refine Ct.of pnX8 (Nat.le_of_ble_eq_true rfl) (fun g hg hr _ => ?_)
  replace hg : Ok g l0 E cX8_mostTold RX8 4 (d + 1) 0 0 := hg
  show WG g E 4 n Rf ex 0 0 0 [(0, rr E.1 179), (1, .int x1)] [] M
  unfold sX8_mostTold at h
  refine g_iconst hg dX8_mostTold_0 kI_m1 ?_
  refine g_istore_n (lv' := [(2, .int (-1)), (0, rr E.1 179), (1, .int x1)]) hg dX8_mostTold_1 rfl (by decide) rfl ?_
  refine g_iconst hg dX8_mostTold_2 kI_0 ?_
  refine g_istore_n (lv' := [(3, .int 0), (2, .int (-1)), (0, rr E.1 179), (1, .int x1)]) hg dX8_mostTold_3 rfl (by decide) rfl ?_
  refine g_sub (lv' := [(0, rr E.1 179), (1, .int x1), (2, .int (-1)), (3, .int 0)]) [2, 3, 1, 0] rfl ?_
  exact lkX8_mostTold_4 hn hRf hg hr  4096 _ _ _ _ h
theorem lkX8_tallyBores_111 {g : Gm} {l0 : Launch} {E : En} {d n : Nat} {Rf : Nat → Nat → Nat} {ex : Bool} {kq : Nat × Nat} (hn : 239 ≤ n) (hRf : RfOk 1 239 kq Rf) (hg : Ok g l0 E cX8_tallyBores RX8 4 (d + 2) 0 0) {q : Mm} (hr : Ret g E 0 0 none ex n Rf none q) : ∀ (F : Nat) (x1 : Int32) (M : Mm), sX8_tallyBores_111 F x1 M = some q → WG g E 4 n Rf ex 0 0 111 [(0, rr E.1 179), (1, .int x1)] [] M := by
  intro F
  induction F with
  | zero =>
    intro x1 M h
    cases h
  | succ F ih =>
    intro x1 M h
    rw [sX8_tallyBores_111] at h
    refine g_iload_n hg dX8_tallyBores_111 rfl 1 rfl ?_
    refine g_bipush hg dX8_tallyBores_112 kB_6 ?_
    refine g_icmp_ge (tgt := 134) hg dX8_tallyBores_114 (by decide) (fun c => ?_) (fun c => ?_)
    · replace h := itT c h
      replace h := Option.some.inj h
      subst h
      exact g_vret hg hr dX8_tallyBores_134
    · replace h := itF c h
      refine g_rload_n hg dX8_tallyBores_117 rfl 0 rfl ?_
      refine g_getR (r := 187) hg fl_X8_16 ly179 rfl (idb rfl rfl hn) (rfc hRf rfl rfl rfl rfl) (by decide) dX8_tallyBores_118 ?_
      refine g_iload_n hg dX8_tallyBores_121 rfl 1 rfl ?_
      refine g_rload_n hg dX8_tallyBores_122 rfl 0 rfl ?_
      refine g_iload_n hg dX8_tallyBores_123 rfl 1 rfl ?_
      obtain ⟨q124, e124, h⟩ := Option.bind_eq_some_iff.mp h
      refine g_callVi (As := [.int x1]) (rest := [.int x1, rr E.1 187]) hg (lkX8_mostTold (by omega) hn hRf  e124) cv_X8_58 rfl ly179 (idb rfl rfl hn) rfl rfl (Nat.le_of_ble_eq_true rfl) ⟨Nat.le_refl _, Nat.le_refl _⟩ dX8_tallyBores_124 ?_
      obtain ⟨c127, h⟩ := ck_some h
      refine g_iast hg ly187 (idb rfl rfl hn) (inb_vp c127) dX8_tallyBores_127 ?_
      refine g_inc (lv' := [(1, .int (x1 + 1)), (0, rr E.1 179)]) hg dX8_tallyBores_128 kI_1 1 rfl (by decide) rfl ?_
      refine g_goto (tgt := 111) hg dX8_tallyBores_131 (by decide) ?_
      refine g_sub (lv' := [(0, rr E.1 179), (1, .int (x1 + 1))]) [1, 0] rfl ?_
      exact ih _ _ h
theorem lkX8_tallyBores_103 {g : Gm} {l0 : Launch} {E : En} {d n : Nat} {Rf : Nat → Nat → Nat} {ex : Bool} {kq : Nat × Nat} (hn : 239 ≤ n) (hRf : RfOk 1 239 kq Rf) (hg : Ok g l0 E cX8_tallyBores RX8 4 (d + 2) 0 0) {q : Mm} (hr : Ret g E 0 0 none ex n Rf none q) {k39 : Int32 → Mm → Option (Mm)} (hk39 : ∀ (x1 : Int32) (M : Mm), k39 x1 M = some q → WG g E 4 n Rf ex 0 0 39 [(0, rr E.1 179), (1, .int x1)] [] M) : ∀ (x1 : Int32) (M : Mm), sX8_tallyBores_103 k39 x1 M = some q → WG g E 4 n Rf ex 0 0 103 [(0, rr E.1 179), (1, .int x1)] [] M := by
  intro x1 M h
  unfold sX8_tallyBores_103 at h
  refine g_inc (lv' := [(1, .int (x1 + 1)), (0, rr E.1 179)]) hg dX8_tallyBores_103 kI_1 1 rfl (by decide) rfl ?_
  refine g_goto (tgt := 39) hg dX8_tallyBores_106 (by decide) ?_
  refine g_sub (lv' := [(0, rr E.1 179), (1, .int (x1 + 1))]) [1, 0] rfl ?_
  exact hk39 _ _ h
theorem lkX8_tallyBores_39 {g : Gm} {l0 : Launch} {E : En} {d n : Nat} {Rf : Nat → Nat → Nat} {ex : Bool} {kq : Nat × Nat} (hn : 239 ≤ n) (hRf : RfOk 1 239 kq Rf) (hg : Ok g l0 E cX8_tallyBores RX8 4 (d + 2) 0 0) {q : Mm} (hr : Ret g E 0 0 none ex n Rf none q) : ∀ (F : Nat) (x1 : Int32) (M : Mm), sX8_tallyBores_39 F x1 M = some q → WG g E 4 n Rf ex 0 0 39 [(0, rr E.1 179), (1, .int x1)] [] M := by
  intro F
  induction F with
  | zero =>
    intro x1 M h
    cases h
  | succ F ih =>
    intro x1 M h
    rw [sX8_tallyBores_39] at h
    refine g_iload_n hg dX8_tallyBores_39 rfl 1 rfl ?_
    refine g_rload_n hg dX8_tallyBores_40 rfl 0 rfl ?_
    refine g_getR (r := 34) hg fl_X8_24 ly179 rfl (idb rfl rfl hn) (rfc hRf rfl rfl rfl rfl) (by decide) dX8_tallyBores_41 ?_
    refine g_getI hg fl_X8_32 ly34 rfl (idb rfl rfl hn) dX8_tallyBores_44 ?_
    refine g_icmp_ge (tgt := 109) hg dX8_tallyBores_47 (by decide) (fun c => ?_) (fun c => ?_)
    · replace h := itT c h
      refine g_iconst hg dX8_tallyBores_109 kI_0 ?_
      refine g_istore_n (lv' := [(1, .int 0), (0, rr E.1 179)]) hg dX8_tallyBores_110 rfl (by decide) rfl ?_
      refine g_sub (lv' := [(0, rr E.1 179), (1, .int 0)]) [1, 0] rfl ?_
      exact lkX8_tallyBores_111 hn hRf hg hr  4096 _ _ h
    · replace h := itF c h
      refine g_rload_n hg dX8_tallyBores_50 rfl 0 rfl ?_
      refine g_getR (r := 34) hg fl_X8_24 ly179 rfl (idb rfl rfl hn) (rfc hRf rfl rfl rfl rfl) (by decide) dX8_tallyBores_51 ?_
      refine g_getR (r := 35) hg fl_X8_38 ly34 rfl (idb rfl rfl hn) (rfc hRf rfl rfl rfl rfl) (by decide) dX8_tallyBores_54 ?_
      refine g_rload_n hg dX8_tallyBores_57 rfl 0 rfl ?_
      refine g_getR (r := 34) hg fl_X8_24 ly179 rfl (idb rfl rfl hn) (rfc hRf rfl rfl rfl rfl) (by decide) dX8_tallyBores_58 ?_
      refine g_getR (r := 36) hg fl_X8_42 ly34 rfl (idb rfl rfl hn) (rfc hRf rfl rfl rfl rfl) (by decide) dX8_tallyBores_61 ?_
      refine g_iload_n hg dX8_tallyBores_64 rfl 1 rfl ?_
      obtain ⟨c65, h⟩ := ck_some h
      refine g_iald hg ly36 (idb rfl rfl hn) (inb_vp c65) dX8_tallyBores_65 ?_
      obtain ⟨c66, h⟩ := ck_some h
      refine g_aald3 (r := (38 + 2 * (M.1 36 x1.toNatClampNeg).toNatClampNeg)) hg ly35 (idb rfl rfl hn) (inb_vp c66) (nt_rfA (inb_vp c66) hRf) (Nat.lt_of_lt_of_le (by decide) (Nat.le_add_right _ _)) dX8_tallyBores_66 ?_
      refine g_rstore_n (lv' := [(2, rr E.1 (38 + 2 * (M.1 36 x1.toNatClampNeg).toNatClampNeg)), (0, rr E.1 179), (1, .int x1)]) hg dX8_tallyBores_67 rfl (by decide) rfl ?_
      refine g_rload_n hg dX8_tallyBores_68 rfl 1 rfl ?_
      refine g_getR (r := 22) hg fl_X8_20 ly179 rfl (idb rfl rfl hn) (rfc hRf rfl rfl rfl rfl) (by decide) dX8_tallyBores_69 ?_
      refine g_getR (r := 23) hg fl_X8_45 ly22 rfl (idb rfl rfl hn) (rfc hRf rfl rfl rfl rfl) (by decide) dX8_tallyBores_72 ?_
      refine g_iconst hg dX8_tallyBores_75 kI_4 ?_
      obtain ⟨c76, h⟩ := ck_some h
      refine g_aald4 (r := (24 + ((4 : Int32).toNatClampNeg))) hg ly23 (idb rfl rfl hn) (inb_vp c76) (fr23_rf (inb_vp c76) (hRf.mono (by decide) (by decide))) (Nat.lt_of_lt_of_le (by decide) (Nat.le_add_right _ _)) dX8_tallyBores_76 ?_
      refine g_rload_n hg dX8_tallyBores_77 rfl 0 rfl ?_
      refine g_getI hg fl_X8_50 (nt_lay (nt_of (inb_vp c66))) rfl (nt_bd (nt_of (inb_vp c66)) hn) dX8_tallyBores_78 ?_
      obtain ⟨c81, h⟩ := ck_some h
      refine g_iald hg (fr23_lay (inb_vp c76)) (fr23_bd (inb_vp c76) (Nat.le_trans (by decide) hn)) (inb_vp c81) dX8_tallyBores_81 ?_
      refine g_istore_n (lv' := [(3, .int (M.1 (24 + ((4 : Int32).toNatClampNeg)) (M.1 (38 + 2 * (M.1 36 x1.toNatClampNeg).toNatClampNeg) 2).toNatClampNeg)), (2, rr E.1 (38 + 2 * (M.1 36 x1.toNatClampNeg).toNatClampNeg)), (0, rr E.1 179), (1, .int x1)]) hg dX8_tallyBores_82 rfl (by decide) rfl ?_
      refine g_iload_n hg dX8_tallyBores_83 rfl 0 rfl ?_
      refine g_iconst hg dX8_tallyBores_84 kI_m1 ?_
      refine g_icmp_eq (tgt := 103) hg dX8_tallyBores_85 (by decide) (fun c => ?_) (fun c => ?_)
      · replace h := itT c h
        refine g_sub (lv' := [(0, rr E.1 179), (1, .int x1)]) [2, 3] rfl ?_
        exact lkX8_tallyBores_103 hn hRf hg hr ih _ _ h
      · replace h := itF c h
        refine g_rload_n hg dX8_tallyBores_88 rfl 2 rfl ?_
        refine g_getR (r := 180) hg fl_X8_11 ly179 rfl (idb rfl rfl hn) (rfc hRf rfl rfl rfl rfl) (by decide) dX8_tallyBores_89 ?_
        refine g_iload_n hg dX8_tallyBores_92 rfl 0 rfl ?_
        obtain ⟨c93, h⟩ := ck_some h
        refine g_aald4 (r := (181 + (M.1 (24 + ((4 : Int32).toNatClampNeg)) (M.1 (38 + 2 * (M.1 36 x1.toNatClampNeg).toNatClampNeg) 2).toNatClampNeg).toNatClampNeg)) hg ly180 (idb rfl rfl hn) (inb_vp c93) (fr180_rf (inb_vp c93) hRf) (Nat.lt_of_lt_of_le (by decide) (Nat.le_add_right _ _)) dX8_tallyBores_93 ?_
        refine g_rload_n hg dX8_tallyBores_94 rfl 1 rfl ?_
        refine g_getI hg fl_X8_55 (nt_lay (nt_of (inb_vp c66))) rfl (nt_bd (nt_of (inb_vp c66)) hn) dX8_tallyBores_95 ?_
        refine g_dup2 hg dX8_tallyBores_98 rfl rfl ?_
        obtain ⟨c99, h⟩ := ck_some h
        refine g_iald hg (fr180_lay (inb_vp c93)) (fr180_bd (inb_vp c93) hn) (inb_vp c99) dX8_tallyBores_99 ?_
        refine g_iconst hg dX8_tallyBores_100 kI_1 ?_
        refine g_iadd hg dX8_tallyBores_101 ?_
        obtain ⟨c102, h⟩ := ck_some h
        refine g_iast hg (fr180_lay (inb_vp c93)) (fr180_bd (inb_vp c93) hn) (inb_vp c102) dX8_tallyBores_102 ?_
        refine g_sub (lv' := [(0, rr E.1 179), (1, .int x1)]) [2, 3] rfl ?_
        exact lkX8_tallyBores_103 hn hRf hg hr ih _ _ h
theorem lkX8_tallyBores_10 {g : Gm} {l0 : Launch} {E : En} {d n : Nat} {Rf : Nat → Nat → Nat} {ex : Bool} {kq : Nat × Nat} (hn : 239 ≤ n) (hRf : RfOk 1 239 kq Rf) (hg : Ok g l0 E cX8_tallyBores RX8 4 (d + 2) 0 0) {q : Mm} (hr : Ret g E 0 0 none ex n Rf none q) {k2 : Int32 → Mm → Option (Mm)} (hk2 : ∀ (x1 : Int32) (M : Mm), k2 x1 M = some q → WG g E 4 n Rf ex 0 0 2 [(0, rr E.1 179), (1, .int x1)] [] M) : ∀ (F : Nat) (x1 : Int32) (x2 : Int32) (M : Mm), sX8_tallyBores_10 k2 F x1 x2 M = some q → WG g E 4 n Rf ex 0 0 10 [(0, rr E.1 179), (1, .int x1), (2, .int x2)] [] M := by
  intro F
  induction F with
  | zero =>
    intro x1 x2 M h
    cases h
  | succ F ih =>
    intro x1 x2 M h
    rw [sX8_tallyBores_10] at h
    refine g_iload_n hg dX8_tallyBores_10 rfl 2 rfl ?_
    refine g_bipush hg dX8_tallyBores_11 kB_8 ?_
    refine g_icmp_ge (tgt := 31) hg dX8_tallyBores_13 (by decide) (fun c => ?_) (fun c => ?_)
    · replace h := itT c h
      refine g_inc (lv' := [(1, .int (x1 + 1)), (0, rr E.1 179), (2, .int x2)]) hg dX8_tallyBores_31 kI_1 1 rfl (by decide) rfl ?_
      refine g_goto (tgt := 2) hg dX8_tallyBores_34 (by decide) ?_
      refine g_sub (lv' := [(0, rr E.1 179), (1, .int (x1 + 1))]) [1, 0] rfl ?_
      exact hk2 _ _ h
    · replace h := itF c h
      refine g_rload_n hg dX8_tallyBores_16 rfl 0 rfl ?_
      refine g_getR (r := 180) hg fl_X8_11 ly179 rfl (idb rfl rfl hn) (rfc hRf rfl rfl rfl rfl) (by decide) dX8_tallyBores_17 ?_
      refine g_iload_n hg dX8_tallyBores_20 rfl 1 rfl ?_
      obtain ⟨c21, h⟩ := ck_some h
      refine g_aald4 (r := (181 + x1.toNatClampNeg)) hg ly180 (idb rfl rfl hn) (inb_vp c21) (fr180_rf (inb_vp c21) hRf) (Nat.lt_of_lt_of_le (by decide) (Nat.le_add_right _ _)) dX8_tallyBores_21 ?_
      refine g_iload_n hg dX8_tallyBores_22 rfl 2 rfl ?_
      refine g_iconst hg dX8_tallyBores_23 kI_0 ?_
      obtain ⟨c24, h⟩ := ck_some h
      refine g_iast hg (fr180_lay (inb_vp c21)) (fr180_bd (inb_vp c21) hn) (inb_vp c24) dX8_tallyBores_24 ?_
      refine g_inc (lv' := [(2, .int (x2 + 1)), (0, rr E.1 179), (1, .int x1)]) hg dX8_tallyBores_25 kI_1 2 rfl (by decide) rfl ?_
      refine g_goto (tgt := 10) hg dX8_tallyBores_28 (by decide) ?_
      refine g_sub (lv' := [(0, rr E.1 179), (1, .int x1), (2, .int (x2 + 1))]) [1, 2, 0] rfl ?_
      exact ih _ _ _ h
theorem lkX8_tallyBores_2 {g : Gm} {l0 : Launch} {E : En} {d n : Nat} {Rf : Nat → Nat → Nat} {ex : Bool} {kq : Nat × Nat} (hn : 239 ≤ n) (hRf : RfOk 1 239 kq Rf) (hg : Ok g l0 E cX8_tallyBores RX8 4 (d + 2) 0 0) {q : Mm} (hr : Ret g E 0 0 none ex n Rf none q) : ∀ (F : Nat) (x1 : Int32) (M : Mm), sX8_tallyBores_2 F x1 M = some q → WG g E 4 n Rf ex 0 0 2 [(0, rr E.1 179), (1, .int x1)] [] M := by
  intro F
  induction F with
  | zero =>
    intro x1 M h
    cases h
  | succ F ih =>
    intro x1 M h
    rw [sX8_tallyBores_2] at h
    refine g_iload_n hg dX8_tallyBores_2 rfl 1 rfl ?_
    refine g_bipush hg dX8_tallyBores_3 kB_6 ?_
    refine g_icmp_ge (tgt := 37) hg dX8_tallyBores_5 (by decide) (fun c => ?_) (fun c => ?_)
    · replace h := itT c h
      refine g_iconst hg dX8_tallyBores_37 kI_0 ?_
      refine g_istore_n (lv' := [(1, .int 0), (0, rr E.1 179)]) hg dX8_tallyBores_38 rfl (by decide) rfl ?_
      refine g_sub (lv' := [(0, rr E.1 179), (1, .int 0)]) [1, 0] rfl ?_
      exact lkX8_tallyBores_39 hn hRf hg hr  4096 _ _ h
    · replace h := itF c h
      refine g_iconst hg dX8_tallyBores_8 kI_0 ?_
      refine g_istore_n (lv' := [(2, .int 0), (0, rr E.1 179), (1, .int x1)]) hg dX8_tallyBores_9 rfl (by decide) rfl ?_
      refine g_sub (lv' := [(0, rr E.1 179), (1, .int x1), (2, .int 0)]) [1, 2, 0] rfl ?_
      exact lkX8_tallyBores_10 hn hRf hg hr ih 4096 _ _ _ h
theorem lkX8_tallyBores {l0 : Launch} {E : En} {d n : Nat} {Rf : Nat → Nat → Nat} {ex : Bool} {kq : Nat × Nat} (hd : 2 ≤ d) (hn : 239 ≤ n) (hRf : RfOk 1 239 kq Rf)  {M : Mm} {q : Mm} (h : sX8_tallyBores M = some q) : Ct l0 E yX8_tallyBores cX8_tallyBores 4 none d 0 0 [rr E.1 179] ex n Rf M n Rf none q := by
  obtain ⟨d, rfl⟩ := Nat.exists_eq_add_of_le' hd
  refine Ct.of pnX8 (Nat.le_of_ble_eq_true rfl) (fun g hg hr _ => ?_)
  replace hg : Ok g l0 E cX8_tallyBores RX8 4 (d + 2) 0 0 := hg
  show WG g E 4 n Rf ex 0 0 0 [(0, rr E.1 179)] [] M
  unfold sX8_tallyBores at h
  refine g_iconst hg dX8_tallyBores_0 kI_0 ?_
  refine g_istore_n (lv' := [(1, .int 0), (0, rr E.1 179)]) hg dX8_tallyBores_1 rfl (by decide) rfl ?_
  refine g_sub (lv' := [(0, rr E.1 179), (1, .int 0)]) [1, 0] rfl ?_
  exact lkX8_tallyBores_2 hn hRf hg hr  4096 _ _ h
theorem lkX11_turned {l0 : Launch} {E : En} {d n : Nat} {Rf : Nat → Nat → Nat} {ex : Bool} {kq : Nat × Nat} (hd : 3 ≤ d) (hn : 239 ≤ n) (hRf : RfOk 1 239 kq Rf) {x1 : Int32} {x2 : Int32} {M : Mm} {q : Int32 × Mm} (h : sX11_turned x1 x2 M = some q) : Ct l0 E yX11_turned cX11_turned 3 (some .int) d 0 0 [rr E.1 1, .int x1, .int x2] ex n Rf M n Rf (some (.int q.1)) q.2 := by
  obtain ⟨d, rfl⟩ := Nat.exists_eq_add_of_le' hd
  refine Ct.of pnX11 (Nat.le_of_ble_eq_true rfl) (fun g hg hr _ => ?_)
  replace hg : Ok g l0 E cX11_turned RX11 3 (d + 3) 0 0 := hg
  show WG g E 3 n Rf ex 0 0 0 [(0, rr E.1 1), (1, .int x1), (2, .int x2)] [] M
  unfold sX11_turned at h
  refine g_iload_n hg dX11_turned_0 rfl 1 rfl ?_
  refine g_if_lt (tgt := 20) hg dX11_turned_1 (by decide) (fun c => ?_) (fun c => ?_)
  · replace h := itT c h
    refine g_bipush hg dX11_turned_20 kB_m2 ?_
    replace h := Option.some.inj h
    subst h
    exact g_iret hg hr dX11_turned_22
  · replace h := itF c h
    refine g_iload_n hg dX11_turned_4 rfl 1 rfl ?_
    refine g_bipush hg dX11_turned_5 kB_6 ?_
    refine g_icmp_ge (tgt := 20) hg dX11_turned_7 (by decide) (fun c => ?_) (fun c => ?_)
    · replace h := itT c h
      refine g_bipush hg dX11_turned_20 kB_m2 ?_
      replace h := Option.some.inj h
      subst h
      exact g_iret hg hr dX11_turned_22
    · replace h := itF c h
      refine g_iload_n hg dX11_turned_10 rfl 2 rfl ?_
      refine g_if_lt (tgt := 20) hg dX11_turned_11 (by decide) (fun c => ?_) (fun c => ?_)
      · replace h := itT c h
        refine g_bipush hg dX11_turned_20 kB_m2 ?_
        replace h := Option.some.inj h
        subst h
        exact g_iret hg hr dX11_turned_22
      · replace h := itF c h
        refine g_iload_n hg dX11_turned_14 rfl 2 rfl ?_
        refine g_bipush hg dX11_turned_15 kB_8 ?_
        refine g_icmp_le (tgt := 23) hg dX11_turned_17 (by decide) (fun c => ?_) (fun c => ?_)
        · replace h := itT c h
          refine g_rload_n hg dX11_turned_23 rfl 0 rfl ?_
          refine g_getR (r := 34) hg fl_X11_52 ly1 rfl (idb rfl rfl hn) (rfc hRf rfl rfl rfl rfl) (by decide) dX11_turned_24 ?_
          refine g_rload_n hg dX11_turned_27 rfl 0 rfl ?_
          refine g_getR (r := 34) hg fl_X11_52 ly1 rfl (idb rfl rfl hn) (rfc hRf rfl rfl rfl rfl) (by decide) dX11_turned_28 ?_
          refine g_getI hg fl_X11_145 ly34 rfl (idb rfl rfl hn) dX11_turned_31 ?_
          obtain ⟨M34, e34, h⟩ := Option.bind_eq_some_iff.mp h
          refine g_callVv (As := [.int (M.1 34 1)]) (rest := []) hg (lkX1_gather (by omega) hn hRf  e34) cv_X11_250 rfl ly34 (idb rfl rfl hn) rfl rfl (Nat.le_of_ble_eq_true rfl) ⟨Nat.le_refl _, Nat.le_refl _⟩ dX11_turned_34 ?_
          refine g_rload_n hg dX11_turned_37 rfl 0 rfl ?_
          refine g_getR (r := 179) hg fl_X11_88 ly1 rfl (idb rfl rfl hn) (rfc hRf rfl rfl rfl rfl) (by decide) dX11_turned_38 ?_
          obtain ⟨M41, e41, h⟩ := Option.bind_eq_some_iff.mp h
          refine g_callVv (As := []) (rest := []) hg (lkX8_tallyBores (by omega) hn hRf  e41) cv_X11_310 rfl ly179 (idb rfl rfl hn) rfl rfl (Nat.le_of_ble_eq_true rfl) ⟨Nat.le_refl _, Nat.le_refl _⟩ dX11_turned_41 ?_
          refine g_iload_n hg dX11_turned_44 rfl 2 rfl ?_
          refine g_bipush hg dX11_turned_45 kB_8 ?_
          refine g_icmp_ne (tgt := 62) hg dX11_turned_47 (by decide) (fun c => ?_) (fun c => ?_)
          · replace h := itF c h
            refine g_rload_n hg dX11_turned_62 rfl 0 rfl ?_
            refine g_getR (r := 179) hg fl_X11_88 ly1 rfl (idb rfl rfl hn) (rfc hRf rfl rfl rfl rfl) (by decide) dX11_turned_63 ?_
            refine g_getR (r := 180) hg fl_X11_316 ly179 rfl (idb rfl rfl hn) (rfc hRf rfl rfl rfl rfl) (by decide) dX11_turned_66 ?_
            refine g_iload_n hg dX11_turned_69 rfl 1 rfl ?_
            obtain ⟨c70, h⟩ := ck_some h
            refine g_aald4 (r := (181 + x1.toNatClampNeg)) hg ly180 (idb rfl rfl hn) (inb_vp c70) (fr180_rf (inb_vp c70) hRf) (Nat.lt_of_lt_of_le (by decide) (Nat.le_add_right _ _)) dX11_turned_70 ?_
            refine g_iload_n hg dX11_turned_71 rfl 2 rfl ?_
            obtain ⟨c72, h⟩ := ck_some h
            refine g_iald hg (fr180_lay (inb_vp c70)) (fr180_bd (inb_vp c70) hn) (inb_vp c72) dX11_turned_72 ?_
            replace h := Option.some.inj h
            subst h
            exact g_iret hg hr dX11_turned_73
          · replace h := itT c h
            refine g_rload_n hg dX11_turned_50 rfl 0 rfl ?_
            refine g_getR (r := 179) hg fl_X11_88 ly1 rfl (idb rfl rfl hn) (rfc hRf rfl rfl rfl rfl) (by decide) dX11_turned_51 ?_
            refine g_getR (r := 187) hg fl_X11_313 ly179 rfl (idb rfl rfl hn) (rfc hRf rfl rfl rfl rfl) (by decide) dX11_turned_54 ?_
            refine g_iload_n hg dX11_turned_57 rfl 1 rfl ?_
            obtain ⟨c58, h⟩ := ck_some h
            refine g_iald hg ly187 (idb rfl rfl hn) (inb_vp c58) dX11_turned_58 ?_
            refine g_goto (tgt := 73) hg dX11_turned_59 (by decide) ?_
            replace h := Option.some.inj h
            subst h
            exact g_iret hg hr dX11_turned_73
        · replace h := itF c h
          refine g_bipush hg dX11_turned_20 kB_m2 ?_
          replace h := Option.some.inj h
          subst h
          exact g_iret hg hr dX11_turned_22
theorem lkX8_turnedAt {l0 : Launch} {E : En} {d n : Nat} {Rf : Nat → Nat → Nat} {ex : Bool} {kq : Nat × Nat} (hd : 1 ≤ d) (hn : 239 ≤ n) (hRf : RfOk 1 239 kq Rf) {x1 : Int32} {M : Mm} {q : Int32 × Mm} (h : sX8_turnedAt x1 M = some q) : Ct l0 E yX8_turnedAt cX8_turnedAt 3 (some .int) d 0 0 [rr E.1 179, .int x1] ex n Rf M n Rf (some (.int q.1)) q.2 := by
  obtain ⟨d, rfl⟩ := Nat.exists_eq_add_of_le' hd
  refine Ct.of pnX8 (Nat.le_of_ble_eq_true rfl) (fun g hg hr _ => ?_)
  replace hg : Ok g l0 E cX8_turnedAt RX8 3 (d + 1) 0 0 := hg
  show WG g E 3 n Rf ex 0 0 0 [(0, rr E.1 179), (1, .int x1)] [] M
  unfold sX8_turnedAt at h
  refine g_rload_n hg dX8_turnedAt_0 rfl 0 rfl ?_
  refine g_getR (r := 22) hg fl_X8_20 ly179 rfl (idb rfl rfl hn) (rfc hRf rfl rfl rfl rfl) (by decide) dX8_turnedAt_1 ?_
  refine g_getR (r := 23) hg fl_X8_45 ly22 rfl (idb rfl rfl hn) (rfc hRf rfl rfl rfl rfl) (by decide) dX8_turnedAt_4 ?_
  refine g_iconst hg dX8_turnedAt_7 kI_4 ?_
  obtain ⟨c8, h⟩ := ck_some h
  refine g_aald4 (r := (24 + ((4 : Int32).toNatClampNeg))) hg ly23 (idb rfl rfl hn) (inb_vp c8) (fr23_rf (inb_vp c8) (hRf.mono (by decide) (by decide))) (Nat.lt_of_lt_of_le (by decide) (Nat.le_add_right _ _)) dX8_turnedAt_8 ?_
  refine g_iload_n hg dX8_turnedAt_9 rfl 1 rfl ?_
  obtain ⟨c10, h⟩ := ck_some h
  refine g_iald hg (fr23_lay (inb_vp c8)) (fr23_bd (inb_vp c8) (Nat.le_trans (by decide) hn)) (inb_vp c10) dX8_turnedAt_10 ?_
  refine g_istore_n (lv' := [(2, .int (M.1 (24 + ((4 : Int32).toNatClampNeg)) x1.toNatClampNeg)), (0, rr E.1 179), (1, .int x1)]) hg dX8_turnedAt_11 rfl (by decide) rfl ?_
  refine g_iload_n hg dX8_turnedAt_12 rfl 0 rfl ?_
  refine g_iconst hg dX8_turnedAt_13 kI_m1 ?_
  refine g_icmp_ne (tgt := 21) hg dX8_turnedAt_14 (by decide) (fun c => ?_) (fun c => ?_)
  · replace h := itF c h
    refine g_rload_n hg dX8_turnedAt_21 rfl 1 rfl ?_
    refine g_getR (r := 187) hg fl_X8_16 ly179 rfl (idb rfl rfl hn) (rfc hRf rfl rfl rfl rfl) (by decide) dX8_turnedAt_22 ?_
    refine g_iload_n hg dX8_turnedAt_25 rfl 0 rfl ?_
    obtain ⟨c26, h⟩ := ck_some h
    refine g_iald hg ly187 (idb rfl rfl hn) (inb_vp c26) dX8_turnedAt_26 ?_
    replace h := Option.some.inj h
    subst h
    exact g_iret hg hr dX8_turnedAt_27
  · replace h := itT c h
    refine g_iconst hg dX8_turnedAt_17 kI_m1 ?_
    refine g_goto (tgt := 27) hg dX8_turnedAt_18 (by decide) ?_
    replace h := Option.some.inj h
    subst h
    exact g_iret hg hr dX8_turnedAt_27
theorem lkX8_bestAt {l0 : Launch} {E : En} {d n : Nat} {Rf : Nat → Nat → Nat} {ex : Bool} {kq : Nat × Nat} (hd : 5 ≤ d) (hn : 239 ≤ n) (hRf : RfOk 1 239 kq Rf) {x1 : Int32} {M : Mm} {q : Int32 × Mm} (h : sX8_bestAt x1 M = some q) : Ct l0 E yX8_bestAt cX8_bestAt 2 (some .int) d 0 0 [rr E.1 179, .int x1] ex n Rf M n Rf (some (.int q.1)) q.2 := by
  obtain ⟨d, rfl⟩ := Nat.exists_eq_add_of_le' hd
  refine Ct.of pnX8 (Nat.le_of_ble_eq_true rfl) (fun g hg hr _ => ?_)
  replace hg : Ok g l0 E cX8_bestAt RX8 2 (d + 5) 0 0 := hg
  show WG g E 2 n Rf ex 0 0 0 [(0, rr E.1 179), (1, .int x1)] [] M
  unfold sX8_bestAt at h
  refine g_rload_n hg dX8_bestAt_0 rfl 0 rfl ?_
  refine g_getR (r := 158) hg fl_X8_28 ly179 rfl (idb rfl rfl hn) (rfc hRf rfl rfl rfl rfl) (by decide) dX8_bestAt_1 ?_
  refine g_iload_n hg dX8_bestAt_4 rfl 1 rfl ?_
  refine g_iconst hg dX8_bestAt_5 kI_m1 ?_
  obtain ⟨M6, e6, h⟩ := Option.bind_eq_some_iff.mp h
  refine g_callVv (As := [.int x1, .int (-1)]) (rest := []) hg (lkX2_weigh (by omega) hn hRf  e6) cv_X8_77 rfl ly158 (idb rfl rfl hn) rfl rfl (Nat.le_of_ble_eq_true rfl) ⟨Nat.le_refl _, Nat.le_refl _⟩ dX8_bestAt_6 ?_
  refine g_rload_n hg dX8_bestAt_9 rfl 0 rfl ?_
  refine g_getR (r := 158) hg fl_X8_28 ly179 rfl (idb rfl rfl hn) (rfc hRf rfl rfl rfl rfl) (by decide) dX8_bestAt_10 ?_
  refine g_getI hg fl_X8_83 ly158 rfl (idb rfl rfl hn) dX8_bestAt_13 ?_
  replace h := Option.some.inj h
  subst h
  exact g_iret hg hr dX8_bestAt_16
theorem lkX8_countAgreeing_38 {g : Gm} {l0 : Launch} {E : En} {d n : Nat} {Rf : Nat → Nat → Nat} {ex : Bool} {kq : Nat × Nat} (hn : 239 ≤ n) (hRf : RfOk 1 239 kq Rf) (hg : Ok g l0 E cX8_countAgreeing RX8 4 (d + 6) 0 0) {q : Int32 × Mm} (hr : Ret g E 0 0 (some .int) ex n Rf (some (.int q.1)) q.2) {k4 : Int32 → Int32 → Mm → Option (Int32 × Mm)} (hk4 : ∀ (x1 : Int32) (x2 : Int32) (M : Mm), k4 x1 x2 M = some q → WG g E 4 n Rf ex 0 0 4 [(0, rr E.1 179), (1, .int x1), (2, .int x2)] [] M) : ∀ (x1 : Int32) (x2 : Int32) (M : Mm), sX8_countAgreeing_38 k4 x1 x2 M = some q → WG g E 4 n Rf ex 0 0 38 [(0, rr E.1 179), (1, .int x1), (2, .int x2)] [] M := by
  intro x1 x2 M h
  unfold sX8_countAgreeing_38 at h
  refine g_inc (lv' := [(2, .int (x2 + 1)), (0, rr E.1 179), (1, .int x1)]) hg dX8_countAgreeing_38 kI_1 2 rfl (by decide) rfl ?_
  refine g_goto (tgt := 4) hg dX8_countAgreeing_41 (by decide) ?_
  refine g_sub (lv' := [(0, rr E.1 179), (1, .int x1), (2, .int (x2 + 1))]) [1, 2, 0] rfl ?_
  exact hk4 _ _ _ h
theorem lkX8_countAgreeing_4 {g : Gm} {l0 : Launch} {E : En} {d n : Nat} {Rf : Nat → Nat → Nat} {ex : Bool} {kq : Nat × Nat} (hn : 239 ≤ n) (hRf : RfOk 1 239 kq Rf) (hg : Ok g l0 E cX8_countAgreeing RX8 4 (d + 6) 0 0) {q : Int32 × Mm} (hr : Ret g E 0 0 (some .int) ex n Rf (some (.int q.1)) q.2) : ∀ (F : Nat) (x1 : Int32) (x2 : Int32) (M : Mm), sX8_countAgreeing_4 F x1 x2 M = some q → WG g E 4 n Rf ex 0 0 4 [(0, rr E.1 179), (1, .int x1), (2, .int x2)] [] M := by
  intro F
  induction F with
  | zero =>
    intro x1 x2 M h
    cases h
  | succ F ih =>
    intro x1 x2 M h
    rw [sX8_countAgreeing_4] at h
    refine g_iload_n hg dX8_countAgreeing_4 rfl 2 rfl ?_
    refine g_rload_n hg dX8_countAgreeing_5 rfl 0 rfl ?_
    refine g_getR (r := 22) hg fl_X8_20 ly179 rfl (idb rfl rfl hn) (rfc hRf rfl rfl rfl rfl) (by decide) dX8_countAgreeing_6 ?_
    refine g_getI hg fl_X8_62 ly22 rfl (idb rfl rfl hn) dX8_countAgreeing_9 ?_
    refine g_icmp_ge (tgt := 44) hg dX8_countAgreeing_12 (by decide) (fun c => ?_) (fun c => ?_)
    · replace h := itT c h
      refine g_iload_n hg dX8_countAgreeing_44 rfl 1 rfl ?_
      replace h := Option.some.inj h
      subst h
      exact g_iret hg hr dX8_countAgreeing_45
    · replace h := itF c h
      refine g_rload_n hg dX8_countAgreeing_15 rfl 0 rfl ?_
      refine g_iload_n hg dX8_countAgreeing_16 rfl 2 rfl ?_
      obtain ⟨q17, e17, h⟩ := Option.bind_eq_some_iff.mp h
      refine g_callVi (As := [.int x2]) (rest := []) hg (lkX8_turnedAt (by omega) hn hRf  e17) cv_X8_65 rfl ly179 (idb rfl rfl hn) rfl rfl (Nat.le_of_ble_eq_true rfl) ⟨Nat.le_refl _, Nat.le_refl _⟩ dX8_countAgreeing_17 ?_
      refine g_istore_n (lv' := [(3, .int q17.1), (0, rr E.1 179), (1, .int x1), (2, .int x2)]) hg dX8_countAgreeing_20 rfl (by decide) rfl ?_
      refine g_iload_n hg dX8_countAgreeing_21 rfl 0 rfl ?_
      refine g_iconst hg dX8_countAgreeing_22 kI_m1 ?_
      refine g_icmp_eq (tgt := 38) hg dX8_countAgreeing_23 (by decide) (fun c => ?_) (fun c => ?_)
      · replace h := itT c h
        refine g_sub (lv' := [(0, rr E.1 179), (1, .int x1), (2, .int x2)]) [1, 2, 3] rfl ?_
        exact lkX8_countAgreeing_38 hn hRf hg hr ih _ _ _ h
      · replace h := itF c h
        refine g_iload_n hg dX8_countAgreeing_26 rfl 0 rfl ?_
        refine g_rload_n hg dX8_countAgreeing_27 rfl 1 rfl ?_
        refine g_iload_n hg dX8_countAgreeing_28 rfl 3 rfl ?_
        obtain ⟨q29, e29, h⟩ := Option.bind_eq_some_iff.mp h
        refine g_callVi (As := [.int x2]) (rest := [.int q17.1]) hg (lkX8_bestAt (by omega) hn hRf  e29) cv_X8_68 rfl ly179 (idb rfl rfl hn) rfl rfl (Nat.le_of_ble_eq_true rfl) ⟨Nat.le_refl _, Nat.le_refl _⟩ dX8_countAgreeing_29 ?_
        refine g_icmp_ne (tgt := 38) hg dX8_countAgreeing_32 (by decide) (fun c => ?_) (fun c => ?_)
        · rw [if_neg c] at h
          refine g_sub (lv' := [(0, rr E.1 179), (1, .int x1), (2, .int x2)]) [1, 2, 3] rfl ?_
          exact lkX8_countAgreeing_38 hn hRf hg hr ih _ _ _ h
        · rw [if_pos c] at h
          refine g_inc (lv' := [(1, .int (x1 + 1)), (3, .int q17.1), (0, rr E.1 179), (2, .int x2)]) hg dX8_countAgreeing_35 kI_1 2 rfl (by decide) rfl ?_
          refine g_sub (lv' := [(0, rr E.1 179), (1, .int (x1 + 1)), (2, .int x2)]) [2, 0, 3] rfl ?_
          exact lkX8_countAgreeing_38 hn hRf hg hr ih _ _ _ h
theorem lkX8_countAgreeing {l0 : Launch} {E : En} {d n : Nat} {Rf : Nat → Nat → Nat} {ex : Bool} {kq : Nat × Nat} (hd : 6 ≤ d) (hn : 239 ≤ n) (hRf : RfOk 1 239 kq Rf)  {M : Mm} {q : Int32 × Mm} (h : sX8_countAgreeing M = some q) : Ct l0 E yX8_countAgreeing cX8_countAgreeing 4 (some .int) d 0 0 [rr E.1 179] ex n Rf M n Rf (some (.int q.1)) q.2 := by
  obtain ⟨d, rfl⟩ := Nat.exists_eq_add_of_le' hd
  refine Ct.of pnX8 (Nat.le_of_ble_eq_true rfl) (fun g hg hr _ => ?_)
  replace hg : Ok g l0 E cX8_countAgreeing RX8 4 (d + 6) 0 0 := hg
  show WG g E 4 n Rf ex 0 0 0 [(0, rr E.1 179)] [] M
  unfold sX8_countAgreeing at h
  refine g_iconst hg dX8_countAgreeing_0 kI_0 ?_
  refine g_istore_n (lv' := [(1, .int 0), (0, rr E.1 179)]) hg dX8_countAgreeing_1 rfl (by decide) rfl ?_
  refine g_iconst hg dX8_countAgreeing_2 kI_0 ?_
  refine g_istore_n (lv' := [(2, .int 0), (1, .int 0), (0, rr E.1 179)]) hg dX8_countAgreeing_3 rfl (by decide) rfl ?_
  refine g_sub (lv' := [(0, rr E.1 179), (1, .int 0), (2, .int 0)]) [2, 1, 0] rfl ?_
  exact lkX8_countAgreeing_4 hn hRf hg hr  4096 _ _ _ h
theorem lkX8_seamOfOld_73 {g : Gm} {l0 : Launch} {E : En} {d n : Nat} {Rf : Nat → Nat → Nat} {ex : Bool} {kq : Nat × Nat} (hn : 239 ≤ n) (hRf : RfOk 1 239 kq Rf) (hg : Ok g l0 E cX8_seamOfOld RX8 6 (d + 2) 0 0) {q : Int32 × Mm} (hr : Ret g E 0 0 (some .int) ex n Rf (some (.int q.1)) q.2) {k4 : Int32 → Int32 → Int32 → Mm → Option (Int32 × Mm)} (hk4 : ∀ (x1 : Int32) (x2 : Int32) (x3 : Int32) (M : Mm), k4 x1 x2 x3 M = some q → WG g E 6 n Rf ex 0 0 4 [(0, rr E.1 179), (1, .int x1), (2, .int x2), (3, .int x3)] [] M) : ∀ (x1 : Int32) (x2 : Int32) (x3 : Int32) (M : Mm), sX8_seamOfOld_73 k4 x1 x2 x3 M = some q → WG g E 6 n Rf ex 0 0 73 [(0, rr E.1 179), (1, .int x1), (2, .int x2), (3, .int x3)] [] M := by
  intro x1 x2 x3 M h
  unfold sX8_seamOfOld_73 at h
  refine g_inc (lv' := [(3, .int (x3 + 1)), (0, rr E.1 179), (1, .int x1), (2, .int x2)]) hg dX8_seamOfOld_73 kI_1 3 rfl (by decide) rfl ?_
  refine g_goto (tgt := 4) hg dX8_seamOfOld_76 (by decide) ?_
  refine g_sub (lv' := [(0, rr E.1 179), (1, .int x1), (2, .int x2), (3, .int (x3 + 1))]) [1, 2, 3, 0] rfl ?_
  exact hk4 _ _ _ _ h
theorem lkX8_seamOfOld_4 {g : Gm} {l0 : Launch} {E : En} {d n : Nat} {Rf : Nat → Nat → Nat} {ex : Bool} {kq : Nat × Nat} (hn : 239 ≤ n) (hRf : RfOk 1 239 kq Rf) (hg : Ok g l0 E cX8_seamOfOld RX8 6 (d + 2) 0 0) {q : Int32 × Mm} (hr : Ret g E 0 0 (some .int) ex n Rf (some (.int q.1)) q.2) : ∀ (F : Nat) (x1 : Int32) (x2 : Int32) (x3 : Int32) (M : Mm), sX8_seamOfOld_4 F x1 x2 x3 M = some q → WG g E 6 n Rf ex 0 0 4 [(0, rr E.1 179), (1, .int x1), (2, .int x2), (3, .int x3)] [] M := by
  intro F
  induction F with
  | zero =>
    intro x1 x2 x3 M h
    cases h
  | succ F ih =>
    intro x1 x2 x3 M h
    rw [sX8_seamOfOld_4] at h
    refine g_iload_n hg dX8_seamOfOld_4 rfl 3 rfl ?_
    refine g_rload_n hg dX8_seamOfOld_5 rfl 0 rfl ?_
    refine g_getR (r := 22) hg fl_X8_20 ly179 rfl (idb rfl rfl hn) (rfc hRf rfl rfl rfl rfl) (by decide) dX8_seamOfOld_6 ?_
    refine g_getI hg fl_X8_71 ly22 rfl (idb rfl rfl hn) dX8_seamOfOld_9 ?_
    refine g_icmp_ge (tgt := 79) hg dX8_seamOfOld_12 (by decide) (fun c => ?_) (fun c => ?_)
    · replace h := itT c h
      refine g_iload_n hg dX8_seamOfOld_79 rfl 2 rfl ?_
      replace h := Option.some.inj h
      subst h
      exact g_iret hg hr dX8_seamOfOld_80
    · replace h := itF c h
      refine g_rload_n hg dX8_seamOfOld_15 rfl 0 rfl ?_
      refine g_iload_n hg dX8_seamOfOld_16 rfl 3 rfl ?_
      refine g_rload_n hg dX8_seamOfOld_17 rfl 0 rfl ?_
      refine g_getR (r := 22) hg fl_X8_20 ly179 rfl (idb rfl rfl hn) (rfc hRf rfl rfl rfl rfl) (by decide) dX8_seamOfOld_18 ?_
      refine g_getI hg fl_X8_74 ly22 rfl (idb rfl rfl hn) dX8_seamOfOld_21 ?_
      refine g_imul hg dX8_seamOfOld_24 ?_
      refine g_iload_n hg dX8_seamOfOld_25 rfl 1 rfl ?_
      refine g_iadd hg dX8_seamOfOld_26 ?_
      obtain ⟨q27, e27, h⟩ := Option.bind_eq_some_iff.mp h
      refine g_callVi (As := [.int ((x3 * (M.1 22 0)) + x1)]) (rest := []) hg (lkX8_turnedAt (by omega) hn hRf  e27) cv_X8_65 rfl ly179 (idb rfl rfl hn) rfl rfl (Nat.le_of_ble_eq_true rfl) ⟨Nat.le_refl _, Nat.le_refl _⟩ dX8_seamOfOld_27 ?_
      refine g_istore (lv' := [(4, .int q27.1), (0, rr E.1 179), (1, .int x1), (2, .int x2), (3, .int x3)]) hg dX8_seamOfOld_30 (by decide) rfl ?_
      refine g_rload_n hg dX8_seamOfOld_32 rfl 1 rfl ?_
      refine g_iload_n hg dX8_seamOfOld_33 rfl 4 rfl ?_
      refine g_rload_n hg dX8_seamOfOld_34 rfl 1 rfl ?_
      refine g_getR (r := 22) hg fl_X8_20 ly179 rfl (idb rfl rfl hn) (rfc hRf rfl rfl rfl rfl) (by decide) dX8_seamOfOld_35 ?_
      refine g_getI hg fl_X8_74 ly22 rfl (idb rfl rfl hn) dX8_seamOfOld_38 ?_
      refine g_imul hg dX8_seamOfOld_41 ?_
      refine g_iload_n hg dX8_seamOfOld_42 rfl 2 rfl ?_
      refine g_iadd hg dX8_seamOfOld_43 ?_
      refine g_iconst hg dX8_seamOfOld_44 kI_1 ?_
      refine g_iadd hg dX8_seamOfOld_45 ?_
      obtain ⟨q46, e46, h⟩ := Option.bind_eq_some_iff.mp h
      refine g_callVi (As := [.int (((x3 * (q27.2.1 22 0)) + x1) + 1)]) (rest := []) hg (lkX8_turnedAt (by omega) hn hRf  e46) cv_X8_65 rfl ly179 (idb rfl rfl hn) rfl rfl (Nat.le_of_ble_eq_true rfl) ⟨Nat.le_refl _, Nat.le_refl _⟩ dX8_seamOfOld_46 ?_
      refine g_istore (lv' := [(5, .int q46.1), (4, .int q27.1), (0, rr E.1 179), (1, .int x1), (2, .int x2), (3, .int x3)]) hg dX8_seamOfOld_49 (by decide) rfl ?_
      refine g_iload hg dX8_seamOfOld_51 1 rfl ?_
      refine g_iconst hg dX8_seamOfOld_53 kI_m1 ?_
      refine g_icmp_eq (tgt := 73) hg dX8_seamOfOld_54 (by decide) (fun c => ?_) (fun c => ?_)
      · rw [if_pos c] at h
        refine g_sub (lv' := [(0, rr E.1 179), (1, .int x1), (2, .int x2), (3, .int x3)]) [2, 3, 4, 5] rfl ?_
        exact lkX8_seamOfOld_73 hn hRf hg hr ih _ _ _ _ h
      · rw [if_neg c] at h
        refine g_iload hg dX8_seamOfOld_57 0 rfl ?_
        refine g_iconst hg dX8_seamOfOld_59 kI_m1 ?_
        refine g_icmp_eq (tgt := 73) hg dX8_seamOfOld_60 (by decide) (fun c => ?_) (fun c => ?_)
        · rw [if_pos c] at h
          refine g_sub (lv' := [(0, rr E.1 179), (1, .int x1), (2, .int x2), (3, .int x3)]) [2, 3, 4, 5] rfl ?_
          exact lkX8_seamOfOld_73 hn hRf hg hr ih _ _ _ _ h
        · rw [if_neg c] at h
          refine g_iload hg dX8_seamOfOld_63 1 rfl ?_
          refine g_iload hg dX8_seamOfOld_65 0 rfl ?_
          refine g_icmp_eq (tgt := 73) hg dX8_seamOfOld_67 (by decide) (fun c => ?_) (fun c => ?_)
          · rw [if_pos c] at h
            refine g_sub (lv' := [(0, rr E.1 179), (1, .int x1), (2, .int x2), (3, .int x3)]) [2, 3, 4, 5] rfl ?_
            exact lkX8_seamOfOld_73 hn hRf hg hr ih _ _ _ _ h
          · rw [if_neg c] at h
            refine g_inc (lv' := [(2, .int (x2 + 1)), (5, .int q46.1), (4, .int q27.1), (0, rr E.1 179), (1, .int x1), (3, .int x3)]) hg dX8_seamOfOld_70 kI_1 4 rfl (by decide) rfl ?_
            refine g_sub (lv' := [(0, rr E.1 179), (1, .int x1), (2, .int (x2 + 1)), (3, .int x3)]) [3, 4, 0, 5] rfl ?_
            exact lkX8_seamOfOld_73 hn hRf hg hr ih _ _ _ _ h
theorem lkX8_seamOfOld {l0 : Launch} {E : En} {d n : Nat} {Rf : Nat → Nat → Nat} {ex : Bool} {kq : Nat × Nat} (hd : 2 ≤ d) (hn : 239 ≤ n) (hRf : RfOk 1 239 kq Rf) {x1 : Int32} {M : Mm} {q : Int32 × Mm} (h : sX8_seamOfOld x1 M = some q) : Ct l0 E yX8_seamOfOld cX8_seamOfOld 6 (some .int) d 0 0 [rr E.1 179, .int x1] ex n Rf M n Rf (some (.int q.1)) q.2 := by
  obtain ⟨d, rfl⟩ := Nat.exists_eq_add_of_le' hd
  refine Ct.of pnX8 (Nat.le_of_ble_eq_true rfl) (fun g hg hr _ => ?_)
  replace hg : Ok g l0 E cX8_seamOfOld RX8 6 (d + 2) 0 0 := hg
  show WG g E 6 n Rf ex 0 0 0 [(0, rr E.1 179), (1, .int x1)] [] M
  unfold sX8_seamOfOld at h
  refine g_iconst hg dX8_seamOfOld_0 kI_0 ?_
  refine g_istore_n (lv' := [(2, .int 0), (0, rr E.1 179), (1, .int x1)]) hg dX8_seamOfOld_1 rfl (by decide) rfl ?_
  refine g_iconst hg dX8_seamOfOld_2 kI_0 ?_
  refine g_istore_n (lv' := [(3, .int 0), (2, .int 0), (0, rr E.1 179), (1, .int x1)]) hg dX8_seamOfOld_3 rfl (by decide) rfl ?_
  refine g_sub (lv' := [(0, rr E.1 179), (1, .int x1), (2, .int 0), (3, .int 0)]) [2, 3, 1, 0] rfl ?_
  exact lkX8_seamOfOld_4 hn hRf hg hr  4096 _ _ _ _ h
theorem lkX8_seamOfBest_53 {g : Gm} {l0 : Launch} {E : En} {d n : Nat} {Rf : Nat → Nat → Nat} {ex : Bool} {kq : Nat × Nat} (hn : 239 ≤ n) (hRf : RfOk 1 239 kq Rf) (hg : Ok g l0 E cX8_seamOfBest RX8 4 (d + 6) 0 0) {q : Int32 × Mm} (hr : Ret g E 0 0 (some .int) ex n Rf (some (.int q.1)) q.2) {k4 : Int32 → Int32 → Int32 → Mm → Option (Int32 × Mm)} (hk4 : ∀ (x1 : Int32) (x2 : Int32) (x3 : Int32) (M : Mm), k4 x1 x2 x3 M = some q → WG g E 4 n Rf ex 0 0 4 [(0, rr E.1 179), (1, .int x1), (2, .int x2), (3, .int x3)] [] M) : ∀ (x1 : Int32) (x2 : Int32) (x3 : Int32) (M : Mm), sX8_seamOfBest_53 k4 x1 x2 x3 M = some q → WG g E 4 n Rf ex 0 0 53 [(0, rr E.1 179), (1, .int x1), (2, .int x2), (3, .int x3)] [] M := by
  intro x1 x2 x3 M h
  unfold sX8_seamOfBest_53 at h
  refine g_inc (lv' := [(3, .int (x3 + 1)), (0, rr E.1 179), (1, .int x1), (2, .int x2)]) hg dX8_seamOfBest_53 kI_1 3 rfl (by decide) rfl ?_
  refine g_goto (tgt := 4) hg dX8_seamOfBest_56 (by decide) ?_
  refine g_sub (lv' := [(0, rr E.1 179), (1, .int x1), (2, .int x2), (3, .int (x3 + 1))]) [1, 2, 3, 0] rfl ?_
  exact hk4 _ _ _ _ h
theorem lkX8_seamOfBest_4 {g : Gm} {l0 : Launch} {E : En} {d n : Nat} {Rf : Nat → Nat → Nat} {ex : Bool} {kq : Nat × Nat} (hn : 239 ≤ n) (hRf : RfOk 1 239 kq Rf) (hg : Ok g l0 E cX8_seamOfBest RX8 4 (d + 6) 0 0) {q : Int32 × Mm} (hr : Ret g E 0 0 (some .int) ex n Rf (some (.int q.1)) q.2) : ∀ (F : Nat) (x1 : Int32) (x2 : Int32) (x3 : Int32) (M : Mm), sX8_seamOfBest_4 F x1 x2 x3 M = some q → WG g E 4 n Rf ex 0 0 4 [(0, rr E.1 179), (1, .int x1), (2, .int x2), (3, .int x3)] [] M := by
  intro F
  induction F with
  | zero =>
    intro x1 x2 x3 M h
    cases h
  | succ F ih =>
    intro x1 x2 x3 M h
    rw [sX8_seamOfBest_4] at h
    refine g_iload_n hg dX8_seamOfBest_4 rfl 3 rfl ?_
    refine g_rload_n hg dX8_seamOfBest_5 rfl 0 rfl ?_
    refine g_getR (r := 22) hg fl_X8_20 ly179 rfl (idb rfl rfl hn) (rfc hRf rfl rfl rfl rfl) (by decide) dX8_seamOfBest_6 ?_
    refine g_getI hg fl_X8_71 ly22 rfl (idb rfl rfl hn) dX8_seamOfBest_9 ?_
    refine g_icmp_ge (tgt := 59) hg dX8_seamOfBest_12 (by decide) (fun c => ?_) (fun c => ?_)
    · replace h := itT c h
      refine g_iload_n hg dX8_seamOfBest_59 rfl 2 rfl ?_
      replace h := Option.some.inj h
      subst h
      exact g_iret hg hr dX8_seamOfBest_60
    · replace h := itF c h
      refine g_rload_n hg dX8_seamOfBest_15 rfl 0 rfl ?_
      refine g_iload_n hg dX8_seamOfBest_16 rfl 3 rfl ?_
      refine g_rload_n hg dX8_seamOfBest_17 rfl 0 rfl ?_
      refine g_getR (r := 22) hg fl_X8_20 ly179 rfl (idb rfl rfl hn) (rfc hRf rfl rfl rfl rfl) (by decide) dX8_seamOfBest_18 ?_
      refine g_getI hg fl_X8_74 ly22 rfl (idb rfl rfl hn) dX8_seamOfBest_21 ?_
      refine g_imul hg dX8_seamOfBest_24 ?_
      refine g_iload_n hg dX8_seamOfBest_25 rfl 1 rfl ?_
      refine g_iadd hg dX8_seamOfBest_26 ?_
      obtain ⟨q27, e27, h⟩ := Option.bind_eq_some_iff.mp h
      refine g_callVi (As := [.int ((x3 * (M.1 22 0)) + x1)]) (rest := []) hg (lkX8_bestAt (by omega) hn hRf  e27) cv_X8_68 rfl ly179 (idb rfl rfl hn) rfl rfl (Nat.le_of_ble_eq_true rfl) ⟨Nat.le_refl _, Nat.le_refl _⟩ dX8_seamOfBest_27 ?_
      refine g_rload_n hg dX8_seamOfBest_30 rfl 0 rfl ?_
      refine g_iload_n hg dX8_seamOfBest_31 rfl 3 rfl ?_
      refine g_rload_n hg dX8_seamOfBest_32 rfl 0 rfl ?_
      refine g_getR (r := 22) hg fl_X8_20 ly179 rfl (idb rfl rfl hn) (rfc hRf rfl rfl rfl rfl) (by decide) dX8_seamOfBest_33 ?_
      refine g_getI hg fl_X8_74 ly22 rfl (idb rfl rfl hn) dX8_seamOfBest_36 ?_
      refine g_imul hg dX8_seamOfBest_39 ?_
      refine g_iload_n hg dX8_seamOfBest_40 rfl 1 rfl ?_
      refine g_iadd hg dX8_seamOfBest_41 ?_
      refine g_iconst hg dX8_seamOfBest_42 kI_1 ?_
      refine g_iadd hg dX8_seamOfBest_43 ?_
      obtain ⟨q44, e44, h⟩ := Option.bind_eq_some_iff.mp h
      refine g_callVi (As := [.int (((x3 * (q27.2.1 22 0)) + x1) + 1)]) (rest := [.int q27.1]) hg (lkX8_bestAt (by omega) hn hRf  e44) cv_X8_68 rfl ly179 (idb rfl rfl hn) rfl rfl (Nat.le_of_ble_eq_true rfl) ⟨Nat.le_refl _, Nat.le_refl _⟩ dX8_seamOfBest_44 ?_
      refine g_icmp_eq (tgt := 53) hg dX8_seamOfBest_47 (by decide) (fun c => ?_) (fun c => ?_)
      · rw [if_pos c] at h
        exact lkX8_seamOfBest_53 hn hRf hg hr ih _ _ _ _ h
      · rw [if_neg c] at h
        refine g_inc (lv' := [(2, .int (x2 + 1)), (0, rr E.1 179), (1, .int x1), (3, .int x3)]) hg dX8_seamOfBest_50 kI_1 2 rfl (by decide) rfl ?_
        refine g_sub (lv' := [(0, rr E.1 179), (1, .int x1), (2, .int (x2 + 1)), (3, .int x3)]) [1, 2, 0, 3] rfl ?_
        exact lkX8_seamOfBest_53 hn hRf hg hr ih _ _ _ _ h
theorem lkX8_seamOfBest {l0 : Launch} {E : En} {d n : Nat} {Rf : Nat → Nat → Nat} {ex : Bool} {kq : Nat × Nat} (hd : 6 ≤ d) (hn : 239 ≤ n) (hRf : RfOk 1 239 kq Rf) {x1 : Int32} {M : Mm} {q : Int32 × Mm} (h : sX8_seamOfBest x1 M = some q) : Ct l0 E yX8_seamOfBest cX8_seamOfBest 4 (some .int) d 0 0 [rr E.1 179, .int x1] ex n Rf M n Rf (some (.int q.1)) q.2 := by
  obtain ⟨d, rfl⟩ := Nat.exists_eq_add_of_le' hd
  refine Ct.of pnX8 (Nat.le_of_ble_eq_true rfl) (fun g hg hr _ => ?_)
  replace hg : Ok g l0 E cX8_seamOfBest RX8 4 (d + 6) 0 0 := hg
  show WG g E 4 n Rf ex 0 0 0 [(0, rr E.1 179), (1, .int x1)] [] M
  unfold sX8_seamOfBest at h
  refine g_iconst hg dX8_seamOfBest_0 kI_0 ?_
  refine g_istore_n (lv' := [(2, .int 0), (0, rr E.1 179), (1, .int x1)]) hg dX8_seamOfBest_1 rfl (by decide) rfl ?_
  refine g_iconst hg dX8_seamOfBest_2 kI_0 ?_
  refine g_istore_n (lv' := [(3, .int 0), (2, .int 0), (0, rr E.1 179), (1, .int x1)]) hg dX8_seamOfBest_3 rfl (by decide) rfl ?_
  refine g_sub (lv' := [(0, rr E.1 179), (1, .int x1), (2, .int 0), (3, .int 0)]) [2, 3, 1, 0] rfl ?_
  exact lkX8_seamOfBest_4 hn hRf hg hr  4096 _ _ _ _ h
theorem lkX11_maps_32 {g : Gm} {l0 : Launch} {E : En} {d n : Nat} {Rf : Nat → Nat → Nat} {ex : Bool} {kq : Nat × Nat} (hn : 239 ≤ n) (hRf : RfOk 1 239 kq Rf) (hkq : isKq kq) (hg : Ok g l0 E cX11_maps RX11 3 (d + 7) 0 0) {q : Int32 × Mm} (hr : Ret g E 0 0 (some .int) ex n Rf (some (.int q.1)) q.2) : ∀ (x1 : Int32) (x2 : Int32) (M : Mm), sX11_maps_32 kq x1 x2 M = some q → WG g E 3 n Rf ex 0 0 32 [(0, rr E.1 1), (1, .int x1), (2, .int x2)] [] M := by
  intro x1 x2 M h
  unfold sX11_maps_32 at h
  refine g_rload_n hg dX11_maps_32 rfl 0 rfl ?_
  refine g_getR (r := kq.1) hg fl_X11_34 ly1 rfl (idb rfl rfl hn) (rfc hRf rfl rfl rfl rfl) (ky_pos hkq.1) dX11_maps_33 ?_
  refine g_getI hg fl_X11_125 (ky_lay hkq.1) rfl (ky_bd hkq.1 hn) dX11_maps_36 ?_
  refine g_if_ne (tgt := 44) hg dX11_maps_39 (by decide) (fun c => ?_) (fun c => ?_)
  · replace h := itF c h
    refine g_rload_n hg dX11_maps_44 rfl 0 rfl ?_
    refine g_getR (r := 34) hg fl_X11_52 ly1 rfl (idb rfl rfl hn) (rfc hRf rfl rfl rfl rfl) (by decide) dX11_maps_45 ?_
    refine g_rload_n hg dX11_maps_48 rfl 0 rfl ?_
    refine g_getR (r := 34) hg fl_X11_52 ly1 rfl (idb rfl rfl hn) (rfc hRf rfl rfl rfl rfl) (by decide) dX11_maps_49 ?_
    refine g_getI hg fl_X11_145 ly34 rfl (idb rfl rfl hn) dX11_maps_52 ?_
    obtain ⟨M55, e55, h⟩ := Option.bind_eq_some_iff.mp h
    refine g_callVv (As := [.int (M.1 34 1)]) (rest := []) hg (lkX1_gather (by omega) hn hRf  e55) cv_X11_250 rfl ly34 (idb rfl rfl hn) rfl rfl (Nat.le_of_ble_eq_true rfl) ⟨Nat.le_refl _, Nat.le_refl _⟩ dX11_maps_55 ?_
    refine g_rload_n hg dX11_maps_58 rfl 0 rfl ?_
    refine g_getR (r := 179) hg fl_X11_88 ly1 rfl (idb rfl rfl hn) (rfc hRf rfl rfl rfl rfl) (by decide) dX11_maps_59 ?_
    obtain ⟨M62, e62, h⟩ := Option.bind_eq_some_iff.mp h
    refine g_callVv (As := []) (rest := []) hg (lkX8_tallyBores (by omega) hn hRf  e62) cv_X11_310 rfl ly179 (idb rfl rfl hn) rfl rfl (Nat.le_of_ble_eq_true rfl) ⟨Nat.le_refl _, Nat.le_refl _⟩ dX11_maps_62 ?_
    refine g_iload_n hg dX11_maps_65 rfl 1 rfl ?_
    refine g_if_ne (tgt := 79) hg dX11_maps_66 (by decide) (fun c => ?_) (fun c => ?_)
    · replace h := itF c h
      refine g_iload_n hg dX11_maps_79 rfl 1 rfl ?_
      refine g_iconst hg dX11_maps_80 kI_1 ?_
      refine g_icmp_ne (tgt := 95) hg dX11_maps_81 (by decide) (fun c => ?_) (fun c => ?_)
      · replace h := itF c h
        refine g_rload_n hg dX11_maps_95 rfl 0 rfl ?_
        refine g_getR (r := 179) hg fl_X11_88 ly1 rfl (idb rfl rfl hn) (rfc hRf rfl rfl rfl rfl) (by decide) dX11_maps_96 ?_
        refine g_iload_n hg dX11_maps_99 rfl 2 rfl ?_
        obtain ⟨q100, e100, h⟩ := Option.bind_eq_some_iff.mp h
        refine g_callVi (As := [.int x2]) (rest := []) hg (lkX8_seamOfBest (by omega) hn hRf  e100) cv_X11_325 rfl ly179 (idb rfl rfl hn) rfl rfl (Nat.le_of_ble_eq_true rfl) ⟨Nat.le_refl _, Nat.le_refl _⟩ dX11_maps_100 ?_
        replace h := Option.some.inj h
        subst h
        exact g_iret hg hr dX11_maps_103
      · replace h := itT c h
        refine g_rload_n hg dX11_maps_84 rfl 0 rfl ?_
        refine g_getR (r := 179) hg fl_X11_88 ly1 rfl (idb rfl rfl hn) (rfc hRf rfl rfl rfl rfl) (by decide) dX11_maps_85 ?_
        refine g_iload_n hg dX11_maps_88 rfl 2 rfl ?_
        obtain ⟨q89, e89, h⟩ := Option.bind_eq_some_iff.mp h
        refine g_callVi (As := [.int x2]) (rest := []) hg (lkX8_seamOfOld (by omega) hn hRf  e89) cv_X11_322 rfl ly179 (idb rfl rfl hn) rfl rfl (Nat.le_of_ble_eq_true rfl) ⟨Nat.le_refl _, Nat.le_refl _⟩ dX11_maps_89 ?_
        refine g_goto (tgt := 103) hg dX11_maps_92 (by decide) ?_
        replace h := Option.some.inj h
        subst h
        exact g_iret hg hr dX11_maps_103
    · replace h := itT c h
      refine g_rload_n hg dX11_maps_69 rfl 0 rfl ?_
      refine g_getR (r := 179) hg fl_X11_88 ly1 rfl (idb rfl rfl hn) (rfc hRf rfl rfl rfl rfl) (by decide) dX11_maps_70 ?_
      obtain ⟨q73, e73, h⟩ := Option.bind_eq_some_iff.mp h
      refine g_callVi (As := []) (rest := []) hg (lkX8_countAgreeing (by omega) hn hRf  e73) cv_X11_319 rfl ly179 (idb rfl rfl hn) rfl rfl (Nat.le_of_ble_eq_true rfl) ⟨Nat.le_refl _, Nat.le_refl _⟩ dX11_maps_73 ?_
      refine g_goto (tgt := 103) hg dX11_maps_76 (by decide) ?_
      replace h := Option.some.inj h
      subst h
      exact g_iret hg hr dX11_maps_103
  · replace h := itT c h
    refine g_iconst hg dX11_maps_42 kI_0 ?_
    replace h := Option.some.inj h
    subst h
    exact g_iret hg hr dX11_maps_43
theorem lkX11_maps {l0 : Launch} {E : En} {d n : Nat} {Rf : Nat → Nat → Nat} {ex : Bool} {kq : Nat × Nat} (hd : 7 ≤ d) (hn : 239 ≤ n) (hRf : RfOk 1 239 kq Rf) (hkq : isKq kq) {x1 : Int32} {x2 : Int32} {M : Mm} {q : Int32 × Mm} (h : sX11_maps kq x1 x2 M = some q) : Ct l0 E yX11_maps cX11_maps 3 (some .int) d 0 0 [rr E.1 1, .int x1, .int x2] ex n Rf M n Rf (some (.int q.1)) q.2 := by
  obtain ⟨d, rfl⟩ := Nat.exists_eq_add_of_le' hd
  refine Ct.of pnX11 (Nat.le_of_ble_eq_true rfl) (fun g hg hr _ => ?_)
  replace hg : Ok g l0 E cX11_maps RX11 3 (d + 7) 0 0 := hg
  show WG g E 3 n Rf ex 0 0 0 [(0, rr E.1 1), (1, .int x1), (2, .int x2)] [] M
  unfold sX11_maps at h
  refine g_iload_n hg dX11_maps_0 rfl 1 rfl ?_
  refine g_if_lt (tgt := 30) hg dX11_maps_1 (by decide) (fun c => ?_) (fun c => ?_)
  · replace h := itT c h
    refine g_iconst hg dX11_maps_30 kI_m1 ?_
    replace h := Option.some.inj h
    subst h
    exact g_iret hg hr dX11_maps_31
  · replace h := itF c h
    refine g_iload_n hg dX11_maps_4 rfl 1 rfl ?_
    refine g_iconst hg dX11_maps_5 kI_2 ?_
    refine g_icmp_gt (tgt := 30) hg dX11_maps_6 (by decide) (fun c => ?_) (fun c => ?_)
    · replace h := itT c h
      refine g_iconst hg dX11_maps_30 kI_m1 ?_
      replace h := Option.some.inj h
      subst h
      exact g_iret hg hr dX11_maps_31
    · replace h := itF c h
      refine g_iload_n hg dX11_maps_9 rfl 1 rfl ?_
      refine g_if_le (tgt := 32) hg dX11_maps_10 (by decide) (fun c => ?_) (fun c => ?_)
      · replace h := itT c h
        exact lkX11_maps_32 hn hRf hkq hg hr  _ _ _ h
      · replace h := itF c h
        refine g_iload_n hg dX11_maps_13 rfl 2 rfl ?_
        refine g_if_lt (tgt := 30) hg dX11_maps_14 (by decide) (fun c => ?_) (fun c => ?_)
        · replace h := itT c h
          refine g_iconst hg dX11_maps_30 kI_m1 ?_
          replace h := Option.some.inj h
          subst h
          exact g_iret hg hr dX11_maps_31
        · replace h := itF c h
          refine g_iload_n hg dX11_maps_17 rfl 2 rfl ?_
          refine g_rload_n hg dX11_maps_18 rfl 0 rfl ?_
          refine g_getR (r := 22) hg fl_X11_45 ly1 rfl (idb rfl rfl hn) (rfc hRf rfl rfl rfl rfl) (by decide) dX11_maps_19 ?_
          refine g_getI hg fl_X11_282 ly22 rfl (idb rfl rfl hn) dX11_maps_22 ?_
          refine g_iconst hg dX11_maps_25 kI_1 ?_
          refine g_isub hg dX11_maps_26 ?_
          refine g_icmp_lt (tgt := 32) hg dX11_maps_27 (by decide) (fun c => ?_) (fun c => ?_)
          · replace h := itT c h
            exact lkX11_maps_32 hn hRf hkq hg hr  _ _ _ h
          · replace h := itF c h
            refine g_iconst hg dX11_maps_30 kI_m1 ?_
            replace h := Option.some.inj h
            subst h
            exact g_iret hg hr dX11_maps_31
theorem lkX11_fairValue_4 {g : Gm} {l0 : Launch} {E : En} {d n : Nat} {Rf : Nat → Nat → Nat} {ex : Bool} {kq : Nat × Nat} (hn : 239 ≤ n) (hRf : RfOk 1 239 kq Rf) (hkq : isKq kq) (hg : Ok g l0 E cX11_fairValue RX11 4 (d + 1) 0 0) {q : Int32 × Mm} (hr : Ret g E 0 0 (some .int) ex n Rf (some (.int q.1)) q.2) : ∀ (F : Nat) (y1 : Int64) (x3 : Int32) (M : Mm), sX11_fairValue_4 kq F y1 x3 M = some q → WG g E 4 n Rf ex 0 0 4 [(0, rr E.1 1), (1, .long y1), (3, .int x3)] [] M := by
  intro F
  induction F with
  | zero =>
    intro y1 x3 M h
    cases h
  | succ F ih =>
    intro y1 x3 M h
    rw [sX11_fairValue_4] at h
    refine g_iload_n hg dX11_fairValue_4 rfl 2 rfl ?_
    refine g_rload_n hg dX11_fairValue_5 rfl 0 rfl ?_
    refine g_getR (r := kq.1) hg fl_X11_34 ly1 rfl (idb rfl rfl hn) (rfc hRf rfl rfl rfl rfl) (ky_pos hkq.1) dX11_fairValue_6 ?_
    refine g_getI hg fl_X11_125 (ky_lay hkq.1) rfl (ky_bd hkq.1 hn) dX11_fairValue_9 ?_
    refine g_icmp_ge (tgt := 42) hg dX11_fairValue_12 (by decide) (fun c => ?_) (fun c => ?_)
    · replace h := itT c h
      refine g_rload_n hg dX11_fairValue_42 rfl 0 rfl ?_
      refine g_getR (r := 158) hg fl_X11_61 ly1 rfl (idb rfl rfl hn) (rfc hRf rfl rfl rfl rfl) (by decide) dX11_fairValue_43 ?_
      refine g_getI hg fl_X11_270 ly158 rfl (idb rfl rfl hn) dX11_fairValue_46 ?_
      refine g_if_le (tgt := 66) hg dX11_fairValue_49 (by decide) (fun c => ?_) (fun c => ?_)
      · replace h := itT c h
        refine g_iconst hg dX11_fairValue_66 kI_0 ?_
        replace h := Option.some.inj h
        subst h
        exact g_iret hg hr dX11_fairValue_67
      · replace h := itF c h
        refine g_lload_n hg dX11_fairValue_52 rfl 1 rfl ?_
        refine g_rload_n hg dX11_fairValue_53 rfl 0 rfl ?_
        refine g_getR (r := 158) hg fl_X11_61 ly1 rfl (idb rfl rfl hn) (rfc hRf rfl rfl rfl rfl) (by decide) dX11_fairValue_54 ?_
        refine g_getI hg fl_X11_270 ly158 rfl (idb rfl rfl hn) dX11_fairValue_57 ?_
        refine g_i2l hg dX11_fairValue_60 ?_
        obtain ⟨c61, h⟩ := ck_some h
        refine g_ldiv hg dX11_fairValue_61 (nzL_ne c61) ?_
        refine g_l2i hg dX11_fairValue_62 ?_
        refine g_goto (tgt := 67) hg dX11_fairValue_63 (by decide) ?_
        replace h := Option.some.inj h
        subst h
        exact g_iret hg hr dX11_fairValue_67
    · replace h := itF c h
      refine g_lload_n hg dX11_fairValue_15 rfl 1 rfl ?_
      refine g_rload_n hg dX11_fairValue_16 rfl 0 rfl ?_
      refine g_getR (r := 193) hg fl_X11_101 ly1 rfl (idb rfl rfl hn) (rfc hRf rfl rfl rfl rfl) (by decide) dX11_fairValue_17 ?_
      refine g_iload_n hg dX11_fairValue_20 rfl 2 rfl ?_
      obtain ⟨c21, h⟩ := ck_some h
      refine g_iald hg ly193 (idb rfl rfl hn) (inb_vp c21) dX11_fairValue_21 ?_
      refine g_i2l hg dX11_fairValue_22 ?_
      refine g_rload_n hg dX11_fairValue_23 rfl 0 rfl ?_
      refine g_getR (r := 158) hg fl_X11_61 ly1 rfl (idb rfl rfl hn) (rfc hRf rfl rfl rfl rfl) (by decide) dX11_fairValue_24 ?_
      refine g_getR (r := 161) hg fl_X11_256 ly158 rfl (idb rfl rfl hn) (rfc hRf rfl rfl rfl rfl) (by decide) dX11_fairValue_27 ?_
      refine g_iload_n hg dX11_fairValue_30 rfl 2 rfl ?_
      obtain ⟨c31, h⟩ := ck_some h
      refine g_iald hg ly161 (idb rfl rfl hn) (inb_vp c31) dX11_fairValue_31 ?_
      refine g_i2l hg dX11_fairValue_32 ?_
      refine g_lmul hg dX11_fairValue_33 ?_
      refine g_ladd hg dX11_fairValue_34 ?_
      refine g_lstore_n (lv' := [(1, .long (y1 + ((M.1 193 x3.toNatClampNeg).toInt64 * (M.1 161 x3.toNatClampNeg).toInt64))), (0, rr E.1 1), (3, .int x3)]) hg dX11_fairValue_35 rfl (by decide) rfl ?_
      refine g_inc (lv' := [(3, .int (x3 + 1)), (1, .long (y1 + ((M.1 193 x3.toNatClampNeg).toInt64 * (M.1 161 x3.toNatClampNeg).toInt64))), (0, rr E.1 1)]) hg dX11_fairValue_36 kI_1 2 rfl (by decide) rfl ?_
      refine g_goto (tgt := 4) hg dX11_fairValue_39 (by decide) ?_
      refine g_sub (lv' := [(0, rr E.1 1), (1, .long (y1 + ((M.1 193 x3.toNatClampNeg).toInt64 * (M.1 161 x3.toNatClampNeg).toInt64))), (3, .int (x3 + 1))]) [2, 1, 0] rfl ?_
      exact ih _ _ _ h
theorem lkX11_fairValue {l0 : Launch} {E : En} {d n : Nat} {Rf : Nat → Nat → Nat} {ex : Bool} {kq : Nat × Nat} (hd : 1 ≤ d) (hn : 239 ≤ n) (hRf : RfOk 1 239 kq Rf) (hkq : isKq kq)  {M : Mm} {q : Int32 × Mm} (h : sX11_fairValue kq M = some q) : Ct l0 E yX11_fairValue cX11_fairValue 4 (some .int) d 0 0 [rr E.1 1] ex n Rf M n Rf (some (.int q.1)) q.2 := by
  obtain ⟨d, rfl⟩ := Nat.exists_eq_add_of_le' hd
  refine Ct.of pnX11 (Nat.le_of_ble_eq_true rfl) (fun g hg hr _ => ?_)
  replace hg : Ok g l0 E cX11_fairValue RX11 4 (d + 1) 0 0 := hg
  show WG g E 4 n Rf ex 0 0 0 [(0, rr E.1 1)] [] M
  unfold sX11_fairValue at h
  refine g_lconst hg dX11_fairValue_0 kL_0 ?_
  refine g_lstore_n (lv' := [(1, .long 0), (0, rr E.1 1)]) hg dX11_fairValue_1 rfl (by decide) rfl ?_
  refine g_iconst hg dX11_fairValue_2 kI_0 ?_
  refine g_istore_n (lv' := [(3, .int 0), (1, .long 0), (0, rr E.1 1)]) hg dX11_fairValue_3 rfl (by decide) rfl ?_
  refine g_sub (lv' := [(0, rr E.1 1), (1, .long 0), (3, .int 0)]) [2, 1, 0] rfl ?_
  exact lkX11_fairValue_4 hn hRf hkq hg hr  4096 _ _ _ h
