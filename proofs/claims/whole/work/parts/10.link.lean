theorem lkX11_putBytes_3 {g : Gm} {l0 : Launch} {E : En} {d n : Nat} {Rf : Nat → Nat → Nat} {ex : Bool} {kq : Nat × Nat} (hn : 239 ≤ n) (hRf : RfOk 1 239 kq Rf) (hg : Ok g l0 E cX11_putBytes RX11 3 (d + 1) 0 0) {q : Mm} (hr : Ret g E 0 0 none ex n Rf none q) : ∀ (F : Nat) (x1 : Int32) (x2 : Int32) (M : Mm), sX11_putBytes_3 F x1 x2 M = some q → WG g E 3 n Rf ex 0 0 3 [(0, rr E.1 1), (1, .int x1), (2, .int x2)] [] M := by
  intro F
  induction F with
  | zero =>
    intro x1 x2 M h
    cases h
  | succ F ih =>
    intro x1 x2 M h
    rw [sX11_putBytes_3] at h
    refine g_iload_n hg dX11_putBytes_3 rfl 2 rfl ?_
    refine g_if_lt (tgt := 49) hg dX11_putBytes_4 (by decide) (fun c => ?_) (fun c => ?_)
    · replace h := itT c h
      replace h := Option.some.inj h
      subst h
      exact g_vret hg hr dX11_putBytes_49
    · replace h := itF c h
      refine g_rload_n hg dX11_putBytes_7 rfl 0 rfl ?_
      refine g_getI hg fl_X11_104 ly1 rfl (idb rfl rfl hn) dX11_putBytes_8 ?_
      refine g_sipush hg dX11_putBytes_11 kS_800 ?_
      refine g_icmp_ge (tgt := 49) hg dX11_putBytes_14 (by decide) (fun c => ?_) (fun c => ?_)
      · replace h := itT c h
        replace h := Option.some.inj h
        subst h
        exact g_vret hg hr dX11_putBytes_49
      · replace h := itF c h
        refine g_rload_n hg dX11_putBytes_17 rfl 0 rfl ?_
        refine g_getR (r := 2) hg fl_X11_9 ly1 rfl (idb rfl rfl hn) (rfc hRf rfl rfl rfl rfl) (by decide) dX11_putBytes_18 ?_
        refine g_rload_n hg dX11_putBytes_21 rfl 0 rfl ?_
        refine g_getI hg fl_X11_104 ly1 rfl (idb rfl rfl hn) dX11_putBytes_22 ?_
        refine g_iload_n hg dX11_putBytes_25 rfl 1 rfl ?_
        refine g_iload_n hg dX11_putBytes_26 rfl 2 rfl ?_
        refine g_ishr hg dX11_putBytes_27 ?_
        refine g_sipush hg dX11_putBytes_28 kS_255 ?_
        refine g_iand hg dX11_putBytes_31 ?_
        obtain ⟨c32, h⟩ := ck_some h
        refine g_iast hg ly2 (idb rfl rfl hn) (inb_vp c32) dX11_putBytes_32 ?_
        refine g_rload_n hg dX11_putBytes_33 rfl 0 rfl ?_
        refine g_dup hg dX11_putBytes_34 rfl ?_
        refine g_getI hg fl_X11_104 ly1 rfl (idb rfl rfl hn) dX11_putBytes_35 ?_
        refine g_iconst hg dX11_putBytes_38 kI_1 ?_
        refine g_iadd hg dX11_putBytes_39 ?_
        refine g_putI hg fp_X11_104 ly1 rfl (idb rfl rfl hn) dX11_putBytes_40 ?_
        refine g_inc (lv' := [(2, .int (x2 + (-8))), (0, rr E.1 1), (1, .int x1)]) hg dX11_putBytes_43 kI_m8 2 rfl (by decide) rfl ?_
        refine g_goto (tgt := 3) hg dX11_putBytes_46 (by decide) ?_
        refine g_sub (lv' := [(0, rr E.1 1), (1, .int x1), (2, .int (x2 + (-8)))]) [1, 2, 0] rfl ?_
        exact ih _ _ _ h
theorem lkX11_putBytes {l0 : Launch} {E : En} {d n : Nat} {Rf : Nat → Nat → Nat} {ex : Bool} {kq : Nat × Nat} (hd : 1 ≤ d) (hn : 239 ≤ n) (hRf : RfOk 1 239 kq Rf) {x1 : Int32} {M : Mm} {q : Mm} (h : sX11_putBytes x1 M = some q) : Ct l0 E yX11_putBytes cX11_putBytes 3 none d 0 0 [rr E.1 1, .int x1] ex n Rf M n Rf none q := by
  obtain ⟨d, rfl⟩ := Nat.exists_eq_add_of_le' hd
  refine Ct.of pnX11 (Nat.le_of_ble_eq_true rfl) (fun g hg hr _ => ?_)
  replace hg : Ok g l0 E cX11_putBytes RX11 3 (d + 1) 0 0 := hg
  show WG g E 3 n Rf ex 0 0 0 [(0, rr E.1 1), (1, .int x1)] [] M
  unfold sX11_putBytes at h
  refine g_bipush hg dX11_putBytes_0 kB_24 ?_
  refine g_istore_n (lv' := [(2, .int 24), (0, rr E.1 1), (1, .int x1)]) hg dX11_putBytes_2 rfl (by decide) rfl ?_
  refine g_sub (lv' := [(0, rr E.1 1), (1, .int x1), (2, .int 24)]) [1, 2, 0] rfl ?_
  exact lkX11_putBytes_3 hn hRf hg hr  4096 _ _ _ h
theorem lkX11_feed {l0 : Launch} {E : En} {d n : Nat} {Rf : Nat → Nat → Nat} {ex : Bool} {kq : Nat × Nat} (hd : 2 ≤ d) (hn : 239 ≤ n) (hRf : RfOk 1 239 kq Rf) {x1 : Int32} {x2 : Int32} {x3 : Int32} {x4 : Int32} {x5 : Int32} {M : Mm} {q : Int32 × Mm} (h : sX11_feed x1 x2 x3 x4 x5 M = some q) : Ct l0 E yX11_feed cX11_feed 6 (some .int) d 0 0 [rr E.1 1, .int x1, .int x2, .int x3, .int x4, .int x5] ex n Rf M n Rf (some (.int q.1)) q.2 := by
  obtain ⟨d, rfl⟩ := Nat.exists_eq_add_of_le' hd
  refine Ct.of pnX11 (Nat.le_of_ble_eq_true rfl) (fun g hg hr _ => ?_)
  replace hg : Ok g l0 E cX11_feed RX11 6 (d + 2) 0 0 := hg
  show WG g E 6 n Rf ex 0 0 0 [(0, rr E.1 1), (1, .int x1), (2, .int x2), (3, .int x3), (4, .int x4), (5, .int x5)] [] M
  unfold sX11_feed at h
  refine g_rload_n hg dX11_feed_0 rfl 0 rfl ?_
  refine g_getI hg fl_X11_104 ly1 rfl (idb rfl rfl hn) dX11_feed_1 ?_
  refine g_bipush hg dX11_feed_4 kB_20 ?_
  refine g_iadd hg dX11_feed_6 ?_
  refine g_sipush hg dX11_feed_7 kS_800 ?_
  refine g_icmp_le (tgt := 15) hg dX11_feed_10 (by decide) (fun c => ?_) (fun c => ?_)
  · replace h := itT c h
    refine g_rload_n hg dX11_feed_15 rfl 0 rfl ?_
    refine g_iload_n hg dX11_feed_16 rfl 1 rfl ?_
    obtain ⟨M17, e17, h⟩ := Option.bind_eq_some_iff.mp h
    refine g_callVv (As := [.int x1]) (rest := []) hg (lkX11_putBytes (by omega) hn hRf  e17) cv_X11_107 rfl ly1 (idb rfl rfl hn) rfl rfl (Nat.le_of_ble_eq_true rfl) ⟨Nat.le_refl _, Nat.le_refl _⟩ dX11_feed_17 ?_
    refine g_rload_n hg dX11_feed_20 rfl 0 rfl ?_
    refine g_iload_n hg dX11_feed_21 rfl 2 rfl ?_
    obtain ⟨M22, e22, h⟩ := Option.bind_eq_some_iff.mp h
    refine g_callVv (As := [.int x2]) (rest := []) hg (lkX11_putBytes (by omega) hn hRf  e22) cv_X11_107 rfl ly1 (idb rfl rfl hn) rfl rfl (Nat.le_of_ble_eq_true rfl) ⟨Nat.le_refl _, Nat.le_refl _⟩ dX11_feed_22 ?_
    refine g_rload_n hg dX11_feed_25 rfl 0 rfl ?_
    refine g_iload_n hg dX11_feed_26 rfl 3 rfl ?_
    obtain ⟨M27, e27, h⟩ := Option.bind_eq_some_iff.mp h
    refine g_callVv (As := [.int x3]) (rest := []) hg (lkX11_putBytes (by omega) hn hRf  e27) cv_X11_107 rfl ly1 (idb rfl rfl hn) rfl rfl (Nat.le_of_ble_eq_true rfl) ⟨Nat.le_refl _, Nat.le_refl _⟩ dX11_feed_27 ?_
    refine g_rload_n hg dX11_feed_30 rfl 0 rfl ?_
    refine g_iload hg dX11_feed_31 4 rfl ?_
    obtain ⟨M33, e33, h⟩ := Option.bind_eq_some_iff.mp h
    refine g_callVv (As := [.int x4]) (rest := []) hg (lkX11_putBytes (by omega) hn hRf  e33) cv_X11_107 rfl ly1 (idb rfl rfl hn) rfl rfl (Nat.le_of_ble_eq_true rfl) ⟨Nat.le_refl _, Nat.le_refl _⟩ dX11_feed_33 ?_
    refine g_rload_n hg dX11_feed_36 rfl 0 rfl ?_
    refine g_iload hg dX11_feed_37 5 rfl ?_
    obtain ⟨M39, e39, h⟩ := Option.bind_eq_some_iff.mp h
    refine g_callVv (As := [.int x5]) (rest := []) hg (lkX11_putBytes (by omega) hn hRf  e39) cv_X11_107 rfl ly1 (idb rfl rfl hn) rfl rfl (Nat.le_of_ble_eq_true rfl) ⟨Nat.le_refl _, Nat.le_refl _⟩ dX11_feed_39 ?_
    refine g_rload_n hg dX11_feed_42 rfl 0 rfl ?_
    refine g_getI hg fl_X11_104 ly1 rfl (idb rfl rfl hn) dX11_feed_43 ?_
    replace h := Option.some.inj h
    subst h
    exact g_iret hg hr dX11_feed_46
  · replace h := itF c h
    refine g_iconst hg dX11_feed_13 kI_m1 ?_
    replace h := Option.some.inj h
    subst h
    exact g_iret hg hr dX11_feed_14
theorem lkX11_isHand {l0 : Launch} {E : En} {d n : Nat} {Rf : Nat → Nat → Nat} {ex : Bool} {kq : Nat × Nat} (hd : 1 ≤ d) (hn : 239 ≤ n) (hRf : RfOk 1 239 kq Rf) {x0 : Int32} {M : Mm} {q : Int32 × Mm} (h : sX11_isHand x0 M = some q) : Ct l0 E yX11_isHand cX11_isHand 1 (some .boolean) d 0 0 [.int x0] ex n Rf M n Rf (some (.int q.1)) q.2 := by
  obtain ⟨d, rfl⟩ := Nat.exists_eq_add_of_le' hd
  refine Ct.of pnX11 (Nat.le_of_ble_eq_true rfl) (fun g hg hr _ => ?_)
  replace hg : Ok g l0 E cX11_isHand RX11 1 (d + 1) 0 0 := hg
  show WG g E 1 n Rf ex 0 0 0 [(0, .int x0)] [] M
  unfold sX11_isHand at h
  refine g_iload_n hg dX11_isHand_0 rfl 0 rfl ?_
  refine g_if_lt (tgt := 13) hg dX11_isHand_1 (by decide) (fun c => ?_) (fun c => ?_)
  · rw [if_pos c] at h
    refine g_iconst hg dX11_isHand_13 kI_0 ?_
    replace h := Option.some.inj h
    subst h
    exact g_zret hg hr rfl dX11_isHand_14
  · rw [if_neg c] at h
    refine g_iload_n hg dX11_isHand_4 rfl 0 rfl ?_
    refine g_iconst hg dX11_isHand_5 kI_3 ?_
    refine g_icmp_ge (tgt := 13) hg dX11_isHand_6 (by decide) (fun c => ?_) (fun c => ?_)
    · rw [if_pos c] at h
      refine g_iconst hg dX11_isHand_13 kI_0 ?_
      replace h := Option.some.inj h
      subst h
      exact g_zret hg hr rfl dX11_isHand_14
    · rw [if_neg c] at h
      refine g_iconst hg dX11_isHand_9 kI_1 ?_
      refine g_goto (tgt := 14) hg dX11_isHand_10 (by decide) ?_
      replace h := Option.some.inj h
      subst h
      exact g_zret hg hr rfl dX11_isHand_14
theorem lkX6_hasCell {l0 : Launch} {E : En} {d n : Nat} {Rf : Nat → Nat → Nat} {ex : Bool} {kq : Nat × Nat} (hd : 1 ≤ d) (hn : 34 ≤ n) (hRf : RfOk 22 34 kq Rf) {x1 : Int32} {M : Mm} {q : Int32 × Mm} (h : sX6_hasCell x1 M = some q) : Ct l0 E yX6_hasCell cX6_hasCell 2 (some .boolean) d 0 0 [rr E.1 22, .int x1] ex n Rf M n Rf (some (.int q.1)) q.2 := by
  obtain ⟨d, rfl⟩ := Nat.exists_eq_add_of_le' hd
  refine Ct.of pnX6 (Nat.le_of_ble_eq_true rfl) (fun g hg hr _ => ?_)
  replace hg : Ok g l0 E cX6_hasCell RX6 2 (d + 1) 0 0 := hg
  show WG g E 2 n Rf ex 0 0 0 [(0, rr E.1 22), (1, .int x1)] [] M
  unfold sX6_hasCell at h
  refine g_iload_n hg dX6_hasCell_0 rfl 1 rfl ?_
  refine g_if_lt (tgt := 16) hg dX6_hasCell_1 (by decide) (fun c => ?_) (fun c => ?_)
  · rw [if_pos c] at h
    refine g_iconst hg dX6_hasCell_16 kI_0 ?_
    replace h := Option.some.inj h
    subst h
    exact g_zret hg hr rfl dX6_hasCell_17
  · rw [if_neg c] at h
    refine g_iload_n hg dX6_hasCell_4 rfl 1 rfl ?_
    refine g_rload_n hg dX6_hasCell_5 rfl 0 rfl ?_
    refine g_getI hg fl_X6_55 ly22 rfl (idb rfl rfl hn) dX6_hasCell_6 ?_
    refine g_icmp_ge (tgt := 16) hg dX6_hasCell_9 (by decide) (fun c => ?_) (fun c => ?_)
    · rw [if_pos c] at h
      refine g_iconst hg dX6_hasCell_16 kI_0 ?_
      replace h := Option.some.inj h
      subst h
      exact g_zret hg hr rfl dX6_hasCell_17
    · rw [if_neg c] at h
      refine g_iconst hg dX6_hasCell_12 kI_1 ?_
      refine g_goto (tgt := 17) hg dX6_hasCell_13 (by decide) ?_
      replace h := Option.some.inj h
      subst h
      exact g_zret hg hr rfl dX6_hasCell_17
theorem lkX10_isDigit {l0 : Launch} {E : En} {d n : Nat} {Rf : Nat → Nat → Nat} {ex : Bool} {kq : Nat × Nat} (hd : 1 ≤ d) (hn : 5 ≤ n) (hRf : RfOk 2 5 kq Rf) {x0 : Int32} {M : Mm} {q : Int32 × Mm} (h : sX10_isDigit x0 M = some q) : Ct l0 E yX10_isDigit cX10_isDigit 1 (some .boolean) d 0 0 [.int x0] ex n Rf M n Rf (some (.int q.1)) q.2 := by
  obtain ⟨d, rfl⟩ := Nat.exists_eq_add_of_le' hd
  refine Ct.of pnX10 (Nat.le_of_ble_eq_true rfl) (fun g hg hr _ => ?_)
  replace hg : Ok g l0 E cX10_isDigit RX10 1 (d + 1) 0 0 := hg
  show WG g E 1 n Rf ex 0 0 0 [(0, .int x0)] [] M
  unfold sX10_isDigit at h
  refine g_iload_n hg dX10_isDigit_0 rfl 0 rfl ?_
  refine g_bipush hg dX10_isDigit_1 kB_48 ?_
  refine g_icmp_lt (tgt := 16) hg dX10_isDigit_3 (by decide) (fun c => ?_) (fun c => ?_)
  · rw [if_pos c] at h
    refine g_iconst hg dX10_isDigit_16 kI_0 ?_
    replace h := Option.some.inj h
    subst h
    exact g_zret hg hr rfl dX10_isDigit_17
  · rw [if_neg c] at h
    refine g_iload_n hg dX10_isDigit_6 rfl 0 rfl ?_
    refine g_bipush hg dX10_isDigit_7 kB_57 ?_
    refine g_icmp_gt (tgt := 16) hg dX10_isDigit_9 (by decide) (fun c => ?_) (fun c => ?_)
    · rw [if_pos c] at h
      refine g_iconst hg dX10_isDigit_16 kI_0 ?_
      replace h := Option.some.inj h
      subst h
      exact g_zret hg hr rfl dX10_isDigit_17
    · rw [if_neg c] at h
      refine g_iconst hg dX10_isDigit_12 kI_1 ?_
      refine g_goto (tgt := 17) hg dX10_isDigit_13 (by decide) ?_
      replace h := Option.some.inj h
      subst h
      exact g_zret hg hr rfl dX10_isDigit_17
theorem lkX10_cutNumber_10 {g : Gm} {l0 : Launch} {E : En} {d n : Nat} {Rf : Nat → Nat → Nat} {ex : Bool} {kq : Nat × Nat} (hn : 5 ≤ n) (hRf : RfOk 2 5 kq Rf) (hg : Ok g l0 E cX10_cutNumber RX10 1 (d + 2) 0 0) {q : Mm} (hr : Ret g E 0 0 none ex n Rf none q) : ∀ (F : Nat)  (M : Mm), sX10_cutNumber_10 F  M = some q → WG g E 1 n Rf ex 0 0 10 [(0, rr E.1 3)] [] M := by
  intro F
  induction F with
  | zero =>
    intro M h
    cases h
  | succ F ih =>
    intro M h
    rw [sX10_cutNumber_10] at h
    refine g_rload_n hg dX10_cutNumber_10 rfl 0 rfl ?_
    refine g_getI hg fl_X10_47 ly3 rfl (idb rfl rfl hn) dX10_cutNumber_11 ?_
    refine g_rload_n hg dX10_cutNumber_14 rfl 0 rfl ?_
    refine g_getI hg fl_X10_45 ly3 rfl (idb rfl rfl hn) dX10_cutNumber_15 ?_
    refine g_icmp_ge (tgt := 79) hg dX10_cutNumber_18 (by decide) (fun c => ?_) (fun c => ?_)
    · replace h := itT c h
      replace h := Option.some.inj h
      subst h
      exact g_vret hg hr dX10_cutNumber_79
    · replace h := itF c h
      refine g_rload_n hg dX10_cutNumber_21 rfl 0 rfl ?_
      refine g_getR (r := 2) hg fl_X10_19 ly3 rfl (idb rfl rfl hn) (rfc hRf rfl rfl rfl rfl) (by decide) dX10_cutNumber_22 ?_
      refine g_rload_n hg dX10_cutNumber_25 rfl 0 rfl ?_
      refine g_getI hg fl_X10_47 ly3 rfl (idb rfl rfl hn) dX10_cutNumber_26 ?_
      obtain ⟨c29, h⟩ := ck_some h
      refine g_iald hg ly2 (idb rfl rfl hn) (inb_vp c29) dX10_cutNumber_29 ?_
      obtain ⟨q30, e30, h⟩ := Option.bind_eq_some_iff.mp h
      refine g_callSi (As := [.int (M.1 2 (M.1 3 3).toNatClampNeg)]) (rest := []) hg (lkX10_isDigit (by omega) hn hRf  e30) cs_X10_62 rfl rfl (Nat.le_of_ble_eq_true rfl) ⟨Nat.le_refl _, Nat.le_refl _⟩ dX10_cutNumber_30 ?_
      refine g_if_eq (tgt := 79) hg dX10_cutNumber_33 (by decide) (fun c => ?_) (fun c => ?_)
      · replace h := itT c h
        replace h := Option.some.inj h
        subst h
        exact g_vret hg hr dX10_cutNumber_79
      · replace h := itF c h
        refine g_rload_n hg dX10_cutNumber_36 rfl 0 rfl ?_
        refine g_rload_n hg dX10_cutNumber_37 rfl 0 rfl ?_
        refine g_getI hg fl_X10_78 ly3 rfl (idb rfl rfl hn) dX10_cutNumber_38 ?_
        refine g_bipush hg dX10_cutNumber_41 kB_10 ?_
        refine g_imul hg dX10_cutNumber_43 ?_
        refine g_rload_n hg dX10_cutNumber_44 rfl 0 rfl ?_
        refine g_getR (r := 2) hg fl_X10_19 ly3 rfl (idb rfl rfl hn) (rfc hRf rfl rfl rfl rfl) (by decide) dX10_cutNumber_45 ?_
        refine g_rload_n hg dX10_cutNumber_48 rfl 0 rfl ?_
        refine g_getI hg fl_X10_47 ly3 rfl (idb rfl rfl hn) dX10_cutNumber_49 ?_
        obtain ⟨c52, h⟩ := ck_some h
        refine g_iald hg ly2 (idb rfl rfl hn) (inb_vp c52) dX10_cutNumber_52 ?_
        refine g_iadd hg dX10_cutNumber_53 ?_
        refine g_bipush hg dX10_cutNumber_54 kB_48 ?_
        refine g_isub hg dX10_cutNumber_56 ?_
        refine g_sipush hg dX10_cutNumber_57 kS_1000 ?_
        refine g_mmin hg mw_X10_39 (Nat.le_of_ble_eq_true rfl) ⟨Nat.le_refl _, Nat.le_refl _⟩ dX10_cutNumber_60 ?_
        refine g_putI hg fp_X10_78 ly3 rfl (idb rfl rfl hn) dX10_cutNumber_63 ?_
        refine g_rload_n hg dX10_cutNumber_66 rfl 0 rfl ?_
        refine g_dup hg dX10_cutNumber_67 rfl ?_
        refine g_getI hg fl_X10_47 ly3 rfl (idb rfl rfl hn) dX10_cutNumber_68 ?_
        refine g_iconst hg dX10_cutNumber_71 kI_1 ?_
        refine g_iadd hg dX10_cutNumber_72 ?_
        refine g_putI hg fp_X10_47 ly3 rfl (idb rfl rfl hn) dX10_cutNumber_73 ?_
        refine g_goto (tgt := 10) hg dX10_cutNumber_76 (by decide) ?_
        exact ih _ h
theorem lkX10_cutNumber {l0 : Launch} {E : En} {d n : Nat} {Rf : Nat → Nat → Nat} {ex : Bool} {kq : Nat × Nat} (hd : 2 ≤ d) (hn : 5 ≤ n) (hRf : RfOk 2 5 kq Rf)  {M : Mm} {q : Mm} (h : sX10_cutNumber M = some q) : Ct l0 E yX10_cutNumber cX10_cutNumber 1 none d 0 0 [rr E.1 3] ex n Rf M n Rf none q := by
  obtain ⟨d, rfl⟩ := Nat.exists_eq_add_of_le' hd
  refine Ct.of pnX10 (Nat.le_of_ble_eq_true rfl) (fun g hg hr _ => ?_)
  replace hg : Ok g l0 E cX10_cutNumber RX10 1 (d + 2) 0 0 := hg
  show WG g E 1 n Rf ex 0 0 0 [(0, rr E.1 3)] [] M
  unfold sX10_cutNumber at h
  refine g_rload_n hg dX10_cutNumber_0 rfl 0 rfl ?_
  refine g_iconst hg dX10_cutNumber_1 kI_1 ?_
  refine g_putI hg fp_X10_59 ly3 rfl (idb rfl rfl hn) dX10_cutNumber_2 ?_
  refine g_rload_n hg dX10_cutNumber_5 rfl 0 rfl ?_
  refine g_iconst hg dX10_cutNumber_6 kI_0 ?_
  refine g_putI hg fp_X10_78 ly3 rfl (idb rfl rfl hn) dX10_cutNumber_7 ?_
  exact lkX10_cutNumber_10 hn hRf hg hr  4096 _ h
theorem lkX10_isLetter {l0 : Launch} {E : En} {d n : Nat} {Rf : Nat → Nat → Nat} {ex : Bool} {kq : Nat × Nat} (hd : 1 ≤ d) (hn : 5 ≤ n) (hRf : RfOk 2 5 kq Rf) {x0 : Int32} {M : Mm} {q : Int32 × Mm} (h : sX10_isLetter x0 M = some q) : Ct l0 E yX10_isLetter cX10_isLetter 1 (some .boolean) d 0 0 [.int x0] ex n Rf M n Rf (some (.int q.1)) q.2 := by
  obtain ⟨d, rfl⟩ := Nat.exists_eq_add_of_le' hd
  refine Ct.of pnX10 (Nat.le_of_ble_eq_true rfl) (fun g hg hr _ => ?_)
  replace hg : Ok g l0 E cX10_isLetter RX10 1 (d + 1) 0 0 := hg
  show WG g E 1 n Rf ex 0 0 0 [(0, .int x0)] [] M
  unfold sX10_isLetter at h
  refine g_iload_n hg dX10_isLetter_0 rfl 0 rfl ?_
  refine g_bipush hg dX10_isLetter_1 kB_97 ?_
  refine g_icmp_lt (tgt := 16) hg dX10_isLetter_3 (by decide) (fun c => ?_) (fun c => ?_)
  · rw [if_pos c] at h
    refine g_iconst hg dX10_isLetter_16 kI_0 ?_
    replace h := Option.some.inj h
    subst h
    exact g_zret hg hr rfl dX10_isLetter_17
  · rw [if_neg c] at h
    refine g_iload_n hg dX10_isLetter_6 rfl 0 rfl ?_
    refine g_bipush hg dX10_isLetter_7 kB_122 ?_
    refine g_icmp_gt (tgt := 16) hg dX10_isLetter_9 (by decide) (fun c => ?_) (fun c => ?_)
    · rw [if_pos c] at h
      refine g_iconst hg dX10_isLetter_16 kI_0 ?_
      replace h := Option.some.inj h
      subst h
      exact g_zret hg hr rfl dX10_isLetter_17
    · rw [if_neg c] at h
      refine g_iconst hg dX10_isLetter_12 kI_1 ?_
      refine g_goto (tgt := 17) hg dX10_isLetter_13 (by decide) ?_
      replace h := Option.some.inj h
      subst h
      exact g_zret hg hr rfl dX10_isLetter_17
theorem lkX10_joined {l0 : Launch} {E : En} {d n : Nat} {Rf : Nat → Nat → Nat} {ex : Bool} {kq : Nat × Nat} (hd : 1 ≤ d) (hn : 5 ≤ n) (hRf : RfOk 2 5 kq Rf) {y0 : Int64} {x2 : Int32} {M : Mm} {q : Int64 × Mm} (h : sX10_joined y0 x2 M = some q) : Ct l0 E yX10_joined cX10_joined 3 (some .long) d 0 0 [.long y0, .int x2] ex n Rf M n Rf (some (.long q.1)) q.2 := by
  obtain ⟨d, rfl⟩ := Nat.exists_eq_add_of_le' hd
  refine Ct.of pnX10 (Nat.le_of_ble_eq_true rfl) (fun g hg hr _ => ?_)
  replace hg : Ok g l0 E cX10_joined RX10 3 (d + 1) 0 0 := hg
  show WG g E 3 n Rf ex 0 0 0 [(0, .long y0), (2, .int x2)] [] M
  unfold sX10_joined at h
  refine g_lload_n hg dX10_joined_0 rfl 0 rfl ?_
  refine g_ldc2 hg dX10_joined_1 w1_90 ?_
  refine g_lmul hg dX10_joined_4 ?_
  refine g_iload_n hg dX10_joined_5 rfl 1 rfl ?_
  refine g_bipush hg dX10_joined_6 kB_97 ?_
  refine g_isub hg dX10_joined_8 ?_
  refine g_iconst hg dX10_joined_9 kI_1 ?_
  refine g_iadd hg dX10_joined_10 ?_
  refine g_i2l hg dX10_joined_11 ?_
  refine g_ladd hg dX10_joined_12 ?_
  replace h := Option.some.inj h
  subst h
  exact g_lret hg hr dX10_joined_13
theorem lkX10_wordNumber_2 {g : Gm} {l0 : Launch} {E : En} {d n : Nat} {Rf : Nat → Nat → Nat} {ex : Bool} {kq : Nat × Nat} (hn : 5 ≤ n) (hRf : RfOk 2 5 kq Rf) (hg : Ok g l0 E cX10_wordNumber RX10 2 (d + 1) 0 0) {q : Int32 × Mm} (hr : Ret g E 0 0 (some .int) ex n Rf (some (.int q.1)) q.2) : ∀ (F : Nat) (x1 : Int32) (M : Mm), sX10_wordNumber_2 F x1 M = some q → WG g E 2 n Rf ex 0 0 2 [(0, rr E.1 3), (1, .int x1)] [] M := by
  intro F
  induction F with
  | zero =>
    intro x1 M h
    cases h
  | succ F ih =>
    intro x1 M h
    rw [sX10_wordNumber_2] at h
    refine g_iload_n hg dX10_wordNumber_2 rfl 1 rfl ?_
    refine g_bipush hg dX10_wordNumber_3 kB_24 ?_
    refine g_icmp_ge (tgt := 30) hg dX10_wordNumber_5 (by decide) (fun c => ?_) (fun c => ?_)
    · replace h := itT c h
      refine g_iconst hg dX10_wordNumber_30 kI_m1 ?_
      replace h := Option.some.inj h
      subst h
      exact g_iret hg hr dX10_wordNumber_31
    · replace h := itF c h
      refine g_rload_n hg dX10_wordNumber_8 rfl 0 rfl ?_
      refine g_getR (r := 4) hg fl_X10_9 ly3 rfl (idb rfl rfl hn) (rfc hRf rfl rfl rfl rfl) (by decide) dX10_wordNumber_9 ?_
      refine g_iload_n hg dX10_wordNumber_12 rfl 1 rfl ?_
      obtain ⟨c13, h⟩ := ck_some h
      refine g_lald hg ly4 (idb rfl rfl hn) (inb_vp c13) dX10_wordNumber_13 ?_
      refine g_rload_n hg dX10_wordNumber_14 rfl 0 rfl ?_
      refine g_getL hg fl_X10_87 ly3 rfl (idb rfl rfl hn) dX10_wordNumber_15 ?_
      refine g_lcmp hg dX10_wordNumber_18 ?_
      refine g_if_ne (tgt := 24) hg dX10_wordNumber_19 (by decide) (fun c => ?_) (fun c => ?_)
      · replace h := itF c h
        refine g_inc (lv' := [(1, .int (x1 + 1)), (0, rr E.1 3)]) hg dX10_wordNumber_24 kI_1 1 rfl (by decide) rfl ?_
        refine g_goto (tgt := 2) hg dX10_wordNumber_27 (by decide) ?_
        refine g_sub (lv' := [(0, rr E.1 3), (1, .int (x1 + 1))]) [1, 0] rfl ?_
        exact ih _ _ h
      · replace h := itT c h
        refine g_iload_n hg dX10_wordNumber_22 rfl 1 rfl ?_
        replace h := Option.some.inj h
        subst h
        exact g_iret hg hr dX10_wordNumber_23
theorem lkX10_wordNumber {l0 : Launch} {E : En} {d n : Nat} {Rf : Nat → Nat → Nat} {ex : Bool} {kq : Nat × Nat} (hd : 1 ≤ d) (hn : 5 ≤ n) (hRf : RfOk 2 5 kq Rf)  {M : Mm} {q : Int32 × Mm} (h : sX10_wordNumber M = some q) : Ct l0 E yX10_wordNumber cX10_wordNumber 2 (some .int) d 0 0 [rr E.1 3] ex n Rf M n Rf (some (.int q.1)) q.2 := by
  obtain ⟨d, rfl⟩ := Nat.exists_eq_add_of_le' hd
  refine Ct.of pnX10 (Nat.le_of_ble_eq_true rfl) (fun g hg hr _ => ?_)
  replace hg : Ok g l0 E cX10_wordNumber RX10 2 (d + 1) 0 0 := hg
  show WG g E 2 n Rf ex 0 0 0 [(0, rr E.1 3)] [] M
  unfold sX10_wordNumber at h
  refine g_iconst hg dX10_wordNumber_0 kI_0 ?_
  refine g_istore_n (lv' := [(1, .int 0), (0, rr E.1 3)]) hg dX10_wordNumber_1 rfl (by decide) rfl ?_
  refine g_sub (lv' := [(0, rr E.1 3), (1, .int 0)]) [1, 0] rfl ?_
  exact lkX10_wordNumber_2 hn hRf hg hr  4096 _ _ h
theorem lkX10_cutWord_107 {g : Gm} {l0 : Launch} {E : En} {d n : Nat} {Rf : Nat → Nat → Nat} {ex : Bool} {kq : Nat × Nat} (hn : 5 ≤ n) (hRf : RfOk 2 5 kq Rf) (hg : Ok g l0 E cX10_cutWord RX10 1 (d + 2) 0 0) {q : Mm} (hr : Ret g E 0 0 none ex n Rf none q) : ∀ (s1 : Int32) (M : Mm), sX10_cutWord_107 s1 M = some q → WG g E 1 n Rf ex 0 0 107 [] [.int s1, rr E.1 3] M := by
  intro s1 M h
  unfold sX10_cutWord_107 at h
  refine g_putI hg fp_X10_78 ly3 rfl (idb rfl rfl hn) dX10_cutWord_107 ?_
  replace h := Option.some.inj h
  subst h
  exact g_vret hg hr dX10_cutWord_110
theorem lkX10_cutWord_83 {g : Gm} {l0 : Launch} {E : En} {d n : Nat} {Rf : Nat → Nat → Nat} {ex : Bool} {kq : Nat × Nat} (hn : 5 ≤ n) (hRf : RfOk 2 5 kq Rf) (hg : Ok g l0 E cX10_cutWord RX10 1 (d + 2) 0 0) {q : Mm} (hr : Ret g E 0 0 none ex n Rf none q) : ∀  (M : Mm), sX10_cutWord_83  M = some q → WG g E 1 n Rf ex 0 0 83 [(0, rr E.1 3)] [] M := by
  intro M h
  unfold sX10_cutWord_83 at h
  refine g_rload_n hg dX10_cutWord_83 rfl 0 rfl ?_
  refine g_rload_n hg dX10_cutWord_84 rfl 0 rfl ?_
  refine g_getI hg fl_X10_47 ly3 rfl (idb rfl rfl hn) dX10_cutWord_85 ?_
  refine g_rload_n hg dX10_cutWord_88 rfl 0 rfl ?_
  refine g_getI hg fl_X10_56 ly3 rfl (idb rfl rfl hn) dX10_cutWord_89 ?_
  refine g_isub hg dX10_cutWord_92 ?_
  refine g_bipush hg dX10_cutWord_93 kB_8 ?_
  refine g_icmp_le (tgt := 103) hg dX10_cutWord_95 (by decide) (fun c => ?_) (fun c => ?_)
  · replace h := itT c h
    refine g_rload_n hg dX10_cutWord_103 rfl 0 rfl ?_
    obtain ⟨q104, e104, h⟩ := Option.bind_eq_some_iff.mp h
    refine g_callVi (As := []) (rest := [rr E.1 3]) hg (lkX10_wordNumber (by omega) hn hRf  e104) cv_X10_91 rfl ly3 (idb rfl rfl hn) rfl rfl (Nat.le_of_ble_eq_true rfl) ⟨Nat.le_refl _, Nat.le_refl _⟩ dX10_cutWord_104 ?_
    refine g_sub (lv' := []) [] rfl ?_
    exact lkX10_cutWord_107 hn hRf hg hr  _ _ h
  · replace h := itF c h
    refine g_bipush hg dX10_cutWord_98 kB_m2 ?_
    refine g_goto (tgt := 107) hg dX10_cutWord_100 (by decide) ?_
    refine g_sub (lv' := []) [] rfl ?_
    exact lkX10_cutWord_107 hn hRf hg hr  _ _ h
theorem lkX10_cutWord_70 {g : Gm} {l0 : Launch} {E : En} {d n : Nat} {Rf : Nat → Nat → Nat} {ex : Bool} {kq : Nat × Nat} (hn : 5 ≤ n) (hRf : RfOk 2 5 kq Rf) (hg : Ok g l0 E cX10_cutWord RX10 1 (d + 2) 0 0) {q : Mm} (hr : Ret g E 0 0 none ex n Rf none q) {k10 : Mm → Option (Mm)} (hk10 : ∀  (M : Mm), k10  M = some q → WG g E 1 n Rf ex 0 0 10 [(0, rr E.1 3)] [] M) : ∀  (M : Mm), sX10_cutWord_70 k10  M = some q → WG g E 1 n Rf ex 0 0 70 [(0, rr E.1 3)] [] M := by
  intro M h
  unfold sX10_cutWord_70 at h
  refine g_rload_n hg dX10_cutWord_70 rfl 0 rfl ?_
  refine g_dup hg dX10_cutWord_71 rfl ?_
  refine g_getI hg fl_X10_47 ly3 rfl (idb rfl rfl hn) dX10_cutWord_72 ?_
  refine g_iconst hg dX10_cutWord_75 kI_1 ?_
  refine g_iadd hg dX10_cutWord_76 ?_
  refine g_putI hg fp_X10_47 ly3 rfl (idb rfl rfl hn) dX10_cutWord_77 ?_
  refine g_goto (tgt := 10) hg dX10_cutWord_80 (by decide) ?_
  exact hk10 _ h
theorem lkX10_cutWord_10 {g : Gm} {l0 : Launch} {E : En} {d n : Nat} {Rf : Nat → Nat → Nat} {ex : Bool} {kq : Nat × Nat} (hn : 5 ≤ n) (hRf : RfOk 2 5 kq Rf) (hg : Ok g l0 E cX10_cutWord RX10 1 (d + 2) 0 0) {q : Mm} (hr : Ret g E 0 0 none ex n Rf none q) : ∀ (F : Nat)  (M : Mm), sX10_cutWord_10 F  M = some q → WG g E 1 n Rf ex 0 0 10 [(0, rr E.1 3)] [] M := by
  intro F
  induction F with
  | zero =>
    intro M h
    cases h
  | succ F ih =>
    intro M h
    rw [sX10_cutWord_10] at h
    refine g_rload_n hg dX10_cutWord_10 rfl 0 rfl ?_
    refine g_getI hg fl_X10_47 ly3 rfl (idb rfl rfl hn) dX10_cutWord_11 ?_
    refine g_rload_n hg dX10_cutWord_14 rfl 0 rfl ?_
    refine g_getI hg fl_X10_45 ly3 rfl (idb rfl rfl hn) dX10_cutWord_15 ?_
    refine g_icmp_ge (tgt := 83) hg dX10_cutWord_18 (by decide) (fun c => ?_) (fun c => ?_)
    · replace h := itT c h
      exact lkX10_cutWord_83 hn hRf hg hr  _ h
    · replace h := itF c h
      refine g_rload_n hg dX10_cutWord_21 rfl 0 rfl ?_
      refine g_getR (r := 2) hg fl_X10_19 ly3 rfl (idb rfl rfl hn) (rfc hRf rfl rfl rfl rfl) (by decide) dX10_cutWord_22 ?_
      refine g_rload_n hg dX10_cutWord_25 rfl 0 rfl ?_
      refine g_getI hg fl_X10_47 ly3 rfl (idb rfl rfl hn) dX10_cutWord_26 ?_
      obtain ⟨c29, h⟩ := ck_some h
      refine g_iald hg ly2 (idb rfl rfl hn) (inb_vp c29) dX10_cutWord_29 ?_
      obtain ⟨q30, e30, h⟩ := Option.bind_eq_some_iff.mp h
      refine g_callSi (As := [.int (M.1 2 (M.1 3 3).toNatClampNeg)]) (rest := []) hg (lkX10_isLetter (by omega) hn hRf  e30) cs_X10_69 rfl rfl (Nat.le_of_ble_eq_true rfl) ⟨Nat.le_refl _, Nat.le_refl _⟩ dX10_cutWord_30 ?_
      refine g_if_eq (tgt := 83) hg dX10_cutWord_33 (by decide) (fun c => ?_) (fun c => ?_)
      · replace h := itT c h
        exact lkX10_cutWord_83 hn hRf hg hr  _ h
      · replace h := itF c h
        refine g_rload_n hg dX10_cutWord_36 rfl 0 rfl ?_
        refine g_getI hg fl_X10_47 ly3 rfl (idb rfl rfl hn) dX10_cutWord_37 ?_
        refine g_rload_n hg dX10_cutWord_40 rfl 0 rfl ?_
        refine g_getI hg fl_X10_56 ly3 rfl (idb rfl rfl hn) dX10_cutWord_41 ?_
        refine g_isub hg dX10_cutWord_44 ?_
        refine g_bipush hg dX10_cutWord_45 kB_8 ?_
        refine g_icmp_ge (tgt := 70) hg dX10_cutWord_47 (by decide) (fun c => ?_) (fun c => ?_)
        · replace h := itT c h
          exact lkX10_cutWord_70 hn hRf hg hr ih _ h
        · replace h := itF c h
          refine g_rload_n hg dX10_cutWord_50 rfl 0 rfl ?_
          refine g_rload_n hg dX10_cutWord_51 rfl 0 rfl ?_
          refine g_getL hg fl_X10_87 ly3 rfl (idb rfl rfl hn) dX10_cutWord_52 ?_
          refine g_rload_n hg dX10_cutWord_55 rfl 0 rfl ?_
          refine g_getR (r := 2) hg fl_X10_19 ly3 rfl (idb rfl rfl hn) (rfc hRf rfl rfl rfl rfl) (by decide) dX10_cutWord_56 ?_
          refine g_rload_n hg dX10_cutWord_59 rfl 0 rfl ?_
          refine g_getI hg fl_X10_47 ly3 rfl (idb rfl rfl hn) dX10_cutWord_60 ?_
          obtain ⟨c63, h⟩ := ck_some h
          refine g_iald hg ly2 (idb rfl rfl hn) (inb_vp c63) dX10_cutWord_63 ?_
          obtain ⟨q64, e64, h⟩ := Option.bind_eq_some_iff.mp h
          refine g_callSl (As := [.long (q30.2.2 3 7), .int (q30.2.1 2 (q30.2.1 3 3).toNatClampNeg)]) (rest := [rr E.1 3]) hg (lkX10_joined (by omega) hn hRf  e64) cs_X10_35 rfl rfl (Nat.le_of_ble_eq_true rfl) ⟨Nat.le_refl _, Nat.le_refl _⟩ dX10_cutWord_64 ?_
          refine g_putL hg fp_X10_87 ly3 rfl (idb rfl rfl hn) dX10_cutWord_67 ?_
          exact lkX10_cutWord_70 hn hRf hg hr ih _ h
theorem lkX10_cutWord {l0 : Launch} {E : En} {d n : Nat} {Rf : Nat → Nat → Nat} {ex : Bool} {kq : Nat × Nat} (hd : 2 ≤ d) (hn : 5 ≤ n) (hRf : RfOk 2 5 kq Rf)  {M : Mm} {q : Mm} (h : sX10_cutWord M = some q) : Ct l0 E yX10_cutWord cX10_cutWord 1 none d 0 0 [rr E.1 3] ex n Rf M n Rf none q := by
  obtain ⟨d, rfl⟩ := Nat.exists_eq_add_of_le' hd
  refine Ct.of pnX10 (Nat.le_of_ble_eq_true rfl) (fun g hg hr _ => ?_)
  replace hg : Ok g l0 E cX10_cutWord RX10 1 (d + 2) 0 0 := hg
  show WG g E 1 n Rf ex 0 0 0 [(0, rr E.1 3)] [] M
  unfold sX10_cutWord at h
  refine g_rload_n hg dX10_cutWord_0 rfl 0 rfl ?_
  refine g_iconst hg dX10_cutWord_1 kI_2 ?_
  refine g_putI hg fp_X10_59 ly3 rfl (idb rfl rfl hn) dX10_cutWord_2 ?_
  refine g_rload_n hg dX10_cutWord_5 rfl 0 rfl ?_
  refine g_lconst hg dX10_cutWord_6 kL_0 ?_
  refine g_putL hg fp_X10_87 ly3 rfl (idb rfl rfl hn) dX10_cutWord_7 ?_
  exact lkX10_cutWord_10 hn hRf hg hr  4096 _ h
theorem lkX10_cutSign_46 {g : Gm} {l0 : Launch} {E : En} {d n : Nat} {Rf : Nat → Nat → Nat} {ex : Bool} {kq : Nat × Nat} (hn : 5 ≤ n) (hRf : RfOk 2 5 kq Rf) (hg : Ok g l0 E cX10_cutSign RX10 1 (d + 1) 0 0) {q : Mm} (hr : Ret g E 0 0 none ex n Rf none q) : ∀  (M : Mm), sX10_cutSign_46  M = some q → WG g E 1 n Rf ex 0 0 46 [(0, rr E.1 3)] [] M := by
  intro M h
  unfold sX10_cutSign_46 at h
  refine g_rload_n hg dX10_cutSign_46 rfl 0 rfl ?_
  refine g_getI hg fl_X10_47 ly3 rfl (idb rfl rfl hn) dX10_cutSign_47 ?_
  refine g_rload_n hg dX10_cutSign_50 rfl 0 rfl ?_
  refine g_getI hg fl_X10_45 ly3 rfl (idb rfl rfl hn) dX10_cutSign_51 ?_
  refine g_icmp_ge (tgt := 93) hg dX10_cutSign_54 (by decide) (fun c => ?_) (fun c => ?_)
  · replace h := itT c h
    replace h := Option.some.inj h
    subst h
    exact g_vret hg hr dX10_cutSign_93
  · replace h := itF c h
    refine g_rload_n hg dX10_cutSign_57 rfl 0 rfl ?_
    refine g_getR (r := 2) hg fl_X10_19 ly3 rfl (idb rfl rfl hn) (rfc hRf rfl rfl rfl rfl) (by decide) dX10_cutSign_58 ?_
    refine g_rload_n hg dX10_cutSign_61 rfl 0 rfl ?_
    refine g_getI hg fl_X10_47 ly3 rfl (idb rfl rfl hn) dX10_cutSign_62 ?_
    obtain ⟨c65, h⟩ := ck_some h
    refine g_iald hg ly2 (idb rfl rfl hn) (inb_vp c65) dX10_cutSign_65 ?_
    refine g_bipush hg dX10_cutSign_66 kB_61 ?_
    refine g_icmp_ne (tgt := 93) hg dX10_cutSign_68 (by decide) (fun c => ?_) (fun c => ?_)
    · replace h := itF c h
      replace h := Option.some.inj h
      subst h
      exact g_vret hg hr dX10_cutSign_93
    · replace h := itT c h
      refine g_rload_n hg dX10_cutSign_71 rfl 0 rfl ?_
      refine g_dup hg dX10_cutSign_72 rfl ?_
      refine g_getI hg fl_X10_78 ly3 rfl (idb rfl rfl hn) dX10_cutSign_73 ?_
      refine g_sipush hg dX10_cutSign_76 kS_256 ?_
      refine g_iadd hg dX10_cutSign_79 ?_
      refine g_putI hg fp_X10_78 ly3 rfl (idb rfl rfl hn) dX10_cutSign_80 ?_
      refine g_rload_n hg dX10_cutSign_83 rfl 0 rfl ?_
      refine g_dup hg dX10_cutSign_84 rfl ?_
      refine g_getI hg fl_X10_47 ly3 rfl (idb rfl rfl hn) dX10_cutSign_85 ?_
      refine g_iconst hg dX10_cutSign_88 kI_1 ?_
      refine g_iadd hg dX10_cutSign_89 ?_
      refine g_putI hg fp_X10_47 ly3 rfl (idb rfl rfl hn) dX10_cutSign_90 ?_
      replace h := Option.some.inj h
      subst h
      exact g_vret hg hr dX10_cutSign_93
theorem lkX10_cutSign {l0 : Launch} {E : En} {d n : Nat} {Rf : Nat → Nat → Nat} {ex : Bool} {kq : Nat × Nat} (hd : 1 ≤ d) (hn : 5 ≤ n) (hRf : RfOk 2 5 kq Rf)  {M : Mm} {q : Mm} (h : sX10_cutSign M = some q) : Ct l0 E yX10_cutSign cX10_cutSign 1 none d 0 0 [rr E.1 3] ex n Rf M n Rf none q := by
  obtain ⟨d, rfl⟩ := Nat.exists_eq_add_of_le' hd
  refine Ct.of pnX10 (Nat.le_of_ble_eq_true rfl) (fun g hg hr _ => ?_)
  replace hg : Ok g l0 E cX10_cutSign RX10 1 (d + 1) 0 0 := hg
  show WG g E 1 n Rf ex 0 0 0 [(0, rr E.1 3)] [] M
  unfold sX10_cutSign at h
  refine g_rload_n hg dX10_cutSign_0 rfl 0 rfl ?_
  refine g_iconst hg dX10_cutSign_1 kI_3 ?_
  refine g_putI hg fp_X10_59 ly3 rfl (idb rfl rfl hn) dX10_cutSign_2 ?_
  refine g_rload_n hg dX10_cutSign_5 rfl 0 rfl ?_
  refine g_rload_n hg dX10_cutSign_6 rfl 0 rfl ?_
  refine g_getR (r := 2) hg fl_X10_19 ly3 rfl (idb rfl rfl hn) (rfc hRf rfl rfl rfl rfl) (by decide) dX10_cutSign_7 ?_
  refine g_rload_n hg dX10_cutSign_10 rfl 0 rfl ?_
  refine g_getI hg fl_X10_47 ly3 rfl (idb rfl rfl hn) dX10_cutSign_11 ?_
  obtain ⟨c14, h⟩ := ck_some h
  refine g_iald hg ly2 (idb rfl rfl hn) (inb_vp c14) dX10_cutSign_14 ?_
  refine g_putI hg fp_X10_78 ly3 rfl (idb rfl rfl hn) dX10_cutSign_15 ?_
  refine g_rload_n hg dX10_cutSign_18 rfl 0 rfl ?_
  refine g_dup hg dX10_cutSign_19 rfl ?_
  refine g_getI hg fl_X10_47 ly3 rfl (idb rfl rfl hn) dX10_cutSign_20 ?_
  refine g_iconst hg dX10_cutSign_23 kI_1 ?_
  refine g_iadd hg dX10_cutSign_24 ?_
  refine g_putI hg fp_X10_47 ly3 rfl (idb rfl rfl hn) dX10_cutSign_25 ?_
  refine g_rload_n hg dX10_cutSign_28 rfl 0 rfl ?_
  refine g_getI hg fl_X10_78 ly3 rfl (idb rfl rfl hn) dX10_cutSign_29 ?_
  refine g_bipush hg dX10_cutSign_32 kB_60 ?_
  refine g_icmp_eq (tgt := 46) hg dX10_cutSign_34 (by decide) (fun c => ?_) (fun c => ?_)
  · replace h := itT c h
    exact lkX10_cutSign_46 hn hRf hg hr  _ h
  · replace h := itF c h
    refine g_rload_n hg dX10_cutSign_37 rfl 0 rfl ?_
    refine g_getI hg fl_X10_78 ly3 rfl (idb rfl rfl hn) dX10_cutSign_38 ?_
    refine g_bipush hg dX10_cutSign_41 kB_62 ?_
    refine g_icmp_ne (tgt := 93) hg dX10_cutSign_43 (by decide) (fun c => ?_) (fun c => ?_)
    · replace h := itF c h
      replace h := Option.some.inj h
      subst h
      exact g_vret hg hr dX10_cutSign_93
    · replace h := itT c h
      exact lkX10_cutSign_46 hn hRf hg hr  _ h
theorem lkX10_step_52 {g : Gm} {l0 : Launch} {E : En} {d n : Nat} {Rf : Nat → Nat → Nat} {ex : Bool} {kq : Nat × Nat} (hn : 5 ≤ n) (hRf : RfOk 2 5 kq Rf) (hg : Ok g l0 E cX10_step RX10 1 (d + 3) 0 0) {q : Mm} (hr : Ret g E 0 0 none ex n Rf none q) : ∀  (M : Mm), sX10_step_52  M = some q → WG g E 1 n Rf ex 0 0 52 [(0, rr E.1 3)] [] M := by
  intro M h
  unfold sX10_step_52 at h
  refine g_rload_n hg dX10_step_52 rfl 0 rfl ?_
  refine g_rload_n hg dX10_step_53 rfl 0 rfl ?_
  refine g_getI hg fl_X10_47 ly3 rfl (idb rfl rfl hn) dX10_step_54 ?_
  refine g_putI hg fp_X10_56 ly3 rfl (idb rfl rfl hn) dX10_step_57 ?_
  refine g_rload_n hg dX10_step_60 rfl 0 rfl ?_
  refine g_getI hg fl_X10_47 ly3 rfl (idb rfl rfl hn) dX10_step_61 ?_
  refine g_rload_n hg dX10_step_64 rfl 0 rfl ?_
  refine g_getI hg fl_X10_45 ly3 rfl (idb rfl rfl hn) dX10_step_65 ?_
  refine g_icmp_lt (tgt := 79) hg dX10_step_68 (by decide) (fun c => ?_) (fun c => ?_)
  · replace h := itT c h
    refine g_rload_n hg dX10_step_79 rfl 0 rfl ?_
    refine g_getR (r := 2) hg fl_X10_19 ly3 rfl (idb rfl rfl hn) (rfc hRf rfl rfl rfl rfl) (by decide) dX10_step_80 ?_
    refine g_rload_n hg dX10_step_83 rfl 0 rfl ?_
    refine g_getI hg fl_X10_47 ly3 rfl (idb rfl rfl hn) dX10_step_84 ?_
    obtain ⟨c87, h⟩ := ck_some h
    refine g_iald hg ly2 (idb rfl rfl hn) (inb_vp c87) dX10_step_87 ?_
    obtain ⟨q88, e88, h⟩ := Option.bind_eq_some_iff.mp h
    refine g_callSi (As := [.int ((sI M 3 5 (M.1 3 3)).1 2 ((sI M 3 5 (M.1 3 3)).1 3 3).toNatClampNeg)]) (rest := []) hg (lkX10_isDigit (by omega) hn hRf  e88) cs_X10_62 rfl rfl (Nat.le_of_ble_eq_true rfl) ⟨Nat.le_refl _, Nat.le_refl _⟩ dX10_step_88 ?_
    refine g_if_eq (tgt := 101) hg dX10_step_91 (by decide) (fun c => ?_) (fun c => ?_)
    · replace h := itT c h
      refine g_rload_n hg dX10_step_101 rfl 0 rfl ?_
      refine g_getR (r := 2) hg fl_X10_19 ly3 rfl (idb rfl rfl hn) (rfc hRf rfl rfl rfl rfl) (by decide) dX10_step_102 ?_
      refine g_rload_n hg dX10_step_105 rfl 0 rfl ?_
      refine g_getI hg fl_X10_47 ly3 rfl (idb rfl rfl hn) dX10_step_106 ?_
      obtain ⟨c109, h⟩ := ck_some h
      refine g_iald hg ly2 (idb rfl rfl hn) (inb_vp c109) dX10_step_109 ?_
      obtain ⟨q110, e110, h⟩ := Option.bind_eq_some_iff.mp h
      refine g_callSi (As := [.int (q88.2.1 2 (q88.2.1 3 3).toNatClampNeg)]) (rest := []) hg (lkX10_isLetter (by omega) hn hRf  e110) cs_X10_69 rfl rfl (Nat.le_of_ble_eq_true rfl) ⟨Nat.le_refl _, Nat.le_refl _⟩ dX10_step_110 ?_
      refine g_if_eq (tgt := 123) hg dX10_step_113 (by decide) (fun c => ?_) (fun c => ?_)
      · replace h := itT c h
        refine g_rload_n hg dX10_step_123 rfl 0 rfl ?_
        obtain ⟨M124, e124, h⟩ := Option.bind_eq_some_iff.mp h
        refine g_callVv (As := []) (rest := []) hg (lkX10_cutSign (by omega) hn hRf  e124) cv_X10_75 rfl ly3 (idb rfl rfl hn) rfl rfl (Nat.le_of_ble_eq_true rfl) ⟨Nat.le_refl _, Nat.le_refl _⟩ dX10_step_124 ?_
        replace h := Option.some.inj h
        subst h
        exact g_vret hg hr dX10_step_127
      · replace h := itF c h
        refine g_rload_n hg dX10_step_116 rfl 0 rfl ?_
        obtain ⟨M117, e117, h⟩ := Option.bind_eq_some_iff.mp h
        refine g_callVv (As := []) (rest := []) hg (lkX10_cutWord (by omega) hn hRf  e117) cv_X10_72 rfl ly3 (idb rfl rfl hn) rfl rfl (Nat.le_of_ble_eq_true rfl) ⟨Nat.le_refl _, Nat.le_refl _⟩ dX10_step_117 ?_
        refine g_goto (tgt := 127) hg dX10_step_120 (by decide) ?_
        replace h := Option.some.inj h
        subst h
        exact g_vret hg hr dX10_step_127
    · replace h := itF c h
      refine g_rload_n hg dX10_step_94 rfl 0 rfl ?_
      obtain ⟨M95, e95, h⟩ := Option.bind_eq_some_iff.mp h
      refine g_callVv (As := []) (rest := []) hg (lkX10_cutNumber (by omega) hn hRf  e95) cv_X10_66 rfl ly3 (idb rfl rfl hn) rfl rfl (Nat.le_of_ble_eq_true rfl) ⟨Nat.le_refl _, Nat.le_refl _⟩ dX10_step_95 ?_
      refine g_goto (tgt := 127) hg dX10_step_98 (by decide) ?_
      replace h := Option.some.inj h
      subst h
      exact g_vret hg hr dX10_step_127
  · replace h := itF c h
    refine g_rload_n hg dX10_step_71 rfl 0 rfl ?_
    refine g_iconst hg dX10_step_72 kI_0 ?_
    refine g_putI hg fp_X10_59 ly3 rfl (idb rfl rfl hn) dX10_step_73 ?_
    refine g_goto (tgt := 127) hg dX10_step_76 (by decide) ?_
    replace h := Option.some.inj h
    subst h
    exact g_vret hg hr dX10_step_127
theorem lkX10_step_39 {g : Gm} {l0 : Launch} {E : En} {d n : Nat} {Rf : Nat → Nat → Nat} {ex : Bool} {kq : Nat × Nat} (hn : 5 ≤ n) (hRf : RfOk 2 5 kq Rf) (hg : Ok g l0 E cX10_step RX10 1 (d + 3) 0 0) {q : Mm} (hr : Ret g E 0 0 none ex n Rf none q) {k0 : Mm → Option (Mm)} (hk0 : ∀  (M : Mm), k0  M = some q → WG g E 1 n Rf ex 0 0 0 [(0, rr E.1 3)] [] M) : ∀  (M : Mm), sX10_step_39 k0  M = some q → WG g E 1 n Rf ex 0 0 39 [(0, rr E.1 3)] [] M := by
  intro M h
  unfold sX10_step_39 at h
  refine g_rload_n hg dX10_step_39 rfl 0 rfl ?_
  refine g_dup hg dX10_step_40 rfl ?_
  refine g_getI hg fl_X10_47 ly3 rfl (idb rfl rfl hn) dX10_step_41 ?_
  refine g_iconst hg dX10_step_44 kI_1 ?_
  refine g_iadd hg dX10_step_45 ?_
  refine g_putI hg fp_X10_47 ly3 rfl (idb rfl rfl hn) dX10_step_46 ?_
  refine g_goto (tgt := 0) hg dX10_step_49 (by decide) ?_
  exact hk0 _ h
theorem lkX10_step_0 {g : Gm} {l0 : Launch} {E : En} {d n : Nat} {Rf : Nat → Nat → Nat} {ex : Bool} {kq : Nat × Nat} (hn : 5 ≤ n) (hRf : RfOk 2 5 kq Rf) (hg : Ok g l0 E cX10_step RX10 1 (d + 3) 0 0) {q : Mm} (hr : Ret g E 0 0 none ex n Rf none q) : ∀ (F : Nat)  (M : Mm), sX10_step_0 F  M = some q → WG g E 1 n Rf ex 0 0 0 [(0, rr E.1 3)] [] M := by
  intro F
  induction F with
  | zero =>
    intro M h
    cases h
  | succ F ih =>
    intro M h
    rw [sX10_step_0] at h
    refine g_rload_n hg dX10_step_0 rfl 0 rfl ?_
    refine g_getI hg fl_X10_47 ly3 rfl (idb rfl rfl hn) dX10_step_1 ?_
    refine g_rload_n hg dX10_step_4 rfl 0 rfl ?_
    refine g_getI hg fl_X10_45 ly3 rfl (idb rfl rfl hn) dX10_step_5 ?_
    refine g_icmp_ge (tgt := 52) hg dX10_step_8 (by decide) (fun c => ?_) (fun c => ?_)
    · replace h := itT c h
      exact lkX10_step_52 hn hRf hg hr  _ h
    · replace h := itF c h
      refine g_rload_n hg dX10_step_11 rfl 0 rfl ?_
      refine g_getR (r := 2) hg fl_X10_19 ly3 rfl (idb rfl rfl hn) (rfc hRf rfl rfl rfl rfl) (by decide) dX10_step_12 ?_
      refine g_rload_n hg dX10_step_15 rfl 0 rfl ?_
      refine g_getI hg fl_X10_47 ly3 rfl (idb rfl rfl hn) dX10_step_16 ?_
      obtain ⟨c19, h⟩ := ck_some h
      refine g_iald hg ly2 (idb rfl rfl hn) (inb_vp c19) dX10_step_19 ?_
      refine g_bipush hg dX10_step_20 kB_32 ?_
      refine g_icmp_eq (tgt := 39) hg dX10_step_22 (by decide) (fun c => ?_) (fun c => ?_)
      · replace h := itT c h
        exact lkX10_step_39 hn hRf hg hr ih _ h
      · replace h := itF c h
        refine g_rload_n hg dX10_step_25 rfl 0 rfl ?_
        refine g_getR (r := 2) hg fl_X10_19 ly3 rfl (idb rfl rfl hn) (rfc hRf rfl rfl rfl rfl) (by decide) dX10_step_26 ?_
        refine g_rload_n hg dX10_step_29 rfl 0 rfl ?_
        refine g_getI hg fl_X10_47 ly3 rfl (idb rfl rfl hn) dX10_step_30 ?_
        obtain ⟨c33, h⟩ := ck_some h
        refine g_iald hg ly2 (idb rfl rfl hn) (inb_vp c33) dX10_step_33 ?_
        refine g_bipush hg dX10_step_34 kB_10 ?_
        refine g_icmp_ne (tgt := 52) hg dX10_step_36 (by decide) (fun c => ?_) (fun c => ?_)
        · replace h := itF c h
          exact lkX10_step_52 hn hRf hg hr  _ h
        · replace h := itT c h
          exact lkX10_step_39 hn hRf hg hr ih _ h
theorem lkX10_step {l0 : Launch} {E : En} {d n : Nat} {Rf : Nat → Nat → Nat} {ex : Bool} {kq : Nat × Nat} (hd : 3 ≤ d) (hn : 5 ≤ n) (hRf : RfOk 2 5 kq Rf)  {M : Mm} {q : Mm} (h : sX10_step M = some q) : Ct l0 E yX10_step cX10_step 1 none d 0 0 [rr E.1 3] ex n Rf M n Rf none q := by
  obtain ⟨d, rfl⟩ := Nat.exists_eq_add_of_le' hd
  refine Ct.of pnX10 (Nat.le_of_ble_eq_true rfl) (fun g hg hr _ => ?_)
  replace hg : Ok g l0 E cX10_step RX10 1 (d + 3) 0 0 := hg
  show WG g E 1 n Rf ex 0 0 0 [(0, rr E.1 3)] [] M
  unfold sX10_step at h
  exact lkX10_step_0 hn hRf hg hr  4096 _ h
theorem lkX10_start {l0 : Launch} {E : En} {d n : Nat} {Rf : Nat → Nat → Nat} {ex : Bool} {kq : Nat × Nat} (hd : 4 ≤ d) (hn : 5 ≤ n) (hRf : RfOk 2 5 kq Rf) {x1 : Int32} {M : Mm} {q : Mm} (h : sX10_start x1 M = some q) : Ct l0 E yX10_start cX10_start 2 none d 0 0 [rr E.1 3, .int x1] ex n Rf M n Rf none q := by
  obtain ⟨d, rfl⟩ := Nat.exists_eq_add_of_le' hd
  refine Ct.of pnX10 (Nat.le_of_ble_eq_true rfl) (fun g hg hr _ => ?_)
  replace hg : Ok g l0 E cX10_start RX10 2 (d + 4) 0 0 := hg
  show WG g E 2 n Rf ex 0 0 0 [(0, rr E.1 3), (1, .int x1)] [] M
  unfold sX10_start at h
  refine g_rload_n hg dX10_start_0 rfl 0 rfl ?_
  refine g_iload_n hg dX10_start_1 rfl 1 rfl ?_
  refine g_rload_n hg dX10_start_2 rfl 0 rfl ?_
  refine g_getR (r := 2) hg fl_X10_19 ly3 rfl (idb rfl rfl hn) (rfc hRf rfl rfl rfl rfl) (by decide) dX10_start_3 ?_
  refine g_alen (v := 800) hg ly2 (fun _ => rfl) (idb rfl rfl hn) (by decide) dX10_start_6 ?_
  refine g_mmin hg mw_X10_39 (Nat.le_of_ble_eq_true rfl) ⟨Nat.le_refl _, Nat.le_refl _⟩ dX10_start_7 ?_
  refine g_putI hg fp_X10_45 ly3 rfl (idb rfl rfl hn) dX10_start_10 ?_
  refine g_rload_n hg dX10_start_13 rfl 0 rfl ?_
  refine g_iconst hg dX10_start_14 kI_0 ?_
  refine g_putI hg fp_X10_47 ly3 rfl (idb rfl rfl hn) dX10_start_15 ?_
  refine g_rload_n hg dX10_start_18 rfl 0 rfl ?_
  refine g_iconst hg dX10_start_19 kI_0 ?_
  refine g_putI hg fp_X10_50 ly3 rfl (idb rfl rfl hn) dX10_start_20 ?_
  refine g_rload_n hg dX10_start_23 rfl 0 rfl ?_
  refine g_iconst hg dX10_start_24 kI_m1 ?_
  refine g_putI hg fp_X10_15 ly3 rfl (idb rfl rfl hn) dX10_start_25 ?_
  refine g_rload_n hg dX10_start_28 rfl 0 rfl ?_
  obtain ⟨M29, e29, h⟩ := Option.bind_eq_some_iff.mp h
  refine g_callVv (As := []) (rest := []) hg (lkX10_step (by omega) hn hRf  e29) cv_X10_53 rfl ly3 (idb rfl rfl hn) rfl rfl (Nat.le_of_ble_eq_true rfl) ⟨Nat.le_refl _, Nat.le_refl _⟩ dX10_start_29 ?_
  replace h := Option.some.inj h
  subst h
  exact g_vret hg hr dX10_start_32
theorem lkX7_get {l0 : Launch} {E : En} {d n : Nat} {Rf : Nat → Nat → Nat} {ex : Bool} {kq : Nat × Nat} (hd : 1 ≤ d) (hn : 239 ≤ n) (hRf : RfOk 1 239 kq Rf) {r0 : Nat} (hr0 : isNt r0) {x1 : Int32} {x2 : Int32} {M : Mm} {q : Int32 × Mm} (h : sX7_get r0 x1 x2 M = some q) : Ct l0 E yX7_get cX7_get 3 (some .int) d 0 0 [rr E.1 r0, .int x1, .int x2] ex n Rf M n Rf (some (.int q.1)) q.2 := by
  obtain ⟨d, rfl⟩ := Nat.exists_eq_add_of_le' hd
  refine Ct.of pnX7 (Nat.le_of_ble_eq_true rfl) (fun g hg hr _ => ?_)
  replace hg : Ok g l0 E cX7_get RX7 3 (d + 1) 0 0 := hg
  show WG g E 3 n Rf ex 0 0 0 [(0, rr E.1 r0), (1, .int x1), (2, .int x2)] [] M
  unfold sX7_get at h
  refine g_rload_n hg dX7_get_0 rfl 0 rfl ?_
  refine g_getR (r := (r0 + 1)) hg fl_X7_21 (nt_lay hr0) rfl (nt_bd hr0 hn) (nt_rf hr0 hRf) (Nat.succ_pos _) dX7_get_1 ?_
  refine g_iload_n hg dX7_get_4 rfl 1 rfl ?_
  refine g_bipush hg dX7_get_5 kB_6 ?_
  refine g_imul hg dX7_get_7 ?_
  refine g_iload_n hg dX7_get_8 rfl 2 rfl ?_
  refine g_iadd hg dX7_get_9 ?_
  obtain ⟨c10, h⟩ := ck_some h
  refine g_iald hg (nt_lay1 hr0) (nt_bd1 hr0 hn) (inb_vp c10) dX7_get_10 ?_
  replace h := Option.some.inj h
  subst h
  exact g_iret hg hr dX7_get_11
theorem lkX7_depth {l0 : Launch} {E : En} {d n : Nat} {Rf : Nat → Nat → Nat} {ex : Bool} {kq : Nat × Nat} (hd : 2 ≤ d) (hn : 239 ≤ n) (hRf : RfOk 1 239 kq Rf) {r0 : Nat} (hr0 : isNt r0)  {M : Mm} {q : Int32 × Mm} (h : sX7_depth r0 M = some q) : Ct l0 E yX7_depth cX7_depth 1 (some .int) d 0 0 [rr E.1 r0] ex n Rf M n Rf (some (.int q.1)) q.2 := by
  obtain ⟨d, rfl⟩ := Nat.exists_eq_add_of_le' hd
  refine Ct.of pnX7 (Nat.le_of_ble_eq_true rfl) (fun g hg hr _ => ?_)
  replace hg : Ok g l0 E cX7_depth RX7 1 (d + 2) 0 0 := hg
  show WG g E 1 n Rf ex 0 0 0 [(0, rr E.1 r0)] [] M
  unfold sX7_depth at h
  refine g_rload_n hg dX7_depth_0 rfl 0 rfl ?_
  refine g_getI hg fl_X7_25 (nt_lay hr0) rfl (nt_bd hr0 hn) dX7_depth_1 ?_
  refine g_if_le (tgt := 21) hg dX7_depth_4 (by decide) (fun c => ?_) (fun c => ?_)
  · replace h := itT c h
    refine g_iconst hg dX7_depth_21 kI_0 ?_
    replace h := Option.some.inj h
    subst h
    exact g_iret hg hr dX7_depth_22
  · replace h := itF c h
    refine g_rload_n hg dX7_depth_7 rfl 0 rfl ?_
    refine g_rload_n hg dX7_depth_8 rfl 0 rfl ?_
    refine g_getI hg fl_X7_25 (nt_lay hr0) rfl (nt_bd hr0 hn) dX7_depth_9 ?_
    refine g_iconst hg dX7_depth_12 kI_1 ?_
    refine g_isub hg dX7_depth_13 ?_
    refine g_iconst hg dX7_depth_14 kI_1 ?_
    obtain ⟨q15, e15, h⟩ := Option.bind_eq_some_iff.mp h
    refine g_callVi (As := [.int ((M.1 r0 3) - 1), .int 1]) (rest := []) hg (lkX7_get (by omega) hn hRf hr0 e15) cv_X7_28 rfl (nt_lay hr0) (nt_bd hr0 hn) rfl rfl (Nat.le_of_ble_eq_true rfl) ⟨Nat.le_refl _, Nat.le_refl _⟩ dX7_depth_15 ?_
    refine g_goto (tgt := 22) hg dX7_depth_18 (by decide) ?_
    replace h := Option.some.inj h
    subst h
    exact g_iret hg hr dX7_depth_22
theorem lkX10_refuse {l0 : Launch} {E : En} {d n : Nat} {Rf : Nat → Nat → Nat} {ex : Bool} {kq : Nat × Nat} (hd : 1 ≤ d) (hn : 5 ≤ n) (hRf : RfOk 2 5 kq Rf) {x1 : Int32} {M : Mm} {q : Int32 × Mm} (h : sX10_refuse x1 M = some q) : Ct l0 E yX10_refuse cX10_refuse 2 (some .boolean) d 0 0 [rr E.1 3, .int x1] ex n Rf M n Rf (some (.int q.1)) q.2 := by
  obtain ⟨d, rfl⟩ := Nat.exists_eq_add_of_le' hd
  refine Ct.of pnX10 (Nat.le_of_ble_eq_true rfl) (fun g hg hr _ => ?_)
  replace hg : Ok g l0 E cX10_refuse RX10 2 (d + 1) 0 0 := hg
  show WG g E 2 n Rf ex 0 0 0 [(0, rr E.1 3), (1, .int x1)] [] M
  unfold sX10_refuse at h
  refine g_rload_n hg dX10_refuse_0 rfl 0 rfl ?_
  refine g_iload_n hg dX10_refuse_1 rfl 1 rfl ?_
  refine g_putI hg fp_X10_50 ly3 rfl (idb rfl rfl hn) dX10_refuse_2 ?_
  refine g_rload_n hg dX10_refuse_5 rfl 0 rfl ?_
  refine g_rload_n hg dX10_refuse_6 rfl 0 rfl ?_
  refine g_getI hg fl_X10_56 ly3 rfl (idb rfl rfl hn) dX10_refuse_7 ?_
  refine g_putI hg fp_X10_15 ly3 rfl (idb rfl rfl hn) dX10_refuse_10 ?_
  refine g_iconst hg dX10_refuse_13 kI_0 ?_
  replace h := Option.some.inj h
  subst h
  exact g_zret hg hr rfl dX10_refuse_14
theorem lkX10_isNumberTo_30 {g : Gm} {l0 : Launch} {E : En} {d n : Nat} {Rf : Nat → Nat → Nat} {ex : Bool} {kq : Nat × Nat} (hn : 5 ≤ n) (hRf : RfOk 2 5 kq Rf) (hg : Ok g l0 E cX10_isNumberTo RX10 2 (d + 2) 0 0) {q : Int32 × Mm} (hr : Ret g E 0 0 (some .boolean) ex n Rf (some (.int q.1)) q.2) : ∀  (M : Mm), sX10_isNumberTo_30  M = some q → WG g E 2 n Rf ex 0 0 30 [] [] M := by
  intro M h
  unfold sX10_isNumberTo_30 at h
  refine g_iconst hg dX10_isNumberTo_30 kI_1 ?_
  refine g_goto (tgt := 35) hg dX10_isNumberTo_31 (by decide) ?_
  replace h := Option.some.inj h
  subst h
  exact g_zret hg hr rfl dX10_isNumberTo_35
theorem lkX10_isNumberTo {l0 : Launch} {E : En} {d n : Nat} {Rf : Nat → Nat → Nat} {ex : Bool} {kq : Nat × Nat} (hd : 2 ≤ d) (hn : 5 ≤ n) (hRf : RfOk 2 5 kq Rf) {x1 : Int32} {M : Mm} {q : Int32 × Mm} (h : sX10_isNumberTo x1 M = some q) : Ct l0 E yX10_isNumberTo cX10_isNumberTo 2 (some .boolean) d 0 0 [rr E.1 3, .int x1] ex n Rf M n Rf (some (.int q.1)) q.2 := by
  obtain ⟨d, rfl⟩ := Nat.exists_eq_add_of_le' hd
  refine Ct.of pnX10 (Nat.le_of_ble_eq_true rfl) (fun g hg hr _ => ?_)
  replace hg : Ok g l0 E cX10_isNumberTo RX10 2 (d + 2) 0 0 := hg
  show WG g E 2 n Rf ex 0 0 0 [(0, rr E.1 3), (1, .int x1)] [] M
  unfold sX10_isNumberTo at h
  refine g_rload_n hg dX10_isNumberTo_0 rfl 0 rfl ?_
  refine g_getI hg fl_X10_59 ly3 rfl (idb rfl rfl hn) dX10_isNumberTo_1 ?_
  refine g_iconst hg dX10_isNumberTo_4 kI_1 ?_
  refine g_icmp_eq (tgt := 14) hg dX10_isNumberTo_5 (by decide) (fun c => ?_) (fun c => ?_)
  · replace h := itT c h
    refine g_rload_n hg dX10_isNumberTo_14 rfl 0 rfl ?_
    refine g_getI hg fl_X10_78 ly3 rfl (idb rfl rfl hn) dX10_isNumberTo_15 ?_
    refine g_iload_n hg dX10_isNumberTo_18 rfl 1 rfl ?_
    refine g_icmp_le (tgt := 30) hg dX10_isNumberTo_19 (by decide) (fun c => ?_) (fun c => ?_)
    · replace h := itT c h
      refine g_sub (lv' := []) [] rfl ?_
      exact lkX10_isNumberTo_30 hn hRf hg hr  _ h
    · replace h := itF c h
      refine g_rload_n hg dX10_isNumberTo_22 rfl 0 rfl ?_
      refine g_iconst hg dX10_isNumberTo_23 kI_2 ?_
      obtain ⟨q24, e24, h⟩ := Option.bind_eq_some_iff.mp h
      refine g_callVi (As := [.int 2]) (rest := []) hg (lkX10_refuse (by omega) hn hRf  e24) cv_X10_84 rfl ly3 (idb rfl rfl hn) rfl rfl (Nat.le_of_ble_eq_true rfl) ⟨Nat.le_refl _, Nat.le_refl _⟩ dX10_isNumberTo_24 ?_
      refine g_if_eq (tgt := 34) hg dX10_isNumberTo_27 (by decide) (fun c => ?_) (fun c => ?_)
      · replace h := itT c h
        refine g_iconst hg dX10_isNumberTo_34 kI_0 ?_
        replace h := Option.some.inj h
        subst h
        exact g_zret hg hr rfl dX10_isNumberTo_35
      · replace h := itF c h
        refine g_sub (lv' := []) [] rfl ?_
        exact lkX10_isNumberTo_30 hn hRf hg hr  _ h
  · replace h := itF c h
    refine g_rload_n hg dX10_isNumberTo_8 rfl 0 rfl ?_
    refine g_iconst hg dX10_isNumberTo_9 kI_1 ?_
    obtain ⟨q10, e10, h⟩ := Option.bind_eq_some_iff.mp h
    refine g_callVi (As := [.int 1]) (rest := []) hg (lkX10_refuse (by omega) hn hRf  e10) cv_X10_84 rfl ly3 (idb rfl rfl hn) rfl rfl (Nat.le_of_ble_eq_true rfl) ⟨Nat.le_refl _, Nat.le_refl _⟩ dX10_isNumberTo_10 ?_
    obtain ⟨c13, h⟩ := ck_some h
    replace h := Option.some.inj h
    subst h
    exact g_zret hg hr (isb_nar c13) dX10_isNumberTo_13
theorem lkX7_set {l0 : Launch} {E : En} {d n : Nat} {Rf : Nat → Nat → Nat} {ex : Bool} {kq : Nat × Nat} (hd : 1 ≤ d) (hn : 239 ≤ n) (hRf : RfOk 1 239 kq Rf) {r0 : Nat} (hr0 : isNt r0) {x1 : Int32} {x2 : Int32} {x3 : Int32} {M : Mm} {q : Mm} (h : sX7_set r0 x1 x2 x3 M = some q) : Ct l0 E yX7_set cX7_set 4 none d 0 0 [rr E.1 r0, .int x1, .int x2, .int x3] ex n Rf M n Rf none q := by
  obtain ⟨d, rfl⟩ := Nat.exists_eq_add_of_le' hd
  refine Ct.of pnX7 (Nat.le_of_ble_eq_true rfl) (fun g hg hr _ => ?_)
  replace hg : Ok g l0 E cX7_set RX7 4 (d + 1) 0 0 := hg
  show WG g E 4 n Rf ex 0 0 0 [(0, rr E.1 r0), (1, .int x1), (2, .int x2), (3, .int x3)] [] M
  unfold sX7_set at h
  refine g_rload_n hg dX7_set_0 rfl 0 rfl ?_
  refine g_getR (r := (r0 + 1)) hg fl_X7_21 (nt_lay hr0) rfl (nt_bd hr0 hn) (nt_rf hr0 hRf) (Nat.succ_pos _) dX7_set_1 ?_
  refine g_iload_n hg dX7_set_4 rfl 1 rfl ?_
  refine g_bipush hg dX7_set_5 kB_6 ?_
  refine g_imul hg dX7_set_7 ?_
  refine g_iload_n hg dX7_set_8 rfl 2 rfl ?_
  refine g_iadd hg dX7_set_9 ?_
  refine g_iload_n hg dX7_set_10 rfl 3 rfl ?_
  obtain ⟨c11, h⟩ := ck_some h
  refine g_iast hg (nt_lay1 hr0) (nt_bd1 hr0 hn) (inb_vp c11) dX7_set_11 ?_
  replace h := Option.some.inj h
  subst h
  exact g_vret hg hr dX7_set_12
theorem lkX10_isSign {l0 : Launch} {E : En} {d n : Nat} {Rf : Nat → Nat → Nat} {ex : Bool} {kq : Nat × Nat} (hd : 1 ≤ d) (hn : 5 ≤ n) (hRf : RfOk 2 5 kq Rf) {x1 : Int32} {M : Mm} {q : Int32 × Mm} (h : sX10_isSign x1 M = some q) : Ct l0 E yX10_isSign cX10_isSign 2 (some .boolean) d 0 0 [rr E.1 3, .int x1] ex n Rf M n Rf (some (.int q.1)) q.2 := by
  obtain ⟨d, rfl⟩ := Nat.exists_eq_add_of_le' hd
  refine Ct.of pnX10 (Nat.le_of_ble_eq_true rfl) (fun g hg hr _ => ?_)
  replace hg : Ok g l0 E cX10_isSign RX10 2 (d + 1) 0 0 := hg
  show WG g E 2 n Rf ex 0 0 0 [(0, rr E.1 3), (1, .int x1)] [] M
  unfold sX10_isSign at h
  refine g_rload_n hg dX10_isSign_0 rfl 0 rfl ?_
  refine g_getI hg fl_X10_59 ly3 rfl (idb rfl rfl hn) dX10_isSign_1 ?_
  refine g_iconst hg dX10_isSign_4 kI_3 ?_
  refine g_icmp_ne (tgt := 20) hg dX10_isSign_5 (by decide) (fun c => ?_) (fun c => ?_)
  · rw [if_neg c] at h
    refine g_iconst hg dX10_isSign_20 kI_0 ?_
    replace h := Option.some.inj h
    subst h
    exact g_zret hg hr rfl dX10_isSign_21
  · rw [if_pos c] at h
    refine g_rload_n hg dX10_isSign_8 rfl 0 rfl ?_
    refine g_getI hg fl_X10_78 ly3 rfl (idb rfl rfl hn) dX10_isSign_9 ?_
    refine g_iload_n hg dX10_isSign_12 rfl 1 rfl ?_
    refine g_icmp_ne (tgt := 20) hg dX10_isSign_13 (by decide) (fun c => ?_) (fun c => ?_)
    · rw [if_neg c] at h
      refine g_iconst hg dX10_isSign_20 kI_0 ?_
      replace h := Option.some.inj h
      subst h
      exact g_zret hg hr rfl dX10_isSign_21
    · rw [if_pos c] at h
      refine g_iconst hg dX10_isSign_16 kI_1 ?_
      refine g_goto (tgt := 21) hg dX10_isSign_17 (by decide) ?_
      replace h := Option.some.inj h
      subst h
      exact g_zret hg hr rfl dX10_isSign_21
theorem lkX10_takeSign {l0 : Launch} {E : En} {d n : Nat} {Rf : Nat → Nat → Nat} {ex : Bool} {kq : Nat × Nat} (hd : 4 ≤ d) (hn : 5 ≤ n) (hRf : RfOk 2 5 kq Rf) {x1 : Int32} {M : Mm} {q : Int32 × Mm} (h : sX10_takeSign x1 M = some q) : Ct l0 E yX10_takeSign cX10_takeSign 2 (some .boolean) d 0 0 [rr E.1 3, .int x1] ex n Rf M n Rf (some (.int q.1)) q.2 := by
  obtain ⟨d, rfl⟩ := Nat.exists_eq_add_of_le' hd
  refine Ct.of pnX10 (Nat.le_of_ble_eq_true rfl) (fun g hg hr _ => ?_)
  replace hg : Ok g l0 E cX10_takeSign RX10 2 (d + 4) 0 0 := hg
  show WG g E 2 n Rf ex 0 0 0 [(0, rr E.1 3), (1, .int x1)] [] M
  unfold sX10_takeSign at h
  refine g_rload_n hg dX10_takeSign_0 rfl 0 rfl ?_
  refine g_iload_n hg dX10_takeSign_1 rfl 1 rfl ?_
  obtain ⟨q2, e2, h⟩ := Option.bind_eq_some_iff.mp h
  refine g_callVi (As := [.int x1]) (rest := []) hg (lkX10_isSign (by omega) hn hRf  e2) cv_X10_81 rfl ly3 (idb rfl rfl hn) rfl rfl (Nat.le_of_ble_eq_true rfl) ⟨Nat.le_refl _, Nat.le_refl _⟩ dX10_takeSign_2 ?_
  refine g_if_ne (tgt := 14) hg dX10_takeSign_5 (by decide) (fun c => ?_) (fun c => ?_)
  · replace h := itF c h
    refine g_rload_n hg dX10_takeSign_14 rfl 0 rfl ?_
    obtain ⟨M15, e15, h⟩ := Option.bind_eq_some_iff.mp h
    refine g_callVv (As := []) (rest := []) hg (lkX10_step (by omega) hn hRf  e15) cv_X10_53 rfl ly3 (idb rfl rfl hn) rfl rfl (Nat.le_of_ble_eq_true rfl) ⟨Nat.le_refl _, Nat.le_refl _⟩ dX10_takeSign_15 ?_
    refine g_iconst hg dX10_takeSign_18 kI_1 ?_
    replace h := Option.some.inj h
    subst h
    exact g_zret hg hr rfl dX10_takeSign_19
  · replace h := itT c h
    refine g_rload_n hg dX10_takeSign_8 rfl 0 rfl ?_
    refine g_iconst hg dX10_takeSign_9 kI_1 ?_
    obtain ⟨q10, e10, h⟩ := Option.bind_eq_some_iff.mp h
    refine g_callVi (As := [.int 1]) (rest := []) hg (lkX10_refuse (by omega) hn hRf  e10) cv_X10_84 rfl ly3 (idb rfl rfl hn) rfl rfl (Nat.le_of_ble_eq_true rfl) ⟨Nat.le_refl _, Nat.le_refl _⟩ dX10_takeSign_10 ?_
    obtain ⟨c13, h⟩ := ck_some h
    replace h := Option.some.inj h
    subst h
    exact g_zret hg hr (isb_nar c13) dX10_takeSign_13
theorem lkX7_readDepths {l0 : Launch} {E : En} {d n : Nat} {Rf : Nat → Nat → Nat} {ex : Bool} {kq : Nat × Nat} (hd : 5 ≤ d) (hn : 239 ≤ n) (hRf : RfOk 1 239 kq Rf) {r0 : Nat} (hr0 : isNt r0) {x2 : Int32} {M : Mm} {q : Int32 × Mm} (h : sX7_readDepths r0 x2 M = some q) : Ct l0 E yX7_readDepths cX7_readDepths 4 (some .boolean) d 0 0 [rr E.1 r0, rr E.1 3, .int x2] ex n Rf M n Rf (some (.int q.1)) q.2 := by
  obtain ⟨d, rfl⟩ := Nat.exists_eq_add_of_le' hd
  refine Ct.of pnX7 (Nat.le_of_ble_eq_true rfl) (fun g hg hr _ => ?_)
  replace hg : Ok g l0 E cX7_readDepths RX7 4 (d + 5) 0 0 := hg
  show WG g E 4 n Rf ex 0 0 0 [(0, rr E.1 r0), (1, rr E.1 3), (2, .int x2)] [] M
  unfold sX7_readDepths at h
  refine g_rload_n hg dX7_readDepths_0 rfl 0 rfl ?_
  obtain ⟨q1, e1, h⟩ := Option.bind_eq_some_iff.mp h
  refine g_callVi (As := []) (rest := []) hg (lkX7_depth (by omega) hn hRf hr0 e1) cv_X7_60 rfl (nt_lay hr0) (nt_bd hr0 hn) rfl rfl (Nat.le_of_ble_eq_true rfl) ⟨Nat.le_refl _, Nat.le_refl _⟩ dX7_readDepths_1 ?_
  refine g_istore_n (lv' := [(3, .int q1.1), (0, rr E.1 r0), (1, rr E.1 3), (2, .int x2)]) hg dX7_readDepths_4 rfl (by decide) rfl ?_
  refine g_rload_n hg dX7_readDepths_5 rfl 2 rfl ?_
  refine g_sipush hg dX7_readDepths_6 kS_300 ?_
  obtain ⟨q9, e9, h⟩ := Option.bind_eq_some_iff.mp h
  refine g_callVi (As := [.int 300]) (rest := []) hg (lkX10_isNumberTo (by omega) (Nat.le_trans (by decide : 5 ≤ 239) hn) (hRf.mono (by decide) (by decide))  e9) cv_X7_64 rfl ly3 (idb rfl rfl hn) rfl rfl (Nat.le_of_ble_eq_true rfl) ⟨Nat.le_refl _, Nat.le_refl _⟩ dX7_readDepths_9 ?_
  refine g_if_ne (tgt := 17) hg dX7_readDepths_12 (by decide) (fun c => ?_) (fun c => ?_)
  · replace h := itF c h
    refine g_rload_n hg dX7_readDepths_17 rfl 2 rfl ?_
    refine g_getI hg fl_X7_67 ly3 rfl (idb rfl rfl hn) dX7_readDepths_18 ?_
    refine g_iload_n hg dX7_readDepths_21 rfl 0 rfl ?_
    refine g_icmp_eq (tgt := 31) hg dX7_readDepths_22 (by decide) (fun c => ?_) (fun c => ?_)
    · replace h := itT c h
      refine g_rload_n hg dX7_readDepths_31 rfl 1 rfl ?_
      refine g_iload_n hg dX7_readDepths_32 rfl 3 rfl ?_
      refine g_iconst hg dX7_readDepths_33 kI_0 ?_
      refine g_iload_n hg dX7_readDepths_34 rfl 0 rfl ?_
      obtain ⟨M35, e35, h⟩ := Option.bind_eq_some_iff.mp h
      refine g_callVv (As := [.int x2, .int 0, .int q1.1]) (rest := []) hg (lkX7_set (by omega) hn hRf hr0 e35) cv_X7_70 rfl (nt_lay hr0) (nt_bd hr0 hn) rfl rfl (Nat.le_of_ble_eq_true rfl) ⟨Nat.le_refl _, Nat.le_refl _⟩ dX7_readDepths_35 ?_
      refine g_rload_n hg dX7_readDepths_38 rfl 2 rfl ?_
      obtain ⟨M39, e39, h⟩ := Option.bind_eq_some_iff.mp h
      refine g_callVv (As := []) (rest := []) hg (lkX10_step (by omega) (Nat.le_trans (by decide : 5 ≤ 239) hn) (hRf.mono (by decide) (by decide))  e39) cv_X7_74 rfl ly3 (idb rfl rfl hn) rfl rfl (Nat.le_of_ble_eq_true rfl) ⟨Nat.le_refl _, Nat.le_refl _⟩ dX7_readDepths_39 ?_
      refine g_rload_n hg dX7_readDepths_42 rfl 2 rfl ?_
      refine g_bipush hg dX7_readDepths_43 kB_45 ?_
      obtain ⟨q45, e45, h⟩ := Option.bind_eq_some_iff.mp h
      refine g_callVi (As := [.int 45]) (rest := []) hg (lkX10_takeSign (by omega) (Nat.le_trans (by decide : 5 ≤ 239) hn) (hRf.mono (by decide) (by decide))  e45) cv_X7_53 rfl ly3 (idb rfl rfl hn) rfl rfl (Nat.le_of_ble_eq_true rfl) ⟨Nat.le_refl _, Nat.le_refl _⟩ dX7_readDepths_45 ?_
      refine g_if_eq (tgt := 61) hg dX7_readDepths_48 (by decide) (fun c => ?_) (fun c => ?_)
      · replace h := itT c h
        refine g_iconst hg dX7_readDepths_61 kI_0 ?_
        replace h := Option.some.inj h
        subst h
        exact g_zret hg hr rfl dX7_readDepths_62
      · replace h := itF c h
        refine g_rload_n hg dX7_readDepths_51 rfl 2 rfl ?_
        refine g_sipush hg dX7_readDepths_52 kS_300 ?_
        obtain ⟨q55, e55, h⟩ := Option.bind_eq_some_iff.mp h
        refine g_callVi (As := [.int 300]) (rest := []) hg (lkX10_isNumberTo (by omega) (Nat.le_trans (by decide : 5 ≤ 239) hn) (hRf.mono (by decide) (by decide))  e55) cv_X7_64 rfl ly3 (idb rfl rfl hn) rfl rfl (Nat.le_of_ble_eq_true rfl) ⟨Nat.le_refl _, Nat.le_refl _⟩ dX7_readDepths_55 ?_
        refine g_if_ne (tgt := 63) hg dX7_readDepths_58 (by decide) (fun c => ?_) (fun c => ?_)
        · replace h := itF c h
          refine g_rload_n hg dX7_readDepths_63 rfl 2 rfl ?_
          refine g_getI hg fl_X7_67 ly3 rfl (idb rfl rfl hn) dX7_readDepths_64 ?_
          refine g_iload_n hg dX7_readDepths_67 rfl 0 rfl ?_
          refine g_icmp_gt (tgt := 77) hg dX7_readDepths_68 (by decide) (fun c => ?_) (fun c => ?_)
          · replace h := itT c h
            refine g_rload_n hg dX7_readDepths_77 rfl 1 rfl ?_
            refine g_iload_n hg dX7_readDepths_78 rfl 3 rfl ?_
            refine g_iconst hg dX7_readDepths_79 kI_1 ?_
            refine g_rload_n hg dX7_readDepths_80 rfl 2 rfl ?_
            refine g_getI hg fl_X7_67 ly3 rfl (idb rfl rfl hn) dX7_readDepths_81 ?_
            obtain ⟨M84, e84, h⟩ := Option.bind_eq_some_iff.mp h
            refine g_callVv (As := [.int x2, .int 1, .int (q55.2.1 3 6)]) (rest := []) hg (lkX7_set (by omega) hn hRf hr0 e84) cv_X7_70 rfl (nt_lay hr0) (nt_bd hr0 hn) rfl rfl (Nat.le_of_ble_eq_true rfl) ⟨Nat.le_refl _, Nat.le_refl _⟩ dX7_readDepths_84 ?_
            refine g_rload_n hg dX7_readDepths_87 rfl 2 rfl ?_
            obtain ⟨M88, e88, h⟩ := Option.bind_eq_some_iff.mp h
            refine g_callVv (As := []) (rest := []) hg (lkX10_step (by omega) (Nat.le_trans (by decide : 5 ≤ 239) hn) (hRf.mono (by decide) (by decide))  e88) cv_X7_74 rfl ly3 (idb rfl rfl hn) rfl rfl (Nat.le_of_ble_eq_true rfl) ⟨Nat.le_refl _, Nat.le_refl _⟩ dX7_readDepths_88 ?_
            refine g_iconst hg dX7_readDepths_91 kI_1 ?_
            replace h := Option.some.inj h
            subst h
            exact g_zret hg hr rfl dX7_readDepths_92
          · replace h := itF c h
            refine g_rload_n hg dX7_readDepths_71 rfl 2 rfl ?_
            refine g_iconst hg dX7_readDepths_72 kI_3 ?_
            obtain ⟨q73, e73, h⟩ := Option.bind_eq_some_iff.mp h
            refine g_callVi (As := [.int 3]) (rest := []) hg (lkX10_refuse (by omega) (Nat.le_trans (by decide : 5 ≤ 239) hn) (hRf.mono (by decide) (by decide))  e73) cv_X7_57 rfl ly3 (idb rfl rfl hn) rfl rfl (Nat.le_of_ble_eq_true rfl) ⟨Nat.le_refl _, Nat.le_refl _⟩ dX7_readDepths_73 ?_
            obtain ⟨c76, h⟩ := ck_some h
            replace h := Option.some.inj h
            subst h
            exact g_zret hg hr (isb_nar c76) dX7_readDepths_76
        · replace h := itT c h
          refine g_iconst hg dX7_readDepths_61 kI_0 ?_
          replace h := Option.some.inj h
          subst h
          exact g_zret hg hr rfl dX7_readDepths_62
    · replace h := itF c h
      refine g_rload_n hg dX7_readDepths_25 rfl 2 rfl ?_
      refine g_iconst hg dX7_readDepths_26 kI_3 ?_
      obtain ⟨q27, e27, h⟩ := Option.bind_eq_some_iff.mp h
      refine g_callVi (As := [.int 3]) (rest := []) hg (lkX10_refuse (by omega) (Nat.le_trans (by decide : 5 ≤ 239) hn) (hRf.mono (by decide) (by decide))  e27) cv_X7_57 rfl ly3 (idb rfl rfl hn) rfl rfl (Nat.le_of_ble_eq_true rfl) ⟨Nat.le_refl _, Nat.le_refl _⟩ dX7_readDepths_27 ?_
      obtain ⟨c30, h⟩ := ck_some h
      replace h := Option.some.inj h
      subst h
      exact g_zret hg hr (isb_nar c30) dX7_readDepths_30
  · replace h := itT c h
    refine g_iconst hg dX7_readDepths_15 kI_0 ?_
    replace h := Option.some.inj h
    subst h
    exact g_zret hg hr rfl dX7_readDepths_16
theorem lkX10_isWord {l0 : Launch} {E : En} {d n : Nat} {Rf : Nat → Nat → Nat} {ex : Bool} {kq : Nat × Nat} (hd : 1 ≤ d) (hn : 5 ≤ n) (hRf : RfOk 2 5 kq Rf) {x1 : Int32} {x2 : Int32} {M : Mm} {q : Int32 × Mm} (h : sX10_isWord x1 x2 M = some q) : Ct l0 E yX10_isWord cX10_isWord 3 (some .boolean) d 0 0 [rr E.1 3, .int x1, .int x2] ex n Rf M n Rf (some (.int q.1)) q.2 := by
  obtain ⟨d, rfl⟩ := Nat.exists_eq_add_of_le' hd
  refine Ct.of pnX10 (Nat.le_of_ble_eq_true rfl) (fun g hg hr _ => ?_)
  replace hg : Ok g l0 E cX10_isWord RX10 3 (d + 1) 0 0 := hg
  show WG g E 3 n Rf ex 0 0 0 [(0, rr E.1 3), (1, .int x1), (2, .int x2)] [] M
  unfold sX10_isWord at h
  refine g_rload_n hg dX10_isWord_0 rfl 0 rfl ?_
  refine g_getI hg fl_X10_59 ly3 rfl (idb rfl rfl hn) dX10_isWord_1 ?_
  refine g_iconst hg dX10_isWord_4 kI_2 ?_
  refine g_icmp_ne (tgt := 30) hg dX10_isWord_5 (by decide) (fun c => ?_) (fun c => ?_)
  · rw [if_neg c] at h
    refine g_iconst hg dX10_isWord_30 kI_0 ?_
    replace h := Option.some.inj h
    subst h
    exact g_zret hg hr rfl dX10_isWord_31
  · rw [if_pos c] at h
    refine g_rload_n hg dX10_isWord_8 rfl 0 rfl ?_
    refine g_getI hg fl_X10_78 ly3 rfl (idb rfl rfl hn) dX10_isWord_9 ?_
    refine g_iload_n hg dX10_isWord_12 rfl 1 rfl ?_
    refine g_icmp_lt (tgt := 30) hg dX10_isWord_13 (by decide) (fun c => ?_) (fun c => ?_)
    · rw [if_pos c] at h
      refine g_iconst hg dX10_isWord_30 kI_0 ?_
      replace h := Option.some.inj h
      subst h
      exact g_zret hg hr rfl dX10_isWord_31
    · rw [if_neg c] at h
      refine g_rload_n hg dX10_isWord_16 rfl 0 rfl ?_
      refine g_getI hg fl_X10_78 ly3 rfl (idb rfl rfl hn) dX10_isWord_17 ?_
      refine g_iload_n hg dX10_isWord_20 rfl 1 rfl ?_
      refine g_iload_n hg dX10_isWord_21 rfl 2 rfl ?_
      refine g_iadd hg dX10_isWord_22 ?_
      refine g_icmp_ge (tgt := 30) hg dX10_isWord_23 (by decide) (fun c => ?_) (fun c => ?_)
      · rw [if_pos c] at h
        refine g_iconst hg dX10_isWord_30 kI_0 ?_
        replace h := Option.some.inj h
        subst h
        exact g_zret hg hr rfl dX10_isWord_31
      · rw [if_neg c] at h
        refine g_iconst hg dX10_isWord_26 kI_1 ?_
        refine g_goto (tgt := 31) hg dX10_isWord_27 (by decide) ?_
        replace h := Option.some.inj h
        subst h
        exact g_zret hg hr rfl dX10_isWord_31
theorem lkX7_readWord {l0 : Launch} {E : En} {d n : Nat} {Rf : Nat → Nat → Nat} {ex : Bool} {kq : Nat × Nat} (hd : 4 ≤ d) (hn : 239 ≤ n) (hRf : RfOk 1 239 kq Rf) {r0 : Nat} (hr0 : isNt r0) {x2 : Int32} {x3 : Int32} {x4 : Int32} {x5 : Int32} {M : Mm} {q : Int32 × Mm} (h : sX7_readWord r0 x2 x3 x4 x5 M = some q) : Ct l0 E yX7_readWord cX7_readWord 6 (some .boolean) d 0 0 [rr E.1 r0, rr E.1 3, .int x2, .int x3, .int x4, .int x5] ex n Rf M n Rf (some (.int q.1)) q.2 := by
  obtain ⟨d, rfl⟩ := Nat.exists_eq_add_of_le' hd
  refine Ct.of pnX7 (Nat.le_of_ble_eq_true rfl) (fun g hg hr _ => ?_)
  replace hg : Ok g l0 E cX7_readWord RX7 6 (d + 4) 0 0 := hg
  show WG g E 6 n Rf ex 0 0 0 [(0, rr E.1 r0), (1, rr E.1 3), (2, .int x2), (3, .int x3), (4, .int x4), (5, .int x5)] [] M
  unfold sX7_readWord at h
  refine g_rload_n hg dX7_readWord_0 rfl 1 rfl ?_
  refine g_iload hg dX7_readWord_1 4 rfl ?_
  refine g_iload hg dX7_readWord_3 5 rfl ?_
  obtain ⟨q5, e5, h⟩ := Option.bind_eq_some_iff.mp h
  refine g_callVi (As := [.int x4, .int x5]) (rest := []) hg (lkX10_isWord (by omega) (Nat.le_trans (by decide : 5 ≤ 239) hn) (hRf.mono (by decide) (by decide))  e5) cv_X7_81 rfl ly3 (idb rfl rfl hn) rfl rfl (Nat.le_of_ble_eq_true rfl) ⟨Nat.le_refl _, Nat.le_refl _⟩ dX7_readWord_5 ?_
  refine g_if_ne (tgt := 17) hg dX7_readWord_8 (by decide) (fun c => ?_) (fun c => ?_)
  · replace h := itF c h
    refine g_rload_n hg dX7_readWord_17 rfl 0 rfl ?_
    refine g_iload_n hg dX7_readWord_18 rfl 2 rfl ?_
    refine g_iload_n hg dX7_readWord_19 rfl 3 rfl ?_
    refine g_rload_n hg dX7_readWord_20 rfl 1 rfl ?_
    refine g_getI hg fl_X7_67 ly3 rfl (idb rfl rfl hn) dX7_readWord_21 ?_
    refine g_iload hg dX7_readWord_24 4 rfl ?_
    refine g_isub hg dX7_readWord_26 ?_
    obtain ⟨M27, e27, h⟩ := Option.bind_eq_some_iff.mp h
    refine g_callVv (As := [.int x2, .int x3, .int ((q5.2.1 3 6) - x4)]) (rest := []) hg (lkX7_set (by omega) hn hRf hr0 e27) cv_X7_70 rfl (nt_lay hr0) (nt_bd hr0 hn) rfl rfl (Nat.le_of_ble_eq_true rfl) ⟨Nat.le_refl _, Nat.le_refl _⟩ dX7_readWord_27 ?_
    refine g_rload_n hg dX7_readWord_30 rfl 1 rfl ?_
    obtain ⟨M31, e31, h⟩ := Option.bind_eq_some_iff.mp h
    refine g_callVv (As := []) (rest := []) hg (lkX10_step (by omega) (Nat.le_trans (by decide : 5 ≤ 239) hn) (hRf.mono (by decide) (by decide))  e31) cv_X7_74 rfl ly3 (idb rfl rfl hn) rfl rfl (Nat.le_of_ble_eq_true rfl) ⟨Nat.le_refl _, Nat.le_refl _⟩ dX7_readWord_31 ?_
    refine g_iconst hg dX7_readWord_34 kI_1 ?_
    replace h := Option.some.inj h
    subst h
    exact g_zret hg hr rfl dX7_readWord_35
  · replace h := itT c h
    refine g_rload_n hg dX7_readWord_11 rfl 1 rfl ?_
    refine g_iconst hg dX7_readWord_12 kI_1 ?_
    obtain ⟨q13, e13, h⟩ := Option.bind_eq_some_iff.mp h
    refine g_callVi (As := [.int 1]) (rest := []) hg (lkX10_refuse (by omega) (Nat.le_trans (by decide : 5 ≤ 239) hn) (hRf.mono (by decide) (by decide))  e13) cv_X7_57 rfl ly3 (idb rfl rfl hn) rfl rfl (Nat.le_of_ble_eq_true rfl) ⟨Nat.le_refl _, Nat.le_refl _⟩ dX7_readWord_13 ?_
    obtain ⟨c16, h⟩ := ck_some h
    replace h := Option.some.inj h
    subst h
    exact g_zret hg hr (isb_nar c16) dX7_readWord_16
theorem lkX7_readStones {l0 : Launch} {E : En} {d n : Nat} {Rf : Nat → Nat → Nat} {ex : Bool} {kq : Nat × Nat} (hd : 4 ≤ d) (hn : 239 ≤ n) (hRf : RfOk 1 239 kq Rf) {r0 : Nat} (hr0 : isNt r0) {x2 : Int32} {M : Mm} {q : Int32 × Mm} (h : sX7_readStones r0 x2 M = some q) : Ct l0 E yX7_readStones cX7_readStones 3 (some .boolean) d 0 0 [rr E.1 r0, rr E.1 3, .int x2] ex n Rf M n Rf (some (.int q.1)) q.2 := by
  obtain ⟨d, rfl⟩ := Nat.exists_eq_add_of_le' hd
  refine Ct.of pnX7 (Nat.le_of_ble_eq_true rfl) (fun g hg hr _ => ?_)
  replace hg : Ok g l0 E cX7_readStones RX7 3 (d + 4) 0 0 := hg
  show WG g E 3 n Rf ex 0 0 0 [(0, rr E.1 r0), (1, rr E.1 3), (2, .int x2)] [] M
  unfold sX7_readStones at h
  refine g_rload_n hg dX7_readStones_0 rfl 0 rfl ?_
  refine g_iload_n hg dX7_readStones_1 rfl 2 rfl ?_
  refine g_iconst hg dX7_readStones_2 kI_5 ?_
  refine g_iconst hg dX7_readStones_3 kI_0 ?_
  obtain ⟨M4, e4, h⟩ := Option.bind_eq_some_iff.mp h
  refine g_callVv (As := [.int x2, .int 5, .int 0]) (rest := []) hg (lkX7_set (by omega) hn hRf hr0 e4) cv_X7_70 rfl (nt_lay hr0) (nt_bd hr0 hn) rfl rfl (Nat.le_of_ble_eq_true rfl) ⟨Nat.le_refl _, Nat.le_refl _⟩ dX7_readStones_4 ?_
  refine g_rload_n hg dX7_readStones_7 rfl 1 rfl ?_
  refine g_bipush hg dX7_readStones_8 kB_12 ?_
  refine g_iconst hg dX7_readStones_10 kI_1 ?_
  obtain ⟨q11, e11, h⟩ := Option.bind_eq_some_iff.mp h
  refine g_callVi (As := [.int 12, .int 1]) (rest := []) hg (lkX10_isWord (by omega) (Nat.le_trans (by decide : 5 ≤ 239) hn) (hRf.mono (by decide) (by decide))  e11) cv_X7_81 rfl ly3 (idb rfl rfl hn) rfl rfl (Nat.le_of_ble_eq_true rfl) ⟨Nat.le_refl _, Nat.le_refl _⟩ dX7_readStones_11 ?_
  refine g_if_ne (tgt := 19) hg dX7_readStones_14 (by decide) (fun c => ?_) (fun c => ?_)
  · replace h := itF c h
    refine g_rload_n hg dX7_readStones_19 rfl 1 rfl ?_
    obtain ⟨M20, e20, h⟩ := Option.bind_eq_some_iff.mp h
    refine g_callVv (As := []) (rest := []) hg (lkX10_step (by omega) (Nat.le_trans (by decide : 5 ≤ 239) hn) (hRf.mono (by decide) (by decide))  e20) cv_X7_74 rfl ly3 (idb rfl rfl hn) rfl rfl (Nat.le_of_ble_eq_true rfl) ⟨Nat.le_refl _, Nat.le_refl _⟩ dX7_readStones_20 ?_
    refine g_rload_n hg dX7_readStones_23 rfl 1 rfl ?_
    refine g_bipush hg dX7_readStones_24 kB_99 ?_
    obtain ⟨q26, e26, h⟩ := Option.bind_eq_some_iff.mp h
    refine g_callVi (As := [.int 99]) (rest := []) hg (lkX10_isNumberTo (by omega) (Nat.le_trans (by decide : 5 ≤ 239) hn) (hRf.mono (by decide) (by decide))  e26) cv_X7_64 rfl ly3 (idb rfl rfl hn) rfl rfl (Nat.le_of_ble_eq_true rfl) ⟨Nat.le_refl _, Nat.le_refl _⟩ dX7_readStones_26 ?_
    refine g_if_ne (tgt := 34) hg dX7_readStones_29 (by decide) (fun c => ?_) (fun c => ?_)
    · replace h := itF c h
      refine g_rload_n hg dX7_readStones_34 rfl 0 rfl ?_
      refine g_iload_n hg dX7_readStones_35 rfl 2 rfl ?_
      refine g_iconst hg dX7_readStones_36 kI_5 ?_
      refine g_rload_n hg dX7_readStones_37 rfl 1 rfl ?_
      refine g_getI hg fl_X7_67 ly3 rfl (idb rfl rfl hn) dX7_readStones_38 ?_
      obtain ⟨M41, e41, h⟩ := Option.bind_eq_some_iff.mp h
      refine g_callVv (As := [.int x2, .int 5, .int (q26.2.1 3 6)]) (rest := []) hg (lkX7_set (by omega) hn hRf hr0 e41) cv_X7_70 rfl (nt_lay hr0) (nt_bd hr0 hn) rfl rfl (Nat.le_of_ble_eq_true rfl) ⟨Nat.le_refl _, Nat.le_refl _⟩ dX7_readStones_41 ?_
      refine g_rload_n hg dX7_readStones_44 rfl 1 rfl ?_
      obtain ⟨M45, e45, h⟩ := Option.bind_eq_some_iff.mp h
      refine g_callVv (As := []) (rest := []) hg (lkX10_step (by omega) (Nat.le_trans (by decide : 5 ≤ 239) hn) (hRf.mono (by decide) (by decide))  e45) cv_X7_74 rfl ly3 (idb rfl rfl hn) rfl rfl (Nat.le_of_ble_eq_true rfl) ⟨Nat.le_refl _, Nat.le_refl _⟩ dX7_readStones_45 ?_
      refine g_iconst hg dX7_readStones_48 kI_1 ?_
      replace h := Option.some.inj h
      subst h
      exact g_zret hg hr rfl dX7_readStones_49
    · replace h := itT c h
      refine g_iconst hg dX7_readStones_32 kI_0 ?_
      replace h := Option.some.inj h
      subst h
      exact g_zret hg hr rfl dX7_readStones_33
  · replace h := itT c h
    refine g_iconst hg dX7_readStones_17 kI_1 ?_
    replace h := Option.some.inj h
    subst h
    exact g_zret hg hr rfl dX7_readStones_18
theorem lkX7_readLook_59 {g : Gm} {l0 : Launch} {E : En} {d n : Nat} {Rf : Nat → Nat → Nat} {ex : Bool} {kq : Nat × Nat} (hn : 239 ≤ n) (hRf : RfOk 1 239 kq Rf) {r0 : Nat} (hr0 : isNt r0) (hg : Ok g l0 E cX7_readLook RX7 4 (d + 5) 0 0) {q : Int32 × Mm} (hr : Ret g E 0 0 (some .boolean) ex n Rf (some (.int q.1)) q.2) : ∀ (x2 : Int32) (M : Mm), sX7_readLook_59 r0 x2 M = some q → WG g E 4 n Rf ex 0 0 59 [(0, rr E.1 r0), (1, rr E.1 3), (2, .int x2)] [] M := by
  intro x2 M h
  unfold sX7_readLook_59 at h
  refine g_rload_n hg dX7_readLook_59 rfl 0 rfl ?_
  refine g_rload_n hg dX7_readLook_60 rfl 1 rfl ?_
  refine g_iload_n hg dX7_readLook_61 rfl 2 rfl ?_
  obtain ⟨q62, e62, h⟩ := Option.bind_eq_some_iff.mp h
  refine g_callVi (As := [rr E.1 3, .int x2]) (rest := []) hg (lkX7_readStones (by omega) hn hRf hr0 e62) cv_X7_85 rfl (nt_lay hr0) (nt_bd hr0 hn) rfl rfl (Nat.le_of_ble_eq_true rfl) ⟨Nat.le_refl _, Nat.le_refl _⟩ dX7_readLook_62 ?_
  obtain ⟨c65, h⟩ := ck_some h
  replace h := Option.some.inj h
  subst h
  exact g_zret hg hr (isb_nar c65) dX7_readLook_65
theorem lkX7_readLook_48 {g : Gm} {l0 : Launch} {E : En} {d n : Nat} {Rf : Nat → Nat → Nat} {ex : Bool} {kq : Nat × Nat} (hn : 239 ≤ n) (hRf : RfOk 1 239 kq Rf) {r0 : Nat} (hr0 : isNt r0) (hg : Ok g l0 E cX7_readLook RX7 4 (d + 5) 0 0) {q : Int32 × Mm} (hr : Ret g E 0 0 (some .boolean) ex n Rf (some (.int q.1)) q.2) : ∀ (x2 : Int32) (x3 : Int32) (s1 : Int32) (s2 : Int32) (s3 : Int32) (M : Mm), sX7_readLook_48 r0 x2 x3 s1 s2 s3 M = some q → WG g E 4 n Rf ex 0 0 48 [(0, rr E.1 r0), (1, rr E.1 3), (2, .int x2), (3, .int x3)] [.int s3, .int s2, .int s1, rr E.1 r0] M := by
  intro x2 x3 s1 s2 s3 M h
  unfold sX7_readLook_48 at h
  obtain ⟨M48, e48, h⟩ := Option.bind_eq_some_iff.mp h
  refine g_callVv (As := [.int s1, .int s2, .int s3]) (rest := []) hg (lkX7_set (by omega) hn hRf hr0 e48) cv_X7_70 rfl (nt_lay hr0) (nt_bd hr0 hn) rfl rfl (Nat.le_of_ble_eq_true rfl) ⟨Nat.le_refl _, Nat.le_refl _⟩ dX7_readLook_48 ?_
  refine g_iload_n hg dX7_readLook_51 rfl 3 rfl ?_
  refine g_if_eq (tgt := 59) hg dX7_readLook_52 (by decide) (fun c => ?_) (fun c => ?_)
  · replace h := itT c h
    refine g_sub (lv' := [(0, rr E.1 r0), (1, rr E.1 3), (2, .int x2)]) [0, 1, 2] rfl ?_
    exact lkX7_readLook_59 hn hRf hr0 hg hr  _ _ h
  · replace h := itF c h
    refine g_rload_n hg dX7_readLook_55 rfl 1 rfl ?_
    obtain ⟨M56, e56, h⟩ := Option.bind_eq_some_iff.mp h
    refine g_callVv (As := []) (rest := []) hg (lkX10_step (by omega) (Nat.le_trans (by decide : 5 ≤ 239) hn) (hRf.mono (by decide) (by decide))  e56) cv_X7_74 rfl ly3 (idb rfl rfl hn) rfl rfl (Nat.le_of_ble_eq_true rfl) ⟨Nat.le_refl _, Nat.le_refl _⟩ dX7_readLook_56 ?_
    refine g_sub (lv' := [(0, rr E.1 r0), (1, rr E.1 3), (2, .int x2)]) [0, 1, 2] rfl ?_
    exact lkX7_readLook_59 hn hRf hr0 hg hr  _ _ h
theorem lkX7_readLook {l0 : Launch} {E : En} {d n : Nat} {Rf : Nat → Nat → Nat} {ex : Bool} {kq : Nat × Nat} (hd : 5 ≤ d) (hn : 239 ≤ n) (hRf : RfOk 1 239 kq Rf) {r0 : Nat} (hr0 : isNt r0) {x2 : Int32} {M : Mm} {q : Int32 × Mm} (h : sX7_readLook r0 x2 M = some q) : Ct l0 E yX7_readLook cX7_readLook 4 (some .boolean) d 0 0 [rr E.1 r0, rr E.1 3, .int x2] ex n Rf M n Rf (some (.int q.1)) q.2 := by
  obtain ⟨d, rfl⟩ := Nat.exists_eq_add_of_le' hd
  refine Ct.of pnX7 (Nat.le_of_ble_eq_true rfl) (fun g hg hr _ => ?_)
  replace hg : Ok g l0 E cX7_readLook RX7 4 (d + 5) 0 0 := hg
  show WG g E 4 n Rf ex 0 0 0 [(0, rr E.1 r0), (1, rr E.1 3), (2, .int x2)] [] M
  unfold sX7_readLook at h
  refine g_rload_n hg dX7_readLook_0 rfl 0 rfl ?_
  refine g_rload_n hg dX7_readLook_1 rfl 1 rfl ?_
  refine g_iload_n hg dX7_readLook_2 rfl 2 rfl ?_
  refine g_iconst hg dX7_readLook_3 kI_2 ?_
  refine g_iconst hg dX7_readLook_4 kI_0 ?_
  refine g_bipush hg dX7_readLook_5 kB_6 ?_
  obtain ⟨q7, e7, h⟩ := Option.bind_eq_some_iff.mp h
  refine g_callVi (As := [rr E.1 3, .int x2, .int 2, .int 0, .int 6]) (rest := []) hg (lkX7_readWord (by omega) hn hRf hr0 e7) cv_X7_77 rfl (nt_lay hr0) (nt_bd hr0 hn) rfl rfl (Nat.le_of_ble_eq_true rfl) ⟨Nat.le_refl _, Nat.le_refl _⟩ dX7_readLook_7 ?_
  refine g_if_eq (tgt := 26) hg dX7_readLook_10 (by decide) (fun c => ?_) (fun c => ?_)
  · replace h := itT c h
    refine g_iconst hg dX7_readLook_26 kI_0 ?_
    replace h := Option.some.inj h
    subst h
    exact g_zret hg hr rfl dX7_readLook_27
  · replace h := itF c h
    refine g_rload_n hg dX7_readLook_13 rfl 0 rfl ?_
    refine g_rload_n hg dX7_readLook_14 rfl 1 rfl ?_
    refine g_iload_n hg dX7_readLook_15 rfl 2 rfl ?_
    refine g_iconst hg dX7_readLook_16 kI_3 ?_
    refine g_bipush hg dX7_readLook_17 kB_6 ?_
    refine g_iconst hg dX7_readLook_19 kI_5 ?_
    obtain ⟨q20, e20, h⟩ := Option.bind_eq_some_iff.mp h
    refine g_callVi (As := [rr E.1 3, .int x2, .int 3, .int 6, .int 5]) (rest := []) hg (lkX7_readWord (by omega) hn hRf hr0 e20) cv_X7_77 rfl (nt_lay hr0) (nt_bd hr0 hn) rfl rfl (Nat.le_of_ble_eq_true rfl) ⟨Nat.le_refl _, Nat.le_refl _⟩ dX7_readLook_20 ?_
    refine g_if_ne (tgt := 28) hg dX7_readLook_23 (by decide) (fun c => ?_) (fun c => ?_)
    · replace h := itF c h
      refine g_rload_n hg dX7_readLook_28 rfl 1 rfl ?_
      refine g_bipush hg dX7_readLook_29 kB_11 ?_
      refine g_iconst hg dX7_readLook_31 kI_1 ?_
      obtain ⟨q32, e32, h⟩ := Option.bind_eq_some_iff.mp h
      refine g_callVi (As := [.int 11, .int 1]) (rest := []) hg (lkX10_isWord (by omega) (Nat.le_trans (by decide : 5 ≤ 239) hn) (hRf.mono (by decide) (by decide))  e32) cv_X7_81 rfl ly3 (idb rfl rfl hn) rfl rfl (Nat.le_of_ble_eq_true rfl) ⟨Nat.le_refl _, Nat.le_refl _⟩ dX7_readLook_32 ?_
      refine g_istore_n (lv' := [(3, .int q32.1), (0, rr E.1 r0), (1, rr E.1 3), (2, .int x2)]) hg dX7_readLook_35 rfl (by decide) rfl ?_
      refine g_rload_n hg dX7_readLook_36 rfl 1 rfl ?_
      refine g_iload_n hg dX7_readLook_37 rfl 3 rfl ?_
      refine g_iconst hg dX7_readLook_38 kI_4 ?_
      refine g_iload_n hg dX7_readLook_39 rfl 0 rfl ?_
      refine g_if_eq (tgt := 47) hg dX7_readLook_40 (by decide) (fun c => ?_) (fun c => ?_)
      · rw [if_pos c] at h
        refine g_iconst hg dX7_readLook_47 kI_0 ?_
        refine g_sub (lv' := [(0, rr E.1 r0), (1, rr E.1 3), (2, .int x2), (3, .int q32.1)]) [1, 2, 3, 0] rfl ?_
        exact lkX7_readLook_48 hn hRf hr0 hg hr  _ _ _ _ _ _ h
      · rw [if_neg c] at h
        refine g_iconst hg dX7_readLook_43 kI_1 ?_
        refine g_goto (tgt := 48) hg dX7_readLook_44 (by decide) ?_
        refine g_sub (lv' := [(0, rr E.1 r0), (1, rr E.1 3), (2, .int x2), (3, .int q32.1)]) [1, 2, 3, 0] rfl ?_
        exact lkX7_readLook_48 hn hRf hr0 hg hr  _ _ _ _ _ _ h
    · replace h := itT c h
      refine g_iconst hg dX7_readLook_26 kI_0 ?_
      replace h := Option.some.inj h
      subst h
      exact g_zret hg hr rfl dX7_readLook_27
theorem lkX7_readFrom_89 {g : Gm} {l0 : Launch} {E : En} {d n : Nat} {Rf : Nat → Nat → Nat} {ex : Bool} {kq : Nat × Nat} (hn : 239 ≤ n) (hRf : RfOk 1 239 kq Rf) {r0 : Nat} (hr0 : isNt r0) (hg : Ok g l0 E cX7_readFrom RX7 3 (d + 6) 0 0) {q : Int32 × Mm} (hr : Ret g E 0 0 (some .boolean) ex n Rf (some (.int q.1)) q.2) : ∀ (s1 : Int32) (M : Mm), sX7_readFrom_89 r0 s1 M = some q → WG g E 3 n Rf ex 0 0 89 [] [.int s1, rr E.1 3] M := by
  intro s1 M h
  unfold sX7_readFrom_89 at h
  obtain ⟨q89, e89, h⟩ := Option.bind_eq_some_iff.mp h
  refine g_callVi (As := [.int s1]) (rest := []) hg (lkX10_refuse (by omega) (Nat.le_trans (by decide : 5 ≤ 239) hn) (hRf.mono (by decide) (by decide))  e89) cv_X7_57 rfl ly3 (idb rfl rfl hn) rfl rfl (Nat.le_of_ble_eq_true rfl) ⟨Nat.le_refl _, Nat.le_refl _⟩ dX7_readFrom_89 ?_
  obtain ⟨c92, h⟩ := ck_some h
  replace h := Option.some.inj h
  subst h
  exact g_zret hg hr (isb_nar c92) dX7_readFrom_92
theorem lkX7_readFrom_7 {g : Gm} {l0 : Launch} {E : En} {d n : Nat} {Rf : Nat → Nat → Nat} {ex : Bool} {kq : Nat × Nat} (hn : 239 ≤ n) (hRf : RfOk 1 239 kq Rf) {r0 : Nat} (hr0 : isNt r0) (hg : Ok g l0 E cX7_readFrom RX7 3 (d + 6) 0 0) {q : Int32 × Mm} (hr : Ret g E 0 0 (some .boolean) ex n Rf (some (.int q.1)) q.2) : ∀ (F : Nat) (x2 : Int32) (M : Mm), sX7_readFrom_7 r0 F x2 M = some q → WG g E 3 n Rf ex 0 0 7 [(0, rr E.1 r0), (1, rr E.1 3), (2, .int x2)] [] M := by
  intro F
  induction F with
  | zero =>
    intro x2 M h
    cases h
  | succ F ih =>
    intro x2 M h
    rw [sX7_readFrom_7] at h
    refine g_iload_n hg dX7_readFrom_7 rfl 2 rfl ?_
    refine g_bipush hg dX7_readFrom_8 kB_8 ?_
    refine g_icmp_ge (tgt := 75) hg dX7_readFrom_10 (by decide) (fun c => ?_) (fun c => ?_)
    · replace h := itT c h
      refine g_rload_n hg dX7_readFrom_75 rfl 1 rfl ?_
      refine g_rload_n hg dX7_readFrom_76 rfl 1 rfl ?_
      refine g_getI hg fl_X7_48 ly3 rfl (idb rfl rfl hn) dX7_readFrom_77 ?_
      refine g_iconst hg dX7_readFrom_80 kI_1 ?_
      refine g_icmp_ne (tgt := 88) hg dX7_readFrom_81 (by decide) (fun c => ?_) (fun c => ?_)
      · rw [if_neg c] at h
        refine g_iconst hg dX7_readFrom_88 kI_1 ?_
        refine g_sub (lv' := []) [] rfl ?_
        exact lkX7_readFrom_89 hn hRf hr0 hg hr  _ _ h
      · rw [if_pos c] at h
        refine g_iconst hg dX7_readFrom_84 kI_2 ?_
        refine g_goto (tgt := 89) hg dX7_readFrom_85 (by decide) ?_
        refine g_sub (lv' := []) [] rfl ?_
        exact lkX7_readFrom_89 hn hRf hr0 hg hr  _ _ h
    · replace h := itF c h
      refine g_rload_n hg dX7_readFrom_13 rfl 0 rfl ?_
      refine g_rload_n hg dX7_readFrom_14 rfl 1 rfl ?_
      refine g_iload_n hg dX7_readFrom_15 rfl 2 rfl ?_
      obtain ⟨q16, e16, h⟩ := Option.bind_eq_some_iff.mp h
      refine g_callVi (As := [rr E.1 3, .int x2]) (rest := []) hg (lkX7_readDepths (by omega) hn hRf hr0 e16) cv_X7_41 rfl (nt_lay hr0) (nt_bd hr0 hn) rfl rfl (Nat.le_of_ble_eq_true rfl) ⟨Nat.le_refl _, Nat.le_refl _⟩ dX7_readFrom_16 ?_
      refine g_if_eq (tgt := 31) hg dX7_readFrom_19 (by decide) (fun c => ?_) (fun c => ?_)
      · replace h := itT c h
        refine g_iconst hg dX7_readFrom_31 kI_0 ?_
        replace h := Option.some.inj h
        subst h
        exact g_zret hg hr rfl dX7_readFrom_32
      · replace h := itF c h
        refine g_rload_n hg dX7_readFrom_22 rfl 0 rfl ?_
        refine g_rload_n hg dX7_readFrom_23 rfl 1 rfl ?_
        refine g_iload_n hg dX7_readFrom_24 rfl 2 rfl ?_
        obtain ⟨q25, e25, h⟩ := Option.bind_eq_some_iff.mp h
        refine g_callVi (As := [rr E.1 3, .int x2]) (rest := []) hg (lkX7_readLook (by omega) hn hRf hr0 e25) cv_X7_45 rfl (nt_lay hr0) (nt_bd hr0 hn) rfl rfl (Nat.le_of_ble_eq_true rfl) ⟨Nat.le_refl _, Nat.le_refl _⟩ dX7_readFrom_25 ?_
        refine g_if_ne (tgt := 33) hg dX7_readFrom_28 (by decide) (fun c => ?_) (fun c => ?_)
        · replace h := itF c h
          refine g_rload_n hg dX7_readFrom_33 rfl 0 rfl ?_
          refine g_iload_n hg dX7_readFrom_34 rfl 2 rfl ?_
          refine g_iconst hg dX7_readFrom_35 kI_1 ?_
          refine g_iadd hg dX7_readFrom_36 ?_
          refine g_putI hg fp_X7_25 (nt_lay hr0) rfl (nt_bd hr0 hn) dX7_readFrom_37 ?_
          refine g_rload_n hg dX7_readFrom_40 rfl 1 rfl ?_
          refine g_getI hg fl_X7_48 ly3 rfl (idb rfl rfl hn) dX7_readFrom_41 ?_
          refine g_if_ne (tgt := 49) hg dX7_readFrom_44 (by decide) (fun c => ?_) (fun c => ?_)
          · replace h := itF c h
            refine g_rload_n hg dX7_readFrom_49 rfl 1 rfl ?_
            refine g_bipush hg dX7_readFrom_50 kB_59 ?_
            obtain ⟨q52, e52, h⟩ := Option.bind_eq_some_iff.mp h
            refine g_callVi (As := [.int 59]) (rest := []) hg (lkX10_takeSign (by omega) (Nat.le_trans (by decide : 5 ≤ 239) hn) (hRf.mono (by decide) (by decide))  e52) cv_X7_53 rfl ly3 (idb rfl rfl hn) rfl rfl (Nat.le_of_ble_eq_true rfl) ⟨Nat.le_refl _, Nat.le_refl _⟩ dX7_readFrom_52 ?_
            refine g_if_ne (tgt := 60) hg dX7_readFrom_55 (by decide) (fun c => ?_) (fun c => ?_)
            · replace h := itF c h
              refine g_rload_n hg dX7_readFrom_60 rfl 1 rfl ?_
              refine g_getI hg fl_X7_48 ly3 rfl (idb rfl rfl hn) dX7_readFrom_61 ?_
              refine g_if_ne (tgt := 69) hg dX7_readFrom_64 (by decide) (fun c => ?_) (fun c => ?_)
              · replace h := itF c h
                refine g_inc (lv' := [(2, .int (x2 + 1)), (0, rr E.1 r0), (1, rr E.1 3)]) hg dX7_readFrom_69 kI_1 2 rfl (by decide) rfl ?_
                refine g_goto (tgt := 7) hg dX7_readFrom_72 (by decide) ?_
                refine g_sub (lv' := [(0, rr E.1 r0), (1, rr E.1 3), (2, .int (x2 + 1))]) [1, 2, 0] rfl ?_
                exact ih _ _ h
              · replace h := itT c h
                refine g_iconst hg dX7_readFrom_67 kI_1 ?_
                replace h := Option.some.inj h
                subst h
                exact g_zret hg hr rfl dX7_readFrom_68
            · replace h := itT c h
              refine g_iconst hg dX7_readFrom_58 kI_0 ?_
              replace h := Option.some.inj h
              subst h
              exact g_zret hg hr rfl dX7_readFrom_59
          · replace h := itT c h
            refine g_iconst hg dX7_readFrom_47 kI_1 ?_
            replace h := Option.some.inj h
            subst h
            exact g_zret hg hr rfl dX7_readFrom_48
        · replace h := itT c h
          refine g_iconst hg dX7_readFrom_31 kI_0 ?_
          replace h := Option.some.inj h
          subst h
          exact g_zret hg hr rfl dX7_readFrom_32
theorem lkX7_readFrom {l0 : Launch} {E : En} {d n : Nat} {Rf : Nat → Nat → Nat} {ex : Bool} {kq : Nat × Nat} (hd : 6 ≤ d) (hn : 239 ≤ n) (hRf : RfOk 1 239 kq Rf) {r0 : Nat} (hr0 : isNt r0)  {M : Mm} {q : Int32 × Mm} (h : sX7_readFrom r0 M = some q) : Ct l0 E yX7_readFrom cX7_readFrom 3 (some .boolean) d 0 0 [rr E.1 r0, rr E.1 3] ex n Rf M n Rf (some (.int q.1)) q.2 := by
  obtain ⟨d, rfl⟩ := Nat.exists_eq_add_of_le' hd
  refine Ct.of pnX7 (Nat.le_of_ble_eq_true rfl) (fun g hg hr _ => ?_)
  replace hg : Ok g l0 E cX7_readFrom RX7 3 (d + 6) 0 0 := hg
  show WG g E 3 n Rf ex 0 0 0 [(0, rr E.1 r0), (1, rr E.1 3)] [] M
  unfold sX7_readFrom at h
  refine g_rload_n hg dX7_readFrom_0 rfl 0 rfl ?_
  refine g_iconst hg dX7_readFrom_1 kI_0 ?_
  refine g_putI hg fp_X7_25 (nt_lay hr0) rfl (nt_bd hr0 hn) dX7_readFrom_2 ?_
  refine g_iconst hg dX7_readFrom_5 kI_0 ?_
  refine g_istore_n (lv' := [(2, .int 0), (0, rr E.1 r0), (1, rr E.1 3)]) hg dX7_readFrom_6 rfl (by decide) rfl ?_
  refine g_sub (lv' := [(0, rr E.1 r0), (1, rr E.1 3), (2, .int 0)]) [1, 2, 0] rfl ?_
  exact lkX7_readFrom_7 hn hRf hr0 hg hr  4096 _ _ h
theorem lkX11_keepFault {l0 : Launch} {E : En} {d n : Nat} {Rf : Nat → Nat → Nat} {ex : Bool} {kq : Nat × Nat} (hd : 1 ≤ d) (hn : 239 ≤ n) (hRf : RfOk 1 239 kq Rf)  {M : Mm} {q : Mm} (h : sX11_keepFault M = some q) : Ct l0 E yX11_keepFault cX11_keepFault 1 none d 0 0 [rr E.1 1] ex n Rf M n Rf none q := by
  obtain ⟨d, rfl⟩ := Nat.exists_eq_add_of_le' hd
  refine Ct.of pnX11 (Nat.le_of_ble_eq_true rfl) (fun g hg hr _ => ?_)
  replace hg : Ok g l0 E cX11_keepFault RX11 1 (d + 1) 0 0 := hg
  show WG g E 1 n Rf ex 0 0 0 [(0, rr E.1 1)] [] M
  unfold sX11_keepFault at h
  refine g_rload_n hg dX11_keepFault_0 rfl 0 rfl ?_
  refine g_rload_n hg dX11_keepFault_1 rfl 0 rfl ?_
  refine g_getR (r := 3) hg fl_X11_18 ly1 rfl (idb rfl rfl hn) (rfc hRf rfl rfl rfl rfl) (by decide) dX11_keepFault_2 ?_
  refine g_getI hg fl_X11_358 ly3 rfl (idb rfl rfl hn) dX11_keepFault_5 ?_
  refine g_putI hg fp_X11_170 ly1 rfl (idb rfl rfl hn) dX11_keepFault_8 ?_
  refine g_rload_n hg dX11_keepFault_11 rfl 0 rfl ?_
  refine g_rload_n hg dX11_keepFault_12 rfl 0 rfl ?_
  refine g_getR (r := 3) hg fl_X11_18 ly1 rfl (idb rfl rfl hn) (rfc hRf rfl rfl rfl rfl) (by decide) dX11_keepFault_13 ?_
  refine g_getI hg fl_X11_361 ly3 rfl (idb rfl rfl hn) dX11_keepFault_16 ?_
  refine g_putI hg fp_X11_38 ly1 rfl (idb rfl rfl hn) dX11_keepFault_19 ?_
  refine g_rload_n hg dX11_keepFault_22 rfl 0 rfl ?_
  refine g_iconst hg dX11_keepFault_23 kI_0 ?_
  refine g_putI hg fp_X11_104 ly1 rfl (idb rfl rfl hn) dX11_keepFault_24 ?_
  replace h := Option.some.inj h
  subst h
  exact g_vret hg hr dX11_keepFault_27
theorem lkX7_allLayers {l0 : Launch} {E : En} {d n : Nat} {Rf : Nat → Nat → Nat} {ex : Bool} {kq : Nat × Nat} (hd : 1 ≤ d) (hn : 239 ≤ n) (hRf : RfOk 1 239 kq Rf) {r0 : Nat} (hr0 : isNt r0)  {M : Mm} {q : Int32 × Mm} (h : sX7_allLayers r0 M = some q) : Ct l0 E yX7_allLayers cX7_allLayers 1 (some .int) d 0 0 [rr E.1 r0] ex n Rf M n Rf (some (.int q.1)) q.2 := by
  obtain ⟨d, rfl⟩ := Nat.exists_eq_add_of_le' hd
  refine Ct.of pnX7 (Nat.le_of_ble_eq_true rfl) (fun g hg hr _ => ?_)
  replace hg : Ok g l0 E cX7_allLayers RX7 1 (d + 1) 0 0 := hg
  show WG g E 1 n Rf ex 0 0 0 [(0, rr E.1 r0)] [] M
  unfold sX7_allLayers at h
  refine g_iconst hg dX7_allLayers_0 kI_1 ?_
  refine g_rload_n hg dX7_allLayers_1 rfl 0 rfl ?_
  refine g_getI hg fl_X7_25 (nt_lay hr0) rfl (nt_bd hr0 hn) dX7_allLayers_2 ?_
  refine g_ishl hg dX7_allLayers_5 ?_
  refine g_iconst hg dX7_allLayers_6 kI_1 ?_
  refine g_isub hg dX7_allLayers_7 ?_
  replace h := Option.some.inj h
  subst h
  exact g_iret hg hr dX7_allLayers_8
theorem lkX4_isAt_44 {g : Gm} {l0 : Launch} {E : En} {d n : Nat} {Rf : Nat → Nat → Nat} {ex : Bool} {kq : Nat × Nat} (hn : 239 ≤ n) (hRf : RfOk 1 239 kq Rf) {r0 : Nat} (hr0 : isNt r0) (hg : Ok g l0 E cX4_isAt RX4 4 (d + 2) 0 0) {q : Int32 × Mm} (hr : Ret g E 0 0 (some .boolean) ex n Rf (some (.int q.1)) q.2) {k2 : Int32 → Int32 → Int32 → Mm → Option (Int32 × Mm)} (hk2 : ∀ (x1 : Int32) (x2 : Int32) (x3 : Int32) (M : Mm), k2 x1 x2 x3 M = some q → WG g E 4 n Rf ex 0 0 2 [(0, rr E.1 r0), (1, .int x1), (2, .int x2), (3, .int x3)] [] M) : ∀ (x1 : Int32) (x2 : Int32) (x3 : Int32) (M : Mm), sX4_isAt_44 r0 k2 x1 x2 x3 M = some q → WG g E 4 n Rf ex 0 0 44 [(0, rr E.1 r0), (1, .int x1), (2, .int x2), (3, .int x3)] [] M := by
  intro x1 x2 x3 M h
  unfold sX4_isAt_44 at h
  refine g_inc (lv' := [(3, .int (x3 + 1)), (0, rr E.1 r0), (1, .int x1), (2, .int x2)]) hg dX4_isAt_44 kI_1 3 rfl (by decide) rfl ?_
  refine g_goto (tgt := 2) hg dX4_isAt_47 (by decide) ?_
  refine g_sub (lv' := [(0, rr E.1 r0), (1, .int x1), (2, .int x2), (3, .int (x3 + 1))]) [1, 2, 3, 0] rfl ?_
  exact hk2 _ _ _ _ h
theorem lkX4_isAt_2 {g : Gm} {l0 : Launch} {E : En} {d n : Nat} {Rf : Nat → Nat → Nat} {ex : Bool} {kq : Nat × Nat} (hn : 239 ≤ n) (hRf : RfOk 1 239 kq Rf) {r0 : Nat} (hr0 : isNt r0) (hg : Ok g l0 E cX4_isAt RX4 4 (d + 2) 0 0) {q : Int32 × Mm} (hr : Ret g E 0 0 (some .boolean) ex n Rf (some (.int q.1)) q.2) : ∀ (F : Nat) (x1 : Int32) (x2 : Int32) (x3 : Int32) (M : Mm), sX4_isAt_2 r0 F x1 x2 x3 M = some q → WG g E 4 n Rf ex 0 0 2 [(0, rr E.1 r0), (1, .int x1), (2, .int x2), (3, .int x3)] [] M := by
  intro F
  induction F with
  | zero =>
    intro x1 x2 x3 M h
    cases h
  | succ F ih =>
    intro x1 x2 x3 M h
    rw [sX4_isAt_2] at h
    refine g_iload_n hg dX4_isAt_2 rfl 3 rfl ?_
    refine g_rload_n hg dX4_isAt_3 rfl 0 rfl ?_
    refine g_getI hg fl_X4_72 (nt_lay hr0) rfl (nt_bd hr0 hn) dX4_isAt_4 ?_
    refine g_icmp_ge (tgt := 50) hg dX4_isAt_7 (by decide) (fun c => ?_) (fun c => ?_)
    · replace h := itT c h
      refine g_iconst hg dX4_isAt_50 kI_0 ?_
      replace h := Option.some.inj h
      subst h
      exact g_zret hg hr rfl dX4_isAt_51
    · replace h := itF c h
      refine g_rload_n hg dX4_isAt_10 rfl 0 rfl ?_
      refine g_iload_n hg dX4_isAt_11 rfl 3 rfl ?_
      refine g_iconst hg dX4_isAt_12 kI_0 ?_
      obtain ⟨q13, e13, h⟩ := Option.bind_eq_some_iff.mp h
      refine g_callVi (As := [.int x3, .int 0]) (rest := []) hg (lkX7_get (by omega) hn hRf hr0 e13) cv_X4_78 rfl (nt_lay hr0) (nt_bd hr0 hn) rfl rfl (Nat.le_of_ble_eq_true rfl) ⟨Nat.le_refl _, Nat.le_refl _⟩ dX4_isAt_13 ?_
      refine g_iload_n hg dX4_isAt_16 rfl 1 rfl ?_
      refine g_icmp_gt (tgt := 44) hg dX4_isAt_17 (by decide) (fun c => ?_) (fun c => ?_)
      · replace h := itT c h
        exact lkX4_isAt_44 hn hRf hr0 hg hr ih _ _ _ _ h
      · replace h := itF c h
        refine g_iload_n hg dX4_isAt_20 rfl 1 rfl ?_
        refine g_rload_n hg dX4_isAt_21 rfl 0 rfl ?_
        refine g_iload_n hg dX4_isAt_22 rfl 3 rfl ?_
        refine g_iconst hg dX4_isAt_23 kI_1 ?_
        obtain ⟨q24, e24, h⟩ := Option.bind_eq_some_iff.mp h
        refine g_callVi (As := [.int x3, .int 1]) (rest := [.int x1]) hg (lkX7_get (by omega) hn hRf hr0 e24) cv_X4_78 rfl (nt_lay hr0) (nt_bd hr0 hn) rfl rfl (Nat.le_of_ble_eq_true rfl) ⟨Nat.le_refl _, Nat.le_refl _⟩ dX4_isAt_24 ?_
        refine g_icmp_ge (tgt := 44) hg dX4_isAt_27 (by decide) (fun c => ?_) (fun c => ?_)
        · replace h := itT c h
          exact lkX4_isAt_44 hn hRf hr0 hg hr ih _ _ _ _ h
        · replace h := itF c h
          refine g_iload_n hg dX4_isAt_30 rfl 2 rfl ?_
          refine g_iconst hg dX4_isAt_31 kI_1 ?_
          refine g_iload_n hg dX4_isAt_32 rfl 3 rfl ?_
          refine g_ishl hg dX4_isAt_33 ?_
          refine g_iand hg dX4_isAt_34 ?_
          refine g_if_eq (tgt := 42) hg dX4_isAt_35 (by decide) (fun c => ?_) (fun c => ?_)
          · rw [if_pos c] at h
            refine g_iconst hg dX4_isAt_42 kI_0 ?_
            replace h := Option.some.inj h
            subst h
            exact g_zret hg hr rfl dX4_isAt_43
          · rw [if_neg c] at h
            refine g_iconst hg dX4_isAt_38 kI_1 ?_
            refine g_goto (tgt := 43) hg dX4_isAt_39 (by decide) ?_
            replace h := Option.some.inj h
            subst h
            exact g_zret hg hr rfl dX4_isAt_43
theorem lkX4_isAt {l0 : Launch} {E : En} {d n : Nat} {Rf : Nat → Nat → Nat} {ex : Bool} {kq : Nat × Nat} (hd : 2 ≤ d) (hn : 239 ≤ n) (hRf : RfOk 1 239 kq Rf) {r0 : Nat} (hr0 : isNt r0) {x1 : Int32} {x2 : Int32} {M : Mm} {q : Int32 × Mm} (h : sX4_isAt r0 x1 x2 M = some q) : Ct l0 E yX4_isAt cX4_isAt 4 (some .boolean) d 0 0 [rr E.1 r0, .int x1, .int x2] ex n Rf M n Rf (some (.int q.1)) q.2 := by
  obtain ⟨d, rfl⟩ := Nat.exists_eq_add_of_le' hd
  refine Ct.of pnX4 (Nat.le_of_ble_eq_true rfl) (fun g hg hr _ => ?_)
  replace hg : Ok g l0 E cX4_isAt RX4 4 (d + 2) 0 0 := hg
  show WG g E 4 n Rf ex 0 0 0 [(0, rr E.1 r0), (1, .int x1), (2, .int x2)] [] M
  unfold sX4_isAt at h
  refine g_iconst hg dX4_isAt_0 kI_0 ?_
  refine g_istore_n (lv' := [(3, .int 0), (0, rr E.1 r0), (1, .int x1), (2, .int x2)]) hg dX4_isAt_1 rfl (by decide) rfl ?_
  refine g_sub (lv' := [(0, rr E.1 r0), (1, .int x1), (2, .int x2), (3, .int 0)]) [1, 2, 3, 0] rfl ?_
  exact lkX4_isAt_2 hn hRf hr0 hg hr  4096 _ _ _ _ h
theorem lkX4_thickness_36 {g : Gm} {l0 : Launch} {E : En} {d n : Nat} {Rf : Nat → Nat → Nat} {ex : Bool} {kq : Nat × Nat} (hn : 239 ≤ n) (hRf : RfOk 1 239 kq Rf) {r0 : Nat} (hr0 : isNt r0) (hg : Ok g l0 E cX4_thickness RX4 4 (d + 2) 0 0) {q : Int32 × Mm} (hr : Ret g E 0 0 (some .int) ex n Rf (some (.int q.1)) q.2) {k4 : Int32 → Int32 → Int32 → Mm → Option (Int32 × Mm)} (hk4 : ∀ (x1 : Int32) (x2 : Int32) (x3 : Int32) (M : Mm), k4 x1 x2 x3 M = some q → WG g E 4 n Rf ex 0 0 4 [(0, rr E.1 r0), (1, .int x1), (2, .int x2), (3, .int x3)] [] M) : ∀ (x1 : Int32) (x2 : Int32) (x3 : Int32) (M : Mm), sX4_thickness_36 r0 k4 x1 x2 x3 M = some q → WG g E 4 n Rf ex 0 0 36 [(0, rr E.1 r0), (1, .int x1), (2, .int x2), (3, .int x3)] [] M := by
  intro x1 x2 x3 M h
  unfold sX4_thickness_36 at h
  refine g_inc (lv' := [(3, .int (x3 + 1)), (0, rr E.1 r0), (1, .int x1), (2, .int x2)]) hg dX4_thickness_36 kI_1 3 rfl (by decide) rfl ?_
  refine g_goto (tgt := 4) hg dX4_thickness_39 (by decide) ?_
  refine g_sub (lv' := [(0, rr E.1 r0), (1, .int x1), (2, .int x2), (3, .int (x3 + 1))]) [1, 2, 3, 0] rfl ?_
  exact hk4 _ _ _ _ h
theorem lkX4_thickness_4 {g : Gm} {l0 : Launch} {E : En} {d n : Nat} {Rf : Nat → Nat → Nat} {ex : Bool} {kq : Nat × Nat} (hn : 239 ≤ n) (hRf : RfOk 1 239 kq Rf) {r0 : Nat} (hr0 : isNt r0) (hg : Ok g l0 E cX4_thickness RX4 4 (d + 2) 0 0) {q : Int32 × Mm} (hr : Ret g E 0 0 (some .int) ex n Rf (some (.int q.1)) q.2) : ∀ (F : Nat) (x1 : Int32) (x2 : Int32) (x3 : Int32) (M : Mm), sX4_thickness_4 r0 F x1 x2 x3 M = some q → WG g E 4 n Rf ex 0 0 4 [(0, rr E.1 r0), (1, .int x1), (2, .int x2), (3, .int x3)] [] M := by
  intro F
  induction F with
  | zero =>
    intro x1 x2 x3 M h
    cases h
  | succ F ih =>
    intro x1 x2 x3 M h
    rw [sX4_thickness_4] at h
    refine g_iload_n hg dX4_thickness_4 rfl 3 rfl ?_
    refine g_rload_n hg dX4_thickness_5 rfl 0 rfl ?_
    refine g_getI hg fl_X4_72 (nt_lay hr0) rfl (nt_bd hr0 hn) dX4_thickness_6 ?_
    refine g_icmp_ge (tgt := 42) hg dX4_thickness_9 (by decide) (fun c => ?_) (fun c => ?_)
    · replace h := itT c h
      refine g_iload_n hg dX4_thickness_42 rfl 2 rfl ?_
      replace h := Option.some.inj h
      subst h
      exact g_iret hg hr dX4_thickness_43
    · replace h := itF c h
      refine g_iload_n hg dX4_thickness_12 rfl 1 rfl ?_
      refine g_iconst hg dX4_thickness_13 kI_1 ?_
      refine g_iload_n hg dX4_thickness_14 rfl 3 rfl ?_
      refine g_ishl hg dX4_thickness_15 ?_
      refine g_iand hg dX4_thickness_16 ?_
      refine g_if_eq (tgt := 36) hg dX4_thickness_17 (by decide) (fun c => ?_) (fun c => ?_)
      · replace h := itT c h
        exact lkX4_thickness_36 hn hRf hr0 hg hr ih _ _ _ _ h
      · replace h := itF c h
        refine g_iload_n hg dX4_thickness_20 rfl 2 rfl ?_
        refine g_rload_n hg dX4_thickness_21 rfl 0 rfl ?_
        refine g_iload_n hg dX4_thickness_22 rfl 3 rfl ?_
        refine g_iconst hg dX4_thickness_23 kI_1 ?_
        obtain ⟨q24, e24, h⟩ := Option.bind_eq_some_iff.mp h
        refine g_callVi (As := [.int x3, .int 1]) (rest := [.int x2]) hg (lkX7_get (by omega) hn hRf hr0 e24) cv_X4_78 rfl (nt_lay hr0) (nt_bd hr0 hn) rfl rfl (Nat.le_of_ble_eq_true rfl) ⟨Nat.le_refl _, Nat.le_refl _⟩ dX4_thickness_24 ?_
        refine g_rload_n hg dX4_thickness_27 rfl 0 rfl ?_
        refine g_iload_n hg dX4_thickness_28 rfl 3 rfl ?_
        refine g_iconst hg dX4_thickness_29 kI_0 ?_
        obtain ⟨q30, e30, h⟩ := Option.bind_eq_some_iff.mp h
        refine g_callVi (As := [.int x3, .int 0]) (rest := [.int q24.1, .int x2]) hg (lkX7_get (by omega) hn hRf hr0 e30) cv_X4_78 rfl (nt_lay hr0) (nt_bd hr0 hn) rfl rfl (Nat.le_of_ble_eq_true rfl) ⟨Nat.le_refl _, Nat.le_refl _⟩ dX4_thickness_30 ?_
        refine g_isub hg dX4_thickness_33 ?_
        refine g_iadd hg dX4_thickness_34 ?_
        refine g_istore_n (lv' := [(2, .int (x2 + (q24.1 - q30.1))), (0, rr E.1 r0), (1, .int x1), (3, .int x3)]) hg dX4_thickness_35 rfl (by decide) rfl ?_
        refine g_sub (lv' := [(0, rr E.1 r0), (1, .int x1), (2, .int (x2 + (q24.1 - q30.1))), (3, .int x3)]) [1, 2, 0, 3] rfl ?_
        exact lkX4_thickness_36 hn hRf hr0 hg hr ih _ _ _ _ h
theorem lkX4_thickness {l0 : Launch} {E : En} {d n : Nat} {Rf : Nat → Nat → Nat} {ex : Bool} {kq : Nat × Nat} (hd : 2 ≤ d) (hn : 239 ≤ n) (hRf : RfOk 1 239 kq Rf) {r0 : Nat} (hr0 : isNt r0) {x1 : Int32} {M : Mm} {q : Int32 × Mm} (h : sX4_thickness r0 x1 M = some q) : Ct l0 E yX4_thickness cX4_thickness 4 (some .int) d 0 0 [rr E.1 r0, .int x1] ex n Rf M n Rf (some (.int q.1)) q.2 := by
  obtain ⟨d, rfl⟩ := Nat.exists_eq_add_of_le' hd
  refine Ct.of pnX4 (Nat.le_of_ble_eq_true rfl) (fun g hg hr _ => ?_)
  replace hg : Ok g l0 E cX4_thickness RX4 4 (d + 2) 0 0 := hg
  show WG g E 4 n Rf ex 0 0 0 [(0, rr E.1 r0), (1, .int x1)] [] M
  unfold sX4_thickness at h
  refine g_iconst hg dX4_thickness_0 kI_0 ?_
  refine g_istore_n (lv' := [(2, .int 0), (0, rr E.1 r0), (1, .int x1)]) hg dX4_thickness_1 rfl (by decide) rfl ?_
  refine g_iconst hg dX4_thickness_2 kI_0 ?_
  refine g_istore_n (lv' := [(3, .int 0), (2, .int 0), (0, rr E.1 r0), (1, .int x1)]) hg dX4_thickness_3 rfl (by decide) rfl ?_
  refine g_sub (lv' := [(0, rr E.1 r0), (1, .int x1), (2, .int 0), (3, .int 0)]) [2, 3, 1, 0] rfl ?_
  exact lkX4_thickness_4 hn hRf hr0 hg hr  4096 _ _ _ _ h
theorem lkX4_compares {l0 : Launch} {E : En} {d n : Nat} {Rf : Nat → Nat → Nat} {ex : Bool} {kq : Nat × Nat} (hd : 1 ≤ d) (hn : 239 ≤ n) (hRf : RfOk 1 239 kq Rf) {r0 : Nat} (hr0 : isKy r0) {x1 : Int32} {x2 : Int32} {M : Mm} {q : Int32 × Mm} (h : sX4_compares r0 x1 x2 M = some q) : Ct l0 E yX4_compares cX4_compares 3 (some .boolean) d 0 0 [rr E.1 r0, .int x1, .int x2] ex n Rf M n Rf (some (.int q.1)) q.2 := by
  obtain ⟨d, rfl⟩ := Nat.exists_eq_add_of_le' hd
  refine Ct.of pnX4 (Nat.le_of_ble_eq_true rfl) (fun g hg hr _ => ?_)
  replace hg : Ok g l0 E cX4_compares RX4 3 (d + 1) 0 0 := hg
  show WG g E 3 n Rf ex 0 0 0 [(0, rr E.1 r0), (1, .int x1), (2, .int x2)] [] M
  unfold sX4_compares at h
  refine g_rload_n hg dX4_compares_0 rfl 0 rfl ?_
  refine g_getR (r := (r0 + 2)) hg fl_X4_15 (ky_lay hr0) rfl (ky_bd hr0 hn) (ky_rf2 hr0 hRf) (Nat.succ_pos _) dX4_compares_1 ?_
  refine g_iload_n hg dX4_compares_4 rfl 2 rfl ?_
  obtain ⟨c5, h⟩ := ck_some h
  refine g_iald hg (ky_lay2 hr0) (ky_bd2 hr0 hn) (inb_vp c5) dX4_compares_5 ?_
  by_cases c0w : (M.1 (r0 + 2) x2.toNatClampNeg) = 60
  · replace h := itT c0w h
    refine g_lookup (tgt := 48) hg dX4_compares_6 (by decide) (off := 42) (by rw [c0w]; first | done | decide) (by decide) ?_
    refine g_iload_n hg dX4_compares_48 rfl 1 rfl ?_
    refine g_rload_n hg dX4_compares_49 rfl 0 rfl ?_
    refine g_getR (r := (r0 + 3)) hg fl_X4_18 (ky_lay hr0) rfl (ky_bd hr0 hn) (ky_rf3 hr0 hRf) (Nat.succ_pos _) dX4_compares_50 ?_
    refine g_iload_n hg dX4_compares_53 rfl 2 rfl ?_
    obtain ⟨c54, h⟩ := ck_some h
    refine g_iald hg (ky_lay3 hr0) (ky_bd3 hr0 hn) (inb_vp c54) dX4_compares_54 ?_
    refine g_icmp_ge (tgt := 62) hg dX4_compares_55 (by decide) (fun c => ?_) (fun c => ?_)
    · rw [if_pos c] at h
      refine g_iconst hg dX4_compares_62 kI_0 ?_
      replace h := Option.some.inj h
      subst h
      exact g_zret hg hr rfl dX4_compares_63
    · rw [if_neg c] at h
      refine g_iconst hg dX4_compares_58 kI_1 ?_
      refine g_goto (tgt := 63) hg dX4_compares_59 (by decide) ?_
      replace h := Option.some.inj h
      subst h
      exact g_zret hg hr rfl dX4_compares_63
  replace h := itF c0w h
  by_cases c1w : (M.1 (r0 + 2) x2.toNatClampNeg) = 61
  · replace h := itT c1w h
    refine g_lookup (tgt := 80) hg dX4_compares_6 (by decide) (off := 74) (by rw [c1w]; first | done | decide) (by decide) ?_
    refine g_iload_n hg dX4_compares_80 rfl 1 rfl ?_
    refine g_rload_n hg dX4_compares_81 rfl 0 rfl ?_
    refine g_getR (r := (r0 + 3)) hg fl_X4_18 (ky_lay hr0) rfl (ky_bd hr0 hn) (ky_rf3 hr0 hRf) (Nat.succ_pos _) dX4_compares_82 ?_
    refine g_iload_n hg dX4_compares_85 rfl 2 rfl ?_
    obtain ⟨c86, h⟩ := ck_some h
    refine g_iald hg (ky_lay3 hr0) (ky_bd3 hr0 hn) (inb_vp c86) dX4_compares_86 ?_
    refine g_icmp_ne (tgt := 94) hg dX4_compares_87 (by decide) (fun c => ?_) (fun c => ?_)
    · rw [if_neg c] at h
      refine g_iconst hg dX4_compares_94 kI_0 ?_
      replace h := Option.some.inj h
      subst h
      exact g_zret hg hr rfl dX4_compares_95
    · rw [if_pos c] at h
      refine g_iconst hg dX4_compares_90 kI_1 ?_
      refine g_goto (tgt := 95) hg dX4_compares_91 (by decide) ?_
      replace h := Option.some.inj h
      subst h
      exact g_zret hg hr rfl dX4_compares_95
  replace h := itF c1w h
  by_cases c2w : (M.1 (r0 + 2) x2.toNatClampNeg) = 316
  · replace h := itT c2w h
    refine g_lookup (tgt := 64) hg dX4_compares_6 (by decide) (off := 58) (by rw [c2w]; first | done | decide) (by decide) ?_
    refine g_iload_n hg dX4_compares_64 rfl 1 rfl ?_
    refine g_rload_n hg dX4_compares_65 rfl 0 rfl ?_
    refine g_getR (r := (r0 + 3)) hg fl_X4_18 (ky_lay hr0) rfl (ky_bd hr0 hn) (ky_rf3 hr0 hRf) (Nat.succ_pos _) dX4_compares_66 ?_
    refine g_iload_n hg dX4_compares_69 rfl 2 rfl ?_
    obtain ⟨c70, h⟩ := ck_some h
    refine g_iald hg (ky_lay3 hr0) (ky_bd3 hr0 hn) (inb_vp c70) dX4_compares_70 ?_
    refine g_icmp_gt (tgt := 78) hg dX4_compares_71 (by decide) (fun c => ?_) (fun c => ?_)
    · rw [if_pos c] at h
      refine g_iconst hg dX4_compares_78 kI_0 ?_
      replace h := Option.some.inj h
      subst h
      exact g_zret hg hr rfl dX4_compares_79
    · rw [if_neg c] at h
      refine g_iconst hg dX4_compares_74 kI_1 ?_
      refine g_goto (tgt := 79) hg dX4_compares_75 (by decide) ?_
      replace h := Option.some.inj h
      subst h
      exact g_zret hg hr rfl dX4_compares_79
  replace h := itF c2w h
  by_cases c3w : (M.1 (r0 + 2) x2.toNatClampNeg) = 318
  · replace h := itT c3w h
    refine g_lookup (tgt := 96) hg dX4_compares_6 (by decide) (off := 90) (by rw [c3w]; first | done | decide) (by decide) ?_
    refine g_iload_n hg dX4_compares_96 rfl 1 rfl ?_
    refine g_rload_n hg dX4_compares_97 rfl 0 rfl ?_
    refine g_getR (r := (r0 + 3)) hg fl_X4_18 (ky_lay hr0) rfl (ky_bd hr0 hn) (ky_rf3 hr0 hRf) (Nat.succ_pos _) dX4_compares_98 ?_
    refine g_iload_n hg dX4_compares_101 rfl 2 rfl ?_
    obtain ⟨c102, h⟩ := ck_some h
    refine g_iald hg (ky_lay3 hr0) (ky_bd3 hr0 hn) (inb_vp c102) dX4_compares_102 ?_
    refine g_icmp_lt (tgt := 110) hg dX4_compares_103 (by decide) (fun c => ?_) (fun c => ?_)
    · rw [if_pos c] at h
      refine g_iconst hg dX4_compares_110 kI_0 ?_
      replace h := Option.some.inj h
      subst h
      exact g_zret hg hr rfl dX4_compares_111
    · rw [if_neg c] at h
      refine g_iconst hg dX4_compares_106 kI_1 ?_
      refine g_goto (tgt := 111) hg dX4_compares_107 (by decide) ?_
      replace h := Option.some.inj h
      subst h
      exact g_zret hg hr rfl dX4_compares_111
  replace h := itF c3w h
  refine g_lookup (tgt := 112) hg dX4_compares_6 (by decide) (off := 106) (by rw [lv_osw c0w (by decide)]; rw [lv_osw c1w (by decide)]; rw [lv_osw c2w (by decide)]; rw [lv_osw c3w (by decide)]; rfl) (by decide) ?_
  refine g_iload_n hg dX4_compares_112 rfl 1 rfl ?_
  refine g_rload_n hg dX4_compares_113 rfl 0 rfl ?_
  refine g_getR (r := (r0 + 3)) hg fl_X4_18 (ky_lay hr0) rfl (ky_bd hr0 hn) (ky_rf3 hr0 hRf) (Nat.succ_pos _) dX4_compares_114 ?_
  refine g_iload_n hg dX4_compares_117 rfl 2 rfl ?_
  obtain ⟨c118, h⟩ := ck_some h
  refine g_iald hg (ky_lay3 hr0) (ky_bd3 hr0 hn) (inb_vp c118) dX4_compares_118 ?_
  refine g_icmp_le (tgt := 126) hg dX4_compares_119 (by decide) (fun c => ?_) (fun c => ?_)
  · rw [if_pos c] at h
    refine g_iconst hg dX4_compares_126 kI_0 ?_
    replace h := Option.some.inj h
    subst h
    exact g_zret hg hr rfl dX4_compares_127
  · rw [if_neg c] at h
    refine g_iconst hg dX4_compares_122 kI_1 ?_
    refine g_goto (tgt := 127) hg dX4_compares_123 (by decide) ?_
    replace h := Option.some.inj h
    subst h
    exact g_zret hg hr rfl dX4_compares_127
theorem lkX4_firstBegin_2 {g : Gm} {l0 : Launch} {E : En} {d n : Nat} {Rf : Nat → Nat → Nat} {ex : Bool} {kq : Nat × Nat} (hn : 239 ≤ n) (hRf : RfOk 1 239 kq Rf) {r0 : Nat} (hr0 : isNt r0) (hg : Ok g l0 E cX4_firstBegin RX4 3 (d + 2) 0 0) {q : Int32 × Mm} (hr : Ret g E 0 0 (some .int) ex n Rf (some (.int q.1)) q.2) : ∀ (F : Nat) (x1 : Int32) (x2 : Int32) (M : Mm), sX4_firstBegin_2 r0 F x1 x2 M = some q → WG g E 3 n Rf ex 0 0 2 [(0, rr E.1 r0), (1, .int x1), (2, .int x2)] [] M := by
  intro F
  induction F with
  | zero =>
    intro x1 x2 M h
    cases h
  | succ F ih =>
    intro x1 x2 M h
    rw [sX4_firstBegin_2] at h
    refine g_iload_n hg dX4_firstBegin_2 rfl 2 rfl ?_
    refine g_rload_n hg dX4_firstBegin_3 rfl 0 rfl ?_
    refine g_getI hg fl_X4_72 (nt_lay hr0) rfl (nt_bd hr0 hn) dX4_firstBegin_4 ?_
    refine g_icmp_ge (tgt := 31) hg dX4_firstBegin_7 (by decide) (fun c => ?_) (fun c => ?_)
    · replace h := itT c h
      refine g_sipush hg dX4_firstBegin_31 kS_999 ?_
      replace h := Option.some.inj h
      subst h
      exact g_iret hg hr dX4_firstBegin_34
    · replace h := itF c h
      refine g_iload_n hg dX4_firstBegin_10 rfl 1 rfl ?_
      refine g_iconst hg dX4_firstBegin_11 kI_1 ?_
      refine g_iload_n hg dX4_firstBegin_12 rfl 2 rfl ?_
      refine g_ishl hg dX4_firstBegin_13 ?_
      refine g_iand hg dX4_firstBegin_14 ?_
      refine g_if_eq (tgt := 25) hg dX4_firstBegin_15 (by decide) (fun c => ?_) (fun c => ?_)
      · replace h := itT c h
        refine g_inc (lv' := [(2, .int (x2 + 1)), (0, rr E.1 r0), (1, .int x1)]) hg dX4_firstBegin_25 kI_1 2 rfl (by decide) rfl ?_
        refine g_goto (tgt := 2) hg dX4_firstBegin_28 (by decide) ?_
        refine g_sub (lv' := [(0, rr E.1 r0), (1, .int x1), (2, .int (x2 + 1))]) [1, 2, 0] rfl ?_
        exact ih _ _ _ h
      · replace h := itF c h
        refine g_rload_n hg dX4_firstBegin_18 rfl 0 rfl ?_
        refine g_iload_n hg dX4_firstBegin_19 rfl 2 rfl ?_
        refine g_iconst hg dX4_firstBegin_20 kI_0 ?_
        obtain ⟨q21, e21, h⟩ := Option.bind_eq_some_iff.mp h
        refine g_callVi (As := [.int x2, .int 0]) (rest := []) hg (lkX7_get (by omega) hn hRf hr0 e21) cv_X4_78 rfl (nt_lay hr0) (nt_bd hr0 hn) rfl rfl (Nat.le_of_ble_eq_true rfl) ⟨Nat.le_refl _, Nat.le_refl _⟩ dX4_firstBegin_21 ?_
        replace h := Option.some.inj h
        subst h
        exact g_iret hg hr dX4_firstBegin_24
theorem lkX4_firstBegin {l0 : Launch} {E : En} {d n : Nat} {Rf : Nat → Nat → Nat} {ex : Bool} {kq : Nat × Nat} (hd : 2 ≤ d) (hn : 239 ≤ n) (hRf : RfOk 1 239 kq Rf) {r0 : Nat} (hr0 : isNt r0) {x1 : Int32} {M : Mm} {q : Int32 × Mm} (h : sX4_firstBegin r0 x1 M = some q) : Ct l0 E yX4_firstBegin cX4_firstBegin 3 (some .int) d 0 0 [rr E.1 r0, .int x1] ex n Rf M n Rf (some (.int q.1)) q.2 := by
  obtain ⟨d, rfl⟩ := Nat.exists_eq_add_of_le' hd
  refine Ct.of pnX4 (Nat.le_of_ble_eq_true rfl) (fun g hg hr _ => ?_)
  replace hg : Ok g l0 E cX4_firstBegin RX4 3 (d + 2) 0 0 := hg
  show WG g E 3 n Rf ex 0 0 0 [(0, rr E.1 r0), (1, .int x1)] [] M
  unfold sX4_firstBegin at h
  refine g_iconst hg dX4_firstBegin_0 kI_0 ?_
  refine g_istore_n (lv' := [(2, .int 0), (0, rr E.1 r0), (1, .int x1)]) hg dX4_firstBegin_1 rfl (by decide) rfl ?_
  refine g_sub (lv' := [(0, rr E.1 r0), (1, .int x1), (2, .int 0)]) [1, 2, 0] rfl ?_
  exact lkX4_firstBegin_2 hn hRf hr0 hg hr  4096 _ _ _ h
theorem lkX4_changed_132 {g : Gm} {l0 : Launch} {E : En} {d n : Nat} {Rf : Nat → Nat → Nat} {ex : Bool} {kq : Nat × Nat} (hn : 239 ≤ n) (hRf : RfOk 1 239 kq Rf) {r0 : Nat} (hr0 : isKy r0) {r1 : Nat} (hr1 : isNt r1) (hg : Ok g l0 E cX4_changed RX4 6 (d + 3) 0 0) {q : Int32 × Mm} (hr : Ret g E 0 0 (some .int) ex n Rf (some (.int q.1)) q.2) : ∀ (x4 : Int32) (x5 : Int32) (M : Mm), sX4_changed_132 r0 r1 x4 x5 M = some q → WG g E 6 n Rf ex 0 0 132 [(4, .int x4), (5, .int x5)] [] M := by
  intro x4 x5 M h
  unfold sX4_changed_132 at h
  refine g_iload hg dX4_changed_132 1 rfl ?_
  refine g_if_eq (tgt := 142) hg dX4_changed_134 (by decide) (fun c => ?_) (fun c => ?_)
  · rw [if_pos c] at h
    refine g_iconst hg dX4_changed_142 kI_0 ?_
    replace h := Option.some.inj h
    subst h
    exact g_iret hg hr dX4_changed_143
  · rw [if_neg c] at h
    refine g_iload hg dX4_changed_137 0 rfl ?_
    refine g_goto (tgt := 143) hg dX4_changed_139 (by decide) ?_
    replace h := Option.some.inj h
    subst h
    exact g_iret hg hr dX4_changed_143
theorem lkX4_changed_120 {g : Gm} {l0 : Launch} {E : En} {d n : Nat} {Rf : Nat → Nat → Nat} {ex : Bool} {kq : Nat × Nat} (hn : 239 ≤ n) (hRf : RfOk 1 239 kq Rf) {r0 : Nat} (hr0 : isKy r0) {r1 : Nat} (hr1 : isNt r1) (hg : Ok g l0 E cX4_changed RX4 6 (d + 3) 0 0) {q : Int32 × Mm} (hr : Ret g E 0 0 (some .int) ex n Rf (some (.int q.1)) q.2) : ∀ (x2 : Int32) (x3 : Int32) (x4 : Int32) (M : Mm), sX4_changed_120 r0 r1 x2 x3 x4 M = some q → WG g E 6 n Rf ex 0 0 120 [(0, rr E.1 r0), (1, rr E.1 r1), (2, .int x2), (3, .int x3), (4, .int x4)] [] M := by
  intro x2 x3 x4 M h
  unfold sX4_changed_120 at h
  refine g_rload_n hg dX4_changed_120 rfl 0 rfl ?_
  refine g_rload_n hg dX4_changed_121 rfl 1 rfl ?_
  refine g_iload_n hg dX4_changed_122 rfl 3 rfl ?_
  obtain ⟨q123, e123, h⟩ := Option.bind_eq_some_iff.mp h
  refine g_callSi (As := [rr E.1 r1, .int x3]) (rest := [rr E.1 r0]) hg (lkX4_firstBegin (by omega) hn hRf hr1 e123) cs_X4_88 rfl rfl (Nat.le_of_ble_eq_true rfl) ⟨Nat.le_refl _, Nat.le_refl _⟩ dX4_changed_123 ?_
  refine g_iload_n hg dX4_changed_126 rfl 2 rfl ?_
  obtain ⟨q127, e127, h⟩ := Option.bind_eq_some_iff.mp h
  refine g_callVi (As := [.int q123.1, .int x2]) (rest := []) hg (lkX4_compares (by omega) hn hRf hr0 e127) cv_X4_68 rfl (ky_lay hr0) (ky_bd hr0 hn) rfl rfl (Nat.le_of_ble_eq_true rfl) ⟨Nat.le_refl _, Nat.le_refl _⟩ dX4_changed_127 ?_
  refine g_istore (lv' := [(5, .int q127.1), (0, rr E.1 r0), (1, rr E.1 r1), (2, .int x2), (3, .int x3), (4, .int x4)]) hg dX4_changed_130 (by decide) rfl ?_
  refine g_sub (lv' := [(4, .int x4), (5, .int q127.1)]) [5, 0] rfl ?_
  exact lkX4_changed_132 hn hRf hr0 hr1 hg hr  _ _ _ h
theorem lkX4_changed_68 {g : Gm} {l0 : Launch} {E : En} {d n : Nat} {Rf : Nat → Nat → Nat} {ex : Bool} {kq : Nat × Nat} (hn : 239 ≤ n) (hRf : RfOk 1 239 kq Rf) {r0 : Nat} (hr0 : isKy r0) {r1 : Nat} (hr1 : isNt r1) (hg : Ok g l0 E cX4_changed RX4 6 (d + 3) 0 0) {q : Int32 × Mm} (hr : Ret g E 0 0 (some .int) ex n Rf (some (.int q.1)) q.2) : ∀ (x4 : Int32) (s0 : Int32) (M : Mm), sX4_changed_68 r0 r1 x4 s0 M = some q → WG g E 6 n Rf ex 0 0 68 [(4, .int x4)] [.int s0] M := by
  intro x4 s0 M h
  unfold sX4_changed_68 at h
  refine g_istore (lv' := [(5, .int s0), (4, .int x4)]) hg dX4_changed_68 (by decide) rfl ?_
  refine g_goto (tgt := 132) hg dX4_changed_70 (by decide) ?_
  refine g_sub (lv' := [(4, .int x4), (5, .int s0)]) [1, 0] rfl ?_
  exact lkX4_changed_132 hn hRf hr0 hr1 hg hr  _ _ _ h
theorem lkX4_changed_84 {g : Gm} {l0 : Launch} {E : En} {d n : Nat} {Rf : Nat → Nat → Nat} {ex : Bool} {kq : Nat × Nat} (hn : 239 ≤ n) (hRf : RfOk 1 239 kq Rf) {r0 : Nat} (hr0 : isKy r0) {r1 : Nat} (hr1 : isNt r1) (hg : Ok g l0 E cX4_changed RX4 6 (d + 3) 0 0) {q : Int32 × Mm} (hr : Ret g E 0 0 (some .int) ex n Rf (some (.int q.1)) q.2) : ∀ (x4 : Int32) (s0 : Int32) (M : Mm), sX4_changed_84 r0 r1 x4 s0 M = some q → WG g E 6 n Rf ex 0 0 84 [(4, .int x4)] [.int s0] M := by
  intro x4 s0 M h
  unfold sX4_changed_84 at h
  refine g_istore (lv' := [(5, .int s0), (4, .int x4)]) hg dX4_changed_84 (by decide) rfl ?_
  refine g_goto (tgt := 132) hg dX4_changed_86 (by decide) ?_
  refine g_sub (lv' := [(4, .int x4), (5, .int s0)]) [1, 0] rfl ?_
  exact lkX4_changed_132 hn hRf hr0 hr1 hg hr  _ _ _ h
theorem lkX4_changed {l0 : Launch} {E : En} {d n : Nat} {Rf : Nat → Nat → Nat} {ex : Bool} {kq : Nat × Nat} (hd : 3 ≤ d) (hn : 239 ≤ n) (hRf : RfOk 1 239 kq Rf) {r0 : Nat} (hr0 : isKy r0) {r1 : Nat} (hr1 : isNt r1) {x2 : Int32} {x3 : Int32} {M : Mm} {q : Int32 × Mm} (h : sX4_changed r0 r1 x2 x3 M = some q) : Ct l0 E yX4_changed cX4_changed 6 (some .int) d 0 0 [rr E.1 r0, rr E.1 r1, .int x2, .int x3] ex n Rf M n Rf (some (.int q.1)) q.2 := by
  obtain ⟨d, rfl⟩ := Nat.exists_eq_add_of_le' hd
  refine Ct.of pnX4 (Nat.le_of_ble_eq_true rfl) (fun g hg hr _ => ?_)
  replace hg : Ok g l0 E cX4_changed RX4 6 (d + 3) 0 0 := hg
  show WG g E 6 n Rf ex 0 0 0 [(0, rr E.1 r0), (1, rr E.1 r1), (2, .int x2), (3, .int x3)] [] M
  unfold sX4_changed at h
  refine g_rload_n hg dX4_changed_0 rfl 1 rfl ?_
  obtain ⟨q1, e1, h⟩ := Option.bind_eq_some_iff.mp h
  refine g_callVi (As := []) (rest := []) hg (lkX7_allLayers (by omega) hn hRf hr1 e1) cv_X4_59 rfl (nt_lay hr1) (nt_bd hr1 hn) rfl rfl (Nat.le_of_ble_eq_true rfl) ⟨Nat.le_refl _, Nat.le_refl _⟩ dX4_changed_1 ?_
  refine g_istore (lv' := [(4, .int q1.1), (0, rr E.1 r0), (1, rr E.1 r1), (2, .int x2), (3, .int x3)]) hg dX4_changed_4 (by decide) rfl ?_
  refine g_rload_n hg dX4_changed_6 rfl 1 rfl ?_
  refine g_getR (r := (r0 + 1)) hg fl_X4_11 (ky_lay hr0) rfl (ky_bd hr0 hn) (ky_rf1 hr0 hRf) (Nat.succ_pos _) dX4_changed_7 ?_
  refine g_iload_n hg dX4_changed_10 rfl 3 rfl ?_
  obtain ⟨c11, h⟩ := ck_some h
  refine g_iald hg (ky_lay1 hr0) (ky_bd1 hr0 hn) (inb_vp c11) dX4_changed_11 ?_
  by_cases c0w : (q1.2.1 (r0 + 1) x2.toNatClampNeg) = 16
  · replace h := itT c0w h
    refine g_tabI (tgt := 52) (off := 40) hg dX4_changed_12 c0w (by decide) (by decide) ?_
    refine g_iload hg dX4_changed_52 0 rfl ?_
    refine g_iload_n hg dX4_changed_54 rfl 4 rfl ?_
    refine g_iconst hg dX4_changed_55 kI_m1 ?_
    refine g_ixor hg dX4_changed_56 ?_
    refine g_iand hg dX4_changed_57 ?_
    replace h := Option.some.inj h
    subst h
    exact g_iret hg hr dX4_changed_58
  replace h := itF c0w h
  by_cases c1w : (q1.2.1 (r0 + 1) x2.toNatClampNeg) = 17
  · replace h := itT c1w h
    refine g_tabI (tgt := 120) (off := 108) hg dX4_changed_12 c1w (by decide) (by decide) ?_
    refine g_sub (lv' := [(0, rr E.1 r0), (1, rr E.1 r1), (2, .int x2), (3, .int x3), (4, .int q1.1)]) [1, 2, 3, 4, 0] rfl ?_
    exact lkX4_changed_120 hn hRf hr0 hr1 hg hr  _ _ _ _ h
  replace h := itF c1w h
  by_cases c2w : (q1.2.1 (r0 + 1) x2.toNatClampNeg) = 18
  · replace h := itT c2w h
    refine g_tabI (tgt := 59) (off := 47) hg dX4_changed_12 c2w (by decide) (by decide) ?_
    refine g_iload_n hg dX4_changed_59 rfl 4 rfl ?_
    refine g_if_eq (tgt := 67) hg dX4_changed_60 (by decide) (fun c => ?_) (fun c => ?_)
    · rw [if_pos c] at h
      refine g_iconst hg dX4_changed_67 kI_0 ?_
      refine g_sub (lv' := [(4, .int q1.1)]) [0] rfl ?_
      exact lkX4_changed_68 hn hRf hr0 hr1 hg hr  _ _ _ h
    · rw [if_neg c] at h
      refine g_iconst hg dX4_changed_63 kI_1 ?_
      refine g_goto (tgt := 68) hg dX4_changed_64 (by decide) ?_
      refine g_sub (lv' := [(4, .int q1.1)]) [0] rfl ?_
      exact lkX4_changed_68 hn hRf hr0 hr1 hg hr  _ _ _ h
  replace h := itF c2w h
  by_cases c3w : (q1.2.1 (r0 + 1) x2.toNatClampNeg) = 19
  · replace h := itT c3w h
    refine g_tabI (tgt := 73) (off := 61) hg dX4_changed_12 c3w (by decide) (by decide) ?_
    refine g_iload_n hg dX4_changed_73 rfl 4 rfl ?_
    refine g_iload hg dX4_changed_74 0 rfl ?_
    refine g_icmp_ne (tgt := 83) hg dX4_changed_76 (by decide) (fun c => ?_) (fun c => ?_)
    · rw [if_neg c] at h
      refine g_iconst hg dX4_changed_83 kI_0 ?_
      refine g_sub (lv' := [(4, .int q1.1)]) [0] rfl ?_
      exact lkX4_changed_84 hn hRf hr0 hr1 hg hr  _ _ _ h
    · rw [if_pos c] at h
      refine g_iconst hg dX4_changed_79 kI_1 ?_
      refine g_goto (tgt := 84) hg dX4_changed_80 (by decide) ?_
      refine g_sub (lv' := [(4, .int q1.1)]) [0] rfl ?_
      exact lkX4_changed_84 hn hRf hr0 hr1 hg hr  _ _ _ h
  replace h := itF c3w h
  by_cases c4w : (q1.2.1 (r0 + 1) x2.toNatClampNeg) = 20
  · replace h := itT c4w h
    refine g_tabI (tgt := 89) (off := 77) hg dX4_changed_12 c4w (by decide) (by decide) ?_
    refine g_rload_n hg dX4_changed_89 rfl 2 rfl ?_
    refine g_rload_n hg dX4_changed_90 rfl 1 rfl ?_
    refine g_getR (r := (r0 + 3)) hg fl_X4_18 (ky_lay hr0) rfl (ky_bd hr0 hn) (ky_rf3 hr0 hRf) (Nat.succ_pos _) dX4_changed_91 ?_
    refine g_iload_n hg dX4_changed_94 rfl 3 rfl ?_
    obtain ⟨c95, h⟩ := ck_some h
    refine g_iald hg (ky_lay3 hr0) (ky_bd3 hr0 hn) (inb_vp c95) dX4_changed_95 ?_
    refine g_iload_n hg dX4_changed_96 rfl 4 rfl ?_
    obtain ⟨q97, e97, h⟩ := Option.bind_eq_some_iff.mp h
    refine g_callSi (As := [rr E.1 r1, .int (q1.2.1 (r0 + 3) x2.toNatClampNeg), .int x3]) (rest := []) hg (lkX4_isAt (by omega) hn hRf hr1 e97) cs_X4_82 rfl rfl (Nat.le_of_ble_eq_true rfl) ⟨Nat.le_refl _, Nat.le_refl _⟩ dX4_changed_97 ?_
    refine g_istore (lv' := [(5, .int q97.1), (4, .int q1.1), (0, rr E.1 r0), (1, rr E.1 r1), (2, .int x2), (3, .int x3)]) hg dX4_changed_100 (by decide) rfl ?_
    refine g_goto (tgt := 132) hg dX4_changed_102 (by decide) ?_
    refine g_sub (lv' := [(4, .int q1.1), (5, .int q97.1)]) [1, 0] rfl ?_
    exact lkX4_changed_132 hn hRf hr0 hr1 hg hr  _ _ _ h
  replace h := itF c4w h
  by_cases c5w : (q1.2.1 (r0 + 1) x2.toNatClampNeg) = 21
  · replace h := itT c5w h
    refine g_tabI (tgt := 105) (off := 93) hg dX4_changed_12 c5w (by decide) (by decide) ?_
    refine g_rload_n hg dX4_changed_105 rfl 1 rfl ?_
    refine g_rload_n hg dX4_changed_106 rfl 2 rfl ?_
    refine g_iload_n hg dX4_changed_107 rfl 4 rfl ?_
    obtain ⟨q108, e108, h⟩ := Option.bind_eq_some_iff.mp h
    refine g_callSi (As := [rr E.1 r1, .int x3]) (rest := [rr E.1 r0]) hg (lkX4_thickness (by omega) hn hRf hr1 e108) cs_X4_85 rfl rfl (Nat.le_of_ble_eq_true rfl) ⟨Nat.le_refl _, Nat.le_refl _⟩ dX4_changed_108 ?_
    refine g_iload_n hg dX4_changed_111 rfl 3 rfl ?_
    obtain ⟨q112, e112, h⟩ := Option.bind_eq_some_iff.mp h
    refine g_callVi (As := [.int q108.1, .int x2]) (rest := []) hg (lkX4_compares (by omega) hn hRf hr0 e112) cv_X4_68 rfl (ky_lay hr0) (ky_bd hr0 hn) rfl rfl (Nat.le_of_ble_eq_true rfl) ⟨Nat.le_refl _, Nat.le_refl _⟩ dX4_changed_112 ?_
    refine g_istore (lv' := [(5, .int q112.1), (4, .int q1.1), (0, rr E.1 r0), (1, rr E.1 r1), (2, .int x2), (3, .int x3)]) hg dX4_changed_115 (by decide) rfl ?_
    refine g_goto (tgt := 132) hg dX4_changed_117 (by decide) ?_
    refine g_sub (lv' := [(4, .int q1.1), (5, .int q112.1)]) [1, 0] rfl ?_
    exact lkX4_changed_132 hn hRf hr0 hr1 hg hr  _ _ _ h
  replace h := itF c5w h
  refine g_tabO (tgt := 120) hg dX4_changed_12 (by have e0w := lv_neT (a := 16) c0w (by decide); have e1w := lv_neT (a := 17) c1w (by decide); have e2w := lv_neT (a := 18) c2w (by decide); have e3w := lv_neT (a := 19) c3w (by decide); have e4w := lv_neT (a := 20) c4w (by decide); have e5w := lv_neT (a := 21) c5w (by decide); omega) (by decide) ?_
  refine g_sub (lv' := [(0, rr E.1 r0), (1, rr E.1 r1), (2, .int x2), (3, .int x3), (4, .int q1.1)]) [1, 2, 3, 4, 0] rfl ?_
  exact lkX4_changed_120 hn hRf hr0 hr1 hg hr  _ _ _ _ h
theorem lkX4_isSo {l0 : Launch} {E : En} {d n : Nat} {Rf : Nat → Nat → Nat} {ex : Bool} {kq : Nat × Nat} (hd : 2 ≤ d) (hn : 239 ≤ n) (hRf : RfOk 1 239 kq Rf) {r0 : Nat} (hr0 : isKy r0) {r1 : Nat} (hr1 : isNt r1) {x2 : Int32} {x3 : Int32} {M : Mm} {q : Int32 × Mm} (h : sX4_isSo r0 r1 x2 x3 M = some q) : Ct l0 E yX4_isSo cX4_isSo 4 (some .boolean) d 0 0 [rr E.1 r0, rr E.1 r1, .int x2, .int x3] ex n Rf M n Rf (some (.int q.1)) q.2 := by
  obtain ⟨d, rfl⟩ := Nat.exists_eq_add_of_le' hd
  refine Ct.of pnX4 (Nat.le_of_ble_eq_true rfl) (fun g hg hr _ => ?_)
  replace hg : Ok g l0 E cX4_isSo RX4 4 (d + 2) 0 0 := hg
  show WG g E 4 n Rf ex 0 0 0 [(0, rr E.1 r0), (1, rr E.1 r1), (2, .int x2), (3, .int x3)] [] M
  unfold sX4_isSo at h
  refine g_rload_n hg dX4_isSo_0 rfl 0 rfl ?_
  refine g_getR (r := (r0 + 1)) hg fl_X4_11 (ky_lay hr0) rfl (ky_bd hr0 hn) (ky_rf1 hr0 hRf) (Nat.succ_pos _) dX4_isSo_1 ?_
  refine g_iload_n hg dX4_isSo_4 rfl 3 rfl ?_
  obtain ⟨c5, h⟩ := ck_some h
  refine g_iald hg (ky_lay1 hr0) (ky_bd1 hr0 hn) (inb_vp c5) dX4_isSo_5 ?_
  by_cases c0w : (M.1 (r0 + 1) x3.toNatClampNeg) = 11
  · replace h := itT c0w h
    refine g_tabI (tgt := 32) (off := 26) hg dX4_isSo_6 c0w (by decide) (by decide) ?_
    refine g_rload_n hg dX4_isSo_32 rfl 1 rfl ?_
    refine g_iload_n hg dX4_isSo_33 rfl 2 rfl ?_
    refine g_iconst hg dX4_isSo_34 kI_4 ?_
    obtain ⟨q35, e35, h⟩ := Option.bind_eq_some_iff.mp h
    refine g_callVi (As := [.int x2, .int 4]) (rest := []) hg (lkX7_get (by omega) hn hRf hr1 e35) cv_X4_78 rfl (nt_lay hr1) (nt_bd hr1 hn) rfl rfl (Nat.le_of_ble_eq_true rfl) ⟨Nat.le_refl _, Nat.le_refl _⟩ dX4_isSo_35 ?_
    refine g_iconst hg dX4_isSo_38 kI_1 ?_
    refine g_icmp_ne (tgt := 46) hg dX4_isSo_39 (by decide) (fun c => ?_) (fun c => ?_)
    · rw [if_neg c] at h
      refine g_iconst hg dX4_isSo_46 kI_0 ?_
      replace h := Option.some.inj h
      subst h
      exact g_zret hg hr rfl dX4_isSo_47
    · rw [if_pos c] at h
      refine g_iconst hg dX4_isSo_42 kI_1 ?_
      refine g_goto (tgt := 47) hg dX4_isSo_43 (by decide) ?_
      replace h := Option.some.inj h
      subst h
      exact g_zret hg hr rfl dX4_isSo_47
  replace h := itF c0w h
  by_cases c1w : (M.1 (r0 + 1) x3.toNatClampNeg) = 12
  · replace h := itT c1w h
    refine g_tabI (tgt := 48) (off := 42) hg dX4_isSo_6 c1w (by decide) (by decide) ?_
    refine g_rload_n hg dX4_isSo_48 rfl 0 rfl ?_
    refine g_rload_n hg dX4_isSo_49 rfl 1 rfl ?_
    refine g_iload_n hg dX4_isSo_50 rfl 2 rfl ?_
    refine g_iconst hg dX4_isSo_51 kI_5 ?_
    obtain ⟨q52, e52, h⟩ := Option.bind_eq_some_iff.mp h
    refine g_callVi (As := [.int x2, .int 5]) (rest := [rr E.1 r0]) hg (lkX7_get (by omega) hn hRf hr1 e52) cv_X4_78 rfl (nt_lay hr1) (nt_bd hr1 hn) rfl rfl (Nat.le_of_ble_eq_true rfl) ⟨Nat.le_refl _, Nat.le_refl _⟩ dX4_isSo_52 ?_
    refine g_iload_n hg dX4_isSo_55 rfl 3 rfl ?_
    obtain ⟨q56, e56, h⟩ := Option.bind_eq_some_iff.mp h
    refine g_callVi (As := [.int q52.1, .int x3]) (rest := []) hg (lkX4_compares (by omega) hn hRf hr0 e56) cv_X4_68 rfl (ky_lay hr0) (ky_bd hr0 hn) rfl rfl (Nat.le_of_ble_eq_true rfl) ⟨Nat.le_refl _, Nat.le_refl _⟩ dX4_isSo_56 ?_
    obtain ⟨c59, h⟩ := ck_some h
    replace h := Option.some.inj h
    subst h
    exact g_zret hg hr (isb_nar c59) dX4_isSo_59
  replace h := itF c1w h
  by_cases c2w : (M.1 (r0 + 1) x3.toNatClampNeg) = 13
  · replace h := itT c2w h
    refine g_tabI (tgt := 60) (off := 54) hg dX4_isSo_6 c2w (by decide) (by decide) ?_
    refine g_rload_n hg dX4_isSo_60 rfl 0 rfl ?_
    refine g_rload_n hg dX4_isSo_61 rfl 1 rfl ?_
    refine g_iload_n hg dX4_isSo_62 rfl 2 rfl ?_
    refine g_iconst hg dX4_isSo_63 kI_1 ?_
    obtain ⟨q64, e64, h⟩ := Option.bind_eq_some_iff.mp h
    refine g_callVi (As := [.int x2, .int 1]) (rest := [rr E.1 r0]) hg (lkX7_get (by omega) hn hRf hr1 e64) cv_X4_78 rfl (nt_lay hr1) (nt_bd hr1 hn) rfl rfl (Nat.le_of_ble_eq_true rfl) ⟨Nat.le_refl _, Nat.le_refl _⟩ dX4_isSo_64 ?_
    refine g_rload_n hg dX4_isSo_67 rfl 1 rfl ?_
    refine g_iload_n hg dX4_isSo_68 rfl 2 rfl ?_
    refine g_iconst hg dX4_isSo_69 kI_0 ?_
    obtain ⟨q70, e70, h⟩ := Option.bind_eq_some_iff.mp h
    refine g_callVi (As := [.int x2, .int 0]) (rest := [.int q64.1, rr E.1 r0]) hg (lkX7_get (by omega) hn hRf hr1 e70) cv_X4_78 rfl (nt_lay hr1) (nt_bd hr1 hn) rfl rfl (Nat.le_of_ble_eq_true rfl) ⟨Nat.le_refl _, Nat.le_refl _⟩ dX4_isSo_70 ?_
    refine g_isub hg dX4_isSo_73 ?_
    refine g_iload_n hg dX4_isSo_74 rfl 3 rfl ?_
    obtain ⟨q75, e75, h⟩ := Option.bind_eq_some_iff.mp h
    refine g_callVi (As := [.int (q64.1 - q70.1), .int x3]) (rest := []) hg (lkX4_compares (by omega) hn hRf hr0 e75) cv_X4_68 rfl (ky_lay hr0) (ky_bd hr0 hn) rfl rfl (Nat.le_of_ble_eq_true rfl) ⟨Nat.le_refl _, Nat.le_refl _⟩ dX4_isSo_75 ?_
    obtain ⟨c78, h⟩ := ck_some h
    replace h := Option.some.inj h
    subst h
    exact g_zret hg hr (isb_nar c78) dX4_isSo_78
  replace h := itF c2w h
  refine g_tabO (tgt := 79) hg dX4_isSo_6 (by have e0w := lv_neT (a := 11) c0w (by decide); have e1w := lv_neT (a := 12) c1w (by decide); have e2w := lv_neT (a := 13) c2w (by decide); omega) (by decide) ?_
  refine g_rload_n hg dX4_isSo_79 rfl 0 rfl ?_
  refine g_getR (r := (r0 + 1)) hg fl_X4_11 (ky_lay hr0) rfl (ky_bd hr0 hn) (ky_rf1 hr0 hRf) (Nat.succ_pos _) dX4_isSo_80 ?_
  refine g_iload_n hg dX4_isSo_83 rfl 3 rfl ?_
  obtain ⟨c84, h⟩ := ck_some h
  refine g_iald hg (ky_lay1 hr0) (ky_bd1 hr0 hn) (inb_vp c84) dX4_isSo_84 ?_
  refine g_bipush hg dX4_isSo_85 kB_6 ?_
  refine g_icmp_ge (tgt := 115) hg dX4_isSo_87 (by decide) (fun c => ?_) (fun c => ?_)
  · replace h := itT c h
    refine g_rload_n hg dX4_isSo_115 rfl 1 rfl ?_
    refine g_iload_n hg dX4_isSo_116 rfl 2 rfl ?_
    refine g_iconst hg dX4_isSo_117 kI_3 ?_
    obtain ⟨q118, e118, h⟩ := Option.bind_eq_some_iff.mp h
    refine g_callVi (As := [.int x2, .int 3]) (rest := []) hg (lkX7_get (by omega) hn hRf hr1 e118) cv_X4_78 rfl (nt_lay hr1) (nt_bd hr1 hn) rfl rfl (Nat.le_of_ble_eq_true rfl) ⟨Nat.le_refl _, Nat.le_refl _⟩ dX4_isSo_118 ?_
    refine g_rload_n hg dX4_isSo_121 rfl 0 rfl ?_
    refine g_getR (r := (r0 + 1)) hg fl_X4_11 (ky_lay hr0) rfl (ky_bd hr0 hn) (ky_rf1 hr0 hRf) (Nat.succ_pos _) dX4_isSo_122 ?_
    refine g_iload_n hg dX4_isSo_125 rfl 3 rfl ?_
    obtain ⟨c126, h⟩ := ck_some h
    refine g_iald hg (ky_lay1 hr0) (ky_bd1 hr0 hn) (inb_vp c126) dX4_isSo_126 ?_
    refine g_bipush hg dX4_isSo_127 kB_6 ?_
    refine g_isub hg dX4_isSo_129 ?_
    refine g_icmp_ne (tgt := 137) hg dX4_isSo_130 (by decide) (fun c => ?_) (fun c => ?_)
    · rw [if_neg c] at h
      refine g_iconst hg dX4_isSo_137 kI_0 ?_
      replace h := Option.some.inj h
      subst h
      exact g_zret hg hr rfl dX4_isSo_138
    · rw [if_pos c] at h
      refine g_iconst hg dX4_isSo_133 kI_1 ?_
      refine g_goto (tgt := 138) hg dX4_isSo_134 (by decide) ?_
      replace h := Option.some.inj h
      subst h
      exact g_zret hg hr rfl dX4_isSo_138
  · replace h := itF c h
    refine g_rload_n hg dX4_isSo_90 rfl 1 rfl ?_
    refine g_iload_n hg dX4_isSo_91 rfl 2 rfl ?_
    refine g_iconst hg dX4_isSo_92 kI_2 ?_
    obtain ⟨q93, e93, h⟩ := Option.bind_eq_some_iff.mp h
    refine g_callVi (As := [.int x2, .int 2]) (rest := []) hg (lkX7_get (by omega) hn hRf hr1 e93) cv_X4_78 rfl (nt_lay hr1) (nt_bd hr1 hn) rfl rfl (Nat.le_of_ble_eq_true rfl) ⟨Nat.le_refl _, Nat.le_refl _⟩ dX4_isSo_93 ?_
    refine g_rload_n hg dX4_isSo_96 rfl 0 rfl ?_
    refine g_getR (r := (r0 + 1)) hg fl_X4_11 (ky_lay hr0) rfl (ky_bd hr0 hn) (ky_rf1 hr0 hRf) (Nat.succ_pos _) dX4_isSo_97 ?_
    refine g_iload_n hg dX4_isSo_100 rfl 3 rfl ?_
    obtain ⟨c101, h⟩ := ck_some h
    refine g_iald hg (ky_lay1 hr0) (ky_bd1 hr0 hn) (inb_vp c101) dX4_isSo_101 ?_
    refine g_iconst hg dX4_isSo_102 kI_0 ?_
    refine g_isub hg dX4_isSo_103 ?_
    refine g_icmp_ne (tgt := 111) hg dX4_isSo_104 (by decide) (fun c => ?_) (fun c => ?_)
    · rw [if_neg c] at h
      refine g_iconst hg dX4_isSo_111 kI_0 ?_
      refine g_goto (tgt := 138) hg dX4_isSo_112 (by decide) ?_
      replace h := Option.some.inj h
      subst h
      exact g_zret hg hr rfl dX4_isSo_138
    · rw [if_pos c] at h
      refine g_iconst hg dX4_isSo_107 kI_1 ?_
      refine g_goto (tgt := 138) hg dX4_isSo_108 (by decide) ?_
      replace h := Option.some.inj h
      subst h
      exact g_zret hg hr rfl dX4_isSo_138
theorem lkX4_leaf_82 {g : Gm} {l0 : Launch} {E : En} {d n : Nat} {Rf : Nat → Nat → Nat} {ex : Bool} {kq : Nat × Nat} (hn : 239 ≤ n) (hRf : RfOk 1 239 kq Rf) {r0 : Nat} (hr0 : isKy r0) {r1 : Nat} (hr1 : isNt r1) (hg : Ok g l0 E cX4_leaf RX4 6 (d + 3) 0 0) {q : Int32 × Mm} (hr : Ret g E 0 0 (some .int) ex n Rf (some (.int q.1)) q.2) {k53 : Int32 → Int32 → Int32 → Mm → Option (Int32 × Mm)} (hk53 : ∀ (x2 : Int32) (x4 : Int32) (x5 : Int32) (M : Mm), k53 x2 x4 x5 M = some q → WG g E 6 n Rf ex 0 0 53 [(0, rr E.1 r0), (1, rr E.1 r1), (2, .int x2), (4, .int x4), (5, .int x5)] [] M) : ∀ (x2 : Int32) (x4 : Int32) (x5 : Int32) (M : Mm), sX4_leaf_82 r0 r1 k53 x2 x4 x5 M = some q → WG g E 6 n Rf ex 0 0 82 [(0, rr E.1 r0), (1, rr E.1 r1), (2, .int x2), (4, .int x4), (5, .int x5)] [] M := by
  intro x2 x4 x5 M h
  unfold sX4_leaf_82 at h
  refine g_inc (lv' := [(5, .int (x5 + 1)), (0, rr E.1 r0), (1, rr E.1 r1), (2, .int x2), (4, .int x4)]) hg dX4_leaf_82 kI_1 4 rfl (by decide) rfl ?_
  refine g_goto (tgt := 53) hg dX4_leaf_85 (by decide) ?_
  refine g_sub (lv' := [(0, rr E.1 r0), (1, rr E.1 r1), (2, .int x2), (4, .int x4), (5, .int (x5 + 1))]) [1, 2, 3, 4, 0] rfl ?_
  exact hk53 _ _ _ _ h
theorem lkX4_leaf_53 {g : Gm} {l0 : Launch} {E : En} {d n : Nat} {Rf : Nat → Nat → Nat} {ex : Bool} {kq : Nat × Nat} (hn : 239 ≤ n) (hRf : RfOk 1 239 kq Rf) {r0 : Nat} (hr0 : isKy r0) {r1 : Nat} (hr1 : isNt r1) (hg : Ok g l0 E cX4_leaf RX4 6 (d + 3) 0 0) {q : Int32 × Mm} (hr : Ret g E 0 0 (some .int) ex n Rf (some (.int q.1)) q.2) : ∀ (F : Nat) (x2 : Int32) (x4 : Int32) (x5 : Int32) (M : Mm), sX4_leaf_53 r0 r1 F x2 x4 x5 M = some q → WG g E 6 n Rf ex 0 0 53 [(0, rr E.1 r0), (1, rr E.1 r1), (2, .int x2), (4, .int x4), (5, .int x5)] [] M := by
  intro F
  induction F with
  | zero =>
    intro x2 x4 x5 M h
    cases h
  | succ F ih =>
    intro x2 x4 x5 M h
    rw [sX4_leaf_53] at h
    refine g_iload hg dX4_leaf_53 4 rfl ?_
    refine g_rload_n hg dX4_leaf_55 rfl 1 rfl ?_
    refine g_getI hg fl_X4_72 (nt_lay hr1) rfl (nt_bd hr1 hn) dX4_leaf_56 ?_
    refine g_icmp_ge (tgt := 88) hg dX4_leaf_59 (by decide) (fun c => ?_) (fun c => ?_)
    · replace h := itT c h
      refine g_iload hg dX4_leaf_88 3 rfl ?_
      replace h := Option.some.inj h
      subst h
      exact g_iret hg hr dX4_leaf_90
    · replace h := itF c h
      refine g_rload_n hg dX4_leaf_62 rfl 0 rfl ?_
      refine g_rload_n hg dX4_leaf_63 rfl 1 rfl ?_
      refine g_iload hg dX4_leaf_64 4 rfl ?_
      refine g_iload_n hg dX4_leaf_66 rfl 2 rfl ?_
      obtain ⟨q67, e67, h⟩ := Option.bind_eq_some_iff.mp h
      refine g_callVi (As := [rr E.1 r1, .int x5, .int x2]) (rest := []) hg (lkX4_isSo (by omega) hn hRf hr0 hr1 e67) cv_X4_75 rfl (ky_lay hr0) (ky_bd hr0 hn) rfl rfl (Nat.le_of_ble_eq_true rfl) ⟨Nat.le_refl _, Nat.le_refl _⟩ dX4_leaf_67 ?_
      refine g_if_eq (tgt := 82) hg dX4_leaf_70 (by decide) (fun c => ?_) (fun c => ?_)
      · rw [if_pos c] at h
        exact lkX4_leaf_82 hn hRf hr0 hr1 hg hr ih _ _ _ _ h
      · rw [if_neg c] at h
        refine g_iload hg dX4_leaf_73 3 rfl ?_
        refine g_iconst hg dX4_leaf_75 kI_1 ?_
        refine g_iload hg dX4_leaf_76 4 rfl ?_
        refine g_ishl hg dX4_leaf_78 ?_
        refine g_ior hg dX4_leaf_79 ?_
        refine g_istore (lv' := [(4, .int (x4 ||| (1 <<< (x5 &&& 31)))), (0, rr E.1 r0), (1, rr E.1 r1), (2, .int x2), (5, .int x5)]) hg dX4_leaf_80 (by decide) rfl ?_
        refine g_sub (lv' := [(0, rr E.1 r0), (1, rr E.1 r1), (2, .int x2), (4, .int (x4 ||| (1 <<< (x5 &&& 31)))), (5, .int x5)]) [1, 2, 3, 0, 4] rfl ?_
        exact lkX4_leaf_82 hn hRf hr0 hr1 hg hr ih _ _ _ _ h
theorem lkX4_leaf {l0 : Launch} {E : En} {d n : Nat} {Rf : Nat → Nat → Nat} {ex : Bool} {kq : Nat × Nat} (hd : 3 ≤ d) (hn : 239 ≤ n) (hRf : RfOk 1 239 kq Rf) {r0 : Nat} (hr0 : isKy r0) {r1 : Nat} (hr1 : isNt r1) {x2 : Int32} {M : Mm} {q : Int32 × Mm} (h : sX4_leaf r0 r1 x2 M = some q) : Ct l0 E yX4_leaf cX4_leaf 6 (some .int) d 0 0 [rr E.1 r0, rr E.1 r1, .int x2] ex n Rf M n Rf (some (.int q.1)) q.2 := by
  obtain ⟨d, rfl⟩ := Nat.exists_eq_add_of_le' hd
  refine Ct.of pnX4 (Nat.le_of_ble_eq_true rfl) (fun g hg hr _ => ?_)
  replace hg : Ok g l0 E cX4_leaf RX4 6 (d + 3) 0 0 := hg
  show WG g E 6 n Rf ex 0 0 0 [(0, rr E.1 r0), (1, rr E.1 r1), (2, .int x2)] [] M
  unfold sX4_leaf at h
  refine g_rload_n hg dX4_leaf_0 rfl 1 rfl ?_
  obtain ⟨q1, e1, h⟩ := Option.bind_eq_some_iff.mp h
  refine g_callVi (As := []) (rest := []) hg (lkX7_allLayers (by omega) hn hRf hr1 e1) cv_X4_59 rfl (nt_lay hr1) (nt_bd hr1 hn) rfl rfl (Nat.le_of_ble_eq_true rfl) ⟨Nat.le_refl _, Nat.le_refl _⟩ dX4_leaf_1 ?_
  refine g_istore_n (lv' := [(3, .int q1.1), (0, rr E.1 r0), (1, rr E.1 r1), (2, .int x2)]) hg dX4_leaf_4 rfl (by decide) rfl ?_
  refine g_rload_n hg dX4_leaf_5 rfl 1 rfl ?_
  refine g_getR (r := (r0 + 1)) hg fl_X4_11 (ky_lay hr0) rfl (ky_bd hr0 hn) (ky_rf1 hr0 hRf) (Nat.succ_pos _) dX4_leaf_6 ?_
  refine g_iload_n hg dX4_leaf_9 rfl 3 rfl ?_
  obtain ⟨c10, h⟩ := ck_some h
  refine g_iald hg (ky_lay1 hr0) (ky_bd1 hr0 hn) (inb_vp c10) dX4_leaf_10 ?_
  refine g_bipush hg dX4_leaf_11 kB_17 ?_
  refine g_icmp_ne (tgt := 18) hg dX4_leaf_13 (by decide) (fun c => ?_) (fun c => ?_)
  · replace h := itF c h
    refine g_rload_n hg dX4_leaf_18 rfl 1 rfl ?_
    refine g_getR (r := (r0 + 1)) hg fl_X4_11 (ky_lay hr0) rfl (ky_bd hr0 hn) (ky_rf1 hr0 hRf) (Nat.succ_pos _) dX4_leaf_19 ?_
    refine g_iload_n hg dX4_leaf_22 rfl 3 rfl ?_
    obtain ⟨c23, h⟩ := ck_some h
    refine g_iald hg (ky_lay1 hr0) (ky_bd1 hr0 hn) (inb_vp c23) dX4_leaf_23 ?_
    refine g_bipush hg dX4_leaf_24 kB_23 ?_
    refine g_icmp_ne (tgt := 47) hg dX4_leaf_26 (by decide) (fun c => ?_) (fun c => ?_)
    · replace h := itF c h
      refine g_iconst hg dX4_leaf_47 kI_0 ?_
      refine g_istore (lv' := [(4, .int 0), (3, .int q1.1), (0, rr E.1 r0), (1, rr E.1 r1), (2, .int x2)]) hg dX4_leaf_48 (by decide) rfl ?_
      refine g_iconst hg dX4_leaf_50 kI_0 ?_
      refine g_istore (lv' := [(5, .int 0), (4, .int 0), (3, .int q1.1), (0, rr E.1 r0), (1, rr E.1 r1), (2, .int x2)]) hg dX4_leaf_51 (by decide) rfl ?_
      refine g_sub (lv' := [(0, rr E.1 r0), (1, rr E.1 r1), (2, .int x2), (4, .int 0), (5, .int 0)]) [3, 4, 5, 1, 0] rfl ?_
      exact lkX4_leaf_53 hn hRf hr0 hr1 hg hr  4096 _ _ _ _ h
    · replace h := itT c h
      refine g_rload_n hg dX4_leaf_29 rfl 1 rfl ?_
      refine g_rload_n hg dX4_leaf_30 rfl 2 rfl ?_
      obtain ⟨q31, e31, h⟩ := Option.bind_eq_some_iff.mp h
      refine g_callVi (As := []) (rest := [rr E.1 r0]) hg (lkX7_depth (by omega) hn hRf hr1 e31) cv_X4_65 rfl (nt_lay hr1) (nt_bd hr1 hn) rfl rfl (Nat.le_of_ble_eq_true rfl) ⟨Nat.le_refl _, Nat.le_refl _⟩ dX4_leaf_31 ?_
      refine g_iload_n hg dX4_leaf_34 rfl 3 rfl ?_
      obtain ⟨q35, e35, h⟩ := Option.bind_eq_some_iff.mp h
      refine g_callVi (As := [.int q31.1, .int x2]) (rest := []) hg (lkX4_compares (by omega) hn hRf hr0 e35) cv_X4_68 rfl (ky_lay hr0) (ky_bd hr0 hn) rfl rfl (Nat.le_of_ble_eq_true rfl) ⟨Nat.le_refl _, Nat.le_refl _⟩ dX4_leaf_35 ?_
      refine g_if_eq (tgt := 45) hg dX4_leaf_38 (by decide) (fun c => ?_) (fun c => ?_)
      · rw [if_pos c] at h
        refine g_iconst hg dX4_leaf_45 kI_0 ?_
        replace h := Option.some.inj h
        subst h
        exact g_iret hg hr dX4_leaf_46
      · rw [if_neg c] at h
        refine g_iload_n hg dX4_leaf_41 rfl 0 rfl ?_
        refine g_goto (tgt := 46) hg dX4_leaf_42 (by decide) ?_
        replace h := Option.some.inj h
        subst h
        exact g_iret hg hr dX4_leaf_46
  · replace h := itT c h
    refine g_iload_n hg dX4_leaf_16 rfl 0 rfl ?_
    replace h := Option.some.inj h
    subst h
    exact g_iret hg hr dX4_leaf_17
theorem lkX4_holds_204 {g : Gm} {l0 : Launch} {E : En} {d n : Nat} {Rf : Nat → Nat → Nat} {ex : Bool} {kq : Nat × Nat} (hn : 239 ≤ n) (hRf : RfOk 1 239 kq Rf) {r0 : Nat} (hr0 : isKy r0) {r1 : Nat} (hr1 : isNt r1) (hg : Ok g l0 E cX4_holds RX4 6 (d + 4) 0 0) {q : Int32 × Mm} (hr : Ret g E 0 0 (some .boolean) ex n Rf (some (.int q.1)) q.2) {k6 : Int32 → Int32 → Int32 → Mm → Option (Int32 × Mm)} (hk6 : ∀ (x3 : Int32) (x4 : Int32) (x5 : Int32) (M : Mm), k6 x3 x4 x5 M = some q → WG g E 6 n Rf ex 0 0 6 [(0, rr E.1 r0), (1, rr E.1 r1), (3, .int x3), (4, .int x4), (5, .int x5)] [] M) : ∀ (x3 : Int32) (x4 : Int32) (x5 : Int32) (M : Mm), sX4_holds_204 r0 r1 k6 x3 x4 x5 M = some q → WG g E 6 n Rf ex 0 0 204 [(0, rr E.1 r0), (1, rr E.1 r1), (3, .int x3), (4, .int x4), (5, .int x5)] [] M := by
  intro x3 x4 x5 M h
  unfold sX4_holds_204 at h
  refine g_inc (lv' := [(5, .int (x5 + 1)), (0, rr E.1 r0), (1, rr E.1 r1), (3, .int x3), (4, .int x4)]) hg dX4_holds_204 kI_1 4 rfl (by decide) rfl ?_
  refine g_goto (tgt := 6) hg dX4_holds_207 (by decide) ?_
  refine g_sub (lv' := [(0, rr E.1 r0), (1, rr E.1 r1), (3, .int x3), (4, .int x4), (5, .int (x5 + 1))]) [1, 2, 3, 4, 0] rfl ?_
  exact hk6 _ _ _ _ h
theorem lkX4_holds_104 {g : Gm} {l0 : Launch} {E : En} {d n : Nat} {Rf : Nat → Nat → Nat} {ex : Bool} {kq : Nat × Nat} (hn : 239 ≤ n) (hRf : RfOk 1 239 kq Rf) {r0 : Nat} (hr0 : isKy r0) {r1 : Nat} (hr1 : isNt r1) (hg : Ok g l0 E cX4_holds RX4 6 (d + 4) 0 0) {q : Int32 × Mm} (hr : Ret g E 0 0 (some .boolean) ex n Rf (some (.int q.1)) q.2) {k6 : Int32 → Int32 → Int32 → Mm → Option (Int32 × Mm)} (hk6 : ∀ (x3 : Int32) (x4 : Int32) (x5 : Int32) (M : Mm), k6 x3 x4 x5 M = some q → WG g E 6 n Rf ex 0 0 6 [(0, rr E.1 r0), (1, rr E.1 r1), (3, .int x3), (4, .int x4), (5, .int x5)] [] M) : ∀ (x3 : Int32) (x4 : Int32) (x5 : Int32) (s1 : Int32) (s2 : Int32) (M : Mm), sX4_holds_104 r0 r1 k6 x3 x4 x5 s1 s2 M = some q → WG g E 6 n Rf ex 0 0 104 [(0, rr E.1 r0), (1, rr E.1 r1), (3, .int x3), (4, .int x4), (5, .int x5)] [.int s2, .int s1, rr E.1 (r0 + 7)] M := by
  intro x3 x4 x5 s1 s2 M h
  unfold sX4_holds_104 at h
  obtain ⟨c104, h⟩ := ck_some h
  refine g_iast hg (ky_lay7 hr0) (ky_bd7 hr0 hn) (inb_vp c104) dX4_holds_104 ?_
  refine g_goto (tgt := 204) hg dX4_holds_105 (by decide) ?_
  exact lkX4_holds_204 hn hRf hr0 hr1 hg hr hk6 _ _ _ _ h
theorem lkX4_holds_36 {g : Gm} {l0 : Launch} {E : En} {d n : Nat} {Rf : Nat → Nat → Nat} {ex : Bool} {kq : Nat × Nat} (hn : 239 ≤ n) (hRf : RfOk 1 239 kq Rf) {r0 : Nat} (hr0 : isKy r0) {r1 : Nat} (hr1 : isNt r1) (hg : Ok g l0 E cX4_holds RX4 6 (d + 4) 0 0) {q : Int32 × Mm} (hr : Ret g E 0 0 (some .boolean) ex n Rf (some (.int q.1)) q.2) {k6 : Int32 → Int32 → Int32 → Mm → Option (Int32 × Mm)} (hk6 : ∀ (x3 : Int32) (x4 : Int32) (x5 : Int32) (M : Mm), k6 x3 x4 x5 M = some q → WG g E 6 n Rf ex 0 0 6 [(0, rr E.1 r0), (1, rr E.1 r1), (3, .int x3), (4, .int x4), (5, .int x5)] [] M) : ∀ (x3 : Int32) (x4 : Int32) (x5 : Int32) (M : Mm), sX4_holds_36 r0 r1 k6 x3 x4 x5 M = some q → WG g E 6 n Rf ex 0 0 36 [(0, rr E.1 r0), (1, rr E.1 r1), (3, .int x3), (4, .int x4), (5, .int x5)] [] M := by
  intro x3 x4 x5 M h
  unfold sX4_holds_36 at h
  refine g_iload hg dX4_holds_36 3 rfl ?_
  refine g_iconst hg dX4_holds_38 kI_2 ?_
  refine g_icmp_ge (tgt := 44) hg dX4_holds_39 (by decide) (fun c => ?_) (fun c => ?_)
  · replace h := itT c h
    refine g_inc (lv' := [(4, .int (x4 + (-1))), (0, rr E.1 r0), (1, rr E.1 r1), (3, .int x3), (5, .int x5)]) hg dX4_holds_44 kI_m1 3 rfl (by decide) rfl ?_
    refine g_rload_n hg dX4_holds_47 rfl 1 rfl ?_
    refine g_getR (r := (r0 + 7)) hg fl_X4_31 (ky_lay hr0) rfl (ky_bd hr0 hn) (ky_rf7 hr0 hRf) (Nat.succ_pos _) dX4_holds_48 ?_
    refine g_iload hg dX4_holds_51 0 rfl ?_
    refine g_iconst hg dX4_holds_53 kI_1 ?_
    refine g_isub hg dX4_holds_54 ?_
    refine g_rload_n hg dX4_holds_55 rfl 1 rfl ?_
    refine g_getR (r := (r0 + 1)) hg fl_X4_11 (ky_lay hr0) rfl (ky_bd hr0 hn) (ky_rf1 hr0 hRf) (Nat.succ_pos _) dX4_holds_56 ?_
    refine g_iload hg dX4_holds_59 4 rfl ?_
    obtain ⟨c61, h⟩ := ck_some h
    refine g_iald hg (ky_lay1 hr0) (ky_bd1 hr0 hn) (inb_vp c61) dX4_holds_61 ?_
    refine g_bipush hg dX4_holds_62 kB_15 ?_
    refine g_icmp_ne (tgt := 87) hg dX4_holds_64 (by decide) (fun c => ?_) (fun c => ?_)
    · replace h := itF c h
      refine g_rload_n hg dX4_holds_87 rfl 1 rfl ?_
      refine g_getR (r := (r0 + 7)) hg fl_X4_31 (ky_lay hr0) rfl (ky_bd hr0 hn) (ky_rf7 hr0 hRf) (Nat.succ_pos _) dX4_holds_88 ?_
      refine g_iload hg dX4_holds_91 0 rfl ?_
      refine g_iconst hg dX4_holds_93 kI_1 ?_
      refine g_isub hg dX4_holds_94 ?_
      obtain ⟨c95, h⟩ := ck_some h
      refine g_iald hg (ky_lay7 hr0) (ky_bd7 hr0 hn) (inb_vp c95) dX4_holds_95 ?_
      refine g_rload_n hg dX4_holds_96 rfl 1 rfl ?_
      refine g_getR (r := (r0 + 7)) hg fl_X4_31 (ky_lay hr0) rfl (ky_bd hr0 hn) (ky_rf7 hr0 hRf) (Nat.succ_pos _) dX4_holds_97 ?_
      refine g_iload hg dX4_holds_100 0 rfl ?_
      obtain ⟨c102, h⟩ := ck_some h
      refine g_iald hg (ky_lay7 hr0) (ky_bd7 hr0 hn) (inb_vp c102) dX4_holds_102 ?_
      refine g_ior hg dX4_holds_103 ?_
      refine g_sub (lv' := [(0, rr E.1 r0), (1, rr E.1 r1), (3, .int x3), (4, .int (x4 + (-1))), (5, .int x5)]) [1, 2, 3, 0, 4] rfl ?_
      exact lkX4_holds_104 hn hRf hr0 hr1 hg hr hk6 _ _ _ _ _ _ h
    · replace h := itT c h
      refine g_rload_n hg dX4_holds_67 rfl 1 rfl ?_
      refine g_getR (r := (r0 + 7)) hg fl_X4_31 (ky_lay hr0) rfl (ky_bd hr0 hn) (ky_rf7 hr0 hRf) (Nat.succ_pos _) dX4_holds_68 ?_
      refine g_iload hg dX4_holds_71 0 rfl ?_
      refine g_iconst hg dX4_holds_73 kI_1 ?_
      refine g_isub hg dX4_holds_74 ?_
      obtain ⟨c75, h⟩ := ck_some h
      refine g_iald hg (ky_lay7 hr0) (ky_bd7 hr0 hn) (inb_vp c75) dX4_holds_75 ?_
      refine g_rload_n hg dX4_holds_76 rfl 1 rfl ?_
      refine g_getR (r := (r0 + 7)) hg fl_X4_31 (ky_lay hr0) rfl (ky_bd hr0 hn) (ky_rf7 hr0 hRf) (Nat.succ_pos _) dX4_holds_77 ?_
      refine g_iload hg dX4_holds_80 0 rfl ?_
      obtain ⟨c82, h⟩ := ck_some h
      refine g_iald hg (ky_lay7 hr0) (ky_bd7 hr0 hn) (inb_vp c82) dX4_holds_82 ?_
      refine g_iand hg dX4_holds_83 ?_
      refine g_goto (tgt := 104) hg dX4_holds_84 (by decide) ?_
      refine g_sub (lv' := [(0, rr E.1 r0), (1, rr E.1 r1), (3, .int x3), (4, .int (x4 + (-1))), (5, .int x5)]) [1, 2, 3, 0, 4] rfl ?_
      exact lkX4_holds_104 hn hRf hr0 hr1 hg hr hk6 _ _ _ _ _ _ h
  · replace h := itF c h
    refine g_iconst hg dX4_holds_42 kI_0 ?_
    replace h := Option.some.inj h
    subst h
    exact g_zret hg hr rfl dX4_holds_43
theorem lkX4_holds_144 {g : Gm} {l0 : Launch} {E : En} {d n : Nat} {Rf : Nat → Nat → Nat} {ex : Bool} {kq : Nat × Nat} (hn : 239 ≤ n) (hRf : RfOk 1 239 kq Rf) {r0 : Nat} (hr0 : isKy r0) {r1 : Nat} (hr1 : isNt r1) (hg : Ok g l0 E cX4_holds RX4 6 (d + 4) 0 0) {q : Int32 × Mm} (hr : Ret g E 0 0 (some .boolean) ex n Rf (some (.int q.1)) q.2) {k6 : Int32 → Int32 → Int32 → Mm → Option (Int32 × Mm)} (hk6 : ∀ (x3 : Int32) (x4 : Int32) (x5 : Int32) (M : Mm), k6 x3 x4 x5 M = some q → WG g E 6 n Rf ex 0 0 6 [(0, rr E.1 r0), (1, rr E.1 r1), (3, .int x3), (4, .int x4), (5, .int x5)] [] M) : ∀ (x3 : Int32) (x4 : Int32) (x5 : Int32) (M : Mm), sX4_holds_144 r0 r1 k6 x3 x4 x5 M = some q → WG g E 6 n Rf ex 0 0 144 [(0, rr E.1 r0), (1, rr E.1 r1), (3, .int x3), (4, .int x4), (5, .int x5)] [] M := by
  intro x3 x4 x5 M h
  unfold sX4_holds_144 at h
  refine g_iload hg dX4_holds_144 3 rfl ?_
  refine g_iconst hg dX4_holds_146 kI_1 ?_
  refine g_icmp_ge (tgt := 152) hg dX4_holds_147 (by decide) (fun c => ?_) (fun c => ?_)
  · replace h := itT c h
    refine g_rload_n hg dX4_holds_152 rfl 0 rfl ?_
    refine g_getR (r := (r0 + 7)) hg fl_X4_31 (ky_lay hr0) rfl (ky_bd hr0 hn) (ky_rf7 hr0 hRf) (Nat.succ_pos _) dX4_holds_153 ?_
    refine g_iload hg dX4_holds_156 3 rfl ?_
    refine g_iconst hg dX4_holds_158 kI_1 ?_
    refine g_isub hg dX4_holds_159 ?_
    refine g_rload_n hg dX4_holds_160 rfl 0 rfl ?_
    refine g_rload_n hg dX4_holds_161 rfl 1 rfl ?_
    refine g_iload hg dX4_holds_162 4 rfl ?_
    refine g_rload_n hg dX4_holds_164 rfl 0 rfl ?_
    refine g_getR (r := (r0 + 7)) hg fl_X4_31 (ky_lay hr0) rfl (ky_bd hr0 hn) (ky_rf7 hr0 hRf) (Nat.succ_pos _) dX4_holds_165 ?_
    refine g_iload hg dX4_holds_168 3 rfl ?_
    refine g_iconst hg dX4_holds_170 kI_1 ?_
    refine g_isub hg dX4_holds_171 ?_
    obtain ⟨c172, h⟩ := ck_some h
    refine g_iald hg (ky_lay7 hr0) (ky_bd7 hr0 hn) (inb_vp c172) dX4_holds_172 ?_
    obtain ⟨q173, e173, h⟩ := Option.bind_eq_some_iff.mp h
    refine g_callVi (As := [rr E.1 r1, .int x5, .int (M.1 (r0 + 7) (x4 - 1).toNatClampNeg)]) (rest := [.int (x4 - 1), rr E.1 (r0 + 7)]) hg (lkX4_changed (by omega) hn hRf hr0 hr1 e173) cv_X4_51 rfl (ky_lay hr0) (ky_bd hr0 hn) rfl rfl (Nat.le_of_ble_eq_true rfl) ⟨Nat.le_refl _, Nat.le_refl _⟩ dX4_holds_173 ?_
    obtain ⟨c176, h⟩ := ck_some h
    refine g_iast hg (ky_lay7 hr0) (ky_bd7 hr0 hn) (inb_vp c176) dX4_holds_176 ?_
    refine g_goto (tgt := 204) hg dX4_holds_177 (by decide) ?_
    exact lkX4_holds_204 hn hRf hr0 hr1 hg hr hk6 _ _ _ _ h
  · replace h := itF c h
    refine g_iconst hg dX4_holds_150 kI_0 ?_
    replace h := Option.some.inj h
    subst h
    exact g_zret hg hr rfl dX4_holds_151
theorem lkX4_holds_180 {g : Gm} {l0 : Launch} {E : En} {d n : Nat} {Rf : Nat → Nat → Nat} {ex : Bool} {kq : Nat × Nat} (hn : 239 ≤ n) (hRf : RfOk 1 239 kq Rf) {r0 : Nat} (hr0 : isKy r0) {r1 : Nat} (hr1 : isNt r1) (hg : Ok g l0 E cX4_holds RX4 6 (d + 4) 0 0) {q : Int32 × Mm} (hr : Ret g E 0 0 (some .boolean) ex n Rf (some (.int q.1)) q.2) {k6 : Int32 → Int32 → Int32 → Mm → Option (Int32 × Mm)} (hk6 : ∀ (x3 : Int32) (x4 : Int32) (x5 : Int32) (M : Mm), k6 x3 x4 x5 M = some q → WG g E 6 n Rf ex 0 0 6 [(0, rr E.1 r0), (1, rr E.1 r1), (3, .int x3), (4, .int x4), (5, .int x5)] [] M) : ∀ (x3 : Int32) (x4 : Int32) (x5 : Int32) (M : Mm), sX4_holds_180 r0 r1 k6 x3 x4 x5 M = some q → WG g E 6 n Rf ex 0 0 180 [(0, rr E.1 r0), (1, rr E.1 r1), (3, .int x3), (4, .int x4), (5, .int x5)] [] M := by
  intro x3 x4 x5 M h
  unfold sX4_holds_180 at h
  refine g_iload hg dX4_holds_180 3 rfl ?_
  refine g_bipush hg dX4_holds_182 kB_96 ?_
  refine g_icmp_ge (tgt := 204) hg dX4_holds_184 (by decide) (fun c => ?_) (fun c => ?_)
  · replace h := itT c h
    exact lkX4_holds_204 hn hRf hr0 hr1 hg hr hk6 _ _ _ _ h
  · replace h := itF c h
    refine g_rload_n hg dX4_holds_187 rfl 0 rfl ?_
    refine g_getR (r := (r0 + 7)) hg fl_X4_31 (ky_lay hr0) rfl (ky_bd hr0 hn) (ky_rf7 hr0 hRf) (Nat.succ_pos _) dX4_holds_188 ?_
    refine g_iload hg dX4_holds_191 3 rfl ?_
    refine g_rload_n hg dX4_holds_193 rfl 0 rfl ?_
    refine g_rload_n hg dX4_holds_194 rfl 1 rfl ?_
    refine g_iload hg dX4_holds_195 4 rfl ?_
    obtain ⟨q197, e197, h⟩ := Option.bind_eq_some_iff.mp h
    refine g_callVi (As := [rr E.1 r1, .int x5]) (rest := [.int x4, rr E.1 (r0 + 7)]) hg (lkX4_leaf (by omega) hn hRf hr0 hr1 e197) cv_X4_55 rfl (ky_lay hr0) (ky_bd hr0 hn) rfl rfl (Nat.le_of_ble_eq_true rfl) ⟨Nat.le_refl _, Nat.le_refl _⟩ dX4_holds_197 ?_
    obtain ⟨c200, h⟩ := ck_some h
    refine g_iast hg (ky_lay7 hr0) (ky_bd7 hr0 hn) (inb_vp c200) dX4_holds_200 ?_
    refine g_inc (lv' := [(4, .int (x4 + 1)), (0, rr E.1 r0), (1, rr E.1 r1), (3, .int x3), (5, .int x5)]) hg dX4_holds_201 kI_1 3 rfl (by decide) rfl ?_
    refine g_sub (lv' := [(0, rr E.1 r0), (1, rr E.1 r1), (3, .int x3), (4, .int (x4 + 1)), (5, .int x5)]) [1, 2, 3, 0, 4] rfl ?_
    exact lkX4_holds_204 hn hRf hr0 hr1 hg hr hk6 _ _ _ _ h
theorem lkX4_holds_6 {g : Gm} {l0 : Launch} {E : En} {d n : Nat} {Rf : Nat → Nat → Nat} {ex : Bool} {kq : Nat × Nat} (hn : 239 ≤ n) (hRf : RfOk 1 239 kq Rf) {r0 : Nat} (hr0 : isKy r0) {r1 : Nat} (hr1 : isNt r1) (hg : Ok g l0 E cX4_holds RX4 6 (d + 4) 0 0) {q : Int32 × Mm} (hr : Ret g E 0 0 (some .boolean) ex n Rf (some (.int q.1)) q.2) : ∀ (F : Nat) (x3 : Int32) (x4 : Int32) (x5 : Int32) (M : Mm), sX4_holds_6 r0 r1 F x3 x4 x5 M = some q → WG g E 6 n Rf ex 0 0 6 [(0, rr E.1 r0), (1, rr E.1 r1), (3, .int x3), (4, .int x4), (5, .int x5)] [] M := by
  intro F
  induction F with
  | zero =>
    intro x3 x4 x5 M h
    cases h
  | succ F ih =>
    intro x3 x4 x5 M h
    rw [sX4_holds_6] at h
    refine g_iload hg dX4_holds_6 4 rfl ?_
    refine g_iload_n hg dX4_holds_8 rfl 2 rfl ?_
    refine g_icmp_ge (tgt := 210) hg dX4_holds_9 (by decide) (fun c => ?_) (fun c => ?_)
    · replace h := itT c h
      refine g_iload hg dX4_holds_210 3 rfl ?_
      refine g_if_le (tgt := 231) hg dX4_holds_212 (by decide) (fun c => ?_) (fun c => ?_)
      · replace h := itT c h
        refine g_iconst hg dX4_holds_231 kI_0 ?_
        replace h := Option.some.inj h
        subst h
        exact g_zret hg hr rfl dX4_holds_232
      · replace h := itF c h
        refine g_rload_n hg dX4_holds_215 rfl 0 rfl ?_
        refine g_getR (r := (r0 + 7)) hg fl_X4_31 (ky_lay hr0) rfl (ky_bd hr0 hn) (ky_rf7 hr0 hRf) (Nat.succ_pos _) dX4_holds_216 ?_
        refine g_iload hg dX4_holds_219 3 rfl ?_
        refine g_iconst hg dX4_holds_221 kI_1 ?_
        refine g_isub hg dX4_holds_222 ?_
        obtain ⟨c223, h⟩ := ck_some h
        refine g_iald hg (ky_lay7 hr0) (ky_bd7 hr0 hn) (inb_vp c223) dX4_holds_223 ?_
        refine g_if_eq (tgt := 231) hg dX4_holds_224 (by decide) (fun c => ?_) (fun c => ?_)
        · rw [if_pos c] at h
          refine g_iconst hg dX4_holds_231 kI_0 ?_
          replace h := Option.some.inj h
          subst h
          exact g_zret hg hr rfl dX4_holds_232
        · rw [if_neg c] at h
          refine g_iconst hg dX4_holds_227 kI_1 ?_
          refine g_goto (tgt := 232) hg dX4_holds_228 (by decide) ?_
          replace h := Option.some.inj h
          subst h
          exact g_zret hg hr rfl dX4_holds_232
    · replace h := itF c h
      refine g_rload_n hg dX4_holds_12 rfl 0 rfl ?_
      refine g_getR (r := (r0 + 1)) hg fl_X4_11 (ky_lay hr0) rfl (ky_bd hr0 hn) (ky_rf1 hr0 hRf) (Nat.succ_pos _) dX4_holds_13 ?_
      refine g_iload hg dX4_holds_16 4 rfl ?_
      obtain ⟨c18, h⟩ := ck_some h
      refine g_iald hg (ky_lay1 hr0) (ky_bd1 hr0 hn) (inb_vp c18) dX4_holds_18 ?_
      refine g_bipush hg dX4_holds_19 kB_15 ?_
      refine g_icmp_eq (tgt := 36) hg dX4_holds_21 (by decide) (fun c => ?_) (fun c => ?_)
      · replace h := itT c h
        exact lkX4_holds_36 hn hRf hr0 hr1 hg hr ih _ _ _ _ h
      · replace h := itF c h
        refine g_rload_n hg dX4_holds_24 rfl 0 rfl ?_
        refine g_getR (r := (r0 + 1)) hg fl_X4_11 (ky_lay hr0) rfl (ky_bd hr0 hn) (ky_rf1 hr0 hRf) (Nat.succ_pos _) dX4_holds_25 ?_
        refine g_iload hg dX4_holds_28 4 rfl ?_
        obtain ⟨c30, h⟩ := ck_some h
        refine g_iald hg (ky_lay1 hr0) (ky_bd1 hr0 hn) (inb_vp c30) dX4_holds_30 ?_
        refine g_bipush hg dX4_holds_31 kB_14 ?_
        refine g_icmp_ne (tgt := 108) hg dX4_holds_33 (by decide) (fun c => ?_) (fun c => ?_)
        · replace h := itF c h
          refine g_rload_n hg dX4_holds_108 rfl 0 rfl ?_
          refine g_getR (r := (r0 + 1)) hg fl_X4_11 (ky_lay hr0) rfl (ky_bd hr0 hn) (ky_rf1 hr0 hRf) (Nat.succ_pos _) dX4_holds_109 ?_
          refine g_iload hg dX4_holds_112 4 rfl ?_
          obtain ⟨c114, h⟩ := ck_some h
          refine g_iald hg (ky_lay1 hr0) (ky_bd1 hr0 hn) (inb_vp c114) dX4_holds_114 ?_
          refine g_bipush hg dX4_holds_115 kB_16 ?_
          refine g_icmp_eq (tgt := 144) hg dX4_holds_117 (by decide) (fun c => ?_) (fun c => ?_)
          · replace h := itT c h
            exact lkX4_holds_144 hn hRf hr0 hr1 hg hr ih _ _ _ _ h
          · replace h := itF c h
            refine g_rload_n hg dX4_holds_120 rfl 0 rfl ?_
            refine g_getR (r := (r0 + 1)) hg fl_X4_11 (ky_lay hr0) rfl (ky_bd hr0 hn) (ky_rf1 hr0 hRf) (Nat.succ_pos _) dX4_holds_121 ?_
            refine g_iload hg dX4_holds_124 4 rfl ?_
            obtain ⟨c126, h⟩ := ck_some h
            refine g_iald hg (ky_lay1 hr0) (ky_bd1 hr0 hn) (inb_vp c126) dX4_holds_126 ?_
            refine g_bipush hg dX4_holds_127 kB_18 ?_
            refine g_icmp_lt (tgt := 180) hg dX4_holds_129 (by decide) (fun c => ?_) (fun c => ?_)
            · replace h := itT c h
              exact lkX4_holds_180 hn hRf hr0 hr1 hg hr ih _ _ _ _ h
            · replace h := itF c h
              refine g_rload_n hg dX4_holds_132 rfl 0 rfl ?_
              refine g_getR (r := (r0 + 1)) hg fl_X4_11 (ky_lay hr0) rfl (ky_bd hr0 hn) (ky_rf1 hr0 hRf) (Nat.succ_pos _) dX4_holds_133 ?_
              refine g_iload hg dX4_holds_136 4 rfl ?_
              obtain ⟨c138, h⟩ := ck_some h
              refine g_iald hg (ky_lay1 hr0) (ky_bd1 hr0 hn) (inb_vp c138) dX4_holds_138 ?_
              refine g_bipush hg dX4_holds_139 kB_22 ?_
              refine g_icmp_gt (tgt := 180) hg dX4_holds_141 (by decide) (fun c => ?_) (fun c => ?_)
              · replace h := itT c h
                exact lkX4_holds_180 hn hRf hr0 hr1 hg hr ih _ _ _ _ h
              · replace h := itF c h
                exact lkX4_holds_144 hn hRf hr0 hr1 hg hr ih _ _ _ _ h
        · replace h := itT c h
          exact lkX4_holds_36 hn hRf hr0 hr1 hg hr ih _ _ _ _ h
theorem lkX4_holds {l0 : Launch} {E : En} {d n : Nat} {Rf : Nat → Nat → Nat} {ex : Bool} {kq : Nat × Nat} (hd : 4 ≤ d) (hn : 239 ≤ n) (hRf : RfOk 1 239 kq Rf) {r0 : Nat} (hr0 : isKy r0) {r1 : Nat} (hr1 : isNt r1) {x2 : Int32} {x3 : Int32} {M : Mm} {q : Int32 × Mm} (h : sX4_holds r0 r1 x2 x3 M = some q) : Ct l0 E yX4_holds cX4_holds 6 (some .boolean) d 0 0 [rr E.1 r0, rr E.1 r1, .int x2, .int x3] ex n Rf M n Rf (some (.int q.1)) q.2 := by
  obtain ⟨d, rfl⟩ := Nat.exists_eq_add_of_le' hd
  refine Ct.of pnX4 (Nat.le_of_ble_eq_true rfl) (fun g hg hr _ => ?_)
  replace hg : Ok g l0 E cX4_holds RX4 6 (d + 4) 0 0 := hg
  show WG g E 6 n Rf ex 0 0 0 [(0, rr E.1 r0), (1, rr E.1 r1), (2, .int x2), (3, .int x3)] [] M
  unfold sX4_holds at h
  refine g_iconst hg dX4_holds_0 kI_0 ?_
  refine g_istore (lv' := [(4, .int 0), (0, rr E.1 r0), (1, rr E.1 r1), (2, .int x2), (3, .int x3)]) hg dX4_holds_1 (by decide) rfl ?_
  refine g_iload_n hg dX4_holds_3 rfl 3 rfl ?_
  refine g_istore (lv' := [(5, .int x2), (4, .int 0), (0, rr E.1 r0), (1, rr E.1 r1), (2, .int x2), (3, .int x3)]) hg dX4_holds_4 (by decide) rfl ?_
  refine g_sub (lv' := [(0, rr E.1 r0), (1, rr E.1 r1), (3, .int x3), (4, .int 0), (5, .int x2)]) [2, 3, 5, 1, 0] rfl ?_
  exact lkX4_holds_6 hn hRf hr0 hr1 hg hr  4096 _ _ _ _ h
theorem lkX4_firstLineOf_4 {g : Gm} {l0 : Launch} {E : En} {d n : Nat} {Rf : Nat → Nat → Nat} {ex : Bool} {kq : Nat × Nat} (hn : 239 ≤ n) (hRf : RfOk 1 239 kq Rf) {r0 : Nat} (hr0 : isKy r0) {r1 : Nat} (hr1 : isNt r1) (hg : Ok g l0 E cX4_firstLineOf RX4 4 (d + 5) 0 0) {q : Int32 × Mm} (hr : Ret g E 0 0 (some .int) ex n Rf (some (.int q.1)) q.2) : ∀ (F : Nat) (x2 : Int32) (x3 : Int32) (M : Mm), sX4_firstLineOf_4 r0 r1 F x2 x3 M = some q → WG g E 4 n Rf ex 0 0 4 [(0, rr E.1 r0), (1, rr E.1 r1), (2, .int x2), (3, .int x3)] [] M := by
  intro F
  induction F with
  | zero =>
    intro x2 x3 M h
    cases h
  | succ F ih =>
    intro x2 x3 M h
    rw [sX4_firstLineOf_4] at h
    refine g_iload_n hg dX4_firstLineOf_4 rfl 3 rfl ?_
    refine g_rload_n hg dX4_firstLineOf_5 rfl 0 rfl ?_
    refine g_getI hg fl_X4_38 (ky_lay hr0) rfl (ky_bd hr0 hn) dX4_firstLineOf_6 ?_
    refine g_icmp_ge (tgt := 42) hg dX4_firstLineOf_9 (by decide) (fun c => ?_) (fun c => ?_)
    · replace h := itT c h
      refine g_iconst hg dX4_firstLineOf_42 kI_m1 ?_
      replace h := Option.some.inj h
      subst h
      exact g_iret hg hr dX4_firstLineOf_43
    · replace h := itF c h
      refine g_rload_n hg dX4_firstLineOf_12 rfl 0 rfl ?_
      refine g_rload_n hg dX4_firstLineOf_13 rfl 1 rfl ?_
      refine g_iload_n hg dX4_firstLineOf_14 rfl 2 rfl ?_
      refine g_rload_n hg dX4_firstLineOf_15 rfl 0 rfl ?_
      refine g_getR (r := (r0 + 4)) hg fl_X4_21 (ky_lay hr0) rfl (ky_bd hr0 hn) (ky_rf4 hr0 hRf) (Nat.succ_pos _) dX4_firstLineOf_16 ?_
      refine g_iload_n hg dX4_firstLineOf_19 rfl 3 rfl ?_
      obtain ⟨c20, h⟩ := ck_some h
      refine g_iald hg (ky_lay4 hr0) (ky_bd4 hr0 hn) (inb_vp c20) dX4_firstLineOf_20 ?_
      obtain ⟨q21, e21, h⟩ := Option.bind_eq_some_iff.mp h
      refine g_callVi (As := [rr E.1 r1, .int x2, .int (M.1 (r0 + 4) x3.toNatClampNeg)]) (rest := []) hg (lkX4_holds (by omega) hn hRf hr0 hr1 e21) cv_X4_47 rfl (ky_lay hr0) (ky_bd hr0 hn) rfl rfl (Nat.le_of_ble_eq_true rfl) ⟨Nat.le_refl _, Nat.le_refl _⟩ dX4_firstLineOf_21 ?_
      refine g_if_eq (tgt := 29) hg dX4_firstLineOf_24 (by decide) (fun c => ?_) (fun c => ?_)
      · replace h := itT c h
        refine g_rload_n hg dX4_firstLineOf_29 rfl 0 rfl ?_
        refine g_getR (r := (r0 + 4)) hg fl_X4_21 (ky_lay hr0) rfl (ky_bd hr0 hn) (ky_rf4 hr0 hRf) (Nat.succ_pos _) dX4_firstLineOf_30 ?_
        refine g_iload_n hg dX4_firstLineOf_33 rfl 3 rfl ?_
        obtain ⟨c34, h⟩ := ck_some h
        refine g_iald hg (ky_lay4 hr0) (ky_bd4 hr0 hn) (inb_vp c34) dX4_firstLineOf_34 ?_
        refine g_istore_n (lv' := [(2, .int (q21.2.1 (r0 + 4) x3.toNatClampNeg)), (0, rr E.1 r0), (1, rr E.1 r1), (3, .int x3)]) hg dX4_firstLineOf_35 rfl (by decide) rfl ?_
        refine g_inc (lv' := [(3, .int (x3 + 1)), (2, .int (q21.2.1 (r0 + 4) x3.toNatClampNeg)), (0, rr E.1 r0), (1, rr E.1 r1)]) hg dX4_firstLineOf_36 kI_1 3 rfl (by decide) rfl ?_
        refine g_goto (tgt := 4) hg dX4_firstLineOf_39 (by decide) ?_
        refine g_sub (lv' := [(0, rr E.1 r0), (1, rr E.1 r1), (2, .int (q21.2.1 (r0 + 4) x3.toNatClampNeg)), (3, .int (x3 + 1))]) [2, 3, 1, 0] rfl ?_
        exact ih _ _ _ h
      · replace h := itF c h
        refine g_iload_n hg dX4_firstLineOf_27 rfl 3 rfl ?_
        replace h := Option.some.inj h
        subst h
        exact g_iret hg hr dX4_firstLineOf_28
theorem lkX4_firstLineOf {l0 : Launch} {E : En} {d n : Nat} {Rf : Nat → Nat → Nat} {ex : Bool} {kq : Nat × Nat} (hd : 5 ≤ d) (hn : 239 ≤ n) (hRf : RfOk 1 239 kq Rf) {r0 : Nat} (hr0 : isKy r0) {r1 : Nat} (hr1 : isNt r1)  {M : Mm} {q : Int32 × Mm} (h : sX4_firstLineOf r0 r1 M = some q) : Ct l0 E yX4_firstLineOf cX4_firstLineOf 4 (some .int) d 0 0 [rr E.1 r0, rr E.1 r1] ex n Rf M n Rf (some (.int q.1)) q.2 := by
  obtain ⟨d, rfl⟩ := Nat.exists_eq_add_of_le' hd
  refine Ct.of pnX4 (Nat.le_of_ble_eq_true rfl) (fun g hg hr _ => ?_)
  replace hg : Ok g l0 E cX4_firstLineOf RX4 4 (d + 5) 0 0 := hg
  show WG g E 4 n Rf ex 0 0 0 [(0, rr E.1 r0), (1, rr E.1 r1)] [] M
  unfold sX4_firstLineOf at h
  refine g_iconst hg dX4_firstLineOf_0 kI_0 ?_
  refine g_istore_n (lv' := [(2, .int 0), (0, rr E.1 r0), (1, rr E.1 r1)]) hg dX4_firstLineOf_1 rfl (by decide) rfl ?_
  refine g_iconst hg dX4_firstLineOf_2 kI_0 ?_
  refine g_istore_n (lv' := [(3, .int 0), (2, .int 0), (0, rr E.1 r0), (1, rr E.1 r1)]) hg dX4_firstLineOf_3 rfl (by decide) rfl ?_
  refine g_sub (lv' := [(0, rr E.1 r0), (1, rr E.1 r1), (2, .int 0), (3, .int 0)]) [2, 3, 1, 0] rfl ?_
  exact lkX4_firstLineOf_4 hn hRf hr0 hr1 hg hr  4096 _ _ _ h
theorem lkX7_judge_31 {g : Gm} {l0 : Launch} {E : En} {d n : Nat} {Rf : Nat → Nat → Nat} {ex : Bool} {kq : Nat × Nat} (hn : 239 ≤ n) (hRf : RfOk 1 239 kq Rf) {r0 : Nat} (hr0 : isNt r0) {r1 : Nat} (hr1 : isKy r1) (hg : Ok g l0 E cX7_judge RX7 2 (d + 6) 0 0) {q : Mm} (hr : Ret g E 0 0 none ex n Rf none q) : ∀ (s1 : Int32) (M : Mm), sX7_judge_31 r0 r1 s1 M = some q → WG g E 2 n Rf ex 0 0 31 [] [.int s1, rr E.1 r0] M := by
  intro s1 M h
  unfold sX7_judge_31 at h
  refine g_putI hg fp_X7_18 (nt_lay hr0) rfl (nt_bd hr0 hn) dX7_judge_31 ?_
  replace h := Option.some.inj h
  subst h
  exact g_vret hg hr dX7_judge_34
theorem lkX7_judge {l0 : Launch} {E : En} {d n : Nat} {Rf : Nat → Nat → Nat} {ex : Bool} {kq : Nat × Nat} (hd : 6 ≤ d) (hn : 239 ≤ n) (hRf : RfOk 1 239 kq Rf) {r0 : Nat} (hr0 : isNt r0) {r1 : Nat} (hr1 : isKy r1)  {M : Mm} {q : Mm} (h : sX7_judge r0 r1 M = some q) : Ct l0 E yX7_judge cX7_judge 2 none d 0 0 [rr E.1 r0, rr E.1 r1] ex n Rf M n Rf none q := by
  obtain ⟨d, rfl⟩ := Nat.exists_eq_add_of_le' hd
  refine Ct.of pnX7 (Nat.le_of_ble_eq_true rfl) (fun g hg hr _ => ?_)
  replace hg : Ok g l0 E cX7_judge RX7 2 (d + 6) 0 0 := hg
  show WG g E 2 n Rf ex 0 0 0 [(0, rr E.1 r0), (1, rr E.1 r1)] [] M
  unfold sX7_judge at h
  refine g_rload_n hg dX7_judge_0 rfl 0 rfl ?_
  refine g_rload_n hg dX7_judge_1 rfl 1 rfl ?_
  refine g_rload_n hg dX7_judge_2 rfl 0 rfl ?_
  obtain ⟨q3, e3, h⟩ := Option.bind_eq_some_iff.mp h
  refine g_callVi (As := [rr E.1 r0]) (rest := [rr E.1 r0]) hg (lkX4_firstLineOf (by omega) hn hRf hr1 hr0 e3) cv_X7_32 rfl (ky_lay hr1) (ky_bd hr1 hn) rfl rfl (Nat.le_of_ble_eq_true rfl) ⟨Nat.le_refl _, Nat.le_refl _⟩ dX7_judge_3 ?_
  refine g_putI hg fp_X7_15 (nt_lay hr0) rfl (nt_bd hr0 hn) dX7_judge_6 ?_
  refine g_rload_n hg dX7_judge_9 rfl 0 rfl ?_
  refine g_rload_n hg dX7_judge_10 rfl 0 rfl ?_
  refine g_getI hg fl_X7_15 (nt_lay hr0) rfl (nt_bd hr0 hn) dX7_judge_11 ?_
  refine g_iconst hg dX7_judge_14 kI_m1 ?_
  refine g_icmp_ne (tgt := 22) hg dX7_judge_15 (by decide) (fun c => ?_) (fun c => ?_)
  · replace h := itF c h
    refine g_rload_n hg dX7_judge_22 rfl 1 rfl ?_
    refine g_getR (r := (r1 + 5)) hg fl_X7_38 (ky_lay hr1) rfl (ky_bd hr1 hn) (ky_rf5 hr1 hRf) (Nat.succ_pos _) dX7_judge_23 ?_
    refine g_rload_n hg dX7_judge_26 rfl 0 rfl ?_
    refine g_getI hg fl_X7_15 (nt_lay hr0) rfl (nt_bd hr0 hn) dX7_judge_27 ?_
    obtain ⟨c30, h⟩ := ck_some h
    refine g_iald hg (ky_lay5 hr1) (ky_bd5 hr1 hn) (inb_vp c30) dX7_judge_30 ?_
    refine g_sub (lv' := []) [] rfl ?_
    exact lkX7_judge_31 hn hRf hr0 hr1 hg hr  _ _ h
  · replace h := itT c h
    refine g_iconst hg dX7_judge_18 kI_m1 ?_
    refine g_goto (tgt := 31) hg dX7_judge_19 (by decide) ?_
    refine g_sub (lv' := []) [] rfl ?_
    exact lkX7_judge_31 hn hRf hr0 hr1 hg hr  _ _ h
theorem lkX11_bore {l0 : Launch} {E : En} {d n : Nat} {Rf : Nat → Nat → Nat} {ex : Bool} {kq : Nat × Nat} (hd : 7 ≤ d) (hn : 239 ≤ n) (hRf : RfOk 1 239 kq Rf) (hkq : isKq kq) {x1 : Int32} {x2 : Int32} {x3 : Int32} {M : Mm} {q : Int32 × Mm} (h : sX11_bore kq x1 x2 x3 M = some q) : Ct l0 E yX11_bore cX11_bore 6 (some .int) d 0 0 [rr E.1 1, .int x1, .int x2, .int x3] ex n Rf M n Rf (some (.int q.1)) q.2 := by
  obtain ⟨d, rfl⟩ := Nat.exists_eq_add_of_le' hd
  refine Ct.of pnX11 (Nat.le_of_ble_eq_true rfl) (fun g hg hr _ => ?_)
  replace hg : Ok g l0 E cX11_bore RX11 6 (d + 7) 0 0 := hg
  show WG g E 6 n Rf ex 0 0 0 [(0, rr E.1 1), (1, .int x1), (2, .int x2), (3, .int x3)] [] M
  unfold sX11_bore at h
  refine g_iload_n hg dX11_bore_0 rfl 1 rfl ?_
  refine g_if_lt (tgt := 42) hg dX11_bore_1 (by decide) (fun c => ?_) (fun c => ?_)
  · replace h := itT c h
    refine g_bipush hg dX11_bore_42 kB_m2 ?_
    replace h := Option.some.inj h
    subst h
    exact g_iret hg hr dX11_bore_44
  · replace h := itF c h
    refine g_iload_n hg dX11_bore_4 rfl 1 rfl ?_
    refine g_rload_n hg dX11_bore_5 rfl 0 rfl ?_
    refine g_getI hg fl_X11_104 ly1 rfl (idb rfl rfl hn) dX11_bore_6 ?_
    refine g_icmp_gt (tgt := 42) hg dX11_bore_9 (by decide) (fun c => ?_) (fun c => ?_)
    · replace h := itT c h
      refine g_bipush hg dX11_bore_42 kB_m2 ?_
      replace h := Option.some.inj h
      subst h
      exact g_iret hg hr dX11_bore_44
    · replace h := itF c h
      refine g_iload_n hg dX11_bore_12 rfl 2 rfl ?_
      obtain ⟨q13, e13, h⟩ := Option.bind_eq_some_iff.mp h
      refine g_callSi (As := [.int x2]) (rest := []) hg (lkX11_isHand (by omega) hn hRf  e13) cs_X11_138 rfl rfl (Nat.le_of_ble_eq_true rfl) ⟨Nat.le_refl _, Nat.le_refl _⟩ dX11_bore_13 ?_
      refine g_if_eq (tgt := 42) hg dX11_bore_16 (by decide) (fun c => ?_) (fun c => ?_)
      · replace h := itT c h
        refine g_bipush hg dX11_bore_42 kB_m2 ?_
        replace h := Option.some.inj h
        subst h
        exact g_iret hg hr dX11_bore_44
      · replace h := itF c h
        refine g_rload_n hg dX11_bore_19 rfl 0 rfl ?_
        refine g_getR (r := 22) hg fl_X11_45 ly1 rfl (idb rfl rfl hn) (rfc hRf rfl rfl rfl rfl) (by decide) dX11_bore_20 ?_
        refine g_iload_n hg dX11_bore_23 rfl 3 rfl ?_
        obtain ⟨q24, e24, h⟩ := Option.bind_eq_some_iff.mp h
        refine g_callVi (As := [.int x3]) (rest := []) hg (lkX6_hasCell (by omega) (Nat.le_trans (by decide : 34 ≤ 239) hn) (hRf.mono (by decide) (by decide))  e24) cv_X11_142 rfl ly22 (idb rfl rfl hn) rfl rfl (Nat.le_of_ble_eq_true rfl) ⟨Nat.le_refl _, Nat.le_refl _⟩ dX11_bore_24 ?_
        refine g_if_eq (tgt := 42) hg dX11_bore_27 (by decide) (fun c => ?_) (fun c => ?_)
        · replace h := itT c h
          refine g_bipush hg dX11_bore_42 kB_m2 ?_
          replace h := Option.some.inj h
          subst h
          exact g_iret hg hr dX11_bore_44
        · replace h := itF c h
          refine g_rload_n hg dX11_bore_30 rfl 0 rfl ?_
          refine g_getR (r := 34) hg fl_X11_52 ly1 rfl (idb rfl rfl hn) (rfc hRf rfl rfl rfl rfl) (by decide) dX11_bore_31 ?_
          refine g_getI hg fl_X11_145 ly34 rfl (idb rfl rfl hn) dX11_bore_34 ?_
          refine g_bipush hg dX11_bore_37 kB_60 ?_
          refine g_icmp_lt (tgt := 45) hg dX11_bore_39 (by decide) (fun c => ?_) (fun c => ?_)
          · replace h := itT c h
            refine g_rload_n hg dX11_bore_45 rfl 0 rfl ?_
            refine g_getR (r := 34) hg fl_X11_52 ly1 rfl (idb rfl rfl hn) (rfc hRf rfl rfl rfl rfl) (by decide) dX11_bore_46 ?_
            refine g_getR (r := 35) hg fl_X11_148 ly34 rfl (idb rfl rfl hn) (rfc hRf rfl rfl rfl rfl) (by decide) dX11_bore_49 ?_
            refine g_rload_n hg dX11_bore_52 rfl 0 rfl ?_
            refine g_getR (r := 34) hg fl_X11_52 ly1 rfl (idb rfl rfl hn) (rfc hRf rfl rfl rfl rfl) (by decide) dX11_bore_53 ?_
            refine g_getI hg fl_X11_145 ly34 rfl (idb rfl rfl hn) dX11_bore_56 ?_
            obtain ⟨c59, h⟩ := ck_some h
            refine g_aald3 (r := (38 + 2 * (q24.2.1 34 1).toNatClampNeg)) hg ly35 (idb rfl rfl hn) (inb_vp c59) (nt_rfA (inb_vp c59) hRf) (Nat.lt_of_lt_of_le (by decide) (Nat.le_add_right _ _)) dX11_bore_59 ?_
            refine g_rstore (lv' := [(4, rr E.1 (38 + 2 * (q24.2.1 34 1).toNatClampNeg)), (0, rr E.1 1), (1, .int x1), (2, .int x2), (3, .int x3)]) hg dX11_bore_60 (by decide) rfl ?_
            refine g_rload_n hg dX11_bore_62 rfl 1 rfl ?_
            refine g_getR (r := 3) hg fl_X11_18 ly1 rfl (idb rfl rfl hn) (rfc hRf rfl rfl rfl rfl) (by decide) dX11_bore_63 ?_
            refine g_iload_n hg dX11_bore_66 rfl 2 rfl ?_
            obtain ⟨M67, e67, h⟩ := Option.bind_eq_some_iff.mp h
            refine g_callVv (As := [.int x1]) (rest := []) hg (lkX10_start (by omega) (Nat.le_trans (by decide : 5 ≤ 239) hn) (hRf.mono (by decide) (by decide))  e67) cv_X11_111 rfl ly3 (idb rfl rfl hn) rfl rfl (Nat.le_of_ble_eq_true rfl) ⟨Nat.le_refl _, Nat.le_refl _⟩ dX11_bore_67 ?_
            refine g_rload hg dX11_bore_70 0 rfl ?_
            refine g_rload_n hg dX11_bore_72 rfl 1 rfl ?_
            refine g_getR (r := 3) hg fl_X11_18 ly1 rfl (idb rfl rfl hn) (rfc hRf rfl rfl rfl rfl) (by decide) dX11_bore_73 ?_
            obtain ⟨q76, e76, h⟩ := Option.bind_eq_some_iff.mp h
            refine g_callVi (As := [rr E.1 3]) (rest := []) hg (lkX7_readFrom (by omega) hn hRf (nt_of (inb_vp c59)) e76) cv_X11_152 rfl (nt_lay (nt_of (inb_vp c59))) (nt_bd (nt_of (inb_vp c59)) hn) rfl rfl (Nat.le_of_ble_eq_true rfl) ⟨Nat.le_refl _, Nat.le_refl _⟩ dX11_bore_76 ?_
            refine g_istore (lv' := [(5, .int q76.1), (4, rr E.1 (38 + 2 * (q24.2.1 34 1).toNatClampNeg)), (0, rr E.1 1), (1, .int x1), (2, .int x2), (3, .int x3)]) hg dX11_bore_79 (by decide) rfl ?_
            refine g_rload_n hg dX11_bore_81 rfl 2 rfl ?_
            obtain ⟨M82, e82, h⟩ := Option.bind_eq_some_iff.mp h
            refine g_callVv (As := []) (rest := []) hg (lkX11_keepFault (by omega) hn hRf  e82) cv_X11_118 rfl ly1 (idb rfl rfl hn) rfl rfl (Nat.le_of_ble_eq_true rfl) ⟨Nat.le_refl _, Nat.le_refl _⟩ dX11_bore_82 ?_
            refine g_iload hg dX11_bore_85 0 rfl ?_
            refine g_if_ne (tgt := 92) hg dX11_bore_87 (by decide) (fun c => ?_) (fun c => ?_)
            · replace h := itF c h
              refine g_rload hg dX11_bore_92 1 rfl ?_
              refine g_iconst hg dX11_bore_94 kI_m1 ?_
              refine g_putI hg fp_X11_158 (nt_lay (nt_of (inb_vp c59))) rfl (nt_bd (nt_of (inb_vp c59)) hn) dX11_bore_95 ?_
              refine g_rload hg dX11_bore_98 1 rfl ?_
              refine g_iload_n hg dX11_bore_100 rfl 4 rfl ?_
              refine g_putI hg fp_X11_161 (nt_lay (nt_of (inb_vp c59))) rfl (nt_bd (nt_of (inb_vp c59)) hn) dX11_bore_101 ?_
              refine g_rload hg dX11_bore_104 1 rfl ?_
              refine g_iload_n hg dX11_bore_106 rfl 5 rfl ?_
              refine g_putI hg fp_X11_164 (nt_lay (nt_of (inb_vp c59))) rfl (nt_bd (nt_of (inb_vp c59)) hn) dX11_bore_107 ?_
              refine g_rload hg dX11_bore_110 1 rfl ?_
              refine g_rload_n hg dX11_bore_112 rfl 2 rfl ?_
              refine g_getR (r := kq.1) hg fl_X11_34 ly1 rfl (idb rfl rfl hn) (rfc hRf rfl rfl rfl rfl) (ky_pos hkq.1) dX11_bore_113 ?_
              obtain ⟨M116, e116, h⟩ := Option.bind_eq_some_iff.mp h
              refine g_callVv (As := [rr E.1 kq.1]) (rest := []) hg (lkX7_judge (by omega) hn hRf (nt_of (inb_vp c59)) hkq.1 e116) cv_X11_167 rfl (nt_lay (nt_of (inb_vp c59))) (nt_bd (nt_of (inb_vp c59)) hn) rfl rfl (Nat.le_of_ble_eq_true rfl) ⟨Nat.le_refl _, Nat.le_refl _⟩ dX11_bore_116 ?_
              refine g_rload_n hg dX11_bore_119 rfl 2 rfl ?_
              refine g_getR (r := 34) hg fl_X11_52 ly1 rfl (idb rfl rfl hn) (rfc hRf rfl rfl rfl rfl) (by decide) dX11_bore_120 ?_
              refine g_dup hg dX11_bore_123 rfl ?_
              refine g_getI hg fl_X11_145 ly34 rfl (idb rfl rfl hn) dX11_bore_124 ?_
              refine g_iconst hg dX11_bore_127 kI_1 ?_
              refine g_iadd hg dX11_bore_128 ?_
              refine g_putI hg fp_X11_145 ly34 rfl (idb rfl rfl hn) dX11_bore_129 ?_
              refine g_rload_n hg dX11_bore_132 rfl 2 rfl ?_
              refine g_getR (r := 34) hg fl_X11_52 ly1 rfl (idb rfl rfl hn) (rfc hRf rfl rfl rfl rfl) (by decide) dX11_bore_133 ?_
              refine g_getI hg fl_X11_145 ly34 rfl (idb rfl rfl hn) dX11_bore_136 ?_
              refine g_iconst hg dX11_bore_139 kI_1 ?_
              refine g_isub hg dX11_bore_140 ?_
              replace h := Option.some.inj h
              subst h
              exact g_iret hg hr dX11_bore_141
            · replace h := itT c h
              refine g_iconst hg dX11_bore_90 kI_m1 ?_
              replace h := Option.some.inj h
              subst h
              exact g_iret hg hr dX11_bore_91
          · replace h := itF c h
            refine g_bipush hg dX11_bore_42 kB_m2 ?_
            replace h := Option.some.inj h
            subst h
            exact g_iret hg hr dX11_bore_44
theorem lkX11_fault {l0 : Launch} {E : En} {d n : Nat} {Rf : Nat → Nat → Nat} {ex : Bool} {kq : Nat × Nat} (hd : 1 ≤ d) (hn : 239 ≤ n) (hRf : RfOk 1 239 kq Rf) {x1 : Int32} {M : Mm} {q : Int32 × Mm} (h : sX11_fault x1 M = some q) : Ct l0 E yX11_fault cX11_fault 2 (some .int) d 0 0 [rr E.1 1, .int x1] ex n Rf M n Rf (some (.int q.1)) q.2 := by
  obtain ⟨d, rfl⟩ := Nat.exists_eq_add_of_le' hd
  refine Ct.of pnX11 (Nat.le_of_ble_eq_true rfl) (fun g hg hr _ => ?_)
  replace hg : Ok g l0 E cX11_fault RX11 2 (d + 1) 0 0 := hg
  show WG g E 2 n Rf ex 0 0 0 [(0, rr E.1 1), (1, .int x1)] [] M
  unfold sX11_fault at h
  refine g_iload_n hg dX11_fault_0 rfl 1 rfl ?_
  refine g_if_ne (tgt := 11) hg dX11_fault_1 (by decide) (fun c => ?_) (fun c => ?_)
  · rw [if_neg c] at h
    refine g_iload_n hg dX11_fault_11 rfl 1 rfl ?_
    refine g_iconst hg dX11_fault_12 kI_1 ?_
    refine g_icmp_ne (tgt := 23) hg dX11_fault_13 (by decide) (fun c => ?_) (fun c => ?_)
    · rw [if_neg c] at h
      refine g_iconst hg dX11_fault_23 kI_m1 ?_
      replace h := Option.some.inj h
      subst h
      exact g_iret hg hr dX11_fault_24
    · rw [if_pos c] at h
      refine g_rload_n hg dX11_fault_16 rfl 0 rfl ?_
      refine g_getI hg fl_X11_38 ly1 rfl (idb rfl rfl hn) dX11_fault_17 ?_
      refine g_goto (tgt := 24) hg dX11_fault_20 (by decide) ?_
      replace h := Option.some.inj h
      subst h
      exact g_iret hg hr dX11_fault_24
  · rw [if_pos c] at h
    refine g_rload_n hg dX11_fault_4 rfl 0 rfl ?_
    refine g_getI hg fl_X11_170 ly1 rfl (idb rfl rfl hn) dX11_fault_5 ?_
    refine g_goto (tgt := 24) hg dX11_fault_8 (by decide) ?_
    replace h := Option.some.inj h
    subst h
    exact g_iret hg hr dX11_fault_24
theorem lkX1_hasNote {l0 : Launch} {E : En} {d n : Nat} {Rf : Nat → Nat → Nat} {ex : Bool} {kq : Nat × Nat} (hd : 1 ≤ d) (hn : 239 ≤ n) (hRf : RfOk 1 239 kq Rf) {x1 : Int32} {M : Mm} {q : Int32 × Mm} (h : sX1_hasNote x1 M = some q) : Ct l0 E yX1_hasNote cX1_hasNote 2 (some .boolean) d 0 0 [rr E.1 34, .int x1] ex n Rf M n Rf (some (.int q.1)) q.2 := by
  obtain ⟨d, rfl⟩ := Nat.exists_eq_add_of_le' hd
  refine Ct.of pnX1 (Nat.le_of_ble_eq_true rfl) (fun g hg hr _ => ?_)
  replace hg : Ok g l0 E cX1_hasNote RX1 2 (d + 1) 0 0 := hg
  show WG g E 2 n Rf ex 0 0 0 [(0, rr E.1 34), (1, .int x1)] [] M
  unfold sX1_hasNote at h
  refine g_iload_n hg dX1_hasNote_0 rfl 1 rfl ?_
  refine g_if_lt (tgt := 16) hg dX1_hasNote_1 (by decide) (fun c => ?_) (fun c => ?_)
  · rw [if_pos c] at h
    refine g_iconst hg dX1_hasNote_16 kI_0 ?_
    replace h := Option.some.inj h
    subst h
    exact g_zret hg hr rfl dX1_hasNote_17
  · rw [if_neg c] at h
    refine g_iload_n hg dX1_hasNote_4 rfl 1 rfl ?_
    refine g_rload_n hg dX1_hasNote_5 rfl 0 rfl ?_
    refine g_getI hg fl_X1_26 ly34 rfl (idb rfl rfl hn) dX1_hasNote_6 ?_
    refine g_icmp_ge (tgt := 16) hg dX1_hasNote_9 (by decide) (fun c => ?_) (fun c => ?_)
    · rw [if_pos c] at h
      refine g_iconst hg dX1_hasNote_16 kI_0 ?_
      replace h := Option.some.inj h
      subst h
      exact g_zret hg hr rfl dX1_hasNote_17
    · rw [if_neg c] at h
      refine g_iconst hg dX1_hasNote_12 kI_1 ?_
      refine g_goto (tgt := 17) hg dX1_hasNote_13 (by decide) ?_
      replace h := Option.some.inj h
      subst h
      exact g_zret hg hr rfl dX1_hasNote_17
theorem lkX11_strike {l0 : Launch} {E : En} {d n : Nat} {Rf : Nat → Nat → Nat} {ex : Bool} {kq : Nat × Nat} (hd : 2 ≤ d) (hn : 239 ≤ n) (hRf : RfOk 1 239 kq Rf) {x1 : Int32} {M : Mm} {q : Int32 × Mm} (h : sX11_strike x1 M = some q) : Ct l0 E yX11_strike cX11_strike 2 (some .int) d 0 0 [rr E.1 1, .int x1] ex n Rf M n Rf (some (.int q.1)) q.2 := by
  obtain ⟨d, rfl⟩ := Nat.exists_eq_add_of_le' hd
  refine Ct.of pnX11 (Nat.le_of_ble_eq_true rfl) (fun g hg hr _ => ?_)
  replace hg : Ok g l0 E cX11_strike RX11 2 (d + 2) 0 0 := hg
  show WG g E 2 n Rf ex 0 0 0 [(0, rr E.1 1), (1, .int x1)] [] M
  unfold sX11_strike at h
  refine g_rload_n hg dX11_strike_0 rfl 0 rfl ?_
  refine g_getR (r := 34) hg fl_X11_52 ly1 rfl (idb rfl rfl hn) (rfc hRf rfl rfl rfl rfl) (by decide) dX11_strike_1 ?_
  refine g_iload_n hg dX11_strike_4 rfl 1 rfl ?_
  obtain ⟨q5, e5, h⟩ := Option.bind_eq_some_iff.mp h
  refine g_callVi (As := [.int x1]) (rest := []) hg (lkX1_hasNote (by omega) hn hRf  e5) cv_X11_173 rfl ly34 (idb rfl rfl hn) rfl rfl (Nat.le_of_ble_eq_true rfl) ⟨Nat.le_refl _, Nat.le_refl _⟩ dX11_strike_5 ?_
  refine g_if_eq (tgt := 23) hg dX11_strike_8 (by decide) (fun c => ?_) (fun c => ?_)
  · replace h := itT c h
    refine g_iconst hg dX11_strike_23 kI_m1 ?_
    replace h := Option.some.inj h
    subst h
    exact g_iret hg hr dX11_strike_24
  · replace h := itF c h
    refine g_rload_n hg dX11_strike_11 rfl 0 rfl ?_
    refine g_getR (r := 34) hg fl_X11_52 ly1 rfl (idb rfl rfl hn) (rfc hRf rfl rfl rfl rfl) (by decide) dX11_strike_12 ?_
    refine g_getI hg fl_X11_145 ly34 rfl (idb rfl rfl hn) dX11_strike_15 ?_
    refine g_bipush hg dX11_strike_18 kB_60 ?_
    refine g_icmp_lt (tgt := 25) hg dX11_strike_20 (by decide) (fun c => ?_) (fun c => ?_)
    · replace h := itT c h
      refine g_rload_n hg dX11_strike_25 rfl 0 rfl ?_
      refine g_getR (r := 34) hg fl_X11_52 ly1 rfl (idb rfl rfl hn) (rfc hRf rfl rfl rfl rfl) (by decide) dX11_strike_26 ?_
      refine g_getR (r := 35) hg fl_X11_148 ly34 rfl (idb rfl rfl hn) (rfc hRf rfl rfl rfl rfl) (by decide) dX11_strike_29 ?_
      refine g_rload_n hg dX11_strike_32 rfl 0 rfl ?_
      refine g_getR (r := 34) hg fl_X11_52 ly1 rfl (idb rfl rfl hn) (rfc hRf rfl rfl rfl rfl) (by decide) dX11_strike_33 ?_
      refine g_getI hg fl_X11_145 ly34 rfl (idb rfl rfl hn) dX11_strike_36 ?_
      obtain ⟨c39, h⟩ := ck_some h
      refine g_aald3 (r := (38 + 2 * (q5.2.1 34 1).toNatClampNeg)) hg ly35 (idb rfl rfl hn) (inb_vp c39) (nt_rfA (inb_vp c39) hRf) (Nat.lt_of_lt_of_le (by decide) (Nat.le_add_right _ _)) dX11_strike_39 ?_
      refine g_iload_n hg dX11_strike_40 rfl 1 rfl ?_
      refine g_putI hg fp_X11_158 (nt_lay (nt_of (inb_vp c39))) rfl (nt_bd (nt_of (inb_vp c39)) hn) dX11_strike_41 ?_
      refine g_rload_n hg dX11_strike_44 rfl 0 rfl ?_
      refine g_getR (r := 34) hg fl_X11_52 ly1 rfl (idb rfl rfl hn) (rfc hRf rfl rfl rfl rfl) (by decide) dX11_strike_45 ?_
      refine g_dup hg dX11_strike_48 rfl ?_
      refine g_getI hg fl_X11_145 ly34 rfl (idb rfl rfl hn) dX11_strike_49 ?_
      refine g_iconst hg dX11_strike_52 kI_1 ?_
      refine g_iadd hg dX11_strike_53 ?_
      refine g_putI hg fp_X11_145 ly34 rfl (idb rfl rfl hn) dX11_strike_54 ?_
      refine g_rload_n hg dX11_strike_57 rfl 0 rfl ?_
      refine g_getR (r := 34) hg fl_X11_52 ly1 rfl (idb rfl rfl hn) (rfc hRf rfl rfl rfl rfl) (by decide) dX11_strike_58 ?_
      refine g_getI hg fl_X11_145 ly34 rfl (idb rfl rfl hn) dX11_strike_61 ?_
      refine g_iconst hg dX11_strike_64 kI_1 ?_
      refine g_isub hg dX11_strike_65 ?_
      replace h := Option.some.inj h
      subst h
      exact g_iret hg hr dX11_strike_66
    · replace h := itF c h
      refine g_iconst hg dX11_strike_23 kI_m1 ?_
      replace h := Option.some.inj h
      subst h
      exact g_iret hg hr dX11_strike_24
theorem lkX6_heightGap {l0 : Launch} {E : En} {d n : Nat} {Rf : Nat → Nat → Nat} {ex : Bool} {kq : Nat × Nat} (hd : 1 ≤ d) (hn : 34 ≤ n) (hRf : RfOk 22 34 kq Rf) {x1 : Int32} {x2 : Int32} {M : Mm} {q : Int32 × Mm} (h : sX6_heightGap x1 x2 M = some q) : Ct l0 E yX6_heightGap cX6_heightGap 3 (some .int) d 0 0 [rr E.1 22, .int x1, .int x2] ex n Rf M n Rf (some (.int q.1)) q.2 := by
  obtain ⟨d, rfl⟩ := Nat.exists_eq_add_of_le' hd
  refine Ct.of pnX6 (Nat.le_of_ble_eq_true rfl) (fun g hg hr _ => ?_)
  replace hg : Ok g l0 E cX6_heightGap RX6 3 (d + 1) 0 0 := hg
  show WG g E 3 n Rf ex 0 0 0 [(0, rr E.1 22), (1, .int x1), (2, .int x2)] [] M
  unfold sX6_heightGap at h
  refine g_rload_n hg dX6_heightGap_0 rfl 0 rfl ?_
  refine g_getR (r := 23) hg fl_X6_13 ly22 rfl (idb rfl rfl hn) (rfc hRf rfl rfl rfl rfl) (by decide) dX6_heightGap_1 ?_
  refine g_iconst hg dX6_heightGap_4 kI_0 ?_
  obtain ⟨c5, h⟩ := ck_some h
  refine g_aald4 (r := (24 + ((0 : Int32).toNatClampNeg))) hg ly23 (idb rfl rfl hn) (inb_vp c5) (fr23_rf (inb_vp c5) hRf) (Nat.lt_of_lt_of_le (by decide) (Nat.le_add_right _ _)) dX6_heightGap_5 ?_
  refine g_iload_n hg dX6_heightGap_6 rfl 1 rfl ?_
  obtain ⟨c7, h⟩ := ck_some h
  refine g_iald hg (fr23_lay (inb_vp c5)) (fr23_bd (inb_vp c5) hn) (inb_vp c7) dX6_heightGap_7 ?_
  refine g_rload_n hg dX6_heightGap_8 rfl 0 rfl ?_
  refine g_getR (r := 23) hg fl_X6_13 ly22 rfl (idb rfl rfl hn) (rfc hRf rfl rfl rfl rfl) (by decide) dX6_heightGap_9 ?_
  refine g_iconst hg dX6_heightGap_12 kI_0 ?_
  obtain ⟨c13, h⟩ := ck_some h
  refine g_aald4 (r := (24 + ((0 : Int32).toNatClampNeg))) hg ly23 (idb rfl rfl hn) (inb_vp c13) (fr23_rf (inb_vp c13) hRf) (Nat.lt_of_lt_of_le (by decide) (Nat.le_add_right _ _)) dX6_heightGap_13 ?_
  refine g_iload_n hg dX6_heightGap_14 rfl 2 rfl ?_
  obtain ⟨c15, h⟩ := ck_some h
  refine g_iald hg (fr23_lay (inb_vp c13)) (fr23_bd (inb_vp c13) hn) (inb_vp c15) dX6_heightGap_15 ?_
  refine g_isub hg dX6_heightGap_16 ?_
  refine g_mabs hg mw_X6_70 (Nat.le_of_ble_eq_true rfl) ⟨Nat.le_refl _, Nat.le_refl _⟩ dX6_heightGap_17 ?_
  replace h := Option.some.inj h
  subst h
  exact g_iret hg hr dX6_heightGap_20
theorem lkX6_slopeOf_111 {g : Gm} {l0 : Launch} {E : En} {d n : Nat} {Rf : Nat → Nat → Nat} {ex : Bool} {kq : Nat × Nat} (hn : 34 ≤ n) (hRf : RfOk 22 34 kq Rf) (hg : Ok g l0 E cX6_slopeOf RX6 3 (d + 2) 0 0) {q : Int32 × Mm} (hr : Ret g E 0 0 (some .int) ex n Rf (some (.int q.1)) q.2) : ∀ (s0 : Int32) (s1 : Int32) (M : Mm), sX6_slopeOf_111 s0 s1 M = some q → WG g E 3 n Rf ex 0 0 111 [] [.int s1, .int s0] M := by
  intro s0 s1 M h
  unfold sX6_slopeOf_111 at h
  refine g_mmax hg mw_X6_76 (Nat.le_of_ble_eq_true rfl) ⟨Nat.le_refl _, Nat.le_refl _⟩ dX6_slopeOf_111 ?_
  replace h := Option.some.inj h
  subst h
  exact g_iret hg hr dX6_slopeOf_114
theorem lkX6_slopeOf_78 {g : Gm} {l0 : Launch} {E : En} {d n : Nat} {Rf : Nat → Nat → Nat} {ex : Bool} {kq : Nat × Nat} (hn : 34 ≤ n) (hRf : RfOk 22 34 kq Rf) (hg : Ok g l0 E cX6_slopeOf RX6 3 (d + 2) 0 0) {q : Int32 × Mm} (hr : Ret g E 0 0 (some .int) ex n Rf (some (.int q.1)) q.2) : ∀ (x1 : Int32) (s0 : Int32) (s1 : Int32) (M : Mm), sX6_slopeOf_78 x1 s0 s1 M = some q → WG g E 3 n Rf ex 0 0 78 [(0, rr E.1 22), (1, .int x1)] [.int s1, .int s0] M := by
  intro x1 s0 s1 M h
  unfold sX6_slopeOf_78 at h
  refine g_mmax hg mw_X6_76 (Nat.le_of_ble_eq_true rfl) ⟨Nat.le_refl _, Nat.le_refl _⟩ dX6_slopeOf_78 ?_
  refine g_istore_n (lv' := [(2, .int (if s0 < s1 then s1 else s0)), (0, rr E.1 22), (1, .int x1)]) hg dX6_slopeOf_81 rfl (by decide) rfl ?_
  refine g_iload_n hg dX6_slopeOf_82 rfl 0 rfl ?_
  refine g_iload_n hg dX6_slopeOf_83 rfl 2 rfl ?_
  refine g_rload_n hg dX6_slopeOf_84 rfl 1 rfl ?_
  refine g_getI hg fl_X6_49 ly22 rfl (idb rfl rfl hn) dX6_slopeOf_85 ?_
  refine g_iadd hg dX6_slopeOf_88 ?_
  refine g_rload_n hg dX6_slopeOf_89 rfl 1 rfl ?_
  refine g_getI hg fl_X6_55 ly22 rfl (idb rfl rfl hn) dX6_slopeOf_90 ?_
  refine g_icmp_ge (tgt := 110) hg dX6_slopeOf_93 (by decide) (fun c => ?_) (fun c => ?_)
  · replace h := itT c h
    refine g_iconst hg dX6_slopeOf_110 kI_0 ?_
    refine g_sub (lv' := []) [] rfl ?_
    exact lkX6_slopeOf_111 hn hRf hg hr  _ _ _ h
  · replace h := itF c h
    refine g_rload_n hg dX6_slopeOf_96 rfl 1 rfl ?_
    refine g_iload_n hg dX6_slopeOf_97 rfl 2 rfl ?_
    refine g_iload_n hg dX6_slopeOf_98 rfl 2 rfl ?_
    refine g_rload_n hg dX6_slopeOf_99 rfl 1 rfl ?_
    refine g_getI hg fl_X6_49 ly22 rfl (idb rfl rfl hn) dX6_slopeOf_100 ?_
    refine g_iadd hg dX6_slopeOf_103 ?_
    obtain ⟨q104, e104, h⟩ := Option.bind_eq_some_iff.mp h
    refine g_callVi (As := [.int x1, .int (x1 + (M.1 22 0))]) (rest := [.int (if s0 < s1 then s1 else s0)]) hg (lkX6_heightGap (by omega) hn hRf  e104) cv_X6_90 rfl ly22 (idb rfl rfl hn) rfl rfl (Nat.le_of_ble_eq_true rfl) ⟨Nat.le_refl _, Nat.le_refl _⟩ dX6_slopeOf_104 ?_
    refine g_goto (tgt := 111) hg dX6_slopeOf_107 (by decide) ?_
    refine g_sub (lv' := []) [] rfl ?_
    exact lkX6_slopeOf_111 hn hRf hg hr  _ _ _ h
theorem lkX6_slopeOf_50 {g : Gm} {l0 : Launch} {E : En} {d n : Nat} {Rf : Nat → Nat → Nat} {ex : Bool} {kq : Nat × Nat} (hn : 34 ≤ n) (hRf : RfOk 22 34 kq Rf) (hg : Ok g l0 E cX6_slopeOf RX6 3 (d + 2) 0 0) {q : Int32 × Mm} (hr : Ret g E 0 0 (some .int) ex n Rf (some (.int q.1)) q.2) : ∀ (x1 : Int32) (s0 : Int32) (s1 : Int32) (M : Mm), sX6_slopeOf_50 x1 s0 s1 M = some q → WG g E 3 n Rf ex 0 0 50 [(0, rr E.1 22), (1, .int x1)] [.int s1, .int s0] M := by
  intro x1 s0 s1 M h
  unfold sX6_slopeOf_50 at h
  refine g_mmax hg mw_X6_76 (Nat.le_of_ble_eq_true rfl) ⟨Nat.le_refl _, Nat.le_refl _⟩ dX6_slopeOf_50 ?_
  refine g_istore_n (lv' := [(2, .int (if s0 < s1 then s1 else s0)), (0, rr E.1 22), (1, .int x1)]) hg dX6_slopeOf_53 rfl (by decide) rfl ?_
  refine g_iload_n hg dX6_slopeOf_54 rfl 0 rfl ?_
  refine g_iload_n hg dX6_slopeOf_55 rfl 2 rfl ?_
  refine g_rload_n hg dX6_slopeOf_56 rfl 1 rfl ?_
  refine g_getI hg fl_X6_49 ly22 rfl (idb rfl rfl hn) dX6_slopeOf_57 ?_
  refine g_icmp_lt (tgt := 77) hg dX6_slopeOf_60 (by decide) (fun c => ?_) (fun c => ?_)
  · replace h := itT c h
    refine g_iconst hg dX6_slopeOf_77 kI_0 ?_
    refine g_sub (lv' := [(0, rr E.1 22), (1, .int x1)]) [1, 2] rfl ?_
    exact lkX6_slopeOf_78 hn hRf hg hr  _ _ _ _ h
  · replace h := itF c h
    refine g_rload_n hg dX6_slopeOf_63 rfl 1 rfl ?_
    refine g_iload_n hg dX6_slopeOf_64 rfl 2 rfl ?_
    refine g_iload_n hg dX6_slopeOf_65 rfl 2 rfl ?_
    refine g_rload_n hg dX6_slopeOf_66 rfl 1 rfl ?_
    refine g_getI hg fl_X6_49 ly22 rfl (idb rfl rfl hn) dX6_slopeOf_67 ?_
    refine g_isub hg dX6_slopeOf_70 ?_
    obtain ⟨q71, e71, h⟩ := Option.bind_eq_some_iff.mp h
    refine g_callVi (As := [.int x1, .int (x1 - (M.1 22 0))]) (rest := [.int (if s0 < s1 then s1 else s0)]) hg (lkX6_heightGap (by omega) hn hRf  e71) cv_X6_90 rfl ly22 (idb rfl rfl hn) rfl rfl (Nat.le_of_ble_eq_true rfl) ⟨Nat.le_refl _, Nat.le_refl _⟩ dX6_slopeOf_71 ?_
    refine g_goto (tgt := 78) hg dX6_slopeOf_74 (by decide) ?_
    refine g_sub (lv' := [(0, rr E.1 22), (1, .int x1)]) [1, 2] rfl ?_
    exact lkX6_slopeOf_78 hn hRf hg hr  _ _ _ _ h
theorem lkX6_slopeOf_21 {g : Gm} {l0 : Launch} {E : En} {d n : Nat} {Rf : Nat → Nat → Nat} {ex : Bool} {kq : Nat × Nat} (hn : 34 ≤ n) (hRf : RfOk 22 34 kq Rf) (hg : Ok g l0 E cX6_slopeOf RX6 3 (d + 2) 0 0) {q : Int32 × Mm} (hr : Ret g E 0 0 (some .int) ex n Rf (some (.int q.1)) q.2) : ∀ (x1 : Int32) (s0 : Int32) (M : Mm), sX6_slopeOf_21 x1 s0 M = some q → WG g E 3 n Rf ex 0 0 21 [(0, rr E.1 22), (1, .int x1)] [.int s0] M := by
  intro x1 s0 M h
  unfold sX6_slopeOf_21 at h
  refine g_istore_n (lv' := [(2, .int s0), (0, rr E.1 22), (1, .int x1)]) hg dX6_slopeOf_21 rfl (by decide) rfl ?_
  refine g_iload_n hg dX6_slopeOf_22 rfl 0 rfl ?_
  refine g_rload_n hg dX6_slopeOf_23 rfl 1 rfl ?_
  refine g_getR (r := 29) hg fl_X6_16 ly22 rfl (idb rfl rfl hn) (rfc hRf rfl rfl rfl rfl) (by decide) dX6_slopeOf_24 ?_
  refine g_iload_n hg dX6_slopeOf_27 rfl 2 rfl ?_
  obtain ⟨c28, h⟩ := ck_some h
  refine g_iald hg ly29 (idb rfl rfl hn) (inb_vp c28) dX6_slopeOf_28 ?_
  refine g_rload_n hg dX6_slopeOf_29 rfl 1 rfl ?_
  refine g_getI hg fl_X6_49 ly22 rfl (idb rfl rfl hn) dX6_slopeOf_30 ?_
  refine g_iconst hg dX6_slopeOf_33 kI_1 ?_
  refine g_isub hg dX6_slopeOf_34 ?_
  refine g_icmp_ge (tgt := 49) hg dX6_slopeOf_35 (by decide) (fun c => ?_) (fun c => ?_)
  · replace h := itT c h
    refine g_iconst hg dX6_slopeOf_49 kI_0 ?_
    refine g_sub (lv' := [(0, rr E.1 22), (1, .int x1)]) [1, 2] rfl ?_
    exact lkX6_slopeOf_50 hn hRf hg hr  _ _ _ _ h
  · replace h := itF c h
    refine g_rload_n hg dX6_slopeOf_38 rfl 1 rfl ?_
    refine g_iload_n hg dX6_slopeOf_39 rfl 2 rfl ?_
    refine g_iload_n hg dX6_slopeOf_40 rfl 2 rfl ?_
    refine g_iconst hg dX6_slopeOf_41 kI_1 ?_
    refine g_iadd hg dX6_slopeOf_42 ?_
    obtain ⟨q43, e43, h⟩ := Option.bind_eq_some_iff.mp h
    refine g_callVi (As := [.int x1, .int (x1 + 1)]) (rest := [.int s0]) hg (lkX6_heightGap (by omega) hn hRf  e43) cv_X6_90 rfl ly22 (idb rfl rfl hn) rfl rfl (Nat.le_of_ble_eq_true rfl) ⟨Nat.le_refl _, Nat.le_refl _⟩ dX6_slopeOf_43 ?_
    refine g_goto (tgt := 50) hg dX6_slopeOf_46 (by decide) ?_
    refine g_sub (lv' := [(0, rr E.1 22), (1, .int x1)]) [1, 2] rfl ?_
    exact lkX6_slopeOf_50 hn hRf hg hr  _ _ _ _ h
theorem lkX6_slopeOf {l0 : Launch} {E : En} {d n : Nat} {Rf : Nat → Nat → Nat} {ex : Bool} {kq : Nat × Nat} (hd : 2 ≤ d) (hn : 34 ≤ n) (hRf : RfOk 22 34 kq Rf) {x1 : Int32} {M : Mm} {q : Int32 × Mm} (h : sX6_slopeOf x1 M = some q) : Ct l0 E yX6_slopeOf cX6_slopeOf 3 (some .int) d 0 0 [rr E.1 22, .int x1] ex n Rf M n Rf (some (.int q.1)) q.2 := by
  obtain ⟨d, rfl⟩ := Nat.exists_eq_add_of_le' hd
  refine Ct.of pnX6 (Nat.le_of_ble_eq_true rfl) (fun g hg hr _ => ?_)
  replace hg : Ok g l0 E cX6_slopeOf RX6 3 (d + 2) 0 0 := hg
  show WG g E 3 n Rf ex 0 0 0 [(0, rr E.1 22), (1, .int x1)] [] M
  unfold sX6_slopeOf at h
  refine g_rload_n hg dX6_slopeOf_0 rfl 0 rfl ?_
  refine g_getR (r := 29) hg fl_X6_16 ly22 rfl (idb rfl rfl hn) (rfc hRf rfl rfl rfl rfl) (by decide) dX6_slopeOf_1 ?_
  refine g_iload_n hg dX6_slopeOf_4 rfl 1 rfl ?_
  obtain ⟨c5, h⟩ := ck_some h
  refine g_iald hg ly29 (idb rfl rfl hn) (inb_vp c5) dX6_slopeOf_5 ?_
  refine g_if_le (tgt := 20) hg dX6_slopeOf_6 (by decide) (fun c => ?_) (fun c => ?_)
  · replace h := itT c h
    refine g_iconst hg dX6_slopeOf_20 kI_0 ?_
    exact lkX6_slopeOf_21 hn hRf hg hr  _ _ _ h
  · replace h := itF c h
    refine g_rload_n hg dX6_slopeOf_9 rfl 0 rfl ?_
    refine g_iload_n hg dX6_slopeOf_10 rfl 1 rfl ?_
    refine g_iload_n hg dX6_slopeOf_11 rfl 1 rfl ?_
    refine g_iconst hg dX6_slopeOf_12 kI_1 ?_
    refine g_isub hg dX6_slopeOf_13 ?_
    obtain ⟨q14, e14, h⟩ := Option.bind_eq_some_iff.mp h
    refine g_callVi (As := [.int x1, .int (x1 - 1)]) (rest := []) hg (lkX6_heightGap (by omega) hn hRf  e14) cv_X6_90 rfl ly22 (idb rfl rfl hn) rfl rfl (Nat.le_of_ble_eq_true rfl) ⟨Nat.le_refl _, Nat.le_refl _⟩ dX6_slopeOf_14 ?_
    refine g_goto (tgt := 21) hg dX6_slopeOf_17 (by decide) ?_
    exact lkX6_slopeOf_21 hn hRf hg hr  _ _ _ h
theorem lkX6_stepOf {l0 : Launch} {E : En} {d n : Nat} {Rf : Nat → Nat → Nat} {ex : Bool} {kq : Nat × Nat} (hd : 1 ≤ d) (hn : 34 ≤ n) (hRf : RfOk 22 34 kq Rf) {x0 : Int32} {x1 : Int32} {x2 : Int32} {M : Mm} {q : Int32 × Mm} (h : sX6_stepOf x0 x1 x2 M = some q) : Ct l0 E yX6_stepOf cX6_stepOf 3 (some .int) d 0 0 [.int x0, .int x1, .int x2] ex n Rf M n Rf (some (.int q.1)) q.2 := by
  obtain ⟨d, rfl⟩ := Nat.exists_eq_add_of_le' hd
  refine Ct.of pnX6 (Nat.le_of_ble_eq_true rfl) (fun g hg hr _ => ?_)
  replace hg : Ok g l0 E cX6_stepOf RX6 3 (d + 1) 0 0 := hg
  show WG g E 3 n Rf ex 0 0 0 [(0, .int x0), (1, .int x1), (2, .int x2)] [] M
  unfold sX6_stepOf at h
  refine g_iload_n hg dX6_stepOf_0 rfl 0 rfl ?_
  refine g_iload_n hg dX6_stepOf_1 rfl 1 rfl ?_
  refine g_icmp_ge (tgt := 9) hg dX6_stepOf_2 (by decide) (fun c => ?_) (fun c => ?_)
  · rw [if_pos c] at h
    refine g_iload_n hg dX6_stepOf_9 rfl 0 rfl ?_
    refine g_iload_n hg dX6_stepOf_10 rfl 2 rfl ?_
    refine g_icmp_ge (tgt := 18) hg dX6_stepOf_11 (by decide) (fun c => ?_) (fun c => ?_)
    · rw [if_pos c] at h
      refine g_iconst hg dX6_stepOf_18 kI_2 ?_
      replace h := Option.some.inj h
      subst h
      exact g_iret hg hr dX6_stepOf_19
    · rw [if_neg c] at h
      refine g_iconst hg dX6_stepOf_14 kI_1 ?_
      refine g_goto (tgt := 19) hg dX6_stepOf_15 (by decide) ?_
      replace h := Option.some.inj h
      subst h
      exact g_iret hg hr dX6_stepOf_19
  · rw [if_neg c] at h
    refine g_iconst hg dX6_stepOf_5 kI_0 ?_
    refine g_goto (tgt := 19) hg dX6_stepOf_6 (by decide) ?_
    replace h := Option.some.inj h
    subst h
    exact g_iret hg hr dX6_stepOf_19
theorem lkX6_reckon_84 {g : Gm} {l0 : Launch} {E : En} {d n : Nat} {Rf : Nat → Nat → Nat} {ex : Bool} {kq : Nat × Nat} (hn : 34 ≤ n) (hRf : RfOk 22 34 kq Rf) (hg : Ok g l0 E cX6_reckon RX6 2 (d + 3) 0 0) {q : Mm} (hr : Ret g E 0 0 none ex n Rf none q) {k2 : Int32 → Mm → Option (Mm)} (hk2 : ∀ (x1 : Int32) (M : Mm), k2 x1 M = some q → WG g E 2 n Rf ex 0 0 2 [(0, rr E.1 22), (1, .int x1)] [] M) : ∀ (x1 : Int32) (s1 : Int32) (s2 : Int32) (M : Mm), sX6_reckon_84 k2 x1 s1 s2 M = some q → WG g E 2 n Rf ex 0 0 84 [(0, rr E.1 22), (1, .int x1)] [.int s2, .int s1, rr E.1 33] M := by
  intro x1 s1 s2 M h
  unfold sX6_reckon_84 at h
  obtain ⟨c84, h⟩ := ck_some h
  refine g_iast hg ly33 (idb rfl rfl hn) (inb_vp c84) dX6_reckon_84 ?_
  refine g_inc (lv' := [(1, .int (x1 + 1)), (0, rr E.1 22)]) hg dX6_reckon_85 kI_1 1 rfl (by decide) rfl ?_
  refine g_goto (tgt := 2) hg dX6_reckon_88 (by decide) ?_
  refine g_sub (lv' := [(0, rr E.1 22), (1, .int (x1 + 1))]) [1, 0] rfl ?_
  exact hk2 _ _ h
theorem lkX6_reckon_2 {g : Gm} {l0 : Launch} {E : En} {d n : Nat} {Rf : Nat → Nat → Nat} {ex : Bool} {kq : Nat × Nat} (hn : 34 ≤ n) (hRf : RfOk 22 34 kq Rf) (hg : Ok g l0 E cX6_reckon RX6 2 (d + 3) 0 0) {q : Mm} (hr : Ret g E 0 0 none ex n Rf none q) : ∀ (F : Nat) (x1 : Int32) (M : Mm), sX6_reckon_2 F x1 M = some q → WG g E 2 n Rf ex 0 0 2 [(0, rr E.1 22), (1, .int x1)] [] M := by
  intro F
  induction F with
  | zero =>
    intro x1 M h
    cases h
  | succ F ih =>
    intro x1 M h
    rw [sX6_reckon_2] at h
    refine g_iload_n hg dX6_reckon_2 rfl 1 rfl ?_
    refine g_rload_n hg dX6_reckon_3 rfl 0 rfl ?_
    refine g_getI hg fl_X6_55 ly22 rfl (idb rfl rfl hn) dX6_reckon_4 ?_
    refine g_icmp_ge (tgt := 91) hg dX6_reckon_7 (by decide) (fun c => ?_) (fun c => ?_)
    · replace h := itT c h
      replace h := Option.some.inj h
      subst h
      exact g_vret hg hr dX6_reckon_91
    · replace h := itF c h
      refine g_rload_n hg dX6_reckon_10 rfl 0 rfl ?_
      refine g_getR (r := 31) hg fl_X6_23 ly22 rfl (idb rfl rfl hn) (rfc hRf rfl rfl rfl rfl) (by decide) dX6_reckon_11 ?_
      refine g_iload_n hg dX6_reckon_14 rfl 1 rfl ?_
      refine g_rload_n hg dX6_reckon_15 rfl 0 rfl ?_
      refine g_iload_n hg dX6_reckon_16 rfl 1 rfl ?_
      obtain ⟨q17, e17, h⟩ := Option.bind_eq_some_iff.mp h
      refine g_callVi (As := [.int x1]) (rest := [.int x1, rr E.1 31]) hg (lkX6_slopeOf (by omega) hn hRf  e17) cv_X6_83 rfl ly22 (idb rfl rfl hn) rfl rfl (Nat.le_of_ble_eq_true rfl) ⟨Nat.le_refl _, Nat.le_refl _⟩ dX6_reckon_17 ?_
      obtain ⟨c20, h⟩ := ck_some h
      refine g_iast hg ly31 (idb rfl rfl hn) (inb_vp c20) dX6_reckon_20 ?_
      refine g_rload_n hg dX6_reckon_21 rfl 0 rfl ?_
      refine g_getR (r := 32) hg fl_X6_26 ly22 rfl (idb rfl rfl hn) (rfc hRf rfl rfl rfl rfl) (by decide) dX6_reckon_22 ?_
      refine g_iload_n hg dX6_reckon_25 rfl 1 rfl ?_
      refine g_rload_n hg dX6_reckon_26 rfl 0 rfl ?_
      refine g_getR (r := 31) hg fl_X6_23 ly22 rfl (idb rfl rfl hn) (rfc hRf rfl rfl rfl rfl) (by decide) dX6_reckon_27 ?_
      refine g_iload_n hg dX6_reckon_30 rfl 1 rfl ?_
      obtain ⟨c31, h⟩ := ck_some h
      refine g_iald hg ly31 (idb rfl rfl hn) (inb_vp c31) dX6_reckon_31 ?_
      refine g_rload_n hg dX6_reckon_32 rfl 0 rfl ?_
      refine g_getI hg fl_X6_32 ly22 rfl (idb rfl rfl hn) dX6_reckon_33 ?_
      refine g_rload_n hg dX6_reckon_36 rfl 0 rfl ?_
      refine g_getI hg fl_X6_36 ly22 rfl (idb rfl rfl hn) dX6_reckon_37 ?_
      obtain ⟨q40, e40, h⟩ := Option.bind_eq_some_iff.mp h
      refine g_callSi (As := [.int ((sI q17.2 31 x1.toNatClampNeg q17.1).1 31 x1.toNatClampNeg), .int ((sI q17.2 31 x1.toNatClampNeg q17.1).1 22 9), .int ((sI q17.2 31 x1.toNatClampNeg q17.1).1 22 10)]) (rest := [.int x1, rr E.1 32]) hg (lkX6_stepOf (by omega) hn hRf  e40) cs_X6_86 rfl rfl (Nat.le_of_ble_eq_true rfl) ⟨Nat.le_refl _, Nat.le_refl _⟩ dX6_reckon_40 ?_
      obtain ⟨c43, h⟩ := ck_some h
      refine g_iast hg ly32 (idb rfl rfl hn) (inb_vp c43) dX6_reckon_43 ?_
      refine g_rload_n hg dX6_reckon_44 rfl 0 rfl ?_
      refine g_getR (r := 33) hg fl_X6_29 ly22 rfl (idb rfl rfl hn) (rfc hRf rfl rfl rfl rfl) (by decide) dX6_reckon_45 ?_
      refine g_iload_n hg dX6_reckon_48 rfl 1 rfl ?_
      refine g_rload_n hg dX6_reckon_49 rfl 0 rfl ?_
      refine g_getR (r := 23) hg fl_X6_13 ly22 rfl (idb rfl rfl hn) (rfc hRf rfl rfl rfl rfl) (by decide) dX6_reckon_50 ?_
      refine g_iconst hg dX6_reckon_53 kI_2 ?_
      obtain ⟨c54, h⟩ := ck_some h
      refine g_aald4 (r := (24 + ((2 : Int32).toNatClampNeg))) hg ly23 (idb rfl rfl hn) (inb_vp c54) (fr23_rf (inb_vp c54) hRf) (Nat.lt_of_lt_of_le (by decide) (Nat.le_add_right _ _)) dX6_reckon_54 ?_
      refine g_iload_n hg dX6_reckon_55 rfl 1 rfl ?_
      obtain ⟨c56, h⟩ := ck_some h
      refine g_iald hg (fr23_lay (inb_vp c54)) (fr23_bd (inb_vp c54) hn) (inb_vp c56) dX6_reckon_56 ?_
      refine g_iconst hg dX6_reckon_57 kI_m1 ?_
      refine g_icmp_ne (tgt := 65) hg dX6_reckon_58 (by decide) (fun c => ?_) (fun c => ?_)
      · replace h := itF c h
        refine g_rload_n hg dX6_reckon_65 rfl 0 rfl ?_
        refine g_getR (r := 23) hg fl_X6_13 ly22 rfl (idb rfl rfl hn) (rfc hRf rfl rfl rfl rfl) (by decide) dX6_reckon_66 ?_
        refine g_iconst hg dX6_reckon_69 kI_2 ?_
        obtain ⟨c70, h⟩ := ck_some h
        refine g_aald4 (r := (24 + ((2 : Int32).toNatClampNeg))) hg ly23 (idb rfl rfl hn) (inb_vp c70) (fr23_rf (inb_vp c70) hRf) (Nat.lt_of_lt_of_le (by decide) (Nat.le_add_right _ _)) dX6_reckon_70 ?_
        refine g_iload_n hg dX6_reckon_71 rfl 1 rfl ?_
        obtain ⟨c72, h⟩ := ck_some h
        refine g_iald hg (fr23_lay (inb_vp c70)) (fr23_bd (inb_vp c70) hn) (inb_vp c72) dX6_reckon_72 ?_
        refine g_rload_n hg dX6_reckon_73 rfl 0 rfl ?_
        refine g_getI hg fl_X6_39 ly22 rfl (idb rfl rfl hn) dX6_reckon_74 ?_
        refine g_rload_n hg dX6_reckon_77 rfl 0 rfl ?_
        refine g_getI hg fl_X6_42 ly22 rfl (idb rfl rfl hn) dX6_reckon_78 ?_
        obtain ⟨q81, e81, h⟩ := Option.bind_eq_some_iff.mp h
        refine g_callSi (As := [.int ((sI q40.2 32 x1.toNatClampNeg q40.1).1 (24 + ((2 : Int32).toNatClampNeg)) x1.toNatClampNeg), .int ((sI q40.2 32 x1.toNatClampNeg q40.1).1 22 11), .int ((sI q40.2 32 x1.toNatClampNeg q40.1).1 22 12)]) (rest := [.int x1, rr E.1 33]) hg (lkX6_stepOf (by omega) hn hRf  e81) cs_X6_86 rfl rfl (Nat.le_of_ble_eq_true rfl) ⟨Nat.le_refl _, Nat.le_refl _⟩ dX6_reckon_81 ?_
        exact lkX6_reckon_84 hn hRf hg hr ih _ _ _ _ h
      · replace h := itT c h
        refine g_iconst hg dX6_reckon_61 kI_m1 ?_
        refine g_goto (tgt := 84) hg dX6_reckon_62 (by decide) ?_
        exact lkX6_reckon_84 hn hRf hg hr ih _ _ _ _ h
theorem lkX6_reckon {l0 : Launch} {E : En} {d n : Nat} {Rf : Nat → Nat → Nat} {ex : Bool} {kq : Nat × Nat} (hd : 3 ≤ d) (hn : 34 ≤ n) (hRf : RfOk 22 34 kq Rf)  {M : Mm} {q : Mm} (h : sX6_reckon M = some q) : Ct l0 E yX6_reckon cX6_reckon 2 none d 0 0 [rr E.1 22] ex n Rf M n Rf none q := by
  obtain ⟨d, rfl⟩ := Nat.exists_eq_add_of_le' hd
  refine Ct.of pnX6 (Nat.le_of_ble_eq_true rfl) (fun g hg hr _ => ?_)
  replace hg : Ok g l0 E cX6_reckon RX6 2 (d + 3) 0 0 := hg
  show WG g E 2 n Rf ex 0 0 0 [(0, rr E.1 22)] [] M
  unfold sX6_reckon at h
  refine g_iconst hg dX6_reckon_0 kI_0 ?_
  refine g_istore_n (lv' := [(1, .int 0), (0, rr E.1 22)]) hg dX6_reckon_1 rfl (by decide) rfl ?_
  refine g_sub (lv' := [(0, rr E.1 22), (1, .int 0)]) [1, 0] rfl ?_
  exact lkX6_reckon_2 hn hRf hg hr  4096 _ _ h
theorem lkX6_renew_98 {g : Gm} {l0 : Launch} {E : En} {d n : Nat} {Rf : Nat → Nat → Nat} {ex : Bool} {kq : Nat × Nat} (hn : 34 ≤ n) (hRf : RfOk 22 34 kq Rf) (hg : Ok g l0 E cX6_renew RX6 5 (d + 4) 0 0) {q : Mm} (hr : Ret g E 0 0 none ex n Rf none q) {k90 : Int32 → Mm → Option (Mm)} (hk90 : ∀ (x3 : Int32) (M : Mm), k90 x3 M = some q → WG g E 5 n Rf ex 0 0 90 [(0, rr E.1 22), (3, .int x3)] [] M) : ∀ (F : Nat) (x3 : Int32) (x4 : Int32) (M : Mm), sX6_renew_98 k90 F x3 x4 M = some q → WG g E 5 n Rf ex 0 0 98 [(0, rr E.1 22), (3, .int x3), (4, .int x4)] [] M := by
  intro F
  induction F with
  | zero =>
    intro x3 x4 M h
    cases h
  | succ F ih =>
    intro x3 x4 M h
    rw [sX6_renew_98] at h
    refine g_iload hg dX6_renew_98 2 rfl ?_
    refine g_rload_n hg dX6_renew_100 rfl 0 rfl ?_
    refine g_getI hg fl_X6_55 ly22 rfl (idb rfl rfl hn) dX6_renew_101 ?_
    refine g_icmp_ge (tgt := 127) hg dX6_renew_104 (by decide) (fun c => ?_) (fun c => ?_)
    · replace h := itT c h
      refine g_inc (lv' := [(3, .int (x3 + 1)), (0, rr E.1 22), (4, .int x4)]) hg dX6_renew_127 kI_1 1 rfl (by decide) rfl ?_
      refine g_goto (tgt := 90) hg dX6_renew_130 (by decide) ?_
      refine g_sub (lv' := [(0, rr E.1 22), (3, .int (x3 + 1))]) [1, 0] rfl ?_
      exact hk90 _ _ h
    · replace h := itF c h
      refine g_rload_n hg dX6_renew_107 rfl 0 rfl ?_
      refine g_getR (r := 23) hg fl_X6_13 ly22 rfl (idb rfl rfl hn) (rfc hRf rfl rfl rfl rfl) (by decide) dX6_renew_108 ?_
      refine g_iload_n hg dX6_renew_111 rfl 1 rfl ?_
      obtain ⟨c112, h⟩ := ck_some h
      refine g_aald4 (r := (24 + x3.toNatClampNeg)) hg ly23 (idb rfl rfl hn) (inb_vp c112) (fr23_rf (inb_vp c112) hRf) (Nat.lt_of_lt_of_le (by decide) (Nat.le_add_right _ _)) dX6_renew_112 ?_
      refine g_iload hg dX6_renew_113 2 rfl ?_
      obtain ⟨c115, h⟩ := ck_some h
      refine g_stat (f := tFIRST) hg w1_208 (fun _ _ _ h => h.2.2.1) dX6_renew_115 (fun t kk => g_iload_n hg dX6_renew_118 rfl 1 rfl kk) (inb_vp c115) dX6_renew_119 ?_
      obtain ⟨c120, h⟩ := ck_some h
      refine g_iast hg (fr23_lay (inb_vp c112)) (fr23_bd (inb_vp c112) hn) (inb_vp c120) dX6_renew_120 ?_
      refine g_inc (lv' := [(4, .int (x4 + 1)), (0, rr E.1 22), (3, .int x3)]) hg dX6_renew_121 kI_1 2 rfl (by decide) rfl ?_
      refine g_goto (tgt := 98) hg dX6_renew_124 (by decide) ?_
      refine g_sub (lv' := [(0, rr E.1 22), (3, .int x3), (4, .int (x4 + 1))]) [1, 2, 0] rfl ?_
      exact ih _ _ _ h
theorem lkX6_renew_90 {g : Gm} {l0 : Launch} {E : En} {d n : Nat} {Rf : Nat → Nat → Nat} {ex : Bool} {kq : Nat × Nat} (hn : 34 ≤ n) (hRf : RfOk 22 34 kq Rf) (hg : Ok g l0 E cX6_renew RX6 5 (d + 4) 0 0) {q : Mm} (hr : Ret g E 0 0 none ex n Rf none q) : ∀ (F : Nat) (x3 : Int32) (M : Mm), sX6_renew_90 F x3 M = some q → WG g E 5 n Rf ex 0 0 90 [(0, rr E.1 22), (3, .int x3)] [] M := by
  intro F
  induction F with
  | zero =>
    intro x3 M h
    cases h
  | succ F ih =>
    intro x3 M h
    rw [sX6_renew_90] at h
    refine g_iload_n hg dX6_renew_90 rfl 1 rfl ?_
    refine g_iconst hg dX6_renew_91 kI_5 ?_
    refine g_icmp_ge (tgt := 133) hg dX6_renew_92 (by decide) (fun c => ?_) (fun c => ?_)
    · replace h := itT c h
      refine g_rload_n hg dX6_renew_133 rfl 0 rfl ?_
      obtain ⟨M134, e134, h⟩ := Option.bind_eq_some_iff.mp h
      refine g_callVv (As := []) (rest := []) hg (lkX6_reckon (by omega) hn hRf  e134) cv_X6_61 rfl ly22 (idb rfl rfl hn) rfl rfl (Nat.le_of_ble_eq_true rfl) ⟨Nat.le_refl _, Nat.le_refl _⟩ dX6_renew_134 ?_
      replace h := Option.some.inj h
      subst h
      exact g_vret hg hr dX6_renew_137
    · replace h := itF c h
      refine g_iconst hg dX6_renew_95 kI_0 ?_
      refine g_istore (lv' := [(4, .int 0), (0, rr E.1 22), (3, .int x3)]) hg dX6_renew_96 (by decide) rfl ?_
      refine g_sub (lv' := [(0, rr E.1 22), (3, .int x3), (4, .int 0)]) [1, 2, 0] rfl ?_
      exact lkX6_renew_98 hn hRf hg hr ih 4096 _ _ _ h
theorem lkX6_renew_36 {g : Gm} {l0 : Launch} {E : En} {d n : Nat} {Rf : Nat → Nat → Nat} {ex : Bool} {kq : Nat × Nat} (hn : 34 ≤ n) (hRf : RfOk 22 34 kq Rf) (hg : Ok g l0 E cX6_renew RX6 5 (d + 4) 0 0) {q : Mm} (hr : Ret g E 0 0 none ex n Rf none q) {k25 : Int32 → Mm → Option (Mm)} (hk25 : ∀ (x3 : Int32) (M : Mm), k25 x3 M = some q → WG g E 5 n Rf ex 0 0 25 [(0, rr E.1 22), (3, .int x3)] [] M) : ∀ (F : Nat) (x3 : Int32) (x4 : Int32) (M : Mm), sX6_renew_36 k25 F x3 x4 M = some q → WG g E 5 n Rf ex 0 0 36 [(0, rr E.1 22), (3, .int x3), (4, .int x4)] [] M := by
  intro F
  induction F with
  | zero =>
    intro x3 x4 M h
    cases h
  | succ F ih =>
    intro x3 x4 M h
    rw [sX6_renew_36] at h
    refine g_iload hg dX6_renew_36 2 rfl ?_
    refine g_rload_n hg dX6_renew_38 rfl 0 rfl ?_
    refine g_getI hg fl_X6_49 ly22 rfl (idb rfl rfl hn) dX6_renew_39 ?_
    refine g_icmp_ge (tgt := 82) hg dX6_renew_42 (by decide) (fun c => ?_) (fun c => ?_)
    · replace h := itT c h
      refine g_inc (lv' := [(3, .int (x3 + 1)), (0, rr E.1 22), (4, .int x4)]) hg dX6_renew_82 kI_1 1 rfl (by decide) rfl ?_
      refine g_goto (tgt := 25) hg dX6_renew_85 (by decide) ?_
      refine g_sub (lv' := [(0, rr E.1 22), (3, .int (x3 + 1))]) [1, 0] rfl ?_
      exact hk25 _ _ h
    · replace h := itF c h
      refine g_rload_n hg dX6_renew_45 rfl 0 rfl ?_
      refine g_getR (r := 29) hg fl_X6_16 ly22 rfl (idb rfl rfl hn) (rfc hRf rfl rfl rfl rfl) (by decide) dX6_renew_46 ?_
      refine g_iload_n hg dX6_renew_49 rfl 1 rfl ?_
      refine g_rload_n hg dX6_renew_50 rfl 0 rfl ?_
      refine g_getI hg fl_X6_49 ly22 rfl (idb rfl rfl hn) dX6_renew_51 ?_
      refine g_imul hg dX6_renew_54 ?_
      refine g_iload hg dX6_renew_55 2 rfl ?_
      refine g_iadd hg dX6_renew_57 ?_
      refine g_iload hg dX6_renew_58 2 rfl ?_
      obtain ⟨c60, h⟩ := ck_some h
      refine g_iast hg ly29 (idb rfl rfl hn) (inb_vp c60) dX6_renew_60 ?_
      refine g_rload_n hg dX6_renew_61 rfl 0 rfl ?_
      refine g_getR (r := 30) hg fl_X6_20 ly22 rfl (idb rfl rfl hn) (rfc hRf rfl rfl rfl rfl) (by decide) dX6_renew_62 ?_
      refine g_iload_n hg dX6_renew_65 rfl 1 rfl ?_
      refine g_rload_n hg dX6_renew_66 rfl 0 rfl ?_
      refine g_getI hg fl_X6_49 ly22 rfl (idb rfl rfl hn) dX6_renew_67 ?_
      refine g_imul hg dX6_renew_70 ?_
      refine g_iload hg dX6_renew_71 2 rfl ?_
      refine g_iadd hg dX6_renew_73 ?_
      refine g_iload_n hg dX6_renew_74 rfl 1 rfl ?_
      obtain ⟨c75, h⟩ := ck_some h
      refine g_iast hg ly30 (idb rfl rfl hn) (inb_vp c75) dX6_renew_75 ?_
      refine g_inc (lv' := [(4, .int (x4 + 1)), (0, rr E.1 22), (3, .int x3)]) hg dX6_renew_76 kI_1 2 rfl (by decide) rfl ?_
      refine g_goto (tgt := 36) hg dX6_renew_79 (by decide) ?_
      refine g_sub (lv' := [(0, rr E.1 22), (3, .int x3), (4, .int (x4 + 1))]) [1, 2, 0] rfl ?_
      exact ih _ _ _ h
theorem lkX6_renew_25 {g : Gm} {l0 : Launch} {E : En} {d n : Nat} {Rf : Nat → Nat → Nat} {ex : Bool} {kq : Nat × Nat} (hn : 34 ≤ n) (hRf : RfOk 22 34 kq Rf) (hg : Ok g l0 E cX6_renew RX6 5 (d + 4) 0 0) {q : Mm} (hr : Ret g E 0 0 none ex n Rf none q) : ∀ (F : Nat) (x3 : Int32) (M : Mm), sX6_renew_25 F x3 M = some q → WG g E 5 n Rf ex 0 0 25 [(0, rr E.1 22), (3, .int x3)] [] M := by
  intro F
  induction F with
  | zero =>
    intro x3 M h
    cases h
  | succ F ih =>
    intro x3 M h
    rw [sX6_renew_25] at h
    refine g_iload_n hg dX6_renew_25 rfl 1 rfl ?_
    refine g_rload_n hg dX6_renew_26 rfl 0 rfl ?_
    refine g_getI hg fl_X6_52 ly22 rfl (idb rfl rfl hn) dX6_renew_27 ?_
    refine g_icmp_ge (tgt := 88) hg dX6_renew_30 (by decide) (fun c => ?_) (fun c => ?_)
    · replace h := itT c h
      refine g_iconst hg dX6_renew_88 kI_0 ?_
      refine g_istore_n (lv' := [(3, .int 0), (0, rr E.1 22)]) hg dX6_renew_89 rfl (by decide) rfl ?_
      refine g_sub (lv' := [(0, rr E.1 22), (3, .int 0)]) [1, 0] rfl ?_
      exact lkX6_renew_90 hn hRf hg hr  4096 _ _ h
    · replace h := itF c h
      refine g_iconst hg dX6_renew_33 kI_0 ?_
      refine g_istore (lv' := [(4, .int 0), (0, rr E.1 22), (3, .int x3)]) hg dX6_renew_34 (by decide) rfl ?_
      refine g_sub (lv' := [(0, rr E.1 22), (3, .int x3), (4, .int 0)]) [1, 2, 0] rfl ?_
      exact lkX6_renew_36 hn hRf hg hr ih 4096 _ _ _ h
theorem lkX6_renew {l0 : Launch} {E : En} {d n : Nat} {Rf : Nat → Nat → Nat} {ex : Bool} {kq : Nat × Nat} (hd : 4 ≤ d) (hn : 34 ≤ n) (hRf : RfOk 22 34 kq Rf) {x1 : Int32} {x2 : Int32} {M : Mm} {q : Mm} (h : sX6_renew x1 x2 M = some q) : Ct l0 E yX6_renew cX6_renew 5 none d 0 0 [rr E.1 22, .int x1, .int x2] ex n Rf M n Rf none q := by
  obtain ⟨d, rfl⟩ := Nat.exists_eq_add_of_le' hd
  refine Ct.of pnX6 (Nat.le_of_ble_eq_true rfl) (fun g hg hr _ => ?_)
  replace hg : Ok g l0 E cX6_renew RX6 5 (d + 4) 0 0 := hg
  show WG g E 5 n Rf ex 0 0 0 [(0, rr E.1 22), (1, .int x1), (2, .int x2)] [] M
  unfold sX6_renew at h
  refine g_rload_n hg dX6_renew_0 rfl 0 rfl ?_
  refine g_iload_n hg dX6_renew_1 rfl 1 rfl ?_
  refine g_putI hg fp_X6_49 ly22 rfl (idb rfl rfl hn) dX6_renew_2 ?_
  refine g_rload_n hg dX6_renew_5 rfl 0 rfl ?_
  refine g_iload_n hg dX6_renew_6 rfl 2 rfl ?_
  refine g_putI hg fp_X6_52 ly22 rfl (idb rfl rfl hn) dX6_renew_7 ?_
  refine g_rload_n hg dX6_renew_10 rfl 0 rfl ?_
  refine g_rload_n hg dX6_renew_11 rfl 0 rfl ?_
  refine g_getI hg fl_X6_49 ly22 rfl (idb rfl rfl hn) dX6_renew_12 ?_
  refine g_rload_n hg dX6_renew_15 rfl 0 rfl ?_
  refine g_getI hg fl_X6_52 ly22 rfl (idb rfl rfl hn) dX6_renew_16 ?_
  refine g_imul hg dX6_renew_19 ?_
  refine g_putI hg fp_X6_55 ly22 rfl (idb rfl rfl hn) dX6_renew_20 ?_
  refine g_iconst hg dX6_renew_23 kI_0 ?_
  refine g_istore_n (lv' := [(3, .int 0), (0, rr E.1 22), (1, .int x1), (2, .int x2)]) hg dX6_renew_24 rfl (by decide) rfl ?_
  refine g_sub (lv' := [(0, rr E.1 22), (3, .int 0)]) [1, 0] rfl ?_
  exact lkX6_renew_25 hn hRf hg hr  4096 _ _ h
theorem lkX11_land {l0 : Launch} {E : En} {d n : Nat} {Rf : Nat → Nat → Nat} {ex : Bool} {kq : Nat × Nat} (hd : 5 ≤ d) (hn : 239 ≤ n) (hRf : RfOk 1 239 kq Rf) {x1 : Int32} {x2 : Int32} {M : Mm} {q : Int32 × Mm} (h : sX11_land x1 x2 M = some q) : Ct l0 E yX11_land cX11_land 3 (some .boolean) d 0 0 [rr E.1 1, .int x1, .int x2] ex n Rf M n Rf (some (.int q.1)) q.2 := by
  obtain ⟨d, rfl⟩ := Nat.exists_eq_add_of_le' hd
  refine Ct.of pnX11 (Nat.le_of_ble_eq_true rfl) (fun g hg hr _ => ?_)
  replace hg : Ok g l0 E cX11_land RX11 3 (d + 5) 0 0 := hg
  show WG g E 3 n Rf ex 0 0 0 [(0, rr E.1 1), (1, .int x1), (2, .int x2)] [] M
  unfold sX11_land at h
  refine g_iload_n hg dX11_land_0 rfl 1 rfl ?_
  refine g_iconst hg dX11_land_1 kI_2 ?_
  refine g_icmp_lt (tgt := 22) hg dX11_land_2 (by decide) (fun c => ?_) (fun c => ?_)
  · replace h := itT c h
    refine g_iconst hg dX11_land_22 kI_0 ?_
    replace h := Option.some.inj h
    subst h
    exact g_zret hg hr rfl dX11_land_23
  · replace h := itF c h
    refine g_iload_n hg dX11_land_5 rfl 1 rfl ?_
    refine g_bipush hg dX11_land_6 kB_8 ?_
    refine g_icmp_gt (tgt := 22) hg dX11_land_8 (by decide) (fun c => ?_) (fun c => ?_)
    · replace h := itT c h
      refine g_iconst hg dX11_land_22 kI_0 ?_
      replace h := Option.some.inj h
      subst h
      exact g_zret hg hr rfl dX11_land_23
    · replace h := itF c h
      refine g_iload_n hg dX11_land_11 rfl 2 rfl ?_
      refine g_iconst hg dX11_land_12 kI_2 ?_
      refine g_icmp_lt (tgt := 22) hg dX11_land_13 (by decide) (fun c => ?_) (fun c => ?_)
      · replace h := itT c h
        refine g_iconst hg dX11_land_22 kI_0 ?_
        replace h := Option.some.inj h
        subst h
        exact g_zret hg hr rfl dX11_land_23
      · replace h := itF c h
        refine g_iload_n hg dX11_land_16 rfl 2 rfl ?_
        refine g_bipush hg dX11_land_17 kB_8 ?_
        refine g_icmp_le (tgt := 24) hg dX11_land_19 (by decide) (fun c => ?_) (fun c => ?_)
        · replace h := itT c h
          refine g_rload_n hg dX11_land_24 rfl 0 rfl ?_
          refine g_getR (r := 22) hg fl_X11_45 ly1 rfl (idb rfl rfl hn) (rfc hRf rfl rfl rfl rfl) (by decide) dX11_land_25 ?_
          refine g_iload_n hg dX11_land_28 rfl 1 rfl ?_
          refine g_iload_n hg dX11_land_29 rfl 2 rfl ?_
          obtain ⟨M30, e30, h⟩ := Option.bind_eq_some_iff.mp h
          refine g_callVv (As := [.int x1, .int x2]) (rest := []) hg (lkX6_renew (by omega) (Nat.le_trans (by decide : 34 ≤ 239) hn) (hRf.mono (by decide) (by decide))  e30) cv_X11_176 rfl ly22 (idb rfl rfl hn) rfl rfl (Nat.le_of_ble_eq_true rfl) ⟨Nat.le_refl _, Nat.le_refl _⟩ dX11_land_30 ?_
          refine g_rload_n hg dX11_land_33 rfl 0 rfl ?_
          refine g_getR (r := 34) hg fl_X11_52 ly1 rfl (idb rfl rfl hn) (rfc hRf rfl rfl rfl rfl) (by decide) dX11_land_34 ?_
          refine g_iconst hg dX11_land_37 kI_0 ?_
          refine g_putI hg fp_X11_145 ly34 rfl (idb rfl rfl hn) dX11_land_38 ?_
          refine g_iconst hg dX11_land_41 kI_1 ?_
          replace h := Option.some.inj h
          subst h
          exact g_zret hg hr rfl dX11_land_42
        · replace h := itF c h
          refine g_iconst hg dX11_land_22 kI_0 ?_
          replace h := Option.some.inj h
          subst h
          exact g_zret hg hr rfl dX11_land_23
theorem lkX6_put {l0 : Launch} {E : En} {d n : Nat} {Rf : Nat → Nat → Nat} {ex : Bool} {kq : Nat × Nat} (hd : 4 ≤ d) (hn : 34 ≤ n) (hRf : RfOk 22 34 kq Rf) {x1 : Int32} {x2 : Int32} {x3 : Int32} {M : Mm} {q : Int32 × Mm} (h : sX6_put x1 x2 x3 M = some q) : Ct l0 E yX6_put cX6_put 4 (some .boolean) d 0 0 [rr E.1 22, .int x1, .int x2, .int x3] ex n Rf M n Rf (some (.int q.1)) q.2 := by
  obtain ⟨d, rfl⟩ := Nat.exists_eq_add_of_le' hd
  refine Ct.of pnX6 (Nat.le_of_ble_eq_true rfl) (fun g hg hr _ => ?_)
  replace hg : Ok g l0 E cX6_put RX6 4 (d + 4) 0 0 := hg
  show WG g E 4 n Rf ex 0 0 0 [(0, rr E.1 22), (1, .int x1), (2, .int x2), (3, .int x3)] [] M
  unfold sX6_put at h
  refine g_iload_n hg dX6_put_0 rfl 2 rfl ?_
  refine g_if_lt (tgt := 27) hg dX6_put_1 (by decide) (fun c => ?_) (fun c => ?_)
  · replace h := itT c h
    refine g_iconst hg dX6_put_27 kI_0 ?_
    replace h := Option.some.inj h
    subst h
    exact g_zret hg hr rfl dX6_put_28
  · replace h := itF c h
    refine g_iload_n hg dX6_put_4 rfl 2 rfl ?_
    refine g_iconst hg dX6_put_5 kI_5 ?_
    refine g_icmp_ge (tgt := 27) hg dX6_put_6 (by decide) (fun c => ?_) (fun c => ?_)
    · replace h := itT c h
      refine g_iconst hg dX6_put_27 kI_0 ?_
      replace h := Option.some.inj h
      subst h
      exact g_zret hg hr rfl dX6_put_28
    · replace h := itF c h
      refine g_iload_n hg dX6_put_9 rfl 3 rfl ?_
      obtain ⟨c10, h⟩ := ck_some h
      refine g_stat (f := tLEAST) hg w4_142 (fun _ _ _ h => h.1) dX6_put_10 (fun t kk => g_iload_n hg dX6_put_13 rfl 2 rfl kk) (inb_vp c10) dX6_put_14 ?_
      refine g_icmp_lt (tgt := 27) hg dX6_put_15 (by decide) (fun c => ?_) (fun c => ?_)
      · replace h := itT c h
        refine g_iconst hg dX6_put_27 kI_0 ?_
        replace h := Option.some.inj h
        subst h
        exact g_zret hg hr rfl dX6_put_28
      · replace h := itF c h
        refine g_iload_n hg dX6_put_18 rfl 3 rfl ?_
        obtain ⟨c19, h⟩ := ck_some h
        refine g_stat (f := tMOST) hg w4_144 (fun _ _ _ h => h.2.1) dX6_put_19 (fun t kk => g_iload_n hg dX6_put_22 rfl 2 rfl kk) (inb_vp c19) dX6_put_23 ?_
        refine g_icmp_le (tgt := 29) hg dX6_put_24 (by decide) (fun c => ?_) (fun c => ?_)
        · replace h := itT c h
          refine g_rload_n hg dX6_put_29 rfl 0 rfl ?_
          refine g_getR (r := 23) hg fl_X6_13 ly22 rfl (idb rfl rfl hn) (rfc hRf rfl rfl rfl rfl) (by decide) dX6_put_30 ?_
          refine g_iload_n hg dX6_put_33 rfl 2 rfl ?_
          obtain ⟨c34, h⟩ := ck_some h
          refine g_aald4 (r := (24 + x2.toNatClampNeg)) hg ly23 (idb rfl rfl hn) (inb_vp c34) (fr23_rf (inb_vp c34) hRf) (Nat.lt_of_lt_of_le (by decide) (Nat.le_add_right _ _)) dX6_put_34 ?_
          refine g_iload_n hg dX6_put_35 rfl 1 rfl ?_
          refine g_iload_n hg dX6_put_36 rfl 3 rfl ?_
          obtain ⟨c37, h⟩ := ck_some h
          refine g_iast hg (fr23_lay (inb_vp c34)) (fr23_bd (inb_vp c34) hn) (inb_vp c37) dX6_put_37 ?_
          refine g_rload_n hg dX6_put_38 rfl 0 rfl ?_
          obtain ⟨M39, e39, h⟩ := Option.bind_eq_some_iff.mp h
          refine g_callVv (As := []) (rest := []) hg (lkX6_reckon (by omega) hn hRf  e39) cv_X6_61 rfl ly22 (idb rfl rfl hn) rfl rfl (Nat.le_of_ble_eq_true rfl) ⟨Nat.le_refl _, Nat.le_refl _⟩ dX6_put_39 ?_
          refine g_iconst hg dX6_put_42 kI_1 ?_
          replace h := Option.some.inj h
          subst h
          exact g_zret hg hr rfl dX6_put_43
        · replace h := itF c h
          refine g_iconst hg dX6_put_27 kI_0 ?_
          replace h := Option.some.inj h
          subst h
          exact g_zret hg hr rfl dX6_put_28
theorem lkX11_ground {l0 : Launch} {E : En} {d n : Nat} {Rf : Nat → Nat → Nat} {ex : Bool} {kq : Nat × Nat} (hd : 5 ≤ d) (hn : 239 ≤ n) (hRf : RfOk 1 239 kq Rf) {x1 : Int32} {x2 : Int32} {x3 : Int32} {M : Mm} {q : Int32 × Mm} (h : sX11_ground x1 x2 x3 M = some q) : Ct l0 E yX11_ground cX11_ground 4 (some .boolean) d 0 0 [rr E.1 1, .int x1, .int x2, .int x3] ex n Rf M n Rf (some (.int q.1)) q.2 := by
  obtain ⟨d, rfl⟩ := Nat.exists_eq_add_of_le' hd
  refine Ct.of pnX11 (Nat.le_of_ble_eq_true rfl) (fun g hg hr _ => ?_)
  replace hg : Ok g l0 E cX11_ground RX11 4 (d + 5) 0 0 := hg
  show WG g E 4 n Rf ex 0 0 0 [(0, rr E.1 1), (1, .int x1), (2, .int x2), (3, .int x3)] [] M
  unfold sX11_ground at h
  refine g_rload_n hg dX11_ground_0 rfl 0 rfl ?_
  refine g_getR (r := 22) hg fl_X11_45 ly1 rfl (idb rfl rfl hn) (rfc hRf rfl rfl rfl rfl) (by decide) dX11_ground_1 ?_
  refine g_iload_n hg dX11_ground_4 rfl 1 rfl ?_
  obtain ⟨q5, e5, h⟩ := Option.bind_eq_some_iff.mp h
  refine g_callVi (As := [.int x1]) (rest := []) hg (lkX6_hasCell (by omega) (Nat.le_trans (by decide : 34 ≤ 239) hn) (hRf.mono (by decide) (by decide))  e5) cv_X11_142 rfl ly22 (idb rfl rfl hn) rfl rfl (Nat.le_of_ble_eq_true rfl) ⟨Nat.le_refl _, Nat.le_refl _⟩ dX11_ground_5 ?_
  refine g_if_eq (tgt := 28) hg dX11_ground_8 (by decide) (fun c => ?_) (fun c => ?_)
  · replace h := itT c h
    refine g_iconst hg dX11_ground_28 kI_0 ?_
    replace h := Option.some.inj h
    subst h
    exact g_zret hg hr rfl dX11_ground_29
  · replace h := itF c h
    refine g_rload_n hg dX11_ground_11 rfl 0 rfl ?_
    refine g_getR (r := 22) hg fl_X11_45 ly1 rfl (idb rfl rfl hn) (rfc hRf rfl rfl rfl rfl) (by decide) dX11_ground_12 ?_
    refine g_iload_n hg dX11_ground_15 rfl 1 rfl ?_
    refine g_iload_n hg dX11_ground_16 rfl 2 rfl ?_
    refine g_iload_n hg dX11_ground_17 rfl 3 rfl ?_
    obtain ⟨q18, e18, h⟩ := Option.bind_eq_some_iff.mp h
    refine g_callVi (As := [.int x1, .int x2, .int x3]) (rest := []) hg (lkX6_put (by omega) (Nat.le_trans (by decide : 34 ≤ 239) hn) (hRf.mono (by decide) (by decide))  e18) cv_X11_180 rfl ly22 (idb rfl rfl hn) rfl rfl (Nat.le_of_ble_eq_true rfl) ⟨Nat.le_refl _, Nat.le_refl _⟩ dX11_ground_18 ?_
    refine g_if_eq (tgt := 28) hg dX11_ground_21 (by decide) (fun c => ?_) (fun c => ?_)
    · rw [if_pos c] at h
      refine g_iconst hg dX11_ground_28 kI_0 ?_
      replace h := Option.some.inj h
      subst h
      exact g_zret hg hr rfl dX11_ground_29
    · rw [if_neg c] at h
      refine g_iconst hg dX11_ground_24 kI_1 ?_
      refine g_goto (tgt := 29) hg dX11_ground_25 (by decide) ?_
      replace h := Option.some.inj h
      subst h
      exact g_zret hg hr rfl dX11_ground_29
theorem lkX6_putBounds_64 {g : Gm} {l0 : Launch} {E : En} {d n : Nat} {Rf : Nat → Nat → Nat} {ex : Bool} {kq : Nat × Nat} (hn : 34 ≤ n) (hRf : RfOk 22 34 kq Rf) (hg : Ok g l0 E cX6_putBounds RX6 4 (d + 4) 0 0) {q : Int32 × Mm} (hr : Ret g E 0 0 (some .boolean) ex n Rf (some (.int q.1)) q.2) : ∀  (M : Mm), sX6_putBounds_64  M = some q → WG g E 4 n Rf ex 0 0 64 [(0, rr E.1 22)] [] M := by
  intro M h
  unfold sX6_putBounds_64 at h
  refine g_rload_n hg dX6_putBounds_64 rfl 0 rfl ?_
  obtain ⟨M65, e65, h⟩ := Option.bind_eq_some_iff.mp h
  refine g_callVv (As := []) (rest := []) hg (lkX6_reckon (by omega) hn hRf  e65) cv_X6_61 rfl ly22 (idb rfl rfl hn) rfl rfl (Nat.le_of_ble_eq_true rfl) ⟨Nat.le_refl _, Nat.le_refl _⟩ dX6_putBounds_65 ?_
  refine g_iconst hg dX6_putBounds_68 kI_1 ?_
  replace h := Option.some.inj h
  subst h
  exact g_zret hg hr rfl dX6_putBounds_69
theorem lkX6_putBounds_32 {g : Gm} {l0 : Launch} {E : En} {d n : Nat} {Rf : Nat → Nat → Nat} {ex : Bool} {kq : Nat × Nat} (hn : 34 ≤ n) (hRf : RfOk 22 34 kq Rf) (hg : Ok g l0 E cX6_putBounds RX6 4 (d + 4) 0 0) {q : Int32 × Mm} (hr : Ret g E 0 0 (some .boolean) ex n Rf (some (.int q.1)) q.2) : ∀ (x1 : Int32) (x2 : Int32) (x3 : Int32) (s0 : Int32) (s1 : Int32) (M : Mm), sX6_putBounds_32 x1 x2 x3 s0 s1 M = some q → WG g E 4 n Rf ex 0 0 32 [(0, rr E.1 22), (1, .int x1), (2, .int x2), (3, .int x3)] [.int s1, .int s0] M := by
  intro x1 x2 x3 s0 s1 M h
  unfold sX6_putBounds_32 at h
  refine g_icmp_le (tgt := 37) hg dX6_putBounds_32 (by decide) (fun c => ?_) (fun c => ?_)
  · replace h := itT c h
    refine g_iload_n hg dX6_putBounds_37 rfl 1 rfl ?_
    refine g_if_ne (tgt := 54) hg dX6_putBounds_38 (by decide) (fun c => ?_) (fun c => ?_)
    · replace h := itF c h
      refine g_rload_n hg dX6_putBounds_54 rfl 0 rfl ?_
      refine g_iload_n hg dX6_putBounds_55 rfl 2 rfl ?_
      refine g_putI hg fp_X6_39 ly22 rfl (idb rfl rfl hn) dX6_putBounds_56 ?_
      refine g_rload_n hg dX6_putBounds_59 rfl 0 rfl ?_
      refine g_iload_n hg dX6_putBounds_60 rfl 3 rfl ?_
      refine g_putI hg fp_X6_42 ly22 rfl (idb rfl rfl hn) dX6_putBounds_61 ?_
      refine g_sub (lv' := [(0, rr E.1 22)]) [0] rfl ?_
      exact lkX6_putBounds_64 hn hRf hg hr  _ h
    · replace h := itT c h
      refine g_rload_n hg dX6_putBounds_41 rfl 0 rfl ?_
      refine g_iload_n hg dX6_putBounds_42 rfl 2 rfl ?_
      refine g_putI hg fp_X6_32 ly22 rfl (idb rfl rfl hn) dX6_putBounds_43 ?_
      refine g_rload_n hg dX6_putBounds_46 rfl 0 rfl ?_
      refine g_iload_n hg dX6_putBounds_47 rfl 3 rfl ?_
      refine g_putI hg fp_X6_36 ly22 rfl (idb rfl rfl hn) dX6_putBounds_48 ?_
      refine g_goto (tgt := 64) hg dX6_putBounds_51 (by decide) ?_
      refine g_sub (lv' := [(0, rr E.1 22)]) [0] rfl ?_
      exact lkX6_putBounds_64 hn hRf hg hr  _ h
  · replace h := itF c h
    refine g_iconst hg dX6_putBounds_35 kI_0 ?_
    replace h := Option.some.inj h
    subst h
    exact g_zret hg hr rfl dX6_putBounds_36
theorem lkX6_putBounds {l0 : Launch} {E : En} {d n : Nat} {Rf : Nat → Nat → Nat} {ex : Bool} {kq : Nat × Nat} (hd : 4 ≤ d) (hn : 34 ≤ n) (hRf : RfOk 22 34 kq Rf) {x1 : Int32} {x2 : Int32} {x3 : Int32} {M : Mm} {q : Int32 × Mm} (h : sX6_putBounds x1 x2 x3 M = some q) : Ct l0 E yX6_putBounds cX6_putBounds 4 (some .boolean) d 0 0 [rr E.1 22, .int x1, .int x2, .int x3] ex n Rf M n Rf (some (.int q.1)) q.2 := by
  obtain ⟨d, rfl⟩ := Nat.exists_eq_add_of_le' hd
  refine Ct.of pnX6 (Nat.le_of_ble_eq_true rfl) (fun g hg hr _ => ?_)
  replace hg : Ok g l0 E cX6_putBounds RX6 4 (d + 4) 0 0 := hg
  show WG g E 4 n Rf ex 0 0 0 [(0, rr E.1 22), (1, .int x1), (2, .int x2), (3, .int x3)] [] M
  unfold sX6_putBounds at h
  refine g_iload_n hg dX6_putBounds_0 rfl 1 rfl ?_
  refine g_if_lt (tgt := 35) hg dX6_putBounds_1 (by decide) (fun c => ?_) (fun c => ?_)
  · replace h := itT c h
    refine g_iconst hg dX6_putBounds_35 kI_0 ?_
    replace h := Option.some.inj h
    subst h
    exact g_zret hg hr rfl dX6_putBounds_36
  · replace h := itF c h
    refine g_iload_n hg dX6_putBounds_4 rfl 1 rfl ?_
    refine g_iconst hg dX6_putBounds_5 kI_1 ?_
    refine g_icmp_gt (tgt := 35) hg dX6_putBounds_6 (by decide) (fun c => ?_) (fun c => ?_)
    · replace h := itT c h
      refine g_iconst hg dX6_putBounds_35 kI_0 ?_
      replace h := Option.some.inj h
      subst h
      exact g_zret hg hr rfl dX6_putBounds_36
    · replace h := itF c h
      refine g_iload_n hg dX6_putBounds_9 rfl 2 rfl ?_
      refine g_iconst hg dX6_putBounds_10 kI_1 ?_
      refine g_icmp_lt (tgt := 35) hg dX6_putBounds_11 (by decide) (fun c => ?_) (fun c => ?_)
      · replace h := itT c h
        refine g_iconst hg dX6_putBounds_35 kI_0 ?_
        replace h := Option.some.inj h
        subst h
        exact g_zret hg hr rfl dX6_putBounds_36
      · replace h := itF c h
        refine g_iload_n hg dX6_putBounds_14 rfl 2 rfl ?_
        refine g_iload_n hg dX6_putBounds_15 rfl 3 rfl ?_
        refine g_icmp_ge (tgt := 35) hg dX6_putBounds_16 (by decide) (fun c => ?_) (fun c => ?_)
        · replace h := itT c h
          refine g_iconst hg dX6_putBounds_35 kI_0 ?_
          replace h := Option.some.inj h
          subst h
          exact g_zret hg hr rfl dX6_putBounds_36
        · replace h := itF c h
          refine g_iload_n hg dX6_putBounds_19 rfl 3 rfl ?_
          refine g_iload_n hg dX6_putBounds_20 rfl 1 rfl ?_
          refine g_if_ne (tgt := 30) hg dX6_putBounds_21 (by decide) (fun c => ?_) (fun c => ?_)
          · rw [if_neg c] at h
            refine g_bipush hg dX6_putBounds_30 kB_99 ?_
            exact lkX6_putBounds_32 hn hRf hg hr  _ _ _ _ _ _ h
          · rw [if_pos c] at h
            refine g_sipush hg dX6_putBounds_24 kS_999 ?_
            refine g_goto (tgt := 32) hg dX6_putBounds_27 (by decide) ?_
            exact lkX6_putBounds_32 hn hRf hg hr  _ _ _ _ _ _ h
theorem lkX11_bounds {l0 : Launch} {E : En} {d n : Nat} {Rf : Nat → Nat → Nat} {ex : Bool} {kq : Nat × Nat} (hd : 5 ≤ d) (hn : 239 ≤ n) (hRf : RfOk 1 239 kq Rf) {x1 : Int32} {x2 : Int32} {x3 : Int32} {M : Mm} {q : Int32 × Mm} (h : sX11_bounds x1 x2 x3 M = some q) : Ct l0 E yX11_bounds cX11_bounds 4 (some .boolean) d 0 0 [rr E.1 1, .int x1, .int x2, .int x3] ex n Rf M n Rf (some (.int q.1)) q.2 := by
  obtain ⟨d, rfl⟩ := Nat.exists_eq_add_of_le' hd
  refine Ct.of pnX11 (Nat.le_of_ble_eq_true rfl) (fun g hg hr _ => ?_)
  replace hg : Ok g l0 E cX11_bounds RX11 4 (d + 5) 0 0 := hg
  show WG g E 4 n Rf ex 0 0 0 [(0, rr E.1 1), (1, .int x1), (2, .int x2), (3, .int x3)] [] M
  unfold sX11_bounds at h
  refine g_rload_n hg dX11_bounds_0 rfl 0 rfl ?_
  refine g_getR (r := 22) hg fl_X11_45 ly1 rfl (idb rfl rfl hn) (rfc hRf rfl rfl rfl rfl) (by decide) dX11_bounds_1 ?_
  refine g_iload_n hg dX11_bounds_4 rfl 1 rfl ?_
  refine g_iload_n hg dX11_bounds_5 rfl 2 rfl ?_
  refine g_iload_n hg dX11_bounds_6 rfl 3 rfl ?_
  obtain ⟨q7, e7, h⟩ := Option.bind_eq_some_iff.mp h
  refine g_callVi (As := [.int x1, .int x2, .int x3]) (rest := []) hg (lkX6_putBounds (by omega) (Nat.le_trans (by decide : 34 ≤ 239) hn) (hRf.mono (by decide) (by decide))  e7) cv_X11_184 rfl ly22 (idb rfl rfl hn) rfl rfl (Nat.le_of_ble_eq_true rfl) ⟨Nat.le_refl _, Nat.le_refl _⟩ dX11_bounds_7 ?_
  obtain ⟨c10, h⟩ := ck_some h
  replace h := Option.some.inj h
  subst h
  exact g_zret hg hr (isb_nar c10) dX11_bounds_10
theorem lkX11_price {l0 : Launch} {E : En} {d n : Nat} {Rf : Nat → Nat → Nat} {ex : Bool} {kq : Nat × Nat} (hd : 1 ≤ d) (hn : 239 ≤ n) (hRf : RfOk 1 239 kq Rf) {x1 : Int32} {x2 : Int32} {M : Mm} {q : Int32 × Mm} (h : sX11_price x1 x2 M = some q) : Ct l0 E yX11_price cX11_price 3 (some .boolean) d 0 0 [rr E.1 1, .int x1, .int x2] ex n Rf M n Rf (some (.int q.1)) q.2 := by
  obtain ⟨d, rfl⟩ := Nat.exists_eq_add_of_le' hd
  refine Ct.of pnX11 (Nat.le_of_ble_eq_true rfl) (fun g hg hr _ => ?_)
  replace hg : Ok g l0 E cX11_price RX11 3 (d + 1) 0 0 := hg
  show WG g E 3 n Rf ex 0 0 0 [(0, rr E.1 1), (1, .int x1), (2, .int x2)] [] M
  unfold sX11_price at h
  refine g_iload_n hg dX11_price_0 rfl 1 rfl ?_
  refine g_if_lt (tgt := 20) hg dX11_price_1 (by decide) (fun c => ?_) (fun c => ?_)
  · replace h := itT c h
    refine g_iconst hg dX11_price_20 kI_0 ?_
    replace h := Option.some.inj h
    subst h
    exact g_zret hg hr rfl dX11_price_21
  · replace h := itF c h
    refine g_iload_n hg dX11_price_4 rfl 1 rfl ?_
    refine g_iconst hg dX11_price_5 kI_1 ?_
    refine g_icmp_gt (tgt := 20) hg dX11_price_6 (by decide) (fun c => ?_) (fun c => ?_)
    · replace h := itT c h
      refine g_iconst hg dX11_price_20 kI_0 ?_
      replace h := Option.some.inj h
      subst h
      exact g_zret hg hr rfl dX11_price_21
    · replace h := itF c h
      refine g_iload_n hg dX11_price_9 rfl 2 rfl ?_
      refine g_if_lt (tgt := 20) hg dX11_price_10 (by decide) (fun c => ?_) (fun c => ?_)
      · replace h := itT c h
        refine g_iconst hg dX11_price_20 kI_0 ?_
        replace h := Option.some.inj h
        subst h
        exact g_zret hg hr rfl dX11_price_21
      · replace h := itF c h
        refine g_iload_n hg dX11_price_13 rfl 2 rfl ?_
        refine g_sipush hg dX11_price_14 kS_9999 ?_
        refine g_icmp_le (tgt := 22) hg dX11_price_17 (by decide) (fun c => ?_) (fun c => ?_)
        · replace h := itT c h
          refine g_iload_n hg dX11_price_22 rfl 1 rfl ?_
          refine g_if_ne (tgt := 37) hg dX11_price_23 (by decide) (fun c => ?_) (fun c => ?_)
          · replace h := itF c h
            refine g_rload_n hg dX11_price_37 rfl 0 rfl ?_
            refine g_getR (r := 162) hg fl_X11_70 ly1 rfl (idb rfl rfl hn) (rfc hRf rfl rfl rfl rfl) (by decide) dX11_price_38 ?_
            refine g_iload_n hg dX11_price_41 rfl 2 rfl ?_
            refine g_putI hg fp_X11_190 ly162 rfl (idb rfl rfl hn) dX11_price_42 ?_
            refine g_iconst hg dX11_price_45 kI_1 ?_
            replace h := Option.some.inj h
            subst h
            exact g_zret hg hr rfl dX11_price_46
          · replace h := itT c h
            refine g_rload_n hg dX11_price_26 rfl 0 rfl ?_
            refine g_getR (r := 162) hg fl_X11_70 ly1 rfl (idb rfl rfl hn) (rfc hRf rfl rfl rfl rfl) (by decide) dX11_price_27 ?_
            refine g_iload_n hg dX11_price_30 rfl 2 rfl ?_
            refine g_putI hg fp_X11_187 ly162 rfl (idb rfl rfl hn) dX11_price_31 ?_
            refine g_goto (tgt := 45) hg dX11_price_34 (by decide) ?_
            refine g_iconst hg dX11_price_45 kI_1 ?_
            replace h := Option.some.inj h
            subst h
            exact g_zret hg hr rfl dX11_price_46
        · replace h := itF c h
          refine g_iconst hg dX11_price_20 kI_0 ?_
          replace h := Option.some.inj h
          subst h
          exact g_zret hg hr rfl dX11_price_21
theorem lkX11_isKind {l0 : Launch} {E : En} {d n : Nat} {Rf : Nat → Nat → Nat} {ex : Bool} {kq : Nat × Nat} (hd : 1 ≤ d) (hn : 239 ≤ n) (hRf : RfOk 1 239 kq Rf) (hkq : isKq kq) {x1 : Int32} {M : Mm} {q : Int32 × Mm} (h : sX11_isKind kq x1 M = some q) : Ct l0 E yX11_isKind cX11_isKind 2 (some .boolean) d 0 0 [rr E.1 1, .int x1] ex n Rf M n Rf (some (.int q.1)) q.2 := by
  obtain ⟨d, rfl⟩ := Nat.exists_eq_add_of_le' hd
  refine Ct.of pnX11 (Nat.le_of_ble_eq_true rfl) (fun g hg hr _ => ?_)
  replace hg : Ok g l0 E cX11_isKind RX11 2 (d + 1) 0 0 := hg
  show WG g E 2 n Rf ex 0 0 0 [(0, rr E.1 1), (1, .int x1)] [] M
  unfold sX11_isKind at h
  refine g_iload_n hg dX11_isKind_0 rfl 1 rfl ?_
  refine g_if_lt (tgt := 19) hg dX11_isKind_1 (by decide) (fun c => ?_) (fun c => ?_)
  · rw [if_pos c] at h
    refine g_iconst hg dX11_isKind_19 kI_0 ?_
    replace h := Option.some.inj h
    subst h
    exact g_zret hg hr rfl dX11_isKind_20
  · rw [if_neg c] at h
    refine g_iload_n hg dX11_isKind_4 rfl 1 rfl ?_
    refine g_rload_n hg dX11_isKind_5 rfl 0 rfl ?_
    refine g_getR (r := kq.1) hg fl_X11_34 ly1 rfl (idb rfl rfl hn) (rfc hRf rfl rfl rfl rfl) (ky_pos hkq.1) dX11_isKind_6 ?_
    refine g_getI hg fl_X11_125 (ky_lay hkq.1) rfl (ky_bd hkq.1 hn) dX11_isKind_9 ?_
    refine g_icmp_ge (tgt := 19) hg dX11_isKind_12 (by decide) (fun c => ?_) (fun c => ?_)
    · rw [if_pos c] at h
      refine g_iconst hg dX11_isKind_19 kI_0 ?_
      replace h := Option.some.inj h
      subst h
      exact g_zret hg hr rfl dX11_isKind_20
    · rw [if_neg c] at h
      refine g_iconst hg dX11_isKind_15 kI_1 ?_
      refine g_goto (tgt := 20) hg dX11_isKind_16 (by decide) ?_
      replace h := Option.some.inj h
      subst h
      exact g_zret hg hr rfl dX11_isKind_20
theorem lkX2_noteRow_37 {g : Gm} {l0 : Launch} {E : En} {d n : Nat} {Rf : Nat → Nat → Nat} {ex : Bool} {kq : Nat × Nat} (hn : 239 ≤ n) (hRf : RfOk 1 239 kq Rf) (hg : Ok g l0 E cX2_noteRow RX2 3 (d + 1) 0 0) {q : Mm} (hr : Ret g E 0 0 none ex n Rf none q) : ∀ (s1 : Int32) (s2 : Int32) (M : Mm), sX2_noteRow_37 s1 s2 M = some q → WG g E 3 n Rf ex 0 0 37 [] [.int s2, .int s1, rr E.1 160] M := by
  intro s1 s2 M h
  unfold sX2_noteRow_37 at h
  obtain ⟨c37, h⟩ := ck_some h
  refine g_iast hg ly160 (idb rfl rfl hn) (inb_vp c37) dX2_noteRow_37 ?_
  replace h := Option.some.inj h
  subst h
  exact g_vret hg hr dX2_noteRow_38
theorem lkX2_noteRow_17 {g : Gm} {l0 : Launch} {E : En} {d n : Nat} {Rf : Nat → Nat → Nat} {ex : Bool} {kq : Nat × Nat} (hn : 239 ≤ n) (hRf : RfOk 1 239 kq Rf) (hg : Ok g l0 E cX2_noteRow RX2 3 (d + 1) 0 0) {q : Mm} (hr : Ret g E 0 0 none ex n Rf none q) : ∀ (x1 : Int32) (x2 : Int32) (s1 : Int32) (s2 : Int32) (M : Mm), sX2_noteRow_17 x1 x2 s1 s2 M = some q → WG g E 3 n Rf ex 0 0 17 [(0, rr E.1 158), (1, .int x1), (2, .int x2)] [.int s2, .int s1, rr E.1 160] M := by
  intro x1 x2 s1 s2 M h
  unfold sX2_noteRow_17 at h
  obtain ⟨c17, h⟩ := ck_some h
  refine g_iast hg ly160 (idb rfl rfl hn) (inb_vp c17) dX2_noteRow_17 ?_
  refine g_rload_n hg dX2_noteRow_18 rfl 0 rfl ?_
  refine g_getR (r := 160) hg fl_X2_15 ly158 rfl (idb rfl rfl hn) (rfc hRf rfl rfl rfl rfl) (by decide) dX2_noteRow_19 ?_
  refine g_iload_n hg dX2_noteRow_22 rfl 1 rfl ?_
  refine g_iconst hg dX2_noteRow_23 kI_1 ?_
  refine g_iadd hg dX2_noteRow_24 ?_
  refine g_iload_n hg dX2_noteRow_25 rfl 2 rfl ?_
  refine g_if_ge (tgt := 33) hg dX2_noteRow_26 (by decide) (fun c => ?_) (fun c => ?_)
  · rw [if_pos c] at h
    refine g_iload_n hg dX2_noteRow_33 rfl 2 rfl ?_
    refine g_bipush hg dX2_noteRow_34 kB_32 ?_
    refine g_irem hg dX2_noteRow_36 (by decide) ?_
    refine g_sub (lv' := []) [] rfl ?_
    exact lkX2_noteRow_37 hn hRf hg hr  _ _ _ h
  · rw [if_neg c] at h
    refine g_iconst hg dX2_noteRow_29 kI_m1 ?_
    refine g_goto (tgt := 37) hg dX2_noteRow_30 (by decide) ?_
    refine g_sub (lv' := []) [] rfl ?_
    exact lkX2_noteRow_37 hn hRf hg hr  _ _ _ h
theorem lkX2_noteRow {l0 : Launch} {E : En} {d n : Nat} {Rf : Nat → Nat → Nat} {ex : Bool} {kq : Nat × Nat} (hd : 1 ≤ d) (hn : 239 ≤ n) (hRf : RfOk 1 239 kq Rf) {x1 : Int32} {x2 : Int32} {M : Mm} {q : Mm} (h : sX2_noteRow x1 x2 M = some q) : Ct l0 E yX2_noteRow cX2_noteRow 3 none d 0 0 [rr E.1 158, .int x1, .int x2] ex n Rf M n Rf none q := by
  obtain ⟨d, rfl⟩ := Nat.exists_eq_add_of_le' hd
  refine Ct.of pnX2 (Nat.le_of_ble_eq_true rfl) (fun g hg hr _ => ?_)
  replace hg : Ok g l0 E cX2_noteRow RX2 3 (d + 1) 0 0 := hg
  show WG g E 3 n Rf ex 0 0 0 [(0, rr E.1 158), (1, .int x1), (2, .int x2)] [] M
  unfold sX2_noteRow at h
  refine g_rload_n hg dX2_noteRow_0 rfl 0 rfl ?_
  refine g_getR (r := 160) hg fl_X2_15 ly158 rfl (idb rfl rfl hn) (rfc hRf rfl rfl rfl rfl) (by decide) dX2_noteRow_1 ?_
  refine g_iload_n hg dX2_noteRow_4 rfl 1 rfl ?_
  refine g_iload_n hg dX2_noteRow_5 rfl 2 rfl ?_
  refine g_if_ge (tgt := 13) hg dX2_noteRow_6 (by decide) (fun c => ?_) (fun c => ?_)
  · rw [if_pos c] at h
    refine g_iload_n hg dX2_noteRow_13 rfl 2 rfl ?_
    refine g_bipush hg dX2_noteRow_14 kB_32 ?_
    refine g_idiv hg dX2_noteRow_16 (by decide) ?_
    exact lkX2_noteRow_17 hn hRf hg hr  _ _ _ _ _ h
  · rw [if_neg c] at h
    refine g_iconst hg dX2_noteRow_9 kI_m1 ?_
    refine g_goto (tgt := 17) hg dX2_noteRow_10 (by decide) ?_
    exact lkX2_noteRow_17 hn hRf hg hr  _ _ _ _ _ h
theorem lkX2_place {l0 : Launch} {E : En} {d n : Nat} {Rf : Nat → Nat → Nat} {ex : Bool} {kq : Nat × Nat} (hd : 1 ≤ d) (hn : 239 ≤ n) (hRf : RfOk 1 239 kq Rf) {x0 : Int32} {x1 : Int32} {x2 : Int32} {M : Mm} {q : Int32 × Mm} (h : sX2_place x0 x1 x2 M = some q) : Ct l0 E yX2_place cX2_place 3 (some .int) d 0 0 [.int x0, .int x1, .int x2] ex n Rf M n Rf (some (.int q.1)) q.2 := by
  obtain ⟨d, rfl⟩ := Nat.exists_eq_add_of_le' hd
  refine Ct.of pnX2 (Nat.le_of_ble_eq_true rfl) (fun g hg hr _ => ?_)
  replace hg : Ok g l0 E cX2_place RX2 3 (d + 1) 0 0 := hg
  show WG g E 3 n Rf ex 0 0 0 [(0, .int x0), (1, .int x1), (2, .int x2)] [] M
  unfold sX2_place at h
  refine g_iload_n hg dX2_place_0 rfl 0 rfl ?_
  refine g_bipush hg dX2_place_1 kB_8 ?_
  refine g_imul hg dX2_place_3 ?_
  refine g_iload_n hg dX2_place_4 rfl 1 rfl ?_
  refine g_iadd hg dX2_place_5 ?_
  refine g_bipush hg dX2_place_6 kB_8 ?_
  refine g_imul hg dX2_place_8 ?_
  refine g_iload_n hg dX2_place_9 rfl 2 rfl ?_
  refine g_iadd hg dX2_place_10 ?_
  replace h := Option.some.inj h
  subst h
  exact g_iret hg hr dX2_place_11
theorem lkX2_takeRow_82 {g : Gm} {l0 : Launch} {E : En} {d n : Nat} {Rf : Nat → Nat → Nat} {ex : Bool} {kq : Nat × Nat} (hn : 239 ≤ n) (hRf : RfOk 1 239 kq Rf) (hg : Ok g l0 E cX2_takeRow RX2 5 (d + 2) 0 0) {q : Int32 × Mm} (hr : Ret g E 0 0 (some .boolean) ex n Rf (some (.int q.1)) q.2) : ∀ (F : Nat) (x1 : Int32) (x2 : Int32) (x4 : Int32) (M : Mm), sX2_takeRow_82 F x1 x2 x4 M = some q → WG g E 5 n Rf ex 0 0 82 [(0, rr E.1 158), (1, .int x1), (2, .int x2), (4, .int x4)] [] M := by
  intro F
  induction F with
  | zero =>
    intro x1 x2 x4 M h
    cases h
  | succ F ih =>
    intro x1 x2 x4 M h
    rw [sX2_takeRow_82] at h
    refine g_iload hg dX2_takeRow_82 3 rfl ?_
    refine g_bipush hg dX2_takeRow_84 kB_8 ?_
    refine g_icmp_ge (tgt := 114) hg dX2_takeRow_86 (by decide) (fun c => ?_) (fun c => ?_)
    · replace h := itT c h
      refine g_iconst hg dX2_takeRow_114 kI_1 ?_
      replace h := Option.some.inj h
      subst h
      exact g_zret hg hr rfl dX2_takeRow_115
    · replace h := itF c h
      refine g_rload_n hg dX2_takeRow_89 rfl 0 rfl ?_
      refine g_getR (r := 159) hg fl_X2_9 ly158 rfl (idb rfl rfl hn) (rfc hRf rfl rfl rfl rfl) (by decide) dX2_takeRow_90 ?_
      refine g_iload_n hg dX2_takeRow_93 rfl 1 rfl ?_
      refine g_iload_n hg dX2_takeRow_94 rfl 2 rfl ?_
      refine g_iload hg dX2_takeRow_95 3 rfl ?_
      obtain ⟨q97, e97, h⟩ := Option.bind_eq_some_iff.mp h
      refine g_callSi (As := [.int x1, .int x2, .int x4]) (rest := [rr E.1 159]) hg (lkX2_place (by omega) hn hRf  e97) cs_X2_33 rfl rfl (Nat.le_of_ble_eq_true rfl) ⟨Nat.le_refl _, Nat.le_refl _⟩ dX2_takeRow_97 ?_
      refine g_rload_n hg dX2_takeRow_100 rfl 0 rfl ?_
      refine g_getR (r := 160) hg fl_X2_15 ly158 rfl (idb rfl rfl hn) (rfc hRf rfl rfl rfl rfl) (by decide) dX2_takeRow_101 ?_
      refine g_iload hg dX2_takeRow_104 3 rfl ?_
      obtain ⟨c106, h⟩ := ck_some h
      refine g_iald hg ly160 (idb rfl rfl hn) (inb_vp c106) dX2_takeRow_106 ?_
      obtain ⟨c107, h⟩ := ck_some h
      refine g_iast hg ly159 (idb rfl rfl hn) (inb_vp c107) dX2_takeRow_107 ?_
      refine g_inc (lv' := [(4, .int (x4 + 1)), (0, rr E.1 158), (1, .int x1), (2, .int x2)]) hg dX2_takeRow_108 kI_1 3 rfl (by decide) rfl ?_
      refine g_goto (tgt := 82) hg dX2_takeRow_111 (by decide) ?_
      refine g_sub (lv' := [(0, rr E.1 158), (1, .int x1), (2, .int x2), (4, .int (x4 + 1))]) [1, 2, 3, 0] rfl ?_
      exact ih _ _ _ _ h
theorem lkX2_takeRow_55 {g : Gm} {l0 : Launch} {E : En} {d n : Nat} {Rf : Nat → Nat → Nat} {ex : Bool} {kq : Nat × Nat} (hn : 239 ≤ n) (hRf : RfOk 1 239 kq Rf) (hg : Ok g l0 E cX2_takeRow RX2 5 (d + 2) 0 0) {q : Int32 × Mm} (hr : Ret g E 0 0 (some .boolean) ex n Rf (some (.int q.1)) q.2) {k5 : Int32 → Int32 → Int32 → Int32 → Mm → Option (Int32 × Mm)} (hk5 : ∀ (x1 : Int32) (x2 : Int32) (x3 : Int32) (x4 : Int32) (M : Mm), k5 x1 x2 x3 x4 M = some q → WG g E 5 n Rf ex 0 0 5 [(0, rr E.1 158), (1, .int x1), (2, .int x2), (3, .int x3), (4, .int x4)] [] M) : ∀ (x1 : Int32) (x2 : Int32) (x3 : Int32) (x4 : Int32) (M : Mm), sX2_takeRow_55 k5 x1 x2 x3 x4 M = some q → WG g E 5 n Rf ex 0 0 55 [(0, rr E.1 158), (1, .int x1), (2, .int x2), (3, .int x3), (4, .int x4)] [] M := by
  intro x1 x2 x3 x4 M h
  unfold sX2_takeRow_55 at h
  refine g_iload_n hg dX2_takeRow_55 rfl 3 rfl ?_
  refine g_rload_n hg dX2_takeRow_56 rfl 0 rfl ?_
  refine g_getR (r := 160) hg fl_X2_15 ly158 rfl (idb rfl rfl hn) (rfc hRf rfl rfl rfl rfl) (by decide) dX2_takeRow_57 ?_
  refine g_iload hg dX2_takeRow_60 4 rfl ?_
  obtain ⟨c62, h⟩ := ck_some h
  refine g_iald hg ly160 (idb rfl rfl hn) (inb_vp c62) dX2_takeRow_62 ?_
  refine g_iadd hg dX2_takeRow_63 ?_
  refine g_istore_n (lv' := [(3, .int (x3 + (M.1 160 x4.toNatClampNeg))), (0, rr E.1 158), (1, .int x1), (2, .int x2), (4, .int x4)]) hg dX2_takeRow_64 rfl (by decide) rfl ?_
  refine g_inc (lv' := [(4, .int (x4 + 1)), (3, .int (x3 + (M.1 160 x4.toNatClampNeg))), (0, rr E.1 158), (1, .int x1), (2, .int x2)]) hg dX2_takeRow_65 kI_1 4 rfl (by decide) rfl ?_
  refine g_goto (tgt := 5) hg dX2_takeRow_68 (by decide) ?_
  refine g_sub (lv' := [(0, rr E.1 158), (1, .int x1), (2, .int x2), (3, .int (x3 + (M.1 160 x4.toNatClampNeg))), (4, .int (x4 + 1))]) [2, 3, 4, 1, 0] rfl ?_
  exact hk5 _ _ _ _ _ h
theorem lkX2_takeRow_5 {g : Gm} {l0 : Launch} {E : En} {d n : Nat} {Rf : Nat → Nat → Nat} {ex : Bool} {kq : Nat × Nat} (hn : 239 ≤ n) (hRf : RfOk 1 239 kq Rf) (hg : Ok g l0 E cX2_takeRow RX2 5 (d + 2) 0 0) {q : Int32 × Mm} (hr : Ret g E 0 0 (some .boolean) ex n Rf (some (.int q.1)) q.2) : ∀ (F : Nat) (x1 : Int32) (x2 : Int32) (x3 : Int32) (x4 : Int32) (M : Mm), sX2_takeRow_5 F x1 x2 x3 x4 M = some q → WG g E 5 n Rf ex 0 0 5 [(0, rr E.1 158), (1, .int x1), (2, .int x2), (3, .int x3), (4, .int x4)] [] M := by
  intro F
  induction F with
  | zero =>
    intro x1 x2 x3 x4 M h
    cases h
  | succ F ih =>
    intro x1 x2 x3 x4 M h
    rw [sX2_takeRow_5] at h
    refine g_iload hg dX2_takeRow_5 4 rfl ?_
    refine g_bipush hg dX2_takeRow_7 kB_8 ?_
    refine g_icmp_ge (tgt := 71) hg dX2_takeRow_9 (by decide) (fun c => ?_) (fun c => ?_)
    · replace h := itT c h
      refine g_iload_n hg dX2_takeRow_71 rfl 3 rfl ?_
      refine g_bipush hg dX2_takeRow_72 kB_16 ?_
      refine g_icmp_eq (tgt := 79) hg dX2_takeRow_74 (by decide) (fun c => ?_) (fun c => ?_)
      · replace h := itT c h
        refine g_iconst hg dX2_takeRow_79 kI_0 ?_
        refine g_istore (lv' := [(4, .int 0), (0, rr E.1 158), (1, .int x1), (2, .int x2), (3, .int x3)]) hg dX2_takeRow_80 (by decide) rfl ?_
        refine g_sub (lv' := [(0, rr E.1 158), (1, .int x1), (2, .int x2), (4, .int 0)]) [1, 2, 3, 0] rfl ?_
        exact lkX2_takeRow_82 hn hRf hg hr  4096 _ _ _ _ h
      · replace h := itF c h
        refine g_iconst hg dX2_takeRow_77 kI_0 ?_
        replace h := Option.some.inj h
        subst h
        exact g_zret hg hr rfl dX2_takeRow_78
    · replace h := itF c h
      refine g_rload_n hg dX2_takeRow_12 rfl 0 rfl ?_
      refine g_getR (r := 160) hg fl_X2_15 ly158 rfl (idb rfl rfl hn) (rfc hRf rfl rfl rfl rfl) (by decide) dX2_takeRow_13 ?_
      refine g_iload hg dX2_takeRow_16 4 rfl ?_
      obtain ⟨c18, h⟩ := ck_some h
      refine g_iald hg ly160 (idb rfl rfl hn) (inb_vp c18) dX2_takeRow_18 ?_
      refine g_if_lt (tgt := 53) hg dX2_takeRow_19 (by decide) (fun c => ?_) (fun c => ?_)
      · replace h := itT c h
        refine g_iconst hg dX2_takeRow_53 kI_0 ?_
        replace h := Option.some.inj h
        subst h
        exact g_zret hg hr rfl dX2_takeRow_54
      · replace h := itF c h
        refine g_rload_n hg dX2_takeRow_22 rfl 0 rfl ?_
        refine g_getR (r := 160) hg fl_X2_15 ly158 rfl (idb rfl rfl hn) (rfc hRf rfl rfl rfl rfl) (by decide) dX2_takeRow_23 ?_
        refine g_iload hg dX2_takeRow_26 4 rfl ?_
        obtain ⟨c28, h⟩ := ck_some h
        refine g_iald hg ly160 (idb rfl rfl hn) (inb_vp c28) dX2_takeRow_28 ?_
        refine g_bipush hg dX2_takeRow_29 kB_16 ?_
        refine g_icmp_gt (tgt := 53) hg dX2_takeRow_31 (by decide) (fun c => ?_) (fun c => ?_)
        · replace h := itT c h
          refine g_iconst hg dX2_takeRow_53 kI_0 ?_
          replace h := Option.some.inj h
          subst h
          exact g_zret hg hr rfl dX2_takeRow_54
        · replace h := itF c h
          refine g_iload hg dX2_takeRow_34 4 rfl ?_
          refine g_rload_n hg dX2_takeRow_36 rfl 0 rfl ?_
          refine g_getI hg fl_X2_29 ly158 rfl (idb rfl rfl hn) dX2_takeRow_37 ?_
          refine g_icmp_lt (tgt := 55) hg dX2_takeRow_40 (by decide) (fun c => ?_) (fun c => ?_)
          · replace h := itT c h
            exact lkX2_takeRow_55 hn hRf hg hr ih _ _ _ _ _ h
          · replace h := itF c h
            refine g_rload_n hg dX2_takeRow_43 rfl 0 rfl ?_
            refine g_getR (r := 160) hg fl_X2_15 ly158 rfl (idb rfl rfl hn) (rfc hRf rfl rfl rfl rfl) (by decide) dX2_takeRow_44 ?_
            refine g_iload hg dX2_takeRow_47 4 rfl ?_
            obtain ⟨c49, h⟩ := ck_some h
            refine g_iald hg ly160 (idb rfl rfl hn) (inb_vp c49) dX2_takeRow_49 ?_
            refine g_if_eq (tgt := 55) hg dX2_takeRow_50 (by decide) (fun c => ?_) (fun c => ?_)
            · replace h := itT c h
              exact lkX2_takeRow_55 hn hRf hg hr ih _ _ _ _ _ h
            · replace h := itF c h
              refine g_iconst hg dX2_takeRow_53 kI_0 ?_
              replace h := Option.some.inj h
              subst h
              exact g_zret hg hr rfl dX2_takeRow_54
theorem lkX2_takeRow {l0 : Launch} {E : En} {d n : Nat} {Rf : Nat → Nat → Nat} {ex : Bool} {kq : Nat × Nat} (hd : 2 ≤ d) (hn : 239 ≤ n) (hRf : RfOk 1 239 kq Rf) {x1 : Int32} {x2 : Int32} {M : Mm} {q : Int32 × Mm} (h : sX2_takeRow x1 x2 M = some q) : Ct l0 E yX2_takeRow cX2_takeRow 5 (some .boolean) d 0 0 [rr E.1 158, .int x1, .int x2] ex n Rf M n Rf (some (.int q.1)) q.2 := by
  obtain ⟨d, rfl⟩ := Nat.exists_eq_add_of_le' hd
  refine Ct.of pnX2 (Nat.le_of_ble_eq_true rfl) (fun g hg hr _ => ?_)
  replace hg : Ok g l0 E cX2_takeRow RX2 5 (d + 2) 0 0 := hg
  show WG g E 5 n Rf ex 0 0 0 [(0, rr E.1 158), (1, .int x1), (2, .int x2)] [] M
  unfold sX2_takeRow at h
  refine g_iconst hg dX2_takeRow_0 kI_0 ?_
  refine g_istore_n (lv' := [(3, .int 0), (0, rr E.1 158), (1, .int x1), (2, .int x2)]) hg dX2_takeRow_1 rfl (by decide) rfl ?_
  refine g_iconst hg dX2_takeRow_2 kI_0 ?_
  refine g_istore (lv' := [(4, .int 0), (3, .int 0), (0, rr E.1 158), (1, .int x1), (2, .int x2)]) hg dX2_takeRow_3 (by decide) rfl ?_
  refine g_sub (lv' := [(0, rr E.1 158), (1, .int x1), (2, .int x2), (3, .int 0), (4, .int 0)]) [2, 3, 4, 1, 0] rfl ?_
  exact lkX2_takeRow_5 hn hRf hg hr  4096 _ _ _ _ _ h
theorem lkX11_reads {l0 : Launch} {E : En} {d n : Nat} {Rf : Nat → Nat → Nat} {ex : Bool} {kq : Nat × Nat} (hd : 3 ≤ d) (hn : 239 ≤ n) (hRf : RfOk 1 239 kq Rf) (hkq : isKq kq) {x1 : Int32} {x2 : Int32} {x3 : Int32} {x4 : Int32} {x5 : Int32} {x6 : Int32} {M : Mm} {q : Int32 × Mm} (h : sX11_reads kq x1 x2 x3 x4 x5 x6 M = some q) : Ct l0 E yX11_reads cX11_reads 7 (some .boolean) d 0 0 [rr E.1 1, .int x1, .int x2, .int x3, .int x4, .int x5, .int x6] ex n Rf M n Rf (some (.int q.1)) q.2 := by
  obtain ⟨d, rfl⟩ := Nat.exists_eq_add_of_le' hd
  refine Ct.of pnX11 (Nat.le_of_ble_eq_true rfl) (fun g hg hr _ => ?_)
  replace hg : Ok g l0 E cX11_reads RX11 7 (d + 3) 0 0 := hg
  show WG g E 7 n Rf ex 0 0 0 [(0, rr E.1 1), (1, .int x1), (2, .int x2), (3, .int x3), (4, .int x4), (5, .int x5), (6, .int x6)] [] M
  unfold sX11_reads at h
  refine g_iload_n hg dX11_reads_0 rfl 1 rfl ?_
  obtain ⟨q1, e1, h⟩ := Option.bind_eq_some_iff.mp h
  refine g_callSi (As := [.int x1]) (rest := []) hg (lkX11_isHand (by omega) hn hRf  e1) cs_X11_138 rfl rfl (Nat.le_of_ble_eq_true rfl) ⟨Nat.le_refl _, Nat.le_refl _⟩ dX11_reads_1 ?_
  refine g_if_eq (tgt := 15) hg dX11_reads_4 (by decide) (fun c => ?_) (fun c => ?_)
  · replace h := itT c h
    refine g_iconst hg dX11_reads_15 kI_0 ?_
    replace h := Option.some.inj h
    subst h
    exact g_zret hg hr rfl dX11_reads_16
  · replace h := itF c h
    refine g_rload_n hg dX11_reads_7 rfl 0 rfl ?_
    refine g_iload_n hg dX11_reads_8 rfl 2 rfl ?_
    obtain ⟨q9, e9, h⟩ := Option.bind_eq_some_iff.mp h
    refine g_callVi (As := [.int x2]) (rest := []) hg (lkX11_isKind (by omega) hn hRf hkq  e9) cv_X11_193 rfl ly1 (idb rfl rfl hn) rfl rfl (Nat.le_of_ble_eq_true rfl) ⟨Nat.le_refl _, Nat.le_refl _⟩ dX11_reads_9 ?_
    refine g_if_ne (tgt := 17) hg dX11_reads_12 (by decide) (fun c => ?_) (fun c => ?_)
    · replace h := itF c h
      refine g_rload_n hg dX11_reads_17 rfl 0 rfl ?_
      refine g_getR (r := 158) hg fl_X11_61 ly1 rfl (idb rfl rfl hn) (rfc hRf rfl rfl rfl rfl) (by decide) dX11_reads_18 ?_
      refine g_iconst hg dX11_reads_21 kI_0 ?_
      refine g_iload_n hg dX11_reads_22 rfl 3 rfl ?_
      obtain ⟨M23, e23, h⟩ := Option.bind_eq_some_iff.mp h
      refine g_callVv (As := [.int 0, .int x3]) (rest := []) hg (lkX2_noteRow (by omega) hn hRf  e23) cv_X11_196 rfl ly158 (idb rfl rfl hn) rfl rfl (Nat.le_of_ble_eq_true rfl) ⟨Nat.le_refl _, Nat.le_refl _⟩ dX11_reads_23 ?_
      refine g_rload_n hg dX11_reads_26 rfl 0 rfl ?_
      refine g_getR (r := 158) hg fl_X11_61 ly1 rfl (idb rfl rfl hn) (rfc hRf rfl rfl rfl rfl) (by decide) dX11_reads_27 ?_
      refine g_iconst hg dX11_reads_30 kI_2 ?_
      refine g_iload hg dX11_reads_31 4 rfl ?_
      obtain ⟨M33, e33, h⟩ := Option.bind_eq_some_iff.mp h
      refine g_callVv (As := [.int 2, .int x4]) (rest := []) hg (lkX2_noteRow (by omega) hn hRf  e33) cv_X11_196 rfl ly158 (idb rfl rfl hn) rfl rfl (Nat.le_of_ble_eq_true rfl) ⟨Nat.le_refl _, Nat.le_refl _⟩ dX11_reads_33 ?_
      refine g_rload_n hg dX11_reads_36 rfl 0 rfl ?_
      refine g_getR (r := 158) hg fl_X11_61 ly1 rfl (idb rfl rfl hn) (rfc hRf rfl rfl rfl rfl) (by decide) dX11_reads_37 ?_
      refine g_iconst hg dX11_reads_40 kI_4 ?_
      refine g_iload hg dX11_reads_41 5 rfl ?_
      obtain ⟨M43, e43, h⟩ := Option.bind_eq_some_iff.mp h
      refine g_callVv (As := [.int 4, .int x5]) (rest := []) hg (lkX2_noteRow (by omega) hn hRf  e43) cv_X11_196 rfl ly158 (idb rfl rfl hn) rfl rfl (Nat.le_of_ble_eq_true rfl) ⟨Nat.le_refl _, Nat.le_refl _⟩ dX11_reads_43 ?_
      refine g_rload_n hg dX11_reads_46 rfl 0 rfl ?_
      refine g_getR (r := 158) hg fl_X11_61 ly1 rfl (idb rfl rfl hn) (rfc hRf rfl rfl rfl rfl) (by decide) dX11_reads_47 ?_
      refine g_bipush hg dX11_reads_50 kB_6 ?_
      refine g_iload hg dX11_reads_52 6 rfl ?_
      obtain ⟨M54, e54, h⟩ := Option.bind_eq_some_iff.mp h
      refine g_callVv (As := [.int 6, .int x6]) (rest := []) hg (lkX2_noteRow (by omega) hn hRf  e54) cv_X11_196 rfl ly158 (idb rfl rfl hn) rfl rfl (Nat.le_of_ble_eq_true rfl) ⟨Nat.le_refl _, Nat.le_refl _⟩ dX11_reads_54 ?_
      refine g_rload_n hg dX11_reads_57 rfl 0 rfl ?_
      refine g_getR (r := 158) hg fl_X11_61 ly1 rfl (idb rfl rfl hn) (rfc hRf rfl rfl rfl rfl) (by decide) dX11_reads_58 ?_
      refine g_iload_n hg dX11_reads_61 rfl 1 rfl ?_
      refine g_iload_n hg dX11_reads_62 rfl 2 rfl ?_
      obtain ⟨q63, e63, h⟩ := Option.bind_eq_some_iff.mp h
      refine g_callVi (As := [.int x1, .int x2]) (rest := []) hg (lkX2_takeRow (by omega) hn hRf  e63) cv_X11_199 rfl ly158 (idb rfl rfl hn) rfl rfl (Nat.le_of_ble_eq_true rfl) ⟨Nat.le_refl _, Nat.le_refl _⟩ dX11_reads_63 ?_
      obtain ⟨c66, h⟩ := ck_some h
      replace h := Option.some.inj h
      subst h
      exact g_zret hg hr (isb_nar c66) dX11_reads_66
    · replace h := itT c h
      refine g_iconst hg dX11_reads_15 kI_0 ?_
      replace h := Option.some.inj h
      subst h
      exact g_zret hg hr rfl dX11_reads_16
