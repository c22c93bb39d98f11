theorem lkX11_isUnsure_48 {g : Gm} {l0 : Launch} {E : En} {d n : Nat} {Rf : Nat → Nat → Nat} {ex : Bool} {kq : Nat × Nat} (hn : 239 ≤ n) (hRf : RfOk 1 239 kq Rf) (hkq : isKq kq) (hg : Ok g l0 E cX11_isUnsure RX11 3 (d + 2) 0 0) {q : Int32 × Mm} (hr : Ret g E 0 0 (some .boolean) ex n Rf (some (.int q.1)) q.2) {k2 : Int32 → Int32 → Mm → Option (Int32 × Mm)} (hk2 : ∀ (x1 : Int32) (x2 : Int32) (M : Mm), k2 x1 x2 M = some q → WG g E 3 n Rf ex 0 0 2 [(0, rr E.1 1), (1, .int x1), (2, .int x2)] [] M) : ∀ (x1 : Int32) (x2 : Int32) (M : Mm), sX11_isUnsure_48 kq k2 x1 x2 M = some q → WG g E 3 n Rf ex 0 0 48 [(0, rr E.1 1), (1, .int x1), (2, .int x2)] [] M := by
  intro x1 x2 M h
  unfold sX11_isUnsure_48 at h
  refine g_inc (lv' := [(2, .int (x2 + 1)), (0, rr E.1 1), (1, .int x1)]) hg dX11_isUnsure_48 kI_1 2 rfl (by decide) rfl ?_
  refine g_goto (tgt := 2) hg dX11_isUnsure_51 (by decide) ?_
  refine g_sub (lv' := [(0, rr E.1 1), (1, .int x1), (2, .int (x2 + 1))]) [1, 2, 0] rfl ?_
  exact hk2 _ _ _ h
theorem lkX11_isUnsure_2 {g : Gm} {l0 : Launch} {E : En} {d n : Nat} {Rf : Nat → Nat → Nat} {ex : Bool} {kq : Nat × Nat} (hn : 239 ≤ n) (hRf : RfOk 1 239 kq Rf) (hkq : isKq kq) (hg : Ok g l0 E cX11_isUnsure RX11 3 (d + 2) 0 0) {q : Int32 × Mm} (hr : Ret g E 0 0 (some .boolean) ex n Rf (some (.int q.1)) q.2) : ∀ (F : Nat) (x1 : Int32) (x2 : Int32) (M : Mm), sX11_isUnsure_2 kq F x1 x2 M = some q → WG g E 3 n Rf ex 0 0 2 [(0, rr E.1 1), (1, .int x1), (2, .int x2)] [] M := by
  intro F
  induction F with
  | zero =>
    intro x1 x2 M h
    cases h
  | succ F ih =>
    intro x1 x2 M h
    rw [sX11_isUnsure_2] at h
    refine g_iload_n hg dX11_isUnsure_2 rfl 2 rfl ?_
    refine g_rload_n hg dX11_isUnsure_3 rfl 0 rfl ?_
    refine g_getR (r := kq.1) hg fl_X11_34 ly1 rfl (idb rfl rfl hn) (rfc hRf rfl rfl rfl rfl) (ky_pos hkq.1) dX11_isUnsure_4 ?_
    refine g_getI hg fl_X11_125 (ky_lay hkq.1) rfl (ky_bd hkq.1 hn) dX11_isUnsure_7 ?_
    refine g_icmp_ge (tgt := 54) hg dX11_isUnsure_10 (by decide) (fun c => ?_) (fun c => ?_)
    · replace h := itT c h
      refine g_iconst hg dX11_isUnsure_54 kI_0 ?_
      replace h := Option.some.inj h
      subst h
      exact g_zret hg hr rfl dX11_isUnsure_55
    · replace h := itF c h
      refine g_rload_n hg dX11_isUnsure_13 rfl 0 rfl ?_
      refine g_getR (r := 193) hg fl_X11_101 ly1 rfl (idb rfl rfl hn) (rfc hRf rfl rfl rfl rfl) (by decide) dX11_isUnsure_14 ?_
      refine g_iload_n hg dX11_isUnsure_17 rfl 2 rfl ?_
      obtain ⟨c18, h⟩ := ck_some h
      refine g_iald hg ly193 (idb rfl rfl hn) (inb_vp c18) dX11_isUnsure_18 ?_
      refine g_rload_n hg dX11_isUnsure_19 rfl 0 rfl ?_
      refine g_getR (r := 193) hg fl_X11_101 ly1 rfl (idb rfl rfl hn) (rfc hRf rfl rfl rfl rfl) (by decide) dX11_isUnsure_20 ?_
      refine g_rload_n hg dX11_isUnsure_23 rfl 0 rfl ?_
      refine g_getR (r := 158) hg fl_X11_61 ly1 rfl (idb rfl rfl hn) (rfc hRf rfl rfl rfl rfl) (by decide) dX11_isUnsure_24 ?_
      refine g_getI hg fl_X11_263 ly158 rfl (idb rfl rfl hn) dX11_isUnsure_27 ?_
      obtain ⟨c30, h⟩ := ck_some h
      refine g_iald hg ly193 (idb rfl rfl hn) (inb_vp c30) dX11_isUnsure_30 ?_
      refine g_icmp_eq (tgt := 48) hg dX11_isUnsure_31 (by decide) (fun c => ?_) (fun c => ?_)
      · replace h := itT c h
        exact lkX11_isUnsure_48 hn hRf hkq hg hr ih _ _ _ h
      · replace h := itF c h
        refine g_rload_n hg dX11_isUnsure_34 rfl 0 rfl ?_
        refine g_getR (r := 158) hg fl_X11_61 ly1 rfl (idb rfl rfl hn) (rfc hRf rfl rfl rfl rfl) (by decide) dX11_isUnsure_35 ?_
        refine g_iload_n hg dX11_isUnsure_38 rfl 2 rfl ?_
        obtain ⟨q39, e39, h⟩ := Option.bind_eq_some_iff.mp h
        refine g_callVi (As := [.int x2]) (rest := []) hg (lkX2_partsOf (by omega) hn hRf  e39) cv_X11_259 rfl ly158 (idb rfl rfl hn) rfl rfl (Nat.le_of_ble_eq_true rfl) ⟨Nat.le_refl _, Nat.le_refl _⟩ dX11_isUnsure_39 ?_
        refine g_iload_n hg dX11_isUnsure_42 rfl 1 rfl ?_
        refine g_icmp_lt (tgt := 48) hg dX11_isUnsure_43 (by decide) (fun c => ?_) (fun c => ?_)
        · replace h := itT c h
          exact lkX11_isUnsure_48 hn hRf hkq hg hr ih _ _ _ h
        · replace h := itF c h
          refine g_iconst hg dX11_isUnsure_46 kI_1 ?_
          replace h := Option.some.inj h
          subst h
          exact g_zret hg hr rfl dX11_isUnsure_47
theorem lkX11_isUnsure {l0 : Launch} {E : En} {d n : Nat} {Rf : Nat → Nat → Nat} {ex : Bool} {kq : Nat × Nat} (hd : 2 ≤ d) (hn : 239 ≤ n) (hRf : RfOk 1 239 kq Rf) (hkq : isKq kq) {x1 : Int32} {M : Mm} {q : Int32 × Mm} (h : sX11_isUnsure kq x1 M = some q) : Ct l0 E yX11_isUnsure cX11_isUnsure 3 (some .boolean) d 0 0 [rr E.1 1, .int x1] ex n Rf M n Rf (some (.int q.1)) q.2 := by
  obtain ⟨d, rfl⟩ := Nat.exists_eq_add_of_le' hd
  refine Ct.of pnX11 (Nat.le_of_ble_eq_true rfl) (fun g hg hr _ => ?_)
  replace hg : Ok g l0 E cX11_isUnsure RX11 3 (d + 2) 0 0 := hg
  show WG g E 3 n Rf ex 0 0 0 [(0, rr E.1 1), (1, .int x1)] [] M
  unfold sX11_isUnsure at h
  refine g_iconst hg dX11_isUnsure_0 kI_0 ?_
  refine g_istore_n (lv' := [(2, .int 0), (0, rr E.1 1), (1, .int x1)]) hg dX11_isUnsure_1 rfl (by decide) rfl ?_
  refine g_sub (lv' := [(0, rr E.1 1), (1, .int x1), (2, .int 0)]) [1, 2, 0] rfl ?_
  exact lkX11_isUnsure_2 hn hRf hkq hg hr  4096 _ _ _ h
theorem lkX11_worth_123 {g : Gm} {l0 : Launch} {E : En} {d n : Nat} {Rf : Nat → Nat → Nat} {ex : Bool} {kq : Nat × Nat} (hn : 239 ≤ n) (hRf : RfOk 1 239 kq Rf) (hkq : isKq kq) (hg : Ok g l0 E cX11_worth RX11 5 (d + 5) 0 0) {q : Int32 × Mm} (hr : Ret g E 0 0 (some .int) ex n Rf (some (.int q.1)) q.2) {k56 : Int32 → Int32 → Int32 → Int32 → Mm → Option (Int32 × Mm)} (hk56 : ∀ (x1 : Int32) (x2 : Int32) (x3 : Int32) (x4 : Int32) (M : Mm), k56 x1 x2 x3 x4 M = some q → WG g E 5 n Rf ex 0 0 56 [(0, rr E.1 1), (1, .int x1), (2, .int x2), (3, .int x3), (4, .int x4)] [] M) : ∀ (x1 : Int32) (x2 : Int32) (x4 : Int32) (s0 : Int32) (s1 : Int32) (M : Mm), sX11_worth_123 kq k56 x1 x2 x4 s0 s1 M = some q → WG g E 5 n Rf ex 0 0 123 [(0, rr E.1 1), (1, .int x1), (2, .int x2), (4, .int x4)] [.int s1, .int s0] M := by
  intro x1 x2 x4 s0 s1 M h
  unfold sX11_worth_123 at h
  refine g_iadd hg dX11_worth_123 ?_
  refine g_istore_n (lv' := [(3, .int (s0 + s1)), (0, rr E.1 1), (1, .int x1), (2, .int x2), (4, .int x4)]) hg dX11_worth_124 rfl (by decide) rfl ?_
  refine g_inc (lv' := [(4, .int (x4 + 1)), (3, .int (s0 + s1)), (0, rr E.1 1), (1, .int x1), (2, .int x2)]) hg dX11_worth_125 kI_1 4 rfl (by decide) rfl ?_
  refine g_goto (tgt := 56) hg dX11_worth_128 (by decide) ?_
  refine g_sub (lv' := [(0, rr E.1 1), (1, .int x1), (2, .int x2), (3, .int (s0 + s1)), (4, .int (x4 + 1))]) [2, 3, 4, 1, 0] rfl ?_
  exact hk56 _ _ _ _ _ h
theorem lkX11_worth_56 {g : Gm} {l0 : Launch} {E : En} {d n : Nat} {Rf : Nat → Nat → Nat} {ex : Bool} {kq : Nat × Nat} (hn : 239 ≤ n) (hRf : RfOk 1 239 kq Rf) (hkq : isKq kq) (hg : Ok g l0 E cX11_worth RX11 5 (d + 5) 0 0) {q : Int32 × Mm} (hr : Ret g E 0 0 (some .int) ex n Rf (some (.int q.1)) q.2) : ∀ (F : Nat) (x1 : Int32) (x2 : Int32) (x3 : Int32) (x4 : Int32) (M : Mm), sX11_worth_56 kq F x1 x2 x3 x4 M = some q → WG g E 5 n Rf ex 0 0 56 [(0, rr E.1 1), (1, .int x1), (2, .int x2), (3, .int x3), (4, .int x4)] [] M := by
  intro F
  induction F with
  | zero =>
    intro x1 x2 x3 x4 M h
    cases h
  | succ F ih =>
    intro x1 x2 x3 x4 M h
    rw [sX11_worth_56] at h
    refine g_iload hg dX11_worth_56 4 rfl ?_
    refine g_rload_n hg dX11_worth_58 rfl 0 rfl ?_
    refine g_getR (r := 22) hg fl_X11_45 ly1 rfl (idb rfl rfl hn) (rfc hRf rfl rfl rfl rfl) (by decide) dX11_worth_59 ?_
    refine g_getI hg fl_X11_328 ly22 rfl (idb rfl rfl hn) dX11_worth_62 ?_
    refine g_icmp_ge (tgt := 131) hg dX11_worth_65 (by decide) (fun c => ?_) (fun c => ?_)
    · replace h := itT c h
      refine g_iload_n hg dX11_worth_131 rfl 3 rfl ?_
      replace h := Option.some.inj h
      subst h
      exact g_iret hg hr dX11_worth_132
    · replace h := itF c h
      refine g_rload_n hg dX11_worth_68 rfl 0 rfl ?_
      refine g_getR (r := 158) hg fl_X11_61 ly1 rfl (idb rfl rfl hn) (rfc hRf rfl rfl rfl rfl) (by decide) dX11_worth_69 ?_
      refine g_iload hg dX11_worth_72 4 rfl ?_
      refine g_iconst hg dX11_worth_74 kI_m1 ?_
      obtain ⟨M75, e75, h⟩ := Option.bind_eq_some_iff.mp h
      refine g_callVv (As := [.int x4, .int (-1)]) (rest := []) hg (lkX2_weigh (by omega) hn hRf  e75) cv_X11_253 rfl ly158 (idb rfl rfl hn) rfl rfl (Nat.le_of_ble_eq_true rfl) ⟨Nat.le_refl _, Nat.le_refl _⟩ dX11_worth_75 ?_
      refine g_iload_n hg dX11_worth_78 rfl 3 rfl ?_
      refine g_iload_n hg dX11_worth_79 rfl 1 rfl ?_
      refine g_if_ne (tgt := 98) hg dX11_worth_80 (by decide) (fun c => ?_) (fun c => ?_)
      · replace h := itF c h
        refine g_iload_n hg dX11_worth_98 rfl 1 rfl ?_
        refine g_iconst hg dX11_worth_99 kI_1 ?_
        refine g_icmp_ne (tgt := 110) hg dX11_worth_100 (by decide) (fun c => ?_) (fun c => ?_)
        · replace h := itF c h
          refine g_rload_n hg dX11_worth_110 rfl 0 rfl ?_
          refine g_iload_n hg dX11_worth_111 rfl 2 rfl ?_
          obtain ⟨q112, e112, h⟩ := Option.bind_eq_some_iff.mp h
          refine g_callVi (As := [.int x2]) (rest := [.int x3]) hg (lkX11_isUnsure (by omega) hn hRf hkq  e112) cv_X11_333 rfl ly1 (idb rfl rfl hn) rfl rfl (Nat.le_of_ble_eq_true rfl) ⟨Nat.le_refl _, Nat.le_refl _⟩ dX11_worth_112 ?_
          refine g_if_eq (tgt := 122) hg dX11_worth_115 (by decide) (fun c => ?_) (fun c => ?_)
          · rw [if_pos c] at h
            refine g_iconst hg dX11_worth_122 kI_0 ?_
            refine g_sub (lv' := [(0, rr E.1 1), (1, .int x1), (2, .int x2), (4, .int x4)]) [0, 1, 2, 4] rfl ?_
            exact lkX11_worth_123 hn hRf hkq hg hr ih _ _ _ _ _ _ h
          · rw [if_neg c] at h
            refine g_iconst hg dX11_worth_118 kI_1 ?_
            refine g_goto (tgt := 123) hg dX11_worth_119 (by decide) ?_
            refine g_sub (lv' := [(0, rr E.1 1), (1, .int x1), (2, .int x2), (4, .int x4)]) [0, 1, 2, 4] rfl ?_
            exact lkX11_worth_123 hn hRf hkq hg hr ih _ _ _ _ _ _ h
        · replace h := itT c h
          refine g_rload_n hg dX11_worth_103 rfl 0 rfl ?_
          obtain ⟨q104, e104, h⟩ := Option.bind_eq_some_iff.mp h
          refine g_callVi (As := []) (rest := [.int x3]) hg (lkX11_fairValue (by omega) hn hRf hkq  e104) cv_X11_330 rfl ly1 (idb rfl rfl hn) rfl rfl (Nat.le_of_ble_eq_true rfl) ⟨Nat.le_refl _, Nat.le_refl _⟩ dX11_worth_104 ?_
          refine g_goto (tgt := 123) hg dX11_worth_107 (by decide) ?_
          refine g_sub (lv' := [(0, rr E.1 1), (1, .int x1), (2, .int x2), (4, .int x4)]) [0, 1, 2, 4] rfl ?_
          exact lkX11_worth_123 hn hRf hkq hg hr ih _ _ _ _ _ _ h
      · replace h := itT c h
        refine g_rload_n hg dX11_worth_83 rfl 0 rfl ?_
        refine g_getR (r := 193) hg fl_X11_101 ly1 rfl (idb rfl rfl hn) (rfc hRf rfl rfl rfl rfl) (by decide) dX11_worth_84 ?_
        refine g_rload_n hg dX11_worth_87 rfl 0 rfl ?_
        refine g_getR (r := 158) hg fl_X11_61 ly1 rfl (idb rfl rfl hn) (rfc hRf rfl rfl rfl rfl) (by decide) dX11_worth_88 ?_
        refine g_getI hg fl_X11_263 ly158 rfl (idb rfl rfl hn) dX11_worth_91 ?_
        obtain ⟨c94, h⟩ := ck_some h
        refine g_iald hg ly193 (idb rfl rfl hn) (inb_vp c94) dX11_worth_94 ?_
        refine g_goto (tgt := 123) hg dX11_worth_95 (by decide) ?_
        refine g_sub (lv' := [(0, rr E.1 1), (1, .int x1), (2, .int x2), (4, .int x4)]) [0, 1, 2, 4] rfl ?_
        exact lkX11_worth_123 hn hRf hkq hg hr ih _ _ _ _ _ _ h
theorem lkX11_worth_25 {g : Gm} {l0 : Launch} {E : En} {d n : Nat} {Rf : Nat → Nat → Nat} {ex : Bool} {kq : Nat × Nat} (hn : 239 ≤ n) (hRf : RfOk 1 239 kq Rf) (hkq : isKq kq) (hg : Ok g l0 E cX11_worth RX11 5 (d + 5) 0 0) {q : Int32 × Mm} (hr : Ret g E 0 0 (some .int) ex n Rf (some (.int q.1)) q.2) : ∀ (x1 : Int32) (x2 : Int32) (M : Mm), sX11_worth_25 kq x1 x2 M = some q → WG g E 5 n Rf ex 0 0 25 [(0, rr E.1 1), (1, .int x1), (2, .int x2)] [] M := by
  intro x1 x2 M h
  unfold sX11_worth_25 at h
  refine g_rload_n hg dX11_worth_25 rfl 0 rfl ?_
  refine g_getR (r := kq.1) hg fl_X11_34 ly1 rfl (idb rfl rfl hn) (rfc hRf rfl rfl rfl rfl) (ky_pos hkq.1) dX11_worth_26 ?_
  refine g_getI hg fl_X11_125 (ky_lay hkq.1) rfl (ky_bd hkq.1 hn) dX11_worth_29 ?_
  refine g_if_ne (tgt := 37) hg dX11_worth_32 (by decide) (fun c => ?_) (fun c => ?_)
  · replace h := itF c h
    refine g_rload_n hg dX11_worth_37 rfl 0 rfl ?_
    refine g_getR (r := 34) hg fl_X11_52 ly1 rfl (idb rfl rfl hn) (rfc hRf rfl rfl rfl rfl) (by decide) dX11_worth_38 ?_
    refine g_rload_n hg dX11_worth_41 rfl 0 rfl ?_
    refine g_getR (r := 34) hg fl_X11_52 ly1 rfl (idb rfl rfl hn) (rfc hRf rfl rfl rfl rfl) (by decide) dX11_worth_42 ?_
    refine g_getI hg fl_X11_145 ly34 rfl (idb rfl rfl hn) dX11_worth_45 ?_
    obtain ⟨M48, e48, h⟩ := Option.bind_eq_some_iff.mp h
    refine g_callVv (As := [.int (M.1 34 1)]) (rest := []) hg (lkX1_gather (by omega) hn hRf  e48) cv_X11_250 rfl ly34 (idb rfl rfl hn) rfl rfl (Nat.le_of_ble_eq_true rfl) ⟨Nat.le_refl _, Nat.le_refl _⟩ dX11_worth_48 ?_
    refine g_iconst hg dX11_worth_51 kI_0 ?_
    refine g_istore_n (lv' := [(3, .int 0), (0, rr E.1 1), (1, .int x1), (2, .int x2)]) hg dX11_worth_52 rfl (by decide) rfl ?_
    refine g_iconst hg dX11_worth_53 kI_0 ?_
    refine g_istore (lv' := [(4, .int 0), (3, .int 0), (0, rr E.1 1), (1, .int x1), (2, .int x2)]) hg dX11_worth_54 (by decide) rfl ?_
    refine g_sub (lv' := [(0, rr E.1 1), (1, .int x1), (2, .int x2), (3, .int 0), (4, .int 0)]) [2, 3, 4, 1, 0] rfl ?_
    exact lkX11_worth_56 hn hRf hkq hg hr  4096 _ _ _ _ _ h
  · replace h := itT c h
    refine g_iconst hg dX11_worth_35 kI_m1 ?_
    replace h := Option.some.inj h
    subst h
    exact g_iret hg hr dX11_worth_36
theorem lkX11_worth {l0 : Launch} {E : En} {d n : Nat} {Rf : Nat → Nat → Nat} {ex : Bool} {kq : Nat × Nat} (hd : 5 ≤ d) (hn : 239 ≤ n) (hRf : RfOk 1 239 kq Rf) (hkq : isKq kq) {x1 : Int32} {x2 : Int32} {M : Mm} {q : Int32 × Mm} (h : sX11_worth kq x1 x2 M = some q) : Ct l0 E yX11_worth cX11_worth 5 (some .int) d 0 0 [rr E.1 1, .int x1, .int x2] ex n Rf M n Rf (some (.int q.1)) q.2 := by
  obtain ⟨d, rfl⟩ := Nat.exists_eq_add_of_le' hd
  refine Ct.of pnX11 (Nat.le_of_ble_eq_true rfl) (fun g hg hr _ => ?_)
  replace hg : Ok g l0 E cX11_worth RX11 5 (d + 5) 0 0 := hg
  show WG g E 5 n Rf ex 0 0 0 [(0, rr E.1 1), (1, .int x1), (2, .int x2)] [] M
  unfold sX11_worth at h
  refine g_iload_n hg dX11_worth_0 rfl 1 rfl ?_
  refine g_if_lt (tgt := 35) hg dX11_worth_1 (by decide) (fun c => ?_) (fun c => ?_)
  · replace h := itT c h
    refine g_iconst hg dX11_worth_35 kI_m1 ?_
    replace h := Option.some.inj h
    subst h
    exact g_iret hg hr dX11_worth_36
  · replace h := itF c h
    refine g_iload_n hg dX11_worth_4 rfl 1 rfl ?_
    refine g_iconst hg dX11_worth_5 kI_2 ?_
    refine g_icmp_gt (tgt := 35) hg dX11_worth_6 (by decide) (fun c => ?_) (fun c => ?_)
    · replace h := itT c h
      refine g_iconst hg dX11_worth_35 kI_m1 ?_
      replace h := Option.some.inj h
      subst h
      exact g_iret hg hr dX11_worth_36
    · replace h := itF c h
      refine g_iload_n hg dX11_worth_9 rfl 1 rfl ?_
      refine g_iconst hg dX11_worth_10 kI_2 ?_
      refine g_icmp_ne (tgt := 25) hg dX11_worth_11 (by decide) (fun c => ?_) (fun c => ?_)
      · replace h := itF c h
        exact lkX11_worth_25 hn hRf hkq hg hr  _ _ _ h
      · replace h := itT c h
        refine g_iload_n hg dX11_worth_14 rfl 2 rfl ?_
        refine g_if_lt (tgt := 35) hg dX11_worth_15 (by decide) (fun c => ?_) (fun c => ?_)
        · replace h := itT c h
          refine g_iconst hg dX11_worth_35 kI_m1 ?_
          replace h := Option.some.inj h
          subst h
          exact g_iret hg hr dX11_worth_36
        · replace h := itF c h
          refine g_iload_n hg dX11_worth_18 rfl 2 rfl ?_
          refine g_sipush hg dX11_worth_19 kS_1000 ?_
          refine g_icmp_gt (tgt := 35) hg dX11_worth_22 (by decide) (fun c => ?_) (fun c => ?_)
          · replace h := itT c h
            refine g_iconst hg dX11_worth_35 kI_m1 ?_
            replace h := Option.some.inj h
            subst h
            exact g_iret hg hr dX11_worth_36
          · replace h := itF c h
            exact lkX11_worth_25 hn hRf hkq hg hr  _ _ _ h
theorem lkX0_findLatest_71 {g : Gm} {l0 : Launch} {E : En} {d n : Nat} {Rf : Nat → Nat → Nat} {ex : Bool} {kq : Nat × Nat} (hn : 239 ≤ n) (hRf : RfOk 1 239 kq Rf) {r2 : Nat} (hr2 : isKA r2) (hg : Ok g l0 E cX0_findLatest RX0 5 (d + 1) 0 0) {q : Mm} (hr : Ret g E 0 0 none ex n Rf none q) {k20 : Int32 → Int32 → Mm → Option (Mm)} (hk20 : ∀ (x1 : Int32) (x3 : Int32) (M : Mm), k20 x1 x3 M = some q → WG g E 5 n Rf ex 0 0 20 [(0, rr E.1 188), (1, .int x1), (2, rr E.1 r2), (3, .int x3)] [] M) : ∀ (x1 : Int32) (x3 : Int32) (M : Mm), sX0_findLatest_71 r2 k20 x1 x3 M = some q → WG g E 5 n Rf ex 0 0 71 [(0, rr E.1 188), (1, .int x1), (2, rr E.1 r2), (3, .int x3)] [] M := by
  intro x1 x3 M h
  unfold sX0_findLatest_71 at h
  refine g_inc (lv' := [(3, .int (x3 + 1)), (0, rr E.1 188), (1, .int x1), (2, rr E.1 r2)]) hg dX0_findLatest_71 kI_1 3 rfl (by decide) rfl ?_
  refine g_goto (tgt := 20) hg dX0_findLatest_74 (by decide) ?_
  refine g_sub (lv' := [(0, rr E.1 188), (1, .int x1), (2, rr E.1 r2), (3, .int (x3 + 1))]) [1, 2, 3, 0] rfl ?_
  exact hk20 _ _ _ h
theorem lkX0_findLatest_20 {g : Gm} {l0 : Launch} {E : En} {d n : Nat} {Rf : Nat → Nat → Nat} {ex : Bool} {kq : Nat × Nat} (hn : 239 ≤ n) (hRf : RfOk 1 239 kq Rf) {r2 : Nat} (hr2 : isKA r2) (hg : Ok g l0 E cX0_findLatest RX0 5 (d + 1) 0 0) {q : Mm} (hr : Ret g E 0 0 none ex n Rf none q) : ∀ (F : Nat) (x1 : Int32) (x3 : Int32) (M : Mm), sX0_findLatest_20 r2 F x1 x3 M = some q → WG g E 5 n Rf ex 0 0 20 [(0, rr E.1 188), (1, .int x1), (2, rr E.1 r2), (3, .int x3)] [] M := by
  intro F
  induction F with
  | zero =>
    intro x1 x3 M h
    cases h
  | succ F ih =>
    intro x1 x3 M h
    rw [sX0_findLatest_20] at h
    refine g_iload_n hg dX0_findLatest_20 rfl 3 rfl ?_
    refine g_rload_n hg dX0_findLatest_21 rfl 0 rfl ?_
    refine g_getR (r := 34) hg fl_X0_24 ly188 rfl (idb rfl rfl hn) (rfc hRf rfl rfl rfl rfl) (by decide) dX0_findLatest_22 ?_
    refine g_getI hg fl_X0_55 ly34 rfl (idb rfl rfl hn) dX0_findLatest_25 ?_
    refine g_icmp_ge (tgt := 77) hg dX0_findLatest_28 (by decide) (fun c => ?_) (fun c => ?_)
    · replace h := itT c h
      replace h := Option.some.inj h
      subst h
      exact g_vret hg hr dX0_findLatest_77
    · replace h := itF c h
      refine g_rload_n hg dX0_findLatest_31 rfl 0 rfl ?_
      refine g_getR (r := 34) hg fl_X0_24 ly188 rfl (idb rfl rfl hn) (rfc hRf rfl rfl rfl rfl) (by decide) dX0_findLatest_32 ?_
      refine g_getR (r := 35) hg fl_X0_60 ly34 rfl (idb rfl rfl hn) (rfc hRf rfl rfl rfl rfl) (by decide) dX0_findLatest_35 ?_
      refine g_rload_n hg dX0_findLatest_38 rfl 0 rfl ?_
      refine g_getR (r := 34) hg fl_X0_24 ly188 rfl (idb rfl rfl hn) (rfc hRf rfl rfl rfl rfl) (by decide) dX0_findLatest_39 ?_
      refine g_getR (r := 36) hg fl_X0_64 ly34 rfl (idb rfl rfl hn) (rfc hRf rfl rfl rfl rfl) (by decide) dX0_findLatest_42 ?_
      refine g_iload_n hg dX0_findLatest_45 rfl 3 rfl ?_
      obtain ⟨c46, h⟩ := ck_some h
      refine g_iald hg ly36 (idb rfl rfl hn) (inb_vp c46) dX0_findLatest_46 ?_
      obtain ⟨c47, h⟩ := ck_some h
      refine g_aald3 (r := (38 + 2 * (M.1 36 x3.toNatClampNeg).toNatClampNeg)) hg ly35 (idb rfl rfl hn) (inb_vp c47) (nt_rfA (inb_vp c47) hRf) (Nat.lt_of_lt_of_le (by decide) (Nat.le_add_right _ _)) dX0_findLatest_47 ?_
      refine g_rstore (lv' := [(4, rr E.1 (38 + 2 * (M.1 36 x3.toNatClampNeg).toNatClampNeg)), (0, rr E.1 188), (1, .int x1), (2, rr E.1 r2), (3, .int x3)]) hg dX0_findLatest_48 (by decide) rfl ?_
      refine g_rload hg dX0_findLatest_50 0 rfl ?_
      refine g_getI hg fl_X0_67 (nt_lay (nt_of (inb_vp c47))) rfl (nt_bd (nt_of (inb_vp c47)) hn) dX0_findLatest_52 ?_
      refine g_iload_n hg dX0_findLatest_55 rfl 2 rfl ?_
      refine g_icmp_ne (tgt := 71) hg dX0_findLatest_56 (by decide) (fun c => ?_) (fun c => ?_)
      · replace h := itF c h
        refine g_sub (lv' := [(0, rr E.1 188), (1, .int x1), (2, rr E.1 r2), (3, .int x3)]) [1, 2, 3, 4] rfl ?_
        exact lkX0_findLatest_71 hn hRf hr2 hg hr ih _ _ _ h
      · replace h := itT c h
        refine g_rload_n hg dX0_findLatest_59 rfl 3 rfl ?_
        refine g_rload hg dX0_findLatest_60 0 rfl ?_
        refine g_getI hg fl_X0_72 (nt_lay (nt_of (inb_vp c47))) rfl (nt_bd (nt_of (inb_vp c47)) hn) dX0_findLatest_62 ?_
        refine g_rload hg dX0_findLatest_65 0 rfl ?_
        refine g_getI hg fl_X0_75 (nt_lay (nt_of (inb_vp c47))) rfl (nt_bd (nt_of (inb_vp c47)) hn) dX0_findLatest_67 ?_
        obtain ⟨c70, h⟩ := ck_some h
        refine g_iast hg (ka_lay hr2) (ka_bd hr2 hn) (inb_vp c70) dX0_findLatest_70 ?_
        refine g_sub (lv' := [(0, rr E.1 188), (1, .int x1), (2, rr E.1 r2), (3, .int x3)]) [1, 2, 3, 4] rfl ?_
        exact lkX0_findLatest_71 hn hRf hr2 hg hr ih _ _ _ h
theorem lkX0_findLatest_2 {g : Gm} {l0 : Launch} {E : En} {d n : Nat} {Rf : Nat → Nat → Nat} {ex : Bool} {kq : Nat × Nat} (hn : 239 ≤ n) (hRf : RfOk 1 239 kq Rf) {r2 : Nat} (hr2 : isKA r2) (hg : Ok g l0 E cX0_findLatest RX0 5 (d + 1) 0 0) {q : Mm} (hr : Ret g E 0 0 none ex n Rf none q) : ∀ (F : Nat) (x1 : Int32) (x3 : Int32) (M : Mm), sX0_findLatest_2 r2 F x1 x3 M = some q → WG g E 5 n Rf ex 0 0 2 [(0, rr E.1 188), (1, .int x1), (2, rr E.1 r2), (3, .int x3)] [] M := by
  intro F
  induction F with
  | zero =>
    intro x1 x3 M h
    cases h
  | succ F ih =>
    intro x1 x3 M h
    rw [sX0_findLatest_2] at h
    refine g_iload_n hg dX0_findLatest_2 rfl 3 rfl ?_
    refine g_bipush hg dX0_findLatest_3 kB_64 ?_
    refine g_icmp_ge (tgt := 18) hg dX0_findLatest_5 (by decide) (fun c => ?_) (fun c => ?_)
    · replace h := itT c h
      refine g_iconst hg dX0_findLatest_18 kI_0 ?_
      refine g_istore_n (lv' := [(3, .int 0), (0, rr E.1 188), (1, .int x1), (2, rr E.1 r2)]) hg dX0_findLatest_19 rfl (by decide) rfl ?_
      refine g_sub (lv' := [(0, rr E.1 188), (1, .int x1), (2, rr E.1 r2), (3, .int 0)]) [1, 2, 3, 0] rfl ?_
      exact lkX0_findLatest_20 hn hRf hr2 hg hr  4096 _ _ _ h
    · replace h := itF c h
      refine g_rload_n hg dX0_findLatest_8 rfl 2 rfl ?_
      refine g_iload_n hg dX0_findLatest_9 rfl 3 rfl ?_
      refine g_iconst hg dX0_findLatest_10 kI_m1 ?_
      obtain ⟨c11, h⟩ := ck_some h
      refine g_iast hg (ka_lay hr2) (ka_bd hr2 hn) (inb_vp c11) dX0_findLatest_11 ?_
      refine g_inc (lv' := [(3, .int (x3 + 1)), (0, rr E.1 188), (1, .int x1), (2, rr E.1 r2)]) hg dX0_findLatest_12 kI_1 3 rfl (by decide) rfl ?_
      refine g_goto (tgt := 2) hg dX0_findLatest_15 (by decide) ?_
      refine g_sub (lv' := [(0, rr E.1 188), (1, .int x1), (2, rr E.1 r2), (3, .int (x3 + 1))]) [1, 2, 3, 0] rfl ?_
      exact ih _ _ _ h
theorem lkX0_findLatest {l0 : Launch} {E : En} {d n : Nat} {Rf : Nat → Nat → Nat} {ex : Bool} {kq : Nat × Nat} (hd : 1 ≤ d) (hn : 239 ≤ n) (hRf : RfOk 1 239 kq Rf) {r2 : Nat} (hr2 : isKA r2) {x1 : Int32} {M : Mm} {q : Mm} (h : sX0_findLatest r2 x1 M = some q) : Ct l0 E yX0_findLatest cX0_findLatest 5 none d 0 0 [rr E.1 188, .int x1, rr E.1 r2] ex n Rf M n Rf none q := by
  obtain ⟨d, rfl⟩ := Nat.exists_eq_add_of_le' hd
  refine Ct.of pnX0 (Nat.le_of_ble_eq_true rfl) (fun g hg hr _ => ?_)
  replace hg : Ok g l0 E cX0_findLatest RX0 5 (d + 1) 0 0 := hg
  show WG g E 5 n Rf ex 0 0 0 [(0, rr E.1 188), (1, .int x1), (2, rr E.1 r2)] [] M
  unfold sX0_findLatest at h
  refine g_iconst hg dX0_findLatest_0 kI_0 ?_
  refine g_istore_n (lv' := [(3, .int 0), (0, rr E.1 188), (1, .int x1), (2, rr E.1 r2)]) hg dX0_findLatest_1 rfl (by decide) rfl ?_
  refine g_sub (lv' := [(0, rr E.1 188), (1, .int x1), (2, rr E.1 r2), (3, .int 0)]) [1, 2, 3, 0] rfl ?_
  exact lkX0_findLatest_2 hn hRf hr2 hg hr  4096 _ _ _ h
theorem lkX0_countCells_119 {g : Gm} {l0 : Launch} {E : En} {d n : Nat} {Rf : Nat → Nat → Nat} {ex : Bool} {kq : Nat × Nat} (hn : 239 ≤ n) (hRf : RfOk 1 239 kq Rf) (hg : Ok g l0 E cX0_countCells RX0 4 (d + 1) 0 0) {q : Mm} (hr : Ret g E 0 0 none ex n Rf none q) {k40 : Int32 → Mm → Option (Mm)} (hk40 : ∀ (x1 : Int32) (M : Mm), k40 x1 M = some q → WG g E 4 n Rf ex 0 0 40 [(0, rr E.1 188), (1, .int x1)] [] M) : ∀ (x1 : Int32) (M : Mm), sX0_countCells_119 k40 x1 M = some q → WG g E 4 n Rf ex 0 0 119 [(0, rr E.1 188), (1, .int x1)] [] M := by
  intro x1 M h
  unfold sX0_countCells_119 at h
  refine g_inc (lv' := [(1, .int (x1 + 1)), (0, rr E.1 188)]) hg dX0_countCells_119 kI_1 1 rfl (by decide) rfl ?_
  refine g_goto (tgt := 40) hg dX0_countCells_122 (by decide) ?_
  refine g_sub (lv' := [(0, rr E.1 188), (1, .int (x1 + 1))]) [1, 0] rfl ?_
  exact hk40 _ _ h
theorem lkX0_countCells_95 {g : Gm} {l0 : Launch} {E : En} {d n : Nat} {Rf : Nat → Nat → Nat} {ex : Bool} {kq : Nat × Nat} (hn : 239 ≤ n) (hRf : RfOk 1 239 kq Rf) (hg : Ok g l0 E cX0_countCells RX0 4 (d + 1) 0 0) {q : Mm} (hr : Ret g E 0 0 none ex n Rf none q) {k40 : Int32 → Mm → Option (Mm)} (hk40 : ∀ (x1 : Int32) (M : Mm), k40 x1 M = some q → WG g E 4 n Rf ex 0 0 40 [(0, rr E.1 188), (1, .int x1)] [] M) : ∀ (x1 : Int32) (x2 : Int32) (x3 : Int32) (s1 : Int32) (s2 : Int32) (M : Mm), sX0_countCells_95 k40 x1 x2 x3 s1 s2 M = some q → WG g E 4 n Rf ex 0 0 95 [(0, rr E.1 188), (1, .int x1), (2, .int x2), (3, .int x3)] [.int s2, .int s1, rr E.1 188] M := by
  intro x1 x2 x3 s1 s2 M h
  unfold sX0_countCells_95 at h
  refine g_iadd hg dX0_countCells_95 ?_
  refine g_putI hg fp_X0_39 ly188 rfl (idb rfl rfl hn) dX0_countCells_96 ?_
  refine g_rload_n hg dX0_countCells_99 rfl 0 rfl ?_
  refine g_getR (r := 191) hg fl_X0_18 ly188 rfl (idb rfl rfl hn) (rfc hRf rfl rfl rfl rfl) (by decide) dX0_countCells_100 ?_
  refine g_iload_n hg dX0_countCells_103 rfl 2 rfl ?_
  refine g_dup2 hg dX0_countCells_104 rfl rfl ?_
  obtain ⟨c105, h⟩ := ck_some h
  refine g_iald hg ly191 (idb rfl rfl hn) (inb_vp c105) dX0_countCells_105 ?_
  refine g_iconst hg dX0_countCells_106 kI_1 ?_
  refine g_iadd hg dX0_countCells_107 ?_
  obtain ⟨c108, h⟩ := ck_some h
  refine g_iast hg ly191 (idb rfl rfl hn) (inb_vp c108) dX0_countCells_108 ?_
  refine g_rload_n hg dX0_countCells_109 rfl 0 rfl ?_
  refine g_getR (r := 192) hg fl_X0_21 ly188 rfl (idb rfl rfl hn) (rfc hRf rfl rfl rfl rfl) (by decide) dX0_countCells_110 ?_
  refine g_iload_n hg dX0_countCells_113 rfl 3 rfl ?_
  refine g_dup2 hg dX0_countCells_114 rfl rfl ?_
  obtain ⟨c115, h⟩ := ck_some h
  refine g_iald hg ly192 (idb rfl rfl hn) (inb_vp c115) dX0_countCells_115 ?_
  refine g_iconst hg dX0_countCells_116 kI_1 ?_
  refine g_iadd hg dX0_countCells_117 ?_
  obtain ⟨c118, h⟩ := ck_some h
  refine g_iast hg ly192 (idb rfl rfl hn) (inb_vp c118) dX0_countCells_118 ?_
  refine g_sub (lv' := [(0, rr E.1 188), (1, .int x1)]) [0, 1] rfl ?_
  exact lkX0_countCells_119 hn hRf hg hr hk40 _ _ h
theorem lkX0_countCells_40 {g : Gm} {l0 : Launch} {E : En} {d n : Nat} {Rf : Nat → Nat → Nat} {ex : Bool} {kq : Nat × Nat} (hn : 239 ≤ n) (hRf : RfOk 1 239 kq Rf) (hg : Ok g l0 E cX0_countCells RX0 4 (d + 1) 0 0) {q : Mm} (hr : Ret g E 0 0 none ex n Rf none q) : ∀ (F : Nat) (x1 : Int32) (M : Mm), sX0_countCells_40 F x1 M = some q → WG g E 4 n Rf ex 0 0 40 [(0, rr E.1 188), (1, .int x1)] [] M := by
  intro F
  induction F with
  | zero =>
    intro x1 M h
    cases h
  | succ F ih =>
    intro x1 M h
    rw [sX0_countCells_40] at h
    refine g_iload_n hg dX0_countCells_40 rfl 1 rfl ?_
    refine g_bipush hg dX0_countCells_41 kB_64 ?_
    refine g_icmp_ge (tgt := 125) hg dX0_countCells_43 (by decide) (fun c => ?_) (fun c => ?_)
    · replace h := itT c h
      replace h := Option.some.inj h
      subst h
      exact g_vret hg hr dX0_countCells_125
    · replace h := itF c h
      refine g_rload_n hg dX0_countCells_46 rfl 0 rfl ?_
      refine g_getR (r := 189) hg fl_X0_9 ly188 rfl (idb rfl rfl hn) (rfc hRf rfl rfl rfl rfl) (by decide) dX0_countCells_47 ?_
      refine g_iload_n hg dX0_countCells_50 rfl 1 rfl ?_
      obtain ⟨c51, h⟩ := ck_some h
      refine g_iald hg ly189 (idb rfl rfl hn) (inb_vp c51) dX0_countCells_51 ?_
      refine g_istore_n (lv' := [(2, .int (M.1 189 x1.toNatClampNeg)), (0, rr E.1 188), (1, .int x1)]) hg dX0_countCells_52 rfl (by decide) rfl ?_
      refine g_rload_n hg dX0_countCells_53 rfl 1 rfl ?_
      refine g_getR (r := 190) hg fl_X0_15 ly188 rfl (idb rfl rfl hn) (rfc hRf rfl rfl rfl rfl) (by decide) dX0_countCells_54 ?_
      refine g_iload_n hg dX0_countCells_57 rfl 2 rfl ?_
      obtain ⟨c58, h⟩ := ck_some h
      refine g_iald hg ly190 (idb rfl rfl hn) (inb_vp c58) dX0_countCells_58 ?_
      refine g_istore_n (lv' := [(3, .int (M.1 190 x1.toNatClampNeg)), (2, .int (M.1 189 x1.toNatClampNeg)), (0, rr E.1 188), (1, .int x1)]) hg dX0_countCells_59 rfl (by decide) rfl ?_
      refine g_iload_n hg dX0_countCells_60 rfl 1 rfl ?_
      refine g_iconst hg dX0_countCells_61 kI_m1 ?_
      refine g_icmp_eq (tgt := 119) hg dX0_countCells_62 (by decide) (fun c => ?_) (fun c => ?_)
      · replace h := itT c h
        refine g_sub (lv' := [(0, rr E.1 188), (1, .int x1)]) [2, 3] rfl ?_
        exact lkX0_countCells_119 hn hRf hg hr ih _ _ h
      · replace h := itF c h
        refine g_iload_n hg dX0_countCells_65 rfl 0 rfl ?_
        refine g_iconst hg dX0_countCells_66 kI_m1 ?_
        refine g_icmp_eq (tgt := 119) hg dX0_countCells_67 (by decide) (fun c => ?_) (fun c => ?_)
        · replace h := itT c h
          refine g_sub (lv' := [(0, rr E.1 188), (1, .int x1)]) [2, 3] rfl ?_
          exact lkX0_countCells_119 hn hRf hg hr ih _ _ h
        · replace h := itF c h
          refine g_rload_n hg dX0_countCells_70 rfl 2 rfl ?_
          refine g_dup hg dX0_countCells_71 rfl ?_
          refine g_getI hg fl_X0_42 ly188 rfl (idb rfl rfl hn) dX0_countCells_72 ?_
          refine g_iconst hg dX0_countCells_75 kI_1 ?_
          refine g_iadd hg dX0_countCells_76 ?_
          refine g_putI hg fp_X0_42 ly188 rfl (idb rfl rfl hn) dX0_countCells_77 ?_
          refine g_rload_n hg dX0_countCells_80 rfl 2 rfl ?_
          refine g_dup hg dX0_countCells_81 rfl ?_
          refine g_getI hg fl_X0_39 ly188 rfl (idb rfl rfl hn) dX0_countCells_82 ?_
          refine g_iload_n hg dX0_countCells_85 rfl 1 rfl ?_
          refine g_iload_n hg dX0_countCells_86 rfl 0 rfl ?_
          refine g_icmp_ne (tgt := 94) hg dX0_countCells_87 (by decide) (fun c => ?_) (fun c => ?_)
          · rw [if_neg c] at h
            refine g_iconst hg dX0_countCells_94 kI_0 ?_
            refine g_sub (lv' := [(0, rr E.1 188), (1, .int x1), (2, .int (M.1 189 x1.toNatClampNeg)), (3, .int (M.1 190 x1.toNatClampNeg))]) [2, 3, 1, 0] rfl ?_
            exact lkX0_countCells_95 hn hRf hg hr ih _ _ _ _ _ _ h
          · rw [if_pos c] at h
            refine g_iconst hg dX0_countCells_90 kI_1 ?_
            refine g_goto (tgt := 95) hg dX0_countCells_91 (by decide) ?_
            refine g_sub (lv' := [(0, rr E.1 188), (1, .int x1), (2, .int (M.1 189 x1.toNatClampNeg)), (3, .int (M.1 190 x1.toNatClampNeg))]) [2, 3, 1, 0] rfl ?_
            exact lkX0_countCells_95 hn hRf hg hr ih _ _ _ _ _ _ h
theorem lkX0_countCells_12 {g : Gm} {l0 : Launch} {E : En} {d n : Nat} {Rf : Nat → Nat → Nat} {ex : Bool} {kq : Nat × Nat} (hn : 239 ≤ n) (hRf : RfOk 1 239 kq Rf) (hg : Ok g l0 E cX0_countCells RX0 4 (d + 1) 0 0) {q : Mm} (hr : Ret g E 0 0 none ex n Rf none q) : ∀ (F : Nat) (x1 : Int32) (M : Mm), sX0_countCells_12 F x1 M = some q → WG g E 4 n Rf ex 0 0 12 [(0, rr E.1 188), (1, .int x1)] [] M := by
  intro F
  induction F with
  | zero =>
    intro x1 M h
    cases h
  | succ F ih =>
    intro x1 M h
    rw [sX0_countCells_12] at h
    refine g_iload_n hg dX0_countCells_12 rfl 1 rfl ?_
    refine g_bipush hg dX0_countCells_13 kB_8 ?_
    refine g_icmp_ge (tgt := 38) hg dX0_countCells_15 (by decide) (fun c => ?_) (fun c => ?_)
    · replace h := itT c h
      refine g_iconst hg dX0_countCells_38 kI_0 ?_
      refine g_istore_n (lv' := [(1, .int 0), (0, rr E.1 188)]) hg dX0_countCells_39 rfl (by decide) rfl ?_
      refine g_sub (lv' := [(0, rr E.1 188), (1, .int 0)]) [1, 0] rfl ?_
      exact lkX0_countCells_40 hn hRf hg hr  4096 _ _ h
    · replace h := itF c h
      refine g_rload_n hg dX0_countCells_18 rfl 0 rfl ?_
      refine g_getR (r := 191) hg fl_X0_18 ly188 rfl (idb rfl rfl hn) (rfc hRf rfl rfl rfl rfl) (by decide) dX0_countCells_19 ?_
      refine g_iload_n hg dX0_countCells_22 rfl 1 rfl ?_
      refine g_iconst hg dX0_countCells_23 kI_0 ?_
      obtain ⟨c24, h⟩ := ck_some h
      refine g_iast hg ly191 (idb rfl rfl hn) (inb_vp c24) dX0_countCells_24 ?_
      refine g_rload_n hg dX0_countCells_25 rfl 0 rfl ?_
      refine g_getR (r := 192) hg fl_X0_21 ly188 rfl (idb rfl rfl hn) (rfc hRf rfl rfl rfl rfl) (by decide) dX0_countCells_26 ?_
      refine g_iload_n hg dX0_countCells_29 rfl 1 rfl ?_
      refine g_iconst hg dX0_countCells_30 kI_0 ?_
      obtain ⟨c31, h⟩ := ck_some h
      refine g_iast hg ly192 (idb rfl rfl hn) (inb_vp c31) dX0_countCells_31 ?_
      refine g_inc (lv' := [(1, .int (x1 + 1)), (0, rr E.1 188)]) hg dX0_countCells_32 kI_1 1 rfl (by decide) rfl ?_
      refine g_goto (tgt := 12) hg dX0_countCells_35 (by decide) ?_
      refine g_sub (lv' := [(0, rr E.1 188), (1, .int (x1 + 1))]) [1, 0] rfl ?_
      exact ih _ _ h
theorem lkX0_countCells {l0 : Launch} {E : En} {d n : Nat} {Rf : Nat → Nat → Nat} {ex : Bool} {kq : Nat × Nat} (hd : 1 ≤ d) (hn : 239 ≤ n) (hRf : RfOk 1 239 kq Rf)  {M : Mm} {q : Mm} (h : sX0_countCells M = some q) : Ct l0 E yX0_countCells cX0_countCells 4 none d 0 0 [rr E.1 188] ex n Rf M n Rf none q := by
  obtain ⟨d, rfl⟩ := Nat.exists_eq_add_of_le' hd
  refine Ct.of pnX0 (Nat.le_of_ble_eq_true rfl) (fun g hg hr _ => ?_)
  replace hg : Ok g l0 E cX0_countCells RX0 4 (d + 1) 0 0 := hg
  show WG g E 4 n Rf ex 0 0 0 [(0, rr E.1 188)] [] M
  unfold sX0_countCells at h
  refine g_rload_n hg dX0_countCells_0 rfl 0 rfl ?_
  refine g_iconst hg dX0_countCells_1 kI_0 ?_
  refine g_putI hg fp_X0_42 ly188 rfl (idb rfl rfl hn) dX0_countCells_2 ?_
  refine g_rload_n hg dX0_countCells_5 rfl 0 rfl ?_
  refine g_iconst hg dX0_countCells_6 kI_0 ?_
  refine g_putI hg fp_X0_39 ly188 rfl (idb rfl rfl hn) dX0_countCells_7 ?_
  refine g_iconst hg dX0_countCells_10 kI_0 ?_
  refine g_istore_n (lv' := [(1, .int 0), (0, rr E.1 188)]) hg dX0_countCells_11 rfl (by decide) rfl ?_
  refine g_sub (lv' := [(0, rr E.1 188), (1, .int 0)]) [1, 0] rfl ?_
  exact lkX0_countCells_12 hn hRf hg hr  4096 _ _ h
theorem lkX0_greatestDivisor_13 {g : Gm} {l0 : Launch} {E : En} {d n : Nat} {Rf : Nat → Nat → Nat} {ex : Bool} {kq : Nat × Nat} (hn : 239 ≤ n) (hRf : RfOk 1 239 kq Rf) (hg : Ok g l0 E cX0_greatestDivisor RX0 6 (d + 1) 0 0) {q : Int32 × Mm} (hr : Ret g E 0 0 (some .int) ex n Rf (some (.int q.1)) q.2) : ∀ (F : Nat) (x2 : Int32) (x3 : Int32) (x4 : Int32) (M : Mm), sX0_greatestDivisor_13 F x2 x3 x4 M = some q → WG g E 6 n Rf ex 0 0 13 [(2, .int x2), (3, .int x3), (4, .int x4)] [] M := by
  intro F
  induction F with
  | zero =>
    intro x2 x3 x4 M h
    cases h
  | succ F ih =>
    intro x2 x3 x4 M h
    rw [sX0_greatestDivisor_13] at h
    refine g_iload hg dX0_greatestDivisor_13 2 rfl ?_
    refine g_bipush hg dX0_greatestDivisor_15 kB_64 ?_
    refine g_icmp_ge (tgt := 40) hg dX0_greatestDivisor_17 (by decide) (fun c => ?_) (fun c => ?_)
    · replace h := itT c h
      refine g_iload_n hg dX0_greatestDivisor_40 rfl 0 rfl ?_
      replace h := Option.some.inj h
      subst h
      exact g_iret hg hr dX0_greatestDivisor_41
    · replace h := itF c h
      refine g_iload_n hg dX0_greatestDivisor_20 rfl 1 rfl ?_
      refine g_if_eq (tgt := 40) hg dX0_greatestDivisor_21 (by decide) (fun c => ?_) (fun c => ?_)
      · replace h := itT c h
        refine g_iload_n hg dX0_greatestDivisor_40 rfl 0 rfl ?_
        replace h := Option.some.inj h
        subst h
        exact g_iret hg hr dX0_greatestDivisor_41
      · replace h := itF c h
        refine g_iload_n hg dX0_greatestDivisor_24 rfl 0 rfl ?_
        refine g_iload_n hg dX0_greatestDivisor_25 rfl 1 rfl ?_
        obtain ⟨c26, h⟩ := ck_some h
        refine g_irem hg dX0_greatestDivisor_26 (nz_ne c26) ?_
        refine g_istore (lv' := [(5, .int (x2 - x2 / x3 * x3)), (2, .int x2), (3, .int x3), (4, .int x4)]) hg dX0_greatestDivisor_27 (by decide) rfl ?_
        refine g_iload_n hg dX0_greatestDivisor_29 rfl 2 rfl ?_
        refine g_istore_n (lv' := [(2, .int x3), (5, .int (x2 - x2 / x3 * x3)), (3, .int x3), (4, .int x4)]) hg dX0_greatestDivisor_30 rfl (by decide) rfl ?_
        refine g_iload hg dX0_greatestDivisor_31 1 rfl ?_
        refine g_istore_n (lv' := [(3, .int (x2 - x2 / x3 * x3)), (2, .int x3), (5, .int (x2 - x2 / x3 * x3)), (4, .int x4)]) hg dX0_greatestDivisor_33 rfl (by decide) rfl ?_
        refine g_inc (lv' := [(4, .int (x4 + 1)), (3, .int (x2 - x2 / x3 * x3)), (2, .int x3), (5, .int (x2 - x2 / x3 * x3))]) hg dX0_greatestDivisor_34 kI_1 3 rfl (by decide) rfl ?_
        refine g_goto (tgt := 13) hg dX0_greatestDivisor_37 (by decide) ?_
        refine g_sub (lv' := [(2, .int x3), (3, .int (x2 - x2 / x3 * x3)), (4, .int (x4 + 1))]) [2, 1, 0] rfl ?_
        exact ih _ _ _ _ h
theorem lkX0_greatestDivisor {l0 : Launch} {E : En} {d n : Nat} {Rf : Nat → Nat → Nat} {ex : Bool} {kq : Nat × Nat} (hd : 1 ≤ d) (hn : 239 ≤ n) (hRf : RfOk 1 239 kq Rf) {x0 : Int32} {x1 : Int32} {M : Mm} {q : Int32 × Mm} (h : sX0_greatestDivisor x0 x1 M = some q) : Ct l0 E yX0_greatestDivisor cX0_greatestDivisor 6 (some .int) d 0 0 [.int x0, .int x1] ex n Rf M n Rf (some (.int q.1)) q.2 := by
  obtain ⟨d, rfl⟩ := Nat.exists_eq_add_of_le' hd
  refine Ct.of pnX0 (Nat.le_of_ble_eq_true rfl) (fun g hg hr _ => ?_)
  replace hg : Ok g l0 E cX0_greatestDivisor RX0 6 (d + 1) 0 0 := hg
  show WG g E 6 n Rf ex 0 0 0 [(0, .int x0), (1, .int x1)] [] M
  unfold sX0_greatestDivisor at h
  refine g_iload_n hg dX0_greatestDivisor_0 rfl 0 rfl ?_
  refine g_mabs hg mw_X0_78 (Nat.le_of_ble_eq_true rfl) ⟨Nat.le_refl _, Nat.le_refl _⟩ dX0_greatestDivisor_1 ?_
  refine g_istore_n (lv' := [(2, .int (if 0 ≤ x0 then x0 else 0 - x0)), (0, .int x0), (1, .int x1)]) hg dX0_greatestDivisor_4 rfl (by decide) rfl ?_
  refine g_iload_n hg dX0_greatestDivisor_5 rfl 2 rfl ?_
  refine g_mabs hg mw_X0_78 (Nat.le_of_ble_eq_true rfl) ⟨Nat.le_refl _, Nat.le_refl _⟩ dX0_greatestDivisor_6 ?_
  refine g_istore_n (lv' := [(3, .int (if 0 ≤ x1 then x1 else 0 - x1)), (2, .int (if 0 ≤ x0 then x0 else 0 - x0)), (0, .int x0), (1, .int x1)]) hg dX0_greatestDivisor_9 rfl (by decide) rfl ?_
  refine g_iconst hg dX0_greatestDivisor_10 kI_0 ?_
  refine g_istore (lv' := [(4, .int 0), (3, .int (if 0 ≤ x1 then x1 else 0 - x1)), (2, .int (if 0 ≤ x0 then x0 else 0 - x0)), (0, .int x0), (1, .int x1)]) hg dX0_greatestDivisor_11 (by decide) rfl ?_
  refine g_sub (lv' := [(2, .int (if 0 ≤ x0 then x0 else 0 - x0)), (3, .int (if 0 ≤ x1 then x1 else 0 - x1)), (4, .int 0)]) [2, 1, 0] rfl ?_
  exact lkX0_greatestDivisor_13 hn hRf hg hr  4096 _ _ _ _ h
theorem lkX0_compare_148 {g : Gm} {l0 : Launch} {E : En} {d n : Nat} {Rf : Nat → Nat → Nat} {ex : Bool} {kq : Nat × Nat} (hn : 239 ≤ n) (hRf : RfOk 1 239 kq Rf) (hg : Ok g l0 E cX0_compare RX0 4 (d + 2) 0 0) {q : Mm} (hr : Ret g E 0 0 none ex n Rf none q) : ∀ (s1 : Int32) (M : Mm), sX0_compare_148 s1 M = some q → WG g E 4 n Rf ex 0 0 148 [] [.int s1, rr E.1 188] M := by
  intro s1 M h
  unfold sX0_compare_148 at h
  refine g_putI hg fp_X0_52 ly188 rfl (idb rfl rfl hn) dX0_compare_148 ?_
  replace h := Option.some.inj h
  subst h
  exact g_vret hg hr dX0_compare_151
theorem lkX0_compare_120 {g : Gm} {l0 : Launch} {E : En} {d n : Nat} {Rf : Nat → Nat → Nat} {ex : Bool} {kq : Nat × Nat} (hn : 239 ≤ n) (hRf : RfOk 1 239 kq Rf) (hg : Ok g l0 E cX0_compare RX0 4 (d + 2) 0 0) {q : Mm} (hr : Ret g E 0 0 none ex n Rf none q) : ∀ (x3 : Int32) (s1 : Int32) (M : Mm), sX0_compare_120 x3 s1 M = some q → WG g E 4 n Rf ex 0 0 120 [(0, rr E.1 188), (3, .int x3)] [.int s1, rr E.1 188] M := by
  intro x3 s1 M h
  unfold sX0_compare_120 at h
  refine g_putI hg fp_X0_49 ly188 rfl (idb rfl rfl hn) dX0_compare_120 ?_
  refine g_rload_n hg dX0_compare_123 rfl 0 rfl ?_
  refine g_iload_n hg dX0_compare_124 rfl 1 rfl ?_
  refine g_if_le (tgt := 147) hg dX0_compare_125 (by decide) (fun c => ?_) (fun c => ?_)
  · replace h := itT c h
    refine g_iconst hg dX0_compare_147 kI_0 ?_
    refine g_sub (lv' := []) [] rfl ?_
    exact lkX0_compare_148 hn hRf hg hr  _ _ h
  · replace h := itF c h
    refine g_rload_n hg dX0_compare_128 rfl 0 rfl ?_
    refine g_getI hg fl_X0_42 ly188 rfl (idb rfl rfl hn) dX0_compare_129 ?_
    refine g_rload_n hg dX0_compare_132 rfl 0 rfl ?_
    refine g_getI hg fl_X0_42 ly188 rfl (idb rfl rfl hn) dX0_compare_133 ?_
    refine g_imul hg dX0_compare_136 ?_
    refine g_rload_n hg dX0_compare_137 rfl 0 rfl ?_
    refine g_getI hg fl_X0_35 ly188 rfl (idb rfl rfl hn) dX0_compare_138 ?_
    refine g_isub hg dX0_compare_141 ?_
    refine g_iload_n hg dX0_compare_142 rfl 1 rfl ?_
    obtain ⟨c143, h⟩ := ck_some h
    refine g_idiv hg dX0_compare_143 (nz_ne c143) ?_
    refine g_goto (tgt := 148) hg dX0_compare_144 (by decide) ?_
    refine g_sub (lv' := []) [] rfl ?_
    exact lkX0_compare_148 hn hRf hg hr  _ _ h
theorem lkX0_compare_29 {g : Gm} {l0 : Launch} {E : En} {d n : Nat} {Rf : Nat → Nat → Nat} {ex : Bool} {kq : Nat × Nat} (hn : 239 ≤ n) (hRf : RfOk 1 239 kq Rf) (hg : Ok g l0 E cX0_compare RX0 4 (d + 2) 0 0) {q : Mm} (hr : Ret g E 0 0 none ex n Rf none q) : ∀ (F : Nat) (x3 : Int32) (M : Mm), sX0_compare_29 F x3 M = some q → WG g E 4 n Rf ex 0 0 29 [(0, rr E.1 188), (3, .int x3)] [] M := by
  intro F
  induction F with
  | zero =>
    intro x3 M h
    cases h
  | succ F ih =>
    intro x3 M h
    rw [sX0_compare_29] at h
    refine g_iload_n hg dX0_compare_29 rfl 1 rfl ?_
    refine g_bipush hg dX0_compare_30 kB_8 ?_
    refine g_icmp_ge (tgt := 63) hg dX0_compare_32 (by decide) (fun c => ?_) (fun c => ?_)
    · replace h := itT c h
      refine g_rload_n hg dX0_compare_63 rfl 0 rfl ?_
      refine g_getI hg fl_X0_39 ly188 rfl (idb rfl rfl hn) dX0_compare_64 ?_
      refine g_rload_n hg dX0_compare_67 rfl 0 rfl ?_
      refine g_getI hg fl_X0_42 ly188 rfl (idb rfl rfl hn) dX0_compare_68 ?_
      refine g_imul hg dX0_compare_71 ?_
      refine g_rload_n hg dX0_compare_72 rfl 0 rfl ?_
      refine g_getI hg fl_X0_35 ly188 rfl (idb rfl rfl hn) dX0_compare_73 ?_
      refine g_isub hg dX0_compare_76 ?_
      refine g_rload_n hg dX0_compare_77 rfl 0 rfl ?_
      refine g_getI hg fl_X0_42 ly188 rfl (idb rfl rfl hn) dX0_compare_78 ?_
      refine g_rload_n hg dX0_compare_81 rfl 0 rfl ?_
      refine g_getI hg fl_X0_42 ly188 rfl (idb rfl rfl hn) dX0_compare_82 ?_
      refine g_imul hg dX0_compare_85 ?_
      refine g_rload_n hg dX0_compare_86 rfl 0 rfl ?_
      refine g_getI hg fl_X0_35 ly188 rfl (idb rfl rfl hn) dX0_compare_87 ?_
      refine g_isub hg dX0_compare_90 ?_
      obtain ⟨q91, e91, h⟩ := Option.bind_eq_some_iff.mp h
      refine g_callSi (As := [.int (((M.1 188 6) * (M.1 188 5)) - (M.1 188 7)), .int (((M.1 188 5) * (M.1 188 5)) - (M.1 188 7))]) (rest := []) hg (lkX0_greatestDivisor (by omega) hn hRf  e91) cs_X0_45 rfl rfl (Nat.le_of_ble_eq_true rfl) ⟨Nat.le_refl _, Nat.le_refl _⟩ dX0_compare_91 ?_
      refine g_istore_n (lv' := [(3, .int q91.1), (0, rr E.1 188)]) hg dX0_compare_94 rfl (by decide) rfl ?_
      refine g_rload_n hg dX0_compare_95 rfl 1 rfl ?_
      refine g_iload_n hg dX0_compare_96 rfl 0 rfl ?_
      refine g_if_le (tgt := 119) hg dX0_compare_97 (by decide) (fun c => ?_) (fun c => ?_)
      · replace h := itT c h
        refine g_iconst hg dX0_compare_119 kI_0 ?_
        refine g_sub (lv' := [(0, rr E.1 188), (3, .int q91.1)]) [1, 0] rfl ?_
        exact lkX0_compare_120 hn hRf hg hr  _ _ _ h
      · replace h := itF c h
        refine g_rload_n hg dX0_compare_100 rfl 1 rfl ?_
        refine g_getI hg fl_X0_39 ly188 rfl (idb rfl rfl hn) dX0_compare_101 ?_
        refine g_rload_n hg dX0_compare_104 rfl 1 rfl ?_
        refine g_getI hg fl_X0_42 ly188 rfl (idb rfl rfl hn) dX0_compare_105 ?_
        refine g_imul hg dX0_compare_108 ?_
        refine g_rload_n hg dX0_compare_109 rfl 1 rfl ?_
        refine g_getI hg fl_X0_35 ly188 rfl (idb rfl rfl hn) dX0_compare_110 ?_
        refine g_isub hg dX0_compare_113 ?_
        refine g_iload_n hg dX0_compare_114 rfl 0 rfl ?_
        obtain ⟨c115, h⟩ := ck_some h
        refine g_idiv hg dX0_compare_115 (nz_ne c115) ?_
        refine g_goto (tgt := 120) hg dX0_compare_116 (by decide) ?_
        refine g_sub (lv' := [(0, rr E.1 188), (3, .int q91.1)]) [1, 0] rfl ?_
        exact lkX0_compare_120 hn hRf hg hr  _ _ _ h
    · replace h := itF c h
      refine g_rload_n hg dX0_compare_35 rfl 0 rfl ?_
      refine g_dup hg dX0_compare_36 rfl ?_
      refine g_getI hg fl_X0_35 ly188 rfl (idb rfl rfl hn) dX0_compare_37 ?_
      refine g_rload_n hg dX0_compare_40 rfl 0 rfl ?_
      refine g_getR (r := 191) hg fl_X0_18 ly188 rfl (idb rfl rfl hn) (rfc hRf rfl rfl rfl rfl) (by decide) dX0_compare_41 ?_
      refine g_iload_n hg dX0_compare_44 rfl 1 rfl ?_
      obtain ⟨c45, h⟩ := ck_some h
      refine g_iald hg ly191 (idb rfl rfl hn) (inb_vp c45) dX0_compare_45 ?_
      refine g_rload_n hg dX0_compare_46 rfl 0 rfl ?_
      refine g_getR (r := 192) hg fl_X0_21 ly188 rfl (idb rfl rfl hn) (rfc hRf rfl rfl rfl rfl) (by decide) dX0_compare_47 ?_
      refine g_iload_n hg dX0_compare_50 rfl 1 rfl ?_
      obtain ⟨c51, h⟩ := ck_some h
      refine g_iald hg ly192 (idb rfl rfl hn) (inb_vp c51) dX0_compare_51 ?_
      refine g_imul hg dX0_compare_52 ?_
      refine g_iadd hg dX0_compare_53 ?_
      refine g_putI hg fp_X0_35 ly188 rfl (idb rfl rfl hn) dX0_compare_54 ?_
      refine g_inc (lv' := [(3, .int (x3 + 1)), (0, rr E.1 188)]) hg dX0_compare_57 kI_1 1 rfl (by decide) rfl ?_
      refine g_goto (tgt := 29) hg dX0_compare_60 (by decide) ?_
      refine g_sub (lv' := [(0, rr E.1 188), (3, .int (x3 + 1))]) [1, 0] rfl ?_
      exact ih _ _ h
theorem lkX0_compare {l0 : Launch} {E : En} {d n : Nat} {Rf : Nat → Nat → Nat} {ex : Bool} {kq : Nat × Nat} (hd : 2 ≤ d) (hn : 239 ≤ n) (hRf : RfOk 1 239 kq Rf) {x1 : Int32} {x2 : Int32} {M : Mm} {q : Mm} (h : sX0_compare x1 x2 M = some q) : Ct l0 E yX0_compare cX0_compare 4 none d 0 0 [rr E.1 188, .int x1, .int x2] ex n Rf M n Rf none q := by
  obtain ⟨d, rfl⟩ := Nat.exists_eq_add_of_le' hd
  refine Ct.of pnX0 (Nat.le_of_ble_eq_true rfl) (fun g hg hr _ => ?_)
  replace hg : Ok g l0 E cX0_compare RX0 4 (d + 2) 0 0 := hg
  show WG g E 4 n Rf ex 0 0 0 [(0, rr E.1 188), (1, .int x1), (2, .int x2)] [] M
  unfold sX0_compare at h
  refine g_rload_n hg dX0_compare_0 rfl 0 rfl ?_
  refine g_iload_n hg dX0_compare_1 rfl 1 rfl ?_
  refine g_rload_n hg dX0_compare_2 rfl 0 rfl ?_
  refine g_getR (r := 189) hg fl_X0_9 ly188 rfl (idb rfl rfl hn) (rfc hRf rfl rfl rfl rfl) (by decide) dX0_compare_3 ?_
  obtain ⟨M6, e6, h⟩ := Option.bind_eq_some_iff.mp h
  refine g_callVv (As := [.int x1, rr E.1 189]) (rest := []) hg (lkX0_findLatest (by omega) hn hRf (Or.inl rfl) e6) cv_X0_28 rfl ly188 (idb rfl rfl hn) rfl rfl (Nat.le_of_ble_eq_true rfl) ⟨Nat.le_refl _, Nat.le_refl _⟩ dX0_compare_6 ?_
  refine g_rload_n hg dX0_compare_9 rfl 0 rfl ?_
  refine g_iload_n hg dX0_compare_10 rfl 2 rfl ?_
  refine g_rload_n hg dX0_compare_11 rfl 0 rfl ?_
  refine g_getR (r := 190) hg fl_X0_15 ly188 rfl (idb rfl rfl hn) (rfc hRf rfl rfl rfl rfl) (by decide) dX0_compare_12 ?_
  obtain ⟨M15, e15, h⟩ := Option.bind_eq_some_iff.mp h
  refine g_callVv (As := [.int x2, rr E.1 190]) (rest := []) hg (lkX0_findLatest (by omega) hn hRf (Or.inr rfl) e15) cv_X0_28 rfl ly188 (idb rfl rfl hn) rfl rfl (Nat.le_of_ble_eq_true rfl) ⟨Nat.le_refl _, Nat.le_refl _⟩ dX0_compare_15 ?_
  refine g_rload_n hg dX0_compare_18 rfl 0 rfl ?_
  obtain ⟨M19, e19, h⟩ := Option.bind_eq_some_iff.mp h
  refine g_callVv (As := []) (rest := []) hg (lkX0_countCells (by omega) hn hRf  e19) cv_X0_32 rfl ly188 (idb rfl rfl hn) rfl rfl (Nat.le_of_ble_eq_true rfl) ⟨Nat.le_refl _, Nat.le_refl _⟩ dX0_compare_19 ?_
  refine g_rload_n hg dX0_compare_22 rfl 0 rfl ?_
  refine g_iconst hg dX0_compare_23 kI_0 ?_
  refine g_putI hg fp_X0_35 ly188 rfl (idb rfl rfl hn) dX0_compare_24 ?_
  refine g_iconst hg dX0_compare_27 kI_0 ?_
  refine g_istore_n (lv' := [(3, .int 0), (0, rr E.1 188), (1, .int x1), (2, .int x2)]) hg dX0_compare_28 rfl (by decide) rfl ?_
  refine g_sub (lv' := [(0, rr E.1 188), (3, .int 0)]) [1, 0] rfl ?_
  exact lkX0_compare_29 hn hRf hg hr  4096 _ _ h
theorem lkX11_hands {l0 : Launch} {E : En} {d n : Nat} {Rf : Nat → Nat → Nat} {ex : Bool} {kq : Nat × Nat} (hd : 3 ≤ d) (hn : 239 ≤ n) (hRf : RfOk 1 239 kq Rf) {x1 : Int32} {x2 : Int32} {x3 : Int32} {M : Mm} {q : Int32 × Mm} (h : sX11_hands x1 x2 x3 M = some q) : Ct l0 E yX11_hands cX11_hands 4 (some .int) d 0 0 [rr E.1 1, .int x1, .int x2, .int x3] ex n Rf M n Rf (some (.int q.1)) q.2 := by
  obtain ⟨d, rfl⟩ := Nat.exists_eq_add_of_le' hd
  refine Ct.of pnX11 (Nat.le_of_ble_eq_true rfl) (fun g hg hr _ => ?_)
  replace hg : Ok g l0 E cX11_hands RX11 4 (d + 3) 0 0 := hg
  show WG g E 4 n Rf ex 0 0 0 [(0, rr E.1 1), (1, .int x1), (2, .int x2), (3, .int x3)] [] M
  unfold sX11_hands at h
  refine g_iload_n hg dX11_hands_0 rfl 1 rfl ?_
  obtain ⟨q1, e1, h⟩ := Option.bind_eq_some_iff.mp h
  refine g_callSi (As := [.int x1]) (rest := []) hg (lkX11_isHand (by omega) hn hRf  e1) cs_X11_138 rfl rfl (Nat.le_of_ble_eq_true rfl) ⟨Nat.le_refl _, Nat.le_refl _⟩ dX11_hands_1 ?_
  refine g_if_eq (tgt := 28) hg dX11_hands_4 (by decide) (fun c => ?_) (fun c => ?_)
  · replace h := itT c h
    refine g_ldcw hg dX11_hands_28 w5_135 ?_
    replace h := Option.some.inj h
    subst h
    exact g_iret hg hr dX11_hands_31
  · replace h := itF c h
    refine g_iload_n hg dX11_hands_7 rfl 2 rfl ?_
    obtain ⟨q8, e8, h⟩ := Option.bind_eq_some_iff.mp h
    refine g_callSi (As := [.int x2]) (rest := []) hg (lkX11_isHand (by omega) hn hRf  e8) cs_X11_138 rfl rfl (Nat.le_of_ble_eq_true rfl) ⟨Nat.le_refl _, Nat.le_refl _⟩ dX11_hands_8 ?_
    refine g_if_eq (tgt := 28) hg dX11_hands_11 (by decide) (fun c => ?_) (fun c => ?_)
    · replace h := itT c h
      refine g_ldcw hg dX11_hands_28 w5_135 ?_
      replace h := Option.some.inj h
      subst h
      exact g_iret hg hr dX11_hands_31
    · replace h := itF c h
      refine g_iload_n hg dX11_hands_14 rfl 1 rfl ?_
      refine g_iload_n hg dX11_hands_15 rfl 2 rfl ?_
      refine g_icmp_eq (tgt := 28) hg dX11_hands_16 (by decide) (fun c => ?_) (fun c => ?_)
      · replace h := itT c h
        refine g_ldcw hg dX11_hands_28 w5_135 ?_
        replace h := Option.some.inj h
        subst h
        exact g_iret hg hr dX11_hands_31
      · replace h := itF c h
        refine g_iload_n hg dX11_hands_19 rfl 3 rfl ?_
        refine g_if_lt (tgt := 28) hg dX11_hands_20 (by decide) (fun c => ?_) (fun c => ?_)
        · replace h := itT c h
          refine g_ldcw hg dX11_hands_28 w5_135 ?_
          replace h := Option.some.inj h
          subst h
          exact g_iret hg hr dX11_hands_31
        · replace h := itF c h
          refine g_iload_n hg dX11_hands_23 rfl 3 rfl ?_
          refine g_iconst hg dX11_hands_24 kI_4 ?_
          refine g_icmp_le (tgt := 32) hg dX11_hands_25 (by decide) (fun c => ?_) (fun c => ?_)
          · replace h := itT c h
            refine g_rload_n hg dX11_hands_32 rfl 0 rfl ?_
            refine g_getR (r := 34) hg fl_X11_52 ly1 rfl (idb rfl rfl hn) (rfc hRf rfl rfl rfl rfl) (by decide) dX11_hands_33 ?_
            refine g_rload_n hg dX11_hands_36 rfl 0 rfl ?_
            refine g_getR (r := 34) hg fl_X11_52 ly1 rfl (idb rfl rfl hn) (rfc hRf rfl rfl rfl rfl) (by decide) dX11_hands_37 ?_
            refine g_getI hg fl_X11_145 ly34 rfl (idb rfl rfl hn) dX11_hands_40 ?_
            obtain ⟨M43, e43, h⟩ := Option.bind_eq_some_iff.mp h
            refine g_callVv (As := [.int (q8.2.1 34 1)]) (rest := []) hg (lkX1_gather (by omega) hn hRf  e43) cv_X11_250 rfl ly34 (idb rfl rfl hn) rfl rfl (Nat.le_of_ble_eq_true rfl) ⟨Nat.le_refl _, Nat.le_refl _⟩ dX11_hands_43 ?_
            refine g_rload_n hg dX11_hands_46 rfl 0 rfl ?_
            refine g_getR (r := 188) hg fl_X11_97 ly1 rfl (idb rfl rfl hn) (rfc hRf rfl rfl rfl rfl) (by decide) dX11_hands_47 ?_
            refine g_iload_n hg dX11_hands_50 rfl 1 rfl ?_
            refine g_iload_n hg dX11_hands_51 rfl 2 rfl ?_
            obtain ⟨M52, e52, h⟩ := Option.bind_eq_some_iff.mp h
            refine g_callVv (As := [.int x1, .int x2]) (rest := []) hg (lkX0_compare (by omega) hn hRf  e52) cv_X11_337 rfl ly188 (idb rfl rfl hn) rfl rfl (Nat.le_of_ble_eq_true rfl) ⟨Nat.le_refl _, Nat.le_refl _⟩ dX11_hands_52 ?_
            refine g_iload_n hg dX11_hands_55 rfl 3 rfl ?_
            by_cases c0w : x3 = 0
            · replace h := itT c0w h
              refine g_tabI (tgt := 88) (off := 32) hg dX11_hands_56 c0w (by decide) (by decide) ?_
              refine g_rload_n hg dX11_hands_88 rfl 0 rfl ?_
              refine g_getR (r := 188) hg fl_X11_97 ly1 rfl (idb rfl rfl hn) (rfc hRf rfl rfl rfl rfl) (by decide) dX11_hands_89 ?_
              refine g_getI hg fl_X11_340 ly188 rfl (idb rfl rfl hn) dX11_hands_92 ?_
              replace h := Option.some.inj h
              subst h
              exact g_iret hg hr dX11_hands_95
            replace h := itF c0w h
            by_cases c1w : x3 = 1
            · replace h := itT c1w h
              refine g_tabI (tgt := 96) (off := 40) hg dX11_hands_56 c1w (by decide) (by decide) ?_
              refine g_rload_n hg dX11_hands_96 rfl 0 rfl ?_
              refine g_getR (r := 188) hg fl_X11_97 ly1 rfl (idb rfl rfl hn) (rfc hRf rfl rfl rfl rfl) (by decide) dX11_hands_97 ?_
              refine g_getI hg fl_X11_343 ly188 rfl (idb rfl rfl hn) dX11_hands_100 ?_
              replace h := Option.some.inj h
              subst h
              exact g_iret hg hr dX11_hands_103
            replace h := itF c1w h
            by_cases c2w : x3 = 2
            · replace h := itT c2w h
              refine g_tabI (tgt := 104) (off := 48) hg dX11_hands_56 c2w (by decide) (by decide) ?_
              refine g_rload_n hg dX11_hands_104 rfl 0 rfl ?_
              refine g_getR (r := 188) hg fl_X11_97 ly1 rfl (idb rfl rfl hn) (rfc hRf rfl rfl rfl rfl) (by decide) dX11_hands_105 ?_
              refine g_getI hg fl_X11_346 ly188 rfl (idb rfl rfl hn) dX11_hands_108 ?_
              replace h := Option.some.inj h
              subst h
              exact g_iret hg hr dX11_hands_111
            replace h := itF c2w h
            by_cases c3w : x3 = 3
            · replace h := itT c3w h
              refine g_tabI (tgt := 112) (off := 56) hg dX11_hands_56 c3w (by decide) (by decide) ?_
              refine g_rload_n hg dX11_hands_112 rfl 0 rfl ?_
              refine g_getR (r := 188) hg fl_X11_97 ly1 rfl (idb rfl rfl hn) (rfc hRf rfl rfl rfl rfl) (by decide) dX11_hands_113 ?_
              refine g_getI hg fl_X11_349 ly188 rfl (idb rfl rfl hn) dX11_hands_116 ?_
              replace h := Option.some.inj h
              subst h
              exact g_iret hg hr dX11_hands_119
            replace h := itF c3w h
            refine g_tabO (tgt := 120) hg dX11_hands_56 (by have e0w := lv_neT (a := 0) c0w (by decide); have e1w := lv_neT (a := 1) c1w (by decide); have e2w := lv_neT (a := 2) c2w (by decide); have e3w := lv_neT (a := 3) c3w (by decide); omega) (by decide) ?_
            refine g_rload_n hg dX11_hands_120 rfl 0 rfl ?_
            refine g_getR (r := 188) hg fl_X11_97 ly1 rfl (idb rfl rfl hn) (rfc hRf rfl rfl rfl rfl) (by decide) dX11_hands_121 ?_
            refine g_getI hg fl_X11_352 ly188 rfl (idb rfl rfl hn) dX11_hands_124 ?_
            replace h := Option.some.inj h
            subst h
            exact g_iret hg hr dX11_hands_127
          · replace h := itF c h
            refine g_ldcw hg dX11_hands_28 w5_135 ?_
            replace h := Option.some.inj h
            subst h
            exact g_iret hg hr dX11_hands_31
theorem lkX11_count {l0 : Launch} {E : En} {d n : Nat} {Rf : Nat → Nat → Nat} {ex : Bool} {kq : Nat × Nat} (hd : 3 ≤ d) (hn : 239 ≤ n) (hRf : RfOk 1 239 kq Rf) (hkq : isKq kq) {x1 : Int32} {M : Mm} {q : Int32 × Mm} (h : sX11_count kq x1 M = some q) : Ct l0 E yX11_count cX11_count 2 (some .int) d 0 0 [rr E.1 1, .int x1] ex n Rf M n Rf (some (.int q.1)) q.2 := by
  obtain ⟨d, rfl⟩ := Nat.exists_eq_add_of_le' hd
  refine Ct.of pnX11 (Nat.le_of_ble_eq_true rfl) (fun g hg hr _ => ?_)
  replace hg : Ok g l0 E cX11_count RX11 2 (d + 3) 0 0 := hg
  show WG g E 2 n Rf ex 0 0 0 [(0, rr E.1 1), (1, .int x1)] [] M
  unfold sX11_count at h
  refine g_iload_n hg dX11_count_0 rfl 1 rfl ?_
  by_cases c0w : x1 = 0
  · replace h := itT c0w h
    refine g_tabI (tgt := 44) (off := 43) hg dX11_count_1 c0w (by decide) (by decide) ?_
    refine g_rload_n hg dX11_count_44 rfl 0 rfl ?_
    refine g_getR (r := 22) hg fl_X11_45 ly1 rfl (idb rfl rfl hn) (rfc hRf rfl rfl rfl rfl) (by decide) dX11_count_45 ?_
    refine g_getI hg fl_X11_282 ly22 rfl (idb rfl rfl hn) dX11_count_48 ?_
    replace h := Option.some.inj h
    subst h
    exact g_iret hg hr dX11_count_51
  replace h := itF c0w h
  by_cases c1w : x1 = 1
  · replace h := itT c1w h
    refine g_tabI (tgt := 52) (off := 51) hg dX11_count_1 c1w (by decide) (by decide) ?_
    refine g_rload_n hg dX11_count_52 rfl 0 rfl ?_
    refine g_getR (r := 22) hg fl_X11_45 ly1 rfl (idb rfl rfl hn) (rfc hRf rfl rfl rfl rfl) (by decide) dX11_count_53 ?_
    refine g_getI hg fl_X11_285 ly22 rfl (idb rfl rfl hn) dX11_count_56 ?_
    replace h := Option.some.inj h
    subst h
    exact g_iret hg hr dX11_count_59
  replace h := itF c1w h
  by_cases c2w : x1 = 2
  · replace h := itT c2w h
    refine g_tabI (tgt := 60) (off := 59) hg dX11_count_1 c2w (by decide) (by decide) ?_
    refine g_rload_n hg dX11_count_60 rfl 0 rfl ?_
    refine g_getR (r := 34) hg fl_X11_52 ly1 rfl (idb rfl rfl hn) (rfc hRf rfl rfl rfl rfl) (by decide) dX11_count_61 ?_
    refine g_getI hg fl_X11_145 ly34 rfl (idb rfl rfl hn) dX11_count_64 ?_
    replace h := Option.some.inj h
    subst h
    exact g_iret hg hr dX11_count_67
  replace h := itF c2w h
  by_cases c3w : x1 = 3
  · replace h := itT c3w h
    refine g_tabI (tgt := 68) (off := 67) hg dX11_count_1 c3w (by decide) (by decide) ?_
    refine g_rload_n hg dX11_count_68 rfl 0 rfl ?_
    refine g_getR (r := kq.1) hg fl_X11_34 ly1 rfl (idb rfl rfl hn) (rfc hRf rfl rfl rfl rfl) (ky_pos hkq.1) dX11_count_69 ?_
    refine g_getI hg fl_X11_125 (ky_lay hkq.1) rfl (ky_bd hkq.1 hn) dX11_count_72 ?_
    replace h := Option.some.inj h
    subst h
    exact g_iret hg hr dX11_count_75
  replace h := itF c3w h
  by_cases c4w : x1 = 4
  · replace h := itT c4w h
    refine g_tabI (tgt := 76) (off := 75) hg dX11_count_1 c4w (by decide) (by decide) ?_
    refine g_rload_n hg dX11_count_76 rfl 0 rfl ?_
    refine g_getR (r := kq.1) hg fl_X11_34 ly1 rfl (idb rfl rfl hn) (rfc hRf rfl rfl rfl rfl) (ky_pos hkq.1) dX11_count_77 ?_
    refine g_getI hg fl_X11_135 (ky_lay hkq.1) rfl (ky_bd hkq.1 hn) dX11_count_80 ?_
    replace h := Option.some.inj h
    subst h
    exact g_iret hg hr dX11_count_83
  replace h := itF c4w h
  by_cases c5w : x1 = 5
  · replace h := itT c5w h
    refine g_tabI (tgt := 84) (off := 83) hg dX11_count_1 c5w (by decide) (by decide) ?_
    refine g_rload_n hg dX11_count_84 rfl 0 rfl ?_
    refine g_getR (r := kq.1) hg fl_X11_34 ly1 rfl (idb rfl rfl hn) (rfc hRf rfl rfl rfl rfl) (ky_pos hkq.1) dX11_count_85 ?_
    refine g_getI hg fl_X11_355 (ky_lay hkq.1) rfl (ky_bd hkq.1 hn) dX11_count_88 ?_
    replace h := Option.some.inj h
    subst h
    exact g_iret hg hr dX11_count_91
  replace h := itF c5w h
  by_cases c6w : x1 = 6
  · replace h := itT c6w h
    refine g_tabI (tgt := 92) (off := 91) hg dX11_count_1 c6w (by decide) (by decide) ?_
    refine g_rload_n hg dX11_count_92 rfl 0 rfl ?_
    refine g_getR (r := 34) hg fl_X11_52 ly1 rfl (idb rfl rfl hn) (rfc hRf rfl rfl rfl rfl) (by decide) dX11_count_93 ?_
    refine g_rload_n hg dX11_count_96 rfl 0 rfl ?_
    refine g_getR (r := 34) hg fl_X11_52 ly1 rfl (idb rfl rfl hn) (rfc hRf rfl rfl rfl rfl) (by decide) dX11_count_97 ?_
    refine g_getI hg fl_X11_145 ly34 rfl (idb rfl rfl hn) dX11_count_100 ?_
    obtain ⟨M103, e103, h⟩ := Option.bind_eq_some_iff.mp h
    refine g_callVv (As := [.int (M.1 34 1)]) (rest := []) hg (lkX1_gather (by omega) hn hRf  e103) cv_X11_250 rfl ly34 (idb rfl rfl hn) rfl rfl (Nat.le_of_ble_eq_true rfl) ⟨Nat.le_refl _, Nat.le_refl _⟩ dX11_count_103 ?_
    refine g_rload_n hg dX11_count_106 rfl 0 rfl ?_
    refine g_getR (r := 34) hg fl_X11_52 ly1 rfl (idb rfl rfl hn) (rfc hRf rfl rfl rfl rfl) (by decide) dX11_count_107 ?_
    refine g_getI hg fl_X11_273 ly34 rfl (idb rfl rfl hn) dX11_count_110 ?_
    replace h := Option.some.inj h
    subst h
    exact g_iret hg hr dX11_count_113
  replace h := itF c6w h
  refine g_tabO (tgt := 114) hg dX11_count_1 (by have e0w := lv_neT (a := 0) c0w (by decide); have e1w := lv_neT (a := 1) c1w (by decide); have e2w := lv_neT (a := 2) c2w (by decide); have e3w := lv_neT (a := 3) c3w (by decide); have e4w := lv_neT (a := 4) c4w (by decide); have e5w := lv_neT (a := 5) c5w (by decide); have e6w := lv_neT (a := 6) c6w (by decide); omega) (by decide) ?_
  refine g_iconst hg dX11_count_114 kI_m1 ?_
  replace h := Option.some.inj h
  subst h
  exact g_iret hg hr dX11_count_115
theorem lkX4_clear {l0 : Launch} {E : En} {d n : Nat} {Rf : Nat → Nat → Nat} {ex : Bool} {kq : Nat × Nat} (hd : 1 ≤ d) (hn : 239 ≤ n) (hRf : RfOk 1 239 kq Rf) {r0 : Nat} (hr0 : isKy r0)  {M : Mm} {q : Mm} (h : sX4_clear r0 M = some q) : Ct l0 E yX4_clear cX4_clear 1 none d 0 0 [rr E.1 r0] ex n Rf M n Rf none q := by
  obtain ⟨d, rfl⟩ := Nat.exists_eq_add_of_le' hd
  refine Ct.of pnX4 (Nat.le_of_ble_eq_true rfl) (fun g hg hr _ => ?_)
  replace hg : Ok g l0 E cX4_clear RX4 1 (d + 1) 0 0 := hg
  show WG g E 1 n Rf ex 0 0 0 [(0, rr E.1 r0)] [] M
  unfold sX4_clear at h
  refine g_rload_n hg dX4_clear_0 rfl 0 rfl ?_
  refine g_iconst hg dX4_clear_1 kI_0 ?_
  refine g_putI hg fp_X4_34 (ky_lay hr0) rfl (ky_bd hr0 hn) dX4_clear_2 ?_
  refine g_rload_n hg dX4_clear_5 rfl 0 rfl ?_
  refine g_iconst hg dX4_clear_6 kI_0 ?_
  refine g_putI hg fp_X4_38 (ky_lay hr0) rfl (ky_bd hr0 hn) dX4_clear_7 ?_
  refine g_rload_n hg dX4_clear_10 rfl 0 rfl ?_
  refine g_iconst hg dX4_clear_11 kI_0 ?_
  refine g_putI hg fp_X4_41 (ky_lay hr0) rfl (ky_bd hr0 hn) dX4_clear_12 ?_
  refine g_rload_n hg dX4_clear_15 rfl 0 rfl ?_
  refine g_iconst hg dX4_clear_16 kI_0 ?_
  refine g_putI hg fp_X4_44 (ky_lay hr0) rfl (ky_bd hr0 hn) dX4_clear_17 ?_
  replace h := Option.some.inj h
  subst h
  exact g_vret hg hr dX4_clear_20
theorem lkX4_numberOf_2 {g : Gm} {l0 : Launch} {E : En} {d n : Nat} {Rf : Nat → Nat → Nat} {ex : Bool} {kq : Nat × Nat} (hn : 239 ≤ n) (hRf : RfOk 1 239 kq Rf) {r0 : Nat} (hr0 : isKy r0) (hg : Ok g l0 E cX4_numberOf RX4 4 (d + 1) 0 0) {q : Int32 × Mm} (hr : Ret g E 0 0 (some .int) ex n Rf (some (.int q.1)) q.2) : ∀ (F : Nat) (y1 : Int64) (x3 : Int32) (M : Mm), sX4_numberOf_2 r0 F y1 x3 M = some q → WG g E 4 n Rf ex 0 0 2 [(0, rr E.1 r0), (1, .long y1), (3, .int x3)] [] M := by
  intro F
  induction F with
  | zero =>
    intro y1 x3 M h
    cases h
  | succ F ih =>
    intro y1 x3 M h
    rw [sX4_numberOf_2] at h
    refine g_iload_n hg dX4_numberOf_2 rfl 2 rfl ?_
    refine g_rload_n hg dX4_numberOf_3 rfl 0 rfl ?_
    refine g_getI hg fl_X4_41 (ky_lay hr0) rfl (ky_bd hr0 hn) dX4_numberOf_4 ?_
    refine g_icmp_ge (tgt := 29) hg dX4_numberOf_7 (by decide) (fun c => ?_) (fun c => ?_)
    · replace h := itT c h
      refine g_rload_n hg dX4_numberOf_29 rfl 0 rfl ?_
      refine g_getI hg fl_X4_41 (ky_lay hr0) rfl (ky_bd hr0 hn) dX4_numberOf_30 ?_
      refine g_bipush hg dX4_numberOf_33 kB_8 ?_
      refine g_icmp_lt (tgt := 40) hg dX4_numberOf_35 (by decide) (fun c => ?_) (fun c => ?_)
      · replace h := itT c h
        refine g_rload_n hg dX4_numberOf_40 rfl 0 rfl ?_
        refine g_getR (r := (r0 + 6)) hg fl_X4_27 (ky_lay hr0) rfl (ky_bd hr0 hn) (ky_rf6 hr0 hRf) (Nat.succ_pos _) dX4_numberOf_41 ?_
        refine g_rload_n hg dX4_numberOf_44 rfl 0 rfl ?_
        refine g_getI hg fl_X4_41 (ky_lay hr0) rfl (ky_bd hr0 hn) dX4_numberOf_45 ?_
        refine g_lload_n hg dX4_numberOf_48 rfl 1 rfl ?_
        obtain ⟨c49, h⟩ := ck_some h
        refine g_last hg (ky_lay6 hr0) (ky_bd6 hr0 hn) (inb_vp c49) dX4_numberOf_49 ?_
        refine g_rload_n hg dX4_numberOf_50 rfl 0 rfl ?_
        refine g_dup hg dX4_numberOf_51 rfl ?_
        refine g_getI hg fl_X4_41 (ky_lay hr0) rfl (ky_bd hr0 hn) dX4_numberOf_52 ?_
        refine g_iconst hg dX4_numberOf_55 kI_1 ?_
        refine g_iadd hg dX4_numberOf_56 ?_
        refine g_putI hg fp_X4_41 (ky_lay hr0) rfl (ky_bd hr0 hn) dX4_numberOf_57 ?_
        refine g_rload_n hg dX4_numberOf_60 rfl 0 rfl ?_
        refine g_getI hg fl_X4_41 (ky_lay hr0) rfl (ky_bd hr0 hn) dX4_numberOf_61 ?_
        refine g_iconst hg dX4_numberOf_64 kI_1 ?_
        refine g_isub hg dX4_numberOf_65 ?_
        replace h := Option.some.inj h
        subst h
        exact g_iret hg hr dX4_numberOf_66
      · replace h := itF c h
        refine g_iconst hg dX4_numberOf_38 kI_m1 ?_
        replace h := Option.some.inj h
        subst h
        exact g_iret hg hr dX4_numberOf_39
    · replace h := itF c h
      refine g_rload_n hg dX4_numberOf_10 rfl 0 rfl ?_
      refine g_getR (r := (r0 + 6)) hg fl_X4_27 (ky_lay hr0) rfl (ky_bd hr0 hn) (ky_rf6 hr0 hRf) (Nat.succ_pos _) dX4_numberOf_11 ?_
      refine g_iload_n hg dX4_numberOf_14 rfl 2 rfl ?_
      obtain ⟨c15, h⟩ := ck_some h
      refine g_lald hg (ky_lay6 hr0) (ky_bd6 hr0 hn) (inb_vp c15) dX4_numberOf_15 ?_
      refine g_lload_n hg dX4_numberOf_16 rfl 1 rfl ?_
      refine g_lcmp hg dX4_numberOf_17 ?_
      refine g_if_ne (tgt := 23) hg dX4_numberOf_18 (by decide) (fun c => ?_) (fun c => ?_)
      · replace h := itF c h
        refine g_inc (lv' := [(3, .int (x3 + 1)), (0, rr E.1 r0), (1, .long y1)]) hg dX4_numberOf_23 kI_1 2 rfl (by decide) rfl ?_
        refine g_goto (tgt := 2) hg dX4_numberOf_26 (by decide) ?_
        refine g_sub (lv' := [(0, rr E.1 r0), (1, .long y1), (3, .int (x3 + 1))]) [1, 2, 0] rfl ?_
        exact ih _ _ _ h
      · replace h := itT c h
        refine g_iload_n hg dX4_numberOf_21 rfl 2 rfl ?_
        replace h := Option.some.inj h
        subst h
        exact g_iret hg hr dX4_numberOf_22
theorem lkX4_numberOf {l0 : Launch} {E : En} {d n : Nat} {Rf : Nat → Nat → Nat} {ex : Bool} {kq : Nat × Nat} (hd : 1 ≤ d) (hn : 239 ≤ n) (hRf : RfOk 1 239 kq Rf) {r0 : Nat} (hr0 : isKy r0) {y1 : Int64} {M : Mm} {q : Int32 × Mm} (h : sX4_numberOf r0 y1 M = some q) : Ct l0 E yX4_numberOf cX4_numberOf 4 (some .int) d 0 0 [rr E.1 r0, .long y1] ex n Rf M n Rf (some (.int q.1)) q.2 := by
  obtain ⟨d, rfl⟩ := Nat.exists_eq_add_of_le' hd
  refine Ct.of pnX4 (Nat.le_of_ble_eq_true rfl) (fun g hg hr _ => ?_)
  replace hg : Ok g l0 E cX4_numberOf RX4 4 (d + 1) 0 0 := hg
  show WG g E 4 n Rf ex 0 0 0 [(0, rr E.1 r0), (1, .long y1)] [] M
  unfold sX4_numberOf at h
  refine g_iconst hg dX4_numberOf_0 kI_0 ?_
  refine g_istore_n (lv' := [(3, .int 0), (0, rr E.1 r0), (1, .long y1)]) hg dX4_numberOf_1 rfl (by decide) rfl ?_
  refine g_sub (lv' := [(0, rr E.1 r0), (1, .long y1), (3, .int 0)]) [1, 2, 0] rfl ?_
  exact lkX4_numberOf_2 hn hRf hr0 hg hr  4096 _ _ _ h
theorem lkX5_readKind_24 {g : Gm} {l0 : Launch} {E : En} {d n : Nat} {Rf : Nat → Nat → Nat} {ex : Bool} {kq : Nat × Nat} (hn : 239 ≤ n) (hRf : RfOk 1 239 kq Rf) (hkq : isKq kq) (hg : Ok g l0 E cX5_readKind RX5 2 (d + 4) 0 0) {q : Int32 × Mm} (hr : Ret g E 0 0 (some .int) ex n Rf (some (.int q.1)) q.2) : ∀  (M : Mm), sX5_readKind_24 kq  M = some q → WG g E 2 n Rf ex 0 0 24 [(0, rr E.1 5)] [] M := by
  intro M h
  unfold sX5_readKind_24 at h
  refine g_rload_n hg dX5_readKind_24 rfl 0 rfl ?_
  refine g_getR (r := 3) hg fl_X5_18 ly5 rfl (idb rfl rfl hn) (rfc hRf rfl rfl rfl rfl) (by decide) dX5_readKind_25 ?_
  refine g_iconst hg dX5_readKind_28 kI_1 ?_
  obtain ⟨q29, e29, h⟩ := Option.bind_eq_some_iff.mp h
  refine g_callVi (As := [.int 1]) (rest := []) hg (lkX10_refuse (by omega) (Nat.le_trans (by decide : 5 ≤ 239) hn) (hRf.mono (by decide) (by decide))  e29) cv_X5_53 rfl ly3 (idb rfl rfl hn) rfl rfl (Nat.le_of_ble_eq_true rfl) ⟨Nat.le_refl _, Nat.le_refl _⟩ dX5_readKind_29 ?_
  refine g_pop hg dX5_readKind_32 rfl ?_
  refine g_iconst hg dX5_readKind_33 kI_m1 ?_
  replace h := Option.some.inj h
  subst h
  exact g_iret hg hr dX5_readKind_34
theorem lkX5_readKind_62 {g : Gm} {l0 : Launch} {E : En} {d n : Nat} {Rf : Nat → Nat → Nat} {ex : Bool} {kq : Nat × Nat} (hn : 239 ≤ n) (hRf : RfOk 1 239 kq Rf) (hkq : isKq kq) (hg : Ok g l0 E cX5_readKind RX5 2 (d + 4) 0 0) {q : Int32 × Mm} (hr : Ret g E 0 0 (some .int) ex n Rf (some (.int q.1)) q.2) : ∀ (x1 : Int32) (M : Mm), sX5_readKind_62 kq x1 M = some q → WG g E 2 n Rf ex 0 0 62 [(0, rr E.1 5), (1, .int x1)] [] M := by
  intro x1 M h
  unfold sX5_readKind_62 at h
  refine g_iload_n hg dX5_readKind_62 rfl 1 rfl ?_
  refine g_iconst hg dX5_readKind_63 kI_m1 ?_
  refine g_icmp_ne (tgt := 78) hg dX5_readKind_64 (by decide) (fun c => ?_) (fun c => ?_)
  · replace h := itF c h
    refine g_rload_n hg dX5_readKind_78 rfl 0 rfl ?_
    refine g_getR (r := 3) hg fl_X5_18 ly5 rfl (idb rfl rfl hn) (rfc hRf rfl rfl rfl rfl) (by decide) dX5_readKind_79 ?_
    obtain ⟨M82, e82, h⟩ := Option.bind_eq_some_iff.mp h
    refine g_callVv (As := []) (rest := []) hg (lkX10_step (by omega) (Nat.le_trans (by decide : 5 ≤ 239) hn) (hRf.mono (by decide) (by decide))  e82) cv_X5_67 rfl ly3 (idb rfl rfl hn) rfl rfl (Nat.le_of_ble_eq_true rfl) ⟨Nat.le_refl _, Nat.le_refl _⟩ dX5_readKind_82 ?_
    refine g_iload_n hg dX5_readKind_85 rfl 1 rfl ?_
    replace h := Option.some.inj h
    subst h
    exact g_iret hg hr dX5_readKind_86
  · replace h := itT c h
    refine g_rload_n hg dX5_readKind_67 rfl 0 rfl ?_
    refine g_getR (r := 3) hg fl_X5_18 ly5 rfl (idb rfl rfl hn) (rfc hRf rfl rfl rfl rfl) (by decide) dX5_readKind_68 ?_
    refine g_iconst hg dX5_readKind_71 kI_2 ?_
    obtain ⟨q72, e72, h⟩ := Option.bind_eq_some_iff.mp h
    refine g_callVi (As := [.int 2]) (rest := []) hg (lkX10_refuse (by omega) (Nat.le_trans (by decide : 5 ≤ 239) hn) (hRf.mono (by decide) (by decide))  e72) cv_X5_53 rfl ly3 (idb rfl rfl hn) rfl rfl (Nat.le_of_ble_eq_true rfl) ⟨Nat.le_refl _, Nat.le_refl _⟩ dX5_readKind_72 ?_
    refine g_pop hg dX5_readKind_75 rfl ?_
    refine g_iconst hg dX5_readKind_76 kI_m1 ?_
    replace h := Option.some.inj h
    subst h
    exact g_iret hg hr dX5_readKind_77
theorem lkX5_readKind {l0 : Launch} {E : En} {d n : Nat} {Rf : Nat → Nat → Nat} {ex : Bool} {kq : Nat × Nat} (hd : 4 ≤ d) (hn : 239 ≤ n) (hRf : RfOk 1 239 kq Rf) (hkq : isKq kq)  {M : Mm} {q : Int32 × Mm} (h : sX5_readKind kq M = some q) : Ct l0 E yX5_readKind cX5_readKind 2 (some .int) d 0 0 [rr E.1 5] ex n Rf M n Rf (some (.int q.1)) q.2 := by
  obtain ⟨d, rfl⟩ := Nat.exists_eq_add_of_le' hd
  refine Ct.of pnX5 (Nat.le_of_ble_eq_true rfl) (fun g hg hr _ => ?_)
  replace hg : Ok g l0 E cX5_readKind RX5 2 (d + 4) 0 0 := hg
  show WG g E 2 n Rf ex 0 0 0 [(0, rr E.1 5)] [] M
  unfold sX5_readKind at h
  refine g_iconst hg dX5_readKind_0 kI_m1 ?_
  refine g_istore_n (lv' := [(1, .int (-1)), (0, rr E.1 5)]) hg dX5_readKind_1 rfl (by decide) rfl ?_
  refine g_rload_n hg dX5_readKind_2 rfl 1 rfl ?_
  refine g_getR (r := 3) hg fl_X5_18 ly5 rfl (idb rfl rfl hn) (rfc hRf rfl rfl rfl rfl) (by decide) dX5_readKind_3 ?_
  refine g_getI hg fl_X5_29 ly3 rfl (idb rfl rfl hn) dX5_readKind_6 ?_
  refine g_iconst hg dX5_readKind_9 kI_2 ?_
  refine g_icmp_ne (tgt := 24) hg dX5_readKind_10 (by decide) (fun c => ?_) (fun c => ?_)
  · replace h := itF c h
    refine g_sub (lv' := [(0, rr E.1 5)]) [1] rfl ?_
    exact lkX5_readKind_24 hn hRf hkq hg hr  _ h
  · replace h := itT c h
    refine g_rload_n hg dX5_readKind_13 rfl 1 rfl ?_
    refine g_getR (r := 3) hg fl_X5_18 ly5 rfl (idb rfl rfl hn) (rfc hRf rfl rfl rfl rfl) (by decide) dX5_readKind_14 ?_
    refine g_getI hg fl_X5_50 ly3 rfl (idb rfl rfl hn) dX5_readKind_17 ?_
    refine g_iconst hg dX5_readKind_20 kI_m1 ?_
    refine g_icmp_eq (tgt := 35) hg dX5_readKind_21 (by decide) (fun c => ?_) (fun c => ?_)
    · replace h := itT c h
      refine g_rload_n hg dX5_readKind_35 rfl 1 rfl ?_
      refine g_getR (r := kq.2) hg fl_X5_12 ly5 rfl (idb rfl rfl hn) (rfc hRf rfl rfl rfl rfl) (ky_pos hkq.2) dX5_readKind_36 ?_
      refine g_getI hg fl_X5_56 (ky_lay hkq.2) rfl (ky_bd hkq.2 hn) dX5_readKind_39 ?_
      refine g_bipush hg dX5_readKind_42 kB_16 ?_
      refine g_icmp_ge (tgt := 62) hg dX5_readKind_44 (by decide) (fun c => ?_) (fun c => ?_)
      · replace h := itT c h
        refine g_sub (lv' := [(0, rr E.1 5), (1, .int (-1))]) [1, 0] rfl ?_
        exact lkX5_readKind_62 hn hRf hkq hg hr  _ _ h
      · replace h := itF c h
        refine g_rload_n hg dX5_readKind_47 rfl 1 rfl ?_
        refine g_getR (r := kq.2) hg fl_X5_12 ly5 rfl (idb rfl rfl hn) (rfc hRf rfl rfl rfl rfl) (ky_pos hkq.2) dX5_readKind_48 ?_
        refine g_rload_n hg dX5_readKind_51 rfl 1 rfl ?_
        refine g_getR (r := 3) hg fl_X5_18 ly5 rfl (idb rfl rfl hn) (rfc hRf rfl rfl rfl rfl) (by decide) dX5_readKind_52 ?_
        refine g_getL hg fl_X5_59 ly3 rfl (idb rfl rfl hn) dX5_readKind_55 ?_
        obtain ⟨q58, e58, h⟩ := Option.bind_eq_some_iff.mp h
        refine g_callVi (As := [.long (M.2 3 7)]) (rest := []) hg (lkX4_numberOf (by omega) hn hRf hkq.2 e58) cv_X5_63 rfl (ky_lay hkq.2) (ky_bd hkq.2 hn) rfl rfl (Nat.le_of_ble_eq_true rfl) ⟨Nat.le_refl _, Nat.le_refl _⟩ dX5_readKind_58 ?_
        refine g_istore_n (lv' := [(1, .int q58.1), (0, rr E.1 5)]) hg dX5_readKind_61 rfl (by decide) rfl ?_
        refine g_sub (lv' := [(0, rr E.1 5), (1, .int q58.1)]) [1, 0] rfl ?_
        exact lkX5_readKind_62 hn hRf hkq hg hr  _ _ h
    · replace h := itF c h
      refine g_sub (lv' := [(0, rr E.1 5)]) [1] rfl ?_
      exact lkX5_readKind_24 hn hRf hkq hg hr  _ h
theorem lkX5_takeKnot {l0 : Launch} {E : En} {d n : Nat} {Rf : Nat → Nat → Nat} {ex : Bool} {kq : Nat × Nat} (hd : 4 ≤ d) (hn : 239 ≤ n) (hRf : RfOk 1 239 kq Rf) (hkq : isKq kq)  {M : Mm} {q : Int32 × Mm} (h : sX5_takeKnot kq M = some q) : Ct l0 E yX5_takeKnot cX5_takeKnot 1 (some .boolean) d 0 0 [rr E.1 5] ex n Rf M n Rf (some (.int q.1)) q.2 := by
  obtain ⟨d, rfl⟩ := Nat.exists_eq_add_of_le' hd
  refine Ct.of pnX5 (Nat.le_of_ble_eq_true rfl) (fun g hg hr _ => ?_)
  replace hg : Ok g l0 E cX5_takeKnot RX5 1 (d + 4) 0 0 := hg
  show WG g E 1 n Rf ex 0 0 0 [(0, rr E.1 5)] [] M
  unfold sX5_takeKnot at h
  refine g_rload_n hg dX5_takeKnot_0 rfl 0 rfl ?_
  refine g_getR (r := kq.2) hg fl_X5_12 ly5 rfl (idb rfl rfl hn) (rfc hRf rfl rfl rfl rfl) (ky_pos hkq.2) dX5_takeKnot_1 ?_
  refine g_getI hg fl_X5_106 (ky_lay hkq.2) rfl (ky_bd hkq.2 hn) dX5_takeKnot_4 ?_
  refine g_bipush hg dX5_takeKnot_7 kB_96 ?_
  refine g_icmp_lt (tgt := 21) hg dX5_takeKnot_9 (by decide) (fun c => ?_) (fun c => ?_)
  · replace h := itT c h
    refine g_rload_n hg dX5_takeKnot_21 rfl 0 rfl ?_
    refine g_getR (r := kq.2) hg fl_X5_12 ly5 rfl (idb rfl rfl hn) (rfc hRf rfl rfl rfl rfl) (ky_pos hkq.2) dX5_takeKnot_22 ?_
    refine g_dup hg dX5_takeKnot_25 rfl ?_
    refine g_getI hg fl_X5_106 (ky_lay hkq.2) rfl (ky_bd hkq.2 hn) dX5_takeKnot_26 ?_
    refine g_iconst hg dX5_takeKnot_29 kI_1 ?_
    refine g_iadd hg dX5_takeKnot_30 ?_
    refine g_putI hg fp_X5_106 (ky_lay hkq.2) rfl (ky_bd hkq.2 hn) dX5_takeKnot_31 ?_
    refine g_rload_n hg dX5_takeKnot_34 rfl 0 rfl ?_
    refine g_getR (r := 3) hg fl_X5_18 ly5 rfl (idb rfl rfl hn) (rfc hRf rfl rfl rfl rfl) (by decide) dX5_takeKnot_35 ?_
    obtain ⟨M38, e38, h⟩ := Option.bind_eq_some_iff.mp h
    refine g_callVv (As := []) (rest := []) hg (lkX10_step (by omega) (Nat.le_trans (by decide : 5 ≤ 239) hn) (hRf.mono (by decide) (by decide))  e38) cv_X5_67 rfl ly3 (idb rfl rfl hn) rfl rfl (Nat.le_of_ble_eq_true rfl) ⟨Nat.le_refl _, Nat.le_refl _⟩ dX5_takeKnot_38 ?_
    refine g_iconst hg dX5_takeKnot_41 kI_1 ?_
    replace h := Option.some.inj h
    subst h
    exact g_zret hg hr rfl dX5_takeKnot_42
  · replace h := itF c h
    refine g_rload_n hg dX5_takeKnot_12 rfl 0 rfl ?_
    refine g_getR (r := 3) hg fl_X5_18 ly5 rfl (idb rfl rfl hn) (rfc hRf rfl rfl rfl rfl) (by decide) dX5_takeKnot_13 ?_
    refine g_iconst hg dX5_takeKnot_16 kI_2 ?_
    obtain ⟨q17, e17, h⟩ := Option.bind_eq_some_iff.mp h
    refine g_callVi (As := [.int 2]) (rest := []) hg (lkX10_refuse (by omega) (Nat.le_trans (by decide : 5 ≤ 239) hn) (hRf.mono (by decide) (by decide))  e17) cv_X5_53 rfl ly3 (idb rfl rfl hn) rfl rfl (Nat.le_of_ble_eq_true rfl) ⟨Nat.le_refl _, Nat.le_refl _⟩ dX5_takeKnot_17 ?_
    obtain ⟨c20, h⟩ := ck_some h
    replace h := Option.some.inj h
    subst h
    exact g_zret hg hr (isb_nar c20) dX5_takeKnot_20
theorem lkX5_readBracket_79 {g : Gm} {l0 : Launch} {E : En} {d n : Nat} {Rf : Nat → Nat → Nat} {ex : Bool} {kq : Nat × Nat} (hn : 239 ≤ n) (hRf : RfOk 1 239 kq Rf) (hkq : isKq kq) {d0 : Nat} (hd0 : d0 ≤ d) {rec : Int32 → Mm → Option (Int32 × Mm)} (hrec : ∀ d', d0 ≤ d' → ∀ {x1 : Int32} {M : Mm} {q : Int32 × Mm}, rec x1 M = some q → Ct l0 E yX5_readEither cX5_readEither 3 (some .boolean) d' 0 0 [rr E.1 5, .int x1] ex n Rf M n Rf (some (.int q.1)) q.2) (hg : Ok g l0 E cX5_readBracket RX5 3 (d + 5) 0 0) {q : Int32 × Mm} (hr : Ret g E 0 0 (some .boolean) ex n Rf (some (.int q.1)) q.2) : ∀ (s0 : Int32) (M : Mm), sX5_readBracket_79 rec kq s0 M = some q → WG g E 3 n Rf ex 0 0 79 [(0, rr E.1 5)] [.int s0] M := by
  intro s0 M h
  unfold sX5_readBracket_79 at h
  refine g_istore_n (lv' := [(2, .int s0), (0, rr E.1 5)]) hg dX5_readBracket_79 rfl (by decide) rfl ?_
  refine g_rload_n hg dX5_readBracket_80 rfl 1 rfl ?_
  refine g_dup hg dX5_readBracket_81 rfl ?_
  refine g_getI hg fl_X5_25 ly5 rfl (idb rfl rfl hn) dX5_readBracket_82 ?_
  refine g_iconst hg dX5_readBracket_85 kI_1 ?_
  refine g_isub hg dX5_readBracket_86 ?_
  refine g_putI hg fp_X5_25 ly5 rfl (idb rfl rfl hn) dX5_readBracket_87 ?_
  refine g_iload_n hg dX5_readBracket_90 rfl 0 rfl ?_
  obtain ⟨c91, h⟩ := ck_some h
  replace h := Option.some.inj h
  subst h
  exact g_zret hg hr (isb_nar c91) dX5_readBracket_91
theorem lkX5_readBracket_78 {g : Gm} {l0 : Launch} {E : En} {d n : Nat} {Rf : Nat → Nat → Nat} {ex : Bool} {kq : Nat × Nat} (hn : 239 ≤ n) (hRf : RfOk 1 239 kq Rf) (hkq : isKq kq) {d0 : Nat} (hd0 : d0 ≤ d) {rec : Int32 → Mm → Option (Int32 × Mm)} (hrec : ∀ d', d0 ≤ d' → ∀ {x1 : Int32} {M : Mm} {q : Int32 × Mm}, rec x1 M = some q → Ct l0 E yX5_readEither cX5_readEither 3 (some .boolean) d' 0 0 [rr E.1 5, .int x1] ex n Rf M n Rf (some (.int q.1)) q.2) (hg : Ok g l0 E cX5_readBracket RX5 3 (d + 5) 0 0) {q : Int32 × Mm} (hr : Ret g E 0 0 (some .boolean) ex n Rf (some (.int q.1)) q.2) : ∀  (M : Mm), sX5_readBracket_78 rec kq  M = some q → WG g E 3 n Rf ex 0 0 78 [(0, rr E.1 5)] [] M := by
  intro M h
  unfold sX5_readBracket_78 at h
  refine g_iconst hg dX5_readBracket_78 kI_0 ?_
  exact lkX5_readBracket_79 hn hRf hkq hd0 hrec hg hr  _ _ h
theorem lkX5_readBracket_30 {g : Gm} {l0 : Launch} {E : En} {d n : Nat} {Rf : Nat → Nat → Nat} {ex : Bool} {kq : Nat × Nat} (hn : 239 ≤ n) (hRf : RfOk 1 239 kq Rf) (hkq : isKq kq) {d0 : Nat} (hd0 : d0 ≤ d) {rec : Int32 → Mm → Option (Int32 × Mm)} (hrec : ∀ d', d0 ≤ d' → ∀ {x1 : Int32} {M : Mm} {q : Int32 × Mm}, rec x1 M = some q → Ct l0 E yX5_readEither cX5_readEither 3 (some .boolean) d' 0 0 [rr E.1 5, .int x1] ex n Rf M n Rf (some (.int q.1)) q.2) (hg : Ok g l0 E cX5_readBracket RX5 3 (d + 5) 0 0) {q : Int32 × Mm} (hr : Ret g E 0 0 (some .boolean) ex n Rf (some (.int q.1)) q.2) : ∀ (x1 : Int32) (M : Mm), sX5_readBracket_30 rec kq x1 M = some q → WG g E 3 n Rf ex 0 0 30 [(0, rr E.1 5), (1, .int x1)] [] M := by
  intro x1 M h
  unfold sX5_readBracket_30 at h
  refine g_rload_n hg dX5_readBracket_30 rfl 0 rfl ?_
  refine g_getR (r := 3) hg fl_X5_18 ly5 rfl (idb rfl rfl hn) (rfc hRf rfl rfl rfl rfl) (by decide) dX5_readBracket_31 ?_
  refine g_bipush hg dX5_readBracket_34 kB_40 ?_
  obtain ⟨q36, e36, h⟩ := Option.bind_eq_some_iff.mp h
  refine g_callVi (As := [.int 40]) (rest := []) hg (lkX10_takeSign (by omega) (Nat.le_trans (by decide : 5 ≤ 239) hn) (hRf.mono (by decide) (by decide))  e36) cv_X5_38 rfl ly3 (idb rfl rfl hn) rfl rfl (Nat.le_of_ble_eq_true rfl) ⟨Nat.le_refl _, Nat.le_refl _⟩ dX5_readBracket_36 ?_
  refine g_if_ne (tgt := 44) hg dX5_readBracket_39 (by decide) (fun c => ?_) (fun c => ?_)
  · replace h := itF c h
    refine g_rload_n hg dX5_readBracket_44 rfl 0 rfl ?_
    refine g_dup hg dX5_readBracket_45 rfl ?_
    refine g_getI hg fl_X5_25 ly5 rfl (idb rfl rfl hn) dX5_readBracket_46 ?_
    refine g_iconst hg dX5_readBracket_49 kI_1 ?_
    refine g_iadd hg dX5_readBracket_50 ?_
    refine g_putI hg fp_X5_25 ly5 rfl (idb rfl rfl hn) dX5_readBracket_51 ?_
    refine g_rload_n hg dX5_readBracket_54 rfl 0 rfl ?_
    refine g_iload_n hg dX5_readBracket_55 rfl 1 rfl ?_
    obtain ⟨q56, e56, h⟩ := Option.bind_eq_some_iff.mp h
    refine g_callVi (As := [.int x1]) (rest := []) hg (hrec _ (by omega) e56) cv_X5_42 rfl ly5 (idb rfl rfl hn) rfl rfl (Nat.le_of_ble_eq_true rfl) ⟨Nat.le_refl _, Nat.le_refl _⟩ dX5_readBracket_56 ?_
    refine g_if_eq (tgt := 78) hg dX5_readBracket_59 (by decide) (fun c => ?_) (fun c => ?_)
    · replace h := itT c h
      refine g_sub (lv' := [(0, rr E.1 5)]) [0] rfl ?_
      exact lkX5_readBracket_78 hn hRf hkq hd0 hrec hg hr  _ h
    · replace h := itF c h
      refine g_rload_n hg dX5_readBracket_62 rfl 0 rfl ?_
      refine g_getR (r := 3) hg fl_X5_18 ly5 rfl (idb rfl rfl hn) (rfc hRf rfl rfl rfl rfl) (by decide) dX5_readBracket_63 ?_
      refine g_bipush hg dX5_readBracket_66 kB_41 ?_
      obtain ⟨q68, e68, h⟩ := Option.bind_eq_some_iff.mp h
      refine g_callVi (As := [.int 41]) (rest := []) hg (lkX10_takeSign (by omega) (Nat.le_trans (by decide : 5 ≤ 239) hn) (hRf.mono (by decide) (by decide))  e68) cv_X5_38 rfl ly3 (idb rfl rfl hn) rfl rfl (Nat.le_of_ble_eq_true rfl) ⟨Nat.le_refl _, Nat.le_refl _⟩ dX5_readBracket_68 ?_
      refine g_if_eq (tgt := 78) hg dX5_readBracket_71 (by decide) (fun c => ?_) (fun c => ?_)
      · replace h := itT c h
        refine g_sub (lv' := [(0, rr E.1 5)]) [0] rfl ?_
        exact lkX5_readBracket_78 hn hRf hkq hd0 hrec hg hr  _ h
      · replace h := itF c h
        refine g_iconst hg dX5_readBracket_74 kI_1 ?_
        refine g_goto (tgt := 79) hg dX5_readBracket_75 (by decide) ?_
        refine g_sub (lv' := [(0, rr E.1 5)]) [0] rfl ?_
        exact lkX5_readBracket_79 hn hRf hkq hd0 hrec hg hr  _ _ h
  · replace h := itT c h
    refine g_iconst hg dX5_readBracket_42 kI_0 ?_
    replace h := Option.some.inj h
    subst h
    exact g_zret hg hr rfl dX5_readBracket_43
theorem lkX5_readBracket {d0 : Nat} {l0 : Launch} {E : En} {d n : Nat} {Rf : Nat → Nat → Nat} {ex : Bool} {kq : Nat × Nat} (hd : d0 + 5 ≤ d) (hn : 239 ≤ n) (hRf : RfOk 1 239 kq Rf) (hkq : isKq kq) {rec : Int32 → Mm → Option (Int32 × Mm)} (hrec : ∀ d', d0 ≤ d' → ∀ {x1 : Int32} {M : Mm} {q : Int32 × Mm}, rec x1 M = some q → Ct l0 E yX5_readEither cX5_readEither 3 (some .boolean) d' 0 0 [rr E.1 5, .int x1] ex n Rf M n Rf (some (.int q.1)) q.2) {x1 : Int32} {M : Mm} {q : Int32 × Mm} (h : sX5_readBracket rec kq x1 M = some q) : Ct l0 E yX5_readBracket cX5_readBracket 3 (some .boolean) d 0 0 [rr E.1 5, .int x1] ex n Rf M n Rf (some (.int q.1)) q.2 := by
  obtain ⟨d, hd0, rfl⟩ : ∃ e, d0 ≤ e ∧ d = e + 5 := ⟨d - 5, by omega, by omega⟩
  refine Ct.of pnX5 (Nat.le_of_ble_eq_true rfl) (fun g hg hr _ => ?_)
  replace hg : Ok g l0 E cX5_readBracket RX5 3 (d + 5) 0 0 := hg
  show WG g E 3 n Rf ex 0 0 0 [(0, rr E.1 5), (1, .int x1)] [] M
  unfold sX5_readBracket at h
  refine g_rload_n hg dX5_readBracket_0 rfl 0 rfl ?_
  refine g_getR (r := 3) hg fl_X5_18 ly5 rfl (idb rfl rfl hn) (rfc hRf rfl rfl rfl rfl) (by decide) dX5_readBracket_1 ?_
  refine g_bipush hg dX5_readBracket_4 kB_40 ?_
  obtain ⟨q6, e6, h⟩ := Option.bind_eq_some_iff.mp h
  refine g_callVi (As := [.int 40]) (rest := []) hg (lkX10_isSign (by omega) (Nat.le_trans (by decide : 5 ≤ 239) hn) (hRf.mono (by decide) (by decide))  e6) cv_X5_88 rfl ly3 (idb rfl rfl hn) rfl rfl (Nat.le_of_ble_eq_true rfl) ⟨Nat.le_refl _, Nat.le_refl _⟩ dX5_readBracket_6 ?_
  refine g_if_eq (tgt := 30) hg dX5_readBracket_9 (by decide) (fun c => ?_) (fun c => ?_)
  · replace h := itT c h
    exact lkX5_readBracket_30 hn hRf hkq hd0 hrec hg hr  _ _ h
  · replace h := itF c h
    refine g_rload_n hg dX5_readBracket_12 rfl 0 rfl ?_
    refine g_getI hg fl_X5_25 ly5 rfl (idb rfl rfl hn) dX5_readBracket_13 ?_
    refine g_bipush hg dX5_readBracket_16 kB_8 ?_
    refine g_icmp_lt (tgt := 30) hg dX5_readBracket_18 (by decide) (fun c => ?_) (fun c => ?_)
    · replace h := itT c h
      exact lkX5_readBracket_30 hn hRf hkq hd0 hrec hg hr  _ _ h
    · replace h := itF c h
      refine g_rload_n hg dX5_readBracket_21 rfl 0 rfl ?_
      refine g_getR (r := 3) hg fl_X5_18 ly5 rfl (idb rfl rfl hn) (rfc hRf rfl rfl rfl rfl) (by decide) dX5_readBracket_22 ?_
      refine g_iconst hg dX5_readBracket_25 kI_2 ?_
      obtain ⟨q26, e26, h⟩ := Option.bind_eq_some_iff.mp h
      refine g_callVi (As := [.int 2]) (rest := []) hg (lkX10_refuse (by omega) (Nat.le_trans (by decide : 5 ≤ 239) hn) (hRf.mono (by decide) (by decide))  e26) cv_X5_53 rfl ly3 (idb rfl rfl hn) rfl rfl (Nat.le_of_ble_eq_true rfl) ⟨Nat.le_refl _, Nat.le_refl _⟩ dX5_readBracket_26 ?_
      obtain ⟨c29, h⟩ := ck_some h
      replace h := Option.some.inj h
      subst h
      exact g_zret hg hr (isb_nar c29) dX5_readBracket_29
theorem lkX4_emit {l0 : Launch} {E : En} {d n : Nat} {Rf : Nat → Nat → Nat} {ex : Bool} {kq : Nat × Nat} (hd : 1 ≤ d) (hn : 239 ≤ n) (hRf : RfOk 1 239 kq Rf) {r0 : Nat} (hr0 : isKy r0) {x1 : Int32} {x2 : Int32} {x3 : Int32} {M : Mm} {q : Mm} (h : sX4_emit r0 x1 x2 x3 M = some q) : Ct l0 E yX4_emit cX4_emit 4 none d 0 0 [rr E.1 r0, .int x1, .int x2, .int x3] ex n Rf M n Rf none q := by
  obtain ⟨d, rfl⟩ := Nat.exists_eq_add_of_le' hd
  refine Ct.of pnX4 (Nat.le_of_ble_eq_true rfl) (fun g hg hr _ => ?_)
  replace hg : Ok g l0 E cX4_emit RX4 4 (d + 1) 0 0 := hg
  show WG g E 4 n Rf ex 0 0 0 [(0, rr E.1 r0), (1, .int x1), (2, .int x2), (3, .int x3)] [] M
  unfold sX4_emit at h
  refine g_rload_n hg dX4_emit_0 rfl 0 rfl ?_
  refine g_getI hg fl_X4_34 (ky_lay hr0) rfl (ky_bd hr0 hn) dX4_emit_1 ?_
  refine g_bipush hg dX4_emit_4 kB_96 ?_
  refine g_icmp_ge (tgt := 49) hg dX4_emit_6 (by decide) (fun c => ?_) (fun c => ?_)
  · replace h := itT c h
    replace h := Option.some.inj h
    subst h
    exact g_vret hg hr dX4_emit_49
  · replace h := itF c h
    refine g_rload_n hg dX4_emit_9 rfl 0 rfl ?_
    refine g_getR (r := (r0 + 1)) hg fl_X4_11 (ky_lay hr0) rfl (ky_bd hr0 hn) (ky_rf1 hr0 hRf) (Nat.succ_pos _) dX4_emit_10 ?_
    refine g_rload_n hg dX4_emit_13 rfl 0 rfl ?_
    refine g_getI hg fl_X4_34 (ky_lay hr0) rfl (ky_bd hr0 hn) dX4_emit_14 ?_
    refine g_iload_n hg dX4_emit_17 rfl 1 rfl ?_
    obtain ⟨c18, h⟩ := ck_some h
    refine g_iast hg (ky_lay1 hr0) (ky_bd1 hr0 hn) (inb_vp c18) dX4_emit_18 ?_
    refine g_rload_n hg dX4_emit_19 rfl 0 rfl ?_
    refine g_getR (r := (r0 + 2)) hg fl_X4_15 (ky_lay hr0) rfl (ky_bd hr0 hn) (ky_rf2 hr0 hRf) (Nat.succ_pos _) dX4_emit_20 ?_
    refine g_rload_n hg dX4_emit_23 rfl 0 rfl ?_
    refine g_getI hg fl_X4_34 (ky_lay hr0) rfl (ky_bd hr0 hn) dX4_emit_24 ?_
    refine g_iload_n hg dX4_emit_27 rfl 2 rfl ?_
    obtain ⟨c28, h⟩ := ck_some h
    refine g_iast hg (ky_lay2 hr0) (ky_bd2 hr0 hn) (inb_vp c28) dX4_emit_28 ?_
    refine g_rload_n hg dX4_emit_29 rfl 0 rfl ?_
    refine g_getR (r := (r0 + 3)) hg fl_X4_18 (ky_lay hr0) rfl (ky_bd hr0 hn) (ky_rf3 hr0 hRf) (Nat.succ_pos _) dX4_emit_30 ?_
    refine g_rload_n hg dX4_emit_33 rfl 0 rfl ?_
    refine g_getI hg fl_X4_34 (ky_lay hr0) rfl (ky_bd hr0 hn) dX4_emit_34 ?_
    refine g_iload_n hg dX4_emit_37 rfl 3 rfl ?_
    obtain ⟨c38, h⟩ := ck_some h
    refine g_iast hg (ky_lay3 hr0) (ky_bd3 hr0 hn) (inb_vp c38) dX4_emit_38 ?_
    refine g_rload_n hg dX4_emit_39 rfl 0 rfl ?_
    refine g_dup hg dX4_emit_40 rfl ?_
    refine g_getI hg fl_X4_34 (ky_lay hr0) rfl (ky_bd hr0 hn) dX4_emit_41 ?_
    refine g_iconst hg dX4_emit_44 kI_1 ?_
    refine g_iadd hg dX4_emit_45 ?_
    refine g_putI hg fp_X4_34 (ky_lay hr0) rfl (ky_bd hr0 hn) dX4_emit_46 ?_
    replace h := Option.some.inj h
    subst h
    exact g_vret hg hr dX4_emit_49
theorem lkX5_readCompare_89 {g : Gm} {l0 : Launch} {E : En} {d n : Nat} {Rf : Nat → Nat → Nat} {ex : Bool} {kq : Nat × Nat} (hn : 239 ≤ n) (hRf : RfOk 1 239 kq Rf) (hkq : isKq kq) (hg : Ok g l0 E cX5_readCompare RX5 4 (d + 4) 0 0) {q : Int32 × Mm} (hr : Ret g E 0 0 (some .boolean) ex n Rf (some (.int q.1)) q.2) : ∀ (x1 : Int32) (x2 : Int32) (M : Mm), sX5_readCompare_89 kq x1 x2 M = some q → WG g E 4 n Rf ex 0 0 89 [(0, rr E.1 5), (1, .int x1), (2, .int x2)] [] M := by
  intro x1 x2 M h
  unfold sX5_readCompare_89 at h
  refine g_rload_n hg dX5_readCompare_89 rfl 0 rfl ?_
  refine g_getR (r := 3) hg fl_X5_18 ly5 rfl (idb rfl rfl hn) (rfc hRf rfl rfl rfl rfl) (by decide) dX5_readCompare_90 ?_
  obtain ⟨M93, e93, h⟩ := Option.bind_eq_some_iff.mp h
  refine g_callVv (As := []) (rest := []) hg (lkX10_step (by omega) (Nat.le_trans (by decide : 5 ≤ 239) hn) (hRf.mono (by decide) (by decide))  e93) cv_X5_67 rfl ly3 (idb rfl rfl hn) rfl rfl (Nat.le_of_ble_eq_true rfl) ⟨Nat.le_refl _, Nat.le_refl _⟩ dX5_readCompare_93 ?_
  refine g_rload_n hg dX5_readCompare_96 rfl 0 rfl ?_
  refine g_getR (r := 3) hg fl_X5_18 ly5 rfl (idb rfl rfl hn) (rfc hRf rfl rfl rfl rfl) (by decide) dX5_readCompare_97 ?_
  refine g_sipush hg dX5_readCompare_100 kS_999 ?_
  obtain ⟨q103, e103, h⟩ := Option.bind_eq_some_iff.mp h
  refine g_callVi (As := [.int 999]) (rest := []) hg (lkX10_isNumberTo (by omega) (Nat.le_trans (by decide : 5 ≤ 239) hn) (hRf.mono (by decide) (by decide))  e103) cv_X5_103 rfl ly3 (idb rfl rfl hn) rfl rfl (Nat.le_of_ble_eq_true rfl) ⟨Nat.le_refl _, Nat.le_refl _⟩ dX5_readCompare_103 ?_
  refine g_if_ne (tgt := 111) hg dX5_readCompare_106 (by decide) (fun c => ?_) (fun c => ?_)
  · replace h := itF c h
    refine g_rload_n hg dX5_readCompare_111 rfl 0 rfl ?_
    refine g_getR (r := kq.2) hg fl_X5_12 ly5 rfl (idb rfl rfl hn) (rfc hRf rfl rfl rfl rfl) (ky_pos hkq.2) dX5_readCompare_112 ?_
    refine g_iload_n hg dX5_readCompare_115 rfl 1 rfl ?_
    refine g_iload_n hg dX5_readCompare_116 rfl 2 rfl ?_
    refine g_rload_n hg dX5_readCompare_117 rfl 0 rfl ?_
    refine g_getR (r := 3) hg fl_X5_18 ly5 rfl (idb rfl rfl hn) (rfc hRf rfl rfl rfl rfl) (by decide) dX5_readCompare_118 ?_
    refine g_getI hg fl_X5_50 ly3 rfl (idb rfl rfl hn) dX5_readCompare_121 ?_
    obtain ⟨M124, e124, h⟩ := Option.bind_eq_some_iff.mp h
    refine g_callVv (As := [.int x1, .int x2, .int (q103.2.1 3 6)]) (rest := []) hg (lkX4_emit (by omega) hn hRf hkq.2 e124) cv_X5_81 rfl (ky_lay hkq.2) (ky_bd hkq.2 hn) rfl rfl (Nat.le_of_ble_eq_true rfl) ⟨Nat.le_refl _, Nat.le_refl _⟩ dX5_readCompare_124 ?_
    refine g_rload_n hg dX5_readCompare_127 rfl 0 rfl ?_
    refine g_getR (r := 3) hg fl_X5_18 ly5 rfl (idb rfl rfl hn) (rfc hRf rfl rfl rfl rfl) (by decide) dX5_readCompare_128 ?_
    obtain ⟨M131, e131, h⟩ := Option.bind_eq_some_iff.mp h
    refine g_callVv (As := []) (rest := []) hg (lkX10_step (by omega) (Nat.le_trans (by decide : 5 ≤ 239) hn) (hRf.mono (by decide) (by decide))  e131) cv_X5_67 rfl ly3 (idb rfl rfl hn) rfl rfl (Nat.le_of_ble_eq_true rfl) ⟨Nat.le_refl _, Nat.le_refl _⟩ dX5_readCompare_131 ?_
    refine g_iconst hg dX5_readCompare_134 kI_1 ?_
    replace h := Option.some.inj h
    subst h
    exact g_zret hg hr rfl dX5_readCompare_135
  · replace h := itT c h
    refine g_iconst hg dX5_readCompare_109 kI_0 ?_
    replace h := Option.some.inj h
    subst h
    exact g_zret hg hr rfl dX5_readCompare_110
theorem lkX5_readCompare_49 {g : Gm} {l0 : Launch} {E : En} {d n : Nat} {Rf : Nat → Nat → Nat} {ex : Bool} {kq : Nat × Nat} (hn : 239 ≤ n) (hRf : RfOk 1 239 kq Rf) (hkq : isKq kq) (hg : Ok g l0 E cX5_readCompare RX5 4 (d + 4) 0 0) {q : Int32 × Mm} (hr : Ret g E 0 0 (some .boolean) ex n Rf (some (.int q.1)) q.2) : ∀ (x1 : Int32) (x2 : Int32) (s0 : Int32) (M : Mm), sX5_readCompare_49 kq x1 x2 s0 M = some q → WG g E 4 n Rf ex 0 0 49 [(0, rr E.1 5), (1, .int x1), (2, .int x2)] [.int s0] M := by
  intro x1 x2 s0 M h
  unfold sX5_readCompare_49 at h
  refine g_istore_n (lv' := [(3, .int s0), (0, rr E.1 5), (1, .int x1), (2, .int x2)]) hg dX5_readCompare_49 rfl (by decide) rfl ?_
  refine g_iload_n hg dX5_readCompare_50 rfl 0 rfl ?_
  refine g_if_ne (tgt := 89) hg dX5_readCompare_51 (by decide) (fun c => ?_) (fun c => ?_)
  · replace h := itF c h
    refine g_sub (lv' := [(0, rr E.1 5), (1, .int x1), (2, .int x2)]) [1, 2, 3] rfl ?_
    exact lkX5_readCompare_89 hn hRf hkq hg hr  _ _ _ h
  · replace h := itT c h
    refine g_rload_n hg dX5_readCompare_54 rfl 1 rfl ?_
    refine g_getR (r := 3) hg fl_X5_18 ly5 rfl (idb rfl rfl hn) (rfc hRf rfl rfl rfl rfl) (by decide) dX5_readCompare_55 ?_
    refine g_sipush hg dX5_readCompare_58 kS_316 ?_
    obtain ⟨q61, e61, h⟩ := Option.bind_eq_some_iff.mp h
    refine g_callVi (As := [.int 316]) (rest := []) hg (lkX10_isSign (by omega) (Nat.le_trans (by decide : 5 ≤ 239) hn) (hRf.mono (by decide) (by decide))  e61) cv_X5_88 rfl ly3 (idb rfl rfl hn) rfl rfl (Nat.le_of_ble_eq_true rfl) ⟨Nat.le_refl _, Nat.le_refl _⟩ dX5_readCompare_61 ?_
    refine g_if_ne (tgt := 89) hg dX5_readCompare_64 (by decide) (fun c => ?_) (fun c => ?_)
    · replace h := itF c h
      refine g_sub (lv' := [(0, rr E.1 5), (1, .int x1), (2, .int x2)]) [1, 2, 3] rfl ?_
      exact lkX5_readCompare_89 hn hRf hkq hg hr  _ _ _ h
    · replace h := itT c h
      refine g_rload_n hg dX5_readCompare_67 rfl 1 rfl ?_
      refine g_getR (r := 3) hg fl_X5_18 ly5 rfl (idb rfl rfl hn) (rfc hRf rfl rfl rfl rfl) (by decide) dX5_readCompare_68 ?_
      refine g_sipush hg dX5_readCompare_71 kS_318 ?_
      obtain ⟨q74, e74, h⟩ := Option.bind_eq_some_iff.mp h
      refine g_callVi (As := [.int 318]) (rest := []) hg (lkX10_isSign (by omega) (Nat.le_trans (by decide : 5 ≤ 239) hn) (hRf.mono (by decide) (by decide))  e74) cv_X5_88 rfl ly3 (idb rfl rfl hn) rfl rfl (Nat.le_of_ble_eq_true rfl) ⟨Nat.le_refl _, Nat.le_refl _⟩ dX5_readCompare_74 ?_
      refine g_if_ne (tgt := 89) hg dX5_readCompare_77 (by decide) (fun c => ?_) (fun c => ?_)
      · replace h := itF c h
        refine g_sub (lv' := [(0, rr E.1 5), (1, .int x1), (2, .int x2)]) [1, 2, 3] rfl ?_
        exact lkX5_readCompare_89 hn hRf hkq hg hr  _ _ _ h
      · replace h := itT c h
        refine g_rload_n hg dX5_readCompare_80 rfl 1 rfl ?_
        refine g_getR (r := 3) hg fl_X5_18 ly5 rfl (idb rfl rfl hn) (rfc hRf rfl rfl rfl rfl) (by decide) dX5_readCompare_81 ?_
        refine g_iconst hg dX5_readCompare_84 kI_1 ?_
        obtain ⟨q85, e85, h⟩ := Option.bind_eq_some_iff.mp h
        refine g_callVi (As := [.int 1]) (rest := []) hg (lkX10_refuse (by omega) (Nat.le_trans (by decide : 5 ≤ 239) hn) (hRf.mono (by decide) (by decide))  e85) cv_X5_53 rfl ly3 (idb rfl rfl hn) rfl rfl (Nat.le_of_ble_eq_true rfl) ⟨Nat.le_refl _, Nat.le_refl _⟩ dX5_readCompare_85 ?_
        obtain ⟨c88, h⟩ := ck_some h
        replace h := Option.some.inj h
        subst h
        exact g_zret hg hr (isb_nar c88) dX5_readCompare_88
theorem lkX5_readCompare_44 {g : Gm} {l0 : Launch} {E : En} {d n : Nat} {Rf : Nat → Nat → Nat} {ex : Bool} {kq : Nat × Nat} (hn : 239 ≤ n) (hRf : RfOk 1 239 kq Rf) (hkq : isKq kq) (hg : Ok g l0 E cX5_readCompare RX5 4 (d + 4) 0 0) {q : Int32 × Mm} (hr : Ret g E 0 0 (some .boolean) ex n Rf (some (.int q.1)) q.2) : ∀ (x1 : Int32) (x2 : Int32) (M : Mm), sX5_readCompare_44 kq x1 x2 M = some q → WG g E 4 n Rf ex 0 0 44 [(0, rr E.1 5), (1, .int x1), (2, .int x2)] [] M := by
  intro x1 x2 M h
  unfold sX5_readCompare_44 at h
  refine g_iconst hg dX5_readCompare_44 kI_1 ?_
  refine g_goto (tgt := 49) hg dX5_readCompare_45 (by decide) ?_
  exact lkX5_readCompare_49 hn hRf hkq hg hr  _ _ _ _ h
theorem lkX5_readCompare {l0 : Launch} {E : En} {d n : Nat} {Rf : Nat → Nat → Nat} {ex : Bool} {kq : Nat × Nat} (hd : 4 ≤ d) (hn : 239 ≤ n) (hRf : RfOk 1 239 kq Rf) (hkq : isKq kq) {x1 : Int32} {M : Mm} {q : Int32 × Mm} (h : sX5_readCompare kq x1 M = some q) : Ct l0 E yX5_readCompare cX5_readCompare 4 (some .boolean) d 0 0 [rr E.1 5, .int x1] ex n Rf M n Rf (some (.int q.1)) q.2 := by
  obtain ⟨d, rfl⟩ := Nat.exists_eq_add_of_le' hd
  refine Ct.of pnX5 (Nat.le_of_ble_eq_true rfl) (fun g hg hr _ => ?_)
  replace hg : Ok g l0 E cX5_readCompare RX5 4 (d + 4) 0 0 := hg
  show WG g E 4 n Rf ex 0 0 0 [(0, rr E.1 5), (1, .int x1)] [] M
  unfold sX5_readCompare at h
  refine g_rload_n hg dX5_readCompare_0 rfl 0 rfl ?_
  refine g_getR (r := 3) hg fl_X5_18 ly5 rfl (idb rfl rfl hn) (rfc hRf rfl rfl rfl rfl) (by decide) dX5_readCompare_1 ?_
  refine g_getI hg fl_X5_50 ly3 rfl (idb rfl rfl hn) dX5_readCompare_4 ?_
  refine g_istore_n (lv' := [(2, .int (M.1 3 6)), (0, rr E.1 5), (1, .int x1)]) hg dX5_readCompare_7 rfl (by decide) rfl ?_
  refine g_rload_n hg dX5_readCompare_8 rfl 1 rfl ?_
  refine g_getR (r := 3) hg fl_X5_18 ly5 rfl (idb rfl rfl hn) (rfc hRf rfl rfl rfl rfl) (by decide) dX5_readCompare_9 ?_
  refine g_bipush hg dX5_readCompare_12 kB_60 ?_
  obtain ⟨q14, e14, h⟩ := Option.bind_eq_some_iff.mp h
  refine g_callVi (As := [.int 60]) (rest := []) hg (lkX10_isSign (by omega) (Nat.le_trans (by decide : 5 ≤ 239) hn) (hRf.mono (by decide) (by decide))  e14) cv_X5_88 rfl ly3 (idb rfl rfl hn) rfl rfl (Nat.le_of_ble_eq_true rfl) ⟨Nat.le_refl _, Nat.le_refl _⟩ dX5_readCompare_14 ?_
  refine g_if_ne (tgt := 44) hg dX5_readCompare_17 (by decide) (fun c => ?_) (fun c => ?_)
  · replace h := itF c h
    refine g_sub (lv' := [(0, rr E.1 5), (1, .int x1), (2, .int (M.1 3 6))]) [1, 2, 0] rfl ?_
    exact lkX5_readCompare_44 hn hRf hkq hg hr  _ _ _ h
  · replace h := itT c h
    refine g_rload_n hg dX5_readCompare_20 rfl 1 rfl ?_
    refine g_getR (r := 3) hg fl_X5_18 ly5 rfl (idb rfl rfl hn) (rfc hRf rfl rfl rfl rfl) (by decide) dX5_readCompare_21 ?_
    refine g_bipush hg dX5_readCompare_24 kB_61 ?_
    obtain ⟨q26, e26, h⟩ := Option.bind_eq_some_iff.mp h
    refine g_callVi (As := [.int 61]) (rest := []) hg (lkX10_isSign (by omega) (Nat.le_trans (by decide : 5 ≤ 239) hn) (hRf.mono (by decide) (by decide))  e26) cv_X5_88 rfl ly3 (idb rfl rfl hn) rfl rfl (Nat.le_of_ble_eq_true rfl) ⟨Nat.le_refl _, Nat.le_refl _⟩ dX5_readCompare_26 ?_
    refine g_if_ne (tgt := 44) hg dX5_readCompare_29 (by decide) (fun c => ?_) (fun c => ?_)
    · replace h := itF c h
      refine g_sub (lv' := [(0, rr E.1 5), (1, .int x1), (2, .int (M.1 3 6))]) [1, 2, 0] rfl ?_
      exact lkX5_readCompare_44 hn hRf hkq hg hr  _ _ _ h
    · replace h := itT c h
      refine g_rload_n hg dX5_readCompare_32 rfl 1 rfl ?_
      refine g_getR (r := 3) hg fl_X5_18 ly5 rfl (idb rfl rfl hn) (rfc hRf rfl rfl rfl rfl) (by decide) dX5_readCompare_33 ?_
      refine g_bipush hg dX5_readCompare_36 kB_62 ?_
      obtain ⟨q38, e38, h⟩ := Option.bind_eq_some_iff.mp h
      refine g_callVi (As := [.int 62]) (rest := []) hg (lkX10_isSign (by omega) (Nat.le_trans (by decide : 5 ≤ 239) hn) (hRf.mono (by decide) (by decide))  e38) cv_X5_88 rfl ly3 (idb rfl rfl hn) rfl rfl (Nat.le_of_ble_eq_true rfl) ⟨Nat.le_refl _, Nat.le_refl _⟩ dX5_readCompare_38 ?_
      refine g_if_eq (tgt := 48) hg dX5_readCompare_41 (by decide) (fun c => ?_) (fun c => ?_)
      · replace h := itT c h
        refine g_iconst hg dX5_readCompare_48 kI_0 ?_
        refine g_sub (lv' := [(0, rr E.1 5), (1, .int x1), (2, .int (M.1 3 6))]) [1, 2, 0] rfl ?_
        exact lkX5_readCompare_49 hn hRf hkq hg hr  _ _ _ _ h
      · replace h := itF c h
        refine g_sub (lv' := [(0, rr E.1 5), (1, .int x1), (2, .int (M.1 3 6))]) [1, 2, 0] rfl ?_
        exact lkX5_readCompare_44 hn hRf hkq hg hr  _ _ _ h
theorem lkX5_readOfLayer_58 {g : Gm} {l0 : Launch} {E : En} {d n : Nat} {Rf : Nat → Nat → Nat} {ex : Bool} {kq : Nat × Nat} (hn : 239 ≤ n) (hRf : RfOk 1 239 kq Rf) (hkq : isKq kq) (hg : Ok g l0 E cX5_readOfLayer RX5 3 (d + 5) 0 0) {q : Int32 × Mm} (hr : Ret g E 0 0 (some .boolean) ex n Rf (some (.int q.1)) q.2) : ∀ (x1 : Int32) (M : Mm), sX5_readOfLayer_58 kq x1 M = some q → WG g E 3 n Rf ex 0 0 58 [(0, rr E.1 5), (1, .int x1)] [] M := by
  intro x1 M h
  unfold sX5_readOfLayer_58 at h
  refine g_rload_n hg dX5_readOfLayer_58 rfl 0 rfl ?_
  refine g_getR (r := 3) hg fl_X5_18 ly5 rfl (idb rfl rfl hn) (rfc hRf rfl rfl rfl rfl) (by decide) dX5_readOfLayer_59 ?_
  refine g_getI hg fl_X5_50 ly3 rfl (idb rfl rfl hn) dX5_readOfLayer_62 ?_
  refine g_istore_n (lv' := [(2, .int (M.1 3 6)), (0, rr E.1 5), (1, .int x1)]) hg dX5_readOfLayer_65 rfl (by decide) rfl ?_
  refine g_rload_n hg dX5_readOfLayer_66 rfl 1 rfl ?_
  obtain ⟨q67, e67, h⟩ := Option.bind_eq_some_iff.mp h
  refine g_callVi (As := []) (rest := []) hg (lkX5_takeKnot (by omega) hn hRf hkq  e67) cv_X5_77 rfl ly5 (idb rfl rfl hn) rfl rfl (Nat.le_of_ble_eq_true rfl) ⟨Nat.le_refl _, Nat.le_refl _⟩ dX5_readOfLayer_67 ?_
  refine g_if_ne (tgt := 75) hg dX5_readOfLayer_70 (by decide) (fun c => ?_) (fun c => ?_)
  · replace h := itF c h
    refine g_iload_n hg dX5_readOfLayer_75 rfl 2 rfl ?_
    refine g_if_eq (tgt := 85) hg dX5_readOfLayer_76 (by decide) (fun c => ?_) (fun c => ?_)
    · replace h := itT c h
      refine g_rload_n hg dX5_readOfLayer_85 rfl 1 rfl ?_
      refine g_getR (r := kq.2) hg fl_X5_12 ly5 rfl (idb rfl rfl hn) (rfc hRf rfl rfl rfl rfl) (ky_pos hkq.2) dX5_readOfLayer_86 ?_
      refine g_iload_n hg dX5_readOfLayer_89 rfl 0 rfl ?_
      refine g_iconst hg dX5_readOfLayer_90 kI_0 ?_
      refine g_iconst hg dX5_readOfLayer_91 kI_0 ?_
      obtain ⟨M92, e92, h⟩ := Option.bind_eq_some_iff.mp h
      refine g_callVv (As := [.int (M.1 3 6), .int 0, .int 0]) (rest := []) hg (lkX4_emit (by omega) hn hRf hkq.2 e92) cv_X5_81 rfl (ky_lay hkq.2) (ky_bd hkq.2 hn) rfl rfl (Nat.le_of_ble_eq_true rfl) ⟨Nat.le_refl _, Nat.le_refl _⟩ dX5_readOfLayer_92 ?_
      refine g_iconst hg dX5_readOfLayer_95 kI_1 ?_
      replace h := Option.some.inj h
      subst h
      exact g_zret hg hr rfl dX5_readOfLayer_96
    · replace h := itF c h
      refine g_rload_n hg dX5_readOfLayer_79 rfl 1 rfl ?_
      refine g_iload_n hg dX5_readOfLayer_80 rfl 0 rfl ?_
      obtain ⟨q81, e81, h⟩ := Option.bind_eq_some_iff.mp h
      refine g_callVi (As := [.int (M.1 3 6)]) (rest := []) hg (lkX5_readCompare (by omega) hn hRf hkq  e81) cv_X5_100 rfl ly5 (idb rfl rfl hn) rfl rfl (Nat.le_of_ble_eq_true rfl) ⟨Nat.le_refl _, Nat.le_refl _⟩ dX5_readOfLayer_81 ?_
      obtain ⟨c84, h⟩ := ck_some h
      replace h := Option.some.inj h
      subst h
      exact g_zret hg hr (isb_nar c84) dX5_readOfLayer_84
  · replace h := itT c h
    refine g_iconst hg dX5_readOfLayer_73 kI_0 ?_
    replace h := Option.some.inj h
    subst h
    exact g_zret hg hr rfl dX5_readOfLayer_74
theorem lkX5_readOfLayer_31 {g : Gm} {l0 : Launch} {E : En} {d n : Nat} {Rf : Nat → Nat → Nat} {ex : Bool} {kq : Nat × Nat} (hn : 239 ≤ n) (hRf : RfOk 1 239 kq Rf) (hkq : isKq kq) (hg : Ok g l0 E cX5_readOfLayer RX5 3 (d + 5) 0 0) {q : Int32 × Mm} (hr : Ret g E 0 0 (some .boolean) ex n Rf (some (.int q.1)) q.2) : ∀ (s0 : Int32) (M : Mm), sX5_readOfLayer_31 kq s0 M = some q → WG g E 3 n Rf ex 0 0 31 [(0, rr E.1 5)] [.int s0] M := by
  intro s0 M h
  unfold sX5_readOfLayer_31 at h
  refine g_istore_n (lv' := [(1, .int s0), (0, rr E.1 5)]) hg dX5_readOfLayer_31 rfl (by decide) rfl ?_
  refine g_iload_n hg dX5_readOfLayer_32 rfl 0 rfl ?_
  refine g_if_ne (tgt := 58) hg dX5_readOfLayer_33 (by decide) (fun c => ?_) (fun c => ?_)
  · replace h := itF c h
    refine g_sub (lv' := [(0, rr E.1 5), (1, .int s0)]) [1, 0] rfl ?_
    exact lkX5_readOfLayer_58 hn hRf hkq hg hr  _ _ h
  · replace h := itT c h
    refine g_rload_n hg dX5_readOfLayer_36 rfl 1 rfl ?_
    refine g_getR (r := 3) hg fl_X5_18 ly5 rfl (idb rfl rfl hn) (rfc hRf rfl rfl rfl rfl) (by decide) dX5_readOfLayer_37 ?_
    refine g_iconst hg dX5_readOfLayer_40 kI_0 ?_
    refine g_bipush hg dX5_readOfLayer_41 kB_12 ?_
    obtain ⟨q43, e43, h⟩ := Option.bind_eq_some_iff.mp h
    refine g_callVi (As := [.int 0, .int 12]) (rest := []) hg (lkX10_isWord (by omega) (Nat.le_trans (by decide : 5 ≤ 239) hn) (hRf.mono (by decide) (by decide))  e43) cv_X5_73 rfl ly3 (idb rfl rfl hn) rfl rfl (Nat.le_of_ble_eq_true rfl) ⟨Nat.le_refl _, Nat.le_refl _⟩ dX5_readOfLayer_43 ?_
    refine g_if_ne (tgt := 58) hg dX5_readOfLayer_46 (by decide) (fun c => ?_) (fun c => ?_)
    · replace h := itF c h
      refine g_sub (lv' := [(0, rr E.1 5), (1, .int s0)]) [1, 0] rfl ?_
      exact lkX5_readOfLayer_58 hn hRf hkq hg hr  _ _ h
    · replace h := itT c h
      refine g_rload_n hg dX5_readOfLayer_49 rfl 1 rfl ?_
      refine g_getR (r := 3) hg fl_X5_18 ly5 rfl (idb rfl rfl hn) (rfc hRf rfl rfl rfl rfl) (by decide) dX5_readOfLayer_50 ?_
      refine g_iconst hg dX5_readOfLayer_53 kI_1 ?_
      obtain ⟨q54, e54, h⟩ := Option.bind_eq_some_iff.mp h
      refine g_callVi (As := [.int 1]) (rest := []) hg (lkX10_refuse (by omega) (Nat.le_trans (by decide : 5 ≤ 239) hn) (hRf.mono (by decide) (by decide))  e54) cv_X5_53 rfl ly3 (idb rfl rfl hn) rfl rfl (Nat.le_of_ble_eq_true rfl) ⟨Nat.le_refl _, Nat.le_refl _⟩ dX5_readOfLayer_54 ?_
      obtain ⟨c57, h⟩ := ck_some h
      replace h := Option.some.inj h
      subst h
      exact g_zret hg hr (isb_nar c57) dX5_readOfLayer_57
theorem lkX5_readOfLayer_26 {g : Gm} {l0 : Launch} {E : En} {d n : Nat} {Rf : Nat → Nat → Nat} {ex : Bool} {kq : Nat × Nat} (hn : 239 ≤ n) (hRf : RfOk 1 239 kq Rf) (hkq : isKq kq) (hg : Ok g l0 E cX5_readOfLayer RX5 3 (d + 5) 0 0) {q : Int32 × Mm} (hr : Ret g E 0 0 (some .boolean) ex n Rf (some (.int q.1)) q.2) : ∀  (M : Mm), sX5_readOfLayer_26 kq  M = some q → WG g E 3 n Rf ex 0 0 26 [(0, rr E.1 5)] [] M := by
  intro M h
  unfold sX5_readOfLayer_26 at h
  refine g_iconst hg dX5_readOfLayer_26 kI_1 ?_
  refine g_goto (tgt := 31) hg dX5_readOfLayer_27 (by decide) ?_
  exact lkX5_readOfLayer_31 hn hRf hkq hg hr  _ _ h
theorem lkX5_readOfLayer {l0 : Launch} {E : En} {d n : Nat} {Rf : Nat → Nat → Nat} {ex : Bool} {kq : Nat × Nat} (hd : 5 ≤ d) (hn : 239 ≤ n) (hRf : RfOk 1 239 kq Rf) (hkq : isKq kq)  {M : Mm} {q : Int32 × Mm} (h : sX5_readOfLayer kq M = some q) : Ct l0 E yX5_readOfLayer cX5_readOfLayer 3 (some .boolean) d 0 0 [rr E.1 5] ex n Rf M n Rf (some (.int q.1)) q.2 := by
  obtain ⟨d, rfl⟩ := Nat.exists_eq_add_of_le' hd
  refine Ct.of pnX5 (Nat.le_of_ble_eq_true rfl) (fun g hg hr _ => ?_)
  replace hg : Ok g l0 E cX5_readOfLayer RX5 3 (d + 5) 0 0 := hg
  show WG g E 3 n Rf ex 0 0 0 [(0, rr E.1 5)] [] M
  unfold sX5_readOfLayer at h
  refine g_rload_n hg dX5_readOfLayer_0 rfl 0 rfl ?_
  refine g_getR (r := 3) hg fl_X5_18 ly5 rfl (idb rfl rfl hn) (rfc hRf rfl rfl rfl rfl) (by decide) dX5_readOfLayer_1 ?_
  refine g_bipush hg dX5_readOfLayer_4 kB_12 ?_
  refine g_iconst hg dX5_readOfLayer_6 kI_1 ?_
  obtain ⟨q7, e7, h⟩ := Option.bind_eq_some_iff.mp h
  refine g_callVi (As := [.int 12, .int 1]) (rest := []) hg (lkX10_isWord (by omega) (Nat.le_trans (by decide : 5 ≤ 239) hn) (hRf.mono (by decide) (by decide))  e7) cv_X5_73 rfl ly3 (idb rfl rfl hn) rfl rfl (Nat.le_of_ble_eq_true rfl) ⟨Nat.le_refl _, Nat.le_refl _⟩ dX5_readOfLayer_7 ?_
  refine g_if_ne (tgt := 26) hg dX5_readOfLayer_10 (by decide) (fun c => ?_) (fun c => ?_)
  · replace h := itF c h
    exact lkX5_readOfLayer_26 hn hRf hkq hg hr  _ h
  · replace h := itT c h
    refine g_rload_n hg dX5_readOfLayer_13 rfl 0 rfl ?_
    refine g_getR (r := 3) hg fl_X5_18 ly5 rfl (idb rfl rfl hn) (rfc hRf rfl rfl rfl rfl) (by decide) dX5_readOfLayer_14 ?_
    refine g_bipush hg dX5_readOfLayer_17 kB_13 ?_
    refine g_iconst hg dX5_readOfLayer_19 kI_1 ?_
    obtain ⟨q20, e20, h⟩ := Option.bind_eq_some_iff.mp h
    refine g_callVi (As := [.int 13, .int 1]) (rest := []) hg (lkX10_isWord (by omega) (Nat.le_trans (by decide : 5 ≤ 239) hn) (hRf.mono (by decide) (by decide))  e20) cv_X5_73 rfl ly3 (idb rfl rfl hn) rfl rfl (Nat.le_of_ble_eq_true rfl) ⟨Nat.le_refl _, Nat.le_refl _⟩ dX5_readOfLayer_20 ?_
    refine g_if_eq (tgt := 30) hg dX5_readOfLayer_23 (by decide) (fun c => ?_) (fun c => ?_)
    · replace h := itT c h
      refine g_iconst hg dX5_readOfLayer_30 kI_0 ?_
      exact lkX5_readOfLayer_31 hn hRf hkq hg hr  _ _ h
    · replace h := itF c h
      exact lkX5_readOfLayer_26 hn hRf hkq hg hr  _ h
theorem lkX5_readOfBore_118 {g : Gm} {l0 : Launch} {E : En} {d n : Nat} {Rf : Nat → Nat → Nat} {ex : Bool} {kq : Nat × Nat} (hn : 239 ≤ n) (hRf : RfOk 1 239 kq Rf) (hkq : isKq kq) {d0 : Nat} (hd0 : d0 ≤ d) {rec : Int32 → Mm → Option (Int32 × Mm)} (hrec : ∀ d', d0 ≤ d' → ∀ {x1 : Int32} {M : Mm} {q : Int32 × Mm}, rec x1 M = some q → Ct l0 E yX5_readEither cX5_readEither 3 (some .boolean) d' 0 0 [rr E.1 5, .int x1] ex n Rf M n Rf (some (.int q.1)) q.2) (hg : Ok g l0 E cX5_readOfBore RX5 3 (d + 6) 0 0) {q : Int32 × Mm} (hr : Ret g E 0 0 (some .boolean) ex n Rf (some (.int q.1)) q.2) : ∀ (x1 : Int32) (M : Mm), sX5_readOfBore_118 rec kq x1 M = some q → WG g E 3 n Rf ex 0 0 118 [(0, rr E.1 5), (1, .int x1)] [] M := by
  intro x1 M h
  unfold sX5_readOfBore_118 at h
  refine g_rload_n hg dX5_readOfBore_118 rfl 0 rfl ?_
  refine g_iload_n hg dX5_readOfBore_119 rfl 1 rfl ?_
  obtain ⟨q120, e120, h⟩ := Option.bind_eq_some_iff.mp h
  refine g_callVi (As := [.int x1]) (rest := []) hg (lkX5_readCompare (by omega) hn hRf hkq  e120) cv_X5_100 rfl ly5 (idb rfl rfl hn) rfl rfl (Nat.le_of_ble_eq_true rfl) ⟨Nat.le_refl _, Nat.le_refl _⟩ dX5_readOfBore_120 ?_
  obtain ⟨c123, h⟩ := ck_some h
  replace h := Option.some.inj h
  subst h
  exact g_zret hg hr (isb_nar c123) dX5_readOfBore_123
theorem lkX5_readOfBore_100 {g : Gm} {l0 : Launch} {E : En} {d n : Nat} {Rf : Nat → Nat → Nat} {ex : Bool} {kq : Nat × Nat} (hn : 239 ≤ n) (hRf : RfOk 1 239 kq Rf) (hkq : isKq kq) {d0 : Nat} (hd0 : d0 ≤ d) {rec : Int32 → Mm → Option (Int32 × Mm)} (hrec : ∀ d', d0 ≤ d' → ∀ {x1 : Int32} {M : Mm} {q : Int32 × Mm}, rec x1 M = some q → Ct l0 E yX5_readEither cX5_readEither 3 (some .boolean) d' 0 0 [rr E.1 5, .int x1] ex n Rf M n Rf (some (.int q.1)) q.2) (hg : Ok g l0 E cX5_readOfBore RX5 3 (d + 6) 0 0) {q : Int32 × Mm} (hr : Ret g E 0 0 (some .boolean) ex n Rf (some (.int q.1)) q.2) : ∀ (x1 : Int32) (x2 : Int32) (M : Mm), sX5_readOfBore_100 rec kq x1 x2 M = some q → WG g E 3 n Rf ex 0 0 100 [(0, rr E.1 5), (1, .int x1), (2, .int x2)] [] M := by
  intro x1 x2 M h
  unfold sX5_readOfBore_100 at h
  refine g_iload_n hg dX5_readOfBore_100 rfl 1 rfl ?_
  refine g_bipush hg dX5_readOfBore_101 kB_21 ?_
  refine g_icmp_eq (tgt := 118) hg dX5_readOfBore_103 (by decide) (fun c => ?_) (fun c => ?_)
  · replace h := itT c h
    refine g_sub (lv' := [(0, rr E.1 5), (1, .int x1)]) [0, 1] rfl ?_
    exact lkX5_readOfBore_118 hn hRf hkq hd0 hrec hg hr  _ _ h
  · replace h := itF c h
    refine g_iload_n hg dX5_readOfBore_106 rfl 1 rfl ?_
    refine g_bipush hg dX5_readOfBore_107 kB_22 ?_
    refine g_icmp_eq (tgt := 118) hg dX5_readOfBore_109 (by decide) (fun c => ?_) (fun c => ?_)
    · replace h := itT c h
      refine g_sub (lv' := [(0, rr E.1 5), (1, .int x1)]) [0, 1] rfl ?_
      exact lkX5_readOfBore_118 hn hRf hkq hd0 hrec hg hr  _ _ h
    · replace h := itF c h
      refine g_iload_n hg dX5_readOfBore_112 rfl 1 rfl ?_
      refine g_bipush hg dX5_readOfBore_113 kB_23 ?_
      refine g_icmp_ne (tgt := 124) hg dX5_readOfBore_115 (by decide) (fun c => ?_) (fun c => ?_)
      · replace h := itF c h
        refine g_rload_n hg dX5_readOfBore_124 rfl 0 rfl ?_
        refine g_getR (r := kq.2) hg fl_X5_12 ly5 rfl (idb rfl rfl hn) (rfc hRf rfl rfl rfl rfl) (ky_pos hkq.2) dX5_readOfBore_125 ?_
        refine g_iload_n hg dX5_readOfBore_128 rfl 1 rfl ?_
        refine g_iconst hg dX5_readOfBore_129 kI_0 ?_
        refine g_iload_n hg dX5_readOfBore_130 rfl 2 rfl ?_
        obtain ⟨M131, e131, h⟩ := Option.bind_eq_some_iff.mp h
        refine g_callVv (As := [.int x1, .int 0, .int x2]) (rest := []) hg (lkX4_emit (by omega) hn hRf hkq.2 e131) cv_X5_81 rfl (ky_lay hkq.2) (ky_bd hkq.2 hn) rfl rfl (Nat.le_of_ble_eq_true rfl) ⟨Nat.le_refl _, Nat.le_refl _⟩ dX5_readOfBore_131 ?_
        refine g_iconst hg dX5_readOfBore_134 kI_1 ?_
        replace h := Option.some.inj h
        subst h
        exact g_zret hg hr rfl dX5_readOfBore_135
      · replace h := itT c h
        refine g_sub (lv' := [(0, rr E.1 5), (1, .int x1)]) [0, 1] rfl ?_
        exact lkX5_readOfBore_118 hn hRf hkq hd0 hrec hg hr  _ _ h
theorem lkX5_readOfBore_78 {g : Gm} {l0 : Launch} {E : En} {d n : Nat} {Rf : Nat → Nat → Nat} {ex : Bool} {kq : Nat × Nat} (hn : 239 ≤ n) (hRf : RfOk 1 239 kq Rf) (hkq : isKq kq) {d0 : Nat} (hd0 : d0 ≤ d) {rec : Int32 → Mm → Option (Int32 × Mm)} (hrec : ∀ d', d0 ≤ d' → ∀ {x1 : Int32} {M : Mm} {q : Int32 × Mm}, rec x1 M = some q → Ct l0 E yX5_readEither cX5_readEither 3 (some .boolean) d' 0 0 [rr E.1 5, .int x1] ex n Rf M n Rf (some (.int q.1)) q.2) (hg : Ok g l0 E cX5_readOfBore RX5 3 (d + 6) 0 0) {q : Int32 × Mm} (hr : Ret g E 0 0 (some .boolean) ex n Rf (some (.int q.1)) q.2) : ∀ (x1 : Int32) (x2 : Int32) (M : Mm), sX5_readOfBore_78 rec kq x1 x2 M = some q → WG g E 3 n Rf ex 0 0 78 [(0, rr E.1 5), (1, .int x1), (2, .int x2)] [] M := by
  intro x1 x2 M h
  unfold sX5_readOfBore_78 at h
  refine g_iload_n hg dX5_readOfBore_78 rfl 1 rfl ?_
  refine g_bipush hg dX5_readOfBore_79 kB_17 ?_
  refine g_icmp_eq (tgt := 100) hg dX5_readOfBore_81 (by decide) (fun c => ?_) (fun c => ?_)
  · replace h := itT c h
    exact lkX5_readOfBore_100 hn hRf hkq hd0 hrec hg hr  _ _ _ h
  · replace h := itF c h
    refine g_iload_n hg dX5_readOfBore_84 rfl 1 rfl ?_
    refine g_bipush hg dX5_readOfBore_85 kB_23 ?_
    refine g_icmp_eq (tgt := 100) hg dX5_readOfBore_87 (by decide) (fun c => ?_) (fun c => ?_)
    · replace h := itT c h
      exact lkX5_readOfBore_100 hn hRf hkq hd0 hrec hg hr  _ _ _ h
    · replace h := itF c h
      refine g_rload_n hg dX5_readOfBore_90 rfl 0 rfl ?_
      refine g_iconst hg dX5_readOfBore_91 kI_1 ?_
      obtain ⟨q92, e92, h⟩ := Option.bind_eq_some_iff.mp h
      refine g_callVi (As := [.int 1]) (rest := []) hg (lkX5_readBracket (by omega) hn hRf hkq hrec  e92) cv_X5_91 rfl ly5 (idb rfl rfl hn) rfl rfl (Nat.le_of_ble_eq_true rfl) ⟨Nat.le_refl _, Nat.le_refl _⟩ dX5_readOfBore_92 ?_
      refine g_if_ne (tgt := 100) hg dX5_readOfBore_95 (by decide) (fun c => ?_) (fun c => ?_)
      · replace h := itF c h
        exact lkX5_readOfBore_100 hn hRf hkq hd0 hrec hg hr  _ _ _ h
      · replace h := itT c h
        refine g_iconst hg dX5_readOfBore_98 kI_0 ?_
        replace h := Option.some.inj h
        subst h
        exact g_zret hg hr rfl dX5_readOfBore_99
theorem lkX5_readOfBore {d0 : Nat} {l0 : Launch} {E : En} {d n : Nat} {Rf : Nat → Nat → Nat} {ex : Bool} {kq : Nat × Nat} (hd : d0 + 6 ≤ d) (hn : 239 ≤ n) (hRf : RfOk 1 239 kq Rf) (hkq : isKq kq) {rec : Int32 → Mm → Option (Int32 × Mm)} (hrec : ∀ d', d0 ≤ d' → ∀ {x1 : Int32} {M : Mm} {q : Int32 × Mm}, rec x1 M = some q → Ct l0 E yX5_readEither cX5_readEither 3 (some .boolean) d' 0 0 [rr E.1 5, .int x1] ex n Rf M n Rf (some (.int q.1)) q.2)  {M : Mm} {q : Int32 × Mm} (h : sX5_readOfBore rec kq M = some q) : Ct l0 E yX5_readOfBore cX5_readOfBore 3 (some .boolean) d 0 0 [rr E.1 5] ex n Rf M n Rf (some (.int q.1)) q.2 := by
  obtain ⟨d, hd0, rfl⟩ : ∃ e, d0 ≤ e ∧ d = e + 6 := ⟨d - 6, by omega, by omega⟩
  refine Ct.of pnX5 (Nat.le_of_ble_eq_true rfl) (fun g hg hr _ => ?_)
  replace hg : Ok g l0 E cX5_readOfBore RX5 3 (d + 6) 0 0 := hg
  show WG g E 3 n Rf ex 0 0 0 [(0, rr E.1 5)] [] M
  unfold sX5_readOfBore at h
  refine g_rload_n hg dX5_readOfBore_0 rfl 0 rfl ?_
  refine g_getR (r := 3) hg fl_X5_18 ly5 rfl (idb rfl rfl hn) (rfc hRf rfl rfl rfl rfl) (by decide) dX5_readOfBore_1 ?_
  refine g_bipush hg dX5_readOfBore_4 kB_17 ?_
  refine g_bipush hg dX5_readOfBore_6 kB_7 ?_
  obtain ⟨q8, e8, h⟩ := Option.bind_eq_some_iff.mp h
  refine g_callVi (As := [.int 17, .int 7]) (rest := []) hg (lkX10_isWord (by omega) (Nat.le_trans (by decide : 5 ≤ 239) hn) (hRf.mono (by decide) (by decide))  e8) cv_X5_73 rfl ly3 (idb rfl rfl hn) rfl rfl (Nat.le_of_ble_eq_true rfl) ⟨Nat.le_refl _, Nat.le_refl _⟩ dX5_readOfBore_8 ?_
  refine g_if_ne (tgt := 23) hg dX5_readOfBore_11 (by decide) (fun c => ?_) (fun c => ?_)
  · replace h := itF c h
    refine g_rload_n hg dX5_readOfBore_23 rfl 0 rfl ?_
    refine g_getR (r := 3) hg fl_X5_18 ly5 rfl (idb rfl rfl hn) (rfc hRf rfl rfl rfl rfl) (by decide) dX5_readOfBore_24 ?_
    refine g_getI hg fl_X5_50 ly3 rfl (idb rfl rfl hn) dX5_readOfBore_27 ?_
    refine g_istore_n (lv' := [(1, .int (q8.2.1 3 6)), (0, rr E.1 5)]) hg dX5_readOfBore_30 rfl (by decide) rfl ?_
    refine g_iconst hg dX5_readOfBore_31 kI_0 ?_
    refine g_istore_n (lv' := [(2, .int 0), (1, .int (q8.2.1 3 6)), (0, rr E.1 5)]) hg dX5_readOfBore_32 rfl (by decide) rfl ?_
    refine g_rload_n hg dX5_readOfBore_33 rfl 2 rfl ?_
    obtain ⟨q34, e34, h⟩ := Option.bind_eq_some_iff.mp h
    refine g_callVi (As := []) (rest := []) hg (lkX5_takeKnot (by omega) hn hRf hkq  e34) cv_X5_77 rfl ly5 (idb rfl rfl hn) rfl rfl (Nat.le_of_ble_eq_true rfl) ⟨Nat.le_refl _, Nat.le_refl _⟩ dX5_readOfBore_34 ?_
    refine g_if_ne (tgt := 42) hg dX5_readOfBore_37 (by decide) (fun c => ?_) (fun c => ?_)
    · replace h := itF c h
      refine g_iload_n hg dX5_readOfBore_42 rfl 1 rfl ?_
      refine g_bipush hg dX5_readOfBore_43 kB_20 ?_
      refine g_icmp_ne (tgt := 78) hg dX5_readOfBore_45 (by decide) (fun c => ?_) (fun c => ?_)
      · replace h := itF c h
        refine g_sub (lv' := [(0, rr E.1 5), (1, .int (q8.2.1 3 6)), (2, .int 0)]) [2, 1, 0] rfl ?_
        exact lkX5_readOfBore_78 hn hRf hkq hd0 hrec hg hr  _ _ _ h
      · replace h := itT c h
        refine g_rload_n hg dX5_readOfBore_48 rfl 2 rfl ?_
        refine g_getR (r := 3) hg fl_X5_18 ly5 rfl (idb rfl rfl hn) (rfc hRf rfl rfl rfl rfl) (by decide) dX5_readOfBore_49 ?_
        refine g_sipush hg dX5_readOfBore_52 kS_999 ?_
        obtain ⟨q55, e55, h⟩ := Option.bind_eq_some_iff.mp h
        refine g_callVi (As := [.int 999]) (rest := []) hg (lkX10_isNumberTo (by omega) (Nat.le_trans (by decide : 5 ≤ 239) hn) (hRf.mono (by decide) (by decide))  e55) cv_X5_103 rfl ly3 (idb rfl rfl hn) rfl rfl (Nat.le_of_ble_eq_true rfl) ⟨Nat.le_refl _, Nat.le_refl _⟩ dX5_readOfBore_55 ?_
        refine g_if_ne (tgt := 63) hg dX5_readOfBore_58 (by decide) (fun c => ?_) (fun c => ?_)
        · replace h := itF c h
          refine g_rload_n hg dX5_readOfBore_63 rfl 2 rfl ?_
          refine g_getR (r := 3) hg fl_X5_18 ly5 rfl (idb rfl rfl hn) (rfc hRf rfl rfl rfl rfl) (by decide) dX5_readOfBore_64 ?_
          refine g_getI hg fl_X5_50 ly3 rfl (idb rfl rfl hn) dX5_readOfBore_67 ?_
          refine g_istore_n (lv' := [(2, .int (q55.2.1 3 6)), (1, .int (q8.2.1 3 6)), (0, rr E.1 5)]) hg dX5_readOfBore_70 rfl (by decide) rfl ?_
          refine g_rload_n hg dX5_readOfBore_71 rfl 2 rfl ?_
          refine g_getR (r := 3) hg fl_X5_18 ly5 rfl (idb rfl rfl hn) (rfc hRf rfl rfl rfl rfl) (by decide) dX5_readOfBore_72 ?_
          obtain ⟨M75, e75, h⟩ := Option.bind_eq_some_iff.mp h
          refine g_callVv (As := []) (rest := []) hg (lkX10_step (by omega) (Nat.le_trans (by decide : 5 ≤ 239) hn) (hRf.mono (by decide) (by decide))  e75) cv_X5_67 rfl ly3 (idb rfl rfl hn) rfl rfl (Nat.le_of_ble_eq_true rfl) ⟨Nat.le_refl _, Nat.le_refl _⟩ dX5_readOfBore_75 ?_
          refine g_sub (lv' := [(0, rr E.1 5), (1, .int (q8.2.1 3 6)), (2, .int (q55.2.1 3 6))]) [2, 1, 0] rfl ?_
          exact lkX5_readOfBore_78 hn hRf hkq hd0 hrec hg hr  _ _ _ h
        · replace h := itT c h
          refine g_iconst hg dX5_readOfBore_61 kI_0 ?_
          replace h := Option.some.inj h
          subst h
          exact g_zret hg hr rfl dX5_readOfBore_62
    · replace h := itT c h
      refine g_iconst hg dX5_readOfBore_40 kI_0 ?_
      replace h := Option.some.inj h
      subst h
      exact g_zret hg hr rfl dX5_readOfBore_41
  · replace h := itT c h
    refine g_rload_n hg dX5_readOfBore_14 rfl 0 rfl ?_
    refine g_getR (r := 3) hg fl_X5_18 ly5 rfl (idb rfl rfl hn) (rfc hRf rfl rfl rfl rfl) (by decide) dX5_readOfBore_15 ?_
    refine g_iconst hg dX5_readOfBore_18 kI_1 ?_
    obtain ⟨q19, e19, h⟩ := Option.bind_eq_some_iff.mp h
    refine g_callVi (As := [.int 1]) (rest := []) hg (lkX10_refuse (by omega) (Nat.le_trans (by decide : 5 ≤ 239) hn) (hRf.mono (by decide) (by decide))  e19) cv_X5_53 rfl ly3 (idb rfl rfl hn) rfl rfl (Nat.le_of_ble_eq_true rfl) ⟨Nat.le_refl _, Nat.le_refl _⟩ dX5_readOfBore_19 ?_
    obtain ⟨c22, h⟩ := ck_some h
    replace h := Option.some.inj h
    subst h
    exact g_zret hg hr (isb_nar c22) dX5_readOfBore_22
theorem lkX5_readMaybeNot_71 {g : Gm} {l0 : Launch} {E : En} {d n : Nat} {Rf : Nat → Nat → Nat} {ex : Bool} {kq : Nat × Nat} (hn : 239 ≤ n) (hRf : RfOk 1 239 kq Rf) (hkq : isKq kq) {d0 : Nat} (hd0 : d0 ≤ d) {rec : Int32 → Mm → Option (Int32 × Mm)} (hrec : ∀ d', d0 ≤ d' → ∀ {x1 : Int32} {M : Mm} {q : Int32 × Mm}, rec x1 M = some q → Ct l0 E yX5_readEither cX5_readEither 3 (some .boolean) d' 0 0 [rr E.1 5, .int x1] ex n Rf M n Rf (some (.int q.1)) q.2) (hg : Ok g l0 E cX5_readMaybeNot RX5 4 (d + 7) 0 0) {q : Int32 × Mm} (hr : Ret g E 0 0 (some .boolean) ex n Rf (some (.int q.1)) q.2) : ∀ (x2 : Int32) (s0 : Int32) (M : Mm), sX5_readMaybeNot_71 rec kq x2 s0 M = some q → WG g E 4 n Rf ex 0 0 71 [(0, rr E.1 5), (2, .int x2)] [.int s0] M := by
  intro x2 s0 M h
  unfold sX5_readMaybeNot_71 at h
  refine g_istore_n (lv' := [(3, .int s0), (0, rr E.1 5), (2, .int x2)]) hg dX5_readMaybeNot_71 rfl (by decide) rfl ?_
  refine g_iload_n hg dX5_readMaybeNot_72 rfl 0 rfl ?_
  refine g_if_eq (tgt := 94) hg dX5_readMaybeNot_73 (by decide) (fun c => ?_) (fun c => ?_)
  · replace h := itT c h
    refine g_iload_n hg dX5_readMaybeNot_94 rfl 0 rfl ?_
    obtain ⟨c95, h⟩ := ck_some h
    replace h := Option.some.inj h
    subst h
    exact g_zret hg hr (isb_nar c95) dX5_readMaybeNot_95
  · replace h := itF c h
    refine g_iload_n hg dX5_readMaybeNot_76 rfl 2 rfl ?_
    refine g_iconst hg dX5_readMaybeNot_77 kI_2 ?_
    refine g_irem hg dX5_readMaybeNot_78 (by decide) ?_
    refine g_iconst hg dX5_readMaybeNot_79 kI_1 ?_
    refine g_icmp_ne (tgt := 94) hg dX5_readMaybeNot_80 (by decide) (fun c => ?_) (fun c => ?_)
    · replace h := itF c h
      refine g_iload_n hg dX5_readMaybeNot_94 rfl 0 rfl ?_
      obtain ⟨c95, h⟩ := ck_some h
      replace h := Option.some.inj h
      subst h
      exact g_zret hg hr (isb_nar c95) dX5_readMaybeNot_95
    · replace h := itT c h
      refine g_rload_n hg dX5_readMaybeNot_83 rfl 1 rfl ?_
      refine g_getR (r := kq.2) hg fl_X5_12 ly5 rfl (idb rfl rfl hn) (rfc hRf rfl rfl rfl rfl) (ky_pos hkq.2) dX5_readMaybeNot_84 ?_
      refine g_bipush hg dX5_readMaybeNot_87 kB_16 ?_
      refine g_iconst hg dX5_readMaybeNot_89 kI_0 ?_
      refine g_iconst hg dX5_readMaybeNot_90 kI_0 ?_
      obtain ⟨M91, e91, h⟩ := Option.bind_eq_some_iff.mp h
      refine g_callVv (As := [.int 16, .int 0, .int 0]) (rest := []) hg (lkX4_emit (by omega) hn hRf hkq.2 e91) cv_X5_81 rfl (ky_lay hkq.2) (ky_bd hkq.2 hn) rfl rfl (Nat.le_of_ble_eq_true rfl) ⟨Nat.le_refl _, Nat.le_refl _⟩ dX5_readMaybeNot_91 ?_
      refine g_iload_n hg dX5_readMaybeNot_94 rfl 0 rfl ?_
      obtain ⟨c95, h⟩ := ck_some h
      replace h := Option.some.inj h
      subst h
      exact g_zret hg hr (isb_nar c95) dX5_readMaybeNot_95
theorem lkX5_readMaybeNot_36 {g : Gm} {l0 : Launch} {E : En} {d n : Nat} {Rf : Nat → Nat → Nat} {ex : Bool} {kq : Nat × Nat} (hn : 239 ≤ n) (hRf : RfOk 1 239 kq Rf) (hkq : isKq kq) {d0 : Nat} (hd0 : d0 ≤ d) {rec : Int32 → Mm → Option (Int32 × Mm)} (hrec : ∀ d', d0 ≤ d' → ∀ {x1 : Int32} {M : Mm} {q : Int32 × Mm}, rec x1 M = some q → Ct l0 E yX5_readEither cX5_readEither 3 (some .boolean) d' 0 0 [rr E.1 5, .int x1] ex n Rf M n Rf (some (.int q.1)) q.2) (hg : Ok g l0 E cX5_readMaybeNot RX5 4 (d + 7) 0 0) {q : Int32 × Mm} (hr : Ret g E 0 0 (some .boolean) ex n Rf (some (.int q.1)) q.2) : ∀ (x1 : Int32) (x2 : Int32) (M : Mm), sX5_readMaybeNot_36 rec kq x1 x2 M = some q → WG g E 4 n Rf ex 0 0 36 [(0, rr E.1 5), (1, .int x1), (2, .int x2)] [] M := by
  intro x1 x2 M h
  unfold sX5_readMaybeNot_36 at h
  refine g_rload_n hg dX5_readMaybeNot_36 rfl 0 rfl ?_
  refine g_getR (r := 3) hg fl_X5_18 ly5 rfl (idb rfl rfl hn) (rfc hRf rfl rfl rfl rfl) (by decide) dX5_readMaybeNot_37 ?_
  refine g_bipush hg dX5_readMaybeNot_40 kB_40 ?_
  obtain ⟨q42, e42, h⟩ := Option.bind_eq_some_iff.mp h
  refine g_callVi (As := [.int 40]) (rest := []) hg (lkX10_isSign (by omega) (Nat.le_trans (by decide : 5 ≤ 239) hn) (hRf.mono (by decide) (by decide))  e42) cv_X5_88 rfl ly3 (idb rfl rfl hn) rfl rfl (Nat.le_of_ble_eq_true rfl) ⟨Nat.le_refl _, Nat.le_refl _⟩ dX5_readMaybeNot_42 ?_
  refine g_if_eq (tgt := 56) hg dX5_readMaybeNot_45 (by decide) (fun c => ?_) (fun c => ?_)
  · replace h := itT c h
    refine g_iload_n hg dX5_readMaybeNot_56 rfl 1 rfl ?_
    refine g_if_eq (tgt := 67) hg dX5_readMaybeNot_57 (by decide) (fun c => ?_) (fun c => ?_)
    · replace h := itT c h
      refine g_rload_n hg dX5_readMaybeNot_67 rfl 0 rfl ?_
      obtain ⟨q68, e68, h⟩ := Option.bind_eq_some_iff.mp h
      refine g_callVi (As := []) (rest := []) hg (lkX5_readOfBore (by omega) hn hRf hkq hrec  e68) cv_X5_97 rfl ly5 (idb rfl rfl hn) rfl rfl (Nat.le_of_ble_eq_true rfl) ⟨Nat.le_refl _, Nat.le_refl _⟩ dX5_readMaybeNot_68 ?_
      refine g_sub (lv' := [(0, rr E.1 5), (2, .int x2)]) [0, 2] rfl ?_
      exact lkX5_readMaybeNot_71 hn hRf hkq hd0 hrec hg hr  _ _ _ h
    · replace h := itF c h
      refine g_rload_n hg dX5_readMaybeNot_60 rfl 0 rfl ?_
      obtain ⟨q61, e61, h⟩ := Option.bind_eq_some_iff.mp h
      refine g_callVi (As := []) (rest := []) hg (lkX5_readOfLayer (by omega) hn hRf hkq  e61) cv_X5_94 rfl ly5 (idb rfl rfl hn) rfl rfl (Nat.le_of_ble_eq_true rfl) ⟨Nat.le_refl _, Nat.le_refl _⟩ dX5_readMaybeNot_61 ?_
      refine g_goto (tgt := 71) hg dX5_readMaybeNot_64 (by decide) ?_
      refine g_sub (lv' := [(0, rr E.1 5), (2, .int x2)]) [0, 2] rfl ?_
      exact lkX5_readMaybeNot_71 hn hRf hkq hd0 hrec hg hr  _ _ _ h
  · replace h := itF c h
    refine g_rload_n hg dX5_readMaybeNot_48 rfl 0 rfl ?_
    refine g_iload_n hg dX5_readMaybeNot_49 rfl 1 rfl ?_
    obtain ⟨q50, e50, h⟩ := Option.bind_eq_some_iff.mp h
    refine g_callVi (As := [.int x1]) (rest := []) hg (lkX5_readBracket (by omega) hn hRf hkq hrec  e50) cv_X5_91 rfl ly5 (idb rfl rfl hn) rfl rfl (Nat.le_of_ble_eq_true rfl) ⟨Nat.le_refl _, Nat.le_refl _⟩ dX5_readMaybeNot_50 ?_
    refine g_goto (tgt := 71) hg dX5_readMaybeNot_53 (by decide) ?_
    refine g_sub (lv' := [(0, rr E.1 5), (2, .int x2)]) [0, 2] rfl ?_
    exact lkX5_readMaybeNot_71 hn hRf hkq hd0 hrec hg hr  _ _ _ h
theorem lkX5_readMaybeNot_2 {g : Gm} {l0 : Launch} {E : En} {d n : Nat} {Rf : Nat → Nat → Nat} {ex : Bool} {kq : Nat × Nat} (hn : 239 ≤ n) (hRf : RfOk 1 239 kq Rf) (hkq : isKq kq) {d0 : Nat} (hd0 : d0 ≤ d) {rec : Int32 → Mm → Option (Int32 × Mm)} (hrec : ∀ d', d0 ≤ d' → ∀ {x1 : Int32} {M : Mm} {q : Int32 × Mm}, rec x1 M = some q → Ct l0 E yX5_readEither cX5_readEither 3 (some .boolean) d' 0 0 [rr E.1 5, .int x1] ex n Rf M n Rf (some (.int q.1)) q.2) (hg : Ok g l0 E cX5_readMaybeNot RX5 4 (d + 7) 0 0) {q : Int32 × Mm} (hr : Ret g E 0 0 (some .boolean) ex n Rf (some (.int q.1)) q.2) : ∀ (F : Nat) (x1 : Int32) (x2 : Int32) (M : Mm), sX5_readMaybeNot_2 rec kq F x1 x2 M = some q → WG g E 4 n Rf ex 0 0 2 [(0, rr E.1 5), (1, .int x1), (2, .int x2)] [] M := by
  intro F
  induction F with
  | zero =>
    intro x1 x2 M h
    cases h
  | succ F ih =>
    intro x1 x2 M h
    rw [sX5_readMaybeNot_2] at h
    refine g_iload_n hg dX5_readMaybeNot_2 rfl 2 rfl ?_
    refine g_bipush hg dX5_readMaybeNot_3 kB_96 ?_
    refine g_icmp_gt (tgt := 36) hg dX5_readMaybeNot_5 (by decide) (fun c => ?_) (fun c => ?_)
    · replace h := itT c h
      exact lkX5_readMaybeNot_36 hn hRf hkq hd0 hrec hg hr  _ _ _ h
    · replace h := itF c h
      refine g_rload_n hg dX5_readMaybeNot_8 rfl 0 rfl ?_
      refine g_getR (r := 3) hg fl_X5_18 ly5 rfl (idb rfl rfl hn) (rfc hRf rfl rfl rfl rfl) (by decide) dX5_readMaybeNot_9 ?_
      refine g_bipush hg dX5_readMaybeNot_12 kB_16 ?_
      refine g_iconst hg dX5_readMaybeNot_14 kI_1 ?_
      obtain ⟨q15, e15, h⟩ := Option.bind_eq_some_iff.mp h
      refine g_callVi (As := [.int 16, .int 1]) (rest := []) hg (lkX10_isWord (by omega) (Nat.le_trans (by decide : 5 ≤ 239) hn) (hRf.mono (by decide) (by decide))  e15) cv_X5_73 rfl ly3 (idb rfl rfl hn) rfl rfl (Nat.le_of_ble_eq_true rfl) ⟨Nat.le_refl _, Nat.le_refl _⟩ dX5_readMaybeNot_15 ?_
      refine g_if_eq (tgt := 36) hg dX5_readMaybeNot_18 (by decide) (fun c => ?_) (fun c => ?_)
      · replace h := itT c h
        exact lkX5_readMaybeNot_36 hn hRf hkq hd0 hrec hg hr  _ _ _ h
      · replace h := itF c h
        refine g_rload_n hg dX5_readMaybeNot_21 rfl 0 rfl ?_
        obtain ⟨q22, e22, h⟩ := Option.bind_eq_some_iff.mp h
        refine g_callVi (As := []) (rest := []) hg (lkX5_takeKnot (by omega) hn hRf hkq  e22) cv_X5_77 rfl ly5 (idb rfl rfl hn) rfl rfl (Nat.le_of_ble_eq_true rfl) ⟨Nat.le_refl _, Nat.le_refl _⟩ dX5_readMaybeNot_22 ?_
        refine g_if_ne (tgt := 30) hg dX5_readMaybeNot_25 (by decide) (fun c => ?_) (fun c => ?_)
        · replace h := itF c h
          refine g_inc (lv' := [(2, .int (x2 + 1)), (0, rr E.1 5), (1, .int x1)]) hg dX5_readMaybeNot_30 kI_1 2 rfl (by decide) rfl ?_
          refine g_goto (tgt := 2) hg dX5_readMaybeNot_33 (by decide) ?_
          refine g_sub (lv' := [(0, rr E.1 5), (1, .int x1), (2, .int (x2 + 1))]) [1, 2, 0] rfl ?_
          exact ih _ _ _ h
        · replace h := itT c h
          refine g_iconst hg dX5_readMaybeNot_28 kI_0 ?_
          replace h := Option.some.inj h
          subst h
          exact g_zret hg hr rfl dX5_readMaybeNot_29
theorem lkX5_readMaybeNot {d0 : Nat} {l0 : Launch} {E : En} {d n : Nat} {Rf : Nat → Nat → Nat} {ex : Bool} {kq : Nat × Nat} (hd : d0 + 7 ≤ d) (hn : 239 ≤ n) (hRf : RfOk 1 239 kq Rf) (hkq : isKq kq) {rec : Int32 → Mm → Option (Int32 × Mm)} (hrec : ∀ d', d0 ≤ d' → ∀ {x1 : Int32} {M : Mm} {q : Int32 × Mm}, rec x1 M = some q → Ct l0 E yX5_readEither cX5_readEither 3 (some .boolean) d' 0 0 [rr E.1 5, .int x1] ex n Rf M n Rf (some (.int q.1)) q.2) {x1 : Int32} {M : Mm} {q : Int32 × Mm} (h : sX5_readMaybeNot rec kq x1 M = some q) : Ct l0 E yX5_readMaybeNot cX5_readMaybeNot 4 (some .boolean) d 0 0 [rr E.1 5, .int x1] ex n Rf M n Rf (some (.int q.1)) q.2 := by
  obtain ⟨d, hd0, rfl⟩ : ∃ e, d0 ≤ e ∧ d = e + 7 := ⟨d - 7, by omega, by omega⟩
  refine Ct.of pnX5 (Nat.le_of_ble_eq_true rfl) (fun g hg hr _ => ?_)
  replace hg : Ok g l0 E cX5_readMaybeNot RX5 4 (d + 7) 0 0 := hg
  show WG g E 4 n Rf ex 0 0 0 [(0, rr E.1 5), (1, .int x1)] [] M
  unfold sX5_readMaybeNot at h
  refine g_iconst hg dX5_readMaybeNot_0 kI_0 ?_
  refine g_istore_n (lv' := [(2, .int 0), (0, rr E.1 5), (1, .int x1)]) hg dX5_readMaybeNot_1 rfl (by decide) rfl ?_
  refine g_sub (lv' := [(0, rr E.1 5), (1, .int x1), (2, .int 0)]) [1, 2, 0] rfl ?_
  exact lkX5_readMaybeNot_2 hn hRf hkq hd0 hrec hg hr  4096 _ _ _ h
theorem lkX5_readBoth_12 {g : Gm} {l0 : Launch} {E : En} {d n : Nat} {Rf : Nat → Nat → Nat} {ex : Bool} {kq : Nat × Nat} (hn : 239 ≤ n) (hRf : RfOk 1 239 kq Rf) (hkq : isKq kq) {d0 : Nat} (hd0 : d0 ≤ d) {rec : Int32 → Mm → Option (Int32 × Mm)} (hrec : ∀ d', d0 ≤ d' → ∀ {x1 : Int32} {M : Mm} {q : Int32 × Mm}, rec x1 M = some q → Ct l0 E yX5_readEither cX5_readEither 3 (some .boolean) d' 0 0 [rr E.1 5, .int x1] ex n Rf M n Rf (some (.int q.1)) q.2) (hg : Ok g l0 E cX5_readBoth RX5 3 (d + 8) 0 0) {q : Int32 × Mm} (hr : Ret g E 0 0 (some .boolean) ex n Rf (some (.int q.1)) q.2) : ∀ (F : Nat) (x1 : Int32) (x2 : Int32) (M : Mm), sX5_readBoth_12 rec kq F x1 x2 M = some q → WG g E 3 n Rf ex 0 0 12 [(0, rr E.1 5), (1, .int x1), (2, .int x2)] [] M := by
  intro F
  induction F with
  | zero =>
    intro x1 x2 M h
    cases h
  | succ F ih =>
    intro x1 x2 M h
    rw [sX5_readBoth_12] at h
    refine g_iload_n hg dX5_readBoth_12 rfl 2 rfl ?_
    refine g_bipush hg dX5_readBoth_13 kB_96 ?_
    refine g_icmp_ge (tgt := 65) hg dX5_readBoth_15 (by decide) (fun c => ?_) (fun c => ?_)
    · replace h := itT c h
      refine g_iconst hg dX5_readBoth_65 kI_1 ?_
      replace h := Option.some.inj h
      subst h
      exact g_zret hg hr rfl dX5_readBoth_66
    · replace h := itF c h
      refine g_rload_n hg dX5_readBoth_18 rfl 0 rfl ?_
      refine g_getR (r := 3) hg fl_X5_18 ly5 rfl (idb rfl rfl hn) (rfc hRf rfl rfl rfl rfl) (by decide) dX5_readBoth_19 ?_
      refine g_bipush hg dX5_readBoth_22 kB_15 ?_
      refine g_iconst hg dX5_readBoth_24 kI_1 ?_
      obtain ⟨q25, e25, h⟩ := Option.bind_eq_some_iff.mp h
      refine g_callVi (As := [.int 15, .int 1]) (rest := []) hg (lkX10_isWord (by omega) (Nat.le_trans (by decide : 5 ≤ 239) hn) (hRf.mono (by decide) (by decide))  e25) cv_X5_73 rfl ly3 (idb rfl rfl hn) rfl rfl (Nat.le_of_ble_eq_true rfl) ⟨Nat.le_refl _, Nat.le_refl _⟩ dX5_readBoth_25 ?_
      refine g_if_eq (tgt := 65) hg dX5_readBoth_28 (by decide) (fun c => ?_) (fun c => ?_)
      · replace h := itT c h
        refine g_iconst hg dX5_readBoth_65 kI_1 ?_
        replace h := Option.some.inj h
        subst h
        exact g_zret hg hr rfl dX5_readBoth_66
      · replace h := itF c h
        refine g_rload_n hg dX5_readBoth_31 rfl 0 rfl ?_
        obtain ⟨q32, e32, h⟩ := Option.bind_eq_some_iff.mp h
        refine g_callVi (As := []) (rest := []) hg (lkX5_takeKnot (by omega) hn hRf hkq  e32) cv_X5_77 rfl ly5 (idb rfl rfl hn) rfl rfl (Nat.le_of_ble_eq_true rfl) ⟨Nat.le_refl _, Nat.le_refl _⟩ dX5_readBoth_32 ?_
        refine g_if_eq (tgt := 46) hg dX5_readBoth_35 (by decide) (fun c => ?_) (fun c => ?_)
        · replace h := itT c h
          refine g_iconst hg dX5_readBoth_46 kI_0 ?_
          replace h := Option.some.inj h
          subst h
          exact g_zret hg hr rfl dX5_readBoth_47
        · replace h := itF c h
          refine g_rload_n hg dX5_readBoth_38 rfl 0 rfl ?_
          refine g_iload_n hg dX5_readBoth_39 rfl 1 rfl ?_
          obtain ⟨q40, e40, h⟩ := Option.bind_eq_some_iff.mp h
          refine g_callVi (As := [.int x1]) (rest := []) hg (lkX5_readMaybeNot (by omega) hn hRf hkq hrec  e40) cv_X5_85 rfl ly5 (idb rfl rfl hn) rfl rfl (Nat.le_of_ble_eq_true rfl) ⟨Nat.le_refl _, Nat.le_refl _⟩ dX5_readBoth_40 ?_
          refine g_if_ne (tgt := 48) hg dX5_readBoth_43 (by decide) (fun c => ?_) (fun c => ?_)
          · replace h := itF c h
            refine g_rload_n hg dX5_readBoth_48 rfl 0 rfl ?_
            refine g_getR (r := kq.2) hg fl_X5_12 ly5 rfl (idb rfl rfl hn) (rfc hRf rfl rfl rfl rfl) (ky_pos hkq.2) dX5_readBoth_49 ?_
            refine g_bipush hg dX5_readBoth_52 kB_15 ?_
            refine g_iconst hg dX5_readBoth_54 kI_0 ?_
            refine g_iconst hg dX5_readBoth_55 kI_0 ?_
            obtain ⟨M56, e56, h⟩ := Option.bind_eq_some_iff.mp h
            refine g_callVv (As := [.int 15, .int 0, .int 0]) (rest := []) hg (lkX4_emit (by omega) hn hRf hkq.2 e56) cv_X5_81 rfl (ky_lay hkq.2) (ky_bd hkq.2 hn) rfl rfl (Nat.le_of_ble_eq_true rfl) ⟨Nat.le_refl _, Nat.le_refl _⟩ dX5_readBoth_56 ?_
            refine g_inc (lv' := [(2, .int (x2 + 1)), (0, rr E.1 5), (1, .int x1)]) hg dX5_readBoth_59 kI_1 2 rfl (by decide) rfl ?_
            refine g_goto (tgt := 12) hg dX5_readBoth_62 (by decide) ?_
            refine g_sub (lv' := [(0, rr E.1 5), (1, .int x1), (2, .int (x2 + 1))]) [1, 2, 0] rfl ?_
            exact ih _ _ _ h
          · replace h := itT c h
            refine g_iconst hg dX5_readBoth_46 kI_0 ?_
            replace h := Option.some.inj h
            subst h
            exact g_zret hg hr rfl dX5_readBoth_47
theorem lkX5_readBoth {d0 : Nat} {l0 : Launch} {E : En} {d n : Nat} {Rf : Nat → Nat → Nat} {ex : Bool} {kq : Nat × Nat} (hd : d0 + 8 ≤ d) (hn : 239 ≤ n) (hRf : RfOk 1 239 kq Rf) (hkq : isKq kq) {rec : Int32 → Mm → Option (Int32 × Mm)} (hrec : ∀ d', d0 ≤ d' → ∀ {x1 : Int32} {M : Mm} {q : Int32 × Mm}, rec x1 M = some q → Ct l0 E yX5_readEither cX5_readEither 3 (some .boolean) d' 0 0 [rr E.1 5, .int x1] ex n Rf M n Rf (some (.int q.1)) q.2) {x1 : Int32} {M : Mm} {q : Int32 × Mm} (h : sX5_readBoth rec kq x1 M = some q) : Ct l0 E yX5_readBoth cX5_readBoth 3 (some .boolean) d 0 0 [rr E.1 5, .int x1] ex n Rf M n Rf (some (.int q.1)) q.2 := by
  obtain ⟨d, hd0, rfl⟩ : ∃ e, d0 ≤ e ∧ d = e + 8 := ⟨d - 8, by omega, by omega⟩
  refine Ct.of pnX5 (Nat.le_of_ble_eq_true rfl) (fun g hg hr _ => ?_)
  replace hg : Ok g l0 E cX5_readBoth RX5 3 (d + 8) 0 0 := hg
  show WG g E 3 n Rf ex 0 0 0 [(0, rr E.1 5), (1, .int x1)] [] M
  unfold sX5_readBoth at h
  refine g_rload_n hg dX5_readBoth_0 rfl 0 rfl ?_
  refine g_iload_n hg dX5_readBoth_1 rfl 1 rfl ?_
  obtain ⟨q2, e2, h⟩ := Option.bind_eq_some_iff.mp h
  refine g_callVi (As := [.int x1]) (rest := []) hg (lkX5_readMaybeNot (by omega) hn hRf hkq hrec  e2) cv_X5_85 rfl ly5 (idb rfl rfl hn) rfl rfl (Nat.le_of_ble_eq_true rfl) ⟨Nat.le_refl _, Nat.le_refl _⟩ dX5_readBoth_2 ?_
  refine g_if_ne (tgt := 10) hg dX5_readBoth_5 (by decide) (fun c => ?_) (fun c => ?_)
  · replace h := itF c h
    refine g_iconst hg dX5_readBoth_10 kI_0 ?_
    refine g_istore_n (lv' := [(2, .int 0), (0, rr E.1 5), (1, .int x1)]) hg dX5_readBoth_11 rfl (by decide) rfl ?_
    refine g_sub (lv' := [(0, rr E.1 5), (1, .int x1), (2, .int 0)]) [1, 2, 0] rfl ?_
    exact lkX5_readBoth_12 hn hRf hkq hd0 hrec hg hr  4096 _ _ _ h
  · replace h := itT c h
    refine g_iconst hg dX5_readBoth_8 kI_0 ?_
    replace h := Option.some.inj h
    subst h
    exact g_zret hg hr rfl dX5_readBoth_9
theorem lkX5_readEither_o_12 {g : Gm} {l0 : Launch} {E : En} {d n : Nat} {Rf : Nat → Nat → Nat} {ex : Bool} {kq : Nat × Nat} (hn : 239 ≤ n) (hRf : RfOk 1 239 kq Rf) (hkq : isKq kq) {d0 : Nat} (hd0 : d0 ≤ d) {rec : Int32 → Mm → Option (Int32 × Mm)} (hrec : ∀ d', d0 ≤ d' → ∀ {x1 : Int32} {M : Mm} {q : Int32 × Mm}, rec x1 M = some q → Ct l0 E yX5_readEither cX5_readEither 3 (some .boolean) d' 0 0 [rr E.1 5, .int x1] ex n Rf M n Rf (some (.int q.1)) q.2) (hg : Ok g l0 E cX5_readEither RX5 3 (d + 9) 0 0) {q : Int32 × Mm} (hr : Ret g E 0 0 (some .boolean) ex n Rf (some (.int q.1)) q.2) : ∀ (F : Nat) (x1 : Int32) (x2 : Int32) (M : Mm), sX5_readEither_o_12 rec kq F x1 x2 M = some q → WG g E 3 n Rf ex 0 0 12 [(0, rr E.1 5), (1, .int x1), (2, .int x2)] [] M := by
  intro F
  induction F with
  | zero =>
    intro x1 x2 M h
    cases h
  | succ F ih =>
    intro x1 x2 M h
    rw [sX5_readEither_o_12] at h
    refine g_iload_n hg dX5_readEither_12 rfl 2 rfl ?_
    refine g_bipush hg dX5_readEither_13 kB_96 ?_
    refine g_icmp_ge (tgt := 65) hg dX5_readEither_15 (by decide) (fun c => ?_) (fun c => ?_)
    · replace h := itT c h
      refine g_iconst hg dX5_readEither_65 kI_1 ?_
      replace h := Option.some.inj h
      subst h
      exact g_zret hg hr rfl dX5_readEither_66
    · replace h := itF c h
      refine g_rload_n hg dX5_readEither_18 rfl 0 rfl ?_
      refine g_getR (r := 3) hg fl_X5_18 ly5 rfl (idb rfl rfl hn) (rfc hRf rfl rfl rfl rfl) (by decide) dX5_readEither_19 ?_
      refine g_bipush hg dX5_readEither_22 kB_14 ?_
      refine g_iconst hg dX5_readEither_24 kI_1 ?_
      obtain ⟨q25, e25, h⟩ := Option.bind_eq_some_iff.mp h
      refine g_callVi (As := [.int 14, .int 1]) (rest := []) hg (lkX10_isWord (by omega) (Nat.le_trans (by decide : 5 ≤ 239) hn) (hRf.mono (by decide) (by decide))  e25) cv_X5_73 rfl ly3 (idb rfl rfl hn) rfl rfl (Nat.le_of_ble_eq_true rfl) ⟨Nat.le_refl _, Nat.le_refl _⟩ dX5_readEither_25 ?_
      refine g_if_eq (tgt := 65) hg dX5_readEither_28 (by decide) (fun c => ?_) (fun c => ?_)
      · replace h := itT c h
        refine g_iconst hg dX5_readEither_65 kI_1 ?_
        replace h := Option.some.inj h
        subst h
        exact g_zret hg hr rfl dX5_readEither_66
      · replace h := itF c h
        refine g_rload_n hg dX5_readEither_31 rfl 0 rfl ?_
        obtain ⟨q32, e32, h⟩ := Option.bind_eq_some_iff.mp h
        refine g_callVi (As := []) (rest := []) hg (lkX5_takeKnot (by omega) hn hRf hkq  e32) cv_X5_77 rfl ly5 (idb rfl rfl hn) rfl rfl (Nat.le_of_ble_eq_true rfl) ⟨Nat.le_refl _, Nat.le_refl _⟩ dX5_readEither_32 ?_
        refine g_if_eq (tgt := 46) hg dX5_readEither_35 (by decide) (fun c => ?_) (fun c => ?_)
        · replace h := itT c h
          refine g_iconst hg dX5_readEither_46 kI_0 ?_
          replace h := Option.some.inj h
          subst h
          exact g_zret hg hr rfl dX5_readEither_47
        · replace h := itF c h
          refine g_rload_n hg dX5_readEither_38 rfl 0 rfl ?_
          refine g_iload_n hg dX5_readEither_39 rfl 1 rfl ?_
          obtain ⟨q40, e40, h⟩ := Option.bind_eq_some_iff.mp h
          refine g_callVi (As := [.int x1]) (rest := []) hg (lkX5_readBoth (by omega) hn hRf hkq hrec  e40) cv_X5_70 rfl ly5 (idb rfl rfl hn) rfl rfl (Nat.le_of_ble_eq_true rfl) ⟨Nat.le_refl _, Nat.le_refl _⟩ dX5_readEither_40 ?_
          refine g_if_ne (tgt := 48) hg dX5_readEither_43 (by decide) (fun c => ?_) (fun c => ?_)
          · replace h := itF c h
            refine g_rload_n hg dX5_readEither_48 rfl 0 rfl ?_
            refine g_getR (r := kq.2) hg fl_X5_12 ly5 rfl (idb rfl rfl hn) (rfc hRf rfl rfl rfl rfl) (ky_pos hkq.2) dX5_readEither_49 ?_
            refine g_bipush hg dX5_readEither_52 kB_14 ?_
            refine g_iconst hg dX5_readEither_54 kI_0 ?_
            refine g_iconst hg dX5_readEither_55 kI_0 ?_
            obtain ⟨M56, e56, h⟩ := Option.bind_eq_some_iff.mp h
            refine g_callVv (As := [.int 14, .int 0, .int 0]) (rest := []) hg (lkX4_emit (by omega) hn hRf hkq.2 e56) cv_X5_81 rfl (ky_lay hkq.2) (ky_bd hkq.2 hn) rfl rfl (Nat.le_of_ble_eq_true rfl) ⟨Nat.le_refl _, Nat.le_refl _⟩ dX5_readEither_56 ?_
            refine g_inc (lv' := [(2, .int (x2 + 1)), (0, rr E.1 5), (1, .int x1)]) hg dX5_readEither_59 kI_1 2 rfl (by decide) rfl ?_
            refine g_goto (tgt := 12) hg dX5_readEither_62 (by decide) ?_
            refine g_sub (lv' := [(0, rr E.1 5), (1, .int x1), (2, .int (x2 + 1))]) [1, 2, 0] rfl ?_
            exact ih _ _ _ h
          · replace h := itT c h
            refine g_iconst hg dX5_readEither_46 kI_0 ?_
            replace h := Option.some.inj h
            subst h
            exact g_zret hg hr rfl dX5_readEither_47
theorem lkX5_readEither_o {d0 : Nat} {l0 : Launch} {E : En} {d n : Nat} {Rf : Nat → Nat → Nat} {ex : Bool} {kq : Nat × Nat} (hd : d0 + 9 ≤ d) (hn : 239 ≤ n) (hRf : RfOk 1 239 kq Rf) (hkq : isKq kq) {rec : Int32 → Mm → Option (Int32 × Mm)} (hrec : ∀ d', d0 ≤ d' → ∀ {x1 : Int32} {M : Mm} {q : Int32 × Mm}, rec x1 M = some q → Ct l0 E yX5_readEither cX5_readEither 3 (some .boolean) d' 0 0 [rr E.1 5, .int x1] ex n Rf M n Rf (some (.int q.1)) q.2) {x1 : Int32} {M : Mm} {q : Int32 × Mm} (h : sX5_readEither_o rec kq x1 M = some q) : Ct l0 E yX5_readEither cX5_readEither 3 (some .boolean) d 0 0 [rr E.1 5, .int x1] ex n Rf M n Rf (some (.int q.1)) q.2 := by
  obtain ⟨d, hd0, rfl⟩ : ∃ e, d0 ≤ e ∧ d = e + 9 := ⟨d - 9, by omega, by omega⟩
  refine Ct.of pnX5 (Nat.le_of_ble_eq_true rfl) (fun g hg hr _ => ?_)
  replace hg : Ok g l0 E cX5_readEither RX5 3 (d + 9) 0 0 := hg
  show WG g E 3 n Rf ex 0 0 0 [(0, rr E.1 5), (1, .int x1)] [] M
  unfold sX5_readEither_o at h
  refine g_rload_n hg dX5_readEither_0 rfl 0 rfl ?_
  refine g_iload_n hg dX5_readEither_1 rfl 1 rfl ?_
  obtain ⟨q2, e2, h⟩ := Option.bind_eq_some_iff.mp h
  refine g_callVi (As := [.int x1]) (rest := []) hg (lkX5_readBoth (by omega) hn hRf hkq hrec  e2) cv_X5_70 rfl ly5 (idb rfl rfl hn) rfl rfl (Nat.le_of_ble_eq_true rfl) ⟨Nat.le_refl _, Nat.le_refl _⟩ dX5_readEither_2 ?_
  refine g_if_ne (tgt := 10) hg dX5_readEither_5 (by decide) (fun c => ?_) (fun c => ?_)
  · replace h := itF c h
    refine g_iconst hg dX5_readEither_10 kI_0 ?_
    refine g_istore_n (lv' := [(2, .int 0), (0, rr E.1 5), (1, .int x1)]) hg dX5_readEither_11 rfl (by decide) rfl ?_
    refine g_sub (lv' := [(0, rr E.1 5), (1, .int x1), (2, .int 0)]) [1, 2, 0] rfl ?_
    exact lkX5_readEither_o_12 hn hRf hkq hd0 hrec hg hr  4096 _ _ _ h
  · replace h := itT c h
    refine g_iconst hg dX5_readEither_8 kI_0 ?_
    replace h := Option.some.inj h
    subst h
    exact g_zret hg hr rfl dX5_readEither_9
theorem lkX5_readEither {l0 : Launch} {E : En} {n : Nat} {Rf : Nat → Nat → Nat} {ex : Bool} {kq : Nat × Nat} (F : Nat) {d : Nat} (hd : F * 9 ≤ d) (hn : 239 ≤ n) (hRf : RfOk 1 239 kq Rf) (hkq : isKq kq) {x1 : Int32} {M : Mm} {q : Int32 × Mm} (h : sX5_readEither kq F x1 M = some q) : Ct l0 E yX5_readEither cX5_readEither 3 (some .boolean) d 0 0 [rr E.1 5, .int x1] ex n Rf M n Rf (some (.int q.1)) q.2 := by
  induction F generalizing d x1 M q with
  | zero => cases h
  | succ F ih =>
    rw [sX5_readEither] at h
    exact lkX5_readEither_o (d0 := F * 9) (by rw [Nat.succ_mul] at hd; exact hd) hn hRf hkq (fun d' hd' => by intros; exact ih hd' (by assumption)) h
theorem lkX4_endLine {l0 : Launch} {E : En} {d n : Nat} {Rf : Nat → Nat → Nat} {ex : Bool} {kq : Nat × Nat} (hd : 1 ≤ d) (hn : 239 ≤ n) (hRf : RfOk 1 239 kq Rf) {r0 : Nat} (hr0 : isKy r0) {x1 : Int32} {M : Mm} {q : Mm} (h : sX4_endLine r0 x1 M = some q) : Ct l0 E yX4_endLine cX4_endLine 2 none d 0 0 [rr E.1 r0, .int x1] ex n Rf M n Rf none q := by
  obtain ⟨d, rfl⟩ := Nat.exists_eq_add_of_le' hd
  refine Ct.of pnX4 (Nat.le_of_ble_eq_true rfl) (fun g hg hr _ => ?_)
  replace hg : Ok g l0 E cX4_endLine RX4 2 (d + 1) 0 0 := hg
  show WG g E 2 n Rf ex 0 0 0 [(0, rr E.1 r0), (1, .int x1)] [] M
  unfold sX4_endLine at h
  refine g_rload_n hg dX4_endLine_0 rfl 0 rfl ?_
  refine g_getI hg fl_X4_38 (ky_lay hr0) rfl (ky_bd hr0 hn) dX4_endLine_1 ?_
  refine g_bipush hg dX4_endLine_4 kB_16 ?_
  refine g_icmp_ge (tgt := 42) hg dX4_endLine_6 (by decide) (fun c => ?_) (fun c => ?_)
  · replace h := itT c h
    replace h := Option.some.inj h
    subst h
    exact g_vret hg hr dX4_endLine_42
  · replace h := itF c h
    refine g_rload_n hg dX4_endLine_9 rfl 0 rfl ?_
    refine g_getR (r := (r0 + 4)) hg fl_X4_21 (ky_lay hr0) rfl (ky_bd hr0 hn) (ky_rf4 hr0 hRf) (Nat.succ_pos _) dX4_endLine_10 ?_
    refine g_rload_n hg dX4_endLine_13 rfl 0 rfl ?_
    refine g_getI hg fl_X4_38 (ky_lay hr0) rfl (ky_bd hr0 hn) dX4_endLine_14 ?_
    refine g_rload_n hg dX4_endLine_17 rfl 0 rfl ?_
    refine g_getI hg fl_X4_34 (ky_lay hr0) rfl (ky_bd hr0 hn) dX4_endLine_18 ?_
    obtain ⟨c21, h⟩ := ck_some h
    refine g_iast hg (ky_lay4 hr0) (ky_bd4 hr0 hn) (inb_vp c21) dX4_endLine_21 ?_
    refine g_rload_n hg dX4_endLine_22 rfl 0 rfl ?_
    refine g_getR (r := (r0 + 5)) hg fl_X4_24 (ky_lay hr0) rfl (ky_bd hr0 hn) (ky_rf5 hr0 hRf) (Nat.succ_pos _) dX4_endLine_23 ?_
    refine g_rload_n hg dX4_endLine_26 rfl 0 rfl ?_
    refine g_getI hg fl_X4_38 (ky_lay hr0) rfl (ky_bd hr0 hn) dX4_endLine_27 ?_
    refine g_iload_n hg dX4_endLine_30 rfl 1 rfl ?_
    obtain ⟨c31, h⟩ := ck_some h
    refine g_iast hg (ky_lay5 hr0) (ky_bd5 hr0 hn) (inb_vp c31) dX4_endLine_31 ?_
    refine g_rload_n hg dX4_endLine_32 rfl 0 rfl ?_
    refine g_dup hg dX4_endLine_33 rfl ?_
    refine g_getI hg fl_X4_38 (ky_lay hr0) rfl (ky_bd hr0 hn) dX4_endLine_34 ?_
    refine g_iconst hg dX4_endLine_37 kI_1 ?_
    refine g_iadd hg dX4_endLine_38 ?_
    refine g_putI hg fp_X4_38 (ky_lay hr0) rfl (ky_bd hr0 hn) dX4_endLine_39 ?_
    replace h := Option.some.inj h
    subst h
    exact g_vret hg hr dX4_endLine_42
theorem lkX5_readKey_14 {g : Gm} {l0 : Launch} {E : En} {d n : Nat} {Rf : Nat → Nat → Nat} {ex : Bool} {kq : Nat × Nat} (hn : 239 ≤ n) (hRf : RfOk 1 239 kq Rf) (hkq : isKq kq) (hg : Ok g l0 E cX5_readKey RX5 3 (d + 109) 0 0) {q : Int32 × Mm} (hr : Ret g E 0 0 (some .boolean) ex n Rf (some (.int q.1)) q.2) : ∀ (F : Nat) (x1 : Int32) (M : Mm), sX5_readKey_14 kq F x1 M = some q → WG g E 3 n Rf ex 0 0 14 [(0, rr E.1 5), (1, .int x1)] [] M := by
  intro F
  induction F with
  | zero =>
    intro x1 M h
    cases h
  | succ F ih =>
    intro x1 M h
    rw [sX5_readKey_14] at h
    refine g_iload_n hg dX5_readKey_14 rfl 1 rfl ?_
    refine g_bipush hg dX5_readKey_15 kB_16 ?_
    refine g_icmp_gt (tgt := 90) hg dX5_readKey_17 (by decide) (fun c => ?_) (fun c => ?_)
    · replace h := itT c h
      refine g_iconst hg dX5_readKey_90 kI_0 ?_
      replace h := Option.some.inj h
      subst h
      exact g_zret hg hr rfl dX5_readKey_91
    · replace h := itF c h
      refine g_rload_n hg dX5_readKey_20 rfl 0 rfl ?_
      refine g_getR (r := 3) hg fl_X5_18 ly5 rfl (idb rfl rfl hn) (rfc hRf rfl rfl rfl rfl) (by decide) dX5_readKey_21 ?_
      refine g_getI hg fl_X5_29 ly3 rfl (idb rfl rfl hn) dX5_readKey_24 ?_
      refine g_if_ne (tgt := 32) hg dX5_readKey_27 (by decide) (fun c => ?_) (fun c => ?_)
      · replace h := itF c h
        refine g_rload_n hg dX5_readKey_32 rfl 0 rfl ?_
        obtain ⟨q33, e33, h⟩ := Option.bind_eq_some_iff.mp h
        refine g_callVi (As := []) (rest := []) hg (lkX5_readKind (by omega) hn hRf hkq  e33) cv_X5_34 rfl ly5 (idb rfl rfl hn) rfl rfl (Nat.le_of_ble_eq_true rfl) ⟨Nat.le_refl _, Nat.le_refl _⟩ dX5_readKey_33 ?_
        refine g_istore_n (lv' := [(2, .int q33.1), (0, rr E.1 5), (1, .int x1)]) hg dX5_readKey_36 rfl (by decide) rfl ?_
        refine g_iload_n hg dX5_readKey_37 rfl 0 rfl ?_
        refine g_iconst hg dX5_readKey_38 kI_m1 ?_
        refine g_icmp_eq (tgt := 74) hg dX5_readKey_39 (by decide) (fun c => ?_) (fun c => ?_)
        · replace h := itT c h
          refine g_iconst hg dX5_readKey_74 kI_0 ?_
          replace h := Option.some.inj h
          subst h
          exact g_zret hg hr rfl dX5_readKey_75
        · replace h := itF c h
          refine g_rload_n hg dX5_readKey_42 rfl 1 rfl ?_
          refine g_getR (r := 3) hg fl_X5_18 ly5 rfl (idb rfl rfl hn) (rfc hRf rfl rfl rfl rfl) (by decide) dX5_readKey_43 ?_
          refine g_bipush hg dX5_readKey_46 kB_58 ?_
          obtain ⟨q48, e48, h⟩ := Option.bind_eq_some_iff.mp h
          refine g_callVi (As := [.int 58]) (rest := []) hg (lkX10_takeSign (by omega) (Nat.le_trans (by decide : 5 ≤ 239) hn) (hRf.mono (by decide) (by decide))  e48) cv_X5_38 rfl ly3 (idb rfl rfl hn) rfl rfl (Nat.le_of_ble_eq_true rfl) ⟨Nat.le_refl _, Nat.le_refl _⟩ dX5_readKey_48 ?_
          refine g_if_eq (tgt := 74) hg dX5_readKey_51 (by decide) (fun c => ?_) (fun c => ?_)
          · replace h := itT c h
            refine g_iconst hg dX5_readKey_74 kI_0 ?_
            replace h := Option.some.inj h
            subst h
            exact g_zret hg hr rfl dX5_readKey_75
          · replace h := itF c h
            refine g_rload_n hg dX5_readKey_54 rfl 1 rfl ?_
            refine g_iconst hg dX5_readKey_55 kI_0 ?_
            obtain ⟨q56, e56, h⟩ := Option.bind_eq_some_iff.mp h
            refine g_callVi (As := [.int 0]) (rest := []) hg (lkX5_readEither 12 (by omega) hn hRf hkq  e56) cv_X5_42 rfl ly5 (idb rfl rfl hn) rfl rfl (Nat.le_of_ble_eq_true rfl) ⟨Nat.le_refl _, Nat.le_refl _⟩ dX5_readKey_56 ?_
            refine g_if_eq (tgt := 74) hg dX5_readKey_59 (by decide) (fun c => ?_) (fun c => ?_)
            · replace h := itT c h
              refine g_iconst hg dX5_readKey_74 kI_0 ?_
              replace h := Option.some.inj h
              subst h
              exact g_zret hg hr rfl dX5_readKey_75
            · replace h := itF c h
              refine g_rload_n hg dX5_readKey_62 rfl 1 rfl ?_
              refine g_getR (r := 3) hg fl_X5_18 ly5 rfl (idb rfl rfl hn) (rfc hRf rfl rfl rfl rfl) (by decide) dX5_readKey_63 ?_
              refine g_bipush hg dX5_readKey_66 kB_59 ?_
              obtain ⟨q68, e68, h⟩ := Option.bind_eq_some_iff.mp h
              refine g_callVi (As := [.int 59]) (rest := []) hg (lkX10_takeSign (by omega) (Nat.le_trans (by decide : 5 ≤ 239) hn) (hRf.mono (by decide) (by decide))  e68) cv_X5_38 rfl ly3 (idb rfl rfl hn) rfl rfl (Nat.le_of_ble_eq_true rfl) ⟨Nat.le_refl _, Nat.le_refl _⟩ dX5_readKey_68 ?_
              refine g_if_ne (tgt := 76) hg dX5_readKey_71 (by decide) (fun c => ?_) (fun c => ?_)
              · replace h := itF c h
                refine g_rload_n hg dX5_readKey_76 rfl 1 rfl ?_
                refine g_getR (r := kq.2) hg fl_X5_12 ly5 rfl (idb rfl rfl hn) (rfc hRf rfl rfl rfl rfl) (ky_pos hkq.2) dX5_readKey_77 ?_
                refine g_iload_n hg dX5_readKey_80 rfl 0 rfl ?_
                obtain ⟨M81, e81, h⟩ := Option.bind_eq_some_iff.mp h
                refine g_callVv (As := [.int q33.1]) (rest := []) hg (lkX4_endLine (by omega) hn hRf hkq.2 e81) cv_X5_46 rfl (ky_lay hkq.2) (ky_bd hkq.2 hn) rfl rfl (Nat.le_of_ble_eq_true rfl) ⟨Nat.le_refl _, Nat.le_refl _⟩ dX5_readKey_81 ?_
                refine g_inc (lv' := [(1, .int (x1 + 1)), (2, .int q33.1), (0, rr E.1 5)]) hg dX5_readKey_84 kI_1 2 rfl (by decide) rfl ?_
                refine g_goto (tgt := 14) hg dX5_readKey_87 (by decide) ?_
                refine g_sub (lv' := [(0, rr E.1 5), (1, .int (x1 + 1))]) [2, 0] rfl ?_
                exact ih _ _ h
              · replace h := itT c h
                refine g_iconst hg dX5_readKey_74 kI_0 ?_
                replace h := Option.some.inj h
                subst h
                exact g_zret hg hr rfl dX5_readKey_75
      · replace h := itT c h
        refine g_iconst hg dX5_readKey_30 kI_1 ?_
        replace h := Option.some.inj h
        subst h
        exact g_zret hg hr rfl dX5_readKey_31
theorem lkX5_readKey {l0 : Launch} {E : En} {d n : Nat} {Rf : Nat → Nat → Nat} {ex : Bool} {kq : Nat × Nat} (hd : 109 ≤ d) (hn : 239 ≤ n) (hRf : RfOk 1 239 kq Rf) (hkq : isKq kq)  {M : Mm} {q : Int32 × Mm} (h : sX5_readKey kq M = some q) : Ct l0 E yX5_readKey cX5_readKey 3 (some .boolean) d 0 0 [rr E.1 5] ex n Rf M n Rf (some (.int q.1)) q.2 := by
  obtain ⟨d, rfl⟩ := Nat.exists_eq_add_of_le' hd
  refine Ct.of pnX5 (Nat.le_of_ble_eq_true rfl) (fun g hg hr _ => ?_)
  replace hg : Ok g l0 E cX5_readKey RX5 3 (d + 109) 0 0 := hg
  show WG g E 3 n Rf ex 0 0 0 [(0, rr E.1 5)] [] M
  unfold sX5_readKey at h
  refine g_rload_n hg dX5_readKey_0 rfl 0 rfl ?_
  refine g_getR (r := kq.2) hg fl_X5_12 ly5 rfl (idb rfl rfl hn) (rfc hRf rfl rfl rfl rfl) (ky_pos hkq.2) dX5_readKey_1 ?_
  obtain ⟨M4, e4, h⟩ := Option.bind_eq_some_iff.mp h
  refine g_callVv (As := []) (rest := []) hg (lkX4_clear (by omega) hn hRf hkq.2 e4) cv_X5_22 rfl (ky_lay hkq.2) (ky_bd hkq.2 hn) rfl rfl (Nat.le_of_ble_eq_true rfl) ⟨Nat.le_refl _, Nat.le_refl _⟩ dX5_readKey_4 ?_
  refine g_rload_n hg dX5_readKey_7 rfl 0 rfl ?_
  refine g_iconst hg dX5_readKey_8 kI_0 ?_
  refine g_putI hg fp_X5_25 ly5 rfl (idb rfl rfl hn) dX5_readKey_9 ?_
  refine g_iconst hg dX5_readKey_12 kI_0 ?_
  refine g_istore_n (lv' := [(1, .int 0), (0, rr E.1 5)]) hg dX5_readKey_13 rfl (by decide) rfl ?_
  refine g_sub (lv' := [(0, rr E.1 5), (1, .int 0)]) [1, 0] rfl ?_
  exact lkX5_readKey_14 hn hRf hkq hg hr  4096 _ _ h
theorem lkX1_judgeAll_33 {g : Gm} {l0 : Launch} {E : En} {d n : Nat} {Rf : Nat → Nat → Nat} {ex : Bool} {kq : Nat × Nat} (hn : 239 ≤ n) (hRf : RfOk 1 239 kq Rf) {r1 : Nat} (hr1 : isKy r1) (hg : Ok g l0 E cX1_judgeAll RX1 3 (d + 7) 0 0) {q : Mm} (hr : Ret g E 0 0 none ex n Rf none q) {k2 : Int32 → Mm → Option (Mm)} (hk2 : ∀ (x2 : Int32) (M : Mm), k2 x2 M = some q → WG g E 3 n Rf ex 0 0 2 [(0, rr E.1 34), (1, rr E.1 r1), (2, .int x2)] [] M) : ∀ (x2 : Int32) (M : Mm), sX1_judgeAll_33 r1 k2 x2 M = some q → WG g E 3 n Rf ex 0 0 33 [(0, rr E.1 34), (1, rr E.1 r1), (2, .int x2)] [] M := by
  intro x2 M h
  unfold sX1_judgeAll_33 at h
  refine g_inc (lv' := [(2, .int (x2 + 1)), (0, rr E.1 34), (1, rr E.1 r1)]) hg dX1_judgeAll_33 kI_1 2 rfl (by decide) rfl ?_
  refine g_goto (tgt := 2) hg dX1_judgeAll_36 (by decide) ?_
  refine g_sub (lv' := [(0, rr E.1 34), (1, rr E.1 r1), (2, .int (x2 + 1))]) [1, 2, 0] rfl ?_
  exact hk2 _ _ h
theorem lkX1_judgeAll_2 {g : Gm} {l0 : Launch} {E : En} {d n : Nat} {Rf : Nat → Nat → Nat} {ex : Bool} {kq : Nat × Nat} (hn : 239 ≤ n) (hRf : RfOk 1 239 kq Rf) {r1 : Nat} (hr1 : isKy r1) (hg : Ok g l0 E cX1_judgeAll RX1 3 (d + 7) 0 0) {q : Mm} (hr : Ret g E 0 0 none ex n Rf none q) : ∀ (F : Nat) (x2 : Int32) (M : Mm), sX1_judgeAll_2 r1 F x2 M = some q → WG g E 3 n Rf ex 0 0 2 [(0, rr E.1 34), (1, rr E.1 r1), (2, .int x2)] [] M := by
  intro F
  induction F with
  | zero =>
    intro x2 M h
    cases h
  | succ F ih =>
    intro x2 M h
    rw [sX1_judgeAll_2] at h
    refine g_iload_n hg dX1_judgeAll_2 rfl 2 rfl ?_
    refine g_rload_n hg dX1_judgeAll_3 rfl 0 rfl ?_
    refine g_getI hg fl_X1_26 ly34 rfl (idb rfl rfl hn) dX1_judgeAll_4 ?_
    refine g_icmp_ge (tgt := 39) hg dX1_judgeAll_7 (by decide) (fun c => ?_) (fun c => ?_)
    · replace h := itT c h
      replace h := Option.some.inj h
      subst h
      exact g_vret hg hr dX1_judgeAll_39
    · replace h := itF c h
      refine g_rload_n hg dX1_judgeAll_10 rfl 0 rfl ?_
      refine g_getR (r := 35) hg fl_X1_11 ly34 rfl (idb rfl rfl hn) (rfc hRf rfl rfl rfl rfl) (by decide) dX1_judgeAll_11 ?_
      refine g_iload_n hg dX1_judgeAll_14 rfl 2 rfl ?_
      obtain ⟨c15, h⟩ := ck_some h
      refine g_aald3 (r := (38 + 2 * x2.toNatClampNeg)) hg ly35 (idb rfl rfl hn) (inb_vp c15) (nt_rfA (inb_vp c15) hRf) (Nat.lt_of_lt_of_le (by decide) (Nat.le_add_right _ _)) dX1_judgeAll_15 ?_
      refine g_getI hg fl_X1_34 (nt_lay (nt_of (inb_vp c15))) rfl (nt_bd (nt_of (inb_vp c15)) hn) dX1_judgeAll_16 ?_
      refine g_iconst hg dX1_judgeAll_19 kI_m1 ?_
      refine g_icmp_ne (tgt := 33) hg dX1_judgeAll_20 (by decide) (fun c => ?_) (fun c => ?_)
      · replace h := itF c h
        exact lkX1_judgeAll_33 hn hRf hr1 hg hr ih _ _ h
      · replace h := itT c h
        refine g_rload_n hg dX1_judgeAll_23 rfl 0 rfl ?_
        refine g_getR (r := 35) hg fl_X1_11 ly34 rfl (idb rfl rfl hn) (rfc hRf rfl rfl rfl rfl) (by decide) dX1_judgeAll_24 ?_
        refine g_iload_n hg dX1_judgeAll_27 rfl 2 rfl ?_
        obtain ⟨c28, h⟩ := ck_some h
        refine g_aald3 (r := (38 + 2 * x2.toNatClampNeg)) hg ly35 (idb rfl rfl hn) (inb_vp c28) (nt_rfA (inb_vp c28) hRf) (Nat.lt_of_lt_of_le (by decide) (Nat.le_add_right _ _)) dX1_judgeAll_28 ?_
        refine g_rload_n hg dX1_judgeAll_29 rfl 1 rfl ?_
        obtain ⟨M30, e30, h⟩ := Option.bind_eq_some_iff.mp h
        refine g_callVv (As := [rr E.1 r1]) (rest := []) hg (lkX7_judge (by omega) hn hRf (nt_of (inb_vp c28)) hr1 e30) cv_X1_37 rfl (nt_lay (nt_of (inb_vp c28))) (nt_bd (nt_of (inb_vp c28)) hn) rfl rfl (Nat.le_of_ble_eq_true rfl) ⟨Nat.le_refl _, Nat.le_refl _⟩ dX1_judgeAll_30 ?_
        exact lkX1_judgeAll_33 hn hRf hr1 hg hr ih _ _ h
theorem lkX1_judgeAll {l0 : Launch} {E : En} {d n : Nat} {Rf : Nat → Nat → Nat} {ex : Bool} {kq : Nat × Nat} (hd : 7 ≤ d) (hn : 239 ≤ n) (hRf : RfOk 1 239 kq Rf) {r1 : Nat} (hr1 : isKy r1)  {M : Mm} {q : Mm} (h : sX1_judgeAll r1 M = some q) : Ct l0 E yX1_judgeAll cX1_judgeAll 3 none d 0 0 [rr E.1 34, rr E.1 r1] ex n Rf M n Rf none q := by
  obtain ⟨d, rfl⟩ := Nat.exists_eq_add_of_le' hd
  refine Ct.of pnX1 (Nat.le_of_ble_eq_true rfl) (fun g hg hr _ => ?_)
  replace hg : Ok g l0 E cX1_judgeAll RX1 3 (d + 7) 0 0 := hg
  show WG g E 3 n Rf ex 0 0 0 [(0, rr E.1 34), (1, rr E.1 r1)] [] M
  unfold sX1_judgeAll at h
  refine g_iconst hg dX1_judgeAll_0 kI_0 ?_
  refine g_istore_n (lv' := [(2, .int 0), (0, rr E.1 34), (1, rr E.1 r1)]) hg dX1_judgeAll_1 rfl (by decide) rfl ?_
  refine g_sub (lv' := [(0, rr E.1 34), (1, rr E.1 r1), (2, .int 0)]) [1, 2, 0] rfl ?_
  exact lkX1_judgeAll_2 hn hRf hr1 hg hr  4096 _ _ h
theorem lkX2_resetReads_53 {g : Gm} {l0 : Launch} {E : En} {d n : Nat} {Rf : Nat → Nat → Nat} {ex : Bool} {kq : Nat × Nat} (hn : 239 ≤ n) (hRf : RfOk 1 239 kq Rf) (hg : Ok g l0 E cX2_resetReads RX2 5 (d + 2) 0 0) {q : Mm} (hr : Ret g E 0 0 none ex n Rf none q) {k7 : Int32 → Mm → Option (Mm)} (hk7 : ∀ (x2 : Int32) (M : Mm), k7 x2 M = some q → WG g E 5 n Rf ex 0 0 7 [(0, rr E.1 158), (2, .int x2)] [] M) {k14 : Int32 → Int32 → Mm → Option (Mm)} (hk14 : ∀ (x2 : Int32) (x3 : Int32) (M : Mm), k14 x2 x3 M = some q → WG g E 5 n Rf ex 0 0 14 [(0, rr E.1 158), (2, .int x2), (3, .int x3)] [] M) {k23 : Int32 → Int32 → Int32 → Mm → Option (Mm)} (hk23 : ∀ (x2 : Int32) (x3 : Int32) (x4 : Int32) (M : Mm), k23 x2 x3 x4 M = some q → WG g E 5 n Rf ex 0 0 23 [(0, rr E.1 158), (2, .int x2), (3, .int x3), (4, .int x4)] [] M) : ∀ (x2 : Int32) (x3 : Int32) (x4 : Int32) (s1 : Int32) (s2 : Int32) (M : Mm), sX2_resetReads_53 k7 k14 k23 x2 x3 x4 s1 s2 M = some q → WG g E 5 n Rf ex 0 0 53 [(0, rr E.1 158), (2, .int x2), (3, .int x3), (4, .int x4)] [.int s2, .int s1, rr E.1 159] M := by
  intro x2 x3 x4 s1 s2 M h
  unfold sX2_resetReads_53 at h
  obtain ⟨c53, h⟩ := ck_some h
  refine g_iast hg ly159 (idb rfl rfl hn) (inb_vp c53) dX2_resetReads_53 ?_
  refine g_inc (lv' := [(4, .int (x4 + 1)), (0, rr E.1 158), (2, .int x2), (3, .int x3)]) hg dX2_resetReads_54 kI_1 3 rfl (by decide) rfl ?_
  refine g_goto (tgt := 23) hg dX2_resetReads_57 (by decide) ?_
  refine g_sub (lv' := [(0, rr E.1 158), (2, .int x2), (3, .int x3), (4, .int (x4 + 1))]) [1, 2, 3, 0] rfl ?_
  exact hk23 _ _ _ _ h
theorem lkX2_resetReads_23 {g : Gm} {l0 : Launch} {E : En} {d n : Nat} {Rf : Nat → Nat → Nat} {ex : Bool} {kq : Nat × Nat} (hn : 239 ≤ n) (hRf : RfOk 1 239 kq Rf) (hg : Ok g l0 E cX2_resetReads RX2 5 (d + 2) 0 0) {q : Mm} (hr : Ret g E 0 0 none ex n Rf none q) {k7 : Int32 → Mm → Option (Mm)} (hk7 : ∀ (x2 : Int32) (M : Mm), k7 x2 M = some q → WG g E 5 n Rf ex 0 0 7 [(0, rr E.1 158), (2, .int x2)] [] M) {k14 : Int32 → Int32 → Mm → Option (Mm)} (hk14 : ∀ (x2 : Int32) (x3 : Int32) (M : Mm), k14 x2 x3 M = some q → WG g E 5 n Rf ex 0 0 14 [(0, rr E.1 158), (2, .int x2), (3, .int x3)] [] M) : ∀ (F : Nat) (x2 : Int32) (x3 : Int32) (x4 : Int32) (M : Mm), sX2_resetReads_23 k7 k14 F x2 x3 x4 M = some q → WG g E 5 n Rf ex 0 0 23 [(0, rr E.1 158), (2, .int x2), (3, .int x3), (4, .int x4)] [] M := by
  intro F
  induction F with
  | zero =>
    intro x2 x3 x4 M h
    cases h
  | succ F ih =>
    intro x2 x3 x4 M h
    rw [sX2_resetReads_23] at h
    refine g_iload hg dX2_resetReads_23 3 rfl ?_
    refine g_bipush hg dX2_resetReads_25 kB_8 ?_
    refine g_icmp_ge (tgt := 60) hg dX2_resetReads_27 (by decide) (fun c => ?_) (fun c => ?_)
    · replace h := itT c h
      refine g_inc (lv' := [(3, .int (x3 + 1)), (0, rr E.1 158), (2, .int x2), (4, .int x4)]) hg dX2_resetReads_60 kI_1 2 rfl (by decide) rfl ?_
      refine g_goto (tgt := 14) hg dX2_resetReads_63 (by decide) ?_
      refine g_sub (lv' := [(0, rr E.1 158), (2, .int x2), (3, .int (x3 + 1))]) [1, 2, 0] rfl ?_
      exact hk14 _ _ _ h
    · replace h := itF c h
      refine g_rload_n hg dX2_resetReads_30 rfl 0 rfl ?_
      refine g_getR (r := 159) hg fl_X2_9 ly158 rfl (idb rfl rfl hn) (rfc hRf rfl rfl rfl rfl) (by decide) dX2_resetReads_31 ?_
      refine g_iload_n hg dX2_resetReads_34 rfl 1 rfl ?_
      refine g_iload_n hg dX2_resetReads_35 rfl 2 rfl ?_
      refine g_iload hg dX2_resetReads_36 3 rfl ?_
      obtain ⟨q38, e38, h⟩ := Option.bind_eq_some_iff.mp h
      refine g_callSi (As := [.int x2, .int x3, .int x4]) (rest := [rr E.1 159]) hg (lkX2_place (by omega) hn hRf  e38) cs_X2_33 rfl rfl (Nat.le_of_ble_eq_true rfl) ⟨Nat.le_refl _, Nat.le_refl _⟩ dX2_resetReads_38 ?_
      refine g_iload_n hg dX2_resetReads_41 rfl 2 rfl ?_
      refine g_iload hg dX2_resetReads_42 3 rfl ?_
      refine g_icmp_ne (tgt := 52) hg dX2_resetReads_44 (by decide) (fun c => ?_) (fun c => ?_)
      · rw [if_neg c] at h
        refine g_iconst hg dX2_resetReads_52 kI_0 ?_
        exact lkX2_resetReads_53 hn hRf hg hr hk7 hk14 ih _ _ _ _ _ _ h
      · rw [if_pos c] at h
        refine g_bipush hg dX2_resetReads_47 kB_16 ?_
        refine g_goto (tgt := 53) hg dX2_resetReads_49 (by decide) ?_
        exact lkX2_resetReads_53 hn hRf hg hr hk7 hk14 ih _ _ _ _ _ _ h
theorem lkX2_resetReads_14 {g : Gm} {l0 : Launch} {E : En} {d n : Nat} {Rf : Nat → Nat → Nat} {ex : Bool} {kq : Nat × Nat} (hn : 239 ≤ n) (hRf : RfOk 1 239 kq Rf) (hg : Ok g l0 E cX2_resetReads RX2 5 (d + 2) 0 0) {q : Mm} (hr : Ret g E 0 0 none ex n Rf none q) {k7 : Int32 → Mm → Option (Mm)} (hk7 : ∀ (x2 : Int32) (M : Mm), k7 x2 M = some q → WG g E 5 n Rf ex 0 0 7 [(0, rr E.1 158), (2, .int x2)] [] M) : ∀ (F : Nat) (x2 : Int32) (x3 : Int32) (M : Mm), sX2_resetReads_14 k7 F x2 x3 M = some q → WG g E 5 n Rf ex 0 0 14 [(0, rr E.1 158), (2, .int x2), (3, .int x3)] [] M := by
  intro F
  induction F with
  | zero =>
    intro x2 x3 M h
    cases h
  | succ F ih =>
    intro x2 x3 M h
    rw [sX2_resetReads_14] at h
    refine g_iload_n hg dX2_resetReads_14 rfl 2 rfl ?_
    refine g_bipush hg dX2_resetReads_15 kB_8 ?_
    refine g_icmp_ge (tgt := 66) hg dX2_resetReads_17 (by decide) (fun c => ?_) (fun c => ?_)
    · replace h := itT c h
      refine g_inc (lv' := [(2, .int (x2 + 1)), (0, rr E.1 158), (3, .int x3)]) hg dX2_resetReads_66 kI_1 1 rfl (by decide) rfl ?_
      refine g_goto (tgt := 7) hg dX2_resetReads_69 (by decide) ?_
      refine g_sub (lv' := [(0, rr E.1 158), (2, .int (x2 + 1))]) [1, 0] rfl ?_
      exact hk7 _ _ h
    · replace h := itF c h
      refine g_iconst hg dX2_resetReads_20 kI_0 ?_
      refine g_istore (lv' := [(4, .int 0), (0, rr E.1 158), (2, .int x2), (3, .int x3)]) hg dX2_resetReads_21 (by decide) rfl ?_
      refine g_sub (lv' := [(0, rr E.1 158), (2, .int x2), (3, .int x3), (4, .int 0)]) [1, 2, 3, 0] rfl ?_
      exact lkX2_resetReads_23 hn hRf hg hr hk7 ih 4096 _ _ _ _ h
theorem lkX2_resetReads_7 {g : Gm} {l0 : Launch} {E : En} {d n : Nat} {Rf : Nat → Nat → Nat} {ex : Bool} {kq : Nat × Nat} (hn : 239 ≤ n) (hRf : RfOk 1 239 kq Rf) (hg : Ok g l0 E cX2_resetReads RX2 5 (d + 2) 0 0) {q : Mm} (hr : Ret g E 0 0 none ex n Rf none q) : ∀ (F : Nat) (x2 : Int32) (M : Mm), sX2_resetReads_7 F x2 M = some q → WG g E 5 n Rf ex 0 0 7 [(0, rr E.1 158), (2, .int x2)] [] M := by
  intro F
  induction F with
  | zero =>
    intro x2 M h
    cases h
  | succ F ih =>
    intro x2 M h
    rw [sX2_resetReads_7] at h
    refine g_iload_n hg dX2_resetReads_7 rfl 1 rfl ?_
    refine g_iconst hg dX2_resetReads_8 kI_3 ?_
    refine g_icmp_ge (tgt := 72) hg dX2_resetReads_9 (by decide) (fun c => ?_) (fun c => ?_)
    · replace h := itT c h
      replace h := Option.some.inj h
      subst h
      exact g_vret hg hr dX2_resetReads_72
    · replace h := itF c h
      refine g_iconst hg dX2_resetReads_12 kI_0 ?_
      refine g_istore_n (lv' := [(3, .int 0), (0, rr E.1 158), (2, .int x2)]) hg dX2_resetReads_13 rfl (by decide) rfl ?_
      refine g_sub (lv' := [(0, rr E.1 158), (2, .int x2), (3, .int 0)]) [1, 2, 0] rfl ?_
      exact lkX2_resetReads_14 hn hRf hg hr ih 4096 _ _ _ h
theorem lkX2_resetReads {l0 : Launch} {E : En} {d n : Nat} {Rf : Nat → Nat → Nat} {ex : Bool} {kq : Nat × Nat} (hd : 2 ≤ d) (hn : 239 ≤ n) (hRf : RfOk 1 239 kq Rf) {x1 : Int32} {M : Mm} {q : Mm} (h : sX2_resetReads x1 M = some q) : Ct l0 E yX2_resetReads cX2_resetReads 5 none d 0 0 [rr E.1 158, .int x1] ex n Rf M n Rf none q := by
  obtain ⟨d, rfl⟩ := Nat.exists_eq_add_of_le' hd
  refine Ct.of pnX2 (Nat.le_of_ble_eq_true rfl) (fun g hg hr _ => ?_)
  replace hg : Ok g l0 E cX2_resetReads RX2 5 (d + 2) 0 0 := hg
  show WG g E 5 n Rf ex 0 0 0 [(0, rr E.1 158), (1, .int x1)] [] M
  unfold sX2_resetReads at h
  refine g_rload_n hg dX2_resetReads_0 rfl 0 rfl ?_
  refine g_iload_n hg dX2_resetReads_1 rfl 1 rfl ?_
  refine g_putI hg fp_X2_29 ly158 rfl (idb rfl rfl hn) dX2_resetReads_2 ?_
  refine g_iconst hg dX2_resetReads_5 kI_0 ?_
  refine g_istore_n (lv' := [(2, .int 0), (0, rr E.1 158), (1, .int x1)]) hg dX2_resetReads_6 rfl (by decide) rfl ?_
  refine g_sub (lv' := [(0, rr E.1 158), (2, .int 0)]) [1, 0] rfl ?_
  exact lkX2_resetReads_7 hn hRf hg hr  4096 _ _ h
theorem lkX12_thrown {l0 : Launch} {E : En} {d n : Nat} {Rf : Nat → Nat → Nat} {ex : Bool} {kq : Nat × Nat} (hd : 1 ≤ d) (hn : 238 ≤ n) (hRf : RfOk 194 238 kq Rf)  {M : Mm} {q : Int32 × Mm} (h : sX12_thrown M = some q) : Ct l0 E yX12_thrown cX12_thrown 1 (some .int) d 0 0 [rr E.1 194] ex n Rf M n Rf (some (.int q.1)) q.2 := by
  obtain ⟨d, rfl⟩ := Nat.exists_eq_add_of_le' hd
  refine Ct.of pnX12 (Nat.le_of_ble_eq_true rfl) (fun g hg hr _ => ?_)
  replace hg : Ok g l0 E cX12_thrown RX12 1 (d + 1) 0 0 := hg
  show WG g E 1 n Rf ex 0 0 0 [(0, rr E.1 194)] [] M
  unfold sX12_thrown at h
  refine g_rload_n hg dX12_thrown_0 rfl 0 rfl ?_
  refine g_getI hg fl_X12_171 ly194 rfl (idb rfl rfl hn) dX12_thrown_1 ?_
  replace h := Option.some.inj h
  subst h
  exact g_iret hg hr dX12_thrown_4
theorem lkX12_bare_2 {g : Gm} {l0 : Launch} {E : En} {d n : Nat} {Rf : Nat → Nat → Nat} {ex : Bool} {kq : Nat × Nat} (hn : 238 ≤ n) (hRf : RfOk 194 238 kq Rf) (hg : Ok g l0 E cX12_bare RX12 2 (d + 1) 0 0) {q : Mm} (hr : Ret g E 0 0 none ex n Rf none q) : ∀ (F : Nat) (x1 : Int32) (M : Mm), sX12_bare_2 F x1 M = some q → WG g E 2 n Rf ex 0 0 2 [(0, rr E.1 194), (1, .int x1)] [] M := by
  intro F
  induction F with
  | zero =>
    intro x1 M h
    cases h
  | succ F ih =>
    intro x1 M h
    rw [sX12_bare_2] at h
    refine g_iload_n hg dX12_bare_2 rfl 1 rfl ?_
    refine g_bipush hg dX12_bare_3 kB_64 ?_
    refine g_icmp_ge (tgt := 49) hg dX12_bare_5 (by decide) (fun c => ?_) (fun c => ?_)
    · replace h := itT c h
      refine g_rload_n hg dX12_bare_49 rfl 0 rfl ?_
      refine g_iconst hg dX12_bare_50 kI_0 ?_
      refine g_putI hg fp_X12_174 ly194 rfl (idb rfl rfl hn) dX12_bare_51 ?_
      replace h := Option.some.inj h
      subst h
      exact g_vret hg hr dX12_bare_54
    · replace h := itF c h
      refine g_rload_n hg dX12_bare_8 rfl 0 rfl ?_
      refine g_getR (r := 196) hg fl_X12_20 ly194 rfl (idb rfl rfl hn) (rfc hRf rfl rfl rfl rfl) (by decide) dX12_bare_9 ?_
      refine g_iload_n hg dX12_bare_12 rfl 1 rfl ?_
      refine g_iconst hg dX12_bare_13 kI_0 ?_
      obtain ⟨c14, h⟩ := ck_some h
      refine g_iast hg ly196 (idb rfl rfl hn) (inb_vp c14) dX12_bare_14 ?_
      refine g_rload_n hg dX12_bare_15 rfl 0 rfl ?_
      refine g_getR (r := 197) hg fl_X12_23 ly194 rfl (idb rfl rfl hn) (rfc hRf rfl rfl rfl rfl) (by decide) dX12_bare_16 ?_
      refine g_iload_n hg dX12_bare_19 rfl 1 rfl ?_
      refine g_iconst hg dX12_bare_20 kI_0 ?_
      obtain ⟨c21, h⟩ := ck_some h
      refine g_iast hg ly197 (idb rfl rfl hn) (inb_vp c21) dX12_bare_21 ?_
      refine g_rload_n hg dX12_bare_22 rfl 0 rfl ?_
      refine g_getR (r := 198) hg fl_X12_26 ly194 rfl (idb rfl rfl hn) (rfc hRf rfl rfl rfl rfl) (by decide) dX12_bare_23 ?_
      refine g_iload_n hg dX12_bare_26 rfl 1 rfl ?_
      refine g_iconst hg dX12_bare_27 kI_m1 ?_
      obtain ⟨c28, h⟩ := ck_some h
      refine g_iast hg ly198 (idb rfl rfl hn) (inb_vp c28) dX12_bare_28 ?_
      refine g_rload_n hg dX12_bare_29 rfl 0 rfl ?_
      refine g_getR (r := 199) hg fl_X12_29 ly194 rfl (idb rfl rfl hn) (rfc hRf rfl rfl rfl rfl) (by decide) dX12_bare_30 ?_
      refine g_iload_n hg dX12_bare_33 rfl 1 rfl ?_
      refine g_iconst hg dX12_bare_34 kI_1 ?_
      obtain ⟨c35, h⟩ := ck_some h
      refine g_iast hg ly199 (idb rfl rfl hn) (inb_vp c35) dX12_bare_35 ?_
      refine g_rload_n hg dX12_bare_36 rfl 0 rfl ?_
      refine g_getR (r := 200) hg fl_X12_32 ly194 rfl (idb rfl rfl hn) (rfc hRf rfl rfl rfl rfl) (by decide) dX12_bare_37 ?_
      refine g_iload_n hg dX12_bare_40 rfl 1 rfl ?_
      refine g_iconst hg dX12_bare_41 kI_m1 ?_
      obtain ⟨c42, h⟩ := ck_some h
      refine g_iast hg ly200 (idb rfl rfl hn) (inb_vp c42) dX12_bare_42 ?_
      refine g_inc (lv' := [(1, .int (x1 + 1)), (0, rr E.1 194)]) hg dX12_bare_43 kI_1 1 rfl (by decide) rfl ?_
      refine g_goto (tgt := 2) hg dX12_bare_46 (by decide) ?_
      refine g_sub (lv' := [(0, rr E.1 194), (1, .int (x1 + 1))]) [1, 0] rfl ?_
      exact ih _ _ h
theorem lkX12_bare {l0 : Launch} {E : En} {d n : Nat} {Rf : Nat → Nat → Nat} {ex : Bool} {kq : Nat × Nat} (hd : 1 ≤ d) (hn : 238 ≤ n) (hRf : RfOk 194 238 kq Rf)  {M : Mm} {q : Mm} (h : sX12_bare M = some q) : Ct l0 E yX12_bare cX12_bare 2 none d 0 0 [rr E.1 194] ex n Rf M n Rf none q := by
  obtain ⟨d, rfl⟩ := Nat.exists_eq_add_of_le' hd
  refine Ct.of pnX12 (Nat.le_of_ble_eq_true rfl) (fun g hg hr _ => ?_)
  replace hg : Ok g l0 E cX12_bare RX12 2 (d + 1) 0 0 := hg
  show WG g E 2 n Rf ex 0 0 0 [(0, rr E.1 194)] [] M
  unfold sX12_bare at h
  refine g_iconst hg dX12_bare_0 kI_0 ?_
  refine g_istore_n (lv' := [(1, .int 0), (0, rr E.1 194)]) hg dX12_bare_1 rfl (by decide) rfl ?_
  refine g_sub (lv' := [(0, rr E.1 194), (1, .int 0)]) [1, 0] rfl ?_
  exact lkX12_bare_2 hn hRf hg hr  4096 _ _ h
theorem lkX12_feed_76 {g : Gm} {l0 : Launch} {E : En} {d n : Nat} {Rf : Nat → Nat → Nat} {ex : Bool} {kq : Nat × Nat} (hn : 238 ≤ n) (hRf : RfOk 194 238 kq Rf) (hg : Ok g l0 E cX12_feed RX12 8 (d + 1) 0 0) {q : Int32 × Mm} (hr : Ret g E 0 0 (some .int) ex n Rf (some (.int q.1)) q.2) {k23 : Int32 → Int32 → Int32 → Int32 → Int32 → Int32 → Mm → Option (Int32 × Mm)} (hk23 : ∀ (x1 : Int32) (x2 : Int32) (x3 : Int32) (x4 : Int32) (x5 : Int32) (x6 : Int32) (M : Mm), k23 x1 x2 x3 x4 x5 x6 M = some q → WG g E 8 n Rf ex 0 0 23 [(0, rr E.1 194), (1, .int x1), (2, .int x2), (3, .int x3), (4, .int x4), (5, .int x5), (6, .int x6)] [] M) : ∀ (x1 : Int32) (x2 : Int32) (x3 : Int32) (x4 : Int32) (x5 : Int32) (x6 : Int32) (s0 : Int32) (M : Mm), sX12_feed_76 k23 x1 x2 x3 x4 x5 x6 s0 M = some q → WG g E 8 n Rf ex 0 0 76 [(0, rr E.1 194), (1, .int x1), (2, .int x2), (3, .int x3), (4, .int x4), (5, .int x5), (6, .int x6)] [.int s0] M := by
  intro x1 x2 x3 x4 x5 x6 s0 M h
  unfold sX12_feed_76 at h
  refine g_istore (lv' := [(7, .int s0), (0, rr E.1 194), (1, .int x1), (2, .int x2), (3, .int x3), (4, .int x4), (5, .int x5), (6, .int x6)]) hg dX12_feed_76 (by decide) rfl ?_
  refine g_rload_n hg dX12_feed_78 rfl 1 rfl ?_
  refine g_getR (r := 195) hg fl_X12_7 ly194 rfl (idb rfl rfl hn) (rfc hRf rfl rfl rfl rfl) (by decide) dX12_feed_79 ?_
  refine g_rload_n hg dX12_feed_82 rfl 1 rfl ?_
  refine g_getI hg fl_X12_177 ly194 rfl (idb rfl rfl hn) dX12_feed_83 ?_
  refine g_iload hg dX12_feed_86 7 rfl ?_
  refine g_iadd hg dX12_feed_88 ?_
  refine g_iload hg dX12_feed_89 0 rfl ?_
  refine g_bipush hg dX12_feed_91 kB_24 ?_
  refine g_bipush hg dX12_feed_93 kB_8 ?_
  refine g_iload hg dX12_feed_95 7 rfl ?_
  refine g_iconst hg dX12_feed_97 kI_4 ?_
  refine g_irem hg dX12_feed_98 (by decide) ?_
  refine g_imul hg dX12_feed_99 ?_
  refine g_isub hg dX12_feed_100 ?_
  refine g_ishr hg dX12_feed_101 ?_
  refine g_sipush hg dX12_feed_102 kS_255 ?_
  refine g_iand hg dX12_feed_105 ?_
  obtain ⟨c106, h⟩ := ck_some h
  refine g_iast hg ly195 (idb rfl rfl hn) (inb_vp c106) dX12_feed_106 ?_
  refine g_inc (lv' := [(6, .int (x6 + 1)), (7, .int s0), (0, rr E.1 194), (1, .int x1), (2, .int x2), (3, .int x3), (4, .int x4), (5, .int x5)]) hg dX12_feed_107 kI_1 7 rfl (by decide) rfl ?_
  refine g_goto (tgt := 23) hg dX12_feed_110 (by decide) ?_
  refine g_sub (lv' := [(0, rr E.1 194), (1, .int x1), (2, .int x2), (3, .int x3), (4, .int x4), (5, .int x5), (6, .int (x6 + 1))]) [2, 3, 4, 5, 6, 7, 0] rfl ?_
  exact hk23 _ _ _ _ _ _ _ h
theorem lkX12_feed_23 {g : Gm} {l0 : Launch} {E : En} {d n : Nat} {Rf : Nat → Nat → Nat} {ex : Bool} {kq : Nat × Nat} (hn : 238 ≤ n) (hRf : RfOk 194 238 kq Rf) (hg : Ok g l0 E cX12_feed RX12 8 (d + 1) 0 0) {q : Int32 × Mm} (hr : Ret g E 0 0 (some .int) ex n Rf (some (.int q.1)) q.2) : ∀ (F : Nat) (x1 : Int32) (x2 : Int32) (x3 : Int32) (x4 : Int32) (x5 : Int32) (x6 : Int32) (M : Mm), sX12_feed_23 F x1 x2 x3 x4 x5 x6 M = some q → WG g E 8 n Rf ex 0 0 23 [(0, rr E.1 194), (1, .int x1), (2, .int x2), (3, .int x3), (4, .int x4), (5, .int x5), (6, .int x6)] [] M := by
  intro F
  induction F with
  | zero =>
    intro x1 x2 x3 x4 x5 x6 M h
    cases h
  | succ F ih =>
    intro x1 x2 x3 x4 x5 x6 M h
    rw [sX12_feed_23] at h
    refine g_iload hg dX12_feed_23 6 rfl ?_
    refine g_bipush hg dX12_feed_25 kB_20 ?_
    refine g_icmp_ge (tgt := 113) hg dX12_feed_27 (by decide) (fun c => ?_) (fun c => ?_)
    · replace h := itT c h
      refine g_rload_n hg dX12_feed_113 rfl 0 rfl ?_
      refine g_dup hg dX12_feed_114 rfl ?_
      refine g_getI hg fl_X12_177 ly194 rfl (idb rfl rfl hn) dX12_feed_115 ?_
      refine g_bipush hg dX12_feed_118 kB_20 ?_
      refine g_iadd hg dX12_feed_120 ?_
      refine g_putI hg fp_X12_177 ly194 rfl (idb rfl rfl hn) dX12_feed_121 ?_
      refine g_rload_n hg dX12_feed_124 rfl 0 rfl ?_
      refine g_getI hg fl_X12_177 ly194 rfl (idb rfl rfl hn) dX12_feed_125 ?_
      replace h := Option.some.inj h
      subst h
      exact g_iret hg hr dX12_feed_128
    · replace h := itF c h
      refine g_iload hg dX12_feed_30 6 rfl ?_
      refine g_iconst hg dX12_feed_32 kI_4 ?_
      refine g_icmp_ge (tgt := 40) hg dX12_feed_33 (by decide) (fun c => ?_) (fun c => ?_)
      · rw [if_pos c] at h
        refine g_iload hg dX12_feed_40 6 rfl ?_
        refine g_bipush hg dX12_feed_42 kB_8 ?_
        refine g_icmp_ge (tgt := 51) hg dX12_feed_44 (by decide) (fun c => ?_) (fun c => ?_)
        · rw [if_pos c] at h
          refine g_iload hg dX12_feed_51 6 rfl ?_
          refine g_bipush hg dX12_feed_53 kB_12 ?_
          refine g_icmp_ge (tgt := 62) hg dX12_feed_55 (by decide) (fun c => ?_) (fun c => ?_)
          · rw [if_pos c] at h
            refine g_iload hg dX12_feed_62 6 rfl ?_
            refine g_bipush hg dX12_feed_64 kB_16 ?_
            refine g_icmp_ge (tgt := 74) hg dX12_feed_66 (by decide) (fun c => ?_) (fun c => ?_)
            · rw [if_pos c] at h
              refine g_iload hg dX12_feed_74 5 rfl ?_
              exact lkX12_feed_76 hn hRf hg hr ih _ _ _ _ _ _ _ _ h
            · rw [if_neg c] at h
              refine g_iload hg dX12_feed_69 4 rfl ?_
              refine g_goto (tgt := 76) hg dX12_feed_71 (by decide) ?_
              exact lkX12_feed_76 hn hRf hg hr ih _ _ _ _ _ _ _ _ h
          · rw [if_neg c] at h
            refine g_iload_n hg dX12_feed_58 rfl 3 rfl ?_
            refine g_goto (tgt := 76) hg dX12_feed_59 (by decide) ?_
            exact lkX12_feed_76 hn hRf hg hr ih _ _ _ _ _ _ _ _ h
        · rw [if_neg c] at h
          refine g_iload_n hg dX12_feed_47 rfl 2 rfl ?_
          refine g_goto (tgt := 76) hg dX12_feed_48 (by decide) ?_
          exact lkX12_feed_76 hn hRf hg hr ih _ _ _ _ _ _ _ _ h
      · rw [if_neg c] at h
        refine g_iload_n hg dX12_feed_36 rfl 1 rfl ?_
        refine g_goto (tgt := 76) hg dX12_feed_37 (by decide) ?_
        exact lkX12_feed_76 hn hRf hg hr ih _ _ _ _ _ _ _ _ h
theorem lkX12_feed {l0 : Launch} {E : En} {d n : Nat} {Rf : Nat → Nat → Nat} {ex : Bool} {kq : Nat × Nat} (hd : 1 ≤ d) (hn : 238 ≤ n) (hRf : RfOk 194 238 kq Rf) {x1 : Int32} {x2 : Int32} {x3 : Int32} {x4 : Int32} {x5 : Int32} {M : Mm} {q : Int32 × Mm} (h : sX12_feed x1 x2 x3 x4 x5 M = some q) : Ct l0 E yX12_feed cX12_feed 8 (some .int) d 0 0 [rr E.1 194, .int x1, .int x2, .int x3, .int x4, .int x5] ex n Rf M n Rf (some (.int q.1)) q.2 := by
  obtain ⟨d, rfl⟩ := Nat.exists_eq_add_of_le' hd
  refine Ct.of pnX12 (Nat.le_of_ble_eq_true rfl) (fun g hg hr _ => ?_)
  replace hg : Ok g l0 E cX12_feed RX12 8 (d + 1) 0 0 := hg
  show WG g E 8 n Rf ex 0 0 0 [(0, rr E.1 194), (1, .int x1), (2, .int x2), (3, .int x3), (4, .int x4), (5, .int x5)] [] M
  unfold sX12_feed at h
  refine g_rload_n hg dX12_feed_0 rfl 0 rfl ?_
  refine g_iconst hg dX12_feed_1 kI_0 ?_
  refine g_putI hg fp_X12_171 ly194 rfl (idb rfl rfl hn) dX12_feed_2 ?_
  refine g_rload_n hg dX12_feed_5 rfl 0 rfl ?_
  refine g_getI hg fl_X12_177 ly194 rfl (idb rfl rfl hn) dX12_feed_6 ?_
  refine g_bipush hg dX12_feed_9 kB_20 ?_
  refine g_iadd hg dX12_feed_11 ?_
  refine g_sipush hg dX12_feed_12 kS_800 ?_
  refine g_icmp_le (tgt := 20) hg dX12_feed_15 (by decide) (fun c => ?_) (fun c => ?_)
  · replace h := itT c h
    refine g_iconst hg dX12_feed_20 kI_0 ?_
    refine g_istore (lv' := [(6, .int 0), (0, rr E.1 194), (1, .int x1), (2, .int x2), (3, .int x3), (4, .int x4), (5, .int x5)]) hg dX12_feed_21 (by decide) rfl ?_
    refine g_sub (lv' := [(0, rr E.1 194), (1, .int x1), (2, .int x2), (3, .int x3), (4, .int x4), (5, .int x5), (6, .int 0)]) [1, 2, 3, 4, 5, 6, 0] rfl ?_
    exact lkX12_feed_23 hn hRf hg hr  4096 _ _ _ _ _ _ _ h
  · replace h := itF c h
    refine g_iconst hg dX12_feed_18 kI_m1 ?_
    replace h := Option.some.inj h
    subst h
    exact g_iret hg hr dX12_feed_19
theorem lkX12_land {l0 : Launch} {E : En} {d n : Nat} {Rf : Nat → Nat → Nat} {ex : Bool} {kq : Nat × Nat} (hd : 2 ≤ d) (hn : 238 ≤ n) (hRf : RfOk 194 238 kq Rf) {x1 : Int32} {x2 : Int32} {M : Mm} {q : Int32 × Mm} (h : sX12_land x1 x2 M = some q) : Ct l0 E yX12_land cX12_land 3 (some .boolean) d 0 0 [rr E.1 194, .int x1, .int x2] ex n Rf M n Rf (some (.int q.1)) q.2 := by
  obtain ⟨d, rfl⟩ := Nat.exists_eq_add_of_le' hd
  refine Ct.of pnX12 (Nat.le_of_ble_eq_true rfl) (fun g hg hr _ => ?_)
  replace hg : Ok g l0 E cX12_land RX12 3 (d + 2) 0 0 := hg
  show WG g E 3 n Rf ex 0 0 0 [(0, rr E.1 194), (1, .int x1), (2, .int x2)] [] M
  unfold sX12_land at h
  refine g_rload_n hg dX12_land_0 rfl 0 rfl ?_
  refine g_iconst hg dX12_land_1 kI_0 ?_
  refine g_putI hg fp_X12_171 ly194 rfl (idb rfl rfl hn) dX12_land_2 ?_
  refine g_iload_n hg dX12_land_5 rfl 1 rfl ?_
  refine g_iconst hg dX12_land_6 kI_2 ?_
  refine g_icmp_lt (tgt := 27) hg dX12_land_7 (by decide) (fun c => ?_) (fun c => ?_)
  · replace h := itT c h
    refine g_iconst hg dX12_land_27 kI_0 ?_
    replace h := Option.some.inj h
    subst h
    exact g_zret hg hr rfl dX12_land_28
  · replace h := itF c h
    refine g_iload_n hg dX12_land_10 rfl 1 rfl ?_
    refine g_bipush hg dX12_land_11 kB_8 ?_
    refine g_icmp_gt (tgt := 27) hg dX12_land_13 (by decide) (fun c => ?_) (fun c => ?_)
    · replace h := itT c h
      refine g_iconst hg dX12_land_27 kI_0 ?_
      replace h := Option.some.inj h
      subst h
      exact g_zret hg hr rfl dX12_land_28
    · replace h := itF c h
      refine g_iload_n hg dX12_land_16 rfl 2 rfl ?_
      refine g_iconst hg dX12_land_17 kI_2 ?_
      refine g_icmp_lt (tgt := 27) hg dX12_land_18 (by decide) (fun c => ?_) (fun c => ?_)
      · replace h := itT c h
        refine g_iconst hg dX12_land_27 kI_0 ?_
        replace h := Option.some.inj h
        subst h
        exact g_zret hg hr rfl dX12_land_28
      · replace h := itF c h
        refine g_iload_n hg dX12_land_21 rfl 2 rfl ?_
        refine g_bipush hg dX12_land_22 kB_8 ?_
        refine g_icmp_le (tgt := 29) hg dX12_land_24 (by decide) (fun c => ?_) (fun c => ?_)
        · replace h := itT c h
          refine g_rload_n hg dX12_land_29 rfl 0 rfl ?_
          refine g_iload_n hg dX12_land_30 rfl 1 rfl ?_
          refine g_putI hg fp_X12_13 ly194 rfl (idb rfl rfl hn) dX12_land_31 ?_
          refine g_rload_n hg dX12_land_34 rfl 0 rfl ?_
          refine g_iload_n hg dX12_land_35 rfl 2 rfl ?_
          refine g_putI hg fp_X12_17 ly194 rfl (idb rfl rfl hn) dX12_land_36 ?_
          refine g_rload_n hg dX12_land_39 rfl 0 rfl ?_
          obtain ⟨M40, e40, h⟩ := Option.bind_eq_some_iff.mp h
          refine g_callVv (As := []) (rest := []) hg (lkX12_bare (by omega) hn hRf  e40) cv_X12_168 rfl ly194 (idb rfl rfl hn) rfl rfl (Nat.le_of_ble_eq_true rfl) ⟨Nat.le_refl _, Nat.le_refl _⟩ dX12_land_40 ?_
          refine g_iconst hg dX12_land_43 kI_1 ?_
          replace h := Option.some.inj h
          subst h
          exact g_zret hg hr rfl dX12_land_44
        · replace h := itF c h
          refine g_iconst hg dX12_land_27 kI_0 ?_
          replace h := Option.some.inj h
          subst h
          exact g_zret hg hr rfl dX12_land_28
theorem lkX12_isCell {l0 : Launch} {E : En} {d n : Nat} {Rf : Nat → Nat → Nat} {ex : Bool} {kq : Nat × Nat} (hd : 1 ≤ d) (hn : 238 ≤ n) (hRf : RfOk 194 238 kq Rf) {x1 : Int32} {M : Mm} {q : Int32 × Mm} (h : sX12_isCell x1 M = some q) : Ct l0 E yX12_isCell cX12_isCell 2 (some .boolean) d 0 0 [rr E.1 194, .int x1] ex n Rf M n Rf (some (.int q.1)) q.2 := by
  obtain ⟨d, rfl⟩ := Nat.exists_eq_add_of_le' hd
  refine Ct.of pnX12 (Nat.le_of_ble_eq_true rfl) (fun g hg hr _ => ?_)
  replace hg : Ok g l0 E cX12_isCell RX12 2 (d + 1) 0 0 := hg
  show WG g E 2 n Rf ex 0 0 0 [(0, rr E.1 194), (1, .int x1)] [] M
  unfold sX12_isCell at h
  refine g_iload_n hg dX12_isCell_0 rfl 1 rfl ?_
  refine g_if_lt (tgt := 21) hg dX12_isCell_1 (by decide) (fun c => ?_) (fun c => ?_)
  · rw [if_pos c] at h
    refine g_iconst hg dX12_isCell_21 kI_0 ?_
    replace h := Option.some.inj h
    subst h
    exact g_zret hg hr rfl dX12_isCell_22
  · rw [if_neg c] at h
    refine g_iload_n hg dX12_isCell_4 rfl 1 rfl ?_
    refine g_rload_n hg dX12_isCell_5 rfl 0 rfl ?_
    refine g_getI hg fl_X12_13 ly194 rfl (idb rfl rfl hn) dX12_isCell_6 ?_
    refine g_rload_n hg dX12_isCell_9 rfl 0 rfl ?_
    refine g_getI hg fl_X12_17 ly194 rfl (idb rfl rfl hn) dX12_isCell_10 ?_
    refine g_imul hg dX12_isCell_13 ?_
    refine g_icmp_ge (tgt := 21) hg dX12_isCell_14 (by decide) (fun c => ?_) (fun c => ?_)
    · rw [if_pos c] at h
      refine g_iconst hg dX12_isCell_21 kI_0 ?_
      replace h := Option.some.inj h
      subst h
      exact g_zret hg hr rfl dX12_isCell_22
    · rw [if_neg c] at h
      refine g_iconst hg dX12_isCell_17 kI_1 ?_
      refine g_goto (tgt := 22) hg dX12_isCell_18 (by decide) ?_
      replace h := Option.some.inj h
      subst h
      exact g_zret hg hr rfl dX12_isCell_22
theorem lkX12_ground {l0 : Launch} {E : En} {d n : Nat} {Rf : Nat → Nat → Nat} {ex : Bool} {kq : Nat × Nat} (hd : 2 ≤ d) (hn : 238 ≤ n) (hRf : RfOk 194 238 kq Rf) {x1 : Int32} {x2 : Int32} {x3 : Int32} {M : Mm} {q : Int32 × Mm} (h : sX12_ground x1 x2 x3 M = some q) : Ct l0 E yX12_ground cX12_ground 4 (some .boolean) d 0 0 [rr E.1 194, .int x1, .int x2, .int x3] ex n Rf M n Rf (some (.int q.1)) q.2 := by
  obtain ⟨d, rfl⟩ := Nat.exists_eq_add_of_le' hd
  refine Ct.of pnX12 (Nat.le_of_ble_eq_true rfl) (fun g hg hr _ => ?_)
  replace hg : Ok g l0 E cX12_ground RX12 4 (d + 2) 0 0 := hg
  show WG g E 4 n Rf ex 0 0 0 [(0, rr E.1 194), (1, .int x1), (2, .int x2), (3, .int x3)] [] M
  unfold sX12_ground at h
  refine g_rload_n hg dX12_ground_0 rfl 0 rfl ?_
  refine g_iconst hg dX12_ground_1 kI_0 ?_
  refine g_putI hg fp_X12_171 ly194 rfl (idb rfl rfl hn) dX12_ground_2 ?_
  refine g_rload_n hg dX12_ground_5 rfl 0 rfl ?_
  refine g_iload_n hg dX12_ground_6 rfl 1 rfl ?_
  obtain ⟨q7, e7, h⟩ := Option.bind_eq_some_iff.mp h
  refine g_callVi (As := [.int x1]) (rest := []) hg (lkX12_isCell (by omega) hn hRf  e7) cv_X12_180 rfl ly194 (idb rfl rfl hn) rfl rfl (Nat.le_of_ble_eq_true rfl) ⟨Nat.le_refl _, Nat.le_refl _⟩ dX12_ground_7 ?_
  refine g_if_ne (tgt := 15) hg dX12_ground_10 (by decide) (fun c => ?_) (fun c => ?_)
  · replace h := itF c h
    refine g_iload_n hg dX12_ground_15 rfl 2 rfl ?_
    by_cases c0w : x2 = 0
    · replace h := itT c0w h
      refine g_tabI (tgt := 52) (off := 36) hg dX12_ground_16 c0w (by decide) (by decide) ?_
      refine g_iload_n hg dX12_ground_52 rfl 3 rfl ?_
      refine g_if_lt (tgt := 63) hg dX12_ground_53 (by decide) (fun c => ?_) (fun c => ?_)
      · replace h := itT c h
        refine g_iconst hg dX12_ground_63 kI_0 ?_
        replace h := Option.some.inj h
        subst h
        exact g_zret hg hr rfl dX12_ground_64
      · replace h := itF c h
        refine g_iload_n hg dX12_ground_56 rfl 3 rfl ?_
        refine g_sipush hg dX12_ground_57 kS_999 ?_
        refine g_icmp_le (tgt := 65) hg dX12_ground_60 (by decide) (fun c => ?_) (fun c => ?_)
        · replace h := itT c h
          refine g_rload_n hg dX12_ground_65 rfl 0 rfl ?_
          refine g_getR (r := 196) hg fl_X12_20 ly194 rfl (idb rfl rfl hn) (rfc hRf rfl rfl rfl rfl) (by decide) dX12_ground_66 ?_
          refine g_iload_n hg dX12_ground_69 rfl 1 rfl ?_
          refine g_iload_n hg dX12_ground_70 rfl 3 rfl ?_
          obtain ⟨c71, h⟩ := ck_some h
          refine g_iast hg ly196 (idb rfl rfl hn) (inb_vp c71) dX12_ground_71 ?_
          refine g_iconst hg dX12_ground_72 kI_1 ?_
          replace h := Option.some.inj h
          subst h
          exact g_zret hg hr rfl dX12_ground_73
        · replace h := itF c h
          refine g_iconst hg dX12_ground_63 kI_0 ?_
          replace h := Option.some.inj h
          subst h
          exact g_zret hg hr rfl dX12_ground_64
    replace h := itF c0w h
    by_cases c1w : x2 = 1
    · replace h := itT c1w h
      refine g_tabI (tgt := 74) (off := 58) hg dX12_ground_16 c1w (by decide) (by decide) ?_
      refine g_iload_n hg dX12_ground_74 rfl 3 rfl ?_
      refine g_if_lt (tgt := 83) hg dX12_ground_75 (by decide) (fun c => ?_) (fun c => ?_)
      · replace h := itT c h
        refine g_iconst hg dX12_ground_83 kI_0 ?_
        replace h := Option.some.inj h
        subst h
        exact g_zret hg hr rfl dX12_ground_84
      · replace h := itF c h
        refine g_iload_n hg dX12_ground_78 rfl 3 rfl ?_
        refine g_iconst hg dX12_ground_79 kI_3 ?_
        refine g_icmp_le (tgt := 85) hg dX12_ground_80 (by decide) (fun c => ?_) (fun c => ?_)
        · replace h := itT c h
          refine g_rload_n hg dX12_ground_85 rfl 0 rfl ?_
          refine g_getR (r := 197) hg fl_X12_23 ly194 rfl (idb rfl rfl hn) (rfc hRf rfl rfl rfl rfl) (by decide) dX12_ground_86 ?_
          refine g_iload_n hg dX12_ground_89 rfl 1 rfl ?_
          refine g_iload_n hg dX12_ground_90 rfl 3 rfl ?_
          obtain ⟨c91, h⟩ := ck_some h
          refine g_iast hg ly197 (idb rfl rfl hn) (inb_vp c91) dX12_ground_91 ?_
          refine g_iconst hg dX12_ground_92 kI_1 ?_
          replace h := Option.some.inj h
          subst h
          exact g_zret hg hr rfl dX12_ground_93
        · replace h := itF c h
          refine g_iconst hg dX12_ground_83 kI_0 ?_
          replace h := Option.some.inj h
          subst h
          exact g_zret hg hr rfl dX12_ground_84
    replace h := itF c1w h
    by_cases c2w : x2 = 2
    · replace h := itT c2w h
      refine g_tabI (tgt := 94) (off := 78) hg dX12_ground_16 c2w (by decide) (by decide) ?_
      refine g_iload_n hg dX12_ground_94 rfl 3 rfl ?_
      refine g_iconst hg dX12_ground_95 kI_m1 ?_
      refine g_icmp_lt (tgt := 105) hg dX12_ground_96 (by decide) (fun c => ?_) (fun c => ?_)
      · replace h := itT c h
        refine g_iconst hg dX12_ground_105 kI_0 ?_
        replace h := Option.some.inj h
        subst h
        exact g_zret hg hr rfl dX12_ground_106
      · replace h := itF c h
        refine g_iload_n hg dX12_ground_99 rfl 3 rfl ?_
        refine g_bipush hg dX12_ground_100 kB_99 ?_
        refine g_icmp_le (tgt := 107) hg dX12_ground_102 (by decide) (fun c => ?_) (fun c => ?_)
        · replace h := itT c h
          refine g_rload_n hg dX12_ground_107 rfl 0 rfl ?_
          refine g_getR (r := 198) hg fl_X12_26 ly194 rfl (idb rfl rfl hn) (rfc hRf rfl rfl rfl rfl) (by decide) dX12_ground_108 ?_
          refine g_iload_n hg dX12_ground_111 rfl 1 rfl ?_
          refine g_iload_n hg dX12_ground_112 rfl 3 rfl ?_
          obtain ⟨c113, h⟩ := ck_some h
          refine g_iast hg ly198 (idb rfl rfl hn) (inb_vp c113) dX12_ground_113 ?_
          refine g_iconst hg dX12_ground_114 kI_1 ?_
          replace h := Option.some.inj h
          subst h
          exact g_zret hg hr rfl dX12_ground_115
        · replace h := itF c h
          refine g_iconst hg dX12_ground_105 kI_0 ?_
          replace h := Option.some.inj h
          subst h
          exact g_zret hg hr rfl dX12_ground_106
    replace h := itF c2w h
    by_cases c3w : x2 = 3
    · replace h := itT c3w h
      refine g_tabI (tgt := 116) (off := 100) hg dX12_ground_16 c3w (by decide) (by decide) ?_
      refine g_iload_n hg dX12_ground_116 rfl 3 rfl ?_
      refine g_if_lt (tgt := 126) hg dX12_ground_117 (by decide) (fun c => ?_) (fun c => ?_)
      · replace h := itT c h
        refine g_iconst hg dX12_ground_126 kI_0 ?_
        replace h := Option.some.inj h
        subst h
        exact g_zret hg hr rfl dX12_ground_127
      · replace h := itF c h
        refine g_iload_n hg dX12_ground_120 rfl 3 rfl ?_
        refine g_bipush hg dX12_ground_121 kB_99 ?_
        refine g_icmp_le (tgt := 128) hg dX12_ground_123 (by decide) (fun c => ?_) (fun c => ?_)
        · replace h := itT c h
          refine g_rload_n hg dX12_ground_128 rfl 0 rfl ?_
          refine g_getR (r := 199) hg fl_X12_29 ly194 rfl (idb rfl rfl hn) (rfc hRf rfl rfl rfl rfl) (by decide) dX12_ground_129 ?_
          refine g_iload_n hg dX12_ground_132 rfl 1 rfl ?_
          refine g_iload_n hg dX12_ground_133 rfl 3 rfl ?_
          obtain ⟨c134, h⟩ := ck_some h
          refine g_iast hg ly199 (idb rfl rfl hn) (inb_vp c134) dX12_ground_134 ?_
          refine g_iconst hg dX12_ground_135 kI_1 ?_
          replace h := Option.some.inj h
          subst h
          exact g_zret hg hr rfl dX12_ground_136
        · replace h := itF c h
          refine g_iconst hg dX12_ground_126 kI_0 ?_
          replace h := Option.some.inj h
          subst h
          exact g_zret hg hr rfl dX12_ground_127
    replace h := itF c3w h
    by_cases c4w : x2 = 4
    · replace h := itT c4w h
      refine g_tabI (tgt := 137) (off := 121) hg dX12_ground_16 c4w (by decide) (by decide) ?_
      refine g_iload_n hg dX12_ground_137 rfl 3 rfl ?_
      refine g_iconst hg dX12_ground_138 kI_m1 ?_
      refine g_icmp_lt (tgt := 147) hg dX12_ground_139 (by decide) (fun c => ?_) (fun c => ?_)
      · replace h := itT c h
        refine g_iconst hg dX12_ground_147 kI_0 ?_
        replace h := Option.some.inj h
        subst h
        exact g_zret hg hr rfl dX12_ground_148
      · replace h := itF c h
        refine g_iload_n hg dX12_ground_142 rfl 3 rfl ?_
        refine g_iconst hg dX12_ground_143 kI_5 ?_
        refine g_icmp_le (tgt := 149) hg dX12_ground_144 (by decide) (fun c => ?_) (fun c => ?_)
        · replace h := itT c h
          refine g_rload_n hg dX12_ground_149 rfl 0 rfl ?_
          refine g_getR (r := 200) hg fl_X12_32 ly194 rfl (idb rfl rfl hn) (rfc hRf rfl rfl rfl rfl) (by decide) dX12_ground_150 ?_
          refine g_iload_n hg dX12_ground_153 rfl 1 rfl ?_
          refine g_iload_n hg dX12_ground_154 rfl 3 rfl ?_
          obtain ⟨c155, h⟩ := ck_some h
          refine g_iast hg ly200 (idb rfl rfl hn) (inb_vp c155) dX12_ground_155 ?_
          refine g_iconst hg dX12_ground_156 kI_1 ?_
          replace h := Option.some.inj h
          subst h
          exact g_zret hg hr rfl dX12_ground_157
        · replace h := itF c h
          refine g_iconst hg dX12_ground_147 kI_0 ?_
          replace h := Option.some.inj h
          subst h
          exact g_zret hg hr rfl dX12_ground_148
    replace h := itF c4w h
    refine g_tabO (tgt := 158) hg dX12_ground_16 (by have e0w := lv_neT (a := 0) c0w (by decide); have e1w := lv_neT (a := 1) c1w (by decide); have e2w := lv_neT (a := 2) c2w (by decide); have e3w := lv_neT (a := 3) c3w (by decide); have e4w := lv_neT (a := 4) c4w (by decide); omega) (by decide) ?_
    refine g_iconst hg dX12_ground_158 kI_0 ?_
    replace h := Option.some.inj h
    subst h
    exact g_zret hg hr rfl dX12_ground_159
  · replace h := itT c h
    refine g_iconst hg dX12_ground_13 kI_0 ?_
    replace h := Option.some.inj h
    subst h
    exact g_zret hg hr rfl dX12_ground_14
theorem lkX12_bounds_37 {g : Gm} {l0 : Launch} {E : En} {d n : Nat} {Rf : Nat → Nat → Nat} {ex : Bool} {kq : Nat × Nat} (hn : 238 ≤ n) (hRf : RfOk 194 238 kq Rf) (hg : Ok g l0 E cX12_bounds RX12 4 (d + 1) 0 0) {q : Int32 × Mm} (hr : Ret g E 0 0 (some .boolean) ex n Rf (some (.int q.1)) q.2) : ∀ (x1 : Int32) (x2 : Int32) (x3 : Int32) (s0 : Int32) (s1 : Int32) (M : Mm), sX12_bounds_37 x1 x2 x3 s0 s1 M = some q → WG g E 4 n Rf ex 0 0 37 [(0, rr E.1 194), (1, .int x1), (2, .int x2), (3, .int x3)] [.int s1, .int s0] M := by
  intro x1 x2 x3 s0 s1 M h
  unfold sX12_bounds_37 at h
  refine g_icmp_le (tgt := 42) hg dX12_bounds_37 (by decide) (fun c => ?_) (fun c => ?_)
  · replace h := itT c h
    refine g_iload_n hg dX12_bounds_42 rfl 1 rfl ?_
    refine g_if_ne (tgt := 59) hg dX12_bounds_43 (by decide) (fun c => ?_) (fun c => ?_)
    · replace h := itF c h
      refine g_rload_n hg dX12_bounds_59 rfl 0 rfl ?_
      refine g_iload_n hg dX12_bounds_60 rfl 2 rfl ?_
      refine g_putI hg fp_X12_41 ly194 rfl (idb rfl rfl hn) dX12_bounds_61 ?_
      refine g_rload_n hg dX12_bounds_64 rfl 0 rfl ?_
      refine g_iload_n hg dX12_bounds_65 rfl 3 rfl ?_
      refine g_putI hg fp_X12_44 ly194 rfl (idb rfl rfl hn) dX12_bounds_66 ?_
      refine g_iconst hg dX12_bounds_69 kI_1 ?_
      replace h := Option.some.inj h
      subst h
      exact g_zret hg hr rfl dX12_bounds_70
    · replace h := itT c h
      refine g_rload_n hg dX12_bounds_46 rfl 0 rfl ?_
      refine g_iload_n hg dX12_bounds_47 rfl 2 rfl ?_
      refine g_putI hg fp_X12_35 ly194 rfl (idb rfl rfl hn) dX12_bounds_48 ?_
      refine g_rload_n hg dX12_bounds_51 rfl 0 rfl ?_
      refine g_iload_n hg dX12_bounds_52 rfl 3 rfl ?_
      refine g_putI hg fp_X12_38 ly194 rfl (idb rfl rfl hn) dX12_bounds_53 ?_
      refine g_goto (tgt := 69) hg dX12_bounds_56 (by decide) ?_
      refine g_iconst hg dX12_bounds_69 kI_1 ?_
      replace h := Option.some.inj h
      subst h
      exact g_zret hg hr rfl dX12_bounds_70
  · replace h := itF c h
    refine g_iconst hg dX12_bounds_40 kI_0 ?_
    replace h := Option.some.inj h
    subst h
    exact g_zret hg hr rfl dX12_bounds_41
theorem lkX12_bounds {l0 : Launch} {E : En} {d n : Nat} {Rf : Nat → Nat → Nat} {ex : Bool} {kq : Nat × Nat} (hd : 1 ≤ d) (hn : 238 ≤ n) (hRf : RfOk 194 238 kq Rf) {x1 : Int32} {x2 : Int32} {x3 : Int32} {M : Mm} {q : Int32 × Mm} (h : sX12_bounds x1 x2 x3 M = some q) : Ct l0 E yX12_bounds cX12_bounds 4 (some .boolean) d 0 0 [rr E.1 194, .int x1, .int x2, .int x3] ex n Rf M n Rf (some (.int q.1)) q.2 := by
  obtain ⟨d, rfl⟩ := Nat.exists_eq_add_of_le' hd
  refine Ct.of pnX12 (Nat.le_of_ble_eq_true rfl) (fun g hg hr _ => ?_)
  replace hg : Ok g l0 E cX12_bounds RX12 4 (d + 1) 0 0 := hg
  show WG g E 4 n Rf ex 0 0 0 [(0, rr E.1 194), (1, .int x1), (2, .int x2), (3, .int x3)] [] M
  unfold sX12_bounds at h
  refine g_rload_n hg dX12_bounds_0 rfl 0 rfl ?_
  refine g_iconst hg dX12_bounds_1 kI_0 ?_
  refine g_putI hg fp_X12_171 ly194 rfl (idb rfl rfl hn) dX12_bounds_2 ?_
  refine g_iload_n hg dX12_bounds_5 rfl 1 rfl ?_
  refine g_if_lt (tgt := 40) hg dX12_bounds_6 (by decide) (fun c => ?_) (fun c => ?_)
  · replace h := itT c h
    refine g_iconst hg dX12_bounds_40 kI_0 ?_
    replace h := Option.some.inj h
    subst h
    exact g_zret hg hr rfl dX12_bounds_41
  · replace h := itF c h
    refine g_iload_n hg dX12_bounds_9 rfl 1 rfl ?_
    refine g_iconst hg dX12_bounds_10 kI_1 ?_
    refine g_icmp_gt (tgt := 40) hg dX12_bounds_11 (by decide) (fun c => ?_) (fun c => ?_)
    · replace h := itT c h
      refine g_iconst hg dX12_bounds_40 kI_0 ?_
      replace h := Option.some.inj h
      subst h
      exact g_zret hg hr rfl dX12_bounds_41
    · replace h := itF c h
      refine g_iload_n hg dX12_bounds_14 rfl 2 rfl ?_
      refine g_iconst hg dX12_bounds_15 kI_1 ?_
      refine g_icmp_lt (tgt := 40) hg dX12_bounds_16 (by decide) (fun c => ?_) (fun c => ?_)
      · replace h := itT c h
        refine g_iconst hg dX12_bounds_40 kI_0 ?_
        replace h := Option.some.inj h
        subst h
        exact g_zret hg hr rfl dX12_bounds_41
      · replace h := itF c h
        refine g_iload_n hg dX12_bounds_19 rfl 2 rfl ?_
        refine g_iload_n hg dX12_bounds_20 rfl 3 rfl ?_
        refine g_icmp_ge (tgt := 40) hg dX12_bounds_21 (by decide) (fun c => ?_) (fun c => ?_)
        · replace h := itT c h
          refine g_iconst hg dX12_bounds_40 kI_0 ?_
          replace h := Option.some.inj h
          subst h
          exact g_zret hg hr rfl dX12_bounds_41
        · replace h := itF c h
          refine g_iload_n hg dX12_bounds_24 rfl 3 rfl ?_
          refine g_iload_n hg dX12_bounds_25 rfl 1 rfl ?_
          refine g_if_ne (tgt := 35) hg dX12_bounds_26 (by decide) (fun c => ?_) (fun c => ?_)
          · rw [if_neg c] at h
            refine g_bipush hg dX12_bounds_35 kB_99 ?_
            exact lkX12_bounds_37 hn hRf hg hr  _ _ _ _ _ _ h
          · rw [if_pos c] at h
            refine g_sipush hg dX12_bounds_29 kS_999 ?_
            refine g_goto (tgt := 37) hg dX12_bounds_32 (by decide) ?_
            exact lkX12_bounds_37 hn hRf hg hr  _ _ _ _ _ _ h
theorem lkX12_price {l0 : Launch} {E : En} {d n : Nat} {Rf : Nat → Nat → Nat} {ex : Bool} {kq : Nat × Nat} (hd : 1 ≤ d) (hn : 238 ≤ n) (hRf : RfOk 194 238 kq Rf) {x1 : Int32} {x2 : Int32} {M : Mm} {q : Int32 × Mm} (h : sX12_price x1 x2 M = some q) : Ct l0 E yX12_price cX12_price 3 (some .boolean) d 0 0 [rr E.1 194, .int x1, .int x2] ex n Rf M n Rf (some (.int q.1)) q.2 := by
  obtain ⟨d, rfl⟩ := Nat.exists_eq_add_of_le' hd
  refine Ct.of pnX12 (Nat.le_of_ble_eq_true rfl) (fun g hg hr _ => ?_)
  replace hg : Ok g l0 E cX12_price RX12 3 (d + 1) 0 0 := hg
  show WG g E 3 n Rf ex 0 0 0 [(0, rr E.1 194), (1, .int x1), (2, .int x2)] [] M
  unfold sX12_price at h
  refine g_rload_n hg dX12_price_0 rfl 0 rfl ?_
  refine g_iconst hg dX12_price_1 kI_0 ?_
  refine g_putI hg fp_X12_171 ly194 rfl (idb rfl rfl hn) dX12_price_2 ?_
  refine g_iload_n hg dX12_price_5 rfl 1 rfl ?_
  refine g_if_lt (tgt := 25) hg dX12_price_6 (by decide) (fun c => ?_) (fun c => ?_)
  · replace h := itT c h
    refine g_iconst hg dX12_price_25 kI_0 ?_
    replace h := Option.some.inj h
    subst h
    exact g_zret hg hr rfl dX12_price_26
  · replace h := itF c h
    refine g_iload_n hg dX12_price_9 rfl 1 rfl ?_
    refine g_iconst hg dX12_price_10 kI_1 ?_
    refine g_icmp_gt (tgt := 25) hg dX12_price_11 (by decide) (fun c => ?_) (fun c => ?_)
    · replace h := itT c h
      refine g_iconst hg dX12_price_25 kI_0 ?_
      replace h := Option.some.inj h
      subst h
      exact g_zret hg hr rfl dX12_price_26
    · replace h := itF c h
      refine g_iload_n hg dX12_price_14 rfl 2 rfl ?_
      refine g_if_lt (tgt := 25) hg dX12_price_15 (by decide) (fun c => ?_) (fun c => ?_)
      · replace h := itT c h
        refine g_iconst hg dX12_price_25 kI_0 ?_
        replace h := Option.some.inj h
        subst h
        exact g_zret hg hr rfl dX12_price_26
      · replace h := itF c h
        refine g_iload_n hg dX12_price_18 rfl 2 rfl ?_
        refine g_sipush hg dX12_price_19 kS_9999 ?_
        refine g_icmp_le (tgt := 27) hg dX12_price_22 (by decide) (fun c => ?_) (fun c => ?_)
        · replace h := itT c h
          refine g_iload_n hg dX12_price_27 rfl 1 rfl ?_
          refine g_if_ne (tgt := 39) hg dX12_price_28 (by decide) (fun c => ?_) (fun c => ?_)
          · replace h := itF c h
            refine g_rload_n hg dX12_price_39 rfl 0 rfl ?_
            refine g_iload_n hg dX12_price_40 rfl 2 rfl ?_
            refine g_putI hg fp_X12_50 ly194 rfl (idb rfl rfl hn) dX12_price_41 ?_
            refine g_iconst hg dX12_price_44 kI_1 ?_
            replace h := Option.some.inj h
            subst h
            exact g_zret hg hr rfl dX12_price_45
          · replace h := itT c h
            refine g_rload_n hg dX12_price_31 rfl 0 rfl ?_
            refine g_iload_n hg dX12_price_32 rfl 2 rfl ?_
            refine g_putI hg fp_X12_47 ly194 rfl (idb rfl rfl hn) dX12_price_33 ?_
            refine g_goto (tgt := 44) hg dX12_price_36 (by decide) ?_
            refine g_iconst hg dX12_price_44 kI_1 ?_
            replace h := Option.some.inj h
            subst h
            exact g_zret hg hr rfl dX12_price_45
        · replace h := itF c h
          refine g_iconst hg dX12_price_25 kI_0 ?_
          replace h := Option.some.inj h
          subst h
          exact g_zret hg hr rfl dX12_price_26
theorem lkX12_wrong {l0 : Launch} {E : En} {d n : Nat} {Rf : Nat → Nat → Nat} {ex : Bool} {kq : Nat × Nat} (hd : 1 ≤ d) (hn : 238 ≤ n) (hRf : RfOk 194 238 kq Rf) {x1 : Int32} {M : Mm} {q : Int32 × Mm} (h : sX12_wrong x1 M = some q) : Ct l0 E yX12_wrong cX12_wrong 2 (some .boolean) d 0 0 [rr E.1 194, .int x1] ex n Rf M n Rf (some (.int q.1)) q.2 := by
  obtain ⟨d, rfl⟩ := Nat.exists_eq_add_of_le' hd
  refine Ct.of pnX12 (Nat.le_of_ble_eq_true rfl) (fun g hg hr _ => ?_)
  replace hg : Ok g l0 E cX12_wrong RX12 2 (d + 1) 0 0 := hg
  show WG g E 2 n Rf ex 0 0 0 [(0, rr E.1 194), (1, .int x1)] [] M
  unfold sX12_wrong at h
  refine g_rload_n hg dX12_wrong_0 rfl 0 rfl ?_
  refine g_iload_n hg dX12_wrong_1 rfl 1 rfl ?_
  refine g_putI hg fp_X12_184 ly194 rfl (idb rfl rfl hn) dX12_wrong_2 ?_
  refine g_rload_n hg dX12_wrong_5 rfl 0 rfl ?_
  refine g_rload_n hg dX12_wrong_6 rfl 0 rfl ?_
  refine g_getI hg fl_X12_187 ly194 rfl (idb rfl rfl hn) dX12_wrong_7 ?_
  refine g_putI hg fp_X12_56 ly194 rfl (idb rfl rfl hn) dX12_wrong_10 ?_
  refine g_iconst hg dX12_wrong_13 kI_0 ?_
  replace h := Option.some.inj h
  subst h
  exact g_zret hg hr rfl dX12_wrong_14
theorem lkX12_wordAt_104 {g : Gm} {l0 : Launch} {E : En} {d n : Nat} {Rf : Nat → Nat → Nat} {ex : Bool} {kq : Nat × Nat} (hn : 238 ≤ n) (hRf : RfOk 194 238 kq Rf) (hg : Ok g l0 E cX12_wordAt RX12 8 (d + 1) 0 0) {q : Int32 × Mm} (hr : Ret g E 0 0 (some .int) ex n Rf (some (.int q.1)) q.2) {k5 : Int32 → Int32 → Int32 → Int32 → Mm → Option (Int32 × Mm)} (hk5 : ∀ (x1 : Int32) (x2 : Int32) (x3 : Int32) (x4 : Int32) (M : Mm), k5 x1 x2 x3 x4 M = some q → WG g E 8 n Rf ex 0 0 5 [(0, rr E.1 194), (1, .int x1), (2, .int x2), (3, .int x3), (4, .int x4)] [] M) : ∀ (x1 : Int32) (x2 : Int32) (x3 : Int32) (x4 : Int32) (x5 : Int32) (x6 : Int32) (M : Mm), sX12_wordAt_104 k5 x1 x2 x3 x4 x5 x6 M = some q → WG g E 8 n Rf ex 0 0 104 [(0, rr E.1 194), (1, .int x1), (2, .int x2), (3, .int x3), (4, .int x4), (5, .int x5), (6, .int x6)] [] M := by
  intro x1 x2 x3 x4 x5 x6 M h
  unfold sX12_wordAt_104 at h
  refine g_iload hg dX12_wordAt_104 6 rfl ?_
  refine g_if_eq (tgt := 111) hg dX12_wordAt_106 (by decide) (fun c => ?_) (fun c => ?_)
  · replace h := itT c h
    refine g_iload hg dX12_wordAt_111 4 rfl ?_
    refine g_iload hg dX12_wordAt_113 5 rfl ?_
    refine g_iconst hg dX12_wordAt_115 kI_1 ?_
    refine g_iadd hg dX12_wordAt_116 ?_
    refine g_iadd hg dX12_wordAt_117 ?_
    refine g_istore (lv' := [(4, .int (x4 + (x5 + 1))), (0, rr E.1 194), (1, .int x1), (2, .int x2), (3, .int x3), (5, .int x5), (6, .int x6)]) hg dX12_wordAt_118 (by decide) rfl ?_
    refine g_inc (lv' := [(3, .int (x3 + 1)), (4, .int (x4 + (x5 + 1))), (0, rr E.1 194), (1, .int x1), (2, .int x2), (5, .int x5), (6, .int x6)]) hg dX12_wordAt_120 kI_1 4 rfl (by decide) rfl ?_
    refine g_goto (tgt := 5) hg dX12_wordAt_123 (by decide) ?_
    refine g_sub (lv' := [(0, rr E.1 194), (1, .int x1), (2, .int x2), (3, .int (x3 + 1)), (4, .int (x4 + (x5 + 1)))]) [2, 3, 4, 0, 1] rfl ?_
    exact hk5 _ _ _ _ _ h
  · replace h := itF c h
    refine g_iload_n hg dX12_wordAt_109 rfl 3 rfl ?_
    replace h := Option.some.inj h
    subst h
    exact g_iret hg hr dX12_wordAt_110
theorem lkX12_wordAt_96 {g : Gm} {l0 : Launch} {E : En} {d n : Nat} {Rf : Nat → Nat → Nat} {ex : Bool} {kq : Nat × Nat} (hn : 238 ≤ n) (hRf : RfOk 194 238 kq Rf) (hg : Ok g l0 E cX12_wordAt RX12 8 (d + 1) 0 0) {q : Int32 × Mm} (hr : Ret g E 0 0 (some .int) ex n Rf (some (.int q.1)) q.2) {k5 : Int32 → Int32 → Int32 → Int32 → Mm → Option (Int32 × Mm)} (hk5 : ∀ (x1 : Int32) (x2 : Int32) (x3 : Int32) (x4 : Int32) (M : Mm), k5 x1 x2 x3 x4 M = some q → WG g E 8 n Rf ex 0 0 5 [(0, rr E.1 194), (1, .int x1), (2, .int x2), (3, .int x3), (4, .int x4)] [] M) {k57 : Int32 → Int32 → Int32 → Int32 → Int32 → Int32 → Int32 → Mm → Option (Int32 × Mm)} (hk57 : ∀ (x1 : Int32) (x2 : Int32) (x3 : Int32) (x4 : Int32) (x5 : Int32) (x6 : Int32) (x7 : Int32) (M : Mm), k57 x1 x2 x3 x4 x5 x6 x7 M = some q → WG g E 8 n Rf ex 0 0 57 [(0, rr E.1 194), (1, .int x1), (2, .int x2), (3, .int x3), (4, .int x4), (5, .int x5), (6, .int x6), (7, .int x7)] [] M) : ∀ (x1 : Int32) (x2 : Int32) (x3 : Int32) (x4 : Int32) (x5 : Int32) (x7 : Int32) (s0 : Int32) (M : Mm), sX12_wordAt_96 k5 k57 x1 x2 x3 x4 x5 x7 s0 M = some q → WG g E 8 n Rf ex 0 0 96 [(0, rr E.1 194), (1, .int x1), (2, .int x2), (3, .int x3), (4, .int x4), (5, .int x5), (7, .int x7)] [.int s0] M := by
  intro x1 x2 x3 x4 x5 x7 s0 M h
  unfold sX12_wordAt_96 at h
  refine g_istore (lv' := [(6, .int s0), (0, rr E.1 194), (1, .int x1), (2, .int x2), (3, .int x3), (4, .int x4), (5, .int x5), (7, .int x7)]) hg dX12_wordAt_96 (by decide) rfl ?_
  refine g_inc (lv' := [(7, .int (x7 + 1)), (6, .int s0), (0, rr E.1 194), (1, .int x1), (2, .int x2), (3, .int x3), (4, .int x4), (5, .int x5)]) hg dX12_wordAt_98 kI_1 7 rfl (by decide) rfl ?_
  refine g_goto (tgt := 57) hg dX12_wordAt_101 (by decide) ?_
  refine g_sub (lv' := [(0, rr E.1 194), (1, .int x1), (2, .int x2), (3, .int x3), (4, .int x4), (5, .int x5), (6, .int s0), (7, .int (x7 + 1))]) [2, 3, 4, 5, 6, 7, 1, 0] rfl ?_
  exact hk57 _ _ _ _ _ _ _ _ h
theorem lkX12_wordAt_57 {g : Gm} {l0 : Launch} {E : En} {d n : Nat} {Rf : Nat → Nat → Nat} {ex : Bool} {kq : Nat × Nat} (hn : 238 ≤ n) (hRf : RfOk 194 238 kq Rf) (hg : Ok g l0 E cX12_wordAt RX12 8 (d + 1) 0 0) {q : Int32 × Mm} (hr : Ret g E 0 0 (some .int) ex n Rf (some (.int q.1)) q.2) {k5 : Int32 → Int32 → Int32 → Int32 → Mm → Option (Int32 × Mm)} (hk5 : ∀ (x1 : Int32) (x2 : Int32) (x3 : Int32) (x4 : Int32) (M : Mm), k5 x1 x2 x3 x4 M = some q → WG g E 8 n Rf ex 0 0 5 [(0, rr E.1 194), (1, .int x1), (2, .int x2), (3, .int x3), (4, .int x4)] [] M) : ∀ (F : Nat) (x1 : Int32) (x2 : Int32) (x3 : Int32) (x4 : Int32) (x5 : Int32) (x6 : Int32) (x7 : Int32) (M : Mm), sX12_wordAt_57 k5 F x1 x2 x3 x4 x5 x6 x7 M = some q → WG g E 8 n Rf ex 0 0 57 [(0, rr E.1 194), (1, .int x1), (2, .int x2), (3, .int x3), (4, .int x4), (5, .int x5), (6, .int x6), (7, .int x7)] [] M := by
  intro F
  induction F with
  | zero =>
    intro x1 x2 x3 x4 x5 x6 x7 M h
    cases h
  | succ F ih =>
    intro x1 x2 x3 x4 x5 x6 x7 M h
    rw [sX12_wordAt_57] at h
    refine g_iload hg dX12_wordAt_57 7 rfl ?_
    refine g_iload hg dX12_wordAt_59 5 rfl ?_
    refine g_icmp_ge (tgt := 104) hg dX12_wordAt_61 (by decide) (fun c => ?_) (fun c => ?_)
    · replace h := itT c h
      refine g_sub (lv' := [(0, rr E.1 194), (1, .int x1), (2, .int x2), (3, .int x3), (4, .int x4), (5, .int x5), (6, .int x6)]) [0, 1, 2, 3, 4, 5, 6] rfl ?_
      exact lkX12_wordAt_104 hn hRf hg hr hk5 _ _ _ _ _ _ _ h
    · replace h := itF c h
      refine g_iload hg dX12_wordAt_64 6 rfl ?_
      refine g_if_eq (tgt := 104) hg dX12_wordAt_66 (by decide) (fun c => ?_) (fun c => ?_)
      · replace h := itT c h
        refine g_sub (lv' := [(0, rr E.1 194), (1, .int x1), (2, .int x2), (3, .int x3), (4, .int x4), (5, .int x5), (6, .int x6)]) [0, 1, 2, 3, 4, 5, 6] rfl ?_
        exact lkX12_wordAt_104 hn hRf hg hr hk5 _ _ _ _ _ _ _ h
      · replace h := itF c h
        refine g_rload_n hg dX12_wordAt_69 rfl 0 rfl ?_
        refine g_getR (r := 201) hg fl_X12_53 ly194 rfl (idb rfl rfl hn) (rfc hRf rfl rfl rfl rfl) (by decide) dX12_wordAt_70 ?_
        refine g_iload hg dX12_wordAt_73 4 rfl ?_
        refine g_iload hg dX12_wordAt_75 7 rfl ?_
        refine g_iadd hg dX12_wordAt_77 ?_
        obtain ⟨c78, h⟩ := ck_some h
        refine g_iald hg ly201 (idb rfl rfl hn) (inb_vp c78) dX12_wordAt_78 ?_
        refine g_rload_n hg dX12_wordAt_79 rfl 0 rfl ?_
        refine g_getR (r := 195) hg fl_X12_7 ly194 rfl (idb rfl rfl hn) (rfc hRf rfl rfl rfl rfl) (by decide) dX12_wordAt_80 ?_
        refine g_iload_n hg dX12_wordAt_83 rfl 1 rfl ?_
        refine g_iload hg dX12_wordAt_84 7 rfl ?_
        refine g_iadd hg dX12_wordAt_86 ?_
        obtain ⟨c87, h⟩ := ck_some h
        refine g_iald hg ly195 (idb rfl rfl hn) (inb_vp c87) dX12_wordAt_87 ?_
        refine g_icmp_ne (tgt := 95) hg dX12_wordAt_88 (by decide) (fun c => ?_) (fun c => ?_)
        · rw [if_neg c] at h
          refine g_iconst hg dX12_wordAt_95 kI_0 ?_
          refine g_sub (lv' := [(0, rr E.1 194), (1, .int x1), (2, .int x2), (3, .int x3), (4, .int x4), (5, .int x5), (7, .int x7)]) [0, 1, 2, 3, 4, 5, 7] rfl ?_
          exact lkX12_wordAt_96 hn hRf hg hr hk5 ih _ _ _ _ _ _ _ _ h
        · rw [if_pos c] at h
          refine g_iconst hg dX12_wordAt_91 kI_1 ?_
          refine g_goto (tgt := 96) hg dX12_wordAt_92 (by decide) ?_
          refine g_sub (lv' := [(0, rr E.1 194), (1, .int x1), (2, .int x2), (3, .int x3), (4, .int x4), (5, .int x5), (7, .int x7)]) [0, 1, 2, 3, 4, 5, 7] rfl ?_
          exact lkX12_wordAt_96 hn hRf hg hr hk5 ih _ _ _ _ _ _ _ _ h
theorem lkX12_wordAt_52 {g : Gm} {l0 : Launch} {E : En} {d n : Nat} {Rf : Nat → Nat → Nat} {ex : Bool} {kq : Nat × Nat} (hn : 238 ≤ n) (hRf : RfOk 194 238 kq Rf) (hg : Ok g l0 E cX12_wordAt RX12 8 (d + 1) 0 0) {q : Int32 × Mm} (hr : Ret g E 0 0 (some .int) ex n Rf (some (.int q.1)) q.2) {k5 : Int32 → Int32 → Int32 → Int32 → Mm → Option (Int32 × Mm)} (hk5 : ∀ (x1 : Int32) (x2 : Int32) (x3 : Int32) (x4 : Int32) (M : Mm), k5 x1 x2 x3 x4 M = some q → WG g E 8 n Rf ex 0 0 5 [(0, rr E.1 194), (1, .int x1), (2, .int x2), (3, .int x3), (4, .int x4)] [] M) : ∀ (x1 : Int32) (x2 : Int32) (x3 : Int32) (x4 : Int32) (x5 : Int32) (s0 : Int32) (M : Mm), sX12_wordAt_52 k5 x1 x2 x3 x4 x5 s0 M = some q → WG g E 8 n Rf ex 0 0 52 [(0, rr E.1 194), (1, .int x1), (2, .int x2), (3, .int x3), (4, .int x4), (5, .int x5)] [.int s0] M := by
  intro x1 x2 x3 x4 x5 s0 M h
  unfold sX12_wordAt_52 at h
  refine g_istore (lv' := [(6, .int s0), (0, rr E.1 194), (1, .int x1), (2, .int x2), (3, .int x3), (4, .int x4), (5, .int x5)]) hg dX12_wordAt_52 (by decide) rfl ?_
  refine g_iconst hg dX12_wordAt_54 kI_0 ?_
  refine g_istore (lv' := [(7, .int 0), (6, .int s0), (0, rr E.1 194), (1, .int x1), (2, .int x2), (3, .int x3), (4, .int x4), (5, .int x5)]) hg dX12_wordAt_55 (by decide) rfl ?_
  refine g_sub (lv' := [(0, rr E.1 194), (1, .int x1), (2, .int x2), (3, .int x3), (4, .int x4), (5, .int x5), (6, .int s0), (7, .int 0)]) [2, 3, 4, 5, 6, 7, 1, 0] rfl ?_
  exact lkX12_wordAt_57 hn hRf hg hr hk5 4096 _ _ _ _ _ _ _ _ h
theorem lkX12_wordAt_18 {g : Gm} {l0 : Launch} {E : En} {d n : Nat} {Rf : Nat → Nat → Nat} {ex : Bool} {kq : Nat × Nat} (hn : 238 ≤ n) (hRf : RfOk 194 238 kq Rf) (hg : Ok g l0 E cX12_wordAt RX12 8 (d + 1) 0 0) {q : Int32 × Mm} (hr : Ret g E 0 0 (some .int) ex n Rf (some (.int q.1)) q.2) {k5 : Int32 → Int32 → Int32 → Int32 → Mm → Option (Int32 × Mm)} (hk5 : ∀ (x1 : Int32) (x2 : Int32) (x3 : Int32) (x4 : Int32) (M : Mm), k5 x1 x2 x3 x4 M = some q → WG g E 8 n Rf ex 0 0 5 [(0, rr E.1 194), (1, .int x1), (2, .int x2), (3, .int x3), (4, .int x4)] [] M) : ∀ (F : Nat) (x1 : Int32) (x2 : Int32) (x3 : Int32) (x4 : Int32) (x5 : Int32) (M : Mm), sX12_wordAt_18 k5 F x1 x2 x3 x4 x5 M = some q → WG g E 8 n Rf ex 0 0 18 [(0, rr E.1 194), (1, .int x1), (2, .int x2), (3, .int x3), (4, .int x4), (5, .int x5)] [] M := by
  intro F
  induction F with
  | zero =>
    intro x1 x2 x3 x4 x5 M h
    cases h
  | succ F ih =>
    intro x1 x2 x3 x4 x5 M h
    rw [sX12_wordAt_18] at h
    refine g_rload_n hg dX12_wordAt_18 rfl 0 rfl ?_
    refine g_getR (r := 201) hg fl_X12_53 ly194 rfl (idb rfl rfl hn) (rfc hRf rfl rfl rfl rfl) (by decide) dX12_wordAt_19 ?_
    refine g_iload hg dX12_wordAt_22 4 rfl ?_
    refine g_iload hg dX12_wordAt_24 5 rfl ?_
    refine g_iadd hg dX12_wordAt_26 ?_
    obtain ⟨c27, h⟩ := ck_some h
    refine g_iald hg ly201 (idb rfl rfl hn) (inb_vp c27) dX12_wordAt_27 ?_
    refine g_bipush hg dX12_wordAt_28 kB_32 ?_
    refine g_icmp_eq (tgt := 39) hg dX12_wordAt_30 (by decide) (fun c => ?_) (fun c => ?_)
    · replace h := itT c h
      refine g_iload hg dX12_wordAt_39 5 rfl ?_
      refine g_iload_n hg dX12_wordAt_41 rfl 2 rfl ?_
      refine g_iload_n hg dX12_wordAt_42 rfl 1 rfl ?_
      refine g_isub hg dX12_wordAt_43 ?_
      refine g_icmp_ne (tgt := 51) hg dX12_wordAt_44 (by decide) (fun c => ?_) (fun c => ?_)
      · rw [if_neg c] at h
        refine g_iconst hg dX12_wordAt_51 kI_0 ?_
        exact lkX12_wordAt_52 hn hRf hg hr hk5 _ _ _ _ _ _ _ h
      · rw [if_pos c] at h
        refine g_iconst hg dX12_wordAt_47 kI_1 ?_
        refine g_goto (tgt := 52) hg dX12_wordAt_48 (by decide) ?_
        exact lkX12_wordAt_52 hn hRf hg hr hk5 _ _ _ _ _ _ _ h
    · replace h := itF c h
      refine g_inc (lv' := [(5, .int (x5 + 1)), (0, rr E.1 194), (1, .int x1), (2, .int x2), (3, .int x3), (4, .int x4)]) hg dX12_wordAt_33 kI_1 5 rfl (by decide) rfl ?_
      refine g_goto (tgt := 18) hg dX12_wordAt_36 (by decide) ?_
      refine g_sub (lv' := [(0, rr E.1 194), (1, .int x1), (2, .int x2), (3, .int x3), (4, .int x4), (5, .int (x5 + 1))]) [1, 2, 3, 4, 5, 0] rfl ?_
      exact ih _ _ _ _ _ _ h
theorem lkX12_wordAt_5 {g : Gm} {l0 : Launch} {E : En} {d n : Nat} {Rf : Nat → Nat → Nat} {ex : Bool} {kq : Nat × Nat} (hn : 238 ≤ n) (hRf : RfOk 194 238 kq Rf) (hg : Ok g l0 E cX12_wordAt RX12 8 (d + 1) 0 0) {q : Int32 × Mm} (hr : Ret g E 0 0 (some .int) ex n Rf (some (.int q.1)) q.2) : ∀ (F : Nat) (x1 : Int32) (x2 : Int32) (x3 : Int32) (x4 : Int32) (M : Mm), sX12_wordAt_5 F x1 x2 x3 x4 M = some q → WG g E 8 n Rf ex 0 0 5 [(0, rr E.1 194), (1, .int x1), (2, .int x2), (3, .int x3), (4, .int x4)] [] M := by
  intro F
  induction F with
  | zero =>
    intro x1 x2 x3 x4 M h
    cases h
  | succ F ih =>
    intro x1 x2 x3 x4 M h
    rw [sX12_wordAt_5] at h
    refine g_iload hg dX12_wordAt_5 4 rfl ?_
    refine g_rload_n hg dX12_wordAt_7 rfl 0 rfl ?_
    refine g_getR (r := 201) hg fl_X12_53 ly194 rfl (idb rfl rfl hn) (rfc hRf rfl rfl rfl rfl) (by decide) dX12_wordAt_8 ?_
    refine g_alen (v := 121) hg ly201 (fun _ => rfl) (idb rfl rfl hn) (by decide) dX12_wordAt_11 ?_
    refine g_icmp_ge (tgt := 126) hg dX12_wordAt_12 (by decide) (fun c => ?_) (fun c => ?_)
    · replace h := itT c h
      refine g_iconst hg dX12_wordAt_126 kI_m1 ?_
      replace h := Option.some.inj h
      subst h
      exact g_iret hg hr dX12_wordAt_127
    · replace h := itF c h
      refine g_iconst hg dX12_wordAt_15 kI_0 ?_
      refine g_istore (lv' := [(5, .int 0), (0, rr E.1 194), (1, .int x1), (2, .int x2), (3, .int x3), (4, .int x4)]) hg dX12_wordAt_16 (by decide) rfl ?_
      refine g_sub (lv' := [(0, rr E.1 194), (1, .int x1), (2, .int x2), (3, .int x3), (4, .int x4), (5, .int 0)]) [1, 2, 3, 4, 5, 0] rfl ?_
      exact lkX12_wordAt_18 hn hRf hg hr ih 4096 _ _ _ _ _ _ h
theorem lkX12_wordAt {l0 : Launch} {E : En} {d n : Nat} {Rf : Nat → Nat → Nat} {ex : Bool} {kq : Nat × Nat} (hd : 1 ≤ d) (hn : 238 ≤ n) (hRf : RfOk 194 238 kq Rf) {x1 : Int32} {x2 : Int32} {M : Mm} {q : Int32 × Mm} (h : sX12_wordAt x1 x2 M = some q) : Ct l0 E yX12_wordAt cX12_wordAt 8 (some .int) d 0 0 [rr E.1 194, .int x1, .int x2] ex n Rf M n Rf (some (.int q.1)) q.2 := by
  obtain ⟨d, rfl⟩ := Nat.exists_eq_add_of_le' hd
  refine Ct.of pnX12 (Nat.le_of_ble_eq_true rfl) (fun g hg hr _ => ?_)
  replace hg : Ok g l0 E cX12_wordAt RX12 8 (d + 1) 0 0 := hg
  show WG g E 8 n Rf ex 0 0 0 [(0, rr E.1 194), (1, .int x1), (2, .int x2)] [] M
  unfold sX12_wordAt at h
  refine g_iconst hg dX12_wordAt_0 kI_0 ?_
  refine g_istore_n (lv' := [(3, .int 0), (0, rr E.1 194), (1, .int x1), (2, .int x2)]) hg dX12_wordAt_1 rfl (by decide) rfl ?_
  refine g_iconst hg dX12_wordAt_2 kI_0 ?_
  refine g_istore (lv' := [(4, .int 0), (3, .int 0), (0, rr E.1 194), (1, .int x1), (2, .int x2)]) hg dX12_wordAt_3 (by decide) rfl ?_
  refine g_sub (lv' := [(0, rr E.1 194), (1, .int x1), (2, .int x2), (3, .int 0), (4, .int 0)]) [2, 3, 4, 1, 0] rfl ?_
  exact lkX12_wordAt_5 hn hRf hg hr  4096 _ _ _ _ _ h
theorem lkX12_isSmall {l0 : Launch} {E : En} {d n : Nat} {Rf : Nat → Nat → Nat} {ex : Bool} {kq : Nat × Nat} (hd : 1 ≤ d) (hn : 238 ≤ n) (hRf : RfOk 194 238 kq Rf) {x1 : Int32} {M : Mm} {q : Int32 × Mm} (h : sX12_isSmall x1 M = some q) : Ct l0 E yX12_isSmall cX12_isSmall 2 (some .boolean) d 0 0 [rr E.1 194, .int x1] ex n Rf M n Rf (some (.int q.1)) q.2 := by
  obtain ⟨d, rfl⟩ := Nat.exists_eq_add_of_le' hd
  refine Ct.of pnX12 (Nat.le_of_ble_eq_true rfl) (fun g hg hr _ => ?_)
  replace hg : Ok g l0 E cX12_isSmall RX12 2 (d + 1) 0 0 := hg
  show WG g E 2 n Rf ex 0 0 0 [(0, rr E.1 194), (1, .int x1)] [] M
  unfold sX12_isSmall at h
  refine g_iload_n hg dX12_isSmall_0 rfl 1 rfl ?_
  refine g_rload_n hg dX12_isSmall_1 rfl 0 rfl ?_
  refine g_getI hg fl_X12_190 ly194 rfl (idb rfl rfl hn) dX12_isSmall_2 ?_
  refine g_icmp_ge (tgt := 34) hg dX12_isSmall_5 (by decide) (fun c => ?_) (fun c => ?_)
  · replace h := itT c h
    refine g_iconst hg dX12_isSmall_34 kI_0 ?_
    replace h := Option.some.inj h
    subst h
    exact g_zret hg hr rfl dX12_isSmall_35
  · replace h := itF c h
    refine g_rload_n hg dX12_isSmall_8 rfl 0 rfl ?_
    refine g_getR (r := 195) hg fl_X12_7 ly194 rfl (idb rfl rfl hn) (rfc hRf rfl rfl rfl rfl) (by decide) dX12_isSmall_9 ?_
    refine g_iload_n hg dX12_isSmall_12 rfl 1 rfl ?_
    obtain ⟨c13, h⟩ := ck_some h
    refine g_iald hg ly195 (idb rfl rfl hn) (inb_vp c13) dX12_isSmall_13 ?_
    refine g_bipush hg dX12_isSmall_14 kB_97 ?_
    refine g_icmp_lt (tgt := 34) hg dX12_isSmall_16 (by decide) (fun c => ?_) (fun c => ?_)
    · replace h := itT c h
      refine g_iconst hg dX12_isSmall_34 kI_0 ?_
      replace h := Option.some.inj h
      subst h
      exact g_zret hg hr rfl dX12_isSmall_35
    · replace h := itF c h
      refine g_rload_n hg dX12_isSmall_19 rfl 0 rfl ?_
      refine g_getR (r := 195) hg fl_X12_7 ly194 rfl (idb rfl rfl hn) (rfc hRf rfl rfl rfl rfl) (by decide) dX12_isSmall_20 ?_
      refine g_iload_n hg dX12_isSmall_23 rfl 1 rfl ?_
      obtain ⟨c24, h⟩ := ck_some h
      refine g_iald hg ly195 (idb rfl rfl hn) (inb_vp c24) dX12_isSmall_24 ?_
      refine g_bipush hg dX12_isSmall_25 kB_122 ?_
      refine g_icmp_gt (tgt := 34) hg dX12_isSmall_27 (by decide) (fun c => ?_) (fun c => ?_)
      · rw [if_pos c] at h
        refine g_iconst hg dX12_isSmall_34 kI_0 ?_
        replace h := Option.some.inj h
        subst h
        exact g_zret hg hr rfl dX12_isSmall_35
      · rw [if_neg c] at h
        refine g_iconst hg dX12_isSmall_30 kI_1 ?_
        refine g_goto (tgt := 35) hg dX12_isSmall_31 (by decide) ?_
        replace h := Option.some.inj h
        subst h
        exact g_zret hg hr rfl dX12_isSmall_35
theorem lkX12_isDigit {l0 : Launch} {E : En} {d n : Nat} {Rf : Nat → Nat → Nat} {ex : Bool} {kq : Nat × Nat} (hd : 1 ≤ d) (hn : 238 ≤ n) (hRf : RfOk 194 238 kq Rf) {x1 : Int32} {M : Mm} {q : Int32 × Mm} (h : sX12_isDigit x1 M = some q) : Ct l0 E yX12_isDigit cX12_isDigit 2 (some .boolean) d 0 0 [rr E.1 194, .int x1] ex n Rf M n Rf (some (.int q.1)) q.2 := by
  obtain ⟨d, rfl⟩ := Nat.exists_eq_add_of_le' hd
  refine Ct.of pnX12 (Nat.le_of_ble_eq_true rfl) (fun g hg hr _ => ?_)
  replace hg : Ok g l0 E cX12_isDigit RX12 2 (d + 1) 0 0 := hg
  show WG g E 2 n Rf ex 0 0 0 [(0, rr E.1 194), (1, .int x1)] [] M
  unfold sX12_isDigit at h
  refine g_iload_n hg dX12_isDigit_0 rfl 1 rfl ?_
  refine g_rload_n hg dX12_isDigit_1 rfl 0 rfl ?_
  refine g_getI hg fl_X12_190 ly194 rfl (idb rfl rfl hn) dX12_isDigit_2 ?_
  refine g_icmp_ge (tgt := 34) hg dX12_isDigit_5 (by decide) (fun c => ?_) (fun c => ?_)
  · replace h := itT c h
    refine g_iconst hg dX12_isDigit_34 kI_0 ?_
    replace h := Option.some.inj h
    subst h
    exact g_zret hg hr rfl dX12_isDigit_35
  · replace h := itF c h
    refine g_rload_n hg dX12_isDigit_8 rfl 0 rfl ?_
    refine g_getR (r := 195) hg fl_X12_7 ly194 rfl (idb rfl rfl hn) (rfc hRf rfl rfl rfl rfl) (by decide) dX12_isDigit_9 ?_
    refine g_iload_n hg dX12_isDigit_12 rfl 1 rfl ?_
    obtain ⟨c13, h⟩ := ck_some h
    refine g_iald hg ly195 (idb rfl rfl hn) (inb_vp c13) dX12_isDigit_13 ?_
    refine g_bipush hg dX12_isDigit_14 kB_48 ?_
    refine g_icmp_lt (tgt := 34) hg dX12_isDigit_16 (by decide) (fun c => ?_) (fun c => ?_)
    · replace h := itT c h
      refine g_iconst hg dX12_isDigit_34 kI_0 ?_
      replace h := Option.some.inj h
      subst h
      exact g_zret hg hr rfl dX12_isDigit_35
    · replace h := itF c h
      refine g_rload_n hg dX12_isDigit_19 rfl 0 rfl ?_
      refine g_getR (r := 195) hg fl_X12_7 ly194 rfl (idb rfl rfl hn) (rfc hRf rfl rfl rfl rfl) (by decide) dX12_isDigit_20 ?_
      refine g_iload_n hg dX12_isDigit_23 rfl 1 rfl ?_
      obtain ⟨c24, h⟩ := ck_some h
      refine g_iald hg ly195 (idb rfl rfl hn) (inb_vp c24) dX12_isDigit_24 ?_
      refine g_bipush hg dX12_isDigit_25 kB_57 ?_
      refine g_icmp_gt (tgt := 34) hg dX12_isDigit_27 (by decide) (fun c => ?_) (fun c => ?_)
      · rw [if_pos c] at h
        refine g_iconst hg dX12_isDigit_34 kI_0 ?_
        replace h := Option.some.inj h
        subst h
        exact g_zret hg hr rfl dX12_isDigit_35
      · rw [if_neg c] at h
        refine g_iconst hg dX12_isDigit_30 kI_1 ?_
        refine g_goto (tgt := 35) hg dX12_isDigit_31 (by decide) ?_
        replace h := Option.some.inj h
        subst h
        exact g_zret hg hr rfl dX12_isDigit_35
theorem lkX12_isEqual {l0 : Launch} {E : En} {d n : Nat} {Rf : Nat → Nat → Nat} {ex : Bool} {kq : Nat × Nat} (hd : 1 ≤ d) (hn : 238 ≤ n) (hRf : RfOk 194 238 kq Rf) {x1 : Int32} {M : Mm} {q : Int32 × Mm} (h : sX12_isEqual x1 M = some q) : Ct l0 E yX12_isEqual cX12_isEqual 2 (some .boolean) d 0 0 [rr E.1 194, .int x1] ex n Rf M n Rf (some (.int q.1)) q.2 := by
  obtain ⟨d, rfl⟩ := Nat.exists_eq_add_of_le' hd
  refine Ct.of pnX12 (Nat.le_of_ble_eq_true rfl) (fun g hg hr _ => ?_)
  replace hg : Ok g l0 E cX12_isEqual RX12 2 (d + 1) 0 0 := hg
  show WG g E 2 n Rf ex 0 0 0 [(0, rr E.1 194), (1, .int x1)] [] M
  unfold sX12_isEqual at h
  refine g_iload_n hg dX12_isEqual_0 rfl 1 rfl ?_
  refine g_rload_n hg dX12_isEqual_1 rfl 0 rfl ?_
  refine g_getI hg fl_X12_190 ly194 rfl (idb rfl rfl hn) dX12_isEqual_2 ?_
  refine g_icmp_ge (tgt := 23) hg dX12_isEqual_5 (by decide) (fun c => ?_) (fun c => ?_)
  · replace h := itT c h
    refine g_iconst hg dX12_isEqual_23 kI_0 ?_
    replace h := Option.some.inj h
    subst h
    exact g_zret hg hr rfl dX12_isEqual_24
  · replace h := itF c h
    refine g_rload_n hg dX12_isEqual_8 rfl 0 rfl ?_
    refine g_getR (r := 195) hg fl_X12_7 ly194 rfl (idb rfl rfl hn) (rfc hRf rfl rfl rfl rfl) (by decide) dX12_isEqual_9 ?_
    refine g_iload_n hg dX12_isEqual_12 rfl 1 rfl ?_
    obtain ⟨c13, h⟩ := ck_some h
    refine g_iald hg ly195 (idb rfl rfl hn) (inb_vp c13) dX12_isEqual_13 ?_
    refine g_bipush hg dX12_isEqual_14 kB_61 ?_
    refine g_icmp_ne (tgt := 23) hg dX12_isEqual_16 (by decide) (fun c => ?_) (fun c => ?_)
    · rw [if_neg c] at h
      refine g_iconst hg dX12_isEqual_23 kI_0 ?_
      replace h := Option.some.inj h
      subst h
      exact g_zret hg hr rfl dX12_isEqual_24
    · rw [if_pos c] at h
      refine g_iconst hg dX12_isEqual_19 kI_1 ?_
      refine g_goto (tgt := 24) hg dX12_isEqual_20 (by decide) ?_
      replace h := Option.some.inj h
      subst h
      exact g_zret hg hr rfl dX12_isEqual_24
theorem lkX12_signOf_86 {g : Gm} {l0 : Launch} {E : En} {d n : Nat} {Rf : Nat → Nat → Nat} {ex : Bool} {kq : Nat × Nat} (hn : 238 ≤ n) (hRf : RfOk 194 238 kq Rf) (hg : Ok g l0 E cX12_signOf RX12 2 (d + 2) 0 0) {q : Int32 × Mm} (hr : Ret g E 0 0 (some .int) ex n Rf (some (.int q.1)) q.2) : ∀ (x1 : Int32) (M : Mm), sX12_signOf_86 x1 M = some q → WG g E 2 n Rf ex 0 0 86 [(1, .int x1)] [] M := by
  intro x1 M h
  unfold sX12_signOf_86 at h
  refine g_iload_n hg dX12_signOf_86 rfl 0 rfl ?_
  refine g_goto (tgt := 91) hg dX12_signOf_87 (by decide) ?_
  replace h := Option.some.inj h
  subst h
  exact g_iret hg hr dX12_signOf_91
theorem lkX12_signOf {l0 : Launch} {E : En} {d n : Nat} {Rf : Nat → Nat → Nat} {ex : Bool} {kq : Nat × Nat} (hd : 2 ≤ d) (hn : 238 ≤ n) (hRf : RfOk 194 238 kq Rf) {x1 : Int32} {M : Mm} {q : Int32 × Mm} (h : sX12_signOf x1 M = some q) : Ct l0 E yX12_signOf cX12_signOf 2 (some .int) d 0 0 [rr E.1 194, .int x1] ex n Rf M n Rf (some (.int q.1)) q.2 := by
  obtain ⟨d, rfl⟩ := Nat.exists_eq_add_of_le' hd
  refine Ct.of pnX12 (Nat.le_of_ble_eq_true rfl) (fun g hg hr _ => ?_)
  replace hg : Ok g l0 E cX12_signOf RX12 2 (d + 2) 0 0 := hg
  show WG g E 2 n Rf ex 0 0 0 [(0, rr E.1 194), (1, .int x1)] [] M
  unfold sX12_signOf at h
  refine g_iload_n hg dX12_signOf_0 rfl 1 rfl ?_
  refine g_bipush hg dX12_signOf_1 kB_60 ?_
  refine g_icmp_ne (tgt := 23) hg dX12_signOf_3 (by decide) (fun c => ?_) (fun c => ?_)
  · replace h := itF c h
    refine g_iload_n hg dX12_signOf_23 rfl 1 rfl ?_
    refine g_bipush hg dX12_signOf_24 kB_62 ?_
    refine g_icmp_ne (tgt := 46) hg dX12_signOf_26 (by decide) (fun c => ?_) (fun c => ?_)
    · replace h := itF c h
      refine g_iload_n hg dX12_signOf_46 rfl 1 rfl ?_
      refine g_bipush hg dX12_signOf_47 kB_61 ?_
      refine g_icmp_ne (tgt := 56) hg dX12_signOf_49 (by decide) (fun c => ?_) (fun c => ?_)
      · replace h := itF c h
        refine g_iload_n hg dX12_signOf_56 rfl 1 rfl ?_
        refine g_bipush hg dX12_signOf_57 kB_45 ?_
        refine g_icmp_eq (tgt := 86) hg dX12_signOf_59 (by decide) (fun c => ?_) (fun c => ?_)
        · replace h := itT c h
          refine g_sub (lv' := [(1, .int x1)]) [1] rfl ?_
          exact lkX12_signOf_86 hn hRf hg hr  _ _ h
        · replace h := itF c h
          refine g_iload_n hg dX12_signOf_62 rfl 1 rfl ?_
          refine g_bipush hg dX12_signOf_63 kB_59 ?_
          refine g_icmp_eq (tgt := 86) hg dX12_signOf_65 (by decide) (fun c => ?_) (fun c => ?_)
          · replace h := itT c h
            refine g_sub (lv' := [(1, .int x1)]) [1] rfl ?_
            exact lkX12_signOf_86 hn hRf hg hr  _ _ h
          · replace h := itF c h
            refine g_iload_n hg dX12_signOf_68 rfl 1 rfl ?_
            refine g_bipush hg dX12_signOf_69 kB_58 ?_
            refine g_icmp_eq (tgt := 86) hg dX12_signOf_71 (by decide) (fun c => ?_) (fun c => ?_)
            · replace h := itT c h
              refine g_sub (lv' := [(1, .int x1)]) [1] rfl ?_
              exact lkX12_signOf_86 hn hRf hg hr  _ _ h
            · replace h := itF c h
              refine g_iload_n hg dX12_signOf_74 rfl 1 rfl ?_
              refine g_bipush hg dX12_signOf_75 kB_40 ?_
              refine g_icmp_eq (tgt := 86) hg dX12_signOf_77 (by decide) (fun c => ?_) (fun c => ?_)
              · replace h := itT c h
                refine g_sub (lv' := [(1, .int x1)]) [1] rfl ?_
                exact lkX12_signOf_86 hn hRf hg hr  _ _ h
              · replace h := itF c h
                refine g_iload_n hg dX12_signOf_80 rfl 1 rfl ?_
                refine g_bipush hg dX12_signOf_81 kB_41 ?_
                refine g_icmp_ne (tgt := 90) hg dX12_signOf_83 (by decide) (fun c => ?_) (fun c => ?_)
                · replace h := itF c h
                  refine g_iconst hg dX12_signOf_90 kI_m1 ?_
                  replace h := Option.some.inj h
                  subst h
                  exact g_iret hg hr dX12_signOf_91
                · replace h := itT c h
                  refine g_sub (lv' := [(1, .int x1)]) [1] rfl ?_
                  exact lkX12_signOf_86 hn hRf hg hr  _ _ h
      · replace h := itT c h
        refine g_iconst hg dX12_signOf_52 kI_3 ?_
        refine g_goto (tgt := 91) hg dX12_signOf_53 (by decide) ?_
        replace h := Option.some.inj h
        subst h
        exact g_iret hg hr dX12_signOf_91
    · replace h := itT c h
      refine g_rload_n hg dX12_signOf_29 rfl 0 rfl ?_
      refine g_rload_n hg dX12_signOf_30 rfl 0 rfl ?_
      refine g_getI hg fl_X12_193 ly194 rfl (idb rfl rfl hn) dX12_signOf_31 ?_
      obtain ⟨q34, e34, h⟩ := Option.bind_eq_some_iff.mp h
      refine g_callVi (As := [.int (M.1 194 20)]) (rest := []) hg (lkX12_isEqual (by omega) hn hRf  e34) cv_X12_196 rfl ly194 (idb rfl rfl hn) rfl rfl (Nat.le_of_ble_eq_true rfl) ⟨Nat.le_refl _, Nat.le_refl _⟩ dX12_signOf_34 ?_
      refine g_if_eq (tgt := 44) hg dX12_signOf_37 (by decide) (fun c => ?_) (fun c => ?_)
      · rw [if_pos c] at h
        refine g_iconst hg dX12_signOf_44 kI_5 ?_
        replace h := Option.some.inj h
        subst h
        exact g_iret hg hr dX12_signOf_45
      · rw [if_neg c] at h
        refine g_iconst hg dX12_signOf_40 kI_4 ?_
        refine g_goto (tgt := 45) hg dX12_signOf_41 (by decide) ?_
        replace h := Option.some.inj h
        subst h
        exact g_iret hg hr dX12_signOf_45
  · replace h := itT c h
    refine g_rload_n hg dX12_signOf_6 rfl 0 rfl ?_
    refine g_rload_n hg dX12_signOf_7 rfl 0 rfl ?_
    refine g_getI hg fl_X12_193 ly194 rfl (idb rfl rfl hn) dX12_signOf_8 ?_
    obtain ⟨q11, e11, h⟩ := Option.bind_eq_some_iff.mp h
    refine g_callVi (As := [.int (M.1 194 20)]) (rest := []) hg (lkX12_isEqual (by omega) hn hRf  e11) cv_X12_196 rfl ly194 (idb rfl rfl hn) rfl rfl (Nat.le_of_ble_eq_true rfl) ⟨Nat.le_refl _, Nat.le_refl _⟩ dX12_signOf_11 ?_
    refine g_if_eq (tgt := 21) hg dX12_signOf_14 (by decide) (fun c => ?_) (fun c => ?_)
    · rw [if_pos c] at h
      refine g_iconst hg dX12_signOf_21 kI_1 ?_
      replace h := Option.some.inj h
      subst h
      exact g_iret hg hr dX12_signOf_22
    · rw [if_neg c] at h
      refine g_iconst hg dX12_signOf_17 kI_2 ?_
      refine g_goto (tgt := 22) hg dX12_signOf_18 (by decide) ?_
      replace h := Option.some.inj h
      subst h
      exact g_iret hg hr dX12_signOf_22
theorem lkX12_take_324 {g : Gm} {l0 : Launch} {E : En} {d n : Nat} {Rf : Nat → Nat → Nat} {ex : Bool} {kq : Nat × Nat} (hn : 238 ≤ n) (hRf : RfOk 194 238 kq Rf) (hg : Ok g l0 E cX12_take RX12 2 (d + 3) 0 0) {q : Mm} (hr : Ret g E 0 0 none ex n Rf none q) : ∀  (M : Mm), sX12_take_324  M = some q → WG g E 2 n Rf ex 0 0 324 [(0, rr E.1 194)] [] M := by
  intro M h
  unfold sX12_take_324 at h
  refine g_rload_n hg dX12_take_324 rfl 0 rfl ?_
  refine g_rload_n hg dX12_take_325 rfl 0 rfl ?_
  refine g_getI hg fl_X12_193 ly194 rfl (idb rfl rfl hn) dX12_take_326 ?_
  refine g_putI hg fp_X12_219 ly194 rfl (idb rfl rfl hn) dX12_take_329 ?_
  replace h := Option.some.inj h
  subst h
  exact g_vret hg hr dX12_take_332
theorem lkX12_take_314 {g : Gm} {l0 : Launch} {E : En} {d n : Nat} {Rf : Nat → Nat → Nat} {ex : Bool} {kq : Nat × Nat} (hn : 238 ≤ n) (hRf : RfOk 194 238 kq Rf) (hg : Ok g l0 E cX12_take RX12 2 (d + 3) 0 0) {q : Mm} (hr : Ret g E 0 0 none ex n Rf none q) : ∀  (M : Mm), sX12_take_314  M = some q → WG g E 2 n Rf ex 0 0 314 [(0, rr E.1 194)] [] M := by
  intro M h
  unfold sX12_take_314 at h
  refine g_rload_n hg dX12_take_314 rfl 0 rfl ?_
  refine g_dup hg dX12_take_315 rfl ?_
  refine g_getI hg fl_X12_193 ly194 rfl (idb rfl rfl hn) dX12_take_316 ?_
  refine g_iconst hg dX12_take_319 kI_1 ?_
  refine g_iadd hg dX12_take_320 ?_
  refine g_putI hg fp_X12_193 ly194 rfl (idb rfl rfl hn) dX12_take_321 ?_
  exact lkX12_take_324 hn hRf hg hr  _ h
theorem lkX12_take_295 {g : Gm} {l0 : Launch} {E : En} {d n : Nat} {Rf : Nat → Nat → Nat} {ex : Bool} {kq : Nat × Nat} (hn : 238 ≤ n) (hRf : RfOk 194 238 kq Rf) (hg : Ok g l0 E cX12_take RX12 2 (d + 3) 0 0) {q : Mm} (hr : Ret g E 0 0 none ex n Rf none q) : ∀ (s1 : Int32) (M : Mm), sX12_take_295 s1 M = some q → WG g E 2 n Rf ex 0 0 295 [(0, rr E.1 194)] [.int s1, rr E.1 194] M := by
  intro s1 M h
  unfold sX12_take_295 at h
  refine g_putI hg fp_X12_199 ly194 rfl (idb rfl rfl hn) dX12_take_295 ?_
  refine g_rload_n hg dX12_take_298 rfl 0 rfl ?_
  refine g_getI hg fl_X12_209 ly194 rfl (idb rfl rfl hn) dX12_take_299 ?_
  refine g_iconst hg dX12_take_302 kI_2 ?_
  refine g_icmp_eq (tgt := 314) hg dX12_take_303 (by decide) (fun c => ?_) (fun c => ?_)
  · replace h := itT c h
    exact lkX12_take_314 hn hRf hg hr  _ h
  · replace h := itF c h
    refine g_rload_n hg dX12_take_306 rfl 0 rfl ?_
    refine g_getI hg fl_X12_209 ly194 rfl (idb rfl rfl hn) dX12_take_307 ?_
    refine g_iconst hg dX12_take_310 kI_4 ?_
    refine g_icmp_ne (tgt := 324) hg dX12_take_311 (by decide) (fun c => ?_) (fun c => ?_)
    · replace h := itF c h
      exact lkX12_take_324 hn hRf hg hr  _ h
    · replace h := itT c h
      exact lkX12_take_314 hn hRf hg hr  _ h
theorem lkX12_take_237 {g : Gm} {l0 : Launch} {E : En} {d n : Nat} {Rf : Nat → Nat → Nat} {ex : Bool} {kq : Nat × Nat} (hn : 238 ≤ n) (hRf : RfOk 194 238 kq Rf) (hg : Ok g l0 E cX12_take RX12 2 (d + 3) 0 0) {q : Mm} (hr : Ret g E 0 0 none ex n Rf none q) {k188 : Mm → Option (Mm)} (hk188 : ∀  (M : Mm), k188  M = some q → WG g E 2 n Rf ex 0 0 188 [(0, rr E.1 194)] [] M) : ∀ (s1 : Int32) (M : Mm), sX12_take_237 k188 s1 M = some q → WG g E 2 n Rf ex 0 0 237 [(0, rr E.1 194)] [.int s1, rr E.1 194] M := by
  intro s1 M h
  unfold sX12_take_237 at h
  refine g_putI hg fp_X12_209 ly194 rfl (idb rfl rfl hn) dX12_take_237 ?_
  refine g_rload_n hg dX12_take_240 rfl 0 rfl ?_
  refine g_dup hg dX12_take_241 rfl ?_
  refine g_getI hg fl_X12_193 ly194 rfl (idb rfl rfl hn) dX12_take_242 ?_
  refine g_iconst hg dX12_take_245 kI_1 ?_
  refine g_iadd hg dX12_take_246 ?_
  refine g_putI hg fp_X12_193 ly194 rfl (idb rfl rfl hn) dX12_take_247 ?_
  refine g_goto (tgt := 188) hg dX12_take_250 (by decide) ?_
  exact hk188 _ h
theorem lkX12_take_188 {g : Gm} {l0 : Launch} {E : En} {d n : Nat} {Rf : Nat → Nat → Nat} {ex : Bool} {kq : Nat × Nat} (hn : 238 ≤ n) (hRf : RfOk 194 238 kq Rf) (hg : Ok g l0 E cX12_take RX12 2 (d + 3) 0 0) {q : Mm} (hr : Ret g E 0 0 none ex n Rf none q) : ∀ (F : Nat)  (M : Mm), sX12_take_188 F  M = some q → WG g E 2 n Rf ex 0 0 188 [(0, rr E.1 194)] [] M := by
  intro F
  induction F with
  | zero =>
    intro M h
    cases h
  | succ F ih =>
    intro M h
    rw [sX12_take_188] at h
    refine g_rload_n hg dX12_take_188 rfl 0 rfl ?_
    refine g_rload_n hg dX12_take_189 rfl 0 rfl ?_
    refine g_getI hg fl_X12_193 ly194 rfl (idb rfl rfl hn) dX12_take_190 ?_
    obtain ⟨q193, e193, h⟩ := Option.bind_eq_some_iff.mp h
    refine g_callVi (As := [.int (M.1 194 20)]) (rest := []) hg (lkX12_isDigit (by omega) hn hRf  e193) cv_X12_212 rfl ly194 (idb rfl rfl hn) rfl rfl (Nat.le_of_ble_eq_true rfl) ⟨Nat.le_refl _, Nat.le_refl _⟩ dX12_take_193 ?_
    refine g_if_eq (tgt := 324) hg dX12_take_196 (by decide) (fun c => ?_) (fun c => ?_)
    · replace h := itT c h
      exact lkX12_take_324 hn hRf hg hr  _ h
    · replace h := itF c h
      refine g_rload_n hg dX12_take_199 rfl 0 rfl ?_
      refine g_rload_n hg dX12_take_200 rfl 0 rfl ?_
      refine g_getI hg fl_X12_209 ly194 rfl (idb rfl rfl hn) dX12_take_201 ?_
      refine g_sipush hg dX12_take_204 kS_9999 ?_
      refine g_icmp_le (tgt := 217) hg dX12_take_207 (by decide) (fun c => ?_) (fun c => ?_)
      · replace h := itT c h
        refine g_bipush hg dX12_take_217 kB_10 ?_
        refine g_rload_n hg dX12_take_219 rfl 0 rfl ?_
        refine g_getI hg fl_X12_209 ly194 rfl (idb rfl rfl hn) dX12_take_220 ?_
        refine g_imul hg dX12_take_223 ?_
        refine g_rload_n hg dX12_take_224 rfl 0 rfl ?_
        refine g_getR (r := 195) hg fl_X12_7 ly194 rfl (idb rfl rfl hn) (rfc hRf rfl rfl rfl rfl) (by decide) dX12_take_225 ?_
        refine g_rload_n hg dX12_take_228 rfl 0 rfl ?_
        refine g_getI hg fl_X12_193 ly194 rfl (idb rfl rfl hn) dX12_take_229 ?_
        obtain ⟨c232, h⟩ := ck_some h
        refine g_iald hg ly195 (idb rfl rfl hn) (inb_vp c232) dX12_take_232 ?_
        refine g_iadd hg dX12_take_233 ?_
        refine g_bipush hg dX12_take_234 kB_48 ?_
        refine g_isub hg dX12_take_236 ?_
        exact lkX12_take_237 hn hRf hg hr ih _ _ h
      · replace h := itF c h
        refine g_rload_n hg dX12_take_210 rfl 0 rfl ?_
        refine g_getI hg fl_X12_209 ly194 rfl (idb rfl rfl hn) dX12_take_211 ?_
        refine g_goto (tgt := 237) hg dX12_take_214 (by decide) ?_
        exact lkX12_take_237 hn hRf hg hr ih _ _ h
theorem lkX12_take_161 {g : Gm} {l0 : Launch} {E : En} {d n : Nat} {Rf : Nat → Nat → Nat} {ex : Bool} {kq : Nat × Nat} (hn : 238 ≤ n) (hRf : RfOk 194 238 kq Rf) (hg : Ok g l0 E cX12_take RX12 2 (d + 3) 0 0) {q : Mm} (hr : Ret g E 0 0 none ex n Rf none q) : ∀ (s1 : Int32) (M : Mm), sX12_take_161 s1 M = some q → WG g E 2 n Rf ex 0 0 161 [(0, rr E.1 194)] [.int s1, rr E.1 194] M := by
  intro s1 M h
  unfold sX12_take_161 at h
  refine g_putI hg fp_X12_199 ly194 rfl (idb rfl rfl hn) dX12_take_161 ?_
  refine g_goto (tgt := 324) hg dX12_take_164 (by decide) ?_
  exact lkX12_take_324 hn hRf hg hr  _ h
theorem lkX12_take_90 {g : Gm} {l0 : Launch} {E : En} {d n : Nat} {Rf : Nat → Nat → Nat} {ex : Bool} {kq : Nat × Nat} (hn : 238 ≤ n) (hRf : RfOk 194 238 kq Rf) (hg : Ok g l0 E cX12_take RX12 2 (d + 3) 0 0) {q : Mm} (hr : Ret g E 0 0 none ex n Rf none q) : ∀ (F : Nat)  (M : Mm), sX12_take_90 F  M = some q → WG g E 2 n Rf ex 0 0 90 [(0, rr E.1 194)] [] M := by
  intro F
  induction F with
  | zero =>
    intro M h
    cases h
  | succ F ih =>
    intro M h
    rw [sX12_take_90] at h
    refine g_rload_n hg dX12_take_90 rfl 0 rfl ?_
    refine g_rload_n hg dX12_take_91 rfl 0 rfl ?_
    refine g_getI hg fl_X12_193 ly194 rfl (idb rfl rfl hn) dX12_take_92 ?_
    obtain ⟨q95, e95, h⟩ := Option.bind_eq_some_iff.mp h
    refine g_callVi (As := [.int (M.1 194 20)]) (rest := []) hg (lkX12_isSmall (by omega) hn hRf  e95) cv_X12_202 rfl ly194 (idb rfl rfl hn) rfl rfl (Nat.le_of_ble_eq_true rfl) ⟨Nat.le_refl _, Nat.le_refl _⟩ dX12_take_95 ?_
    refine g_if_eq (tgt := 114) hg dX12_take_98 (by decide) (fun c => ?_) (fun c => ?_)
    · replace h := itT c h
      refine g_rload_n hg dX12_take_114 rfl 0 rfl ?_
      refine g_rload_n hg dX12_take_115 rfl 0 rfl ?_
      refine g_rload_n hg dX12_take_116 rfl 0 rfl ?_
      refine g_getI hg fl_X12_187 ly194 rfl (idb rfl rfl hn) dX12_take_117 ?_
      refine g_rload_n hg dX12_take_120 rfl 0 rfl ?_
      refine g_getI hg fl_X12_193 ly194 rfl (idb rfl rfl hn) dX12_take_121 ?_
      obtain ⟨q124, e124, h⟩ := Option.bind_eq_some_iff.mp h
      refine g_callVi (As := [.int (q95.2.1 194 23), .int (q95.2.1 194 20)]) (rest := [rr E.1 194]) hg (lkX12_wordAt (by omega) hn hRf  e124) cv_X12_205 rfl ly194 (idb rfl rfl hn) rfl rfl (Nat.le_of_ble_eq_true rfl) ⟨Nat.le_refl _, Nat.le_refl _⟩ dX12_take_124 ?_
      refine g_putI hg fp_X12_209 ly194 rfl (idb rfl rfl hn) dX12_take_127 ?_
      refine g_rload_n hg dX12_take_130 rfl 0 rfl ?_
      refine g_rload_n hg dX12_take_131 rfl 0 rfl ?_
      refine g_getI hg fl_X12_209 ly194 rfl (idb rfl rfl hn) dX12_take_132 ?_
      refine g_if_lt (tgt := 142) hg dX12_take_135 (by decide) (fun c => ?_) (fun c => ?_)
      · rw [if_pos c] at h
        refine g_rload_n hg dX12_take_142 rfl 0 rfl ?_
        refine g_getI hg fl_X12_193 ly194 rfl (idb rfl rfl hn) dX12_take_143 ?_
        refine g_rload_n hg dX12_take_146 rfl 0 rfl ?_
        refine g_getI hg fl_X12_187 ly194 rfl (idb rfl rfl hn) dX12_take_147 ?_
        refine g_isub hg dX12_take_150 ?_
        refine g_bipush hg dX12_take_151 kB_8 ?_
        refine g_icmp_le (tgt := 160) hg dX12_take_153 (by decide) (fun c => ?_) (fun c => ?_)
        · rw [if_pos c] at h
          refine g_iconst hg dX12_take_160 kI_2 ?_
          exact lkX12_take_161 hn hRf hg hr  _ _ h
        · rw [if_neg c] at h
          refine g_iconst hg dX12_take_156 kI_5 ?_
          refine g_goto (tgt := 161) hg dX12_take_157 (by decide) ?_
          exact lkX12_take_161 hn hRf hg hr  _ _ h
      · rw [if_neg c] at h
        refine g_iconst hg dX12_take_138 kI_1 ?_
        refine g_goto (tgt := 161) hg dX12_take_139 (by decide) ?_
        exact lkX12_take_161 hn hRf hg hr  _ _ h
    · replace h := itF c h
      refine g_rload_n hg dX12_take_101 rfl 0 rfl ?_
      refine g_dup hg dX12_take_102 rfl ?_
      refine g_getI hg fl_X12_193 ly194 rfl (idb rfl rfl hn) dX12_take_103 ?_
      refine g_iconst hg dX12_take_106 kI_1 ?_
      refine g_iadd hg dX12_take_107 ?_
      refine g_putI hg fp_X12_193 ly194 rfl (idb rfl rfl hn) dX12_take_108 ?_
      refine g_goto (tgt := 90) hg dX12_take_111 (by decide) ?_
      exact ih _ h
theorem lkX12_take_52 {g : Gm} {l0 : Launch} {E : En} {d n : Nat} {Rf : Nat → Nat → Nat} {ex : Bool} {kq : Nat × Nat} (hn : 238 ≤ n) (hRf : RfOk 194 238 kq Rf) (hg : Ok g l0 E cX12_take RX12 2 (d + 3) 0 0) {q : Mm} (hr : Ret g E 0 0 none ex n Rf none q) : ∀  (M : Mm), sX12_take_52  M = some q → WG g E 2 n Rf ex 0 0 52 [(0, rr E.1 194)] [] M := by
  intro M h
  unfold sX12_take_52 at h
  refine g_rload_n hg dX12_take_52 rfl 0 rfl ?_
  refine g_rload_n hg dX12_take_53 rfl 0 rfl ?_
  refine g_getI hg fl_X12_193 ly194 rfl (idb rfl rfl hn) dX12_take_54 ?_
  refine g_putI hg fp_X12_187 ly194 rfl (idb rfl rfl hn) dX12_take_57 ?_
  refine g_rload_n hg dX12_take_60 rfl 0 rfl ?_
  refine g_getI hg fl_X12_193 ly194 rfl (idb rfl rfl hn) dX12_take_61 ?_
  refine g_rload_n hg dX12_take_64 rfl 0 rfl ?_
  refine g_getI hg fl_X12_190 ly194 rfl (idb rfl rfl hn) dX12_take_65 ?_
  refine g_icmp_ne (tgt := 79) hg dX12_take_68 (by decide) (fun c => ?_) (fun c => ?_)
  · replace h := itF c h
    refine g_rload_n hg dX12_take_79 rfl 0 rfl ?_
    refine g_rload_n hg dX12_take_80 rfl 0 rfl ?_
    refine g_getI hg fl_X12_193 ly194 rfl (idb rfl rfl hn) dX12_take_81 ?_
    obtain ⟨q84, e84, h⟩ := Option.bind_eq_some_iff.mp h
    refine g_callVi (As := [.int ((sI M 194 23 (M.1 194 20)).1 194 20)]) (rest := []) hg (lkX12_isSmall (by omega) hn hRf  e84) cv_X12_202 rfl ly194 (idb rfl rfl hn) rfl rfl (Nat.le_of_ble_eq_true rfl) ⟨Nat.le_refl _, Nat.le_refl _⟩ dX12_take_84 ?_
    refine g_if_eq (tgt := 167) hg dX12_take_87 (by decide) (fun c => ?_) (fun c => ?_)
    · replace h := itT c h
      refine g_rload_n hg dX12_take_167 rfl 0 rfl ?_
      refine g_rload_n hg dX12_take_168 rfl 0 rfl ?_
      refine g_getI hg fl_X12_193 ly194 rfl (idb rfl rfl hn) dX12_take_169 ?_
      obtain ⟨q172, e172, h⟩ := Option.bind_eq_some_iff.mp h
      refine g_callVi (As := [.int (q84.2.1 194 20)]) (rest := []) hg (lkX12_isDigit (by omega) hn hRf  e172) cv_X12_212 rfl ly194 (idb rfl rfl hn) rfl rfl (Nat.le_of_ble_eq_true rfl) ⟨Nat.le_refl _, Nat.le_refl _⟩ dX12_take_172 ?_
      refine g_if_eq (tgt := 253) hg dX12_take_175 (by decide) (fun c => ?_) (fun c => ?_)
      · replace h := itT c h
        refine g_rload_n hg dX12_take_253 rfl 0 rfl ?_
        refine g_getR (r := 195) hg fl_X12_7 ly194 rfl (idb rfl rfl hn) (rfc hRf rfl rfl rfl rfl) (by decide) dX12_take_254 ?_
        refine g_rload_n hg dX12_take_257 rfl 0 rfl ?_
        refine g_getI hg fl_X12_193 ly194 rfl (idb rfl rfl hn) dX12_take_258 ?_
        obtain ⟨c261, h⟩ := ck_some h
        refine g_iald hg ly195 (idb rfl rfl hn) (inb_vp c261) dX12_take_261 ?_
        refine g_istore_n (lv' := [(1, .int (q172.2.1 195 (q172.2.1 194 20).toNatClampNeg)), (0, rr E.1 194)]) hg dX12_take_262 rfl (by decide) rfl ?_
        refine g_rload_n hg dX12_take_263 rfl 1 rfl ?_
        refine g_dup hg dX12_take_264 rfl ?_
        refine g_getI hg fl_X12_193 ly194 rfl (idb rfl rfl hn) dX12_take_265 ?_
        refine g_iconst hg dX12_take_268 kI_1 ?_
        refine g_iadd hg dX12_take_269 ?_
        refine g_putI hg fp_X12_193 ly194 rfl (idb rfl rfl hn) dX12_take_270 ?_
        refine g_rload_n hg dX12_take_273 rfl 1 rfl ?_
        refine g_rload_n hg dX12_take_274 rfl 1 rfl ?_
        refine g_iload_n hg dX12_take_275 rfl 0 rfl ?_
        obtain ⟨q276, e276, h⟩ := Option.bind_eq_some_iff.mp h
        refine g_callVi (As := [.int (q172.2.1 195 (q172.2.1 194 20).toNatClampNeg)]) (rest := [rr E.1 194]) hg (lkX12_signOf (by omega) hn hRf  e276) cv_X12_215 rfl ly194 (idb rfl rfl hn) rfl rfl (Nat.le_of_ble_eq_true rfl) ⟨Nat.le_refl _, Nat.le_refl _⟩ dX12_take_276 ?_
        refine g_putI hg fp_X12_209 ly194 rfl (idb rfl rfl hn) dX12_take_279 ?_
        refine g_rload_n hg dX12_take_282 rfl 1 rfl ?_
        refine g_rload_n hg dX12_take_283 rfl 1 rfl ?_
        refine g_getI hg fl_X12_209 ly194 rfl (idb rfl rfl hn) dX12_take_284 ?_
        refine g_if_ge (tgt := 294) hg dX12_take_287 (by decide) (fun c => ?_) (fun c => ?_)
        · rw [if_pos c] at h
          refine g_iconst hg dX12_take_294 kI_4 ?_
          refine g_sub (lv' := [(0, rr E.1 194)]) [1] rfl ?_
          exact lkX12_take_295 hn hRf hg hr  _ _ h
        · rw [if_neg c] at h
          refine g_iconst hg dX12_take_290 kI_5 ?_
          refine g_goto (tgt := 295) hg dX12_take_291 (by decide) ?_
          refine g_sub (lv' := [(0, rr E.1 194)]) [1] rfl ?_
          exact lkX12_take_295 hn hRf hg hr  _ _ h
      · replace h := itF c h
        refine g_rload_n hg dX12_take_178 rfl 0 rfl ?_
        refine g_iconst hg dX12_take_179 kI_3 ?_
        refine g_putI hg fp_X12_199 ly194 rfl (idb rfl rfl hn) dX12_take_180 ?_
        refine g_rload_n hg dX12_take_183 rfl 0 rfl ?_
        refine g_iconst hg dX12_take_184 kI_0 ?_
        refine g_putI hg fp_X12_209 ly194 rfl (idb rfl rfl hn) dX12_take_185 ?_
        exact lkX12_take_188 hn hRf hg hr  4096 _ h
    · replace h := itF c h
      exact lkX12_take_90 hn hRf hg hr  4096 _ h
  · replace h := itT c h
    refine g_rload_n hg dX12_take_71 rfl 0 rfl ?_
    refine g_iconst hg dX12_take_72 kI_0 ?_
    refine g_putI hg fp_X12_199 ly194 rfl (idb rfl rfl hn) dX12_take_73 ?_
    refine g_goto (tgt := 324) hg dX12_take_76 (by decide) ?_
    exact lkX12_take_324 hn hRf hg hr  _ h
theorem lkX12_take_39 {g : Gm} {l0 : Launch} {E : En} {d n : Nat} {Rf : Nat → Nat → Nat} {ex : Bool} {kq : Nat × Nat} (hn : 238 ≤ n) (hRf : RfOk 194 238 kq Rf) (hg : Ok g l0 E cX12_take RX12 2 (d + 3) 0 0) {q : Mm} (hr : Ret g E 0 0 none ex n Rf none q) {k0 : Mm → Option (Mm)} (hk0 : ∀  (M : Mm), k0  M = some q → WG g E 2 n Rf ex 0 0 0 [(0, rr E.1 194)] [] M) : ∀  (M : Mm), sX12_take_39 k0  M = some q → WG g E 2 n Rf ex 0 0 39 [(0, rr E.1 194)] [] M := by
  intro M h
  unfold sX12_take_39 at h
  refine g_rload_n hg dX12_take_39 rfl 0 rfl ?_
  refine g_dup hg dX12_take_40 rfl ?_
  refine g_getI hg fl_X12_193 ly194 rfl (idb rfl rfl hn) dX12_take_41 ?_
  refine g_iconst hg dX12_take_44 kI_1 ?_
  refine g_iadd hg dX12_take_45 ?_
  refine g_putI hg fp_X12_193 ly194 rfl (idb rfl rfl hn) dX12_take_46 ?_
  refine g_goto (tgt := 0) hg dX12_take_49 (by decide) ?_
  exact hk0 _ h
theorem lkX12_take_0 {g : Gm} {l0 : Launch} {E : En} {d n : Nat} {Rf : Nat → Nat → Nat} {ex : Bool} {kq : Nat × Nat} (hn : 238 ≤ n) (hRf : RfOk 194 238 kq Rf) (hg : Ok g l0 E cX12_take RX12 2 (d + 3) 0 0) {q : Mm} (hr : Ret g E 0 0 none ex n Rf none q) : ∀ (F : Nat)  (M : Mm), sX12_take_0 F  M = some q → WG g E 2 n Rf ex 0 0 0 [(0, rr E.1 194)] [] M := by
  intro F
  induction F with
  | zero =>
    intro M h
    cases h
  | succ F ih =>
    intro M h
    rw [sX12_take_0] at h
    refine g_rload_n hg dX12_take_0 rfl 0 rfl ?_
    refine g_getI hg fl_X12_193 ly194 rfl (idb rfl rfl hn) dX12_take_1 ?_
    refine g_rload_n hg dX12_take_4 rfl 0 rfl ?_
    refine g_getI hg fl_X12_190 ly194 rfl (idb rfl rfl hn) dX12_take_5 ?_
    refine g_icmp_ge (tgt := 52) hg dX12_take_8 (by decide) (fun c => ?_) (fun c => ?_)
    · replace h := itT c h
      exact lkX12_take_52 hn hRf hg hr  _ h
    · replace h := itF c h
      refine g_rload_n hg dX12_take_11 rfl 0 rfl ?_
      refine g_getR (r := 195) hg fl_X12_7 ly194 rfl (idb rfl rfl hn) (rfc hRf rfl rfl rfl rfl) (by decide) dX12_take_12 ?_
      refine g_rload_n hg dX12_take_15 rfl 0 rfl ?_
      refine g_getI hg fl_X12_193 ly194 rfl (idb rfl rfl hn) dX12_take_16 ?_
      obtain ⟨c19, h⟩ := ck_some h
      refine g_iald hg ly195 (idb rfl rfl hn) (inb_vp c19) dX12_take_19 ?_
      refine g_bipush hg dX12_take_20 kB_10 ?_
      refine g_icmp_eq (tgt := 39) hg dX12_take_22 (by decide) (fun c => ?_) (fun c => ?_)
      · replace h := itT c h
        exact lkX12_take_39 hn hRf hg hr ih _ h
      · replace h := itF c h
        refine g_rload_n hg dX12_take_25 rfl 0 rfl ?_
        refine g_getR (r := 195) hg fl_X12_7 ly194 rfl (idb rfl rfl hn) (rfc hRf rfl rfl rfl rfl) (by decide) dX12_take_26 ?_
        refine g_rload_n hg dX12_take_29 rfl 0 rfl ?_
        refine g_getI hg fl_X12_193 ly194 rfl (idb rfl rfl hn) dX12_take_30 ?_
        obtain ⟨c33, h⟩ := ck_some h
        refine g_iald hg ly195 (idb rfl rfl hn) (inb_vp c33) dX12_take_33 ?_
        refine g_bipush hg dX12_take_34 kB_32 ?_
        refine g_icmp_ne (tgt := 52) hg dX12_take_36 (by decide) (fun c => ?_) (fun c => ?_)
        · replace h := itF c h
          exact lkX12_take_52 hn hRf hg hr  _ h
        · replace h := itT c h
          exact lkX12_take_39 hn hRf hg hr ih _ h
theorem lkX12_take {l0 : Launch} {E : En} {d n : Nat} {Rf : Nat → Nat → Nat} {ex : Bool} {kq : Nat × Nat} (hd : 3 ≤ d) (hn : 238 ≤ n) (hRf : RfOk 194 238 kq Rf)  {M : Mm} {q : Mm} (h : sX12_take M = some q) : Ct l0 E yX12_take cX12_take 2 none d 0 0 [rr E.1 194] ex n Rf M n Rf none q := by
  obtain ⟨d, rfl⟩ := Nat.exists_eq_add_of_le' hd
  refine Ct.of pnX12 (Nat.le_of_ble_eq_true rfl) (fun g hg hr _ => ?_)
  replace hg : Ok g l0 E cX12_take RX12 2 (d + 3) 0 0 := hg
  show WG g E 2 n Rf ex 0 0 0 [(0, rr E.1 194)] [] M
  unfold sX12_take at h
  exact lkX12_take_0 hn hRf hg hr  4096 _ h
