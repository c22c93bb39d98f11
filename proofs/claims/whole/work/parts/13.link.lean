theorem lkX12_isSign {l0 : Launch} {E : En} {d n : Nat} {Rf : Nat → Nat → Nat} {ex : Bool} {kq : Nat × Nat} (hd : 1 ≤ d) (hn : 238 ≤ n) (hRf : RfOk 194 238 kq Rf) {x1 : Int32} {M : Mm} {q : Int32 × Mm} (h : sX12_isSign x1 M = some q) : Ct l0 E yX12_isSign cX12_isSign 2 (some .boolean) d 0 0 [rr E.1 194, .int x1] ex n Rf M n Rf (some (.int q.1)) q.2 := by
  obtain ⟨d, rfl⟩ := Nat.exists_eq_add_of_le' hd
  refine Ct.of pnX12 (Nat.le_of_ble_eq_true rfl) (fun g hg hr _ => ?_)
  replace hg : Ok g l0 E cX12_isSign RX12 2 (d + 1) 0 0 := hg
  show WG g E 2 n Rf ex 0 0 0 [(0, rr E.1 194), (1, .int x1)] [] M
  unfold sX12_isSign at h
  refine g_rload_n hg dX12_isSign_0 rfl 0 rfl ?_
  refine g_getI hg fl_X12_199 ly194 rfl (idb rfl rfl hn) dX12_isSign_1 ?_
  refine g_iconst hg dX12_isSign_4 kI_4 ?_
  refine g_icmp_ne (tgt := 20) hg dX12_isSign_5 (by decide) (fun c => ?_) (fun c => ?_)
  · rw [if_neg c] at h
    refine g_iconst hg dX12_isSign_20 kI_0 ?_
    replace h := Option.some.inj h
    subst h
    exact g_zret hg hr rfl dX12_isSign_21
  · rw [if_pos c] at h
    refine g_rload_n hg dX12_isSign_8 rfl 0 rfl ?_
    refine g_getI hg fl_X12_209 ly194 rfl (idb rfl rfl hn) dX12_isSign_9 ?_
    refine g_iload_n hg dX12_isSign_12 rfl 1 rfl ?_
    refine g_icmp_ne (tgt := 20) hg dX12_isSign_13 (by decide) (fun c => ?_) (fun c => ?_)
    · rw [if_neg c] at h
      refine g_iconst hg dX12_isSign_20 kI_0 ?_
      replace h := Option.some.inj h
      subst h
      exact g_zret hg hr rfl dX12_isSign_21
    · rw [if_pos c] at h
      refine g_iconst hg dX12_isSign_16 kI_1 ?_
      refine g_goto (tgt := 21) hg dX12_isSign_17 (by decide) ?_
      replace h := Option.some.inj h
      subst h
      exact g_zret hg hr rfl dX12_isSign_21
theorem lkX12_isWord {l0 : Launch} {E : En} {d n : Nat} {Rf : Nat → Nat → Nat} {ex : Bool} {kq : Nat × Nat} (hd : 1 ≤ d) (hn : 238 ≤ n) (hRf : RfOk 194 238 kq Rf) {x1 : Int32} {M : Mm} {q : Int32 × Mm} (h : sX12_isWord x1 M = some q) : Ct l0 E yX12_isWord cX12_isWord 2 (some .boolean) d 0 0 [rr E.1 194, .int x1] ex n Rf M n Rf (some (.int q.1)) q.2 := by
  obtain ⟨d, rfl⟩ := Nat.exists_eq_add_of_le' hd
  refine Ct.of pnX12 (Nat.le_of_ble_eq_true rfl) (fun g hg hr _ => ?_)
  replace hg : Ok g l0 E cX12_isWord RX12 2 (d + 1) 0 0 := hg
  show WG g E 2 n Rf ex 0 0 0 [(0, rr E.1 194), (1, .int x1)] [] M
  unfold sX12_isWord at h
  refine g_rload_n hg dX12_isWord_0 rfl 0 rfl ?_
  refine g_getI hg fl_X12_199 ly194 rfl (idb rfl rfl hn) dX12_isWord_1 ?_
  refine g_iconst hg dX12_isWord_4 kI_1 ?_
  refine g_icmp_ne (tgt := 20) hg dX12_isWord_5 (by decide) (fun c => ?_) (fun c => ?_)
  · rw [if_neg c] at h
    refine g_iconst hg dX12_isWord_20 kI_0 ?_
    replace h := Option.some.inj h
    subst h
    exact g_zret hg hr rfl dX12_isWord_21
  · rw [if_pos c] at h
    refine g_rload_n hg dX12_isWord_8 rfl 0 rfl ?_
    refine g_getI hg fl_X12_209 ly194 rfl (idb rfl rfl hn) dX12_isWord_9 ?_
    refine g_iload_n hg dX12_isWord_12 rfl 1 rfl ?_
    refine g_icmp_ne (tgt := 20) hg dX12_isWord_13 (by decide) (fun c => ?_) (fun c => ?_)
    · rw [if_neg c] at h
      refine g_iconst hg dX12_isWord_20 kI_0 ?_
      replace h := Option.some.inj h
      subst h
      exact g_zret hg hr rfl dX12_isWord_21
    · rw [if_pos c] at h
      refine g_iconst hg dX12_isWord_16 kI_1 ?_
      refine g_goto (tgt := 21) hg dX12_isWord_17 (by decide) ?_
      replace h := Option.some.inj h
      subst h
      exact g_zret hg hr rfl dX12_isWord_21
theorem lkX12_number {l0 : Launch} {E : En} {d n : Nat} {Rf : Nat → Nat → Nat} {ex : Bool} {kq : Nat × Nat} (hd : 4 ≤ d) (hn : 238 ≤ n) (hRf : RfOk 194 238 kq Rf) {x1 : Int32} {M : Mm} {q : Int32 × Mm} (h : sX12_number x1 M = some q) : Ct l0 E yX12_number cX12_number 2 (some .boolean) d 0 0 [rr E.1 194, .int x1] ex n Rf M n Rf (some (.int q.1)) q.2 := by
  obtain ⟨d, rfl⟩ := Nat.exists_eq_add_of_le' hd
  refine Ct.of pnX12 (Nat.le_of_ble_eq_true rfl) (fun g hg hr _ => ?_)
  replace hg : Ok g l0 E cX12_number RX12 2 (d + 4) 0 0 := hg
  show WG g E 2 n Rf ex 0 0 0 [(0, rr E.1 194), (1, .int x1)] [] M
  unfold sX12_number at h
  refine g_rload_n hg dX12_number_0 rfl 0 rfl ?_
  refine g_getI hg fl_X12_199 ly194 rfl (idb rfl rfl hn) dX12_number_1 ?_
  refine g_iconst hg dX12_number_4 kI_3 ?_
  refine g_icmp_eq (tgt := 14) hg dX12_number_5 (by decide) (fun c => ?_) (fun c => ?_)
  · replace h := itT c h
    refine g_rload_n hg dX12_number_14 rfl 0 rfl ?_
    refine g_getI hg fl_X12_209 ly194 rfl (idb rfl rfl hn) dX12_number_15 ?_
    refine g_iload_n hg dX12_number_18 rfl 1 rfl ?_
    refine g_icmp_le (tgt := 28) hg dX12_number_19 (by decide) (fun c => ?_) (fun c => ?_)
    · replace h := itT c h
      refine g_rload_n hg dX12_number_28 rfl 0 rfl ?_
      refine g_rload_n hg dX12_number_29 rfl 0 rfl ?_
      refine g_getI hg fl_X12_209 ly194 rfl (idb rfl rfl hn) dX12_number_30 ?_
      refine g_putI hg fp_X12_225 ly194 rfl (idb rfl rfl hn) dX12_number_33 ?_
      refine g_rload_n hg dX12_number_36 rfl 0 rfl ?_
      obtain ⟨M37, e37, h⟩ := Option.bind_eq_some_iff.mp h
      refine g_callVv (As := []) (rest := []) hg (lkX12_take (by omega) hn hRf  e37) cv_X12_228 rfl ly194 (idb rfl rfl hn) rfl rfl (Nat.le_of_ble_eq_true rfl) ⟨Nat.le_refl _, Nat.le_refl _⟩ dX12_number_37 ?_
      refine g_iconst hg dX12_number_40 kI_1 ?_
      replace h := Option.some.inj h
      subst h
      exact g_zret hg hr rfl dX12_number_41
    · replace h := itF c h
      refine g_rload_n hg dX12_number_22 rfl 0 rfl ?_
      refine g_iconst hg dX12_number_23 kI_2 ?_
      obtain ⟨q24, e24, h⟩ := Option.bind_eq_some_iff.mp h
      refine g_callVi (As := [.int 2]) (rest := []) hg (lkX12_wrong (by omega) hn hRf  e24) cv_X12_222 rfl ly194 (idb rfl rfl hn) rfl rfl (Nat.le_of_ble_eq_true rfl) ⟨Nat.le_refl _, Nat.le_refl _⟩ dX12_number_24 ?_
      obtain ⟨c27, h⟩ := ck_some h
      replace h := Option.some.inj h
      subst h
      exact g_zret hg hr (isb_nar c27) dX12_number_27
  · replace h := itF c h
    refine g_rload_n hg dX12_number_8 rfl 0 rfl ?_
    refine g_iconst hg dX12_number_9 kI_1 ?_
    obtain ⟨q10, e10, h⟩ := Option.bind_eq_some_iff.mp h
    refine g_callVi (As := [.int 1]) (rest := []) hg (lkX12_wrong (by omega) hn hRf  e10) cv_X12_222 rfl ly194 (idb rfl rfl hn) rfl rfl (Nat.le_of_ble_eq_true rfl) ⟨Nat.le_refl _, Nat.le_refl _⟩ dX12_number_10 ?_
    obtain ⟨c13, h⟩ := ck_some h
    replace h := Option.some.inj h
    subst h
    exact g_zret hg hr (isb_nar c13) dX12_number_13
theorem lkX12_begins {l0 : Launch} {E : En} {d n : Nat} {Rf : Nat → Nat → Nat} {ex : Bool} {kq : Nat × Nat} (hd : 4 ≤ d) (hn : 238 ≤ n) (hRf : RfOk 194 238 kq Rf) {x1 : Int32} {M : Mm} {q : Mm} (h : sX12_begins x1 M = some q) : Ct l0 E yX12_begins cX12_begins 2 none d 0 0 [rr E.1 194, .int x1] ex n Rf M n Rf none q := by
  obtain ⟨d, rfl⟩ := Nat.exists_eq_add_of_le' hd
  refine Ct.of pnX12 (Nat.le_of_ble_eq_true rfl) (fun g hg hr _ => ?_)
  replace hg : Ok g l0 E cX12_begins RX12 2 (d + 4) 0 0 := hg
  show WG g E 2 n Rf ex 0 0 0 [(0, rr E.1 194), (1, .int x1)] [] M
  unfold sX12_begins at h
  refine g_rload_n hg dX12_begins_0 rfl 0 rfl ?_
  refine g_iload_n hg dX12_begins_1 rfl 1 rfl ?_
  refine g_putI hg fp_X12_190 ly194 rfl (idb rfl rfl hn) dX12_begins_2 ?_
  refine g_rload_n hg dX12_begins_5 rfl 0 rfl ?_
  refine g_iconst hg dX12_begins_6 kI_0 ?_
  refine g_putI hg fp_X12_177 ly194 rfl (idb rfl rfl hn) dX12_begins_7 ?_
  refine g_rload_n hg dX12_begins_10 rfl 0 rfl ?_
  refine g_iconst hg dX12_begins_11 kI_0 ?_
  refine g_putI hg fp_X12_184 ly194 rfl (idb rfl rfl hn) dX12_begins_12 ?_
  refine g_rload_n hg dX12_begins_15 rfl 0 rfl ?_
  refine g_iconst hg dX12_begins_16 kI_m1 ?_
  refine g_putI hg fp_X12_56 ly194 rfl (idb rfl rfl hn) dX12_begins_17 ?_
  refine g_rload_n hg dX12_begins_20 rfl 0 rfl ?_
  refine g_iconst hg dX12_begins_21 kI_0 ?_
  refine g_putI hg fp_X12_193 ly194 rfl (idb rfl rfl hn) dX12_begins_22 ?_
  refine g_rload_n hg dX12_begins_25 rfl 0 rfl ?_
  obtain ⟨M26, e26, h⟩ := Option.bind_eq_some_iff.mp h
  refine g_callVv (As := []) (rest := []) hg (lkX12_take (by omega) hn hRf  e26) cv_X12_228 rfl ly194 (idb rfl rfl hn) rfl rfl (Nat.le_of_ble_eq_true rfl) ⟨Nat.le_refl _, Nat.le_refl _⟩ dX12_begins_26 ?_
  replace h := Option.some.inj h
  subst h
  exact g_vret hg hr dX12_begins_29
theorem lkX12_layerRead_202 {g : Gm} {l0 : Launch} {E : En} {d n : Nat} {Rf : Nat → Nat → Nat} {ex : Bool} {kq : Nat × Nat} (hn : 238 ≤ n) (hRf : RfOk 194 238 kq Rf) (hg : Ok g l0 E cX12_layerRead RX12 3 (d + 5) 0 0) {q : Int32 × Mm} (hr : Ret g E 0 0 (some .boolean) ex n Rf (some (.int q.1)) q.2) : ∀  (M : Mm), sX12_layerRead_202  M = some q → WG g E 3 n Rf ex 0 0 202 [(0, rr E.1 194)] [] M := by
  intro M h
  unfold sX12_layerRead_202 at h
  refine g_rload_n hg dX12_layerRead_202 rfl 0 rfl ?_
  refine g_iconst hg dX12_layerRead_203 kI_1 ?_
  obtain ⟨q204, e204, h⟩ := Option.bind_eq_some_iff.mp h
  refine g_callVi (As := [.int 1]) (rest := []) hg (lkX12_wrong (by omega) hn hRf  e204) cv_X12_222 rfl ly194 (idb rfl rfl hn) rfl rfl (Nat.le_of_ble_eq_true rfl) ⟨Nat.le_refl _, Nat.le_refl _⟩ dX12_layerRead_204 ?_
  obtain ⟨c207, h⟩ := ck_some h
  replace h := Option.some.inj h
  subst h
  exact g_zret hg hr (isb_nar c207) dX12_layerRead_207
theorem lkX12_layerRead_250 {g : Gm} {l0 : Launch} {E : En} {d n : Nat} {Rf : Nat → Nat → Nat} {ex : Bool} {kq : Nat × Nat} (hn : 238 ≤ n) (hRf : RfOk 194 238 kq Rf) (hg : Ok g l0 E cX12_layerRead RX12 3 (d + 5) 0 0) {q : Int32 × Mm} (hr : Ret g E 0 0 (some .boolean) ex n Rf (some (.int q.1)) q.2) : ∀  (M : Mm), sX12_layerRead_250  M = some q → WG g E 3 n Rf ex 0 0 250 [(0, rr E.1 194)] [] M := by
  intro M h
  unfold sX12_layerRead_250 at h
  refine g_rload_n hg dX12_layerRead_250 rfl 0 rfl ?_
  refine g_iconst hg dX12_layerRead_251 kI_1 ?_
  obtain ⟨q252, e252, h⟩ := Option.bind_eq_some_iff.mp h
  refine g_callVi (As := [.int 1]) (rest := []) hg (lkX12_wrong (by omega) hn hRf  e252) cv_X12_222 rfl ly194 (idb rfl rfl hn) rfl rfl (Nat.le_of_ble_eq_true rfl) ⟨Nat.le_refl _, Nat.le_refl _⟩ dX12_layerRead_252 ?_
  obtain ⟨c255, h⟩ := ck_some h
  replace h := Option.some.inj h
  subst h
  exact g_zret hg hr (isb_nar c255) dX12_layerRead_255
theorem lkX12_layerRead_355 {g : Gm} {l0 : Launch} {E : En} {d n : Nat} {Rf : Nat → Nat → Nat} {ex : Bool} {kq : Nat × Nat} (hn : 238 ≤ n) (hRf : RfOk 194 238 kq Rf) (hg : Ok g l0 E cX12_layerRead RX12 3 (d + 5) 0 0) {q : Int32 × Mm} (hr : Ret g E 0 0 (some .boolean) ex n Rf (some (.int q.1)) q.2) : ∀  (M : Mm), sX12_layerRead_355  M = some q → WG g E 3 n Rf ex 0 0 355 [(0, rr E.1 194)] [] M := by
  intro M h
  unfold sX12_layerRead_355 at h
  refine g_rload_n hg dX12_layerRead_355 rfl 0 rfl ?_
  refine g_getR (r := 205) hg fl_X12_68 ly194 rfl (idb rfl rfl hn) (rfc hRf rfl rfl rfl rfl) (by decide) dX12_layerRead_356 ?_
  refine g_rload_n hg dX12_layerRead_359 rfl 0 rfl ?_
  refine g_getI hg fl_X12_174 ly194 rfl (idb rfl rfl hn) dX12_layerRead_360 ?_
  refine g_dup2 hg dX12_layerRead_363 rfl rfl ?_
  obtain ⟨c364, h⟩ := ck_some h
  refine g_iald hg ly205 (idb rfl rfl hn) (inb_vp c364) dX12_layerRead_364 ?_
  refine g_iconst hg dX12_layerRead_365 kI_1 ?_
  refine g_iadd hg dX12_layerRead_366 ?_
  obtain ⟨c367, h⟩ := ck_some h
  refine g_iast hg ly205 (idb rfl rfl hn) (inb_vp c367) dX12_layerRead_367 ?_
  refine g_iconst hg dX12_layerRead_368 kI_1 ?_
  replace h := Option.some.inj h
  subst h
  exact g_zret hg hr rfl dX12_layerRead_369
theorem lkX12_layerRead_310 {g : Gm} {l0 : Launch} {E : En} {d n : Nat} {Rf : Nat → Nat → Nat} {ex : Bool} {kq : Nat × Nat} (hn : 238 ≤ n) (hRf : RfOk 194 238 kq Rf) (hg : Ok g l0 E cX12_layerRead RX12 3 (d + 5) 0 0) {q : Int32 × Mm} (hr : Ret g E 0 0 (some .boolean) ex n Rf (some (.int q.1)) q.2) : ∀ (x2 : Int32) (M : Mm), sX12_layerRead_310 x2 M = some q → WG g E 3 n Rf ex 0 0 310 [(0, rr E.1 194), (2, .int x2)] [] M := by
  intro x2 M h
  unfold sX12_layerRead_310 at h
  refine g_rload_n hg dX12_layerRead_310 rfl 0 rfl ?_
  refine g_getR (r := 206) hg fl_X12_71 ly194 rfl (idb rfl rfl hn) (rfc hRf rfl rfl rfl rfl) (by decide) dX12_layerRead_311 ?_
  refine g_iload_n hg dX12_layerRead_314 rfl 1 rfl ?_
  refine g_iconst hg dX12_layerRead_315 kI_5 ?_
  refine g_iadd hg dX12_layerRead_316 ?_
  refine g_iconst hg dX12_layerRead_317 kI_0 ?_
  obtain ⟨c318, h⟩ := ck_some h
  refine g_iast hg ly206 (idb rfl rfl hn) (inb_vp c318) dX12_layerRead_318 ?_
  refine g_rload_n hg dX12_layerRead_319 rfl 0 rfl ?_
  refine g_bipush hg dX12_layerRead_320 kB_12 ?_
  obtain ⟨q322, e322, h⟩ := Option.bind_eq_some_iff.mp h
  refine g_callVi (As := [.int 12]) (rest := []) hg (lkX12_isWord (by omega) hn hRf  e322) cv_X12_234 rfl ly194 (idb rfl rfl hn) rfl rfl (Nat.le_of_ble_eq_true rfl) ⟨Nat.le_refl _, Nat.le_refl _⟩ dX12_layerRead_322 ?_
  refine g_if_eq (tgt := 355) hg dX12_layerRead_325 (by decide) (fun c => ?_) (fun c => ?_)
  · replace h := itT c h
    refine g_sub (lv' := [(0, rr E.1 194)]) [0] rfl ?_
    exact lkX12_layerRead_355 hn hRf hg hr  _ h
  · replace h := itF c h
    refine g_rload_n hg dX12_layerRead_328 rfl 0 rfl ?_
    obtain ⟨M329, e329, h⟩ := Option.bind_eq_some_iff.mp h
    refine g_callVv (As := []) (rest := []) hg (lkX12_take (by omega) hn hRf  e329) cv_X12_228 rfl ly194 (idb rfl rfl hn) rfl rfl (Nat.le_of_ble_eq_true rfl) ⟨Nat.le_refl _, Nat.le_refl _⟩ dX12_layerRead_329 ?_
    refine g_rload_n hg dX12_layerRead_332 rfl 0 rfl ?_
    refine g_bipush hg dX12_layerRead_333 kB_99 ?_
    obtain ⟨q335, e335, h⟩ := Option.bind_eq_some_iff.mp h
    refine g_callVi (As := [.int 99]) (rest := []) hg (lkX12_number (by omega) hn hRf  e335) cv_X12_237 rfl ly194 (idb rfl rfl hn) rfl rfl (Nat.le_of_ble_eq_true rfl) ⟨Nat.le_refl _, Nat.le_refl _⟩ dX12_layerRead_335 ?_
    refine g_if_ne (tgt := 343) hg dX12_layerRead_338 (by decide) (fun c => ?_) (fun c => ?_)
    · replace h := itF c h
      refine g_rload_n hg dX12_layerRead_343 rfl 0 rfl ?_
      refine g_getR (r := 206) hg fl_X12_71 ly194 rfl (idb rfl rfl hn) (rfc hRf rfl rfl rfl rfl) (by decide) dX12_layerRead_344 ?_
      refine g_iload_n hg dX12_layerRead_347 rfl 1 rfl ?_
      refine g_iconst hg dX12_layerRead_348 kI_5 ?_
      refine g_iadd hg dX12_layerRead_349 ?_
      refine g_rload_n hg dX12_layerRead_350 rfl 0 rfl ?_
      refine g_getI hg fl_X12_225 ly194 rfl (idb rfl rfl hn) dX12_layerRead_351 ?_
      obtain ⟨c354, h⟩ := ck_some h
      refine g_iast hg ly206 (idb rfl rfl hn) (inb_vp c354) dX12_layerRead_354 ?_
      refine g_sub (lv' := [(0, rr E.1 194)]) [0] rfl ?_
      exact lkX12_layerRead_355 hn hRf hg hr  _ h
    · replace h := itT c h
      refine g_iconst hg dX12_layerRead_341 kI_0 ?_
      replace h := Option.some.inj h
      subst h
      exact g_zret hg hr rfl dX12_layerRead_342
theorem lkX12_layerRead_296 {g : Gm} {l0 : Launch} {E : En} {d n : Nat} {Rf : Nat → Nat → Nat} {ex : Bool} {kq : Nat × Nat} (hn : 238 ≤ n) (hRf : RfOk 194 238 kq Rf) (hg : Ok g l0 E cX12_layerRead RX12 3 (d + 5) 0 0) {q : Int32 × Mm} (hr : Ret g E 0 0 (some .boolean) ex n Rf (some (.int q.1)) q.2) : ∀ (x2 : Int32) (s1 : Int32) (s2 : Int32) (M : Mm), sX12_layerRead_296 x2 s1 s2 M = some q → WG g E 3 n Rf ex 0 0 296 [(0, rr E.1 194), (2, .int x2)] [.int s2, .int s1, rr E.1 206] M := by
  intro x2 s1 s2 M h
  unfold sX12_layerRead_296 at h
  obtain ⟨c296, h⟩ := ck_some h
  refine g_iast hg ly206 (idb rfl rfl hn) (inb_vp c296) dX12_layerRead_296 ?_
  refine g_rload_n hg dX12_layerRead_297 rfl 0 rfl ?_
  refine g_bipush hg dX12_layerRead_298 kB_11 ?_
  obtain ⟨q300, e300, h⟩ := Option.bind_eq_some_iff.mp h
  refine g_callVi (As := [.int 11]) (rest := []) hg (lkX12_isWord (by omega) hn hRf  e300) cv_X12_234 rfl ly194 (idb rfl rfl hn) rfl rfl (Nat.le_of_ble_eq_true rfl) ⟨Nat.le_refl _, Nat.le_refl _⟩ dX12_layerRead_300 ?_
  refine g_if_eq (tgt := 310) hg dX12_layerRead_303 (by decide) (fun c => ?_) (fun c => ?_)
  · replace h := itT c h
    exact lkX12_layerRead_310 hn hRf hg hr  _ _ h
  · replace h := itF c h
    refine g_rload_n hg dX12_layerRead_306 rfl 0 rfl ?_
    obtain ⟨M307, e307, h⟩ := Option.bind_eq_some_iff.mp h
    refine g_callVv (As := []) (rest := []) hg (lkX12_take (by omega) hn hRf  e307) cv_X12_228 rfl ly194 (idb rfl rfl hn) rfl rfl (Nat.le_of_ble_eq_true rfl) ⟨Nat.le_refl _, Nat.le_refl _⟩ dX12_layerRead_307 ?_
    exact lkX12_layerRead_310 hn hRf hg hr  _ _ h
theorem lkX12_layerRead_28 {g : Gm} {l0 : Launch} {E : En} {d n : Nat} {Rf : Nat → Nat → Nat} {ex : Bool} {kq : Nat × Nat} (hn : 238 ≤ n) (hRf : RfOk 194 238 kq Rf) (hg : Ok g l0 E cX12_layerRead RX12 3 (d + 5) 0 0) {q : Int32 × Mm} (hr : Ret g E 0 0 (some .boolean) ex n Rf (some (.int q.1)) q.2) : ∀ (x1 : Int32) (M : Mm), sX12_layerRead_28 x1 M = some q → WG g E 3 n Rf ex 0 0 28 [(0, rr E.1 194), (1, .int x1)] [] M := by
  intro x1 M h
  unfold sX12_layerRead_28 at h
  refine g_bipush hg dX12_layerRead_28 kB_48 ?_
  refine g_rload_n hg dX12_layerRead_30 rfl 0 rfl ?_
  refine g_getI hg fl_X12_174 ly194 rfl (idb rfl rfl hn) dX12_layerRead_31 ?_
  refine g_imul hg dX12_layerRead_34 ?_
  refine g_bipush hg dX12_layerRead_35 kB_6 ?_
  refine g_rload_n hg dX12_layerRead_37 rfl 0 rfl ?_
  refine g_getR (r := 205) hg fl_X12_68 ly194 rfl (idb rfl rfl hn) (rfc hRf rfl rfl rfl rfl) (by decide) dX12_layerRead_38 ?_
  refine g_rload_n hg dX12_layerRead_41 rfl 0 rfl ?_
  refine g_getI hg fl_X12_174 ly194 rfl (idb rfl rfl hn) dX12_layerRead_42 ?_
  obtain ⟨c45, h⟩ := ck_some h
  refine g_iald hg ly205 (idb rfl rfl hn) (inb_vp c45) dX12_layerRead_45 ?_
  refine g_imul hg dX12_layerRead_46 ?_
  refine g_iadd hg dX12_layerRead_47 ?_
  refine g_istore_n (lv' := [(2, .int ((48 * (M.1 194 26)) + (6 * (M.1 205 (M.1 194 26).toNatClampNeg)))), (0, rr E.1 194), (1, .int x1)]) hg dX12_layerRead_48 rfl (by decide) rfl ?_
  refine g_rload_n hg dX12_layerRead_49 rfl 1 rfl ?_
  refine g_getI hg fl_X12_199 ly194 rfl (idb rfl rfl hn) dX12_layerRead_50 ?_
  refine g_iconst hg dX12_layerRead_53 kI_3 ?_
  refine g_icmp_eq (tgt := 63) hg dX12_layerRead_54 (by decide) (fun c => ?_) (fun c => ?_)
  · replace h := itT c h
    refine g_rload_n hg dX12_layerRead_63 rfl 1 rfl ?_
    refine g_getI hg fl_X12_209 ly194 rfl (idb rfl rfl hn) dX12_layerRead_64 ?_
    refine g_sipush hg dX12_layerRead_67 kS_300 ?_
    refine g_icmp_le (tgt := 79) hg dX12_layerRead_70 (by decide) (fun c => ?_) (fun c => ?_)
    · replace h := itT c h
      refine g_rload_n hg dX12_layerRead_79 rfl 1 rfl ?_
      refine g_getI hg fl_X12_209 ly194 rfl (idb rfl rfl hn) dX12_layerRead_80 ?_
      refine g_iload_n hg dX12_layerRead_83 rfl 2 rfl ?_
      refine g_icmp_eq (tgt := 93) hg dX12_layerRead_84 (by decide) (fun c => ?_) (fun c => ?_)
      · replace h := itT c h
        refine g_rload_n hg dX12_layerRead_93 rfl 1 rfl ?_
        refine g_getR (r := 206) hg fl_X12_71 ly194 rfl (idb rfl rfl hn) (rfc hRf rfl rfl rfl rfl) (by decide) dX12_layerRead_94 ?_
        refine g_iload_n hg dX12_layerRead_97 rfl 0 rfl ?_
        refine g_rload_n hg dX12_layerRead_98 rfl 1 rfl ?_
        refine g_getI hg fl_X12_209 ly194 rfl (idb rfl rfl hn) dX12_layerRead_99 ?_
        obtain ⟨c102, h⟩ := ck_some h
        refine g_iast hg ly206 (idb rfl rfl hn) (inb_vp c102) dX12_layerRead_102 ?_
        refine g_rload_n hg dX12_layerRead_103 rfl 1 rfl ?_
        obtain ⟨M104, e104, h⟩ := Option.bind_eq_some_iff.mp h
        refine g_callVv (As := []) (rest := []) hg (lkX12_take (by omega) hn hRf  e104) cv_X12_228 rfl ly194 (idb rfl rfl hn) rfl rfl (Nat.le_of_ble_eq_true rfl) ⟨Nat.le_refl _, Nat.le_refl _⟩ dX12_layerRead_104 ?_
        refine g_rload_n hg dX12_layerRead_107 rfl 1 rfl ?_
        refine g_bipush hg dX12_layerRead_108 kB_45 ?_
        obtain ⟨q110, e110, h⟩ := Option.bind_eq_some_iff.mp h
        refine g_callVi (As := [.int 45]) (rest := []) hg (lkX12_isSign (by omega) hn hRf  e110) cv_X12_231 rfl ly194 (idb rfl rfl hn) rfl rfl (Nat.le_of_ble_eq_true rfl) ⟨Nat.le_refl _, Nat.le_refl _⟩ dX12_layerRead_110 ?_
        refine g_if_ne (tgt := 122) hg dX12_layerRead_113 (by decide) (fun c => ?_) (fun c => ?_)
        · replace h := itF c h
          refine g_rload_n hg dX12_layerRead_122 rfl 1 rfl ?_
          obtain ⟨M123, e123, h⟩ := Option.bind_eq_some_iff.mp h
          refine g_callVv (As := []) (rest := []) hg (lkX12_take (by omega) hn hRf  e123) cv_X12_228 rfl ly194 (idb rfl rfl hn) rfl rfl (Nat.le_of_ble_eq_true rfl) ⟨Nat.le_refl _, Nat.le_refl _⟩ dX12_layerRead_123 ?_
          refine g_rload_n hg dX12_layerRead_126 rfl 1 rfl ?_
          refine g_getI hg fl_X12_199 ly194 rfl (idb rfl rfl hn) dX12_layerRead_127 ?_
          refine g_iconst hg dX12_layerRead_130 kI_3 ?_
          refine g_icmp_eq (tgt := 140) hg dX12_layerRead_131 (by decide) (fun c => ?_) (fun c => ?_)
          · replace h := itT c h
            refine g_rload_n hg dX12_layerRead_140 rfl 1 rfl ?_
            refine g_getI hg fl_X12_209 ly194 rfl (idb rfl rfl hn) dX12_layerRead_141 ?_
            refine g_sipush hg dX12_layerRead_144 kS_300 ?_
            refine g_icmp_le (tgt := 156) hg dX12_layerRead_147 (by decide) (fun c => ?_) (fun c => ?_)
            · replace h := itT c h
              refine g_rload_n hg dX12_layerRead_156 rfl 1 rfl ?_
              refine g_getI hg fl_X12_209 ly194 rfl (idb rfl rfl hn) dX12_layerRead_157 ?_
              refine g_iload_n hg dX12_layerRead_160 rfl 2 rfl ?_
              refine g_icmp_gt (tgt := 170) hg dX12_layerRead_161 (by decide) (fun c => ?_) (fun c => ?_)
              · replace h := itT c h
                refine g_rload_n hg dX12_layerRead_170 rfl 1 rfl ?_
                refine g_getR (r := 206) hg fl_X12_71 ly194 rfl (idb rfl rfl hn) (rfc hRf rfl rfl rfl rfl) (by decide) dX12_layerRead_171 ?_
                refine g_iload_n hg dX12_layerRead_174 rfl 0 rfl ?_
                refine g_iconst hg dX12_layerRead_175 kI_1 ?_
                refine g_iadd hg dX12_layerRead_176 ?_
                refine g_rload_n hg dX12_layerRead_177 rfl 1 rfl ?_
                refine g_getI hg fl_X12_209 ly194 rfl (idb rfl rfl hn) dX12_layerRead_178 ?_
                obtain ⟨c181, h⟩ := ck_some h
                refine g_iast hg ly206 (idb rfl rfl hn) (inb_vp c181) dX12_layerRead_181 ?_
                refine g_rload_n hg dX12_layerRead_182 rfl 1 rfl ?_
                obtain ⟨M183, e183, h⟩ := Option.bind_eq_some_iff.mp h
                refine g_callVv (As := []) (rest := []) hg (lkX12_take (by omega) hn hRf  e183) cv_X12_228 rfl ly194 (idb rfl rfl hn) rfl rfl (Nat.le_of_ble_eq_true rfl) ⟨Nat.le_refl _, Nat.le_refl _⟩ dX12_layerRead_183 ?_
                refine g_rload_n hg dX12_layerRead_186 rfl 1 rfl ?_
                refine g_getI hg fl_X12_199 ly194 rfl (idb rfl rfl hn) dX12_layerRead_187 ?_
                refine g_iconst hg dX12_layerRead_190 kI_1 ?_
                refine g_icmp_ne (tgt := 202) hg dX12_layerRead_191 (by decide) (fun c => ?_) (fun c => ?_)
                · replace h := itF c h
                  refine g_sub (lv' := [(0, rr E.1 194)]) [1] rfl ?_
                  exact lkX12_layerRead_202 hn hRf hg hr  _ h
                · replace h := itT c h
                  refine g_rload_n hg dX12_layerRead_194 rfl 1 rfl ?_
                  refine g_getI hg fl_X12_209 ly194 rfl (idb rfl rfl hn) dX12_layerRead_195 ?_
                  refine g_iconst hg dX12_layerRead_198 kI_5 ?_
                  refine g_icmp_le (tgt := 208) hg dX12_layerRead_199 (by decide) (fun c => ?_) (fun c => ?_)
                  · replace h := itT c h
                    refine g_rload_n hg dX12_layerRead_208 rfl 1 rfl ?_
                    refine g_getR (r := 206) hg fl_X12_71 ly194 rfl (idb rfl rfl hn) (rfc hRf rfl rfl rfl rfl) (by decide) dX12_layerRead_209 ?_
                    refine g_iload_n hg dX12_layerRead_212 rfl 0 rfl ?_
                    refine g_iconst hg dX12_layerRead_213 kI_2 ?_
                    refine g_iadd hg dX12_layerRead_214 ?_
                    refine g_rload_n hg dX12_layerRead_215 rfl 1 rfl ?_
                    refine g_getI hg fl_X12_209 ly194 rfl (idb rfl rfl hn) dX12_layerRead_216 ?_
                    obtain ⟨c219, h⟩ := ck_some h
                    refine g_iast hg ly206 (idb rfl rfl hn) (inb_vp c219) dX12_layerRead_219 ?_
                    refine g_rload_n hg dX12_layerRead_220 rfl 1 rfl ?_
                    obtain ⟨M221, e221, h⟩ := Option.bind_eq_some_iff.mp h
                    refine g_callVv (As := []) (rest := []) hg (lkX12_take (by omega) hn hRf  e221) cv_X12_228 rfl ly194 (idb rfl rfl hn) rfl rfl (Nat.le_of_ble_eq_true rfl) ⟨Nat.le_refl _, Nat.le_refl _⟩ dX12_layerRead_221 ?_
                    refine g_rload_n hg dX12_layerRead_224 rfl 1 rfl ?_
                    refine g_getI hg fl_X12_199 ly194 rfl (idb rfl rfl hn) dX12_layerRead_225 ?_
                    refine g_iconst hg dX12_layerRead_228 kI_1 ?_
                    refine g_icmp_ne (tgt := 250) hg dX12_layerRead_229 (by decide) (fun c => ?_) (fun c => ?_)
                    · replace h := itF c h
                      refine g_sub (lv' := [(0, rr E.1 194)]) [1] rfl ?_
                      exact lkX12_layerRead_250 hn hRf hg hr  _ h
                    · replace h := itT c h
                      refine g_rload_n hg dX12_layerRead_232 rfl 1 rfl ?_
                      refine g_getI hg fl_X12_209 ly194 rfl (idb rfl rfl hn) dX12_layerRead_233 ?_
                      refine g_bipush hg dX12_layerRead_236 kB_6 ?_
                      refine g_icmp_lt (tgt := 250) hg dX12_layerRead_238 (by decide) (fun c => ?_) (fun c => ?_)
                      · replace h := itT c h
                        refine g_sub (lv' := [(0, rr E.1 194)]) [1] rfl ?_
                        exact lkX12_layerRead_250 hn hRf hg hr  _ h
                      · replace h := itF c h
                        refine g_rload_n hg dX12_layerRead_241 rfl 1 rfl ?_
                        refine g_getI hg fl_X12_209 ly194 rfl (idb rfl rfl hn) dX12_layerRead_242 ?_
                        refine g_bipush hg dX12_layerRead_245 kB_10 ?_
                        refine g_icmp_le (tgt := 256) hg dX12_layerRead_247 (by decide) (fun c => ?_) (fun c => ?_)
                        · replace h := itT c h
                          refine g_rload_n hg dX12_layerRead_256 rfl 1 rfl ?_
                          refine g_getR (r := 206) hg fl_X12_71 ly194 rfl (idb rfl rfl hn) (rfc hRf rfl rfl rfl rfl) (by decide) dX12_layerRead_257 ?_
                          refine g_iload_n hg dX12_layerRead_260 rfl 0 rfl ?_
                          refine g_iconst hg dX12_layerRead_261 kI_3 ?_
                          refine g_iadd hg dX12_layerRead_262 ?_
                          refine g_rload_n hg dX12_layerRead_263 rfl 1 rfl ?_
                          refine g_getI hg fl_X12_209 ly194 rfl (idb rfl rfl hn) dX12_layerRead_264 ?_
                          refine g_bipush hg dX12_layerRead_267 kB_6 ?_
                          refine g_isub hg dX12_layerRead_269 ?_
                          obtain ⟨c270, h⟩ := ck_some h
                          refine g_iast hg ly206 (idb rfl rfl hn) (inb_vp c270) dX12_layerRead_270 ?_
                          refine g_rload_n hg dX12_layerRead_271 rfl 1 rfl ?_
                          obtain ⟨M272, e272, h⟩ := Option.bind_eq_some_iff.mp h
                          refine g_callVv (As := []) (rest := []) hg (lkX12_take (by omega) hn hRf  e272) cv_X12_228 rfl ly194 (idb rfl rfl hn) rfl rfl (Nat.le_of_ble_eq_true rfl) ⟨Nat.le_refl _, Nat.le_refl _⟩ dX12_layerRead_272 ?_
                          refine g_rload_n hg dX12_layerRead_275 rfl 1 rfl ?_
                          refine g_getR (r := 206) hg fl_X12_71 ly194 rfl (idb rfl rfl hn) (rfc hRf rfl rfl rfl rfl) (by decide) dX12_layerRead_276 ?_
                          refine g_iload_n hg dX12_layerRead_279 rfl 0 rfl ?_
                          refine g_iconst hg dX12_layerRead_280 kI_4 ?_
                          refine g_iadd hg dX12_layerRead_281 ?_
                          refine g_rload_n hg dX12_layerRead_282 rfl 1 rfl ?_
                          refine g_bipush hg dX12_layerRead_283 kB_11 ?_
                          obtain ⟨q285, e285, h⟩ := Option.bind_eq_some_iff.mp h
                          refine g_callVi (As := [.int 11]) (rest := [.int (((48 * (M.1 194 26)) + (6 * (M.1 205 (M.1 194 26).toNatClampNeg))) + 4), rr E.1 206]) hg (lkX12_isWord (by omega) hn hRf  e285) cv_X12_234 rfl ly194 (idb rfl rfl hn) rfl rfl (Nat.le_of_ble_eq_true rfl) ⟨Nat.le_refl _, Nat.le_refl _⟩ dX12_layerRead_285 ?_
                          refine g_if_eq (tgt := 295) hg dX12_layerRead_288 (by decide) (fun c => ?_) (fun c => ?_)
                          · rw [if_pos c] at h
                            refine g_iconst hg dX12_layerRead_295 kI_0 ?_
                            refine g_sub (lv' := [(0, rr E.1 194), (2, .int ((48 * (M.1 194 26)) + (6 * (M.1 205 (M.1 194 26).toNatClampNeg))))]) [1, 0] rfl ?_
                            exact lkX12_layerRead_296 hn hRf hg hr  _ _ _ _ h
                          · rw [if_neg c] at h
                            refine g_iconst hg dX12_layerRead_291 kI_1 ?_
                            refine g_goto (tgt := 296) hg dX12_layerRead_292 (by decide) ?_
                            refine g_sub (lv' := [(0, rr E.1 194), (2, .int ((48 * (M.1 194 26)) + (6 * (M.1 205 (M.1 194 26).toNatClampNeg))))]) [1, 0] rfl ?_
                            exact lkX12_layerRead_296 hn hRf hg hr  _ _ _ _ h
                        · replace h := itF c h
                          refine g_sub (lv' := [(0, rr E.1 194)]) [1] rfl ?_
                          exact lkX12_layerRead_250 hn hRf hg hr  _ h
                  · replace h := itF c h
                    refine g_sub (lv' := [(0, rr E.1 194)]) [1] rfl ?_
                    exact lkX12_layerRead_202 hn hRf hg hr  _ h
              · replace h := itF c h
                refine g_rload_n hg dX12_layerRead_164 rfl 1 rfl ?_
                refine g_iconst hg dX12_layerRead_165 kI_3 ?_
                obtain ⟨q166, e166, h⟩ := Option.bind_eq_some_iff.mp h
                refine g_callVi (As := [.int 3]) (rest := []) hg (lkX12_wrong (by omega) hn hRf  e166) cv_X12_222 rfl ly194 (idb rfl rfl hn) rfl rfl (Nat.le_of_ble_eq_true rfl) ⟨Nat.le_refl _, Nat.le_refl _⟩ dX12_layerRead_166 ?_
                obtain ⟨c169, h⟩ := ck_some h
                replace h := Option.some.inj h
                subst h
                exact g_zret hg hr (isb_nar c169) dX12_layerRead_169
            · replace h := itF c h
              refine g_rload_n hg dX12_layerRead_150 rfl 1 rfl ?_
              refine g_iconst hg dX12_layerRead_151 kI_2 ?_
              obtain ⟨q152, e152, h⟩ := Option.bind_eq_some_iff.mp h
              refine g_callVi (As := [.int 2]) (rest := []) hg (lkX12_wrong (by omega) hn hRf  e152) cv_X12_222 rfl ly194 (idb rfl rfl hn) rfl rfl (Nat.le_of_ble_eq_true rfl) ⟨Nat.le_refl _, Nat.le_refl _⟩ dX12_layerRead_152 ?_
              obtain ⟨c155, h⟩ := ck_some h
              replace h := Option.some.inj h
              subst h
              exact g_zret hg hr (isb_nar c155) dX12_layerRead_155
          · replace h := itF c h
            refine g_rload_n hg dX12_layerRead_134 rfl 1 rfl ?_
            refine g_iconst hg dX12_layerRead_135 kI_1 ?_
            obtain ⟨q136, e136, h⟩ := Option.bind_eq_some_iff.mp h
            refine g_callVi (As := [.int 1]) (rest := []) hg (lkX12_wrong (by omega) hn hRf  e136) cv_X12_222 rfl ly194 (idb rfl rfl hn) rfl rfl (Nat.le_of_ble_eq_true rfl) ⟨Nat.le_refl _, Nat.le_refl _⟩ dX12_layerRead_136 ?_
            obtain ⟨c139, h⟩ := ck_some h
            replace h := Option.some.inj h
            subst h
            exact g_zret hg hr (isb_nar c139) dX12_layerRead_139
        · replace h := itT c h
          refine g_rload_n hg dX12_layerRead_116 rfl 1 rfl ?_
          refine g_iconst hg dX12_layerRead_117 kI_1 ?_
          obtain ⟨q118, e118, h⟩ := Option.bind_eq_some_iff.mp h
          refine g_callVi (As := [.int 1]) (rest := []) hg (lkX12_wrong (by omega) hn hRf  e118) cv_X12_222 rfl ly194 (idb rfl rfl hn) rfl rfl (Nat.le_of_ble_eq_true rfl) ⟨Nat.le_refl _, Nat.le_refl _⟩ dX12_layerRead_118 ?_
          obtain ⟨c121, h⟩ := ck_some h
          replace h := Option.some.inj h
          subst h
          exact g_zret hg hr (isb_nar c121) dX12_layerRead_121
      · replace h := itF c h
        refine g_rload_n hg dX12_layerRead_87 rfl 1 rfl ?_
        refine g_iconst hg dX12_layerRead_88 kI_3 ?_
        obtain ⟨q89, e89, h⟩ := Option.bind_eq_some_iff.mp h
        refine g_callVi (As := [.int 3]) (rest := []) hg (lkX12_wrong (by omega) hn hRf  e89) cv_X12_222 rfl ly194 (idb rfl rfl hn) rfl rfl (Nat.le_of_ble_eq_true rfl) ⟨Nat.le_refl _, Nat.le_refl _⟩ dX12_layerRead_89 ?_
        obtain ⟨c92, h⟩ := ck_some h
        replace h := Option.some.inj h
        subst h
        exact g_zret hg hr (isb_nar c92) dX12_layerRead_92
    · replace h := itF c h
      refine g_rload_n hg dX12_layerRead_73 rfl 1 rfl ?_
      refine g_iconst hg dX12_layerRead_74 kI_2 ?_
      obtain ⟨q75, e75, h⟩ := Option.bind_eq_some_iff.mp h
      refine g_callVi (As := [.int 2]) (rest := []) hg (lkX12_wrong (by omega) hn hRf  e75) cv_X12_222 rfl ly194 (idb rfl rfl hn) rfl rfl (Nat.le_of_ble_eq_true rfl) ⟨Nat.le_refl _, Nat.le_refl _⟩ dX12_layerRead_75 ?_
      obtain ⟨c78, h⟩ := ck_some h
      replace h := Option.some.inj h
      subst h
      exact g_zret hg hr (isb_nar c78) dX12_layerRead_78
  · replace h := itF c h
    refine g_rload_n hg dX12_layerRead_57 rfl 1 rfl ?_
    refine g_iconst hg dX12_layerRead_58 kI_1 ?_
    obtain ⟨q59, e59, h⟩ := Option.bind_eq_some_iff.mp h
    refine g_callVi (As := [.int 1]) (rest := []) hg (lkX12_wrong (by omega) hn hRf  e59) cv_X12_222 rfl ly194 (idb rfl rfl hn) rfl rfl (Nat.le_of_ble_eq_true rfl) ⟨Nat.le_refl _, Nat.le_refl _⟩ dX12_layerRead_59 ?_
    obtain ⟨c62, h⟩ := ck_some h
    replace h := Option.some.inj h
    subst h
    exact g_zret hg hr (isb_nar c62) dX12_layerRead_62
theorem lkX12_layerRead {l0 : Launch} {E : En} {d n : Nat} {Rf : Nat → Nat → Nat} {ex : Bool} {kq : Nat × Nat} (hd : 5 ≤ d) (hn : 238 ≤ n) (hRf : RfOk 194 238 kq Rf) {x1 : Int32} {M : Mm} {q : Int32 × Mm} (h : sX12_layerRead x1 M = some q) : Ct l0 E yX12_layerRead cX12_layerRead 3 (some .boolean) d 0 0 [rr E.1 194, .int x1] ex n Rf M n Rf (some (.int q.1)) q.2 := by
  obtain ⟨d, rfl⟩ := Nat.exists_eq_add_of_le' hd
  refine Ct.of pnX12 (Nat.le_of_ble_eq_true rfl) (fun g hg hr _ => ?_)
  replace hg : Ok g l0 E cX12_layerRead RX12 3 (d + 5) 0 0 := hg
  show WG g E 3 n Rf ex 0 0 0 [(0, rr E.1 194), (1, .int x1)] [] M
  unfold sX12_layerRead at h
  refine g_rload_n hg dX12_layerRead_0 rfl 0 rfl ?_
  refine g_getI hg fl_X12_199 ly194 rfl (idb rfl rfl hn) dX12_layerRead_1 ?_
  refine g_iconst hg dX12_layerRead_4 kI_3 ?_
  refine g_icmp_ne (tgt := 28) hg dX12_layerRead_5 (by decide) (fun c => ?_) (fun c => ?_)
  · replace h := itF c h
    exact lkX12_layerRead_28 hn hRf hg hr  _ _ h
  · replace h := itT c h
    refine g_rload_n hg dX12_layerRead_8 rfl 0 rfl ?_
    refine g_getR (r := 205) hg fl_X12_68 ly194 rfl (idb rfl rfl hn) (rfc hRf rfl rfl rfl rfl) (by decide) dX12_layerRead_9 ?_
    refine g_rload_n hg dX12_layerRead_12 rfl 0 rfl ?_
    refine g_getI hg fl_X12_174 ly194 rfl (idb rfl rfl hn) dX12_layerRead_13 ?_
    obtain ⟨c16, h⟩ := ck_some h
    refine g_iald hg ly205 (idb rfl rfl hn) (inb_vp c16) dX12_layerRead_16 ?_
    refine g_bipush hg dX12_layerRead_17 kB_8 ?_
    refine g_icmp_ne (tgt := 28) hg dX12_layerRead_19 (by decide) (fun c => ?_) (fun c => ?_)
    · replace h := itF c h
      exact lkX12_layerRead_28 hn hRf hg hr  _ _ h
    · replace h := itT c h
      refine g_rload_n hg dX12_layerRead_22 rfl 0 rfl ?_
      refine g_iconst hg dX12_layerRead_23 kI_2 ?_
      obtain ⟨q24, e24, h⟩ := Option.bind_eq_some_iff.mp h
      refine g_callVi (As := [.int 2]) (rest := []) hg (lkX12_wrong (by omega) hn hRf  e24) cv_X12_222 rfl ly194 (idb rfl rfl hn) rfl rfl (Nat.le_of_ble_eq_true rfl) ⟨Nat.le_refl _, Nat.le_refl _⟩ dX12_layerRead_24 ?_
      obtain ⟨c27, h⟩ := ck_some h
      replace h := Option.some.inj h
      subst h
      exact g_zret hg hr (isb_nar c27) dX12_layerRead_27
theorem lkX12_boreRead_12 {g : Gm} {l0 : Launch} {E : En} {d n : Nat} {Rf : Nat → Nat → Nat} {ex : Bool} {kq : Nat × Nat} (hn : 238 ≤ n) (hRf : RfOk 194 238 kq Rf) (hg : Ok g l0 E cX12_boreRead RX12 2 (d + 6) 0 0) {q : Int32 × Mm} (hr : Ret g E 0 0 (some .boolean) ex n Rf (some (.int q.1)) q.2) : ∀ (F : Nat) (x1 : Int32) (M : Mm), sX12_boreRead_12 F x1 M = some q → WG g E 2 n Rf ex 0 0 12 [(0, rr E.1 194), (1, .int x1)] [] M := by
  intro F
  induction F with
  | zero =>
    intro x1 M h
    cases h
  | succ F ih =>
    intro x1 M h
    rw [sX12_boreRead_12] at h
    refine g_rload_n hg dX12_boreRead_12 rfl 0 rfl ?_
    refine g_iload_n hg dX12_boreRead_13 rfl 1 rfl ?_
    obtain ⟨q14, e14, h⟩ := Option.bind_eq_some_iff.mp h
    refine g_callVi (As := [.int x1]) (rest := []) hg (lkX12_layerRead (by omega) hn hRf  e14) cv_X12_240 rfl ly194 (idb rfl rfl hn) rfl rfl (Nat.le_of_ble_eq_true rfl) ⟨Nat.le_refl _, Nat.le_refl _⟩ dX12_boreRead_14 ?_
    refine g_if_ne (tgt := 22) hg dX12_boreRead_17 (by decide) (fun c => ?_) (fun c => ?_)
    · replace h := itF c h
      refine g_rload_n hg dX12_boreRead_22 rfl 0 rfl ?_
      refine g_getR (r := 206) hg fl_X12_71 ly194 rfl (idb rfl rfl hn) (rfc hRf rfl rfl rfl rfl) (by decide) dX12_boreRead_23 ?_
      refine g_bipush hg dX12_boreRead_26 kB_48 ?_
      refine g_rload_n hg dX12_boreRead_28 rfl 0 rfl ?_
      refine g_getI hg fl_X12_174 ly194 rfl (idb rfl rfl hn) dX12_boreRead_29 ?_
      refine g_imul hg dX12_boreRead_32 ?_
      refine g_bipush hg dX12_boreRead_33 kB_6 ?_
      refine g_rload_n hg dX12_boreRead_35 rfl 0 rfl ?_
      refine g_getR (r := 205) hg fl_X12_68 ly194 rfl (idb rfl rfl hn) (rfc hRf rfl rfl rfl rfl) (by decide) dX12_boreRead_36 ?_
      refine g_rload_n hg dX12_boreRead_39 rfl 0 rfl ?_
      refine g_getI hg fl_X12_174 ly194 rfl (idb rfl rfl hn) dX12_boreRead_40 ?_
      obtain ⟨c43, h⟩ := ck_some h
      refine g_iald hg ly205 (idb rfl rfl hn) (inb_vp c43) dX12_boreRead_43 ?_
      refine g_imul hg dX12_boreRead_44 ?_
      refine g_iadd hg dX12_boreRead_45 ?_
      refine g_iconst hg dX12_boreRead_46 kI_5 ?_
      refine g_isub hg dX12_boreRead_47 ?_
      obtain ⟨c48, h⟩ := ck_some h
      refine g_iald hg ly206 (idb rfl rfl hn) (inb_vp c48) dX12_boreRead_48 ?_
      refine g_istore_n (lv' := [(1, .int (q14.2.1 206 (((48 * (q14.2.1 194 26)) + (6 * (q14.2.1 205 (q14.2.1 194 26).toNatClampNeg))) - 5).toNatClampNeg)), (0, rr E.1 194)]) hg dX12_boreRead_49 rfl (by decide) rfl ?_
      refine g_rload_n hg dX12_boreRead_50 rfl 1 rfl ?_
      refine g_getI hg fl_X12_199 ly194 rfl (idb rfl rfl hn) dX12_boreRead_51 ?_
      refine g_if_ne (tgt := 59) hg dX12_boreRead_54 (by decide) (fun c => ?_) (fun c => ?_)
      · replace h := itF c h
        refine g_rload_n hg dX12_boreRead_59 rfl 1 rfl ?_
        refine g_bipush hg dX12_boreRead_60 kB_59 ?_
        obtain ⟨q62, e62, h⟩ := Option.bind_eq_some_iff.mp h
        refine g_callVi (As := [.int 59]) (rest := []) hg (lkX12_isSign (by omega) hn hRf  e62) cv_X12_231 rfl ly194 (idb rfl rfl hn) rfl rfl (Nat.le_of_ble_eq_true rfl) ⟨Nat.le_refl _, Nat.le_refl _⟩ dX12_boreRead_62 ?_
        refine g_if_ne (tgt := 74) hg dX12_boreRead_65 (by decide) (fun c => ?_) (fun c => ?_)
        · replace h := itF c h
          refine g_rload_n hg dX12_boreRead_74 rfl 1 rfl ?_
          obtain ⟨M75, e75, h⟩ := Option.bind_eq_some_iff.mp h
          refine g_callVv (As := []) (rest := []) hg (lkX12_take (by omega) hn hRf  e75) cv_X12_228 rfl ly194 (idb rfl rfl hn) rfl rfl (Nat.le_of_ble_eq_true rfl) ⟨Nat.le_refl _, Nat.le_refl _⟩ dX12_boreRead_75 ?_
          refine g_rload_n hg dX12_boreRead_78 rfl 1 rfl ?_
          refine g_getI hg fl_X12_199 ly194 rfl (idb rfl rfl hn) dX12_boreRead_79 ?_
          refine g_if_ne (tgt := 12) hg dX12_boreRead_82 (by decide) (fun c => ?_) (fun c => ?_)
          · replace h := itF c h
            refine g_sub (lv' := [(0, rr E.1 194), (1, .int (q14.2.1 206 (((48 * (q14.2.1 194 26)) + (6 * (q14.2.1 205 (q14.2.1 194 26).toNatClampNeg))) - 5).toNatClampNeg))]) [1, 0] rfl ?_
            exact ih _ _ h
          · replace h := itT c h
            refine g_iconst hg dX12_boreRead_85 kI_1 ?_
            replace h := Option.some.inj h
            subst h
            exact g_zret hg hr rfl dX12_boreRead_86
        · replace h := itT c h
          refine g_rload_n hg dX12_boreRead_68 rfl 1 rfl ?_
          refine g_iconst hg dX12_boreRead_69 kI_1 ?_
          obtain ⟨q70, e70, h⟩ := Option.bind_eq_some_iff.mp h
          refine g_callVi (As := [.int 1]) (rest := []) hg (lkX12_wrong (by omega) hn hRf  e70) cv_X12_222 rfl ly194 (idb rfl rfl hn) rfl rfl (Nat.le_of_ble_eq_true rfl) ⟨Nat.le_refl _, Nat.le_refl _⟩ dX12_boreRead_70 ?_
          obtain ⟨c73, h⟩ := ck_some h
          replace h := Option.some.inj h
          subst h
          exact g_zret hg hr (isb_nar c73) dX12_boreRead_73
      · replace h := itT c h
        refine g_iconst hg dX12_boreRead_57 kI_1 ?_
        replace h := Option.some.inj h
        subst h
        exact g_zret hg hr rfl dX12_boreRead_58
    · replace h := itT c h
      refine g_iconst hg dX12_boreRead_20 kI_0 ?_
      replace h := Option.some.inj h
      subst h
      exact g_zret hg hr rfl dX12_boreRead_21
theorem lkX12_boreRead {l0 : Launch} {E : En} {d n : Nat} {Rf : Nat → Nat → Nat} {ex : Bool} {kq : Nat × Nat} (hd : 6 ≤ d) (hn : 238 ≤ n) (hRf : RfOk 194 238 kq Rf)  {M : Mm} {q : Int32 × Mm} (h : sX12_boreRead M = some q) : Ct l0 E yX12_boreRead cX12_boreRead 2 (some .boolean) d 0 0 [rr E.1 194] ex n Rf M n Rf (some (.int q.1)) q.2 := by
  obtain ⟨d, rfl⟩ := Nat.exists_eq_add_of_le' hd
  refine Ct.of pnX12 (Nat.le_of_ble_eq_true rfl) (fun g hg hr _ => ?_)
  replace hg : Ok g l0 E cX12_boreRead RX12 2 (d + 6) 0 0 := hg
  show WG g E 2 n Rf ex 0 0 0 [(0, rr E.1 194)] [] M
  unfold sX12_boreRead at h
  refine g_rload_n hg dX12_boreRead_0 rfl 0 rfl ?_
  refine g_getR (r := 205) hg fl_X12_68 ly194 rfl (idb rfl rfl hn) (rfc hRf rfl rfl rfl rfl) (by decide) dX12_boreRead_1 ?_
  refine g_rload_n hg dX12_boreRead_4 rfl 0 rfl ?_
  refine g_getI hg fl_X12_174 ly194 rfl (idb rfl rfl hn) dX12_boreRead_5 ?_
  refine g_iconst hg dX12_boreRead_8 kI_0 ?_
  obtain ⟨c9, h⟩ := ck_some h
  refine g_iast hg ly205 (idb rfl rfl hn) (inb_vp c9) dX12_boreRead_9 ?_
  refine g_iconst hg dX12_boreRead_10 kI_0 ?_
  refine g_istore_n (lv' := [(1, .int 0), (0, rr E.1 194)]) hg dX12_boreRead_11 rfl (by decide) rfl ?_
  refine g_sub (lv' := [(0, rr E.1 194), (1, .int 0)]) [1, 0] rfl ?_
  exact lkX12_boreRead_12 hn hRf hg hr  4096 _ _ h
theorem lkX12_bore {l0 : Launch} {E : En} {d n : Nat} {Rf : Nat → Nat → Nat} {ex : Bool} {kq : Nat × Nat} (hd : 7 ≤ d) (hn : 238 ≤ n) (hRf : RfOk 194 238 kq Rf) {x1 : Int32} {x2 : Int32} {x3 : Int32} {M : Mm} {q : Int32 × Mm} (h : sX12_bore x1 x2 x3 M = some q) : Ct l0 E yX12_bore cX12_bore 4 (some .int) d 0 0 [rr E.1 194, .int x1, .int x2, .int x3] ex n Rf M n Rf (some (.int q.1)) q.2 := by
  obtain ⟨d, rfl⟩ := Nat.exists_eq_add_of_le' hd
  refine Ct.of pnX12 (Nat.le_of_ble_eq_true rfl) (fun g hg hr _ => ?_)
  replace hg : Ok g l0 E cX12_bore RX12 4 (d + 7) 0 0 := hg
  show WG g E 4 n Rf ex 0 0 0 [(0, rr E.1 194), (1, .int x1), (2, .int x2), (3, .int x3)] [] M
  unfold sX12_bore at h
  refine g_rload_n hg dX12_bore_0 rfl 0 rfl ?_
  refine g_iconst hg dX12_bore_1 kI_0 ?_
  refine g_putI hg fp_X12_171 ly194 rfl (idb rfl rfl hn) dX12_bore_2 ?_
  refine g_iload_n hg dX12_bore_5 rfl 1 rfl ?_
  refine g_if_lt (tgt := 43) hg dX12_bore_6 (by decide) (fun c => ?_) (fun c => ?_)
  · replace h := itT c h
    refine g_bipush hg dX12_bore_43 kB_m2 ?_
    replace h := Option.some.inj h
    subst h
    exact g_iret hg hr dX12_bore_45
  · replace h := itF c h
    refine g_iload_n hg dX12_bore_9 rfl 1 rfl ?_
    refine g_rload_n hg dX12_bore_10 rfl 0 rfl ?_
    refine g_getI hg fl_X12_177 ly194 rfl (idb rfl rfl hn) dX12_bore_11 ?_
    refine g_icmp_gt (tgt := 43) hg dX12_bore_14 (by decide) (fun c => ?_) (fun c => ?_)
    · replace h := itT c h
      refine g_bipush hg dX12_bore_43 kB_m2 ?_
      replace h := Option.some.inj h
      subst h
      exact g_iret hg hr dX12_bore_45
    · replace h := itF c h
      refine g_iload_n hg dX12_bore_17 rfl 2 rfl ?_
      refine g_if_lt (tgt := 43) hg dX12_bore_18 (by decide) (fun c => ?_) (fun c => ?_)
      · replace h := itT c h
        refine g_bipush hg dX12_bore_43 kB_m2 ?_
        replace h := Option.some.inj h
        subst h
        exact g_iret hg hr dX12_bore_45
      · replace h := itF c h
        refine g_iload_n hg dX12_bore_21 rfl 2 rfl ?_
        refine g_iconst hg dX12_bore_22 kI_2 ?_
        refine g_icmp_gt (tgt := 43) hg dX12_bore_23 (by decide) (fun c => ?_) (fun c => ?_)
        · replace h := itT c h
          refine g_bipush hg dX12_bore_43 kB_m2 ?_
          replace h := Option.some.inj h
          subst h
          exact g_iret hg hr dX12_bore_45
        · replace h := itF c h
          refine g_rload_n hg dX12_bore_26 rfl 0 rfl ?_
          refine g_iload_n hg dX12_bore_27 rfl 3 rfl ?_
          obtain ⟨q28, e28, h⟩ := Option.bind_eq_some_iff.mp h
          refine g_callVi (As := [.int x3]) (rest := []) hg (lkX12_isCell (by omega) hn hRf  e28) cv_X12_180 rfl ly194 (idb rfl rfl hn) rfl rfl (Nat.le_of_ble_eq_true rfl) ⟨Nat.le_refl _, Nat.le_refl _⟩ dX12_bore_28 ?_
          refine g_if_eq (tgt := 43) hg dX12_bore_31 (by decide) (fun c => ?_) (fun c => ?_)
          · replace h := itT c h
            refine g_bipush hg dX12_bore_43 kB_m2 ?_
            replace h := Option.some.inj h
            subst h
            exact g_iret hg hr dX12_bore_45
          · replace h := itF c h
            refine g_rload_n hg dX12_bore_34 rfl 0 rfl ?_
            refine g_getI hg fl_X12_174 ly194 rfl (idb rfl rfl hn) dX12_bore_35 ?_
            refine g_bipush hg dX12_bore_38 kB_60 ?_
            refine g_icmp_ne (tgt := 46) hg dX12_bore_40 (by decide) (fun c => ?_) (fun c => ?_)
            · replace h := itF c h
              refine g_rload_n hg dX12_bore_46 rfl 0 rfl ?_
              refine g_iload_n hg dX12_bore_47 rfl 1 rfl ?_
              obtain ⟨M48, e48, h⟩ := Option.bind_eq_some_iff.mp h
              refine g_callVv (As := [.int x1]) (rest := []) hg (lkX12_begins (by omega) hn hRf  e48) cv_X12_243 rfl ly194 (idb rfl rfl hn) rfl rfl (Nat.le_of_ble_eq_true rfl) ⟨Nat.le_refl _, Nat.le_refl _⟩ dX12_bore_48 ?_
              refine g_rload_n hg dX12_bore_51 rfl 0 rfl ?_
              obtain ⟨q52, e52, h⟩ := Option.bind_eq_some_iff.mp h
              refine g_callVi (As := []) (rest := []) hg (lkX12_boreRead (by omega) hn hRf  e52) cv_X12_247 rfl ly194 (idb rfl rfl hn) rfl rfl (Nat.le_of_ble_eq_true rfl) ⟨Nat.le_refl _, Nat.le_refl _⟩ dX12_bore_52 ?_
              refine g_if_ne (tgt := 60) hg dX12_bore_55 (by decide) (fun c => ?_) (fun c => ?_)
              · replace h := itF c h
                refine g_rload_n hg dX12_bore_60 rfl 0 rfl ?_
                refine g_getR (r := 202) hg fl_X12_59 ly194 rfl (idb rfl rfl hn) (rfc hRf rfl rfl rfl rfl) (by decide) dX12_bore_61 ?_
                refine g_rload_n hg dX12_bore_64 rfl 0 rfl ?_
                refine g_getI hg fl_X12_174 ly194 rfl (idb rfl rfl hn) dX12_bore_65 ?_
                refine g_iconst hg dX12_bore_68 kI_m1 ?_
                obtain ⟨c69, h⟩ := ck_some h
                refine g_iast hg ly202 (idb rfl rfl hn) (inb_vp c69) dX12_bore_69 ?_
                refine g_rload_n hg dX12_bore_70 rfl 0 rfl ?_
                refine g_getR (r := 203) hg fl_X12_62 ly194 rfl (idb rfl rfl hn) (rfc hRf rfl rfl rfl rfl) (by decide) dX12_bore_71 ?_
                refine g_rload_n hg dX12_bore_74 rfl 0 rfl ?_
                refine g_getI hg fl_X12_174 ly194 rfl (idb rfl rfl hn) dX12_bore_75 ?_
                refine g_iload_n hg dX12_bore_78 rfl 2 rfl ?_
                obtain ⟨c79, h⟩ := ck_some h
                refine g_iast hg ly203 (idb rfl rfl hn) (inb_vp c79) dX12_bore_79 ?_
                refine g_rload_n hg dX12_bore_80 rfl 0 rfl ?_
                refine g_getR (r := 204) hg fl_X12_65 ly194 rfl (idb rfl rfl hn) (rfc hRf rfl rfl rfl rfl) (by decide) dX12_bore_81 ?_
                refine g_rload_n hg dX12_bore_84 rfl 0 rfl ?_
                refine g_getI hg fl_X12_174 ly194 rfl (idb rfl rfl hn) dX12_bore_85 ?_
                refine g_iload_n hg dX12_bore_88 rfl 3 rfl ?_
                obtain ⟨c89, h⟩ := ck_some h
                refine g_iast hg ly204 (idb rfl rfl hn) (inb_vp c89) dX12_bore_89 ?_
                refine g_rload_n hg dX12_bore_90 rfl 0 rfl ?_
                refine g_dup hg dX12_bore_91 rfl ?_
                refine g_getI hg fl_X12_174 ly194 rfl (idb rfl rfl hn) dX12_bore_92 ?_
                refine g_iconst hg dX12_bore_95 kI_1 ?_
                refine g_iadd hg dX12_bore_96 ?_
                refine g_putI hg fp_X12_174 ly194 rfl (idb rfl rfl hn) dX12_bore_97 ?_
                refine g_rload_n hg dX12_bore_100 rfl 0 rfl ?_
                refine g_getI hg fl_X12_174 ly194 rfl (idb rfl rfl hn) dX12_bore_101 ?_
                refine g_iconst hg dX12_bore_104 kI_1 ?_
                refine g_isub hg dX12_bore_105 ?_
                replace h := Option.some.inj h
                subst h
                exact g_iret hg hr dX12_bore_106
              · replace h := itT c h
                refine g_iconst hg dX12_bore_58 kI_m1 ?_
                replace h := Option.some.inj h
                subst h
                exact g_iret hg hr dX12_bore_59
            · replace h := itT c h
              refine g_bipush hg dX12_bore_43 kB_m2 ?_
              replace h := Option.some.inj h
              subst h
              exact g_iret hg hr dX12_bore_45
theorem lkX12_fault {l0 : Launch} {E : En} {d n : Nat} {Rf : Nat → Nat → Nat} {ex : Bool} {kq : Nat × Nat} (hd : 1 ≤ d) (hn : 238 ≤ n) (hRf : RfOk 194 238 kq Rf) {x1 : Int32} {M : Mm} {q : Int32 × Mm} (h : sX12_fault x1 M = some q) : Ct l0 E yX12_fault cX12_fault 2 (some .int) d 0 0 [rr E.1 194, .int x1] ex n Rf M n Rf (some (.int q.1)) q.2 := by
  obtain ⟨d, rfl⟩ := Nat.exists_eq_add_of_le' hd
  refine Ct.of pnX12 (Nat.le_of_ble_eq_true rfl) (fun g hg hr _ => ?_)
  replace hg : Ok g l0 E cX12_fault RX12 2 (d + 1) 0 0 := hg
  show WG g E 2 n Rf ex 0 0 0 [(0, rr E.1 194), (1, .int x1)] [] M
  unfold sX12_fault at h
  refine g_rload_n hg dX12_fault_0 rfl 0 rfl ?_
  refine g_iconst hg dX12_fault_1 kI_0 ?_
  refine g_putI hg fp_X12_171 ly194 rfl (idb rfl rfl hn) dX12_fault_2 ?_
  refine g_iload_n hg dX12_fault_5 rfl 1 rfl ?_
  refine g_if_ne (tgt := 16) hg dX12_fault_6 (by decide) (fun c => ?_) (fun c => ?_)
  · rw [if_neg c] at h
    refine g_iload_n hg dX12_fault_16 rfl 1 rfl ?_
    refine g_iconst hg dX12_fault_17 kI_1 ?_
    refine g_icmp_ne (tgt := 28) hg dX12_fault_18 (by decide) (fun c => ?_) (fun c => ?_)
    · rw [if_neg c] at h
      refine g_iconst hg dX12_fault_28 kI_m1 ?_
      replace h := Option.some.inj h
      subst h
      exact g_iret hg hr dX12_fault_29
    · rw [if_pos c] at h
      refine g_rload_n hg dX12_fault_21 rfl 0 rfl ?_
      refine g_getI hg fl_X12_56 ly194 rfl (idb rfl rfl hn) dX12_fault_22 ?_
      refine g_goto (tgt := 29) hg dX12_fault_25 (by decide) ?_
      replace h := Option.some.inj h
      subst h
      exact g_iret hg hr dX12_fault_29
  · rw [if_pos c] at h
    refine g_rload_n hg dX12_fault_9 rfl 0 rfl ?_
    refine g_getI hg fl_X12_184 ly194 rfl (idb rfl rfl hn) dX12_fault_10 ?_
    refine g_goto (tgt := 29) hg dX12_fault_13 (by decide) ?_
    replace h := Option.some.inj h
    subst h
    exact g_iret hg hr dX12_fault_29
theorem lkX12_strike {l0 : Launch} {E : En} {d n : Nat} {Rf : Nat → Nat → Nat} {ex : Bool} {kq : Nat × Nat} (hd : 1 ≤ d) (hn : 238 ≤ n) (hRf : RfOk 194 238 kq Rf) {x1 : Int32} {M : Mm} {q : Int32 × Mm} (h : sX12_strike x1 M = some q) : Ct l0 E yX12_strike cX12_strike 2 (some .int) d 0 0 [rr E.1 194, .int x1] ex n Rf M n Rf (some (.int q.1)) q.2 := by
  obtain ⟨d, rfl⟩ := Nat.exists_eq_add_of_le' hd
  refine Ct.of pnX12 (Nat.le_of_ble_eq_true rfl) (fun g hg hr _ => ?_)
  replace hg : Ok g l0 E cX12_strike RX12 2 (d + 1) 0 0 := hg
  show WG g E 2 n Rf ex 0 0 0 [(0, rr E.1 194), (1, .int x1)] [] M
  unfold sX12_strike at h
  refine g_rload_n hg dX12_strike_0 rfl 0 rfl ?_
  refine g_iconst hg dX12_strike_1 kI_0 ?_
  refine g_putI hg fp_X12_171 ly194 rfl (idb rfl rfl hn) dX12_strike_2 ?_
  refine g_iload_n hg dX12_strike_5 rfl 1 rfl ?_
  refine g_if_lt (tgt := 26) hg dX12_strike_6 (by decide) (fun c => ?_) (fun c => ?_)
  · replace h := itT c h
    refine g_iconst hg dX12_strike_26 kI_m1 ?_
    replace h := Option.some.inj h
    subst h
    exact g_iret hg hr dX12_strike_27
  · replace h := itF c h
    refine g_iload_n hg dX12_strike_9 rfl 1 rfl ?_
    refine g_rload_n hg dX12_strike_10 rfl 0 rfl ?_
    refine g_getI hg fl_X12_174 ly194 rfl (idb rfl rfl hn) dX12_strike_11 ?_
    refine g_icmp_ge (tgt := 26) hg dX12_strike_14 (by decide) (fun c => ?_) (fun c => ?_)
    · replace h := itT c h
      refine g_iconst hg dX12_strike_26 kI_m1 ?_
      replace h := Option.some.inj h
      subst h
      exact g_iret hg hr dX12_strike_27
    · replace h := itF c h
      refine g_rload_n hg dX12_strike_17 rfl 0 rfl ?_
      refine g_getI hg fl_X12_174 ly194 rfl (idb rfl rfl hn) dX12_strike_18 ?_
      refine g_bipush hg dX12_strike_21 kB_60 ?_
      refine g_icmp_ne (tgt := 28) hg dX12_strike_23 (by decide) (fun c => ?_) (fun c => ?_)
      · replace h := itF c h
        refine g_rload_n hg dX12_strike_28 rfl 0 rfl ?_
        refine g_getR (r := 202) hg fl_X12_59 ly194 rfl (idb rfl rfl hn) (rfc hRf rfl rfl rfl rfl) (by decide) dX12_strike_29 ?_
        refine g_rload_n hg dX12_strike_32 rfl 0 rfl ?_
        refine g_getI hg fl_X12_174 ly194 rfl (idb rfl rfl hn) dX12_strike_33 ?_
        refine g_iload_n hg dX12_strike_36 rfl 1 rfl ?_
        obtain ⟨c37, h⟩ := ck_some h
        refine g_iast hg ly202 (idb rfl rfl hn) (inb_vp c37) dX12_strike_37 ?_
        refine g_rload_n hg dX12_strike_38 rfl 0 rfl ?_
        refine g_dup hg dX12_strike_39 rfl ?_
        refine g_getI hg fl_X12_174 ly194 rfl (idb rfl rfl hn) dX12_strike_40 ?_
        refine g_iconst hg dX12_strike_43 kI_1 ?_
        refine g_iadd hg dX12_strike_44 ?_
        refine g_putI hg fp_X12_174 ly194 rfl (idb rfl rfl hn) dX12_strike_45 ?_
        refine g_rload_n hg dX12_strike_48 rfl 0 rfl ?_
        refine g_getI hg fl_X12_174 ly194 rfl (idb rfl rfl hn) dX12_strike_49 ?_
        refine g_iconst hg dX12_strike_52 kI_1 ?_
        refine g_isub hg dX12_strike_53 ?_
        replace h := Option.some.inj h
        subst h
        exact g_iret hg hr dX12_strike_54
      · replace h := itT c h
        refine g_iconst hg dX12_strike_26 kI_m1 ?_
        replace h := Option.some.inj h
        subst h
        exact g_iret hg hr dX12_strike_27
theorem lkX12_isBore {l0 : Launch} {E : En} {d n : Nat} {Rf : Nat → Nat → Nat} {ex : Bool} {kq : Nat × Nat} (hd : 1 ≤ d) (hn : 238 ≤ n) (hRf : RfOk 194 238 kq Rf) {x1 : Int32} {M : Mm} {q : Int32 × Mm} (h : sX12_isBore x1 M = some q) : Ct l0 E yX12_isBore cX12_isBore 2 (some .boolean) d 0 0 [rr E.1 194, .int x1] ex n Rf M n Rf (some (.int q.1)) q.2 := by
  obtain ⟨d, rfl⟩ := Nat.exists_eq_add_of_le' hd
  refine Ct.of pnX12 (Nat.le_of_ble_eq_true rfl) (fun g hg hr _ => ?_)
  replace hg : Ok g l0 E cX12_isBore RX12 2 (d + 1) 0 0 := hg
  show WG g E 2 n Rf ex 0 0 0 [(0, rr E.1 194), (1, .int x1)] [] M
  unfold sX12_isBore at h
  refine g_iload_n hg dX12_isBore_0 rfl 1 rfl ?_
  refine g_if_lt (tgt := 25) hg dX12_isBore_1 (by decide) (fun c => ?_) (fun c => ?_)
  · replace h := itT c h
    refine g_iconst hg dX12_isBore_25 kI_0 ?_
    replace h := Option.some.inj h
    subst h
    exact g_zret hg hr rfl dX12_isBore_26
  · replace h := itF c h
    refine g_iload_n hg dX12_isBore_4 rfl 1 rfl ?_
    refine g_rload_n hg dX12_isBore_5 rfl 0 rfl ?_
    refine g_getI hg fl_X12_174 ly194 rfl (idb rfl rfl hn) dX12_isBore_6 ?_
    refine g_icmp_ge (tgt := 25) hg dX12_isBore_9 (by decide) (fun c => ?_) (fun c => ?_)
    · replace h := itT c h
      refine g_iconst hg dX12_isBore_25 kI_0 ?_
      replace h := Option.some.inj h
      subst h
      exact g_zret hg hr rfl dX12_isBore_26
    · replace h := itF c h
      refine g_rload_n hg dX12_isBore_12 rfl 0 rfl ?_
      refine g_getR (r := 202) hg fl_X12_59 ly194 rfl (idb rfl rfl hn) (rfc hRf rfl rfl rfl rfl) (by decide) dX12_isBore_13 ?_
      refine g_iload_n hg dX12_isBore_16 rfl 1 rfl ?_
      obtain ⟨c17, h⟩ := ck_some h
      refine g_iald hg ly202 (idb rfl rfl hn) (inb_vp c17) dX12_isBore_17 ?_
      refine g_if_ge (tgt := 25) hg dX12_isBore_18 (by decide) (fun c => ?_) (fun c => ?_)
      · rw [if_pos c] at h
        refine g_iconst hg dX12_isBore_25 kI_0 ?_
        replace h := Option.some.inj h
        subst h
        exact g_zret hg hr rfl dX12_isBore_26
      · rw [if_neg c] at h
        refine g_iconst hg dX12_isBore_21 kI_1 ?_
        refine g_goto (tgt := 26) hg dX12_isBore_22 (by decide) ?_
        replace h := Option.some.inj h
        subst h
        exact g_zret hg hr rfl dX12_isBore_26
theorem lkX12_layer {l0 : Launch} {E : En} {d n : Nat} {Rf : Nat → Nat → Nat} {ex : Bool} {kq : Nat × Nat} (hd : 2 ≤ d) (hn : 238 ≤ n) (hRf : RfOk 194 238 kq Rf) {x1 : Int32} {x2 : Int32} {x3 : Int32} {M : Mm} {q : Int32 × Mm} (h : sX12_layer x1 x2 x3 M = some q) : Ct l0 E yX12_layer cX12_layer 4 (some .int) d 0 0 [rr E.1 194, .int x1, .int x2, .int x3] ex n Rf M n Rf (some (.int q.1)) q.2 := by
  obtain ⟨d, rfl⟩ := Nat.exists_eq_add_of_le' hd
  refine Ct.of pnX12 (Nat.le_of_ble_eq_true rfl) (fun g hg hr _ => ?_)
  replace hg : Ok g l0 E cX12_layer RX12 4 (d + 2) 0 0 := hg
  show WG g E 4 n Rf ex 0 0 0 [(0, rr E.1 194), (1, .int x1), (2, .int x2), (3, .int x3)] [] M
  unfold sX12_layer at h
  refine g_rload_n hg dX12_layer_0 rfl 0 rfl ?_
  refine g_iconst hg dX12_layer_1 kI_0 ?_
  refine g_putI hg fp_X12_171 ly194 rfl (idb rfl rfl hn) dX12_layer_2 ?_
  refine g_rload_n hg dX12_layer_5 rfl 0 rfl ?_
  refine g_iload_n hg dX12_layer_6 rfl 1 rfl ?_
  obtain ⟨q7, e7, h⟩ := Option.bind_eq_some_iff.mp h
  refine g_callVi (As := [.int x1]) (rest := []) hg (lkX12_isBore (by omega) hn hRf  e7) cv_X12_251 rfl ly194 (idb rfl rfl hn) rfl rfl (Nat.le_of_ble_eq_true rfl) ⟨Nat.le_refl _, Nat.le_refl _⟩ dX12_layer_7 ?_
  refine g_if_eq (tgt := 36) hg dX12_layer_10 (by decide) (fun c => ?_) (fun c => ?_)
  · replace h := itT c h
    refine g_iconst hg dX12_layer_36 kI_m1 ?_
    replace h := Option.some.inj h
    subst h
    exact g_iret hg hr dX12_layer_37
  · replace h := itF c h
    refine g_iload_n hg dX12_layer_13 rfl 2 rfl ?_
    refine g_if_lt (tgt := 36) hg dX12_layer_14 (by decide) (fun c => ?_) (fun c => ?_)
    · replace h := itT c h
      refine g_iconst hg dX12_layer_36 kI_m1 ?_
      replace h := Option.some.inj h
      subst h
      exact g_iret hg hr dX12_layer_37
    · replace h := itF c h
      refine g_iload_n hg dX12_layer_17 rfl 2 rfl ?_
      refine g_rload_n hg dX12_layer_18 rfl 0 rfl ?_
      refine g_getR (r := 205) hg fl_X12_68 ly194 rfl (idb rfl rfl hn) (rfc hRf rfl rfl rfl rfl) (by decide) dX12_layer_19 ?_
      refine g_iload_n hg dX12_layer_22 rfl 1 rfl ?_
      obtain ⟨c23, h⟩ := ck_some h
      refine g_iald hg ly205 (idb rfl rfl hn) (inb_vp c23) dX12_layer_23 ?_
      refine g_icmp_ge (tgt := 36) hg dX12_layer_24 (by decide) (fun c => ?_) (fun c => ?_)
      · replace h := itT c h
        refine g_iconst hg dX12_layer_36 kI_m1 ?_
        replace h := Option.some.inj h
        subst h
        exact g_iret hg hr dX12_layer_37
      · replace h := itF c h
        refine g_iload_n hg dX12_layer_27 rfl 3 rfl ?_
        refine g_if_lt (tgt := 36) hg dX12_layer_28 (by decide) (fun c => ?_) (fun c => ?_)
        · replace h := itT c h
          refine g_iconst hg dX12_layer_36 kI_m1 ?_
          replace h := Option.some.inj h
          subst h
          exact g_iret hg hr dX12_layer_37
        · replace h := itF c h
          refine g_iload_n hg dX12_layer_31 rfl 3 rfl ?_
          refine g_iconst hg dX12_layer_32 kI_5 ?_
          refine g_icmp_le (tgt := 38) hg dX12_layer_33 (by decide) (fun c => ?_) (fun c => ?_)
          · replace h := itT c h
            refine g_rload_n hg dX12_layer_38 rfl 0 rfl ?_
            refine g_getR (r := 206) hg fl_X12_71 ly194 rfl (idb rfl rfl hn) (rfc hRf rfl rfl rfl rfl) (by decide) dX12_layer_39 ?_
            refine g_bipush hg dX12_layer_42 kB_48 ?_
            refine g_iload_n hg dX12_layer_44 rfl 1 rfl ?_
            refine g_imul hg dX12_layer_45 ?_
            refine g_bipush hg dX12_layer_46 kB_6 ?_
            refine g_iload_n hg dX12_layer_48 rfl 2 rfl ?_
            refine g_imul hg dX12_layer_49 ?_
            refine g_iadd hg dX12_layer_50 ?_
            refine g_iload_n hg dX12_layer_51 rfl 3 rfl ?_
            refine g_iadd hg dX12_layer_52 ?_
            obtain ⟨c53, h⟩ := ck_some h
            refine g_iald hg ly206 (idb rfl rfl hn) (inb_vp c53) dX12_layer_53 ?_
            replace h := Option.some.inj h
            subst h
            exact g_iret hg hr dX12_layer_54
          · replace h := itF c h
            refine g_iconst hg dX12_layer_36 kI_m1 ?_
            replace h := Option.some.inj h
            subst h
            exact g_iret hg hr dX12_layer_37
theorem lkX12_grown {l0 : Launch} {E : En} {d n : Nat} {Rf : Nat → Nat → Nat} {ex : Bool} {kq : Nat × Nat} (hd : 2 ≤ d) (hn : 238 ≤ n) (hRf : RfOk 194 238 kq Rf) {x1 : Int32} {M : Mm} {q : Int32 × Mm} (h : sX12_grown x1 M = some q) : Ct l0 E yX12_grown cX12_grown 3 (some .int) d 0 0 [rr E.1 194, .int x1] ex n Rf M n Rf (some (.int q.1)) q.2 := by
  obtain ⟨d, rfl⟩ := Nat.exists_eq_add_of_le' hd
  refine Ct.of pnX12 (Nat.le_of_ble_eq_true rfl) (fun g hg hr _ => ?_)
  replace hg : Ok g l0 E cX12_grown RX12 3 (d + 2) 0 0 := hg
  show WG g E 3 n Rf ex 0 0 0 [(0, rr E.1 194), (1, .int x1)] [] M
  unfold sX12_grown at h
  refine g_rload_n hg dX12_grown_0 rfl 0 rfl ?_
  refine g_getI hg fl_X12_254 ly194 rfl (idb rfl rfl hn) dX12_grown_1 ?_
  refine g_bipush hg dX12_grown_4 kB_96 ?_
  refine g_icmp_ne (tgt := 17) hg dX12_grown_6 (by decide) (fun c => ?_) (fun c => ?_)
  · replace h := itF c h
    refine g_bipush hg dX12_grown_17 kB_96 ?_
    refine g_rload_n hg dX12_grown_19 rfl 0 rfl ?_
    refine g_getI hg fl_X12_254 ly194 rfl (idb rfl rfl hn) dX12_grown_20 ?_
    refine g_iadd hg dX12_grown_23 ?_
    refine g_istore_n (lv' := [(2, .int (96 + (M.1 194 38))), (0, rr E.1 194), (1, .int x1)]) hg dX12_grown_24 rfl (by decide) rfl ?_
    refine g_rload_n hg dX12_grown_25 rfl 1 rfl ?_
    refine g_dup hg dX12_grown_26 rfl ?_
    refine g_getI hg fl_X12_254 ly194 rfl (idb rfl rfl hn) dX12_grown_27 ?_
    refine g_iconst hg dX12_grown_30 kI_1 ?_
    refine g_iadd hg dX12_grown_31 ?_
    refine g_putI hg fp_X12_254 ly194 rfl (idb rfl rfl hn) dX12_grown_32 ?_
    refine g_rload_n hg dX12_grown_35 rfl 1 rfl ?_
    refine g_getR (r := 213) hg fl_X12_93 ly194 rfl (idb rfl rfl hn) (rfc hRf rfl rfl rfl rfl) (by decide) dX12_grown_36 ?_
    refine g_iload_n hg dX12_grown_39 rfl 0 rfl ?_
    refine g_iload_n hg dX12_grown_40 rfl 2 rfl ?_
    obtain ⟨c41, h⟩ := ck_some h
    refine g_iast hg ly213 (idb rfl rfl hn) (inb_vp c41) dX12_grown_41 ?_
    refine g_rload_n hg dX12_grown_42 rfl 1 rfl ?_
    refine g_getR (r := 214) hg fl_X12_96 ly194 rfl (idb rfl rfl hn) (rfc hRf rfl rfl rfl rfl) (by decide) dX12_grown_43 ?_
    refine g_iload_n hg dX12_grown_46 rfl 0 rfl ?_
    refine g_iconst hg dX12_grown_47 kI_0 ?_
    obtain ⟨c48, h⟩ := ck_some h
    refine g_iast hg ly214 (idb rfl rfl hn) (inb_vp c48) dX12_grown_48 ?_
    refine g_rload_n hg dX12_grown_49 rfl 1 rfl ?_
    refine g_getR (r := 215) hg fl_X12_99 ly194 rfl (idb rfl rfl hn) (rfc hRf rfl rfl rfl rfl) (by decide) dX12_grown_50 ?_
    refine g_iload_n hg dX12_grown_53 rfl 0 rfl ?_
    refine g_iconst hg dX12_grown_54 kI_0 ?_
    obtain ⟨c55, h⟩ := ck_some h
    refine g_iast hg ly215 (idb rfl rfl hn) (inb_vp c55) dX12_grown_55 ?_
    refine g_rload_n hg dX12_grown_56 rfl 1 rfl ?_
    refine g_getR (r := 216) hg fl_X12_102 ly194 rfl (idb rfl rfl hn) (rfc hRf rfl rfl rfl rfl) (by decide) dX12_grown_57 ?_
    refine g_iload_n hg dX12_grown_60 rfl 0 rfl ?_
    refine g_iconst hg dX12_grown_61 kI_m1 ?_
    obtain ⟨c62, h⟩ := ck_some h
    refine g_iast hg ly216 (idb rfl rfl hn) (inb_vp c62) dX12_grown_62 ?_
    refine g_rload_n hg dX12_grown_63 rfl 1 rfl ?_
    refine g_getR (r := 217) hg fl_X12_105 ly194 rfl (idb rfl rfl hn) (rfc hRf rfl rfl rfl rfl) (by decide) dX12_grown_64 ?_
    refine g_iload_n hg dX12_grown_67 rfl 0 rfl ?_
    refine g_iconst hg dX12_grown_68 kI_m1 ?_
    obtain ⟨c69, h⟩ := ck_some h
    refine g_iast hg ly217 (idb rfl rfl hn) (inb_vp c69) dX12_grown_69 ?_
    refine g_iload_n hg dX12_grown_70 rfl 0 rfl ?_
    replace h := Option.some.inj h
    subst h
    exact g_iret hg hr dX12_grown_71
  · replace h := itT c h
    refine g_rload_n hg dX12_grown_9 rfl 0 rfl ?_
    refine g_iconst hg dX12_grown_10 kI_2 ?_
    obtain ⟨q11, e11, h⟩ := Option.bind_eq_some_iff.mp h
    refine g_callVi (As := [.int 2]) (rest := []) hg (lkX12_wrong (by omega) hn hRf  e11) cv_X12_222 rfl ly194 (idb rfl rfl hn) rfl rfl (Nat.le_of_ble_eq_true rfl) ⟨Nat.le_refl _, Nat.le_refl _⟩ dX12_grown_11 ?_
    refine g_istore_n (lv' := [(2, .int q11.1), (0, rr E.1 194), (1, .int x1)]) hg dX12_grown_14 rfl (by decide) rfl ?_
    refine g_iconst hg dX12_grown_15 kI_m1 ?_
    replace h := Option.some.inj h
    subst h
    exact g_iret hg hr dX12_grown_16
theorem lkX12_hold {l0 : Launch} {E : En} {d n : Nat} {Rf : Nat → Nat → Nat} {ex : Bool} {kq : Nat × Nat} (hd : 1 ≤ d) (hn : 238 ≤ n) (hRf : RfOk 194 238 kq Rf) {x1 : Int32} {M : Mm} {q : Mm} (h : sX12_hold x1 M = some q) : Ct l0 E yX12_hold cX12_hold 2 none d 0 0 [rr E.1 194, .int x1] ex n Rf M n Rf none q := by
  obtain ⟨d, rfl⟩ := Nat.exists_eq_add_of_le' hd
  refine Ct.of pnX12 (Nat.le_of_ble_eq_true rfl) (fun g hg hr _ => ?_)
  replace hg : Ok g l0 E cX12_hold RX12 2 (d + 1) 0 0 := hg
  show WG g E 2 n Rf ex 0 0 0 [(0, rr E.1 194), (1, .int x1)] [] M
  unfold sX12_hold at h
  refine g_rload_n hg dX12_hold_0 rfl 0 rfl ?_
  refine g_getR (r := 221) hg fl_X12_117 ly194 rfl (idb rfl rfl hn) (rfc hRf rfl rfl rfl rfl) (by decide) dX12_hold_1 ?_
  refine g_rload_n hg dX12_hold_4 rfl 0 rfl ?_
  refine g_getI hg fl_X12_257 ly194 rfl (idb rfl rfl hn) dX12_hold_5 ?_
  refine g_iload_n hg dX12_hold_8 rfl 1 rfl ?_
  obtain ⟨c9, h⟩ := ck_some h
  refine g_iast hg ly221 (idb rfl rfl hn) (inb_vp c9) dX12_hold_9 ?_
  refine g_rload_n hg dX12_hold_10 rfl 0 rfl ?_
  refine g_dup hg dX12_hold_11 rfl ?_
  refine g_getI hg fl_X12_257 ly194 rfl (idb rfl rfl hn) dX12_hold_12 ?_
  refine g_iconst hg dX12_hold_15 kI_1 ?_
  refine g_iadd hg dX12_hold_16 ?_
  refine g_putI hg fp_X12_257 ly194 rfl (idb rfl rfl hn) dX12_hold_17 ?_
  replace h := Option.some.inj h
  subst h
  exact g_vret hg hr dX12_hold_20
theorem lkX12_drop {l0 : Launch} {E : En} {d n : Nat} {Rf : Nat → Nat → Nat} {ex : Bool} {kq : Nat × Nat} (hd : 1 ≤ d) (hn : 238 ≤ n) (hRf : RfOk 194 238 kq Rf)  {M : Mm} {q : Int32 × Mm} (h : sX12_drop M = some q) : Ct l0 E yX12_drop cX12_drop 1 (some .int) d 0 0 [rr E.1 194] ex n Rf M n Rf (some (.int q.1)) q.2 := by
  obtain ⟨d, rfl⟩ := Nat.exists_eq_add_of_le' hd
  refine Ct.of pnX12 (Nat.le_of_ble_eq_true rfl) (fun g hg hr _ => ?_)
  replace hg : Ok g l0 E cX12_drop RX12 1 (d + 1) 0 0 := hg
  show WG g E 1 n Rf ex 0 0 0 [(0, rr E.1 194)] [] M
  unfold sX12_drop at h
  refine g_rload_n hg dX12_drop_0 rfl 0 rfl ?_
  refine g_dup hg dX12_drop_1 rfl ?_
  refine g_getI hg fl_X12_257 ly194 rfl (idb rfl rfl hn) dX12_drop_2 ?_
  refine g_iconst hg dX12_drop_5 kI_1 ?_
  refine g_isub hg dX12_drop_6 ?_
  refine g_putI hg fp_X12_257 ly194 rfl (idb rfl rfl hn) dX12_drop_7 ?_
  refine g_rload_n hg dX12_drop_10 rfl 0 rfl ?_
  refine g_getR (r := 221) hg fl_X12_117 ly194 rfl (idb rfl rfl hn) (rfc hRf rfl rfl rfl rfl) (by decide) dX12_drop_11 ?_
  refine g_rload_n hg dX12_drop_14 rfl 0 rfl ?_
  refine g_getI hg fl_X12_257 ly194 rfl (idb rfl rfl hn) dX12_drop_15 ?_
  obtain ⟨c18, h⟩ := ck_some h
  refine g_iald hg ly221 (idb rfl rfl hn) (inb_vp c18) dX12_drop_18 ?_
  replace h := Option.some.inj h
  subst h
  exact g_iret hg hr dX12_drop_19
theorem lkX12_done {l0 : Launch} {E : En} {d n : Nat} {Rf : Nat → Nat → Nat} {ex : Bool} {kq : Nat × Nat} (hd : 2 ≤ d) (hn : 238 ≤ n) (hRf : RfOk 194 238 kq Rf) {x1 : Int32} {M : Mm} {q : Mm} (h : sX12_done x1 M = some q) : Ct l0 E yX12_done cX12_done 2 none d 0 0 [rr E.1 194, .int x1] ex n Rf M n Rf none q := by
  obtain ⟨d, rfl⟩ := Nat.exists_eq_add_of_le' hd
  refine Ct.of pnX12 (Nat.le_of_ble_eq_true rfl) (fun g hg hr _ => ?_)
  replace hg : Ok g l0 E cX12_done RX12 2 (d + 2) 0 0 := hg
  show WG g E 2 n Rf ex 0 0 0 [(0, rr E.1 194), (1, .int x1)] [] M
  unfold sX12_done at h
  refine g_rload_n hg dX12_done_0 rfl 0 rfl ?_
  refine g_getR (r := 218) hg fl_X12_108 ly194 rfl (idb rfl rfl hn) (rfc hRf rfl rfl rfl rfl) (by decide) dX12_done_1 ?_
  refine g_bipush hg dX12_done_4 kB_96 ?_
  refine g_rload_n hg dX12_done_6 rfl 0 rfl ?_
  refine g_getI hg fl_X12_260 ly194 rfl (idb rfl rfl hn) dX12_done_7 ?_
  refine g_iadd hg dX12_done_10 ?_
  refine g_iload_n hg dX12_done_11 rfl 1 rfl ?_
  obtain ⟨c12, h⟩ := ck_some h
  refine g_iast hg ly218 (idb rfl rfl hn) (inb_vp c12) dX12_done_12 ?_
  refine g_rload_n hg dX12_done_13 rfl 0 rfl ?_
  refine g_dup hg dX12_done_14 rfl ?_
  refine g_getI hg fl_X12_260 ly194 rfl (idb rfl rfl hn) dX12_done_15 ?_
  refine g_iconst hg dX12_done_18 kI_1 ?_
  refine g_iadd hg dX12_done_19 ?_
  refine g_putI hg fp_X12_260 ly194 rfl (idb rfl rfl hn) dX12_done_20 ?_
  refine g_rload_n hg dX12_done_23 rfl 0 rfl ?_
  refine g_iload_n hg dX12_done_24 rfl 1 rfl ?_
  obtain ⟨M25, e25, h⟩ := Option.bind_eq_some_iff.mp h
  refine g_callVv (As := [.int x1]) (rest := []) hg (lkX12_hold (by omega) hn hRf  e25) cv_X12_263 rfl ly194 (idb rfl rfl hn) rfl rfl (Nat.le_of_ble_eq_true rfl) ⟨Nat.le_refl _, Nat.le_refl _⟩ dX12_done_25 ?_
  replace h := Option.some.inj h
  subst h
  exact g_vret hg hr dX12_done_28
theorem lkX12_weight {l0 : Launch} {E : En} {d n : Nat} {Rf : Nat → Nat → Nat} {ex : Bool} {kq : Nat × Nat} (hd : 1 ≤ d) (hn : 238 ≤ n) (hRf : RfOk 194 238 kq Rf) {x0 : Int32} {M : Mm} {q : Int32 × Mm} (h : sX12_weight x0 M = some q) : Ct l0 E yX12_weight cX12_weight 1 (some .int) d 0 0 [.int x0] ex n Rf M n Rf (some (.int q.1)) q.2 := by
  obtain ⟨d, rfl⟩ := Nat.exists_eq_add_of_le' hd
  refine Ct.of pnX12 (Nat.le_of_ble_eq_true rfl) (fun g hg hr _ => ?_)
  replace hg : Ok g l0 E cX12_weight RX12 1 (d + 1) 0 0 := hg
  show WG g E 1 n Rf ex 0 0 0 [(0, .int x0)] [] M
  unfold sX12_weight at h
  refine g_iload_n hg dX12_weight_0 rfl 0 rfl ?_
  refine g_bipush hg dX12_weight_1 kB_15 ?_
  refine g_icmp_ne (tgt := 10) hg dX12_weight_3 (by decide) (fun c => ?_) (fun c => ?_)
  · rw [if_neg c] at h
    refine g_iload_n hg dX12_weight_10 rfl 0 rfl ?_
    refine g_bipush hg dX12_weight_11 kB_14 ?_
    refine g_icmp_ne (tgt := 20) hg dX12_weight_13 (by decide) (fun c => ?_) (fun c => ?_)
    · rw [if_neg c] at h
      refine g_iload_n hg dX12_weight_20 rfl 0 rfl ?_
      refine g_bipush hg dX12_weight_21 kB_13 ?_
      refine g_icmp_ne (tgt := 30) hg dX12_weight_23 (by decide) (fun c => ?_) (fun c => ?_)
      · rw [if_neg c] at h
        refine g_iconst hg dX12_weight_30 kI_0 ?_
        replace h := Option.some.inj h
        subst h
        exact g_iret hg hr dX12_weight_31
      · rw [if_pos c] at h
        refine g_iconst hg dX12_weight_26 kI_1 ?_
        refine g_goto (tgt := 31) hg dX12_weight_27 (by decide) ?_
        replace h := Option.some.inj h
        subst h
        exact g_iret hg hr dX12_weight_31
    · rw [if_pos c] at h
      refine g_iconst hg dX12_weight_16 kI_2 ?_
      refine g_goto (tgt := 31) hg dX12_weight_17 (by decide) ?_
      replace h := Option.some.inj h
      subst h
      exact g_iret hg hr dX12_weight_31
  · rw [if_pos c] at h
    refine g_iconst hg dX12_weight_6 kI_3 ?_
    refine g_goto (tgt := 31) hg dX12_weight_7 (by decide) ?_
    replace h := Option.some.inj h
    subst h
    exact g_iret hg hr dX12_weight_31
theorem lkX12_bind_69 {g : Gm} {l0 : Launch} {E : En} {d n : Nat} {Rf : Nat → Nat → Nat} {ex : Bool} {kq : Nat × Nat} (hn : 238 ≤ n) (hRf : RfOk 194 238 kq Rf) (hg : Ok g l0 E cX12_bind RX12 3 (d + 3) 0 0) {q : Mm} (hr : Ret g E 0 0 none ex n Rf none q) {k0 : Int32 → Mm → Option (Mm)} (hk0 : ∀ (x1 : Int32) (M : Mm), k0 x1 M = some q → WG g E 3 n Rf ex 0 0 0 [(0, rr E.1 194), (1, .int x1)] [] M) : ∀ (x1 : Int32) (x2 : Int32) (M : Mm), sX12_bind_69 k0 x1 x2 M = some q → WG g E 3 n Rf ex 0 0 69 [(0, rr E.1 194), (1, .int x1), (2, .int x2)] [] M := by
  intro x1 x2 M h
  unfold sX12_bind_69 at h
  refine g_rload_n hg dX12_bind_69 rfl 0 rfl ?_
  refine g_getR (r := 216) hg fl_X12_102 ly194 rfl (idb rfl rfl hn) (rfc hRf rfl rfl rfl rfl) (by decide) dX12_bind_70 ?_
  refine g_iload_n hg dX12_bind_73 rfl 2 rfl ?_
  refine g_rload_n hg dX12_bind_74 rfl 0 rfl ?_
  obtain ⟨q75, e75, h⟩ := Option.bind_eq_some_iff.mp h
  refine g_callVi (As := []) (rest := [.int x2, rr E.1 216]) hg (lkX12_drop (by omega) hn hRf  e75) cv_X12_272 rfl ly194 (idb rfl rfl hn) rfl rfl (Nat.le_of_ble_eq_true rfl) ⟨Nat.le_refl _, Nat.le_refl _⟩ dX12_bind_75 ?_
  obtain ⟨c78, h⟩ := ck_some h
  refine g_iast hg ly216 (idb rfl rfl hn) (inb_vp c78) dX12_bind_78 ?_
  refine g_rload_n hg dX12_bind_79 rfl 0 rfl ?_
  refine g_iload_n hg dX12_bind_80 rfl 2 rfl ?_
  obtain ⟨M81, e81, h⟩ := Option.bind_eq_some_iff.mp h
  refine g_callVv (As := [.int x2]) (rest := []) hg (lkX12_done (by omega) hn hRf  e81) cv_X12_276 rfl ly194 (idb rfl rfl hn) rfl rfl (Nat.le_of_ble_eq_true rfl) ⟨Nat.le_refl _, Nat.le_refl _⟩ dX12_bind_81 ?_
  refine g_goto (tgt := 0) hg dX12_bind_84 (by decide) ?_
  refine g_sub (lv' := [(0, rr E.1 194), (1, .int x1)]) [0, 1] rfl ?_
  exact hk0 _ _ h
theorem lkX12_bind_0 {g : Gm} {l0 : Launch} {E : En} {d n : Nat} {Rf : Nat → Nat → Nat} {ex : Bool} {kq : Nat × Nat} (hn : 238 ≤ n) (hRf : RfOk 194 238 kq Rf) (hg : Ok g l0 E cX12_bind RX12 3 (d + 3) 0 0) {q : Mm} (hr : Ret g E 0 0 none ex n Rf none q) : ∀ (F : Nat) (x1 : Int32) (M : Mm), sX12_bind_0 F x1 M = some q → WG g E 3 n Rf ex 0 0 0 [(0, rr E.1 194), (1, .int x1)] [] M := by
  intro F
  induction F with
  | zero =>
    intro x1 M h
    cases h
  | succ F ih =>
    intro x1 M h
    rw [sX12_bind_0] at h
    refine g_rload_n hg dX12_bind_0 rfl 0 rfl ?_
    refine g_getI hg fl_X12_266 ly194 rfl (idb rfl rfl hn) dX12_bind_1 ?_
    refine g_if_le (tgt := 87) hg dX12_bind_4 (by decide) (fun c => ?_) (fun c => ?_)
    · replace h := itT c h
      replace h := Option.some.inj h
      subst h
      exact g_vret hg hr dX12_bind_87
    · replace h := itF c h
      refine g_rload_n hg dX12_bind_7 rfl 0 rfl ?_
      refine g_getR (r := 219) hg fl_X12_111 ly194 rfl (idb rfl rfl hn) (rfc hRf rfl rfl rfl rfl) (by decide) dX12_bind_8 ?_
      refine g_rload_n hg dX12_bind_11 rfl 0 rfl ?_
      refine g_getI hg fl_X12_266 ly194 rfl (idb rfl rfl hn) dX12_bind_12 ?_
      refine g_iconst hg dX12_bind_15 kI_1 ?_
      refine g_isub hg dX12_bind_16 ?_
      obtain ⟨c17, h⟩ := ck_some h
      refine g_iald hg ly219 (idb rfl rfl hn) (inb_vp c17) dX12_bind_17 ?_
      obtain ⟨q18, e18, h⟩ := Option.bind_eq_some_iff.mp h
      refine g_callSi (As := [.int (M.1 219 ((M.1 194 53) - 1).toNatClampNeg)]) (rest := []) hg (lkX12_weight (by omega) hn hRf  e18) cs_X12_269 rfl rfl (Nat.le_of_ble_eq_true rfl) ⟨Nat.le_refl _, Nat.le_refl _⟩ dX12_bind_18 ?_
      refine g_iload_n hg dX12_bind_21 rfl 1 rfl ?_
      refine g_icmp_lt (tgt := 87) hg dX12_bind_22 (by decide) (fun c => ?_) (fun c => ?_)
      · replace h := itT c h
        replace h := Option.some.inj h
        subst h
        exact g_vret hg hr dX12_bind_87
      · replace h := itF c h
        refine g_rload_n hg dX12_bind_25 rfl 0 rfl ?_
        refine g_dup hg dX12_bind_26 rfl ?_
        refine g_getI hg fl_X12_266 ly194 rfl (idb rfl rfl hn) dX12_bind_27 ?_
        refine g_iconst hg dX12_bind_30 kI_1 ?_
        refine g_isub hg dX12_bind_31 ?_
        refine g_putI hg fp_X12_266 ly194 rfl (idb rfl rfl hn) dX12_bind_32 ?_
        refine g_rload_n hg dX12_bind_35 rfl 0 rfl ?_
        refine g_getR (r := 220) hg fl_X12_114 ly194 rfl (idb rfl rfl hn) (rfc hRf rfl rfl rfl rfl) (by decide) dX12_bind_36 ?_
        refine g_rload_n hg dX12_bind_39 rfl 0 rfl ?_
        refine g_getI hg fl_X12_266 ly194 rfl (idb rfl rfl hn) dX12_bind_40 ?_
        obtain ⟨c43, h⟩ := ck_some h
        refine g_iald hg ly220 (idb rfl rfl hn) (inb_vp c43) dX12_bind_43 ?_
        refine g_istore_n (lv' := [(2, .int ((sI q18.2 194 53 ((q18.2.1 194 53) - 1)).1 220 ((sI q18.2 194 53 ((q18.2.1 194 53) - 1)).1 194 53).toNatClampNeg)), (0, rr E.1 194), (1, .int x1)]) hg dX12_bind_44 rfl (by decide) rfl ?_
        refine g_rload_n hg dX12_bind_45 rfl 1 rfl ?_
        refine g_getR (r := 219) hg fl_X12_111 ly194 rfl (idb rfl rfl hn) (rfc hRf rfl rfl rfl rfl) (by decide) dX12_bind_46 ?_
        refine g_rload_n hg dX12_bind_49 rfl 1 rfl ?_
        refine g_getI hg fl_X12_266 ly194 rfl (idb rfl rfl hn) dX12_bind_50 ?_
        obtain ⟨c53, h⟩ := ck_some h
        refine g_iald hg ly219 (idb rfl rfl hn) (inb_vp c53) dX12_bind_53 ?_
        refine g_bipush hg dX12_bind_54 kB_15 ?_
        refine g_icmp_eq (tgt := 69) hg dX12_bind_56 (by decide) (fun c => ?_) (fun c => ?_)
        · replace h := itT c h
          refine g_sub (lv' := [(0, rr E.1 194), (1, .int x1), (2, .int ((sI q18.2 194 53 ((q18.2.1 194 53) - 1)).1 220 ((sI q18.2 194 53 ((q18.2.1 194 53) - 1)).1 194 53).toNatClampNeg))]) [1, 2, 0] rfl ?_
          exact lkX12_bind_69 hn hRf hg hr ih _ _ _ h
        · replace h := itF c h
          refine g_rload_n hg dX12_bind_59 rfl 1 rfl ?_
          refine g_getR (r := 217) hg fl_X12_105 ly194 rfl (idb rfl rfl hn) (rfc hRf rfl rfl rfl rfl) (by decide) dX12_bind_60 ?_
          refine g_iload_n hg dX12_bind_63 rfl 0 rfl ?_
          refine g_rload_n hg dX12_bind_64 rfl 1 rfl ?_
          obtain ⟨q65, e65, h⟩ := Option.bind_eq_some_iff.mp h
          refine g_callVi (As := []) (rest := [.int ((sI q18.2 194 53 ((q18.2.1 194 53) - 1)).1 220 ((sI q18.2 194 53 ((q18.2.1 194 53) - 1)).1 194 53).toNatClampNeg), rr E.1 217]) hg (lkX12_drop (by omega) hn hRf  e65) cv_X12_272 rfl ly194 (idb rfl rfl hn) rfl rfl (Nat.le_of_ble_eq_true rfl) ⟨Nat.le_refl _, Nat.le_refl _⟩ dX12_bind_65 ?_
          obtain ⟨c68, h⟩ := ck_some h
          refine g_iast hg ly217 (idb rfl rfl hn) (inb_vp c68) dX12_bind_68 ?_
          refine g_sub (lv' := [(0, rr E.1 194), (1, .int x1), (2, .int ((sI q18.2 194 53 ((q18.2.1 194 53) - 1)).1 220 ((sI q18.2 194 53 ((q18.2.1 194 53) - 1)).1 194 53).toNatClampNeg))]) [1, 2, 0] rfl ?_
          exact lkX12_bind_69 hn hRf hg hr ih _ _ _ h
theorem lkX12_bind {l0 : Launch} {E : En} {d n : Nat} {Rf : Nat → Nat → Nat} {ex : Bool} {kq : Nat × Nat} (hd : 3 ≤ d) (hn : 238 ≤ n) (hRf : RfOk 194 238 kq Rf) {x1 : Int32} {M : Mm} {q : Mm} (h : sX12_bind x1 M = some q) : Ct l0 E yX12_bind cX12_bind 3 none d 0 0 [rr E.1 194, .int x1] ex n Rf M n Rf none q := by
  obtain ⟨d, rfl⟩ := Nat.exists_eq_add_of_le' hd
  refine Ct.of pnX12 (Nat.le_of_ble_eq_true rfl) (fun g hg hr _ => ?_)
  replace hg : Ok g l0 E cX12_bind RX12 3 (d + 3) 0 0 := hg
  show WG g E 3 n Rf ex 0 0 0 [(0, rr E.1 194), (1, .int x1)] [] M
  unfold sX12_bind at h
  exact lkX12_bind_0 hn hRf hg hr  4096 _ _ h
theorem lkX12_waitFor {l0 : Launch} {E : En} {d n : Nat} {Rf : Nat → Nat → Nat} {ex : Bool} {kq : Nat × Nat} (hd : 1 ≤ d) (hn : 238 ≤ n) (hRf : RfOk 194 238 kq Rf) {x1 : Int32} {x2 : Int32} {M : Mm} {q : Mm} (h : sX12_waitFor x1 x2 M = some q) : Ct l0 E yX12_waitFor cX12_waitFor 3 none d 0 0 [rr E.1 194, .int x1, .int x2] ex n Rf M n Rf none q := by
  obtain ⟨d, rfl⟩ := Nat.exists_eq_add_of_le' hd
  refine Ct.of pnX12 (Nat.le_of_ble_eq_true rfl) (fun g hg hr _ => ?_)
  replace hg : Ok g l0 E cX12_waitFor RX12 3 (d + 1) 0 0 := hg
  show WG g E 3 n Rf ex 0 0 0 [(0, rr E.1 194), (1, .int x1), (2, .int x2)] [] M
  unfold sX12_waitFor at h
  refine g_rload_n hg dX12_waitFor_0 rfl 0 rfl ?_
  refine g_getR (r := 219) hg fl_X12_111 ly194 rfl (idb rfl rfl hn) (rfc hRf rfl rfl rfl rfl) (by decide) dX12_waitFor_1 ?_
  refine g_rload_n hg dX12_waitFor_4 rfl 0 rfl ?_
  refine g_getI hg fl_X12_266 ly194 rfl (idb rfl rfl hn) dX12_waitFor_5 ?_
  refine g_iload_n hg dX12_waitFor_8 rfl 1 rfl ?_
  obtain ⟨c9, h⟩ := ck_some h
  refine g_iast hg ly219 (idb rfl rfl hn) (inb_vp c9) dX12_waitFor_9 ?_
  refine g_rload_n hg dX12_waitFor_10 rfl 0 rfl ?_
  refine g_getR (r := 220) hg fl_X12_114 ly194 rfl (idb rfl rfl hn) (rfc hRf rfl rfl rfl rfl) (by decide) dX12_waitFor_11 ?_
  refine g_rload_n hg dX12_waitFor_14 rfl 0 rfl ?_
  refine g_getI hg fl_X12_266 ly194 rfl (idb rfl rfl hn) dX12_waitFor_15 ?_
  refine g_iload_n hg dX12_waitFor_18 rfl 2 rfl ?_
  obtain ⟨c19, h⟩ := ck_some h
  refine g_iast hg ly220 (idb rfl rfl hn) (inb_vp c19) dX12_waitFor_19 ?_
  refine g_rload_n hg dX12_waitFor_20 rfl 0 rfl ?_
  refine g_dup hg dX12_waitFor_21 rfl ?_
  refine g_getI hg fl_X12_266 ly194 rfl (idb rfl rfl hn) dX12_waitFor_22 ?_
  refine g_iconst hg dX12_waitFor_25 kI_1 ?_
  refine g_iadd hg dX12_waitFor_26 ?_
  refine g_putI hg fp_X12_266 ly194 rfl (idb rfl rfl hn) dX12_waitFor_27 ?_
  replace h := Option.some.inj h
  subst h
  exact g_vret hg hr dX12_waitFor_30
theorem lkX12_opens {l0 : Launch} {E : En} {d n : Nat} {Rf : Nat → Nat → Nat} {ex : Bool} {kq : Nat × Nat} (hd : 4 ≤ d) (hn : 238 ≤ n) (hRf : RfOk 194 238 kq Rf) {x1 : Int32} {x2 : Int32} {M : Mm} {q : Int32 × Mm} (h : sX12_opens x1 x2 M = some q) : Ct l0 E yX12_opens cX12_opens 3 (some .boolean) d 0 0 [rr E.1 194, .int x1, .int x2] ex n Rf M n Rf (some (.int q.1)) q.2 := by
  obtain ⟨d, rfl⟩ := Nat.exists_eq_add_of_le' hd
  refine Ct.of pnX12 (Nat.le_of_ble_eq_true rfl) (fun g hg hr _ => ?_)
  replace hg : Ok g l0 E cX12_opens RX12 3 (d + 4) 0 0 := hg
  show WG g E 3 n Rf ex 0 0 0 [(0, rr E.1 194), (1, .int x1), (2, .int x2)] [] M
  unfold sX12_opens at h
  refine g_rload_n hg dX12_opens_0 rfl 0 rfl ?_
  refine g_getI hg fl_X12_279 ly194 rfl (idb rfl rfl hn) dX12_opens_1 ?_
  refine g_bipush hg dX12_opens_4 kB_8 ?_
  refine g_icmp_ne (tgt := 15) hg dX12_opens_6 (by decide) (fun c => ?_) (fun c => ?_)
  · replace h := itF c h
    refine g_rload_n hg dX12_opens_15 rfl 0 rfl ?_
    refine g_dup hg dX12_opens_16 rfl ?_
    refine g_getI hg fl_X12_279 ly194 rfl (idb rfl rfl hn) dX12_opens_17 ?_
    refine g_iconst hg dX12_opens_20 kI_1 ?_
    refine g_iadd hg dX12_opens_21 ?_
    refine g_putI hg fp_X12_279 ly194 rfl (idb rfl rfl hn) dX12_opens_22 ?_
    refine g_rload_n hg dX12_opens_25 rfl 0 rfl ?_
    refine g_iload_n hg dX12_opens_26 rfl 1 rfl ?_
    refine g_iload_n hg dX12_opens_27 rfl 2 rfl ?_
    obtain ⟨M28, e28, h⟩ := Option.bind_eq_some_iff.mp h
    refine g_callVv (As := [.int x1, .int x2]) (rest := []) hg (lkX12_waitFor (by omega) hn hRf  e28) cv_X12_282 rfl ly194 (idb rfl rfl hn) rfl rfl (Nat.le_of_ble_eq_true rfl) ⟨Nat.le_refl _, Nat.le_refl _⟩ dX12_opens_28 ?_
    refine g_rload_n hg dX12_opens_31 rfl 0 rfl ?_
    obtain ⟨M32, e32, h⟩ := Option.bind_eq_some_iff.mp h
    refine g_callVv (As := []) (rest := []) hg (lkX12_take (by omega) hn hRf  e32) cv_X12_228 rfl ly194 (idb rfl rfl hn) rfl rfl (Nat.le_of_ble_eq_true rfl) ⟨Nat.le_refl _, Nat.le_refl _⟩ dX12_opens_32 ?_
    refine g_iconst hg dX12_opens_35 kI_1 ?_
    replace h := Option.some.inj h
    subst h
    exact g_zret hg hr rfl dX12_opens_36
  · replace h := itT c h
    refine g_rload_n hg dX12_opens_9 rfl 0 rfl ?_
    refine g_iconst hg dX12_opens_10 kI_2 ?_
    obtain ⟨q11, e11, h⟩ := Option.bind_eq_some_iff.mp h
    refine g_callVi (As := [.int 2]) (rest := []) hg (lkX12_wrong (by omega) hn hRf  e11) cv_X12_222 rfl ly194 (idb rfl rfl hn) rfl rfl (Nat.le_of_ble_eq_true rfl) ⟨Nat.le_refl _, Nat.le_refl _⟩ dX12_opens_11 ?_
    obtain ⟨c14, h⟩ := ck_some h
    replace h := Option.some.inj h
    subst h
    exact g_zret hg hr (isb_nar c14) dX12_opens_14
theorem lkX12_compares_16 {g : Gm} {l0 : Launch} {E : En} {d n : Nat} {Rf : Nat → Nat → Nat} {ex : Bool} {kq : Nat × Nat} (hn : 238 ≤ n) (hRf : RfOk 194 238 kq Rf) (hg : Ok g l0 E cX12_compares RX12 2 (d + 5) 0 0) {q : Int32 × Mm} (hr : Ret g E 0 0 (some .boolean) ex n Rf (some (.int q.1)) q.2) : ∀  (M : Mm), sX12_compares_16  M = some q → WG g E 2 n Rf ex 0 0 16 [(0, rr E.1 194)] [] M := by
  intro M h
  unfold sX12_compares_16 at h
  refine g_rload_n hg dX12_compares_16 rfl 0 rfl ?_
  refine g_iconst hg dX12_compares_17 kI_1 ?_
  obtain ⟨q18, e18, h⟩ := Option.bind_eq_some_iff.mp h
  refine g_callVi (As := [.int 1]) (rest := []) hg (lkX12_wrong (by omega) hn hRf  e18) cv_X12_222 rfl ly194 (idb rfl rfl hn) rfl rfl (Nat.le_of_ble_eq_true rfl) ⟨Nat.le_refl _, Nat.le_refl _⟩ dX12_compares_18 ?_
  obtain ⟨c21, h⟩ := ck_some h
  replace h := Option.some.inj h
  subst h
  exact g_zret hg hr (isb_nar c21) dX12_compares_21
theorem lkX12_compares {l0 : Launch} {E : En} {d n : Nat} {Rf : Nat → Nat → Nat} {ex : Bool} {kq : Nat × Nat} (hd : 5 ≤ d) (hn : 238 ≤ n) (hRf : RfOk 194 238 kq Rf) {x1 : Int32} {M : Mm} {q : Int32 × Mm} (h : sX12_compares x1 M = some q) : Ct l0 E yX12_compares cX12_compares 2 (some .boolean) d 0 0 [rr E.1 194, .int x1] ex n Rf M n Rf (some (.int q.1)) q.2 := by
  obtain ⟨d, rfl⟩ := Nat.exists_eq_add_of_le' hd
  refine Ct.of pnX12 (Nat.le_of_ble_eq_true rfl) (fun g hg hr _ => ?_)
  replace hg : Ok g l0 E cX12_compares RX12 2 (d + 5) 0 0 := hg
  show WG g E 2 n Rf ex 0 0 0 [(0, rr E.1 194), (1, .int x1)] [] M
  unfold sX12_compares at h
  refine g_rload_n hg dX12_compares_0 rfl 0 rfl ?_
  refine g_getI hg fl_X12_199 ly194 rfl (idb rfl rfl hn) dX12_compares_1 ?_
  refine g_iconst hg dX12_compares_4 kI_4 ?_
  refine g_icmp_ne (tgt := 16) hg dX12_compares_5 (by decide) (fun c => ?_) (fun c => ?_)
  · replace h := itF c h
    refine g_sub (lv' := [(0, rr E.1 194)]) [0] rfl ?_
    exact lkX12_compares_16 hn hRf hg hr  _ h
  · replace h := itT c h
    refine g_rload_n hg dX12_compares_8 rfl 0 rfl ?_
    refine g_getI hg fl_X12_209 ly194 rfl (idb rfl rfl hn) dX12_compares_9 ?_
    refine g_iconst hg dX12_compares_12 kI_5 ?_
    refine g_icmp_le (tgt := 22) hg dX12_compares_13 (by decide) (fun c => ?_) (fun c => ?_)
    · replace h := itT c h
      refine g_rload_n hg dX12_compares_22 rfl 0 rfl ?_
      refine g_getR (r := 214) hg fl_X12_96 ly194 rfl (idb rfl rfl hn) (rfc hRf rfl rfl rfl rfl) (by decide) dX12_compares_23 ?_
      refine g_iload_n hg dX12_compares_26 rfl 1 rfl ?_
      refine g_rload_n hg dX12_compares_27 rfl 0 rfl ?_
      refine g_getI hg fl_X12_209 ly194 rfl (idb rfl rfl hn) dX12_compares_28 ?_
      obtain ⟨c31, h⟩ := ck_some h
      refine g_iast hg ly214 (idb rfl rfl hn) (inb_vp c31) dX12_compares_31 ?_
      refine g_rload_n hg dX12_compares_32 rfl 0 rfl ?_
      obtain ⟨M33, e33, h⟩ := Option.bind_eq_some_iff.mp h
      refine g_callVv (As := []) (rest := []) hg (lkX12_take (by omega) hn hRf  e33) cv_X12_228 rfl ly194 (idb rfl rfl hn) rfl rfl (Nat.le_of_ble_eq_true rfl) ⟨Nat.le_refl _, Nat.le_refl _⟩ dX12_compares_33 ?_
      refine g_rload_n hg dX12_compares_36 rfl 0 rfl ?_
      refine g_sipush hg dX12_compares_37 kS_999 ?_
      obtain ⟨q40, e40, h⟩ := Option.bind_eq_some_iff.mp h
      refine g_callVi (As := [.int 999]) (rest := []) hg (lkX12_number (by omega) hn hRf  e40) cv_X12_237 rfl ly194 (idb rfl rfl hn) rfl rfl (Nat.le_of_ble_eq_true rfl) ⟨Nat.le_refl _, Nat.le_refl _⟩ dX12_compares_40 ?_
      refine g_if_ne (tgt := 48) hg dX12_compares_43 (by decide) (fun c => ?_) (fun c => ?_)
      · replace h := itF c h
        refine g_rload_n hg dX12_compares_48 rfl 0 rfl ?_
        refine g_getR (r := 215) hg fl_X12_99 ly194 rfl (idb rfl rfl hn) (rfc hRf rfl rfl rfl rfl) (by decide) dX12_compares_49 ?_
        refine g_iload_n hg dX12_compares_52 rfl 1 rfl ?_
        refine g_rload_n hg dX12_compares_53 rfl 0 rfl ?_
        refine g_getI hg fl_X12_225 ly194 rfl (idb rfl rfl hn) dX12_compares_54 ?_
        obtain ⟨c57, h⟩ := ck_some h
        refine g_iast hg ly215 (idb rfl rfl hn) (inb_vp c57) dX12_compares_57 ?_
        refine g_iconst hg dX12_compares_58 kI_1 ?_
        replace h := Option.some.inj h
        subst h
        exact g_zret hg hr rfl dX12_compares_59
      · replace h := itT c h
        refine g_iconst hg dX12_compares_46 kI_0 ?_
        replace h := Option.some.inj h
        subst h
        exact g_zret hg hr rfl dX12_compares_47
    · replace h := itF c h
      refine g_sub (lv' := [(0, rr E.1 194)]) [0] rfl ?_
      exact lkX12_compares_16 hn hRf hg hr  _ h
theorem lkX12_valueRead_80 {g : Gm} {l0 : Launch} {E : En} {d n : Nat} {Rf : Nat → Nat → Nat} {ex : Bool} {kq : Nat × Nat} (hn : 238 ≤ n) (hRf : RfOk 194 238 kq Rf) (hg : Ok g l0 E cX12_valueRead RX12 4 (d + 6) 0 0) {q : Int32 × Mm} (hr : Ret g E 0 0 (some .boolean) ex n Rf (some (.int q.1)) q.2) : ∀  (M : Mm), sX12_valueRead_80  M = some q → WG g E 4 n Rf ex 0 0 80 [(0, rr E.1 194)] [] M := by
  intro M h
  unfold sX12_valueRead_80 at h
  refine g_rload_n hg dX12_valueRead_80 rfl 0 rfl ?_
  refine g_iconst hg dX12_valueRead_81 kI_1 ?_
  obtain ⟨q82, e82, h⟩ := Option.bind_eq_some_iff.mp h
  refine g_callVi (As := [.int 1]) (rest := []) hg (lkX12_wrong (by omega) hn hRf  e82) cv_X12_222 rfl ly194 (idb rfl rfl hn) rfl rfl (Nat.le_of_ble_eq_true rfl) ⟨Nat.le_refl _, Nat.le_refl _⟩ dX12_valueRead_82 ?_
  obtain ⟨c85, h⟩ := ck_some h
  replace h := Option.some.inj h
  subst h
  exact g_zret hg hr (isb_nar c85) dX12_valueRead_85
theorem lkX12_valueRead_210 {g : Gm} {l0 : Launch} {E : En} {d n : Nat} {Rf : Nat → Nat → Nat} {ex : Bool} {kq : Nat × Nat} (hn : 238 ≤ n) (hRf : RfOk 194 238 kq Rf) (hg : Ok g l0 E cX12_valueRead RX12 4 (d + 6) 0 0) {q : Int32 × Mm} (hr : Ret g E 0 0 (some .boolean) ex n Rf (some (.int q.1)) q.2) : ∀ (x3 : Int32) (s1 : Int32) (M : Mm), sX12_valueRead_210 x3 s1 M = some q → WG g E 4 n Rf ex 0 0 210 [(0, rr E.1 194), (3, .int x3)] [.int s1, rr E.1 194] M := by
  intro x3 s1 M h
  unfold sX12_valueRead_210 at h
  refine g_iload_n hg dX12_valueRead_210 rfl 1 rfl ?_
  obtain ⟨q211, e211, h⟩ := Option.bind_eq_some_iff.mp h
  refine g_callVi (As := [.int s1, .int x3]) (rest := []) hg (lkX12_opens (by omega) hn hRf  e211) cv_X12_286 rfl ly194 (idb rfl rfl hn) rfl rfl (Nat.le_of_ble_eq_true rfl) ⟨Nat.le_refl _, Nat.le_refl _⟩ dX12_valueRead_211 ?_
  refine g_if_ne (tgt := 219) hg dX12_valueRead_214 (by decide) (fun c => ?_) (fun c => ?_)
  · replace h := itF c h
    refine g_rload_n hg dX12_valueRead_219 rfl 0 rfl ?_
    refine g_iconst hg dX12_valueRead_220 kI_1 ?_
    refine g_putZ hg fp_X12_290 ly194 rfl (idb rfl rfl hn) rfl rfl dX12_valueRead_221 ?_
    refine g_iconst hg dX12_valueRead_224 kI_1 ?_
    replace h := Option.some.inj h
    subst h
    exact g_zret hg hr rfl dX12_valueRead_225
  · replace h := itT c h
    refine g_iconst hg dX12_valueRead_217 kI_0 ?_
    replace h := Option.some.inj h
    subst h
    exact g_zret hg hr rfl dX12_valueRead_218
theorem lkX12_valueRead_203 {g : Gm} {l0 : Launch} {E : En} {d n : Nat} {Rf : Nat → Nat → Nat} {ex : Bool} {kq : Nat × Nat} (hn : 238 ≤ n) (hRf : RfOk 194 238 kq Rf) (hg : Ok g l0 E cX12_valueRead RX12 4 (d + 6) 0 0) {q : Int32 × Mm} (hr : Ret g E 0 0 (some .boolean) ex n Rf (some (.int q.1)) q.2) : ∀ (x3 : Int32) (M : Mm), sX12_valueRead_203 x3 M = some q → WG g E 4 n Rf ex 0 0 203 [(0, rr E.1 194), (3, .int x3)] [rr E.1 194] M := by
  intro x3 M h
  unfold sX12_valueRead_203 at h
  refine g_bipush hg dX12_valueRead_203 kB_102 ?_
  refine g_goto (tgt := 210) hg dX12_valueRead_205 (by decide) ?_
  exact lkX12_valueRead_210 hn hRf hg hr  _ _ _ h
theorem lkX12_valueRead_175 {g : Gm} {l0 : Launch} {E : En} {d n : Nat} {Rf : Nat → Nat → Nat} {ex : Bool} {kq : Nat × Nat} (hn : 238 ≤ n) (hRf : RfOk 194 238 kq Rf) (hg : Ok g l0 E cX12_valueRead RX12 4 (d + 6) 0 0) {q : Int32 × Mm} (hr : Ret g E 0 0 (some .boolean) ex n Rf (some (.int q.1)) q.2) : ∀ (x1 : Int32) (x3 : Int32) (M : Mm), sX12_valueRead_175 x1 x3 M = some q → WG g E 4 n Rf ex 0 0 175 [(0, rr E.1 194), (1, .int x1), (3, .int x3)] [] M := by
  intro x1 x3 M h
  unfold sX12_valueRead_175 at h
  refine g_rload_n hg dX12_valueRead_175 rfl 0 rfl ?_
  refine g_bipush hg dX12_valueRead_176 kB_40 ?_
  obtain ⟨q178, e178, h⟩ := Option.bind_eq_some_iff.mp h
  refine g_callVi (As := [.int 40]) (rest := []) hg (lkX12_isSign (by omega) hn hRf  e178) cv_X12_231 rfl ly194 (idb rfl rfl hn) rfl rfl (Nat.le_of_ble_eq_true rfl) ⟨Nat.le_refl _, Nat.le_refl _⟩ dX12_valueRead_178 ?_
  refine g_if_ne (tgt := 190) hg dX12_valueRead_181 (by decide) (fun c => ?_) (fun c => ?_)
  · replace h := itF c h
    refine g_rload_n hg dX12_valueRead_190 rfl 0 rfl ?_
    refine g_iload_n hg dX12_valueRead_191 rfl 1 rfl ?_
    refine g_bipush hg dX12_valueRead_192 kB_20 ?_
    refine g_icmp_eq (tgt := 203) hg dX12_valueRead_194 (by decide) (fun c => ?_) (fun c => ?_)
    · replace h := itT c h
      refine g_sub (lv' := [(0, rr E.1 194), (3, .int x3)]) [0, 2] rfl ?_
      exact lkX12_valueRead_203 hn hRf hg hr  _ _ h
    · replace h := itF c h
      refine g_iload_n hg dX12_valueRead_197 rfl 1 rfl ?_
      refine g_bipush hg dX12_valueRead_198 kB_21 ?_
      refine g_icmp_ne (tgt := 208) hg dX12_valueRead_200 (by decide) (fun c => ?_) (fun c => ?_)
      · replace h := itF c h
        refine g_bipush hg dX12_valueRead_208 kB_101 ?_
        refine g_sub (lv' := [(0, rr E.1 194), (3, .int x3)]) [0, 2] rfl ?_
        exact lkX12_valueRead_210 hn hRf hg hr  _ _ _ h
      · replace h := itT c h
        refine g_sub (lv' := [(0, rr E.1 194), (3, .int x3)]) [0, 2] rfl ?_
        exact lkX12_valueRead_203 hn hRf hg hr  _ _ h
  · replace h := itT c h
    refine g_rload_n hg dX12_valueRead_184 rfl 0 rfl ?_
    refine g_iconst hg dX12_valueRead_185 kI_1 ?_
    obtain ⟨q186, e186, h⟩ := Option.bind_eq_some_iff.mp h
    refine g_callVi (As := [.int 1]) (rest := []) hg (lkX12_wrong (by omega) hn hRf  e186) cv_X12_222 rfl ly194 (idb rfl rfl hn) rfl rfl (Nat.le_of_ble_eq_true rfl) ⟨Nat.le_refl _, Nat.le_refl _⟩ dX12_valueRead_186 ?_
    obtain ⟨c189, h⟩ := ck_some h
    replace h := Option.some.inj h
    subst h
    exact g_zret hg hr (isb_nar c189) dX12_valueRead_189
theorem lkX12_valueRead_254 {g : Gm} {l0 : Launch} {E : En} {d n : Nat} {Rf : Nat → Nat → Nat} {ex : Bool} {kq : Nat × Nat} (hn : 238 ≤ n) (hRf : RfOk 194 238 kq Rf) (hg : Ok g l0 E cX12_valueRead RX12 4 (d + 6) 0 0) {q : Int32 × Mm} (hr : Ret g E 0 0 (some .boolean) ex n Rf (some (.int q.1)) q.2) : ∀ (x3 : Int32) (M : Mm), sX12_valueRead_254 x3 M = some q → WG g E 4 n Rf ex 0 0 254 [(0, rr E.1 194), (3, .int x3)] [] M := by
  intro x3 M h
  unfold sX12_valueRead_254 at h
  refine g_rload_n hg dX12_valueRead_254 rfl 0 rfl ?_
  refine g_iload_n hg dX12_valueRead_255 rfl 1 rfl ?_
  obtain ⟨M256, e256, h⟩ := Option.bind_eq_some_iff.mp h
  refine g_callVv (As := [.int x3]) (rest := []) hg (lkX12_done (by omega) hn hRf  e256) cv_X12_276 rfl ly194 (idb rfl rfl hn) rfl rfl (Nat.le_of_ble_eq_true rfl) ⟨Nat.le_refl _, Nat.le_refl _⟩ dX12_valueRead_256 ?_
  refine g_rload_n hg dX12_valueRead_259 rfl 0 rfl ?_
  refine g_iconst hg dX12_valueRead_260 kI_0 ?_
  refine g_putZ hg fp_X12_300 ly194 rfl (idb rfl rfl hn) rfl rfl dX12_valueRead_261 ?_
  refine g_iconst hg dX12_valueRead_264 kI_1 ?_
  replace h := Option.some.inj h
  subst h
  exact g_zret hg hr rfl dX12_valueRead_265
theorem lkX12_valueRead_244 {g : Gm} {l0 : Launch} {E : En} {d n : Nat} {Rf : Nat → Nat → Nat} {ex : Bool} {kq : Nat × Nat} (hn : 238 ≤ n) (hRf : RfOk 194 238 kq Rf) (hg : Ok g l0 E cX12_valueRead RX12 4 (d + 6) 0 0) {q : Int32 × Mm} (hr : Ret g E 0 0 (some .boolean) ex n Rf (some (.int q.1)) q.2) : ∀ (x3 : Int32) (M : Mm), sX12_valueRead_244 x3 M = some q → WG g E 4 n Rf ex 0 0 244 [(0, rr E.1 194), (3, .int x3)] [] M := by
  intro x3 M h
  unfold sX12_valueRead_244 at h
  refine g_rload_n hg dX12_valueRead_244 rfl 0 rfl ?_
  refine g_iload_n hg dX12_valueRead_245 rfl 1 rfl ?_
  obtain ⟨q246, e246, h⟩ := Option.bind_eq_some_iff.mp h
  refine g_callVi (As := [.int x3]) (rest := []) hg (lkX12_compares (by omega) hn hRf  e246) cv_X12_297 rfl ly194 (idb rfl rfl hn) rfl rfl (Nat.le_of_ble_eq_true rfl) ⟨Nat.le_refl _, Nat.le_refl _⟩ dX12_valueRead_246 ?_
  refine g_if_ne (tgt := 254) hg dX12_valueRead_249 (by decide) (fun c => ?_) (fun c => ?_)
  · replace h := itF c h
    exact lkX12_valueRead_254 hn hRf hg hr  _ _ h
  · replace h := itT c h
    refine g_iconst hg dX12_valueRead_252 kI_0 ?_
    replace h := Option.some.inj h
    subst h
    exact g_zret hg hr rfl dX12_valueRead_253
theorem lkX12_valueRead_145 {g : Gm} {l0 : Launch} {E : En} {d n : Nat} {Rf : Nat → Nat → Nat} {ex : Bool} {kq : Nat × Nat} (hn : 238 ≤ n) (hRf : RfOk 194 238 kq Rf) (hg : Ok g l0 E cX12_valueRead RX12 4 (d + 6) 0 0) {q : Int32 × Mm} (hr : Ret g E 0 0 (some .boolean) ex n Rf (some (.int q.1)) q.2) : ∀ (x1 : Int32) (x3 : Int32) (M : Mm), sX12_valueRead_145 x1 x3 M = some q → WG g E 4 n Rf ex 0 0 145 [(0, rr E.1 194), (1, .int x1), (3, .int x3)] [] M := by
  intro x1 x3 M h
  unfold sX12_valueRead_145 at h
  refine g_iload_n hg dX12_valueRead_145 rfl 1 rfl ?_
  refine g_bipush hg dX12_valueRead_146 kB_17 ?_
  refine g_icmp_eq (tgt := 175) hg dX12_valueRead_148 (by decide) (fun c => ?_) (fun c => ?_)
  · replace h := itT c h
    exact lkX12_valueRead_175 hn hRf hg hr  _ _ _ h
  · replace h := itF c h
    refine g_iload_n hg dX12_valueRead_151 rfl 1 rfl ?_
    refine g_bipush hg dX12_valueRead_152 kB_18 ?_
    refine g_icmp_eq (tgt := 175) hg dX12_valueRead_154 (by decide) (fun c => ?_) (fun c => ?_)
    · replace h := itT c h
      exact lkX12_valueRead_175 hn hRf hg hr  _ _ _ h
    · replace h := itF c h
      refine g_iload_n hg dX12_valueRead_157 rfl 1 rfl ?_
      refine g_bipush hg dX12_valueRead_158 kB_19 ?_
      refine g_icmp_eq (tgt := 175) hg dX12_valueRead_160 (by decide) (fun c => ?_) (fun c => ?_)
      · replace h := itT c h
        exact lkX12_valueRead_175 hn hRf hg hr  _ _ _ h
      · replace h := itF c h
        refine g_iload_n hg dX12_valueRead_163 rfl 1 rfl ?_
        refine g_bipush hg dX12_valueRead_164 kB_20 ?_
        refine g_icmp_eq (tgt := 175) hg dX12_valueRead_166 (by decide) (fun c => ?_) (fun c => ?_)
        · replace h := itT c h
          exact lkX12_valueRead_175 hn hRf hg hr  _ _ _ h
        · replace h := itF c h
          refine g_iload_n hg dX12_valueRead_169 rfl 1 rfl ?_
          refine g_bipush hg dX12_valueRead_170 kB_21 ?_
          refine g_icmp_ne (tgt := 226) hg dX12_valueRead_172 (by decide) (fun c => ?_) (fun c => ?_)
          · replace h := itF c h
            refine g_iload_n hg dX12_valueRead_226 rfl 1 rfl ?_
            refine g_bipush hg dX12_valueRead_227 kB_22 ?_
            refine g_icmp_eq (tgt := 244) hg dX12_valueRead_229 (by decide) (fun c => ?_) (fun c => ?_)
            · replace h := itT c h
              refine g_sub (lv' := [(0, rr E.1 194), (3, .int x3)]) [0, 2] rfl ?_
              exact lkX12_valueRead_244 hn hRf hg hr  _ _ h
            · replace h := itF c h
              refine g_iload_n hg dX12_valueRead_232 rfl 1 rfl ?_
              refine g_bipush hg dX12_valueRead_233 kB_12 ?_
              refine g_icmp_eq (tgt := 244) hg dX12_valueRead_235 (by decide) (fun c => ?_) (fun c => ?_)
              · replace h := itT c h
                refine g_sub (lv' := [(0, rr E.1 194), (3, .int x3)]) [0, 2] rfl ?_
                exact lkX12_valueRead_244 hn hRf hg hr  _ _ h
              · replace h := itF c h
                refine g_iload_n hg dX12_valueRead_238 rfl 1 rfl ?_
                refine g_bipush hg dX12_valueRead_239 kB_23 ?_
                refine g_icmp_ne (tgt := 254) hg dX12_valueRead_241 (by decide) (fun c => ?_) (fun c => ?_)
                · replace h := itF c h
                  refine g_sub (lv' := [(0, rr E.1 194), (3, .int x3)]) [0, 2] rfl ?_
                  exact lkX12_valueRead_254 hn hRf hg hr  _ _ h
                · replace h := itT c h
                  refine g_sub (lv' := [(0, rr E.1 194), (3, .int x3)]) [0, 2] rfl ?_
                  exact lkX12_valueRead_244 hn hRf hg hr  _ _ h
          · replace h := itT c h
            exact lkX12_valueRead_175 hn hRf hg hr  _ _ _ h
theorem lkX12_valueRead_86 {g : Gm} {l0 : Launch} {E : En} {d n : Nat} {Rf : Nat → Nat → Nat} {ex : Bool} {kq : Nat × Nat} (hn : 238 ≤ n) (hRf : RfOk 194 238 kq Rf) (hg : Ok g l0 E cX12_valueRead RX12 4 (d + 6) 0 0) {q : Int32 × Mm} (hr : Ret g E 0 0 (some .boolean) ex n Rf (some (.int q.1)) q.2) : ∀ (x1 : Int32) (M : Mm), sX12_valueRead_86 x1 M = some q → WG g E 4 n Rf ex 0 0 86 [(0, rr E.1 194), (1, .int x1)] [] M := by
  intro x1 M h
  unfold sX12_valueRead_86 at h
  refine g_rload_n hg dX12_valueRead_86 rfl 0 rfl ?_
  refine g_iload_n hg dX12_valueRead_87 rfl 1 rfl ?_
  obtain ⟨q88, e88, h⟩ := Option.bind_eq_some_iff.mp h
  refine g_callVi (As := [.int x1]) (rest := []) hg (lkX12_grown (by omega) hn hRf  e88) cv_X12_294 rfl ly194 (idb rfl rfl hn) rfl rfl (Nat.le_of_ble_eq_true rfl) ⟨Nat.le_refl _, Nat.le_refl _⟩ dX12_valueRead_88 ?_
  refine g_istore_n (lv' := [(3, .int q88.1), (0, rr E.1 194), (1, .int x1)]) hg dX12_valueRead_91 rfl (by decide) rfl ?_
  refine g_iload_n hg dX12_valueRead_92 rfl 0 rfl ?_
  refine g_if_ge (tgt := 98) hg dX12_valueRead_93 (by decide) (fun c => ?_) (fun c => ?_)
  · replace h := itT c h
    refine g_rload_n hg dX12_valueRead_98 rfl 1 rfl ?_
    obtain ⟨M99, e99, h⟩ := Option.bind_eq_some_iff.mp h
    refine g_callVv (As := []) (rest := []) hg (lkX12_take (by omega) hn hRf  e99) cv_X12_228 rfl ly194 (idb rfl rfl hn) rfl rfl (Nat.le_of_ble_eq_true rfl) ⟨Nat.le_refl _, Nat.le_refl _⟩ dX12_valueRead_99 ?_
    refine g_iload_n hg dX12_valueRead_102 rfl 2 rfl ?_
    refine g_bipush hg dX12_valueRead_103 kB_15 ?_
    refine g_icmp_ne (tgt := 117) hg dX12_valueRead_105 (by decide) (fun c => ?_) (fun c => ?_)
    · replace h := itF c h
      refine g_iload_n hg dX12_valueRead_117 rfl 2 rfl ?_
      refine g_bipush hg dX12_valueRead_118 kB_19 ?_
      refine g_icmp_ne (tgt := 145) hg dX12_valueRead_120 (by decide) (fun c => ?_) (fun c => ?_)
      · replace h := itF c h
        refine g_sub (lv' := [(0, rr E.1 194), (1, .int x1), (3, .int q88.1)]) [1, 2, 0] rfl ?_
        exact lkX12_valueRead_145 hn hRf hg hr  _ _ _ h
      · replace h := itT c h
        refine g_rload_n hg dX12_valueRead_123 rfl 1 rfl ?_
        refine g_sipush hg dX12_valueRead_124 kS_999 ?_
        obtain ⟨q127, e127, h⟩ := Option.bind_eq_some_iff.mp h
        refine g_callVi (As := [.int 999]) (rest := []) hg (lkX12_number (by omega) hn hRf  e127) cv_X12_237 rfl ly194 (idb rfl rfl hn) rfl rfl (Nat.le_of_ble_eq_true rfl) ⟨Nat.le_refl _, Nat.le_refl _⟩ dX12_valueRead_127 ?_
        refine g_if_ne (tgt := 135) hg dX12_valueRead_130 (by decide) (fun c => ?_) (fun c => ?_)
        · replace h := itF c h
          refine g_rload_n hg dX12_valueRead_135 rfl 1 rfl ?_
          refine g_getR (r := 215) hg fl_X12_99 ly194 rfl (idb rfl rfl hn) (rfc hRf rfl rfl rfl rfl) (by decide) dX12_valueRead_136 ?_
          refine g_iload_n hg dX12_valueRead_139 rfl 0 rfl ?_
          refine g_rload_n hg dX12_valueRead_140 rfl 1 rfl ?_
          refine g_getI hg fl_X12_225 ly194 rfl (idb rfl rfl hn) dX12_valueRead_141 ?_
          obtain ⟨c144, h⟩ := ck_some h
          refine g_iast hg ly215 (idb rfl rfl hn) (inb_vp c144) dX12_valueRead_144 ?_
          refine g_sub (lv' := [(0, rr E.1 194), (1, .int x1), (3, .int q88.1)]) [1, 2, 0] rfl ?_
          exact lkX12_valueRead_145 hn hRf hg hr  _ _ _ h
        · replace h := itT c h
          refine g_iconst hg dX12_valueRead_133 kI_0 ?_
          replace h := Option.some.inj h
          subst h
          exact g_zret hg hr rfl dX12_valueRead_134
    · replace h := itT c h
      refine g_rload_n hg dX12_valueRead_108 rfl 1 rfl ?_
      refine g_bipush hg dX12_valueRead_109 kB_15 ?_
      refine g_iload_n hg dX12_valueRead_111 rfl 0 rfl ?_
      obtain ⟨M112, e112, h⟩ := Option.bind_eq_some_iff.mp h
      refine g_callVv (As := [.int 15, .int q88.1]) (rest := []) hg (lkX12_waitFor (by omega) hn hRf  e112) cv_X12_282 rfl ly194 (idb rfl rfl hn) rfl rfl (Nat.le_of_ble_eq_true rfl) ⟨Nat.le_refl _, Nat.le_refl _⟩ dX12_valueRead_112 ?_
      refine g_iconst hg dX12_valueRead_115 kI_1 ?_
      replace h := Option.some.inj h
      subst h
      exact g_zret hg hr rfl dX12_valueRead_116
  · replace h := itF c h
    refine g_iconst hg dX12_valueRead_96 kI_0 ?_
    replace h := Option.some.inj h
    subst h
    exact g_zret hg hr rfl dX12_valueRead_97
theorem lkX12_valueRead_53 {g : Gm} {l0 : Launch} {E : En} {d n : Nat} {Rf : Nat → Nat → Nat} {ex : Bool} {kq : Nat × Nat} (hn : 238 ≤ n) (hRf : RfOk 194 238 kq Rf) (hg : Ok g l0 E cX12_valueRead RX12 4 (d + 6) 0 0) {q : Int32 × Mm} (hr : Ret g E 0 0 (some .boolean) ex n Rf (some (.int q.1)) q.2) : ∀ (x1 : Int32) (s0 : Int32) (M : Mm), sX12_valueRead_53 x1 s0 M = some q → WG g E 4 n Rf ex 0 0 53 [(0, rr E.1 194), (1, .int x1)] [.int s0] M := by
  intro x1 s0 M h
  unfold sX12_valueRead_53 at h
  refine g_istore_n (lv' := [(2, .int s0), (0, rr E.1 194), (1, .int x1)]) hg dX12_valueRead_53 rfl (by decide) rfl ?_
  refine g_iload_n hg dX12_valueRead_54 rfl 2 rfl ?_
  refine g_bipush hg dX12_valueRead_55 kB_13 ?_
  refine g_icmp_eq (tgt := 80) hg dX12_valueRead_57 (by decide) (fun c => ?_) (fun c => ?_)
  · replace h := itT c h
    refine g_sub (lv' := [(0, rr E.1 194)]) [1] rfl ?_
    exact lkX12_valueRead_80 hn hRf hg hr  _ h
  · replace h := itF c h
    refine g_iload_n hg dX12_valueRead_60 rfl 2 rfl ?_
    refine g_bipush hg dX12_valueRead_61 kB_14 ?_
    refine g_icmp_eq (tgt := 80) hg dX12_valueRead_63 (by decide) (fun c => ?_) (fun c => ?_)
    · replace h := itT c h
      refine g_sub (lv' := [(0, rr E.1 194)]) [1] rfl ?_
      exact lkX12_valueRead_80 hn hRf hg hr  _ h
    · replace h := itF c h
      refine g_iload_n hg dX12_valueRead_66 rfl 2 rfl ?_
      refine g_bipush hg dX12_valueRead_67 kB_15 ?_
      refine g_icmp_eq (tgt := 86) hg dX12_valueRead_69 (by decide) (fun c => ?_) (fun c => ?_)
      · replace h := itT c h
        refine g_sub (lv' := [(0, rr E.1 194), (1, .int x1)]) [1, 2] rfl ?_
        exact lkX12_valueRead_86 hn hRf hg hr  _ _ h
      · replace h := itF c h
        refine g_iload_n hg dX12_valueRead_72 rfl 0 rfl ?_
        refine g_rload_n hg dX12_valueRead_73 rfl 1 rfl ?_
        refine g_getI hg fl_X12_290 ly194 rfl (idb rfl rfl hn) dX12_valueRead_74 ?_
        refine g_icmp_eq (tgt := 86) hg dX12_valueRead_77 (by decide) (fun c => ?_) (fun c => ?_)
        · replace h := itT c h
          refine g_sub (lv' := [(0, rr E.1 194), (1, .int x1)]) [1, 2] rfl ?_
          exact lkX12_valueRead_86 hn hRf hg hr  _ _ h
        · replace h := itF c h
          refine g_sub (lv' := [(0, rr E.1 194)]) [1] rfl ?_
          exact lkX12_valueRead_80 hn hRf hg hr  _ h
theorem lkX12_valueRead_48 {g : Gm} {l0 : Launch} {E : En} {d n : Nat} {Rf : Nat → Nat → Nat} {ex : Bool} {kq : Nat × Nat} (hn : 238 ≤ n) (hRf : RfOk 194 238 kq Rf) (hg : Ok g l0 E cX12_valueRead RX12 4 (d + 6) 0 0) {q : Int32 × Mm} (hr : Ret g E 0 0 (some .boolean) ex n Rf (some (.int q.1)) q.2) : ∀ (x1 : Int32) (M : Mm), sX12_valueRead_48 x1 M = some q → WG g E 4 n Rf ex 0 0 48 [(0, rr E.1 194), (1, .int x1)] [] M := by
  intro x1 M h
  unfold sX12_valueRead_48 at h
  refine g_iconst hg dX12_valueRead_48 kI_1 ?_
  refine g_goto (tgt := 53) hg dX12_valueRead_49 (by decide) ?_
  exact lkX12_valueRead_53 hn hRf hg hr  _ _ _ h
theorem lkX12_valueRead {l0 : Launch} {E : En} {d n : Nat} {Rf : Nat → Nat → Nat} {ex : Bool} {kq : Nat × Nat} (hd : 6 ≤ d) (hn : 238 ≤ n) (hRf : RfOk 194 238 kq Rf)  {M : Mm} {q : Int32 × Mm} (h : sX12_valueRead M = some q) : Ct l0 E yX12_valueRead cX12_valueRead 4 (some .boolean) d 0 0 [rr E.1 194] ex n Rf M n Rf (some (.int q.1)) q.2 := by
  obtain ⟨d, rfl⟩ := Nat.exists_eq_add_of_le' hd
  refine Ct.of pnX12 (Nat.le_of_ble_eq_true rfl) (fun g hg hr _ => ?_)
  replace hg : Ok g l0 E cX12_valueRead RX12 4 (d + 6) 0 0 := hg
  show WG g E 4 n Rf ex 0 0 0 [(0, rr E.1 194)] [] M
  unfold sX12_valueRead at h
  refine g_rload_n hg dX12_valueRead_0 rfl 0 rfl ?_
  refine g_bipush hg dX12_valueRead_1 kB_40 ?_
  obtain ⟨q3, e3, h⟩ := Option.bind_eq_some_iff.mp h
  refine g_callVi (As := [.int 40]) (rest := []) hg (lkX12_isSign (by omega) hn hRf  e3) cv_X12_231 rfl ly194 (idb rfl rfl hn) rfl rfl (Nat.le_of_ble_eq_true rfl) ⟨Nat.le_refl _, Nat.le_refl _⟩ dX12_valueRead_3 ?_
  refine g_if_eq (tgt := 17) hg dX12_valueRead_6 (by decide) (fun c => ?_) (fun c => ?_)
  · replace h := itT c h
    refine g_rload_n hg dX12_valueRead_17 rfl 0 rfl ?_
    refine g_getI hg fl_X12_199 ly194 rfl (idb rfl rfl hn) dX12_valueRead_18 ?_
    refine g_iconst hg dX12_valueRead_21 kI_1 ?_
    refine g_icmp_eq (tgt := 31) hg dX12_valueRead_22 (by decide) (fun c => ?_) (fun c => ?_)
    · replace h := itT c h
      refine g_rload_n hg dX12_valueRead_31 rfl 0 rfl ?_
      refine g_getI hg fl_X12_209 ly194 rfl (idb rfl rfl hn) dX12_valueRead_32 ?_
      refine g_istore_n (lv' := [(1, .int (q3.2.1 194 22)), (0, rr E.1 194)]) hg dX12_valueRead_35 rfl (by decide) rfl ?_
      refine g_iload_n hg dX12_valueRead_36 rfl 0 rfl ?_
      refine g_bipush hg dX12_valueRead_37 kB_12 ?_
      refine g_icmp_le (tgt := 48) hg dX12_valueRead_39 (by decide) (fun c => ?_) (fun c => ?_)
      · replace h := itT c h
        refine g_sub (lv' := [(0, rr E.1 194), (1, .int (q3.2.1 194 22))]) [1, 0] rfl ?_
        exact lkX12_valueRead_48 hn hRf hg hr  _ _ h
      · replace h := itF c h
        refine g_iload_n hg dX12_valueRead_42 rfl 0 rfl ?_
        refine g_bipush hg dX12_valueRead_43 kB_23 ?_
        refine g_icmp_ne (tgt := 52) hg dX12_valueRead_45 (by decide) (fun c => ?_) (fun c => ?_)
        · replace h := itF c h
          refine g_iconst hg dX12_valueRead_52 kI_0 ?_
          refine g_sub (lv' := [(0, rr E.1 194), (1, .int (q3.2.1 194 22))]) [1, 0] rfl ?_
          exact lkX12_valueRead_53 hn hRf hg hr  _ _ _ h
        · replace h := itT c h
          refine g_sub (lv' := [(0, rr E.1 194), (1, .int (q3.2.1 194 22))]) [1, 0] rfl ?_
          exact lkX12_valueRead_48 hn hRf hg hr  _ _ h
    · replace h := itF c h
      refine g_rload_n hg dX12_valueRead_25 rfl 0 rfl ?_
      refine g_iconst hg dX12_valueRead_26 kI_1 ?_
      obtain ⟨q27, e27, h⟩ := Option.bind_eq_some_iff.mp h
      refine g_callVi (As := [.int 1]) (rest := []) hg (lkX12_wrong (by omega) hn hRf  e27) cv_X12_222 rfl ly194 (idb rfl rfl hn) rfl rfl (Nat.le_of_ble_eq_true rfl) ⟨Nat.le_refl _, Nat.le_refl _⟩ dX12_valueRead_27 ?_
      obtain ⟨c30, h⟩ := ck_some h
      replace h := Option.some.inj h
      subst h
      exact g_zret hg hr (isb_nar c30) dX12_valueRead_30
  · replace h := itF c h
    refine g_rload_n hg dX12_valueRead_9 rfl 0 rfl ?_
    refine g_bipush hg dX12_valueRead_10 kB_100 ?_
    refine g_iconst hg dX12_valueRead_12 kI_m1 ?_
    obtain ⟨q13, e13, h⟩ := Option.bind_eq_some_iff.mp h
    refine g_callVi (As := [.int 100, .int (-1)]) (rest := []) hg (lkX12_opens (by omega) hn hRf  e13) cv_X12_286 rfl ly194 (idb rfl rfl hn) rfl rfl (Nat.le_of_ble_eq_true rfl) ⟨Nat.le_refl _, Nat.le_refl _⟩ dX12_valueRead_13 ?_
    obtain ⟨c16, h⟩ := ck_some h
    replace h := Option.some.inj h
    subst h
    exact g_zret hg hr (isb_nar c16) dX12_valueRead_16
theorem lkX12_closes_88 {g : Gm} {l0 : Launch} {E : En} {d n : Nat} {Rf : Nat → Nat → Nat} {ex : Bool} {kq : Nat × Nat} (hn : 238 ≤ n) (hRf : RfOk 194 238 kq Rf) (hg : Ok g l0 E cX12_closes RX12 3 (d + 6) 0 0) {q : Int32 × Mm} (hr : Ret g E 0 0 (some .boolean) ex n Rf (some (.int q.1)) q.2) : ∀ (x2 : Int32) (M : Mm), sX12_closes_88 x2 M = some q → WG g E 3 n Rf ex 0 0 88 [(0, rr E.1 194), (2, .int x2)] [] M := by
  intro x2 M h
  unfold sX12_closes_88 at h
  refine g_rload_n hg dX12_closes_88 rfl 0 rfl ?_
  refine g_iload_n hg dX12_closes_89 rfl 1 rfl ?_
  obtain ⟨M90, e90, h⟩ := Option.bind_eq_some_iff.mp h
  refine g_callVv (As := [.int x2]) (rest := []) hg (lkX12_done (by omega) hn hRf  e90) cv_X12_276 rfl ly194 (idb rfl rfl hn) rfl rfl (Nat.le_of_ble_eq_true rfl) ⟨Nat.le_refl _, Nat.le_refl _⟩ dX12_closes_90 ?_
  refine g_iconst hg dX12_closes_93 kI_1 ?_
  replace h := Option.some.inj h
  subst h
  exact g_zret hg hr rfl dX12_closes_94
theorem lkX12_closes {l0 : Launch} {E : En} {d n : Nat} {Rf : Nat → Nat → Nat} {ex : Bool} {kq : Nat × Nat} (hd : 6 ≤ d) (hn : 238 ≤ n) (hRf : RfOk 194 238 kq Rf)  {M : Mm} {q : Int32 × Mm} (h : sX12_closes M = some q) : Ct l0 E yX12_closes cX12_closes 3 (some .boolean) d 0 0 [rr E.1 194] ex n Rf M n Rf (some (.int q.1)) q.2 := by
  obtain ⟨d, rfl⟩ := Nat.exists_eq_add_of_le' hd
  refine Ct.of pnX12 (Nat.le_of_ble_eq_true rfl) (fun g hg hr _ => ?_)
  replace hg : Ok g l0 E cX12_closes RX12 3 (d + 6) 0 0 := hg
  show WG g E 3 n Rf ex 0 0 0 [(0, rr E.1 194)] [] M
  unfold sX12_closes at h
  refine g_rload_n hg dX12_closes_0 rfl 0 rfl ?_
  refine g_iconst hg dX12_closes_1 kI_1 ?_
  obtain ⟨M2, e2, h⟩ := Option.bind_eq_some_iff.mp h
  refine g_callVv (As := [.int 1]) (rest := []) hg (lkX12_bind (by omega) hn hRf  e2) cv_X12_303 rfl ly194 (idb rfl rfl hn) rfl rfl (Nat.le_of_ble_eq_true rfl) ⟨Nat.le_refl _, Nat.le_refl _⟩ dX12_closes_2 ?_
  refine g_rload_n hg dX12_closes_5 rfl 0 rfl ?_
  refine g_dup hg dX12_closes_6 rfl ?_
  refine g_getI hg fl_X12_266 ly194 rfl (idb rfl rfl hn) dX12_closes_7 ?_
  refine g_iconst hg dX12_closes_10 kI_1 ?_
  refine g_isub hg dX12_closes_11 ?_
  refine g_putI hg fp_X12_266 ly194 rfl (idb rfl rfl hn) dX12_closes_12 ?_
  refine g_rload_n hg dX12_closes_15 rfl 0 rfl ?_
  refine g_dup hg dX12_closes_16 rfl ?_
  refine g_getI hg fl_X12_279 ly194 rfl (idb rfl rfl hn) dX12_closes_17 ?_
  refine g_iconst hg dX12_closes_20 kI_1 ?_
  refine g_isub hg dX12_closes_21 ?_
  refine g_putI hg fp_X12_279 ly194 rfl (idb rfl rfl hn) dX12_closes_22 ?_
  refine g_rload_n hg dX12_closes_25 rfl 0 rfl ?_
  refine g_getR (r := 219) hg fl_X12_111 ly194 rfl (idb rfl rfl hn) (rfc hRf rfl rfl rfl rfl) (by decide) dX12_closes_26 ?_
  refine g_rload_n hg dX12_closes_29 rfl 0 rfl ?_
  refine g_getI hg fl_X12_266 ly194 rfl (idb rfl rfl hn) dX12_closes_30 ?_
  obtain ⟨c33, h⟩ := ck_some h
  refine g_iald hg ly219 (idb rfl rfl hn) (inb_vp c33) dX12_closes_33 ?_
  refine g_istore_n (lv' := [(1, .int ((sI (sI M2 194 53 ((M2.1 194 53) - 1)) 194 56 (((sI M2 194 53 ((M2.1 194 53) - 1)).1 194 56) - 1)).1 219 ((sI (sI M2 194 53 ((M2.1 194 53) - 1)) 194 56 (((sI M2 194 53 ((M2.1 194 53) - 1)).1 194 56) - 1)).1 194 53).toNatClampNeg)), (0, rr E.1 194)]) hg dX12_closes_34 rfl (by decide) rfl ?_
  refine g_rload_n hg dX12_closes_35 rfl 1 rfl ?_
  refine g_getR (r := 220) hg fl_X12_114 ly194 rfl (idb rfl rfl hn) (rfc hRf rfl rfl rfl rfl) (by decide) dX12_closes_36 ?_
  refine g_rload_n hg dX12_closes_39 rfl 1 rfl ?_
  refine g_getI hg fl_X12_266 ly194 rfl (idb rfl rfl hn) dX12_closes_40 ?_
  obtain ⟨c43, h⟩ := ck_some h
  refine g_iald hg ly220 (idb rfl rfl hn) (inb_vp c43) dX12_closes_43 ?_
  refine g_istore_n (lv' := [(2, .int ((sI (sI M2 194 53 ((M2.1 194 53) - 1)) 194 56 (((sI M2 194 53 ((M2.1 194 53) - 1)).1 194 56) - 1)).1 220 ((sI (sI M2 194 53 ((M2.1 194 53) - 1)) 194 56 (((sI M2 194 53 ((M2.1 194 53) - 1)).1 194 56) - 1)).1 194 53).toNatClampNeg)), (1, .int ((sI (sI M2 194 53 ((M2.1 194 53) - 1)) 194 56 (((sI M2 194 53 ((M2.1 194 53) - 1)).1 194 56) - 1)).1 219 ((sI (sI M2 194 53 ((M2.1 194 53) - 1)) 194 56 (((sI M2 194 53 ((M2.1 194 53) - 1)).1 194 56) - 1)).1 194 53).toNatClampNeg)), (0, rr E.1 194)]) hg dX12_closes_44 rfl (by decide) rfl ?_
  refine g_rload_n hg dX12_closes_45 rfl 2 rfl ?_
  obtain ⟨M46, e46, h⟩ := Option.bind_eq_some_iff.mp h
  refine g_callVv (As := []) (rest := []) hg (lkX12_take (by omega) hn hRf  e46) cv_X12_228 rfl ly194 (idb rfl rfl hn) rfl rfl (Nat.le_of_ble_eq_true rfl) ⟨Nat.le_refl _, Nat.le_refl _⟩ dX12_closes_46 ?_
  refine g_iload_n hg dX12_closes_49 rfl 1 rfl ?_
  refine g_bipush hg dX12_closes_50 kB_100 ?_
  refine g_icmp_ne (tgt := 57) hg dX12_closes_52 (by decide) (fun c => ?_) (fun c => ?_)
  · replace h := itF c h
    refine g_rload_n hg dX12_closes_57 rfl 2 rfl ?_
    refine g_getR (r := 216) hg fl_X12_102 ly194 rfl (idb rfl rfl hn) (rfc hRf rfl rfl rfl rfl) (by decide) dX12_closes_58 ?_
    refine g_iload_n hg dX12_closes_61 rfl 0 rfl ?_
    refine g_rload_n hg dX12_closes_62 rfl 2 rfl ?_
    obtain ⟨q63, e63, h⟩ := Option.bind_eq_some_iff.mp h
    refine g_callVi (As := []) (rest := [.int ((sI (sI M2 194 53 ((M2.1 194 53) - 1)) 194 56 (((sI M2 194 53 ((M2.1 194 53) - 1)).1 194 56) - 1)).1 220 ((sI (sI M2 194 53 ((M2.1 194 53) - 1)) 194 56 (((sI M2 194 53 ((M2.1 194 53) - 1)).1 194 56) - 1)).1 194 53).toNatClampNeg), rr E.1 216]) hg (lkX12_drop (by omega) hn hRf  e63) cv_X12_272 rfl ly194 (idb rfl rfl hn) rfl rfl (Nat.le_of_ble_eq_true rfl) ⟨Nat.le_refl _, Nat.le_refl _⟩ dX12_closes_63 ?_
    obtain ⟨c66, h⟩ := ck_some h
    refine g_iast hg ly216 (idb rfl rfl hn) (inb_vp c66) dX12_closes_66 ?_
    refine g_rload_n hg dX12_closes_67 rfl 2 rfl ?_
    refine g_iconst hg dX12_closes_68 kI_0 ?_
    refine g_putZ hg fp_X12_290 ly194 rfl (idb rfl rfl hn) rfl rfl dX12_closes_69 ?_
    refine g_iload_n hg dX12_closes_72 rfl 1 rfl ?_
    refine g_bipush hg dX12_closes_73 kB_102 ?_
    refine g_icmp_ne (tgt := 88) hg dX12_closes_75 (by decide) (fun c => ?_) (fun c => ?_)
    · replace h := itF c h
      refine g_sub (lv' := [(0, rr E.1 194), (2, .int ((sI (sI M2 194 53 ((M2.1 194 53) - 1)) 194 56 (((sI M2 194 53 ((M2.1 194 53) - 1)).1 194 56) - 1)).1 220 ((sI (sI M2 194 53 ((M2.1 194 53) - 1)) 194 56 (((sI M2 194 53 ((M2.1 194 53) - 1)).1 194 56) - 1)).1 194 53).toNatClampNeg))]) [2, 0] rfl ?_
      exact lkX12_closes_88 hn hRf hg hr  _ _ h
    · replace h := itT c h
      refine g_rload_n hg dX12_closes_78 rfl 2 rfl ?_
      refine g_iload_n hg dX12_closes_79 rfl 0 rfl ?_
      obtain ⟨q80, e80, h⟩ := Option.bind_eq_some_iff.mp h
      refine g_callVi (As := [.int ((sI (sI M2 194 53 ((M2.1 194 53) - 1)) 194 56 (((sI M2 194 53 ((M2.1 194 53) - 1)).1 194 56) - 1)).1 220 ((sI (sI M2 194 53 ((M2.1 194 53) - 1)) 194 56 (((sI M2 194 53 ((M2.1 194 53) - 1)).1 194 56) - 1)).1 194 53).toNatClampNeg)]) (rest := []) hg (lkX12_compares (by omega) hn hRf  e80) cv_X12_297 rfl ly194 (idb rfl rfl hn) rfl rfl (Nat.le_of_ble_eq_true rfl) ⟨Nat.le_refl _, Nat.le_refl _⟩ dX12_closes_80 ?_
      refine g_if_ne (tgt := 88) hg dX12_closes_83 (by decide) (fun c => ?_) (fun c => ?_)
      · replace h := itF c h
        refine g_sub (lv' := [(0, rr E.1 194), (2, .int ((sI (sI M2 194 53 ((M2.1 194 53) - 1)) 194 56 (((sI M2 194 53 ((M2.1 194 53) - 1)).1 194 56) - 1)).1 220 ((sI (sI M2 194 53 ((M2.1 194 53) - 1)) 194 56 (((sI M2 194 53 ((M2.1 194 53) - 1)).1 194 56) - 1)).1 194 53).toNatClampNeg))]) [2, 0] rfl ?_
        exact lkX12_closes_88 hn hRf hg hr  _ _ h
      · replace h := itT c h
        refine g_iconst hg dX12_closes_86 kI_0 ?_
        replace h := Option.some.inj h
        subst h
        exact g_zret hg hr rfl dX12_closes_87
  · replace h := itT c h
    refine g_iconst hg dX12_closes_55 kI_1 ?_
    replace h := Option.some.inj h
    subst h
    exact g_zret hg hr rfl dX12_closes_56
theorem lkX12_joins {l0 : Launch} {E : En} {d n : Nat} {Rf : Nat → Nat → Nat} {ex : Bool} {kq : Nat × Nat} (hd : 4 ≤ d) (hn : 238 ≤ n) (hRf : RfOk 194 238 kq Rf) {x1 : Int32} {M : Mm} {q : Int32 × Mm} (h : sX12_joins x1 M = some q) : Ct l0 E yX12_joins cX12_joins 3 (some .boolean) d 0 0 [rr E.1 194, .int x1] ex n Rf M n Rf (some (.int q.1)) q.2 := by
  obtain ⟨d, rfl⟩ := Nat.exists_eq_add_of_le' hd
  refine Ct.of pnX12 (Nat.le_of_ble_eq_true rfl) (fun g hg hr _ => ?_)
  replace hg : Ok g l0 E cX12_joins RX12 3 (d + 4) 0 0 := hg
  show WG g E 3 n Rf ex 0 0 0 [(0, rr E.1 194), (1, .int x1)] [] M
  unfold sX12_joins at h
  refine g_rload_n hg dX12_joins_0 rfl 0 rfl ?_
  refine g_iload_n hg dX12_joins_1 rfl 1 rfl ?_
  obtain ⟨q2, e2, h⟩ := Option.bind_eq_some_iff.mp h
  refine g_callVi (As := [.int x1]) (rest := []) hg (lkX12_grown (by omega) hn hRf  e2) cv_X12_294 rfl ly194 (idb rfl rfl hn) rfl rfl (Nat.le_of_ble_eq_true rfl) ⟨Nat.le_refl _, Nat.le_refl _⟩ dX12_joins_2 ?_
  refine g_istore_n (lv' := [(2, .int q2.1), (0, rr E.1 194), (1, .int x1)]) hg dX12_joins_5 rfl (by decide) rfl ?_
  refine g_iload_n hg dX12_joins_6 rfl 0 rfl ?_
  refine g_if_ge (tgt := 12) hg dX12_joins_7 (by decide) (fun c => ?_) (fun c => ?_)
  · replace h := itT c h
    refine g_rload_n hg dX12_joins_12 rfl 1 rfl ?_
    refine g_iload_n hg dX12_joins_13 rfl 2 rfl ?_
    obtain ⟨q14, e14, h⟩ := Option.bind_eq_some_iff.mp h
    refine g_callSi (As := [.int x1]) (rest := [rr E.1 194]) hg (lkX12_weight (by omega) hn hRf  e14) cs_X12_269 rfl rfl (Nat.le_of_ble_eq_true rfl) ⟨Nat.le_refl _, Nat.le_refl _⟩ dX12_joins_14 ?_
    obtain ⟨M17, e17, h⟩ := Option.bind_eq_some_iff.mp h
    refine g_callVv (As := [.int q14.1]) (rest := []) hg (lkX12_bind (by omega) hn hRf  e17) cv_X12_303 rfl ly194 (idb rfl rfl hn) rfl rfl (Nat.le_of_ble_eq_true rfl) ⟨Nat.le_refl _, Nat.le_refl _⟩ dX12_joins_17 ?_
    refine g_rload_n hg dX12_joins_20 rfl 1 rfl ?_
    refine g_iload_n hg dX12_joins_21 rfl 2 rfl ?_
    refine g_iload_n hg dX12_joins_22 rfl 0 rfl ?_
    obtain ⟨M23, e23, h⟩ := Option.bind_eq_some_iff.mp h
    refine g_callVv (As := [.int x1, .int q2.1]) (rest := []) hg (lkX12_waitFor (by omega) hn hRf  e23) cv_X12_282 rfl ly194 (idb rfl rfl hn) rfl rfl (Nat.le_of_ble_eq_true rfl) ⟨Nat.le_refl _, Nat.le_refl _⟩ dX12_joins_23 ?_
    refine g_rload_n hg dX12_joins_26 rfl 1 rfl ?_
    refine g_iconst hg dX12_joins_27 kI_1 ?_
    refine g_putZ hg fp_X12_300 ly194 rfl (idb rfl rfl hn) rfl rfl dX12_joins_28 ?_
    refine g_rload_n hg dX12_joins_31 rfl 1 rfl ?_
    obtain ⟨M32, e32, h⟩ := Option.bind_eq_some_iff.mp h
    refine g_callVv (As := []) (rest := []) hg (lkX12_take (by omega) hn hRf  e32) cv_X12_228 rfl ly194 (idb rfl rfl hn) rfl rfl (Nat.le_of_ble_eq_true rfl) ⟨Nat.le_refl _, Nat.le_refl _⟩ dX12_joins_32 ?_
    refine g_iconst hg dX12_joins_35 kI_1 ?_
    replace h := Option.some.inj h
    subst h
    exact g_zret hg hr rfl dX12_joins_36
  · replace h := itF c h
    refine g_iconst hg dX12_joins_10 kI_0 ?_
    replace h := Option.some.inj h
    subst h
    exact g_zret hg hr rfl dX12_joins_11
theorem lkX12_expression_111 {g : Gm} {l0 : Launch} {E : En} {d n : Nat} {Rf : Nat → Nat → Nat} {ex : Bool} {kq : Nat × Nat} (hn : 238 ≤ n) (hRf : RfOk 194 238 kq Rf) (hg : Ok g l0 E cX12_expression RX12 2 (d + 7) 0 0) {q : Int32 × Mm} (hr : Ret g E 0 0 (some .boolean) ex n Rf (some (.int q.1)) q.2) {k25 : Mm → Option (Int32 × Mm)} (hk25 : ∀  (M : Mm), k25  M = some q → WG g E 2 n Rf ex 0 0 25 [(0, rr E.1 194)] [] M) : ∀ (x1 : Int32) (M : Mm), sX12_expression_111 k25 x1 M = some q → WG g E 2 n Rf ex 0 0 111 [(0, rr E.1 194), (1, .int x1)] [] M := by
  intro x1 M h
  unfold sX12_expression_111 at h
  refine g_iload_n hg dX12_expression_111 rfl 1 rfl ?_
  refine g_if_ne (tgt := 117) hg dX12_expression_112 (by decide) (fun c => ?_) (fun c => ?_)
  · replace h := itF c h
    refine g_goto (tgt := 25) hg dX12_expression_117 (by decide) ?_
    refine g_sub (lv' := [(0, rr E.1 194)]) [0] rfl ?_
    exact hk25 _ h
  · replace h := itT c h
    refine g_iconst hg dX12_expression_115 kI_0 ?_
    replace h := Option.some.inj h
    subst h
    exact g_zret hg hr rfl dX12_expression_116
theorem lkX12_expression_60 {g : Gm} {l0 : Launch} {E : En} {d n : Nat} {Rf : Nat → Nat → Nat} {ex : Bool} {kq : Nat × Nat} (hn : 238 ≤ n) (hRf : RfOk 194 238 kq Rf) (hg : Ok g l0 E cX12_expression RX12 2 (d + 7) 0 0) {q : Int32 × Mm} (hr : Ret g E 0 0 (some .boolean) ex n Rf (some (.int q.1)) q.2) {k25 : Mm → Option (Int32 × Mm)} (hk25 : ∀  (M : Mm), k25  M = some q → WG g E 2 n Rf ex 0 0 25 [(0, rr E.1 194)] [] M) : ∀  (M : Mm), sX12_expression_60 k25  M = some q → WG g E 2 n Rf ex 0 0 60 [(0, rr E.1 194)] [] M := by
  intro M h
  unfold sX12_expression_60 at h
  refine g_rload_n hg dX12_expression_60 rfl 0 rfl ?_
  refine g_rload_n hg dX12_expression_61 rfl 0 rfl ?_
  refine g_getI hg fl_X12_209 ly194 rfl (idb rfl rfl hn) dX12_expression_62 ?_
  obtain ⟨q65, e65, h⟩ := Option.bind_eq_some_iff.mp h
  refine g_callVi (As := [.int (M.1 194 22)]) (rest := []) hg (lkX12_joins (by omega) hn hRf  e65) cv_X12_309 rfl ly194 (idb rfl rfl hn) rfl rfl (Nat.le_of_ble_eq_true rfl) ⟨Nat.le_refl _, Nat.le_refl _⟩ dX12_expression_65 ?_
  refine g_istore_n (lv' := [(1, .int q65.1), (0, rr E.1 194)]) hg dX12_expression_68 rfl (by decide) rfl ?_
  refine g_goto (tgt := 111) hg dX12_expression_69 (by decide) ?_
  refine g_sub (lv' := [(0, rr E.1 194), (1, .int q65.1)]) [1, 0] rfl ?_
  exact lkX12_expression_111 hn hRf hg hr hk25 _ _ h
theorem lkX12_expression_100 {g : Gm} {l0 : Launch} {E : En} {d n : Nat} {Rf : Nat → Nat → Nat} {ex : Bool} {kq : Nat × Nat} (hn : 238 ≤ n) (hRf : RfOk 194 238 kq Rf) (hg : Ok g l0 E cX12_expression RX12 2 (d + 7) 0 0) {q : Int32 × Mm} (hr : Ret g E 0 0 (some .boolean) ex n Rf (some (.int q.1)) q.2) {k25 : Mm → Option (Int32 × Mm)} (hk25 : ∀  (M : Mm), k25  M = some q → WG g E 2 n Rf ex 0 0 25 [(0, rr E.1 194)] [] M) : ∀ (s0 : Int32) (M : Mm), sX12_expression_100 k25 s0 M = some q → WG g E 2 n Rf ex 0 0 100 [(0, rr E.1 194)] [.int s0] M := by
  intro s0 M h
  unfold sX12_expression_100 at h
  refine g_istore_n (lv' := [(1, .int s0), (0, rr E.1 194)]) hg dX12_expression_100 rfl (by decide) rfl ?_
  refine g_goto (tgt := 111) hg dX12_expression_101 (by decide) ?_
  refine g_sub (lv' := [(0, rr E.1 194), (1, .int s0)]) [1, 0] rfl ?_
  exact lkX12_expression_111 hn hRf hg hr hk25 _ _ h
theorem lkX12_expression_25 {g : Gm} {l0 : Launch} {E : En} {d n : Nat} {Rf : Nat → Nat → Nat} {ex : Bool} {kq : Nat × Nat} (hn : 238 ≤ n) (hRf : RfOk 194 238 kq Rf) (hg : Ok g l0 E cX12_expression RX12 2 (d + 7) 0 0) {q : Int32 × Mm} (hr : Ret g E 0 0 (some .boolean) ex n Rf (some (.int q.1)) q.2) : ∀ (F : Nat)  (M : Mm), sX12_expression_25 F  M = some q → WG g E 2 n Rf ex 0 0 25 [(0, rr E.1 194)] [] M := by
  intro F
  induction F with
  | zero =>
    intro M h
    cases h
  | succ F ih =>
    intro M h
    rw [sX12_expression_25] at h
    refine g_iconst hg dX12_expression_25 kI_1 ?_
    refine g_istore_n (lv' := [(1, .int 1), (0, rr E.1 194)]) hg dX12_expression_26 rfl (by decide) rfl ?_
    refine g_rload_n hg dX12_expression_27 rfl 1 rfl ?_
    refine g_getI hg fl_X12_300 ly194 rfl (idb rfl rfl hn) dX12_expression_28 ?_
    refine g_if_eq (tgt := 42) hg dX12_expression_31 (by decide) (fun c => ?_) (fun c => ?_)
    · replace h := itT c h
      refine g_rload_n hg dX12_expression_42 rfl 1 rfl ?_
      refine g_bipush hg dX12_expression_43 kB_13 ?_
      obtain ⟨q45, e45, h⟩ := Option.bind_eq_some_iff.mp h
      refine g_callVi (As := [.int 13]) (rest := []) hg (lkX12_isWord (by omega) hn hRf  e45) cv_X12_234 rfl ly194 (idb rfl rfl hn) rfl rfl (Nat.le_of_ble_eq_true rfl) ⟨Nat.le_refl _, Nat.le_refl _⟩ dX12_expression_45 ?_
      refine g_if_ne (tgt := 60) hg dX12_expression_48 (by decide) (fun c => ?_) (fun c => ?_)
      · replace h := itF c h
        refine g_sub (lv' := [(0, rr E.1 194)]) [1] rfl ?_
        exact lkX12_expression_60 hn hRf hg hr ih _ h
      · replace h := itT c h
        refine g_rload_n hg dX12_expression_51 rfl 1 rfl ?_
        refine g_bipush hg dX12_expression_52 kB_14 ?_
        obtain ⟨q54, e54, h⟩ := Option.bind_eq_some_iff.mp h
        refine g_callVi (As := [.int 14]) (rest := []) hg (lkX12_isWord (by omega) hn hRf  e54) cv_X12_234 rfl ly194 (idb rfl rfl hn) rfl rfl (Nat.le_of_ble_eq_true rfl) ⟨Nat.le_refl _, Nat.le_refl _⟩ dX12_expression_54 ?_
        refine g_if_eq (tgt := 72) hg dX12_expression_57 (by decide) (fun c => ?_) (fun c => ?_)
        · replace h := itT c h
          refine g_rload_n hg dX12_expression_72 rfl 1 rfl ?_
          refine g_getI hg fl_X12_279 ly194 rfl (idb rfl rfl hn) dX12_expression_73 ?_
          refine g_if_le (tgt := 104) hg dX12_expression_76 (by decide) (fun c => ?_) (fun c => ?_)
          · replace h := itT c h
            refine g_rload_n hg dX12_expression_104 rfl 1 rfl ?_
            refine g_iconst hg dX12_expression_105 kI_1 ?_
            obtain ⟨M106, e106, h⟩ := Option.bind_eq_some_iff.mp h
            refine g_callVv (As := [.int 1]) (rest := []) hg (lkX12_bind (by omega) hn hRf  e106) cv_X12_303 rfl ly194 (idb rfl rfl hn) rfl rfl (Nat.le_of_ble_eq_true rfl) ⟨Nat.le_refl _, Nat.le_refl _⟩ dX12_expression_106 ?_
            refine g_iconst hg dX12_expression_109 kI_1 ?_
            replace h := Option.some.inj h
            subst h
            exact g_zret hg hr rfl dX12_expression_110
          · replace h := itF c h
            refine g_rload_n hg dX12_expression_79 rfl 1 rfl ?_
            refine g_bipush hg dX12_expression_80 kB_41 ?_
            obtain ⟨q82, e82, h⟩ := Option.bind_eq_some_iff.mp h
            refine g_callVi (As := [.int 41]) (rest := []) hg (lkX12_isSign (by omega) hn hRf  e82) cv_X12_231 rfl ly194 (idb rfl rfl hn) rfl rfl (Nat.le_of_ble_eq_true rfl) ⟨Nat.le_refl _, Nat.le_refl _⟩ dX12_expression_82 ?_
            refine g_if_eq (tgt := 95) hg dX12_expression_85 (by decide) (fun c => ?_) (fun c => ?_)
            · replace h := itT c h
              refine g_rload_n hg dX12_expression_95 rfl 1 rfl ?_
              refine g_iconst hg dX12_expression_96 kI_1 ?_
              obtain ⟨q97, e97, h⟩ := Option.bind_eq_some_iff.mp h
              refine g_callVi (As := [.int 1]) (rest := []) hg (lkX12_wrong (by omega) hn hRf  e97) cv_X12_222 rfl ly194 (idb rfl rfl hn) rfl rfl (Nat.le_of_ble_eq_true rfl) ⟨Nat.le_refl _, Nat.le_refl _⟩ dX12_expression_97 ?_
              refine g_sub (lv' := [(0, rr E.1 194)]) [1] rfl ?_
              exact lkX12_expression_100 hn hRf hg hr ih _ _ h
            · replace h := itF c h
              refine g_rload_n hg dX12_expression_88 rfl 1 rfl ?_
              obtain ⟨q89, e89, h⟩ := Option.bind_eq_some_iff.mp h
              refine g_callVi (As := []) (rest := []) hg (lkX12_closes (by omega) hn hRf  e89) cv_X12_312 rfl ly194 (idb rfl rfl hn) rfl rfl (Nat.le_of_ble_eq_true rfl) ⟨Nat.le_refl _, Nat.le_refl _⟩ dX12_expression_89 ?_
              refine g_goto (tgt := 100) hg dX12_expression_92 (by decide) ?_
              refine g_sub (lv' := [(0, rr E.1 194)]) [1] rfl ?_
              exact lkX12_expression_100 hn hRf hg hr ih _ _ h
        · replace h := itF c h
          refine g_sub (lv' := [(0, rr E.1 194)]) [1] rfl ?_
          exact lkX12_expression_60 hn hRf hg hr ih _ h
    · replace h := itF c h
      refine g_rload_n hg dX12_expression_34 rfl 1 rfl ?_
      obtain ⟨q35, e35, h⟩ := Option.bind_eq_some_iff.mp h
      refine g_callVi (As := []) (rest := []) hg (lkX12_valueRead (by omega) hn hRf  e35) cv_X12_306 rfl ly194 (idb rfl rfl hn) rfl rfl (Nat.le_of_ble_eq_true rfl) ⟨Nat.le_refl _, Nat.le_refl _⟩ dX12_expression_35 ?_
      refine g_istore_n (lv' := [(1, .int q35.1), (0, rr E.1 194)]) hg dX12_expression_38 rfl (by decide) rfl ?_
      refine g_goto (tgt := 111) hg dX12_expression_39 (by decide) ?_
      refine g_sub (lv' := [(0, rr E.1 194), (1, .int q35.1)]) [1, 0] rfl ?_
      exact lkX12_expression_111 hn hRf hg hr ih _ _ h
theorem lkX12_expression {l0 : Launch} {E : En} {d n : Nat} {Rf : Nat → Nat → Nat} {ex : Bool} {kq : Nat × Nat} (hd : 7 ≤ d) (hn : 238 ≤ n) (hRf : RfOk 194 238 kq Rf)  {M : Mm} {q : Int32 × Mm} (h : sX12_expression M = some q) : Ct l0 E yX12_expression cX12_expression 2 (some .boolean) d 0 0 [rr E.1 194] ex n Rf M n Rf (some (.int q.1)) q.2 := by
  obtain ⟨d, rfl⟩ := Nat.exists_eq_add_of_le' hd
  refine Ct.of pnX12 (Nat.le_of_ble_eq_true rfl) (fun g hg hr _ => ?_)
  replace hg : Ok g l0 E cX12_expression RX12 2 (d + 7) 0 0 := hg
  show WG g E 2 n Rf ex 0 0 0 [(0, rr E.1 194)] [] M
  unfold sX12_expression at h
  refine g_rload_n hg dX12_expression_0 rfl 0 rfl ?_
  refine g_iconst hg dX12_expression_1 kI_0 ?_
  refine g_putI hg fp_X12_266 ly194 rfl (idb rfl rfl hn) dX12_expression_2 ?_
  refine g_rload_n hg dX12_expression_5 rfl 0 rfl ?_
  refine g_iconst hg dX12_expression_6 kI_0 ?_
  refine g_putI hg fp_X12_257 ly194 rfl (idb rfl rfl hn) dX12_expression_7 ?_
  refine g_rload_n hg dX12_expression_10 rfl 0 rfl ?_
  refine g_iconst hg dX12_expression_11 kI_0 ?_
  refine g_putI hg fp_X12_279 ly194 rfl (idb rfl rfl hn) dX12_expression_12 ?_
  refine g_rload_n hg dX12_expression_15 rfl 0 rfl ?_
  refine g_iconst hg dX12_expression_16 kI_0 ?_
  refine g_putZ hg fp_X12_290 ly194 rfl (idb rfl rfl hn) rfl rfl dX12_expression_17 ?_
  refine g_rload_n hg dX12_expression_20 rfl 0 rfl ?_
  refine g_iconst hg dX12_expression_21 kI_1 ?_
  refine g_putZ hg fp_X12_300 ly194 rfl (idb rfl rfl hn) rfl rfl dX12_expression_22 ?_
  exact lkX12_expression_25 hn hRf hg hr  4096 _ h
theorem lkX12_kindAt_142 {g : Gm} {l0 : Launch} {E : En} {d n : Nat} {Rf : Nat → Nat → Nat} {ex : Bool} {kq : Nat × Nat} (hn : 238 ≤ n) (hRf : RfOk 194 238 kq Rf) (hg : Ok g l0 E cX12_kindAt RX12 4 (d + 1) 0 0) {q : Int32 × Mm} (hr : Ret g E 0 0 (some .int) ex n Rf (some (.int q.1)) q.2) : ∀ (F : Nat) (x1 : Int32) (M : Mm), sX12_kindAt_142 F x1 M = some q → WG g E 4 n Rf ex 0 0 142 [(0, rr E.1 194), (1, .int x1)] [] M := by
  intro F
  induction F with
  | zero =>
    intro x1 M h
    cases h
  | succ F ih =>
    intro x1 M h
    rw [sX12_kindAt_142] at h
    refine g_iload_n hg dX12_kindAt_142 rfl 1 rfl ?_
    refine g_rload_n hg dX12_kindAt_143 rfl 0 rfl ?_
    refine g_getI hg fl_X12_219 ly194 rfl (idb rfl rfl hn) dX12_kindAt_144 ?_
    refine g_rload_n hg dX12_kindAt_147 rfl 0 rfl ?_
    refine g_getI hg fl_X12_187 ly194 rfl (idb rfl rfl hn) dX12_kindAt_148 ?_
    refine g_isub hg dX12_kindAt_151 ?_
    refine g_icmp_ge (tgt := 189) hg dX12_kindAt_152 (by decide) (fun c => ?_) (fun c => ?_)
    · replace h := itT c h
      refine g_rload_n hg dX12_kindAt_189 rfl 0 rfl ?_
      refine g_dup hg dX12_kindAt_190 rfl ?_
      refine g_getI hg fl_X12_315 ly194 rfl (idb rfl rfl hn) dX12_kindAt_191 ?_
      refine g_iconst hg dX12_kindAt_194 kI_1 ?_
      refine g_iadd hg dX12_kindAt_195 ?_
      refine g_putI hg fp_X12_315 ly194 rfl (idb rfl rfl hn) dX12_kindAt_196 ?_
      refine g_rload_n hg dX12_kindAt_199 rfl 0 rfl ?_
      refine g_getI hg fl_X12_315 ly194 rfl (idb rfl rfl hn) dX12_kindAt_200 ?_
      refine g_iconst hg dX12_kindAt_203 kI_1 ?_
      refine g_isub hg dX12_kindAt_204 ?_
      replace h := Option.some.inj h
      subst h
      exact g_iret hg hr dX12_kindAt_205
    · replace h := itF c h
      refine g_rload_n hg dX12_kindAt_155 rfl 0 rfl ?_
      refine g_getR (r := 208) hg fl_X12_78 ly194 rfl (idb rfl rfl hn) (rfc hRf rfl rfl rfl rfl) (by decide) dX12_kindAt_156 ?_
      refine g_bipush hg dX12_kindAt_159 kB_64 ?_
      refine g_bipush hg dX12_kindAt_161 kB_8 ?_
      refine g_rload_n hg dX12_kindAt_163 rfl 0 rfl ?_
      refine g_getI hg fl_X12_315 ly194 rfl (idb rfl rfl hn) dX12_kindAt_164 ?_
      refine g_imul hg dX12_kindAt_167 ?_
      refine g_iadd hg dX12_kindAt_168 ?_
      refine g_iload_n hg dX12_kindAt_169 rfl 1 rfl ?_
      refine g_iadd hg dX12_kindAt_170 ?_
      refine g_rload_n hg dX12_kindAt_171 rfl 0 rfl ?_
      refine g_getR (r := 195) hg fl_X12_7 ly194 rfl (idb rfl rfl hn) (rfc hRf rfl rfl rfl rfl) (by decide) dX12_kindAt_172 ?_
      refine g_rload_n hg dX12_kindAt_175 rfl 0 rfl ?_
      refine g_getI hg fl_X12_187 ly194 rfl (idb rfl rfl hn) dX12_kindAt_176 ?_
      refine g_iload_n hg dX12_kindAt_179 rfl 1 rfl ?_
      refine g_iadd hg dX12_kindAt_180 ?_
      obtain ⟨c181, h⟩ := ck_some h
      refine g_iald hg ly195 (idb rfl rfl hn) (inb_vp c181) dX12_kindAt_181 ?_
      obtain ⟨c182, h⟩ := ck_some h
      refine g_iast hg ly208 (idb rfl rfl hn) (inb_vp c182) dX12_kindAt_182 ?_
      refine g_inc (lv' := [(1, .int (x1 + 1)), (0, rr E.1 194)]) hg dX12_kindAt_183 kI_1 1 rfl (by decide) rfl ?_
      refine g_goto (tgt := 142) hg dX12_kindAt_186 (by decide) ?_
      refine g_sub (lv' := [(0, rr E.1 194), (1, .int (x1 + 1))]) [1, 0] rfl ?_
      exact ih _ _ h
theorem lkX12_kindAt_96 {g : Gm} {l0 : Launch} {E : En} {d n : Nat} {Rf : Nat → Nat → Nat} {ex : Bool} {kq : Nat × Nat} (hn : 238 ≤ n) (hRf : RfOk 194 238 kq Rf) (hg : Ok g l0 E cX12_kindAt RX12 4 (d + 1) 0 0) {q : Int32 × Mm} (hr : Ret g E 0 0 (some .int) ex n Rf (some (.int q.1)) q.2) {k2 : Int32 → Mm → Option (Int32 × Mm)} (hk2 : ∀ (x1 : Int32) (M : Mm), k2 x1 M = some q → WG g E 4 n Rf ex 0 0 2 [(0, rr E.1 194), (1, .int x1)] [] M) : ∀ (x1 : Int32) (x2 : Int32) (M : Mm), sX12_kindAt_96 k2 x1 x2 M = some q → WG g E 4 n Rf ex 0 0 96 [(0, rr E.1 194), (1, .int x1), (2, .int x2)] [] M := by
  intro x1 x2 M h
  unfold sX12_kindAt_96 at h
  refine g_iload_n hg dX12_kindAt_96 rfl 2 rfl ?_
  refine g_if_eq (tgt := 102) hg dX12_kindAt_97 (by decide) (fun c => ?_) (fun c => ?_)
  · replace h := itT c h
    refine g_inc (lv' := [(1, .int (x1 + 1)), (0, rr E.1 194), (2, .int x2)]) hg dX12_kindAt_102 kI_1 1 rfl (by decide) rfl ?_
    refine g_goto (tgt := 2) hg dX12_kindAt_105 (by decide) ?_
    refine g_sub (lv' := [(0, rr E.1 194), (1, .int (x1 + 1))]) [1, 0] rfl ?_
    exact hk2 _ _ h
  · replace h := itF c h
    refine g_iload_n hg dX12_kindAt_100 rfl 1 rfl ?_
    replace h := Option.some.inj h
    subst h
    exact g_iret hg hr dX12_kindAt_101
theorem lkX12_kindAt_89 {g : Gm} {l0 : Launch} {E : En} {d n : Nat} {Rf : Nat → Nat → Nat} {ex : Bool} {kq : Nat × Nat} (hn : 238 ≤ n) (hRf : RfOk 194 238 kq Rf) (hg : Ok g l0 E cX12_kindAt RX12 4 (d + 1) 0 0) {q : Int32 × Mm} (hr : Ret g E 0 0 (some .int) ex n Rf (some (.int q.1)) q.2) {k2 : Int32 → Mm → Option (Int32 × Mm)} (hk2 : ∀ (x1 : Int32) (M : Mm), k2 x1 M = some q → WG g E 4 n Rf ex 0 0 2 [(0, rr E.1 194), (1, .int x1)] [] M) {k39 : Int32 → Int32 → Int32 → Mm → Option (Int32 × Mm)} (hk39 : ∀ (x1 : Int32) (x2 : Int32) (x3 : Int32) (M : Mm), k39 x1 x2 x3 M = some q → WG g E 4 n Rf ex 0 0 39 [(0, rr E.1 194), (1, .int x1), (2, .int x2), (3, .int x3)] [] M) : ∀ (x1 : Int32) (x3 : Int32) (s0 : Int32) (M : Mm), sX12_kindAt_89 k2 k39 x1 x3 s0 M = some q → WG g E 4 n Rf ex 0 0 89 [(0, rr E.1 194), (1, .int x1), (3, .int x3)] [.int s0] M := by
  intro x1 x3 s0 M h
  unfold sX12_kindAt_89 at h
  refine g_istore_n (lv' := [(2, .int s0), (0, rr E.1 194), (1, .int x1), (3, .int x3)]) hg dX12_kindAt_89 rfl (by decide) rfl ?_
  refine g_inc (lv' := [(3, .int (x3 + 1)), (2, .int s0), (0, rr E.1 194), (1, .int x1)]) hg dX12_kindAt_90 kI_1 3 rfl (by decide) rfl ?_
  refine g_goto (tgt := 39) hg dX12_kindAt_93 (by decide) ?_
  refine g_sub (lv' := [(0, rr E.1 194), (1, .int x1), (2, .int s0), (3, .int (x3 + 1))]) [2, 3, 1, 0] rfl ?_
  exact hk39 _ _ _ _ h
theorem lkX12_kindAt_39 {g : Gm} {l0 : Launch} {E : En} {d n : Nat} {Rf : Nat → Nat → Nat} {ex : Bool} {kq : Nat × Nat} (hn : 238 ≤ n) (hRf : RfOk 194 238 kq Rf) (hg : Ok g l0 E cX12_kindAt RX12 4 (d + 1) 0 0) {q : Int32 × Mm} (hr : Ret g E 0 0 (some .int) ex n Rf (some (.int q.1)) q.2) {k2 : Int32 → Mm → Option (Int32 × Mm)} (hk2 : ∀ (x1 : Int32) (M : Mm), k2 x1 M = some q → WG g E 4 n Rf ex 0 0 2 [(0, rr E.1 194), (1, .int x1)] [] M) : ∀ (F : Nat) (x1 : Int32) (x2 : Int32) (x3 : Int32) (M : Mm), sX12_kindAt_39 k2 F x1 x2 x3 M = some q → WG g E 4 n Rf ex 0 0 39 [(0, rr E.1 194), (1, .int x1), (2, .int x2), (3, .int x3)] [] M := by
  intro F
  induction F with
  | zero =>
    intro x1 x2 x3 M h
    cases h
  | succ F ih =>
    intro x1 x2 x3 M h
    rw [sX12_kindAt_39] at h
    refine g_iload_n hg dX12_kindAt_39 rfl 3 rfl ?_
    refine g_rload_n hg dX12_kindAt_40 rfl 0 rfl ?_
    refine g_getR (r := 209) hg fl_X12_81 ly194 rfl (idb rfl rfl hn) (rfc hRf rfl rfl rfl rfl) (by decide) dX12_kindAt_41 ?_
    refine g_bipush hg dX12_kindAt_44 kB_8 ?_
    refine g_iload_n hg dX12_kindAt_46 rfl 1 rfl ?_
    refine g_iadd hg dX12_kindAt_47 ?_
    obtain ⟨c48, h⟩ := ck_some h
    refine g_iald hg ly209 (idb rfl rfl hn) (inb_vp c48) dX12_kindAt_48 ?_
    refine g_icmp_ge (tgt := 96) hg dX12_kindAt_49 (by decide) (fun c => ?_) (fun c => ?_)
    · replace h := itT c h
      refine g_sub (lv' := [(0, rr E.1 194), (1, .int x1), (2, .int x2)]) [0, 1, 2] rfl ?_
      exact lkX12_kindAt_96 hn hRf hg hr hk2 _ _ _ h
    · replace h := itF c h
      refine g_iload_n hg dX12_kindAt_52 rfl 2 rfl ?_
      refine g_if_eq (tgt := 96) hg dX12_kindAt_53 (by decide) (fun c => ?_) (fun c => ?_)
      · replace h := itT c h
        refine g_sub (lv' := [(0, rr E.1 194), (1, .int x1), (2, .int x2)]) [0, 1, 2] rfl ?_
        exact lkX12_kindAt_96 hn hRf hg hr hk2 _ _ _ h
      · replace h := itF c h
        refine g_rload_n hg dX12_kindAt_56 rfl 0 rfl ?_
        refine g_getR (r := 208) hg fl_X12_78 ly194 rfl (idb rfl rfl hn) (rfc hRf rfl rfl rfl rfl) (by decide) dX12_kindAt_57 ?_
        refine g_bipush hg dX12_kindAt_60 kB_64 ?_
        refine g_bipush hg dX12_kindAt_62 kB_8 ?_
        refine g_iload_n hg dX12_kindAt_64 rfl 1 rfl ?_
        refine g_imul hg dX12_kindAt_65 ?_
        refine g_iadd hg dX12_kindAt_66 ?_
        refine g_iload_n hg dX12_kindAt_67 rfl 3 rfl ?_
        refine g_iadd hg dX12_kindAt_68 ?_
        obtain ⟨c69, h⟩ := ck_some h
        refine g_iald hg ly208 (idb rfl rfl hn) (inb_vp c69) dX12_kindAt_69 ?_
        refine g_rload_n hg dX12_kindAt_70 rfl 0 rfl ?_
        refine g_getR (r := 195) hg fl_X12_7 ly194 rfl (idb rfl rfl hn) (rfc hRf rfl rfl rfl rfl) (by decide) dX12_kindAt_71 ?_
        refine g_rload_n hg dX12_kindAt_74 rfl 0 rfl ?_
        refine g_getI hg fl_X12_187 ly194 rfl (idb rfl rfl hn) dX12_kindAt_75 ?_
        refine g_iload_n hg dX12_kindAt_78 rfl 3 rfl ?_
        refine g_iadd hg dX12_kindAt_79 ?_
        obtain ⟨c80, h⟩ := ck_some h
        refine g_iald hg ly195 (idb rfl rfl hn) (inb_vp c80) dX12_kindAt_80 ?_
        refine g_icmp_ne (tgt := 88) hg dX12_kindAt_81 (by decide) (fun c => ?_) (fun c => ?_)
        · rw [if_neg c] at h
          refine g_iconst hg dX12_kindAt_88 kI_0 ?_
          refine g_sub (lv' := [(0, rr E.1 194), (1, .int x1), (3, .int x3)]) [0, 1, 3] rfl ?_
          exact lkX12_kindAt_89 hn hRf hg hr hk2 ih _ _ _ _ h
        · rw [if_pos c] at h
          refine g_iconst hg dX12_kindAt_84 kI_1 ?_
          refine g_goto (tgt := 89) hg dX12_kindAt_85 (by decide) ?_
          refine g_sub (lv' := [(0, rr E.1 194), (1, .int x1), (3, .int x3)]) [0, 1, 3] rfl ?_
          exact lkX12_kindAt_89 hn hRf hg hr hk2 ih _ _ _ _ h
theorem lkX12_kindAt_36 {g : Gm} {l0 : Launch} {E : En} {d n : Nat} {Rf : Nat → Nat → Nat} {ex : Bool} {kq : Nat × Nat} (hn : 238 ≤ n) (hRf : RfOk 194 238 kq Rf) (hg : Ok g l0 E cX12_kindAt RX12 4 (d + 1) 0 0) {q : Int32 × Mm} (hr : Ret g E 0 0 (some .int) ex n Rf (some (.int q.1)) q.2) {k2 : Int32 → Mm → Option (Int32 × Mm)} (hk2 : ∀ (x1 : Int32) (M : Mm), k2 x1 M = some q → WG g E 4 n Rf ex 0 0 2 [(0, rr E.1 194), (1, .int x1)] [] M) : ∀ (x1 : Int32) (s0 : Int32) (M : Mm), sX12_kindAt_36 k2 x1 s0 M = some q → WG g E 4 n Rf ex 0 0 36 [(0, rr E.1 194), (1, .int x1)] [.int s0] M := by
  intro x1 s0 M h
  unfold sX12_kindAt_36 at h
  refine g_istore_n (lv' := [(2, .int s0), (0, rr E.1 194), (1, .int x1)]) hg dX12_kindAt_36 rfl (by decide) rfl ?_
  refine g_iconst hg dX12_kindAt_37 kI_0 ?_
  refine g_istore_n (lv' := [(3, .int 0), (2, .int s0), (0, rr E.1 194), (1, .int x1)]) hg dX12_kindAt_38 rfl (by decide) rfl ?_
  refine g_sub (lv' := [(0, rr E.1 194), (1, .int x1), (2, .int s0), (3, .int 0)]) [2, 3, 1, 0] rfl ?_
  exact lkX12_kindAt_39 hn hRf hg hr hk2 4096 _ _ _ _ h
theorem lkX12_kindAt_2 {g : Gm} {l0 : Launch} {E : En} {d n : Nat} {Rf : Nat → Nat → Nat} {ex : Bool} {kq : Nat × Nat} (hn : 238 ≤ n) (hRf : RfOk 194 238 kq Rf) (hg : Ok g l0 E cX12_kindAt RX12 4 (d + 1) 0 0) {q : Int32 × Mm} (hr : Ret g E 0 0 (some .int) ex n Rf (some (.int q.1)) q.2) : ∀ (F : Nat) (x1 : Int32) (M : Mm), sX12_kindAt_2 F x1 M = some q → WG g E 4 n Rf ex 0 0 2 [(0, rr E.1 194), (1, .int x1)] [] M := by
  intro F
  induction F with
  | zero =>
    intro x1 M h
    cases h
  | succ F ih =>
    intro x1 M h
    rw [sX12_kindAt_2] at h
    refine g_iload_n hg dX12_kindAt_2 rfl 1 rfl ?_
    refine g_rload_n hg dX12_kindAt_3 rfl 0 rfl ?_
    refine g_getI hg fl_X12_315 ly194 rfl (idb rfl rfl hn) dX12_kindAt_4 ?_
    refine g_icmp_ge (tgt := 108) hg dX12_kindAt_7 (by decide) (fun c => ?_) (fun c => ?_)
    · replace h := itT c h
      refine g_rload_n hg dX12_kindAt_108 rfl 0 rfl ?_
      refine g_getI hg fl_X12_315 ly194 rfl (idb rfl rfl hn) dX12_kindAt_109 ?_
      refine g_bipush hg dX12_kindAt_112 kB_8 ?_
      refine g_icmp_ne (tgt := 119) hg dX12_kindAt_114 (by decide) (fun c => ?_) (fun c => ?_)
      · replace h := itF c h
        refine g_rload_n hg dX12_kindAt_119 rfl 0 rfl ?_
        refine g_getR (r := 209) hg fl_X12_81 ly194 rfl (idb rfl rfl hn) (rfc hRf rfl rfl rfl rfl) (by decide) dX12_kindAt_120 ?_
        refine g_bipush hg dX12_kindAt_123 kB_8 ?_
        refine g_rload_n hg dX12_kindAt_125 rfl 0 rfl ?_
        refine g_getI hg fl_X12_315 ly194 rfl (idb rfl rfl hn) dX12_kindAt_126 ?_
        refine g_iadd hg dX12_kindAt_129 ?_
        refine g_rload_n hg dX12_kindAt_130 rfl 0 rfl ?_
        refine g_getI hg fl_X12_219 ly194 rfl (idb rfl rfl hn) dX12_kindAt_131 ?_
        refine g_rload_n hg dX12_kindAt_134 rfl 0 rfl ?_
        refine g_getI hg fl_X12_187 ly194 rfl (idb rfl rfl hn) dX12_kindAt_135 ?_
        refine g_isub hg dX12_kindAt_138 ?_
        obtain ⟨c139, h⟩ := ck_some h
        refine g_iast hg ly209 (idb rfl rfl hn) (inb_vp c139) dX12_kindAt_139 ?_
        refine g_iconst hg dX12_kindAt_140 kI_0 ?_
        refine g_istore_n (lv' := [(1, .int 0), (0, rr E.1 194)]) hg dX12_kindAt_141 rfl (by decide) rfl ?_
        refine g_sub (lv' := [(0, rr E.1 194), (1, .int 0)]) [1, 0] rfl ?_
        exact lkX12_kindAt_142 hn hRf hg hr  4096 _ _ h
      · replace h := itT c h
        refine g_iconst hg dX12_kindAt_117 kI_m1 ?_
        replace h := Option.some.inj h
        subst h
        exact g_iret hg hr dX12_kindAt_118
    · replace h := itF c h
      refine g_rload_n hg dX12_kindAt_10 rfl 0 rfl ?_
      refine g_getR (r := 209) hg fl_X12_81 ly194 rfl (idb rfl rfl hn) (rfc hRf rfl rfl rfl rfl) (by decide) dX12_kindAt_11 ?_
      refine g_bipush hg dX12_kindAt_14 kB_8 ?_
      refine g_iload_n hg dX12_kindAt_16 rfl 1 rfl ?_
      refine g_iadd hg dX12_kindAt_17 ?_
      obtain ⟨c18, h⟩ := ck_some h
      refine g_iald hg ly209 (idb rfl rfl hn) (inb_vp c18) dX12_kindAt_18 ?_
      refine g_rload_n hg dX12_kindAt_19 rfl 0 rfl ?_
      refine g_getI hg fl_X12_219 ly194 rfl (idb rfl rfl hn) dX12_kindAt_20 ?_
      refine g_rload_n hg dX12_kindAt_23 rfl 0 rfl ?_
      refine g_getI hg fl_X12_187 ly194 rfl (idb rfl rfl hn) dX12_kindAt_24 ?_
      refine g_isub hg dX12_kindAt_27 ?_
      refine g_icmp_ne (tgt := 35) hg dX12_kindAt_28 (by decide) (fun c => ?_) (fun c => ?_)
      · rw [if_neg c] at h
        refine g_iconst hg dX12_kindAt_35 kI_0 ?_
        exact lkX12_kindAt_36 hn hRf hg hr ih _ _ _ h
      · rw [if_pos c] at h
        refine g_iconst hg dX12_kindAt_31 kI_1 ?_
        refine g_goto (tgt := 36) hg dX12_kindAt_32 (by decide) ?_
        exact lkX12_kindAt_36 hn hRf hg hr ih _ _ _ h
theorem lkX12_kindAt {l0 : Launch} {E : En} {d n : Nat} {Rf : Nat → Nat → Nat} {ex : Bool} {kq : Nat × Nat} (hd : 1 ≤ d) (hn : 238 ≤ n) (hRf : RfOk 194 238 kq Rf)  {M : Mm} {q : Int32 × Mm} (h : sX12_kindAt M = some q) : Ct l0 E yX12_kindAt cX12_kindAt 4 (some .int) d 0 0 [rr E.1 194] ex n Rf M n Rf (some (.int q.1)) q.2 := by
  obtain ⟨d, rfl⟩ := Nat.exists_eq_add_of_le' hd
  refine Ct.of pnX12 (Nat.le_of_ble_eq_true rfl) (fun g hg hr _ => ?_)
  replace hg : Ok g l0 E cX12_kindAt RX12 4 (d + 1) 0 0 := hg
  show WG g E 4 n Rf ex 0 0 0 [(0, rr E.1 194)] [] M
  unfold sX12_kindAt at h
  refine g_iconst hg dX12_kindAt_0 kI_0 ?_
  refine g_istore_n (lv' := [(1, .int 0), (0, rr E.1 194)]) hg dX12_kindAt_1 rfl (by decide) rfl ?_
  refine g_sub (lv' := [(0, rr E.1 194), (1, .int 0)]) [1, 0] rfl ?_
  exact lkX12_kindAt_2 hn hRf hg hr  4096 _ _ h
theorem lkX12_lineRead {l0 : Launch} {E : En} {d n : Nat} {Rf : Nat → Nat → Nat} {ex : Bool} {kq : Nat × Nat} (hd : 8 ≤ d) (hn : 238 ≤ n) (hRf : RfOk 194 238 kq Rf)  {M : Mm} {q : Int32 × Mm} (h : sX12_lineRead M = some q) : Ct l0 E yX12_lineRead cX12_lineRead 3 (some .boolean) d 0 0 [rr E.1 194] ex n Rf M n Rf (some (.int q.1)) q.2 := by
  obtain ⟨d, rfl⟩ := Nat.exists_eq_add_of_le' hd
  refine Ct.of pnX12 (Nat.le_of_ble_eq_true rfl) (fun g hg hr _ => ?_)
  replace hg : Ok g l0 E cX12_lineRead RX12 3 (d + 8) 0 0 := hg
  show WG g E 3 n Rf ex 0 0 0 [(0, rr E.1 194)] [] M
  unfold sX12_lineRead at h
  refine g_rload_n hg dX12_lineRead_0 rfl 0 rfl ?_
  refine g_getI hg fl_X12_199 ly194 rfl (idb rfl rfl hn) dX12_lineRead_1 ?_
  refine g_iconst hg dX12_lineRead_4 kI_2 ?_
  refine g_icmp_eq (tgt := 14) hg dX12_lineRead_5 (by decide) (fun c => ?_) (fun c => ?_)
  · replace h := itT c h
    refine g_rload_n hg dX12_lineRead_14 rfl 0 rfl ?_
    refine g_getI hg fl_X12_318 ly194 rfl (idb rfl rfl hn) dX12_lineRead_15 ?_
    refine g_bipush hg dX12_lineRead_18 kB_16 ?_
    refine g_icmp_ne (tgt := 29) hg dX12_lineRead_20 (by decide) (fun c => ?_) (fun c => ?_)
    · replace h := itF c h
      refine g_rload_n hg dX12_lineRead_29 rfl 0 rfl ?_
      obtain ⟨q30, e30, h⟩ := Option.bind_eq_some_iff.mp h
      refine g_callVi (As := []) (rest := []) hg (lkX12_kindAt (by omega) hn hRf  e30) cv_X12_321 rfl ly194 (idb rfl rfl hn) rfl rfl (Nat.le_of_ble_eq_true rfl) ⟨Nat.le_refl _, Nat.le_refl _⟩ dX12_lineRead_30 ?_
      refine g_istore_n (lv' := [(1, .int q30.1), (0, rr E.1 194)]) hg dX12_lineRead_33 rfl (by decide) rfl ?_
      refine g_iload_n hg dX12_lineRead_34 rfl 0 rfl ?_
      refine g_if_ge (tgt := 44) hg dX12_lineRead_35 (by decide) (fun c => ?_) (fun c => ?_)
      · replace h := itT c h
        refine g_bipush hg dX12_lineRead_44 kB_16 ?_
        refine g_rload_n hg dX12_lineRead_46 rfl 1 rfl ?_
        refine g_getI hg fl_X12_318 ly194 rfl (idb rfl rfl hn) dX12_lineRead_47 ?_
        refine g_iadd hg dX12_lineRead_50 ?_
        refine g_istore_n (lv' := [(2, .int (16 + (q30.2.1 194 37))), (1, .int q30.1), (0, rr E.1 194)]) hg dX12_lineRead_51 rfl (by decide) rfl ?_
        refine g_rload_n hg dX12_lineRead_52 rfl 2 rfl ?_
        refine g_getR (r := 210) hg fl_X12_84 ly194 rfl (idb rfl rfl hn) (rfc hRf rfl rfl rfl rfl) (by decide) dX12_lineRead_53 ?_
        refine g_iload_n hg dX12_lineRead_56 rfl 0 rfl ?_
        refine g_iload_n hg dX12_lineRead_57 rfl 1 rfl ?_
        obtain ⟨c58, h⟩ := ck_some h
        refine g_iast hg ly210 (idb rfl rfl hn) (inb_vp c58) dX12_lineRead_58 ?_
        refine g_rload_n hg dX12_lineRead_59 rfl 2 rfl ?_
        refine g_getR (r := 211) hg fl_X12_87 ly194 rfl (idb rfl rfl hn) (rfc hRf rfl rfl rfl rfl) (by decide) dX12_lineRead_60 ?_
        refine g_iload_n hg dX12_lineRead_63 rfl 0 rfl ?_
        refine g_rload_n hg dX12_lineRead_64 rfl 2 rfl ?_
        refine g_getI hg fl_X12_260 ly194 rfl (idb rfl rfl hn) dX12_lineRead_65 ?_
        obtain ⟨c68, h⟩ := ck_some h
        refine g_iast hg ly211 (idb rfl rfl hn) (inb_vp c68) dX12_lineRead_68 ?_
        refine g_rload_n hg dX12_lineRead_69 rfl 2 rfl ?_
        obtain ⟨M70, e70, h⟩ := Option.bind_eq_some_iff.mp h
        refine g_callVv (As := []) (rest := []) hg (lkX12_take (by omega) hn hRf  e70) cv_X12_228 rfl ly194 (idb rfl rfl hn) rfl rfl (Nat.le_of_ble_eq_true rfl) ⟨Nat.le_refl _, Nat.le_refl _⟩ dX12_lineRead_70 ?_
        refine g_rload_n hg dX12_lineRead_73 rfl 2 rfl ?_
        refine g_bipush hg dX12_lineRead_74 kB_58 ?_
        obtain ⟨q76, e76, h⟩ := Option.bind_eq_some_iff.mp h
        refine g_callVi (As := [.int 58]) (rest := []) hg (lkX12_isSign (by omega) hn hRf  e76) cv_X12_231 rfl ly194 (idb rfl rfl hn) rfl rfl (Nat.le_of_ble_eq_true rfl) ⟨Nat.le_refl _, Nat.le_refl _⟩ dX12_lineRead_76 ?_
        refine g_if_ne (tgt := 88) hg dX12_lineRead_79 (by decide) (fun c => ?_) (fun c => ?_)
        · replace h := itF c h
          refine g_rload_n hg dX12_lineRead_88 rfl 2 rfl ?_
          obtain ⟨M89, e89, h⟩ := Option.bind_eq_some_iff.mp h
          refine g_callVv (As := []) (rest := []) hg (lkX12_take (by omega) hn hRf  e89) cv_X12_228 rfl ly194 (idb rfl rfl hn) rfl rfl (Nat.le_of_ble_eq_true rfl) ⟨Nat.le_refl _, Nat.le_refl _⟩ dX12_lineRead_89 ?_
          refine g_rload_n hg dX12_lineRead_92 rfl 2 rfl ?_
          obtain ⟨q93, e93, h⟩ := Option.bind_eq_some_iff.mp h
          refine g_callVi (As := []) (rest := []) hg (lkX12_expression (by omega) hn hRf  e93) cv_X12_324 rfl ly194 (idb rfl rfl hn) rfl rfl (Nat.le_of_ble_eq_true rfl) ⟨Nat.le_refl _, Nat.le_refl _⟩ dX12_lineRead_93 ?_
          refine g_if_ne (tgt := 101) hg dX12_lineRead_96 (by decide) (fun c => ?_) (fun c => ?_)
          · replace h := itF c h
            refine g_rload_n hg dX12_lineRead_101 rfl 2 rfl ?_
            refine g_bipush hg dX12_lineRead_102 kB_59 ?_
            obtain ⟨q104, e104, h⟩ := Option.bind_eq_some_iff.mp h
            refine g_callVi (As := [.int 59]) (rest := []) hg (lkX12_isSign (by omega) hn hRf  e104) cv_X12_231 rfl ly194 (idb rfl rfl hn) rfl rfl (Nat.le_of_ble_eq_true rfl) ⟨Nat.le_refl _, Nat.le_refl _⟩ dX12_lineRead_104 ?_
            refine g_if_ne (tgt := 116) hg dX12_lineRead_107 (by decide) (fun c => ?_) (fun c => ?_)
            · replace h := itF c h
              refine g_rload_n hg dX12_lineRead_116 rfl 2 rfl ?_
              obtain ⟨M117, e117, h⟩ := Option.bind_eq_some_iff.mp h
              refine g_callVv (As := []) (rest := []) hg (lkX12_take (by omega) hn hRf  e117) cv_X12_228 rfl ly194 (idb rfl rfl hn) rfl rfl (Nat.le_of_ble_eq_true rfl) ⟨Nat.le_refl _, Nat.le_refl _⟩ dX12_lineRead_117 ?_
              refine g_rload_n hg dX12_lineRead_120 rfl 2 rfl ?_
              refine g_getR (r := 212) hg fl_X12_90 ly194 rfl (idb rfl rfl hn) (rfc hRf rfl rfl rfl rfl) (by decide) dX12_lineRead_121 ?_
              refine g_iload_n hg dX12_lineRead_124 rfl 0 rfl ?_
              refine g_rload_n hg dX12_lineRead_125 rfl 2 rfl ?_
              refine g_getI hg fl_X12_260 ly194 rfl (idb rfl rfl hn) dX12_lineRead_126 ?_
              refine g_rload_n hg dX12_lineRead_129 rfl 2 rfl ?_
              refine g_getR (r := 211) hg fl_X12_87 ly194 rfl (idb rfl rfl hn) (rfc hRf rfl rfl rfl rfl) (by decide) dX12_lineRead_130 ?_
              refine g_iload_n hg dX12_lineRead_133 rfl 0 rfl ?_
              obtain ⟨c134, h⟩ := ck_some h
              refine g_iald hg ly211 (idb rfl rfl hn) (inb_vp c134) dX12_lineRead_134 ?_
              refine g_isub hg dX12_lineRead_135 ?_
              obtain ⟨c136, h⟩ := ck_some h
              refine g_iast hg ly212 (idb rfl rfl hn) (inb_vp c136) dX12_lineRead_136 ?_
              refine g_rload_n hg dX12_lineRead_137 rfl 2 rfl ?_
              refine g_dup hg dX12_lineRead_138 rfl ?_
              refine g_getI hg fl_X12_318 ly194 rfl (idb rfl rfl hn) dX12_lineRead_139 ?_
              refine g_iconst hg dX12_lineRead_142 kI_1 ?_
              refine g_iadd hg dX12_lineRead_143 ?_
              refine g_putI hg fp_X12_318 ly194 rfl (idb rfl rfl hn) dX12_lineRead_144 ?_
              refine g_iconst hg dX12_lineRead_147 kI_1 ?_
              replace h := Option.some.inj h
              subst h
              exact g_zret hg hr rfl dX12_lineRead_148
            · replace h := itT c h
              refine g_rload_n hg dX12_lineRead_110 rfl 2 rfl ?_
              refine g_iconst hg dX12_lineRead_111 kI_1 ?_
              obtain ⟨q112, e112, h⟩ := Option.bind_eq_some_iff.mp h
              refine g_callVi (As := [.int 1]) (rest := []) hg (lkX12_wrong (by omega) hn hRf  e112) cv_X12_222 rfl ly194 (idb rfl rfl hn) rfl rfl (Nat.le_of_ble_eq_true rfl) ⟨Nat.le_refl _, Nat.le_refl _⟩ dX12_lineRead_112 ?_
              obtain ⟨c115, h⟩ := ck_some h
              replace h := Option.some.inj h
              subst h
              exact g_zret hg hr (isb_nar c115) dX12_lineRead_115
          · replace h := itT c h
            refine g_iconst hg dX12_lineRead_99 kI_0 ?_
            replace h := Option.some.inj h
            subst h
            exact g_zret hg hr rfl dX12_lineRead_100
        · replace h := itT c h
          refine g_rload_n hg dX12_lineRead_82 rfl 2 rfl ?_
          refine g_iconst hg dX12_lineRead_83 kI_1 ?_
          obtain ⟨q84, e84, h⟩ := Option.bind_eq_some_iff.mp h
          refine g_callVi (As := [.int 1]) (rest := []) hg (lkX12_wrong (by omega) hn hRf  e84) cv_X12_222 rfl ly194 (idb rfl rfl hn) rfl rfl (Nat.le_of_ble_eq_true rfl) ⟨Nat.le_refl _, Nat.le_refl _⟩ dX12_lineRead_84 ?_
          obtain ⟨c87, h⟩ := ck_some h
          replace h := Option.some.inj h
          subst h
          exact g_zret hg hr (isb_nar c87) dX12_lineRead_87
      · replace h := itF c h
        refine g_rload_n hg dX12_lineRead_38 rfl 1 rfl ?_
        refine g_iconst hg dX12_lineRead_39 kI_2 ?_
        obtain ⟨q40, e40, h⟩ := Option.bind_eq_some_iff.mp h
        refine g_callVi (As := [.int 2]) (rest := []) hg (lkX12_wrong (by omega) hn hRf  e40) cv_X12_222 rfl ly194 (idb rfl rfl hn) rfl rfl (Nat.le_of_ble_eq_true rfl) ⟨Nat.le_refl _, Nat.le_refl _⟩ dX12_lineRead_40 ?_
        obtain ⟨c43, h⟩ := ck_some h
        replace h := Option.some.inj h
        subst h
        exact g_zret hg hr (isb_nar c43) dX12_lineRead_43
    · replace h := itT c h
      refine g_rload_n hg dX12_lineRead_23 rfl 0 rfl ?_
      refine g_iconst hg dX12_lineRead_24 kI_2 ?_
      obtain ⟨q25, e25, h⟩ := Option.bind_eq_some_iff.mp h
      refine g_callVi (As := [.int 2]) (rest := []) hg (lkX12_wrong (by omega) hn hRf  e25) cv_X12_222 rfl ly194 (idb rfl rfl hn) rfl rfl (Nat.le_of_ble_eq_true rfl) ⟨Nat.le_refl _, Nat.le_refl _⟩ dX12_lineRead_25 ?_
      obtain ⟨c28, h⟩ := ck_some h
      replace h := Option.some.inj h
      subst h
      exact g_zret hg hr (isb_nar c28) dX12_lineRead_28
  · replace h := itF c h
    refine g_rload_n hg dX12_lineRead_8 rfl 0 rfl ?_
    refine g_iconst hg dX12_lineRead_9 kI_1 ?_
    obtain ⟨q10, e10, h⟩ := Option.bind_eq_some_iff.mp h
    refine g_callVi (As := [.int 1]) (rest := []) hg (lkX12_wrong (by omega) hn hRf  e10) cv_X12_222 rfl ly194 (idb rfl rfl hn) rfl rfl (Nat.le_of_ble_eq_true rfl) ⟨Nat.le_refl _, Nat.le_refl _⟩ dX12_lineRead_10 ?_
    obtain ⟨c13, h⟩ := ck_some h
    replace h := Option.some.inj h
    subst h
    exact g_zret hg hr (isb_nar c13) dX12_lineRead_13
theorem lkX12_key_335 {g : Gm} {l0 : Launch} {E : En} {d n : Nat} {Rf : Nat → Nat → Nat} {ex : Bool} {kq : Nat × Nat} (hn : 238 ≤ n) (hRf : RfOk 194 238 kq Rf) (hg : Ok g l0 E cX12_key RX12 5 (d + 9) 0 0) {q : Int32 × Mm} (hr : Ret g E 0 0 (some .int) ex n Rf (some (.int q.1)) q.2) : ∀ (F : Nat) (x2 : Int32) (M : Mm), sX12_key_335 F x2 M = some q → WG g E 5 n Rf ex 0 0 335 [(0, rr E.1 194), (2, .int x2)] [] M := by
  intro F
  induction F with
  | zero =>
    intro x2 M h
    cases h
  | succ F ih =>
    intro x2 M h
    rw [sX12_key_335] at h
    refine g_iload_n hg dX12_key_335 rfl 1 rfl ?_
    refine g_bipush hg dX12_key_336 kB_8 ?_
    refine g_icmp_ge (tgt := 354) hg dX12_key_338 (by decide) (fun c => ?_) (fun c => ?_)
    · replace h := itT c h
      refine g_rload_n hg dX12_key_354 rfl 0 rfl ?_
      refine g_getI hg fl_X12_333 ly194 rfl (idb rfl rfl hn) dX12_key_355 ?_
      replace h := Option.some.inj h
      subst h
      exact g_iret hg hr dX12_key_358
    · replace h := itF c h
      refine g_rload_n hg dX12_key_341 rfl 0 rfl ?_
      refine g_getR (r := 225) hg fl_X12_129 ly194 rfl (idb rfl rfl hn) (rfc hRf rfl rfl rfl rfl) (by decide) dX12_key_342 ?_
      refine g_iload_n hg dX12_key_345 rfl 1 rfl ?_
      refine g_iconst hg dX12_key_346 kI_0 ?_
      obtain ⟨c347, h⟩ := ck_some h
      refine g_iast hg ly225 (idb rfl rfl hn) (inb_vp c347) dX12_key_347 ?_
      refine g_inc (lv' := [(2, .int (x2 + 1)), (0, rr E.1 194)]) hg dX12_key_348 kI_1 1 rfl (by decide) rfl ?_
      refine g_goto (tgt := 335) hg dX12_key_351 (by decide) ?_
      refine g_sub (lv' := [(0, rr E.1 194), (2, .int (x2 + 1))]) [1, 0] rfl ?_
      exact ih _ _ h
theorem lkX12_key_314 {g : Gm} {l0 : Launch} {E : En} {d n : Nat} {Rf : Nat → Nat → Nat} {ex : Bool} {kq : Nat × Nat} (hn : 238 ≤ n) (hRf : RfOk 194 238 kq Rf) (hg : Ok g l0 E cX12_key RX12 5 (d + 9) 0 0) {q : Int32 × Mm} (hr : Ret g E 0 0 (some .int) ex n Rf (some (.int q.1)) q.2) {k263 : Int32 → Mm → Option (Int32 × Mm)} (hk263 : ∀ (x2 : Int32) (M : Mm), k263 x2 M = some q → WG g E 5 n Rf ex 0 0 263 [(0, rr E.1 194), (2, .int x2)] [] M) {k270 : Int32 → Int32 → Mm → Option (Int32 × Mm)} (hk270 : ∀ (x2 : Int32) (x3 : Int32) (M : Mm), k270 x2 x3 M = some q → WG g E 5 n Rf ex 0 0 270 [(0, rr E.1 194), (2, .int x2), (3, .int x3)] [] M) {k279 : Int32 → Int32 → Int32 → Mm → Option (Int32 × Mm)} (hk279 : ∀ (x2 : Int32) (x3 : Int32) (x4 : Int32) (M : Mm), k279 x2 x3 x4 M = some q → WG g E 5 n Rf ex 0 0 279 [(0, rr E.1 194), (2, .int x2), (3, .int x3), (4, .int x4)] [] M) : ∀ (x2 : Int32) (x3 : Int32) (x4 : Int32) (s1 : Int32) (s2 : Int32) (M : Mm), sX12_key_314 k263 k270 k279 x2 x3 x4 s1 s2 M = some q → WG g E 5 n Rf ex 0 0 314 [(0, rr E.1 194), (2, .int x2), (3, .int x3), (4, .int x4)] [.int s2, .int s1, rr E.1 224] M := by
  intro x2 x3 x4 s1 s2 M h
  unfold sX12_key_314 at h
  obtain ⟨c314, h⟩ := ck_some h
  refine g_iast hg ly224 (idb rfl rfl hn) (inb_vp c314) dX12_key_314 ?_
  refine g_inc (lv' := [(4, .int (x4 + 1)), (0, rr E.1 194), (2, .int x2), (3, .int x3)]) hg dX12_key_315 kI_1 3 rfl (by decide) rfl ?_
  refine g_goto (tgt := 279) hg dX12_key_318 (by decide) ?_
  refine g_sub (lv' := [(0, rr E.1 194), (2, .int x2), (3, .int x3), (4, .int (x4 + 1))]) [1, 2, 3, 0] rfl ?_
  exact hk279 _ _ _ _ h
theorem lkX12_key_279 {g : Gm} {l0 : Launch} {E : En} {d n : Nat} {Rf : Nat → Nat → Nat} {ex : Bool} {kq : Nat × Nat} (hn : 238 ≤ n) (hRf : RfOk 194 238 kq Rf) (hg : Ok g l0 E cX12_key RX12 5 (d + 9) 0 0) {q : Int32 × Mm} (hr : Ret g E 0 0 (some .int) ex n Rf (some (.int q.1)) q.2) {k263 : Int32 → Mm → Option (Int32 × Mm)} (hk263 : ∀ (x2 : Int32) (M : Mm), k263 x2 M = some q → WG g E 5 n Rf ex 0 0 263 [(0, rr E.1 194), (2, .int x2)] [] M) {k270 : Int32 → Int32 → Mm → Option (Int32 × Mm)} (hk270 : ∀ (x2 : Int32) (x3 : Int32) (M : Mm), k270 x2 x3 M = some q → WG g E 5 n Rf ex 0 0 270 [(0, rr E.1 194), (2, .int x2), (3, .int x3)] [] M) : ∀ (F : Nat) (x2 : Int32) (x3 : Int32) (x4 : Int32) (M : Mm), sX12_key_279 k263 k270 F x2 x3 x4 M = some q → WG g E 5 n Rf ex 0 0 279 [(0, rr E.1 194), (2, .int x2), (3, .int x3), (4, .int x4)] [] M := by
  intro F
  induction F with
  | zero =>
    intro x2 x3 x4 M h
    cases h
  | succ F ih =>
    intro x2 x3 x4 M h
    rw [sX12_key_279] at h
    refine g_iload hg dX12_key_279 3 rfl ?_
    refine g_bipush hg dX12_key_281 kB_8 ?_
    refine g_icmp_ge (tgt := 321) hg dX12_key_283 (by decide) (fun c => ?_) (fun c => ?_)
    · replace h := itT c h
      refine g_inc (lv' := [(3, .int (x3 + 1)), (0, rr E.1 194), (2, .int x2), (4, .int x4)]) hg dX12_key_321 kI_1 2 rfl (by decide) rfl ?_
      refine g_goto (tgt := 270) hg dX12_key_324 (by decide) ?_
      refine g_sub (lv' := [(0, rr E.1 194), (2, .int x2), (3, .int (x3 + 1))]) [1, 2, 0] rfl ?_
      exact hk270 _ _ _ h
    · replace h := itF c h
      refine g_rload_n hg dX12_key_286 rfl 0 rfl ?_
      refine g_getR (r := 224) hg fl_X12_126 ly194 rfl (idb rfl rfl hn) (rfc hRf rfl rfl rfl rfl) (by decide) dX12_key_287 ?_
      refine g_bipush hg dX12_key_290 kB_64 ?_
      refine g_iload_n hg dX12_key_292 rfl 1 rfl ?_
      refine g_imul hg dX12_key_293 ?_
      refine g_bipush hg dX12_key_294 kB_8 ?_
      refine g_iload_n hg dX12_key_296 rfl 2 rfl ?_
      refine g_imul hg dX12_key_297 ?_
      refine g_iadd hg dX12_key_298 ?_
      refine g_iload hg dX12_key_299 3 rfl ?_
      refine g_iadd hg dX12_key_301 ?_
      refine g_iload_n hg dX12_key_302 rfl 2 rfl ?_
      refine g_iload hg dX12_key_303 3 rfl ?_
      refine g_icmp_ne (tgt := 313) hg dX12_key_305 (by decide) (fun c => ?_) (fun c => ?_)
      · rw [if_neg c] at h
        refine g_iconst hg dX12_key_313 kI_0 ?_
        exact lkX12_key_314 hn hRf hg hr hk263 hk270 ih _ _ _ _ _ _ h
      · rw [if_pos c] at h
        refine g_bipush hg dX12_key_308 kB_16 ?_
        refine g_goto (tgt := 314) hg dX12_key_310 (by decide) ?_
        exact lkX12_key_314 hn hRf hg hr hk263 hk270 ih _ _ _ _ _ _ h
theorem lkX12_key_270 {g : Gm} {l0 : Launch} {E : En} {d n : Nat} {Rf : Nat → Nat → Nat} {ex : Bool} {kq : Nat × Nat} (hn : 238 ≤ n) (hRf : RfOk 194 238 kq Rf) (hg : Ok g l0 E cX12_key RX12 5 (d + 9) 0 0) {q : Int32 × Mm} (hr : Ret g E 0 0 (some .int) ex n Rf (some (.int q.1)) q.2) {k263 : Int32 → Mm → Option (Int32 × Mm)} (hk263 : ∀ (x2 : Int32) (M : Mm), k263 x2 M = some q → WG g E 5 n Rf ex 0 0 263 [(0, rr E.1 194), (2, .int x2)] [] M) : ∀ (F : Nat) (x2 : Int32) (x3 : Int32) (M : Mm), sX12_key_270 k263 F x2 x3 M = some q → WG g E 5 n Rf ex 0 0 270 [(0, rr E.1 194), (2, .int x2), (3, .int x3)] [] M := by
  intro F
  induction F with
  | zero =>
    intro x2 x3 M h
    cases h
  | succ F ih =>
    intro x2 x3 M h
    rw [sX12_key_270] at h
    refine g_iload_n hg dX12_key_270 rfl 2 rfl ?_
    refine g_bipush hg dX12_key_271 kB_8 ?_
    refine g_icmp_ge (tgt := 327) hg dX12_key_273 (by decide) (fun c => ?_) (fun c => ?_)
    · replace h := itT c h
      refine g_inc (lv' := [(2, .int (x2 + 1)), (0, rr E.1 194), (3, .int x3)]) hg dX12_key_327 kI_1 1 rfl (by decide) rfl ?_
      refine g_goto (tgt := 263) hg dX12_key_330 (by decide) ?_
      refine g_sub (lv' := [(0, rr E.1 194), (2, .int (x2 + 1))]) [1, 0] rfl ?_
      exact hk263 _ _ h
    · replace h := itF c h
      refine g_iconst hg dX12_key_276 kI_0 ?_
      refine g_istore (lv' := [(4, .int 0), (0, rr E.1 194), (2, .int x2), (3, .int x3)]) hg dX12_key_277 (by decide) rfl ?_
      refine g_sub (lv' := [(0, rr E.1 194), (2, .int x2), (3, .int x3), (4, .int 0)]) [1, 2, 3, 0] rfl ?_
      exact lkX12_key_279 hn hRf hg hr hk263 ih 4096 _ _ _ _ h
theorem lkX12_key_263 {g : Gm} {l0 : Launch} {E : En} {d n : Nat} {Rf : Nat → Nat → Nat} {ex : Bool} {kq : Nat × Nat} (hn : 238 ≤ n) (hRf : RfOk 194 238 kq Rf) (hg : Ok g l0 E cX12_key RX12 5 (d + 9) 0 0) {q : Int32 × Mm} (hr : Ret g E 0 0 (some .int) ex n Rf (some (.int q.1)) q.2) : ∀ (F : Nat) (x2 : Int32) (M : Mm), sX12_key_263 F x2 M = some q → WG g E 5 n Rf ex 0 0 263 [(0, rr E.1 194), (2, .int x2)] [] M := by
  intro F
  induction F with
  | zero =>
    intro x2 M h
    cases h
  | succ F ih =>
    intro x2 M h
    rw [sX12_key_263] at h
    refine g_iload_n hg dX12_key_263 rfl 1 rfl ?_
    refine g_iconst hg dX12_key_264 kI_3 ?_
    refine g_icmp_ge (tgt := 333) hg dX12_key_265 (by decide) (fun c => ?_) (fun c => ?_)
    · replace h := itT c h
      refine g_iconst hg dX12_key_333 kI_0 ?_
      refine g_istore_n (lv' := [(2, .int 0), (0, rr E.1 194)]) hg dX12_key_334 rfl (by decide) rfl ?_
      refine g_sub (lv' := [(0, rr E.1 194), (2, .int 0)]) [1, 0] rfl ?_
      exact lkX12_key_335 hn hRf hg hr  4096 _ _ h
    · replace h := itF c h
      refine g_iconst hg dX12_key_268 kI_0 ?_
      refine g_istore_n (lv' := [(3, .int 0), (0, rr E.1 194), (2, .int x2)]) hg dX12_key_269 rfl (by decide) rfl ?_
      refine g_sub (lv' := [(0, rr E.1 194), (2, .int x2), (3, .int 0)]) [1, 2, 0] rfl ?_
      exact lkX12_key_270 hn hRf hg hr ih 4096 _ _ _ h
theorem lkX12_key_202 {g : Gm} {l0 : Launch} {E : En} {d n : Nat} {Rf : Nat → Nat → Nat} {ex : Bool} {kq : Nat × Nat} (hn : 238 ≤ n) (hRf : RfOk 194 238 kq Rf) (hg : Ok g l0 E cX12_key RX12 5 (d + 9) 0 0) {q : Int32 × Mm} (hr : Ret g E 0 0 (some .int) ex n Rf (some (.int q.1)) q.2) : ∀ (F : Nat) (x2 : Int32) (M : Mm), sX12_key_202 F x2 M = some q → WG g E 5 n Rf ex 0 0 202 [(0, rr E.1 194), (2, .int x2)] [] M := by
  intro F
  induction F with
  | zero =>
    intro x2 M h
    cases h
  | succ F ih =>
    intro x2 M h
    rw [sX12_key_202] at h
    refine g_iload_n hg dX12_key_202 rfl 1 rfl ?_
    refine g_rload_n hg dX12_key_203 rfl 0 rfl ?_
    refine g_getI hg fl_X12_333 ly194 rfl (idb rfl rfl hn) dX12_key_204 ?_
    refine g_icmp_ge (tgt := 261) hg dX12_key_207 (by decide) (fun c => ?_) (fun c => ?_)
    · replace h := itT c h
      refine g_iconst hg dX12_key_261 kI_0 ?_
      refine g_istore_n (lv' := [(2, .int 0), (0, rr E.1 194)]) hg dX12_key_262 rfl (by decide) rfl ?_
      refine g_sub (lv' := [(0, rr E.1 194), (2, .int 0)]) [1, 0] rfl ?_
      exact lkX12_key_263 hn hRf hg hr  4096 _ _ h
    · replace h := itF c h
      refine g_rload_n hg dX12_key_210 rfl 0 rfl ?_
      refine g_getR (r := 210) hg fl_X12_84 ly194 rfl (idb rfl rfl hn) (rfc hRf rfl rfl rfl rfl) (by decide) dX12_key_211 ?_
      refine g_iload_n hg dX12_key_214 rfl 1 rfl ?_
      refine g_rload_n hg dX12_key_215 rfl 0 rfl ?_
      refine g_getR (r := 210) hg fl_X12_84 ly194 rfl (idb rfl rfl hn) (rfc hRf rfl rfl rfl rfl) (by decide) dX12_key_216 ?_
      refine g_bipush hg dX12_key_219 kB_16 ?_
      refine g_iload_n hg dX12_key_221 rfl 1 rfl ?_
      refine g_iadd hg dX12_key_222 ?_
      obtain ⟨c223, h⟩ := ck_some h
      refine g_iald hg ly210 (idb rfl rfl hn) (inb_vp c223) dX12_key_223 ?_
      obtain ⟨c224, h⟩ := ck_some h
      refine g_iast hg ly210 (idb rfl rfl hn) (inb_vp c224) dX12_key_224 ?_
      refine g_rload_n hg dX12_key_225 rfl 0 rfl ?_
      refine g_getR (r := 211) hg fl_X12_87 ly194 rfl (idb rfl rfl hn) (rfc hRf rfl rfl rfl rfl) (by decide) dX12_key_226 ?_
      refine g_iload_n hg dX12_key_229 rfl 1 rfl ?_
      refine g_rload_n hg dX12_key_230 rfl 0 rfl ?_
      refine g_getR (r := 211) hg fl_X12_87 ly194 rfl (idb rfl rfl hn) (rfc hRf rfl rfl rfl rfl) (by decide) dX12_key_231 ?_
      refine g_bipush hg dX12_key_234 kB_16 ?_
      refine g_iload_n hg dX12_key_236 rfl 1 rfl ?_
      refine g_iadd hg dX12_key_237 ?_
      obtain ⟨c238, h⟩ := ck_some h
      refine g_iald hg ly211 (idb rfl rfl hn) (inb_vp c238) dX12_key_238 ?_
      obtain ⟨c239, h⟩ := ck_some h
      refine g_iast hg ly211 (idb rfl rfl hn) (inb_vp c239) dX12_key_239 ?_
      refine g_rload_n hg dX12_key_240 rfl 0 rfl ?_
      refine g_getR (r := 212) hg fl_X12_90 ly194 rfl (idb rfl rfl hn) (rfc hRf rfl rfl rfl rfl) (by decide) dX12_key_241 ?_
      refine g_iload_n hg dX12_key_244 rfl 1 rfl ?_
      refine g_rload_n hg dX12_key_245 rfl 0 rfl ?_
      refine g_getR (r := 212) hg fl_X12_90 ly194 rfl (idb rfl rfl hn) (rfc hRf rfl rfl rfl rfl) (by decide) dX12_key_246 ?_
      refine g_bipush hg dX12_key_249 kB_16 ?_
      refine g_iload_n hg dX12_key_251 rfl 1 rfl ?_
      refine g_iadd hg dX12_key_252 ?_
      obtain ⟨c253, h⟩ := ck_some h
      refine g_iald hg ly212 (idb rfl rfl hn) (inb_vp c253) dX12_key_253 ?_
      obtain ⟨c254, h⟩ := ck_some h
      refine g_iast hg ly212 (idb rfl rfl hn) (inb_vp c254) dX12_key_254 ?_
      refine g_inc (lv' := [(2, .int (x2 + 1)), (0, rr E.1 194)]) hg dX12_key_255 kI_1 1 rfl (by decide) rfl ?_
      refine g_goto (tgt := 202) hg dX12_key_258 (by decide) ?_
      refine g_sub (lv' := [(0, rr E.1 194), (2, .int (x2 + 1))]) [1, 0] rfl ?_
      exact ih _ _ h
theorem lkX12_key_87 {g : Gm} {l0 : Launch} {E : En} {d n : Nat} {Rf : Nat → Nat → Nat} {ex : Bool} {kq : Nat × Nat} (hn : 238 ≤ n) (hRf : RfOk 194 238 kq Rf) (hg : Ok g l0 E cX12_key RX12 5 (d + 9) 0 0) {q : Int32 × Mm} (hr : Ret g E 0 0 (some .int) ex n Rf (some (.int q.1)) q.2) : ∀ (F : Nat) (x2 : Int32) (M : Mm), sX12_key_87 F x2 M = some q → WG g E 5 n Rf ex 0 0 87 [(0, rr E.1 194), (2, .int x2)] [] M := by
  intro F
  induction F with
  | zero =>
    intro x2 M h
    cases h
  | succ F ih =>
    intro x2 M h
    rw [sX12_key_87] at h
    refine g_iload_n hg dX12_key_87 rfl 1 rfl ?_
    refine g_rload_n hg dX12_key_88 rfl 0 rfl ?_
    refine g_getI hg fl_X12_336 ly194 rfl (idb rfl rfl hn) dX12_key_89 ?_
    refine g_icmp_ge (tgt := 200) hg dX12_key_92 (by decide) (fun c => ?_) (fun c => ?_)
    · replace h := itT c h
      refine g_iconst hg dX12_key_200 kI_0 ?_
      refine g_istore_n (lv' := [(2, .int 0), (0, rr E.1 194)]) hg dX12_key_201 rfl (by decide) rfl ?_
      refine g_sub (lv' := [(0, rr E.1 194), (2, .int 0)]) [1, 0] rfl ?_
      exact lkX12_key_202 hn hRf hg hr  4096 _ _ h
    · replace h := itF c h
      refine g_rload_n hg dX12_key_95 rfl 0 rfl ?_
      refine g_getR (r := 213) hg fl_X12_93 ly194 rfl (idb rfl rfl hn) (rfc hRf rfl rfl rfl rfl) (by decide) dX12_key_96 ?_
      refine g_iload_n hg dX12_key_99 rfl 1 rfl ?_
      refine g_rload_n hg dX12_key_100 rfl 0 rfl ?_
      refine g_getR (r := 213) hg fl_X12_93 ly194 rfl (idb rfl rfl hn) (rfc hRf rfl rfl rfl rfl) (by decide) dX12_key_101 ?_
      refine g_bipush hg dX12_key_104 kB_96 ?_
      refine g_iload_n hg dX12_key_106 rfl 1 rfl ?_
      refine g_iadd hg dX12_key_107 ?_
      obtain ⟨c108, h⟩ := ck_some h
      refine g_iald hg ly213 (idb rfl rfl hn) (inb_vp c108) dX12_key_108 ?_
      obtain ⟨c109, h⟩ := ck_some h
      refine g_iast hg ly213 (idb rfl rfl hn) (inb_vp c109) dX12_key_109 ?_
      refine g_rload_n hg dX12_key_110 rfl 0 rfl ?_
      refine g_getR (r := 214) hg fl_X12_96 ly194 rfl (idb rfl rfl hn) (rfc hRf rfl rfl rfl rfl) (by decide) dX12_key_111 ?_
      refine g_iload_n hg dX12_key_114 rfl 1 rfl ?_
      refine g_rload_n hg dX12_key_115 rfl 0 rfl ?_
      refine g_getR (r := 214) hg fl_X12_96 ly194 rfl (idb rfl rfl hn) (rfc hRf rfl rfl rfl rfl) (by decide) dX12_key_116 ?_
      refine g_bipush hg dX12_key_119 kB_96 ?_
      refine g_iload_n hg dX12_key_121 rfl 1 rfl ?_
      refine g_iadd hg dX12_key_122 ?_
      obtain ⟨c123, h⟩ := ck_some h
      refine g_iald hg ly214 (idb rfl rfl hn) (inb_vp c123) dX12_key_123 ?_
      obtain ⟨c124, h⟩ := ck_some h
      refine g_iast hg ly214 (idb rfl rfl hn) (inb_vp c124) dX12_key_124 ?_
      refine g_rload_n hg dX12_key_125 rfl 0 rfl ?_
      refine g_getR (r := 215) hg fl_X12_99 ly194 rfl (idb rfl rfl hn) (rfc hRf rfl rfl rfl rfl) (by decide) dX12_key_126 ?_
      refine g_iload_n hg dX12_key_129 rfl 1 rfl ?_
      refine g_rload_n hg dX12_key_130 rfl 0 rfl ?_
      refine g_getR (r := 215) hg fl_X12_99 ly194 rfl (idb rfl rfl hn) (rfc hRf rfl rfl rfl rfl) (by decide) dX12_key_131 ?_
      refine g_bipush hg dX12_key_134 kB_96 ?_
      refine g_iload_n hg dX12_key_136 rfl 1 rfl ?_
      refine g_iadd hg dX12_key_137 ?_
      obtain ⟨c138, h⟩ := ck_some h
      refine g_iald hg ly215 (idb rfl rfl hn) (inb_vp c138) dX12_key_138 ?_
      obtain ⟨c139, h⟩ := ck_some h
      refine g_iast hg ly215 (idb rfl rfl hn) (inb_vp c139) dX12_key_139 ?_
      refine g_rload_n hg dX12_key_140 rfl 0 rfl ?_
      refine g_getR (r := 216) hg fl_X12_102 ly194 rfl (idb rfl rfl hn) (rfc hRf rfl rfl rfl rfl) (by decide) dX12_key_141 ?_
      refine g_iload_n hg dX12_key_144 rfl 1 rfl ?_
      refine g_rload_n hg dX12_key_145 rfl 0 rfl ?_
      refine g_getR (r := 216) hg fl_X12_102 ly194 rfl (idb rfl rfl hn) (rfc hRf rfl rfl rfl rfl) (by decide) dX12_key_146 ?_
      refine g_bipush hg dX12_key_149 kB_96 ?_
      refine g_iload_n hg dX12_key_151 rfl 1 rfl ?_
      refine g_iadd hg dX12_key_152 ?_
      obtain ⟨c153, h⟩ := ck_some h
      refine g_iald hg ly216 (idb rfl rfl hn) (inb_vp c153) dX12_key_153 ?_
      refine g_bipush hg dX12_key_154 kB_96 ?_
      refine g_isub hg dX12_key_156 ?_
      obtain ⟨c157, h⟩ := ck_some h
      refine g_iast hg ly216 (idb rfl rfl hn) (inb_vp c157) dX12_key_157 ?_
      refine g_rload_n hg dX12_key_158 rfl 0 rfl ?_
      refine g_getR (r := 217) hg fl_X12_105 ly194 rfl (idb rfl rfl hn) (rfc hRf rfl rfl rfl rfl) (by decide) dX12_key_159 ?_
      refine g_iload_n hg dX12_key_162 rfl 1 rfl ?_
      refine g_rload_n hg dX12_key_163 rfl 0 rfl ?_
      refine g_getR (r := 217) hg fl_X12_105 ly194 rfl (idb rfl rfl hn) (rfc hRf rfl rfl rfl rfl) (by decide) dX12_key_164 ?_
      refine g_bipush hg dX12_key_167 kB_96 ?_
      refine g_iload_n hg dX12_key_169 rfl 1 rfl ?_
      refine g_iadd hg dX12_key_170 ?_
      obtain ⟨c171, h⟩ := ck_some h
      refine g_iald hg ly217 (idb rfl rfl hn) (inb_vp c171) dX12_key_171 ?_
      refine g_bipush hg dX12_key_172 kB_96 ?_
      refine g_isub hg dX12_key_174 ?_
      obtain ⟨c175, h⟩ := ck_some h
      refine g_iast hg ly217 (idb rfl rfl hn) (inb_vp c175) dX12_key_175 ?_
      refine g_rload_n hg dX12_key_176 rfl 0 rfl ?_
      refine g_getR (r := 218) hg fl_X12_108 ly194 rfl (idb rfl rfl hn) (rfc hRf rfl rfl rfl rfl) (by decide) dX12_key_177 ?_
      refine g_iload_n hg dX12_key_180 rfl 1 rfl ?_
      refine g_rload_n hg dX12_key_181 rfl 0 rfl ?_
      refine g_getR (r := 218) hg fl_X12_108 ly194 rfl (idb rfl rfl hn) (rfc hRf rfl rfl rfl rfl) (by decide) dX12_key_182 ?_
      refine g_bipush hg dX12_key_185 kB_96 ?_
      refine g_iload_n hg dX12_key_187 rfl 1 rfl ?_
      refine g_iadd hg dX12_key_188 ?_
      obtain ⟨c189, h⟩ := ck_some h
      refine g_iald hg ly218 (idb rfl rfl hn) (inb_vp c189) dX12_key_189 ?_
      refine g_bipush hg dX12_key_190 kB_96 ?_
      refine g_isub hg dX12_key_192 ?_
      obtain ⟨c193, h⟩ := ck_some h
      refine g_iast hg ly218 (idb rfl rfl hn) (inb_vp c193) dX12_key_193 ?_
      refine g_inc (lv' := [(2, .int (x2 + 1)), (0, rr E.1 194)]) hg dX12_key_194 kI_1 1 rfl (by decide) rfl ?_
      refine g_goto (tgt := 87) hg dX12_key_197 (by decide) ?_
      refine g_sub (lv' := [(0, rr E.1 194), (2, .int (x2 + 1))]) [1, 0] rfl ?_
      exact ih _ _ h
theorem lkX12_key_45 {g : Gm} {l0 : Launch} {E : En} {d n : Nat} {Rf : Nat → Nat → Nat} {ex : Bool} {kq : Nat × Nat} (hn : 238 ≤ n) (hRf : RfOk 194 238 kq Rf) (hg : Ok g l0 E cX12_key RX12 5 (d + 9) 0 0) {q : Int32 × Mm} (hr : Ret g E 0 0 (some .int) ex n Rf (some (.int q.1)) q.2) : ∀ (F : Nat)  (M : Mm), sX12_key_45 F  M = some q → WG g E 5 n Rf ex 0 0 45 [(0, rr E.1 194)] [] M := by
  intro F
  induction F with
  | zero =>
    intro M h
    cases h
  | succ F ih =>
    intro M h
    rw [sX12_key_45] at h
    refine g_rload_n hg dX12_key_45 rfl 0 rfl ?_
    refine g_getI hg fl_X12_199 ly194 rfl (idb rfl rfl hn) dX12_key_46 ?_
    refine g_if_eq (tgt := 61) hg dX12_key_49 (by decide) (fun c => ?_) (fun c => ?_)
    · replace h := itT c h
      refine g_rload_n hg dX12_key_61 rfl 0 rfl ?_
      refine g_rload_n hg dX12_key_62 rfl 0 rfl ?_
      refine g_getI hg fl_X12_315 ly194 rfl (idb rfl rfl hn) dX12_key_63 ?_
      refine g_putI hg fp_X12_330 ly194 rfl (idb rfl rfl hn) dX12_key_66 ?_
      refine g_rload_n hg dX12_key_69 rfl 0 rfl ?_
      refine g_rload_n hg dX12_key_70 rfl 0 rfl ?_
      refine g_getI hg fl_X12_318 ly194 rfl (idb rfl rfl hn) dX12_key_71 ?_
      refine g_putI hg fp_X12_333 ly194 rfl (idb rfl rfl hn) dX12_key_74 ?_
      refine g_rload_n hg dX12_key_77 rfl 0 rfl ?_
      refine g_rload_n hg dX12_key_78 rfl 0 rfl ?_
      refine g_getI hg fl_X12_254 ly194 rfl (idb rfl rfl hn) dX12_key_79 ?_
      refine g_putI hg fp_X12_336 ly194 rfl (idb rfl rfl hn) dX12_key_82 ?_
      refine g_iconst hg dX12_key_85 kI_0 ?_
      refine g_istore_n (lv' := [(2, .int 0), (0, rr E.1 194)]) hg dX12_key_86 rfl (by decide) rfl ?_
      refine g_sub (lv' := [(0, rr E.1 194), (2, .int 0)]) [1, 0] rfl ?_
      exact lkX12_key_87 hn hRf hg hr  4096 _ _ h
    · replace h := itF c h
      refine g_rload_n hg dX12_key_52 rfl 0 rfl ?_
      obtain ⟨q53, e53, h⟩ := Option.bind_eq_some_iff.mp h
      refine g_callVi (As := []) (rest := []) hg (lkX12_lineRead (by omega) hn hRf  e53) cv_X12_327 rfl ly194 (idb rfl rfl hn) rfl rfl (Nat.le_of_ble_eq_true rfl) ⟨Nat.le_refl _, Nat.le_refl _⟩ dX12_key_53 ?_
      refine g_if_ne (tgt := 45) hg dX12_key_56 (by decide) (fun c => ?_) (fun c => ?_)
      · replace h := itF c h
        exact ih _ h
      · replace h := itT c h
        refine g_iconst hg dX12_key_59 kI_m1 ?_
        replace h := Option.some.inj h
        subst h
        exact g_iret hg hr dX12_key_60
theorem lkX12_key {l0 : Launch} {E : En} {d n : Nat} {Rf : Nat → Nat → Nat} {ex : Bool} {kq : Nat × Nat} (hd : 9 ≤ d) (hn : 238 ≤ n) (hRf : RfOk 194 238 kq Rf) {x1 : Int32} {M : Mm} {q : Int32 × Mm} (h : sX12_key x1 M = some q) : Ct l0 E yX12_key cX12_key 5 (some .int) d 0 0 [rr E.1 194, .int x1] ex n Rf M n Rf (some (.int q.1)) q.2 := by
  obtain ⟨d, rfl⟩ := Nat.exists_eq_add_of_le' hd
  refine Ct.of pnX12 (Nat.le_of_ble_eq_true rfl) (fun g hg hr _ => ?_)
  replace hg : Ok g l0 E cX12_key RX12 5 (d + 9) 0 0 := hg
  show WG g E 5 n Rf ex 0 0 0 [(0, rr E.1 194), (1, .int x1)] [] M
  unfold sX12_key at h
  refine g_rload_n hg dX12_key_0 rfl 0 rfl ?_
  refine g_iconst hg dX12_key_1 kI_0 ?_
  refine g_putI hg fp_X12_171 ly194 rfl (idb rfl rfl hn) dX12_key_2 ?_
  refine g_iload_n hg dX12_key_5 rfl 1 rfl ?_
  refine g_if_lt (tgt := 17) hg dX12_key_6 (by decide) (fun c => ?_) (fun c => ?_)
  · replace h := itT c h
    refine g_bipush hg dX12_key_17 kB_m2 ?_
    replace h := Option.some.inj h
    subst h
    exact g_iret hg hr dX12_key_19
  · replace h := itF c h
    refine g_iload_n hg dX12_key_9 rfl 1 rfl ?_
    refine g_rload_n hg dX12_key_10 rfl 0 rfl ?_
    refine g_getI hg fl_X12_177 ly194 rfl (idb rfl rfl hn) dX12_key_11 ?_
    refine g_icmp_le (tgt := 20) hg dX12_key_14 (by decide) (fun c => ?_) (fun c => ?_)
    · replace h := itT c h
      refine g_rload_n hg dX12_key_20 rfl 0 rfl ?_
      refine g_iload_n hg dX12_key_21 rfl 1 rfl ?_
      obtain ⟨M22, e22, h⟩ := Option.bind_eq_some_iff.mp h
      refine g_callVv (As := [.int x1]) (rest := []) hg (lkX12_begins (by omega) hn hRf  e22) cv_X12_243 rfl ly194 (idb rfl rfl hn) rfl rfl (Nat.le_of_ble_eq_true rfl) ⟨Nat.le_refl _, Nat.le_refl _⟩ dX12_key_22 ?_
      refine g_rload_n hg dX12_key_25 rfl 0 rfl ?_
      refine g_iconst hg dX12_key_26 kI_0 ?_
      refine g_putI hg fp_X12_315 ly194 rfl (idb rfl rfl hn) dX12_key_27 ?_
      refine g_rload_n hg dX12_key_30 rfl 0 rfl ?_
      refine g_iconst hg dX12_key_31 kI_0 ?_
      refine g_putI hg fp_X12_318 ly194 rfl (idb rfl rfl hn) dX12_key_32 ?_
      refine g_rload_n hg dX12_key_35 rfl 0 rfl ?_
      refine g_iconst hg dX12_key_36 kI_0 ?_
      refine g_putI hg fp_X12_254 ly194 rfl (idb rfl rfl hn) dX12_key_37 ?_
      refine g_rload_n hg dX12_key_40 rfl 0 rfl ?_
      refine g_iconst hg dX12_key_41 kI_0 ?_
      refine g_putI hg fp_X12_260 ly194 rfl (idb rfl rfl hn) dX12_key_42 ?_
      refine g_sub (lv' := [(0, rr E.1 194)]) [0] rfl ?_
      exact lkX12_key_45 hn hRf hg hr  4096 _ h
    · replace h := itF c h
      refine g_bipush hg dX12_key_17 kB_m2 ?_
      replace h := Option.some.inj h
      subst h
      exact g_iret hg hr dX12_key_19
theorem lkX12_holds {l0 : Launch} {E : En} {d n : Nat} {Rf : Nat → Nat → Nat} {ex : Bool} {kq : Nat × Nat} (hd : 1 ≤ d) (hn : 238 ≤ n) (hRf : RfOk 194 238 kq Rf) {x0 : Int32} {x1 : Int32} {x2 : Int32} {M : Mm} {q : Int32 × Mm} (h : sX12_holds x0 x1 x2 M = some q) : Ct l0 E yX12_holds cX12_holds 3 (some .boolean) d 0 0 [.int x0, .int x1, .int x2] ex n Rf M n Rf (some (.int q.1)) q.2 := by
  obtain ⟨d, rfl⟩ := Nat.exists_eq_add_of_le' hd
  refine Ct.of pnX12 (Nat.le_of_ble_eq_true rfl) (fun g hg hr _ => ?_)
  replace hg : Ok g l0 E cX12_holds RX12 3 (d + 1) 0 0 := hg
  show WG g E 3 n Rf ex 0 0 0 [(0, .int x0), (1, .int x1), (2, .int x2)] [] M
  unfold sX12_holds at h
  refine g_iload_n hg dX12_holds_0 rfl 1 rfl ?_
  refine g_iconst hg dX12_holds_1 kI_1 ?_
  refine g_icmp_ne (tgt := 18) hg dX12_holds_2 (by decide) (fun c => ?_) (fun c => ?_)
  · rw [if_neg c] at h
    refine g_iload_n hg dX12_holds_18 rfl 1 rfl ?_
    refine g_iconst hg dX12_holds_19 kI_2 ?_
    refine g_icmp_ne (tgt := 36) hg dX12_holds_20 (by decide) (fun c => ?_) (fun c => ?_)
    · rw [if_neg c] at h
      refine g_iload_n hg dX12_holds_36 rfl 1 rfl ?_
      refine g_iconst hg dX12_holds_37 kI_3 ?_
      refine g_icmp_ne (tgt := 54) hg dX12_holds_38 (by decide) (fun c => ?_) (fun c => ?_)
      · rw [if_neg c] at h
        refine g_iload_n hg dX12_holds_54 rfl 1 rfl ?_
        refine g_iconst hg dX12_holds_55 kI_4 ?_
        refine g_icmp_ne (tgt := 72) hg dX12_holds_56 (by decide) (fun c => ?_) (fun c => ?_)
        · rw [if_neg c] at h
          refine g_iload_n hg dX12_holds_72 rfl 0 rfl ?_
          refine g_iload_n hg dX12_holds_73 rfl 2 rfl ?_
          refine g_icmp_le (tgt := 81) hg dX12_holds_74 (by decide) (fun c => ?_) (fun c => ?_)
          · rw [if_pos c] at h
            refine g_iconst hg dX12_holds_81 kI_0 ?_
            replace h := Option.some.inj h
            subst h
            exact g_zret hg hr rfl dX12_holds_82
          · rw [if_neg c] at h
            refine g_iconst hg dX12_holds_77 kI_1 ?_
            refine g_goto (tgt := 82) hg dX12_holds_78 (by decide) ?_
            replace h := Option.some.inj h
            subst h
            exact g_zret hg hr rfl dX12_holds_82
        · rw [if_pos c] at h
          refine g_iload_n hg dX12_holds_59 rfl 0 rfl ?_
          refine g_iload_n hg dX12_holds_60 rfl 2 rfl ?_
          refine g_icmp_lt (tgt := 68) hg dX12_holds_61 (by decide) (fun c => ?_) (fun c => ?_)
          · rw [if_pos c] at h
            refine g_iconst hg dX12_holds_68 kI_0 ?_
            refine g_goto (tgt := 82) hg dX12_holds_69 (by decide) ?_
            replace h := Option.some.inj h
            subst h
            exact g_zret hg hr rfl dX12_holds_82
          · rw [if_neg c] at h
            refine g_iconst hg dX12_holds_64 kI_1 ?_
            refine g_goto (tgt := 82) hg dX12_holds_65 (by decide) ?_
            replace h := Option.some.inj h
            subst h
            exact g_zret hg hr rfl dX12_holds_82
      · rw [if_pos c] at h
        refine g_iload_n hg dX12_holds_41 rfl 0 rfl ?_
        refine g_iload_n hg dX12_holds_42 rfl 2 rfl ?_
        refine g_icmp_ne (tgt := 50) hg dX12_holds_43 (by decide) (fun c => ?_) (fun c => ?_)
        · rw [if_neg c] at h
          refine g_iconst hg dX12_holds_50 kI_0 ?_
          refine g_goto (tgt := 82) hg dX12_holds_51 (by decide) ?_
          replace h := Option.some.inj h
          subst h
          exact g_zret hg hr rfl dX12_holds_82
        · rw [if_pos c] at h
          refine g_iconst hg dX12_holds_46 kI_1 ?_
          refine g_goto (tgt := 82) hg dX12_holds_47 (by decide) ?_
          replace h := Option.some.inj h
          subst h
          exact g_zret hg hr rfl dX12_holds_82
    · rw [if_pos c] at h
      refine g_iload_n hg dX12_holds_23 rfl 0 rfl ?_
      refine g_iload_n hg dX12_holds_24 rfl 2 rfl ?_
      refine g_icmp_gt (tgt := 32) hg dX12_holds_25 (by decide) (fun c => ?_) (fun c => ?_)
      · rw [if_pos c] at h
        refine g_iconst hg dX12_holds_32 kI_0 ?_
        refine g_goto (tgt := 82) hg dX12_holds_33 (by decide) ?_
        replace h := Option.some.inj h
        subst h
        exact g_zret hg hr rfl dX12_holds_82
      · rw [if_neg c] at h
        refine g_iconst hg dX12_holds_28 kI_1 ?_
        refine g_goto (tgt := 82) hg dX12_holds_29 (by decide) ?_
        replace h := Option.some.inj h
        subst h
        exact g_zret hg hr rfl dX12_holds_82
  · rw [if_pos c] at h
    refine g_iload_n hg dX12_holds_5 rfl 0 rfl ?_
    refine g_iload_n hg dX12_holds_6 rfl 2 rfl ?_
    refine g_icmp_ge (tgt := 14) hg dX12_holds_7 (by decide) (fun c => ?_) (fun c => ?_)
    · rw [if_pos c] at h
      refine g_iconst hg dX12_holds_14 kI_0 ?_
      refine g_goto (tgt := 82) hg dX12_holds_15 (by decide) ?_
      replace h := Option.some.inj h
      subst h
      exact g_zret hg hr rfl dX12_holds_82
    · rw [if_neg c] at h
      refine g_iconst hg dX12_holds_10 kI_1 ?_
      refine g_goto (tgt := 82) hg dX12_holds_11 (by decide) ?_
      replace h := Option.some.inj h
      subst h
      exact g_zret hg hr rfl dX12_holds_82
theorem lkX12_layerOf {l0 : Launch} {E : En} {d n : Nat} {Rf : Nat → Nat → Nat} {ex : Bool} {kq : Nat × Nat} (hd : 1 ≤ d) (hn : 238 ≤ n) (hRf : RfOk 194 238 kq Rf) {x1 : Int32} {x2 : Int32} {x3 : Int32} {M : Mm} {q : Int32 × Mm} (h : sX12_layerOf x1 x2 x3 M = some q) : Ct l0 E yX12_layerOf cX12_layerOf 4 (some .int) d 0 0 [rr E.1 194, .int x1, .int x2, .int x3] ex n Rf M n Rf (some (.int q.1)) q.2 := by
  obtain ⟨d, rfl⟩ := Nat.exists_eq_add_of_le' hd
  refine Ct.of pnX12 (Nat.le_of_ble_eq_true rfl) (fun g hg hr _ => ?_)
  replace hg : Ok g l0 E cX12_layerOf RX12 4 (d + 1) 0 0 := hg
  show WG g E 4 n Rf ex 0 0 0 [(0, rr E.1 194), (1, .int x1), (2, .int x2), (3, .int x3)] [] M
  unfold sX12_layerOf at h
  refine g_rload_n hg dX12_layerOf_0 rfl 0 rfl ?_
  refine g_getR (r := 206) hg fl_X12_71 ly194 rfl (idb rfl rfl hn) (rfc hRf rfl rfl rfl rfl) (by decide) dX12_layerOf_1 ?_
  refine g_bipush hg dX12_layerOf_4 kB_48 ?_
  refine g_iload_n hg dX12_layerOf_6 rfl 1 rfl ?_
  refine g_imul hg dX12_layerOf_7 ?_
  refine g_bipush hg dX12_layerOf_8 kB_6 ?_
  refine g_iload_n hg dX12_layerOf_10 rfl 2 rfl ?_
  refine g_imul hg dX12_layerOf_11 ?_
  refine g_iadd hg dX12_layerOf_12 ?_
  refine g_iload_n hg dX12_layerOf_13 rfl 3 rfl ?_
  refine g_iadd hg dX12_layerOf_14 ?_
  obtain ⟨c15, h⟩ := ck_some h
  refine g_iald hg ly206 (idb rfl rfl hn) (inb_vp c15) dX12_layerOf_15 ?_
  replace h := Option.some.inj h
  subst h
  exact g_iret hg hr dX12_layerOf_16
theorem lkX12_layersSo_174 {g : Gm} {l0 : Launch} {E : En} {d n : Nat} {Rf : Nat → Nat → Nat} {ex : Bool} {kq : Nat × Nat} (hn : 238 ≤ n) (hRf : RfOk 194 238 kq Rf) (hg : Ok g l0 E cX12_layersSo RX12 8 (d + 2) 0 0) {q : Int32 × Mm} (hr : Ret g E 0 0 (some .int) ex n Rf (some (.int q.1)) q.2) {k13 : Int32 → Int32 → Int32 → Int32 → Int32 → Mm → Option (Int32 × Mm)} (hk13 : ∀ (x1 : Int32) (x2 : Int32) (x3 : Int32) (x4 : Int32) (x5 : Int32) (M : Mm), k13 x1 x2 x3 x4 x5 M = some q → WG g E 8 n Rf ex 0 0 13 [(0, rr E.1 194), (1, .int x1), (2, .int x2), (3, .int x3), (4, .int x4), (5, .int x5)] [] M) : ∀ (x1 : Int32) (x2 : Int32) (x3 : Int32) (x5 : Int32) (s0 : Int32) (s1 : Int32) (M : Mm), sX12_layersSo_174 k13 x1 x2 x3 x5 s0 s1 M = some q → WG g E 8 n Rf ex 0 0 174 [(0, rr E.1 194), (1, .int x1), (2, .int x2), (3, .int x3), (5, .int x5)] [.int s1, .int s0] M := by
  intro x1 x2 x3 x5 s0 s1 M h
  unfold sX12_layersSo_174 at h
  refine g_ior hg dX12_layersSo_174 ?_
  refine g_istore (lv' := [(4, .int (s0 ||| s1)), (0, rr E.1 194), (1, .int x1), (2, .int x2), (3, .int x3), (5, .int x5)]) hg dX12_layersSo_175 (by decide) rfl ?_
  refine g_inc (lv' := [(5, .int (x5 + 1)), (4, .int (s0 ||| s1)), (0, rr E.1 194), (1, .int x1), (2, .int x2), (3, .int x3)]) hg dX12_layersSo_177 kI_1 5 rfl (by decide) rfl ?_
  refine g_goto (tgt := 13) hg dX12_layersSo_180 (by decide) ?_
  refine g_sub (lv' := [(0, rr E.1 194), (1, .int x1), (2, .int x2), (3, .int x3), (4, .int (s0 ||| s1)), (5, .int (x5 + 1))]) [2, 3, 4, 5, 1, 0] rfl ?_
  exact hk13 _ _ _ _ _ _ h
theorem lkX12_layersSo_157 {g : Gm} {l0 : Launch} {E : En} {d n : Nat} {Rf : Nat → Nat → Nat} {ex : Bool} {kq : Nat × Nat} (hn : 238 ≤ n) (hRf : RfOk 194 238 kq Rf) (hg : Ok g l0 E cX12_layersSo RX12 8 (d + 2) 0 0) {q : Int32 × Mm} (hr : Ret g E 0 0 (some .int) ex n Rf (some (.int q.1)) q.2) {k13 : Int32 → Int32 → Int32 → Int32 → Int32 → Mm → Option (Int32 × Mm)} (hk13 : ∀ (x1 : Int32) (x2 : Int32) (x3 : Int32) (x4 : Int32) (x5 : Int32) (M : Mm), k13 x1 x2 x3 x4 x5 M = some q → WG g E 8 n Rf ex 0 0 13 [(0, rr E.1 194), (1, .int x1), (2, .int x2), (3, .int x3), (4, .int x4), (5, .int x5)] [] M) : ∀ (x1 : Int32) (x2 : Int32) (x3 : Int32) (x4 : Int32) (x5 : Int32) (s0 : Int32) (M : Mm), sX12_layersSo_157 k13 x1 x2 x3 x4 x5 s0 M = some q → WG g E 8 n Rf ex 0 0 157 [(0, rr E.1 194), (1, .int x1), (2, .int x2), (3, .int x3), (4, .int x4), (5, .int x5)] [.int s0] M := by
  intro x1 x2 x3 x4 x5 s0 M h
  unfold sX12_layersSo_157 at h
  refine g_istore (lv' := [(7, .int s0), (0, rr E.1 194), (1, .int x1), (2, .int x2), (3, .int x3), (4, .int x4), (5, .int x5)]) hg dX12_layersSo_157 (by decide) rfl ?_
  refine g_iload hg dX12_layersSo_159 5 rfl ?_
  refine g_iload hg dX12_layersSo_161 0 rfl ?_
  refine g_if_eq (tgt := 173) hg dX12_layersSo_163 (by decide) (fun c => ?_) (fun c => ?_)
  · rw [if_pos c] at h
    refine g_iconst hg dX12_layersSo_173 kI_0 ?_
    refine g_sub (lv' := [(0, rr E.1 194), (1, .int x1), (2, .int x2), (3, .int x3), (5, .int x5)]) [1, 2, 3, 4, 6] rfl ?_
    exact lkX12_layersSo_174 hn hRf hg hr hk13 _ _ _ _ _ _ _ h
  · rw [if_neg c] at h
    refine g_iconst hg dX12_layersSo_166 kI_1 ?_
    refine g_iload hg dX12_layersSo_167 6 rfl ?_
    refine g_ishl hg dX12_layersSo_169 ?_
    refine g_goto (tgt := 174) hg dX12_layersSo_170 (by decide) ?_
    refine g_sub (lv' := [(0, rr E.1 194), (1, .int x1), (2, .int x2), (3, .int x3), (5, .int x5)]) [1, 2, 3, 4, 6] rfl ?_
    exact lkX12_layersSo_174 hn hRf hg hr hk13 _ _ _ _ _ _ _ h
theorem lkX12_layersSo_142 {g : Gm} {l0 : Launch} {E : En} {d n : Nat} {Rf : Nat → Nat → Nat} {ex : Bool} {kq : Nat × Nat} (hn : 238 ≤ n) (hRf : RfOk 194 238 kq Rf) (hg : Ok g l0 E cX12_layersSo RX12 8 (d + 2) 0 0) {q : Int32 × Mm} (hr : Ret g E 0 0 (some .int) ex n Rf (some (.int q.1)) q.2) {k13 : Int32 → Int32 → Int32 → Int32 → Int32 → Mm → Option (Int32 × Mm)} (hk13 : ∀ (x1 : Int32) (x2 : Int32) (x3 : Int32) (x4 : Int32) (x5 : Int32) (M : Mm), k13 x1 x2 x3 x4 x5 M = some q → WG g E 8 n Rf ex 0 0 13 [(0, rr E.1 194), (1, .int x1), (2, .int x2), (3, .int x3), (4, .int x4), (5, .int x5)] [] M) : ∀ (x1 : Int32) (x2 : Int32) (x3 : Int32) (x4 : Int32) (x5 : Int32) (s0 : Int32) (M : Mm), sX12_layersSo_142 k13 x1 x2 x3 x4 x5 s0 M = some q → WG g E 8 n Rf ex 0 0 142 [(0, rr E.1 194), (1, .int x1), (2, .int x2), (3, .int x3), (4, .int x4), (5, .int x5)] [.int s0] M := by
  intro x1 x2 x3 x4 x5 s0 M h
  unfold sX12_layersSo_142 at h
  refine g_rload_n hg dX12_layersSo_142 rfl 0 rfl ?_
  refine g_getR (r := 214) hg fl_X12_96 ly194 rfl (idb rfl rfl hn) (rfc hRf rfl rfl rfl rfl) (by decide) dX12_layersSo_143 ?_
  refine g_iload_n hg dX12_layersSo_146 rfl 2 rfl ?_
  obtain ⟨c147, h⟩ := ck_some h
  refine g_iald hg ly214 (idb rfl rfl hn) (inb_vp c147) dX12_layersSo_147 ?_
  refine g_rload_n hg dX12_layersSo_148 rfl 0 rfl ?_
  refine g_getR (r := 215) hg fl_X12_99 ly194 rfl (idb rfl rfl hn) (rfc hRf rfl rfl rfl rfl) (by decide) dX12_layersSo_149 ?_
  refine g_iload_n hg dX12_layersSo_152 rfl 2 rfl ?_
  obtain ⟨c153, h⟩ := ck_some h
  refine g_iald hg ly215 (idb rfl rfl hn) (inb_vp c153) dX12_layersSo_153 ?_
  obtain ⟨q154, e154, h⟩ := Option.bind_eq_some_iff.mp h
  refine g_callSi (As := [.int s0, .int (M.1 214 x2.toNatClampNeg), .int (M.1 215 x2.toNatClampNeg)]) (rest := []) hg (lkX12_holds (by omega) hn hRf  e154) cs_X12_343 rfl rfl (Nat.le_of_ble_eq_true rfl) ⟨Nat.le_refl _, Nat.le_refl _⟩ dX12_layersSo_154 ?_
  exact lkX12_layersSo_157 hn hRf hg hr hk13 _ _ _ _ _ _ _ h
theorem lkX12_layersSo_13 {g : Gm} {l0 : Launch} {E : En} {d n : Nat} {Rf : Nat → Nat → Nat} {ex : Bool} {kq : Nat × Nat} (hn : 238 ≤ n) (hRf : RfOk 194 238 kq Rf) (hg : Ok g l0 E cX12_layersSo RX12 8 (d + 2) 0 0) {q : Int32 × Mm} (hr : Ret g E 0 0 (some .int) ex n Rf (some (.int q.1)) q.2) : ∀ (F : Nat) (x1 : Int32) (x2 : Int32) (x3 : Int32) (x4 : Int32) (x5 : Int32) (M : Mm), sX12_layersSo_13 F x1 x2 x3 x4 x5 M = some q → WG g E 8 n Rf ex 0 0 13 [(0, rr E.1 194), (1, .int x1), (2, .int x2), (3, .int x3), (4, .int x4), (5, .int x5)] [] M := by
  intro F
  induction F with
  | zero =>
    intro x1 x2 x3 x4 x5 M h
    cases h
  | succ F ih =>
    intro x1 x2 x3 x4 x5 M h
    rw [sX12_layersSo_13] at h
    refine g_iload hg dX12_layersSo_13 5 rfl ?_
    refine g_rload_n hg dX12_layersSo_15 rfl 0 rfl ?_
    refine g_getR (r := 205) hg fl_X12_68 ly194 rfl (idb rfl rfl hn) (rfc hRf rfl rfl rfl rfl) (by decide) dX12_layersSo_16 ?_
    refine g_iload_n hg dX12_layersSo_19 rfl 1 rfl ?_
    obtain ⟨c20, h⟩ := ck_some h
    refine g_iald hg ly205 (idb rfl rfl hn) (inb_vp c20) dX12_layersSo_20 ?_
    refine g_icmp_ge (tgt := 183) hg dX12_layersSo_21 (by decide) (fun c => ?_) (fun c => ?_)
    · replace h := itT c h
      refine g_iload hg dX12_layersSo_183 4 rfl ?_
      replace h := Option.some.inj h
      subst h
      exact g_iret hg hr dX12_layersSo_185
    · replace h := itF c h
      refine g_rload_n hg dX12_layersSo_24 rfl 0 rfl ?_
      refine g_iload_n hg dX12_layersSo_25 rfl 1 rfl ?_
      refine g_iload hg dX12_layersSo_26 5 rfl ?_
      refine g_iconst hg dX12_layersSo_28 kI_1 ?_
      obtain ⟨q29, e29, h⟩ := Option.bind_eq_some_iff.mp h
      refine g_callVi (As := [.int x1, .int x5, .int 1]) (rest := []) hg (lkX12_layerOf (by omega) hn hRf  e29) cv_X12_339 rfl ly194 (idb rfl rfl hn) rfl rfl (Nat.le_of_ble_eq_true rfl) ⟨Nat.le_refl _, Nat.le_refl _⟩ dX12_layersSo_29 ?_
      refine g_rload_n hg dX12_layersSo_32 rfl 0 rfl ?_
      refine g_iload_n hg dX12_layersSo_33 rfl 1 rfl ?_
      refine g_iload hg dX12_layersSo_34 5 rfl ?_
      refine g_iconst hg dX12_layersSo_36 kI_0 ?_
      obtain ⟨q37, e37, h⟩ := Option.bind_eq_some_iff.mp h
      refine g_callVi (As := [.int x1, .int x5, .int 0]) (rest := [.int q29.1]) hg (lkX12_layerOf (by omega) hn hRf  e37) cv_X12_339 rfl ly194 (idb rfl rfl hn) rfl rfl (Nat.le_of_ble_eq_true rfl) ⟨Nat.le_refl _, Nat.le_refl _⟩ dX12_layersSo_37 ?_
      refine g_isub hg dX12_layersSo_40 ?_
      refine g_istore (lv' := [(6, .int (q29.1 - q37.1)), (0, rr E.1 194), (1, .int x1), (2, .int x2), (3, .int x3), (4, .int x4), (5, .int x5)]) hg dX12_layersSo_41 (by decide) rfl ?_
      refine g_iload_n hg dX12_layersSo_43 rfl 4 rfl ?_
      refine g_iconst hg dX12_layersSo_44 kI_5 ?_
      refine g_icmp_gt (tgt := 68) hg dX12_layersSo_45 (by decide) (fun c => ?_) (fun c => ?_)
      · replace h := itT c h
        refine g_iload_n hg dX12_layersSo_68 rfl 4 rfl ?_
        refine g_bipush hg dX12_layersSo_69 kB_10 ?_
        refine g_icmp_gt (tgt := 97) hg dX12_layersSo_71 (by decide) (fun c => ?_) (fun c => ?_)
        · replace h := itT c h
          refine g_iload_n hg dX12_layersSo_97 rfl 4 rfl ?_
          refine g_bipush hg dX12_layersSo_98 kB_11 ?_
          refine g_icmp_ne (tgt := 123) hg dX12_layersSo_100 (by decide) (fun c => ?_) (fun c => ?_)
          · replace h := itF c h
            refine g_iload_n hg dX12_layersSo_123 rfl 4 rfl ?_
            refine g_bipush hg dX12_layersSo_124 kB_12 ?_
            refine g_icmp_ne (tgt := 140) hg dX12_layersSo_126 (by decide) (fun c => ?_) (fun c => ?_)
            · replace h := itF c h
              refine g_iload hg dX12_layersSo_140 0 rfl ?_
              refine g_sub (lv' := [(0, rr E.1 194), (1, .int x1), (2, .int x2), (3, .int x3), (4, .int x4), (5, .int x5)]) [1, 2, 3, 4, 5, 6] rfl ?_
              exact lkX12_layersSo_142 hn hRf hg hr ih _ _ _ _ _ _ _ h
            · replace h := itT c h
              refine g_rload_n hg dX12_layersSo_129 rfl 1 rfl ?_
              refine g_iload_n hg dX12_layersSo_130 rfl 2 rfl ?_
              refine g_iload hg dX12_layersSo_131 6 rfl ?_
              refine g_iconst hg dX12_layersSo_133 kI_5 ?_
              obtain ⟨q134, e134, h⟩ := Option.bind_eq_some_iff.mp h
              refine g_callVi (As := [.int x1, .int x5, .int 5]) (rest := []) hg (lkX12_layerOf (by omega) hn hRf  e134) cv_X12_339 rfl ly194 (idb rfl rfl hn) rfl rfl (Nat.le_of_ble_eq_true rfl) ⟨Nat.le_refl _, Nat.le_refl _⟩ dX12_layersSo_134 ?_
              refine g_goto (tgt := 142) hg dX12_layersSo_137 (by decide) ?_
              refine g_sub (lv' := [(0, rr E.1 194), (1, .int x1), (2, .int x2), (3, .int x3), (4, .int x4), (5, .int x5)]) [1, 2, 3, 4, 5, 6] rfl ?_
              exact lkX12_layersSo_142 hn hRf hg hr ih _ _ _ _ _ _ _ h
          · replace h := itT c h
            refine g_rload_n hg dX12_layersSo_103 rfl 1 rfl ?_
            refine g_iload_n hg dX12_layersSo_104 rfl 2 rfl ?_
            refine g_iload hg dX12_layersSo_105 6 rfl ?_
            refine g_iconst hg dX12_layersSo_107 kI_4 ?_
            obtain ⟨q108, e108, h⟩ := Option.bind_eq_some_iff.mp h
            refine g_callVi (As := [.int x1, .int x5, .int 4]) (rest := []) hg (lkX12_layerOf (by omega) hn hRf  e108) cv_X12_339 rfl ly194 (idb rfl rfl hn) rfl rfl (Nat.le_of_ble_eq_true rfl) ⟨Nat.le_refl _, Nat.le_refl _⟩ dX12_layersSo_108 ?_
            refine g_iconst hg dX12_layersSo_111 kI_1 ?_
            refine g_icmp_ne (tgt := 119) hg dX12_layersSo_112 (by decide) (fun c => ?_) (fun c => ?_)
            · rw [if_neg c] at h
              refine g_iconst hg dX12_layersSo_119 kI_0 ?_
              refine g_goto (tgt := 157) hg dX12_layersSo_120 (by decide) ?_
              refine g_sub (lv' := [(0, rr E.1 194), (1, .int x1), (2, .int x2), (3, .int x3), (4, .int x4), (5, .int x5)]) [1, 2, 3, 4, 5, 6] rfl ?_
              exact lkX12_layersSo_157 hn hRf hg hr ih _ _ _ _ _ _ _ h
            · rw [if_pos c] at h
              refine g_iconst hg dX12_layersSo_115 kI_1 ?_
              refine g_goto (tgt := 157) hg dX12_layersSo_116 (by decide) ?_
              refine g_sub (lv' := [(0, rr E.1 194), (1, .int x1), (2, .int x2), (3, .int x3), (4, .int x4), (5, .int x5)]) [1, 2, 3, 4, 5, 6] rfl ?_
              exact lkX12_layersSo_157 hn hRf hg hr ih _ _ _ _ _ _ _ h
        · replace h := itF c h
          refine g_rload_n hg dX12_layersSo_74 rfl 1 rfl ?_
          refine g_iload_n hg dX12_layersSo_75 rfl 2 rfl ?_
          refine g_iload hg dX12_layersSo_76 6 rfl ?_
          refine g_iconst hg dX12_layersSo_78 kI_3 ?_
          obtain ⟨q79, e79, h⟩ := Option.bind_eq_some_iff.mp h
          refine g_callVi (As := [.int x1, .int x5, .int 3]) (rest := []) hg (lkX12_layerOf (by omega) hn hRf  e79) cv_X12_339 rfl ly194 (idb rfl rfl hn) rfl rfl (Nat.le_of_ble_eq_true rfl) ⟨Nat.le_refl _, Nat.le_refl _⟩ dX12_layersSo_79 ?_
          refine g_iload_n hg dX12_layersSo_82 rfl 4 rfl ?_
          refine g_bipush hg dX12_layersSo_83 kB_6 ?_
          refine g_isub hg dX12_layersSo_85 ?_
          refine g_icmp_ne (tgt := 93) hg dX12_layersSo_86 (by decide) (fun c => ?_) (fun c => ?_)
          · rw [if_neg c] at h
            refine g_iconst hg dX12_layersSo_93 kI_0 ?_
            refine g_goto (tgt := 157) hg dX12_layersSo_94 (by decide) ?_
            refine g_sub (lv' := [(0, rr E.1 194), (1, .int x1), (2, .int x2), (3, .int x3), (4, .int x4), (5, .int x5)]) [1, 2, 3, 4, 5, 6] rfl ?_
            exact lkX12_layersSo_157 hn hRf hg hr ih _ _ _ _ _ _ _ h
          · rw [if_pos c] at h
            refine g_iconst hg dX12_layersSo_89 kI_1 ?_
            refine g_goto (tgt := 157) hg dX12_layersSo_90 (by decide) ?_
            refine g_sub (lv' := [(0, rr E.1 194), (1, .int x1), (2, .int x2), (3, .int x3), (4, .int x4), (5, .int x5)]) [1, 2, 3, 4, 5, 6] rfl ?_
            exact lkX12_layersSo_157 hn hRf hg hr ih _ _ _ _ _ _ _ h
      · replace h := itF c h
        refine g_rload_n hg dX12_layersSo_48 rfl 1 rfl ?_
        refine g_iload_n hg dX12_layersSo_49 rfl 2 rfl ?_
        refine g_iload hg dX12_layersSo_50 6 rfl ?_
        refine g_iconst hg dX12_layersSo_52 kI_2 ?_
        obtain ⟨q53, e53, h⟩ := Option.bind_eq_some_iff.mp h
        refine g_callVi (As := [.int x1, .int x5, .int 2]) (rest := []) hg (lkX12_layerOf (by omega) hn hRf  e53) cv_X12_339 rfl ly194 (idb rfl rfl hn) rfl rfl (Nat.le_of_ble_eq_true rfl) ⟨Nat.le_refl _, Nat.le_refl _⟩ dX12_layersSo_53 ?_
        refine g_iload_n hg dX12_layersSo_56 rfl 4 rfl ?_
        refine g_icmp_ne (tgt := 64) hg dX12_layersSo_57 (by decide) (fun c => ?_) (fun c => ?_)
        · rw [if_neg c] at h
          refine g_iconst hg dX12_layersSo_64 kI_0 ?_
          refine g_goto (tgt := 157) hg dX12_layersSo_65 (by decide) ?_
          refine g_sub (lv' := [(0, rr E.1 194), (1, .int x1), (2, .int x2), (3, .int x3), (4, .int x4), (5, .int x5)]) [1, 2, 3, 4, 5, 6] rfl ?_
          exact lkX12_layersSo_157 hn hRf hg hr ih _ _ _ _ _ _ _ h
        · rw [if_pos c] at h
          refine g_iconst hg dX12_layersSo_60 kI_1 ?_
          refine g_goto (tgt := 157) hg dX12_layersSo_61 (by decide) ?_
          refine g_sub (lv' := [(0, rr E.1 194), (1, .int x1), (2, .int x2), (3, .int x3), (4, .int x4), (5, .int x5)]) [1, 2, 3, 4, 5, 6] rfl ?_
          exact lkX12_layersSo_157 hn hRf hg hr ih _ _ _ _ _ _ _ h
theorem lkX12_layersSo {l0 : Launch} {E : En} {d n : Nat} {Rf : Nat → Nat → Nat} {ex : Bool} {kq : Nat × Nat} (hd : 2 ≤ d) (hn : 238 ≤ n) (hRf : RfOk 194 238 kq Rf) {x1 : Int32} {x2 : Int32} {M : Mm} {q : Int32 × Mm} (h : sX12_layersSo x1 x2 M = some q) : Ct l0 E yX12_layersSo cX12_layersSo 8 (some .int) d 0 0 [rr E.1 194, .int x1, .int x2] ex n Rf M n Rf (some (.int q.1)) q.2 := by
  obtain ⟨d, rfl⟩ := Nat.exists_eq_add_of_le' hd
  refine Ct.of pnX12 (Nat.le_of_ble_eq_true rfl) (fun g hg hr _ => ?_)
  replace hg : Ok g l0 E cX12_layersSo RX12 8 (d + 2) 0 0 := hg
  show WG g E 8 n Rf ex 0 0 0 [(0, rr E.1 194), (1, .int x1), (2, .int x2)] [] M
  unfold sX12_layersSo at h
  refine g_rload_n hg dX12_layersSo_0 rfl 0 rfl ?_
  refine g_getR (r := 213) hg fl_X12_93 ly194 rfl (idb rfl rfl hn) (rfc hRf rfl rfl rfl rfl) (by decide) dX12_layersSo_1 ?_
  refine g_iload_n hg dX12_layersSo_4 rfl 2 rfl ?_
  obtain ⟨c5, h⟩ := ck_some h
  refine g_iald hg ly213 (idb rfl rfl hn) (inb_vp c5) dX12_layersSo_5 ?_
  refine g_istore_n (lv' := [(3, .int (M.1 213 x2.toNatClampNeg)), (0, rr E.1 194), (1, .int x1), (2, .int x2)]) hg dX12_layersSo_6 rfl (by decide) rfl ?_
  refine g_iconst hg dX12_layersSo_7 kI_0 ?_
  refine g_istore (lv' := [(4, .int 0), (3, .int (M.1 213 x2.toNatClampNeg)), (0, rr E.1 194), (1, .int x1), (2, .int x2)]) hg dX12_layersSo_8 (by decide) rfl ?_
  refine g_iconst hg dX12_layersSo_10 kI_0 ?_
  refine g_istore (lv' := [(5, .int 0), (4, .int 0), (3, .int (M.1 213 x2.toNatClampNeg)), (0, rr E.1 194), (1, .int x1), (2, .int x2)]) hg dX12_layersSo_11 (by decide) rfl ?_
  refine g_sub (lv' := [(0, rr E.1 194), (1, .int x1), (2, .int x2), (3, .int (M.1 213 x2.toNatClampNeg)), (4, .int 0), (5, .int 0)]) [3, 4, 5, 2, 1, 0] rfl ?_
  exact lkX12_layersSo_13 hn hRf hg hr  4096 _ _ _ _ _ _ h
theorem lkX12_isSo_116 {g : Gm} {l0 : Launch} {E : En} {d n : Nat} {Rf : Nat → Nat → Nat} {ex : Bool} {kq : Nat × Nat} (hn : 238 ≤ n) (hRf : RfOk 194 238 kq Rf) (hg : Ok g l0 E cX12_isSo RX12 8 (d + 2) 0 0) {q : Int32 × Mm} (hr : Ret g E 0 0 (some .boolean) ex n Rf (some (.int q.1)) q.2) {k21 : Int32 → Int32 → Int32 → Int32 → Int32 → Int32 → Int32 → Mm → Option (Int32 × Mm)} (hk21 : ∀ (x1 : Int32) (x2 : Int32) (x3 : Int32) (x4 : Int32) (x5 : Int32) (x6 : Int32) (x7 : Int32) (M : Mm), k21 x1 x2 x3 x4 x5 x6 x7 M = some q → WG g E 8 n Rf ex 0 0 21 [(0, rr E.1 194), (1, .int x1), (2, .int x2), (3, .int x3), (4, .int x4), (5, .int x5), (6, .int x6), (7, .int x7)] [] M) : ∀ (x1 : Int32) (x2 : Int32) (x3 : Int32) (x4 : Int32) (x5 : Int32) (x6 : Int32) (x7 : Int32) (M : Mm), sX12_isSo_116 k21 x1 x2 x3 x4 x5 x6 x7 M = some q → WG g E 8 n Rf ex 0 0 116 [(0, rr E.1 194), (1, .int x1), (2, .int x2), (3, .int x3), (4, .int x4), (5, .int x5), (6, .int x6), (7, .int x7)] [] M := by
  intro x1 x2 x3 x4 x5 x6 x7 M h
  unfold sX12_isSo_116 at h
  refine g_inc (lv' := [(7, .int (x7 + (-1))), (0, rr E.1 194), (1, .int x1), (2, .int x2), (3, .int x3), (4, .int x4), (5, .int x5), (6, .int x6)]) hg dX12_isSo_116 kI_m1 7 rfl (by decide) rfl ?_
  refine g_goto (tgt := 21) hg dX12_isSo_119 (by decide) ?_
  refine g_sub (lv' := [(0, rr E.1 194), (1, .int x1), (2, .int x2), (3, .int x3), (4, .int x4), (5, .int x5), (6, .int x6), (7, .int (x7 + (-1)))]) [1, 2, 3, 4, 5, 6, 7, 0] rfl ?_
  exact hk21 _ _ _ _ _ _ _ _ h
theorem lkX12_isSo_114 {g : Gm} {l0 : Launch} {E : En} {d n : Nat} {Rf : Nat → Nat → Nat} {ex : Bool} {kq : Nat × Nat} (hn : 238 ≤ n) (hRf : RfOk 194 238 kq Rf) (hg : Ok g l0 E cX12_isSo RX12 8 (d + 2) 0 0) {q : Int32 × Mm} (hr : Ret g E 0 0 (some .boolean) ex n Rf (some (.int q.1)) q.2) {k21 : Int32 → Int32 → Int32 → Int32 → Int32 → Int32 → Int32 → Mm → Option (Int32 × Mm)} (hk21 : ∀ (x1 : Int32) (x2 : Int32) (x3 : Int32) (x4 : Int32) (x5 : Int32) (x6 : Int32) (x7 : Int32) (M : Mm), k21 x1 x2 x3 x4 x5 x6 x7 M = some q → WG g E 8 n Rf ex 0 0 21 [(0, rr E.1 194), (1, .int x1), (2, .int x2), (3, .int x3), (4, .int x4), (5, .int x5), (6, .int x6), (7, .int x7)] [] M) : ∀ (x1 : Int32) (x2 : Int32) (x3 : Int32) (x4 : Int32) (x5 : Int32) (x7 : Int32) (s0 : Int32) (M : Mm), sX12_isSo_114 k21 x1 x2 x3 x4 x5 x7 s0 M = some q → WG g E 8 n Rf ex 0 0 114 [(0, rr E.1 194), (1, .int x1), (2, .int x2), (3, .int x3), (4, .int x4), (5, .int x5), (7, .int x7)] [.int s0] M := by
  intro x1 x2 x3 x4 x5 x7 s0 M h
  unfold sX12_isSo_114 at h
  refine g_istore (lv' := [(6, .int s0), (0, rr E.1 194), (1, .int x1), (2, .int x2), (3, .int x3), (4, .int x4), (5, .int x5), (7, .int x7)]) hg dX12_isSo_114 (by decide) rfl ?_
  refine g_sub (lv' := [(0, rr E.1 194), (1, .int x1), (2, .int x2), (3, .int x3), (4, .int x4), (5, .int x5), (6, .int s0), (7, .int x7)]) [1, 2, 3, 4, 5, 6, 0, 7] rfl ?_
  exact lkX12_isSo_116 hn hRf hg hr hk21 _ _ _ _ _ _ _ _ h
theorem lkX12_isSo_109 {g : Gm} {l0 : Launch} {E : En} {d n : Nat} {Rf : Nat → Nat → Nat} {ex : Bool} {kq : Nat × Nat} (hn : 238 ≤ n) (hRf : RfOk 194 238 kq Rf) (hg : Ok g l0 E cX12_isSo RX12 8 (d + 2) 0 0) {q : Int32 × Mm} (hr : Ret g E 0 0 (some .boolean) ex n Rf (some (.int q.1)) q.2) {k21 : Int32 → Int32 → Int32 → Int32 → Int32 → Int32 → Int32 → Mm → Option (Int32 × Mm)} (hk21 : ∀ (x1 : Int32) (x2 : Int32) (x3 : Int32) (x4 : Int32) (x5 : Int32) (x6 : Int32) (x7 : Int32) (M : Mm), k21 x1 x2 x3 x4 x5 x6 x7 M = some q → WG g E 8 n Rf ex 0 0 21 [(0, rr E.1 194), (1, .int x1), (2, .int x2), (3, .int x3), (4, .int x4), (5, .int x5), (6, .int x6), (7, .int x7)] [] M) : ∀ (x1 : Int32) (x2 : Int32) (x3 : Int32) (x4 : Int32) (x5 : Int32) (x7 : Int32) (M : Mm), sX12_isSo_109 k21 x1 x2 x3 x4 x5 x7 M = some q → WG g E 8 n Rf ex 0 0 109 [(0, rr E.1 194), (1, .int x1), (2, .int x2), (3, .int x3), (4, .int x4), (5, .int x5), (7, .int x7)] [] M := by
  intro x1 x2 x3 x4 x5 x7 M h
  unfold sX12_isSo_109 at h
  refine g_iconst hg dX12_isSo_109 kI_1 ?_
  refine g_goto (tgt := 114) hg dX12_isSo_110 (by decide) ?_
  exact lkX12_isSo_114 hn hRf hg hr hk21 _ _ _ _ _ _ _ _ h
theorem lkX12_isSo_113 {g : Gm} {l0 : Launch} {E : En} {d n : Nat} {Rf : Nat → Nat → Nat} {ex : Bool} {kq : Nat × Nat} (hn : 238 ≤ n) (hRf : RfOk 194 238 kq Rf) (hg : Ok g l0 E cX12_isSo RX12 8 (d + 2) 0 0) {q : Int32 × Mm} (hr : Ret g E 0 0 (some .boolean) ex n Rf (some (.int q.1)) q.2) {k21 : Int32 → Int32 → Int32 → Int32 → Int32 → Int32 → Int32 → Mm → Option (Int32 × Mm)} (hk21 : ∀ (x1 : Int32) (x2 : Int32) (x3 : Int32) (x4 : Int32) (x5 : Int32) (x6 : Int32) (x7 : Int32) (M : Mm), k21 x1 x2 x3 x4 x5 x6 x7 M = some q → WG g E 8 n Rf ex 0 0 21 [(0, rr E.1 194), (1, .int x1), (2, .int x2), (3, .int x3), (4, .int x4), (5, .int x5), (6, .int x6), (7, .int x7)] [] M) : ∀ (x1 : Int32) (x2 : Int32) (x3 : Int32) (x4 : Int32) (x5 : Int32) (x7 : Int32) (M : Mm), sX12_isSo_113 k21 x1 x2 x3 x4 x5 x7 M = some q → WG g E 8 n Rf ex 0 0 113 [(0, rr E.1 194), (1, .int x1), (2, .int x2), (3, .int x3), (4, .int x4), (5, .int x5), (7, .int x7)] [] M := by
  intro x1 x2 x3 x4 x5 x7 M h
  unfold sX12_isSo_113 at h
  refine g_iconst hg dX12_isSo_113 kI_0 ?_
  exact lkX12_isSo_114 hn hRf hg hr hk21 _ _ _ _ _ _ _ _ h
theorem lkX12_isSo_21 {g : Gm} {l0 : Launch} {E : En} {d n : Nat} {Rf : Nat → Nat → Nat} {ex : Bool} {kq : Nat × Nat} (hn : 238 ≤ n) (hRf : RfOk 194 238 kq Rf) (hg : Ok g l0 E cX12_isSo RX12 8 (d + 2) 0 0) {q : Int32 × Mm} (hr : Ret g E 0 0 (some .boolean) ex n Rf (some (.int q.1)) q.2) : ∀ (F : Nat) (x1 : Int32) (x2 : Int32) (x3 : Int32) (x4 : Int32) (x5 : Int32) (x6 : Int32) (x7 : Int32) (M : Mm), sX12_isSo_21 F x1 x2 x3 x4 x5 x6 x7 M = some q → WG g E 8 n Rf ex 0 0 21 [(0, rr E.1 194), (1, .int x1), (2, .int x2), (3, .int x3), (4, .int x4), (5, .int x5), (6, .int x6), (7, .int x7)] [] M := by
  intro F
  induction F with
  | zero =>
    intro x1 x2 x3 x4 x5 x6 x7 M h
    cases h
  | succ F ih =>
    intro x1 x2 x3 x4 x5 x6 x7 M h
    rw [sX12_isSo_21] at h
    refine g_iload hg dX12_isSo_21 7 rfl ?_
    refine g_if_lt (tgt := 122) hg dX12_isSo_23 (by decide) (fun c => ?_) (fun c => ?_)
    · replace h := itT c h
      refine g_rload_n hg dX12_isSo_122 rfl 0 rfl ?_
      refine g_getR (r := 213) hg fl_X12_93 ly194 rfl (idb rfl rfl hn) (rfc hRf rfl rfl rfl rfl) (by decide) dX12_isSo_123 ?_
      refine g_iload_n hg dX12_isSo_126 rfl 2 rfl ?_
      obtain ⟨c127, h⟩ := ck_some h
      refine g_iald hg ly213 (idb rfl rfl hn) (inb_vp c127) dX12_isSo_127 ?_
      by_cases c0w : (M.1 213 x2.toNatClampNeg) = 17
      · replace h := itT c0w h
        refine g_tabI (tgt := 160) (off := 32) hg dX12_isSo_128 c0w (by decide) (by decide) ?_
        refine g_iload_n hg dX12_isSo_160 rfl 3 rfl ?_
        refine g_if_eq (tgt := 168) hg dX12_isSo_161 (by decide) (fun c => ?_) (fun c => ?_)
        · rw [if_pos c] at h
          refine g_iconst hg dX12_isSo_168 kI_0 ?_
          replace h := Option.some.inj h
          subst h
          exact g_zret hg hr rfl dX12_isSo_169
        · rw [if_neg c] at h
          refine g_iconst hg dX12_isSo_164 kI_1 ?_
          refine g_goto (tgt := 169) hg dX12_isSo_165 (by decide) ?_
          replace h := Option.some.inj h
          subst h
          exact g_zret hg hr rfl dX12_isSo_169
      replace h := itF c0w h
      by_cases c1w : (M.1 213 x2.toNatClampNeg) = 18
      · replace h := itT c1w h
        refine g_tabI (tgt := 170) (off := 42) hg dX12_isSo_128 c1w (by decide) (by decide) ?_
        refine g_iload_n hg dX12_isSo_170 rfl 3 rfl ?_
        refine g_iconst hg dX12_isSo_171 kI_1 ?_
        refine g_rload_n hg dX12_isSo_172 rfl 0 rfl ?_
        refine g_getR (r := 205) hg fl_X12_68 ly194 rfl (idb rfl rfl hn) (rfc hRf rfl rfl rfl rfl) (by decide) dX12_isSo_173 ?_
        refine g_iload_n hg dX12_isSo_176 rfl 1 rfl ?_
        obtain ⟨c177, h⟩ := ck_some h
        refine g_iald hg ly205 (idb rfl rfl hn) (inb_vp c177) dX12_isSo_177 ?_
        refine g_ishl hg dX12_isSo_178 ?_
        refine g_iconst hg dX12_isSo_179 kI_1 ?_
        refine g_isub hg dX12_isSo_180 ?_
        refine g_icmp_ne (tgt := 188) hg dX12_isSo_181 (by decide) (fun c => ?_) (fun c => ?_)
        · rw [if_neg c] at h
          refine g_iconst hg dX12_isSo_188 kI_0 ?_
          replace h := Option.some.inj h
          subst h
          exact g_zret hg hr rfl dX12_isSo_189
        · rw [if_pos c] at h
          refine g_iconst hg dX12_isSo_184 kI_1 ?_
          refine g_goto (tgt := 189) hg dX12_isSo_185 (by decide) ?_
          replace h := Option.some.inj h
          subst h
          exact g_zret hg hr rfl dX12_isSo_189
      replace h := itF c1w h
      by_cases c2w : (M.1 213 x2.toNatClampNeg) = 19
      · replace h := itT c2w h
        refine g_tabI (tgt := 190) (off := 62) hg dX12_isSo_128 c2w (by decide) (by decide) ?_
        refine g_iload hg dX12_isSo_190 6 rfl ?_
        obtain ⟨c192, h⟩ := ck_some h
        replace h := Option.some.inj h
        subst h
        exact g_zret hg hr (isb_nar c192) dX12_isSo_192
      replace h := itF c2w h
      by_cases c3w : (M.1 213 x2.toNatClampNeg) = 20
      · replace h := itT c3w h
        refine g_tabI (tgt := 193) (off := 65) hg dX12_isSo_128 c3w (by decide) (by decide) ?_
        refine g_iload hg dX12_isSo_193 4 rfl ?_
        refine g_rload_n hg dX12_isSo_195 rfl 0 rfl ?_
        refine g_getR (r := 214) hg fl_X12_96 ly194 rfl (idb rfl rfl hn) (rfc hRf rfl rfl rfl rfl) (by decide) dX12_isSo_196 ?_
        refine g_iload_n hg dX12_isSo_199 rfl 2 rfl ?_
        obtain ⟨c200, h⟩ := ck_some h
        refine g_iald hg ly214 (idb rfl rfl hn) (inb_vp c200) dX12_isSo_200 ?_
        refine g_rload_n hg dX12_isSo_201 rfl 0 rfl ?_
        refine g_getR (r := 215) hg fl_X12_99 ly194 rfl (idb rfl rfl hn) (rfc hRf rfl rfl rfl rfl) (by decide) dX12_isSo_202 ?_
        refine g_iload_n hg dX12_isSo_205 rfl 2 rfl ?_
        obtain ⟨c206, h⟩ := ck_some h
        refine g_iald hg ly215 (idb rfl rfl hn) (inb_vp c206) dX12_isSo_206 ?_
        obtain ⟨q207, e207, h⟩ := Option.bind_eq_some_iff.mp h
        refine g_callSi (As := [.int x4, .int (M.1 214 x2.toNatClampNeg), .int (M.1 215 x2.toNatClampNeg)]) (rest := []) hg (lkX12_holds (by omega) hn hRf  e207) cs_X12_343 rfl rfl (Nat.le_of_ble_eq_true rfl) ⟨Nat.le_refl _, Nat.le_refl _⟩ dX12_isSo_207 ?_
        obtain ⟨c210, h⟩ := ck_some h
        replace h := Option.some.inj h
        subst h
        exact g_zret hg hr (isb_nar c210) dX12_isSo_210
      replace h := itF c3w h
      refine g_tabO (tgt := 211) hg dX12_isSo_128 (by have e0w := lv_neT (a := 17) c0w (by decide); have e1w := lv_neT (a := 18) c1w (by decide); have e2w := lv_neT (a := 19) c2w (by decide); have e3w := lv_neT (a := 20) c3w (by decide); omega) (by decide) ?_
      refine g_iload hg dX12_isSo_211 5 rfl ?_
      refine g_rload_n hg dX12_isSo_213 rfl 0 rfl ?_
      refine g_getR (r := 214) hg fl_X12_96 ly194 rfl (idb rfl rfl hn) (rfc hRf rfl rfl rfl rfl) (by decide) dX12_isSo_214 ?_
      refine g_iload_n hg dX12_isSo_217 rfl 2 rfl ?_
      obtain ⟨c218, h⟩ := ck_some h
      refine g_iald hg ly214 (idb rfl rfl hn) (inb_vp c218) dX12_isSo_218 ?_
      refine g_rload_n hg dX12_isSo_219 rfl 0 rfl ?_
      refine g_getR (r := 215) hg fl_X12_99 ly194 rfl (idb rfl rfl hn) (rfc hRf rfl rfl rfl rfl) (by decide) dX12_isSo_220 ?_
      refine g_iload_n hg dX12_isSo_223 rfl 2 rfl ?_
      obtain ⟨c224, h⟩ := ck_some h
      refine g_iald hg ly215 (idb rfl rfl hn) (inb_vp c224) dX12_isSo_224 ?_
      obtain ⟨q225, e225, h⟩ := Option.bind_eq_some_iff.mp h
      refine g_callSi (As := [.int x5, .int (M.1 214 x2.toNatClampNeg), .int (M.1 215 x2.toNatClampNeg)]) (rest := []) hg (lkX12_holds (by omega) hn hRf  e225) cs_X12_343 rfl rfl (Nat.le_of_ble_eq_true rfl) ⟨Nat.le_refl _, Nat.le_refl _⟩ dX12_isSo_225 ?_
      obtain ⟨c228, h⟩ := ck_some h
      replace h := Option.some.inj h
      subst h
      exact g_zret hg hr (isb_nar c228) dX12_isSo_228
    · replace h := itF c h
      refine g_iload_n hg dX12_isSo_26 rfl 3 rfl ?_
      refine g_iload hg dX12_isSo_27 7 rfl ?_
      refine g_ishr hg dX12_isSo_29 ?_
      refine g_iconst hg dX12_isSo_30 kI_1 ?_
      refine g_iand hg dX12_isSo_31 ?_
      refine g_if_ne (tgt := 38) hg dX12_isSo_32 (by decide) (fun c => ?_) (fun c => ?_)
      · replace h := itF c h
        refine g_iload hg dX12_isSo_38 4 rfl ?_
        refine g_rload_n hg dX12_isSo_40 rfl 0 rfl ?_
        refine g_iload_n hg dX12_isSo_41 rfl 1 rfl ?_
        refine g_iload hg dX12_isSo_42 7 rfl ?_
        refine g_iconst hg dX12_isSo_44 kI_1 ?_
        obtain ⟨q45, e45, h⟩ := Option.bind_eq_some_iff.mp h
        refine g_callVi (As := [.int x1, .int x7, .int 1]) (rest := [.int x4]) hg (lkX12_layerOf (by omega) hn hRf  e45) cv_X12_339 rfl ly194 (idb rfl rfl hn) rfl rfl (Nat.le_of_ble_eq_true rfl) ⟨Nat.le_refl _, Nat.le_refl _⟩ dX12_isSo_45 ?_
        refine g_rload_n hg dX12_isSo_48 rfl 0 rfl ?_
        refine g_iload_n hg dX12_isSo_49 rfl 1 rfl ?_
        refine g_iload hg dX12_isSo_50 7 rfl ?_
        refine g_iconst hg dX12_isSo_52 kI_0 ?_
        obtain ⟨q53, e53, h⟩ := Option.bind_eq_some_iff.mp h
        refine g_callVi (As := [.int x1, .int x7, .int 0]) (rest := [.int q45.1, .int x4]) hg (lkX12_layerOf (by omega) hn hRf  e53) cv_X12_339 rfl ly194 (idb rfl rfl hn) rfl rfl (Nat.le_of_ble_eq_true rfl) ⟨Nat.le_refl _, Nat.le_refl _⟩ dX12_isSo_53 ?_
        refine g_isub hg dX12_isSo_56 ?_
        refine g_iadd hg dX12_isSo_57 ?_
        refine g_istore (lv' := [(4, .int (x4 + (q45.1 - q53.1))), (0, rr E.1 194), (1, .int x1), (2, .int x2), (3, .int x3), (5, .int x5), (6, .int x6), (7, .int x7)]) hg dX12_isSo_58 (by decide) rfl ?_
        refine g_rload_n hg dX12_isSo_60 rfl 1 rfl ?_
        refine g_iload_n hg dX12_isSo_61 rfl 2 rfl ?_
        refine g_iload hg dX12_isSo_62 7 rfl ?_
        refine g_iconst hg dX12_isSo_64 kI_0 ?_
        obtain ⟨q65, e65, h⟩ := Option.bind_eq_some_iff.mp h
        refine g_callVi (As := [.int x1, .int x7, .int 0]) (rest := []) hg (lkX12_layerOf (by omega) hn hRf  e65) cv_X12_339 rfl ly194 (idb rfl rfl hn) rfl rfl (Nat.le_of_ble_eq_true rfl) ⟨Nat.le_refl _, Nat.le_refl _⟩ dX12_isSo_65 ?_
        refine g_istore (lv' := [(5, .int q65.1), (4, .int (x4 + (q45.1 - q53.1))), (0, rr E.1 194), (1, .int x1), (2, .int x2), (3, .int x3), (6, .int x6), (7, .int x7)]) hg dX12_isSo_68 (by decide) rfl ?_
        refine g_iload hg dX12_isSo_70 6 rfl ?_
        refine g_if_ne (tgt := 109) hg dX12_isSo_72 (by decide) (fun c => ?_) (fun c => ?_)
        · replace h := itF c h
          refine g_sub (lv' := [(0, rr E.1 194), (1, .int x1), (2, .int x2), (3, .int x3), (4, .int (x4 + (q45.1 - q53.1))), (5, .int q65.1), (7, .int x7)]) [2, 3, 4, 5, 1, 0, 7] rfl ?_
          exact lkX12_isSo_109 hn hRf hg hr ih _ _ _ _ _ _ _ h
        · replace h := itT c h
          refine g_rload_n hg dX12_isSo_75 rfl 2 rfl ?_
          refine g_iload_n hg dX12_isSo_76 rfl 3 rfl ?_
          refine g_iload hg dX12_isSo_77 7 rfl ?_
          refine g_iconst hg dX12_isSo_79 kI_0 ?_
          obtain ⟨q80, e80, h⟩ := Option.bind_eq_some_iff.mp h
          refine g_callVi (As := [.int x1, .int x7, .int 0]) (rest := []) hg (lkX12_layerOf (by omega) hn hRf  e80) cv_X12_339 rfl ly194 (idb rfl rfl hn) rfl rfl (Nat.le_of_ble_eq_true rfl) ⟨Nat.le_refl _, Nat.le_refl _⟩ dX12_isSo_80 ?_
          refine g_rload_n hg dX12_isSo_83 rfl 2 rfl ?_
          refine g_getR (r := 215) hg fl_X12_99 ly194 rfl (idb rfl rfl hn) (rfc hRf rfl rfl rfl rfl) (by decide) dX12_isSo_84 ?_
          refine g_iload_n hg dX12_isSo_87 rfl 4 rfl ?_
          obtain ⟨c88, h⟩ := ck_some h
          refine g_iald hg ly215 (idb rfl rfl hn) (inb_vp c88) dX12_isSo_88 ?_
          refine g_icmp_gt (tgt := 113) hg dX12_isSo_89 (by decide) (fun c => ?_) (fun c => ?_)
          · replace h := itT c h
            refine g_sub (lv' := [(0, rr E.1 194), (1, .int x1), (2, .int x2), (3, .int x3), (4, .int (x4 + (q45.1 - q53.1))), (5, .int q65.1), (7, .int x7)]) [2, 3, 4, 5, 1, 0, 7] rfl ?_
            exact lkX12_isSo_113 hn hRf hg hr ih _ _ _ _ _ _ _ h
          · replace h := itF c h
            refine g_rload_n hg dX12_isSo_92 rfl 2 rfl ?_
            refine g_getR (r := 215) hg fl_X12_99 ly194 rfl (idb rfl rfl hn) (rfc hRf rfl rfl rfl rfl) (by decide) dX12_isSo_93 ?_
            refine g_iload_n hg dX12_isSo_96 rfl 4 rfl ?_
            obtain ⟨c97, h⟩ := ck_some h
            refine g_iald hg ly215 (idb rfl rfl hn) (inb_vp c97) dX12_isSo_97 ?_
            refine g_rload_n hg dX12_isSo_98 rfl 2 rfl ?_
            refine g_iload_n hg dX12_isSo_99 rfl 3 rfl ?_
            refine g_iload hg dX12_isSo_100 7 rfl ?_
            refine g_iconst hg dX12_isSo_102 kI_1 ?_
            obtain ⟨q103, e103, h⟩ := Option.bind_eq_some_iff.mp h
            refine g_callVi (As := [.int x1, .int x7, .int 1]) (rest := [.int (q80.2.1 215 x2.toNatClampNeg)]) hg (lkX12_layerOf (by omega) hn hRf  e103) cv_X12_339 rfl ly194 (idb rfl rfl hn) rfl rfl (Nat.le_of_ble_eq_true rfl) ⟨Nat.le_refl _, Nat.le_refl _⟩ dX12_isSo_103 ?_
            refine g_icmp_ge (tgt := 113) hg dX12_isSo_106 (by decide) (fun c => ?_) (fun c => ?_)
            · replace h := itT c h
              refine g_sub (lv' := [(0, rr E.1 194), (1, .int x1), (2, .int x2), (3, .int x3), (4, .int (x4 + (q45.1 - q53.1))), (5, .int q65.1), (7, .int x7)]) [2, 3, 4, 5, 1, 0, 7] rfl ?_
              exact lkX12_isSo_113 hn hRf hg hr ih _ _ _ _ _ _ _ h
            · replace h := itF c h
              refine g_sub (lv' := [(0, rr E.1 194), (1, .int x1), (2, .int x2), (3, .int x3), (4, .int (x4 + (q45.1 - q53.1))), (5, .int q65.1), (7, .int x7)]) [2, 3, 4, 5, 1, 0, 7] rfl ?_
              exact lkX12_isSo_109 hn hRf hg hr ih _ _ _ _ _ _ _ h
      · replace h := itT c h
        refine g_goto (tgt := 116) hg dX12_isSo_35 (by decide) ?_
        exact lkX12_isSo_116 hn hRf hg hr ih _ _ _ _ _ _ _ _ h
theorem lkX12_isSo {l0 : Launch} {E : En} {d n : Nat} {Rf : Nat → Nat → Nat} {ex : Bool} {kq : Nat × Nat} (hd : 2 ≤ d) (hn : 238 ≤ n) (hRf : RfOk 194 238 kq Rf) {x1 : Int32} {x2 : Int32} {x3 : Int32} {M : Mm} {q : Int32 × Mm} (h : sX12_isSo x1 x2 x3 M = some q) : Ct l0 E yX12_isSo cX12_isSo 8 (some .boolean) d 0 0 [rr E.1 194, .int x1, .int x2, .int x3] ex n Rf M n Rf (some (.int q.1)) q.2 := by
  obtain ⟨d, rfl⟩ := Nat.exists_eq_add_of_le' hd
  refine Ct.of pnX12 (Nat.le_of_ble_eq_true rfl) (fun g hg hr _ => ?_)
  replace hg : Ok g l0 E cX12_isSo RX12 8 (d + 2) 0 0 := hg
  show WG g E 8 n Rf ex 0 0 0 [(0, rr E.1 194), (1, .int x1), (2, .int x2), (3, .int x3)] [] M
  unfold sX12_isSo at h
  refine g_iconst hg dX12_isSo_0 kI_0 ?_
  refine g_istore (lv' := [(4, .int 0), (0, rr E.1 194), (1, .int x1), (2, .int x2), (3, .int x3)]) hg dX12_isSo_1 (by decide) rfl ?_
  refine g_sipush hg dX12_isSo_3 kS_999 ?_
  refine g_istore (lv' := [(5, .int 999), (4, .int 0), (0, rr E.1 194), (1, .int x1), (2, .int x2), (3, .int x3)]) hg dX12_isSo_6 (by decide) rfl ?_
  refine g_iconst hg dX12_isSo_8 kI_0 ?_
  refine g_istore (lv' := [(6, .int 0), (5, .int 999), (4, .int 0), (0, rr E.1 194), (1, .int x1), (2, .int x2), (3, .int x3)]) hg dX12_isSo_9 (by decide) rfl ?_
  refine g_rload_n hg dX12_isSo_11 rfl 3 rfl ?_
  refine g_getR (r := 205) hg fl_X12_68 ly194 rfl (idb rfl rfl hn) (rfc hRf rfl rfl rfl rfl) (by decide) dX12_isSo_12 ?_
  refine g_iload_n hg dX12_isSo_15 rfl 4 rfl ?_
  obtain ⟨c16, h⟩ := ck_some h
  refine g_iald hg ly205 (idb rfl rfl hn) (inb_vp c16) dX12_isSo_16 ?_
  refine g_iconst hg dX12_isSo_17 kI_1 ?_
  refine g_isub hg dX12_isSo_18 ?_
  refine g_istore (lv' := [(7, .int ((M.1 205 x1.toNatClampNeg) - 1)), (6, .int 0), (5, .int 999), (4, .int 0), (0, rr E.1 194), (1, .int x1), (2, .int x2), (3, .int x3)]) hg dX12_isSo_19 (by decide) rfl ?_
  refine g_sub (lv' := [(0, rr E.1 194), (1, .int x1), (2, .int x2), (3, .int x3), (4, .int 0), (5, .int 999), (6, .int 0), (7, .int ((M.1 205 x1.toNatClampNeg) - 1))]) [4, 5, 6, 7, 3, 2, 1, 0] rfl ?_
  exact lkX12_isSo_21 hn hRf hg hr  4096 _ _ _ _ _ _ _ _ h
theorem lkX12_lineOf_380 {g : Gm} {l0 : Launch} {E : En} {d n : Nat} {Rf : Nat → Nat → Nat} {ex : Bool} {kq : Nat × Nat} (hn : 238 ≤ n) (hRf : RfOk 194 238 kq Rf) (hg : Ok g l0 E cX12_lineOf RX12 9 (d + 3) 0 0) {q : Int32 × Mm} (hr : Ret g E 0 0 (some .int) ex n Rf (some (.int q.1)) q.2) {k13 : Int32 → Int32 → Int32 → Mm → Option (Int32 × Mm)} (hk13 : ∀ (x1 : Int32) (x2 : Int32) (x3 : Int32) (M : Mm), k13 x1 x2 x3 M = some q → WG g E 9 n Rf ex 0 0 13 [(0, rr E.1 194), (1, .int x1), (2, .int x2), (3, .int x3)] [] M) {k27 : Int32 → Int32 → Int32 → Int32 → Int32 → Mm → Option (Int32 × Mm)} (hk27 : ∀ (x1 : Int32) (x2 : Int32) (x3 : Int32) (x4 : Int32) (x5 : Int32) (M : Mm), k27 x1 x2 x3 x4 x5 M = some q → WG g E 9 n Rf ex 0 0 27 [(0, rr E.1 194), (1, .int x1), (2, .int x2), (3, .int x3), (4, .int x4), (5, .int x5)] [] M) : ∀ (x1 : Int32) (x2 : Int32) (x3 : Int32) (x4 : Int32) (x5 : Int32) (M : Mm), sX12_lineOf_380 k13 k27 x1 x2 x3 x4 x5 M = some q → WG g E 9 n Rf ex 0 0 380 [(0, rr E.1 194), (1, .int x1), (2, .int x2), (3, .int x3), (4, .int x4), (5, .int x5)] [] M := by
  intro x1 x2 x3 x4 x5 M h
  unfold sX12_lineOf_380 at h
  refine g_inc (lv' := [(5, .int (x5 + 1)), (0, rr E.1 194), (1, .int x1), (2, .int x2), (3, .int x3), (4, .int x4)]) hg dX12_lineOf_380 kI_1 5 rfl (by decide) rfl ?_
  refine g_goto (tgt := 27) hg dX12_lineOf_383 (by decide) ?_
  refine g_sub (lv' := [(0, rr E.1 194), (1, .int x1), (2, .int x2), (3, .int x3), (4, .int x4), (5, .int (x5 + 1))]) [1, 2, 3, 4, 5, 0] rfl ?_
  exact hk27 _ _ _ _ _ _ h
theorem lkX12_lineOf_81 {g : Gm} {l0 : Launch} {E : En} {d n : Nat} {Rf : Nat → Nat → Nat} {ex : Bool} {kq : Nat × Nat} (hn : 238 ≤ n) (hRf : RfOk 194 238 kq Rf) (hg : Ok g l0 E cX12_lineOf RX12 9 (d + 3) 0 0) {q : Int32 × Mm} (hr : Ret g E 0 0 (some .int) ex n Rf (some (.int q.1)) q.2) {k13 : Int32 → Int32 → Int32 → Mm → Option (Int32 × Mm)} (hk13 : ∀ (x1 : Int32) (x2 : Int32) (x3 : Int32) (M : Mm), k13 x1 x2 x3 M = some q → WG g E 9 n Rf ex 0 0 13 [(0, rr E.1 194), (1, .int x1), (2, .int x2), (3, .int x3)] [] M) {k27 : Int32 → Int32 → Int32 → Int32 → Int32 → Mm → Option (Int32 × Mm)} (hk27 : ∀ (x1 : Int32) (x2 : Int32) (x3 : Int32) (x4 : Int32) (x5 : Int32) (M : Mm), k27 x1 x2 x3 x4 x5 M = some q → WG g E 9 n Rf ex 0 0 27 [(0, rr E.1 194), (1, .int x1), (2, .int x2), (3, .int x3), (4, .int x4), (5, .int x5)] [] M) : ∀ (x1 : Int32) (x2 : Int32) (x3 : Int32) (x4 : Int32) (x5 : Int32) (x6 : Int32) (M : Mm), sX12_lineOf_81 k13 k27 x1 x2 x3 x4 x5 x6 M = some q → WG g E 9 n Rf ex 0 0 81 [(0, rr E.1 194), (1, .int x1), (2, .int x2), (3, .int x3), (4, .int x4), (5, .int x5), (6, .int x6)] [] M := by
  intro x1 x2 x3 x4 x5 x6 M h
  unfold sX12_lineOf_81 at h
  refine g_rload_n hg dX12_lineOf_81 rfl 0 rfl ?_
  refine g_getR (r := 222) hg fl_X12_120 ly194 rfl (idb rfl rfl hn) (rfc hRf rfl rfl rfl rfl) (by decide) dX12_lineOf_82 ?_
  refine g_iload hg dX12_lineOf_85 6 rfl ?_
  refine g_rload_n hg dX12_lineOf_87 rfl 0 rfl ?_
  refine g_iload_n hg dX12_lineOf_88 rfl 1 rfl ?_
  refine g_iload hg dX12_lineOf_89 6 rfl ?_
  obtain ⟨q91, e91, h⟩ := Option.bind_eq_some_iff.mp h
  refine g_callVi (As := [.int x1, .int x6]) (rest := [.int x6, rr E.1 222]) hg (lkX12_layersSo (by omega) hn hRf  e91) cv_X12_347 rfl ly194 (idb rfl rfl hn) rfl rfl (Nat.le_of_ble_eq_true rfl) ⟨Nat.le_refl _, Nat.le_refl _⟩ dX12_lineOf_91 ?_
  obtain ⟨c94, h⟩ := ck_some h
  refine g_iast hg ly222 (idb rfl rfl hn) (inb_vp c94) dX12_lineOf_94 ?_
  refine g_rload_n hg dX12_lineOf_95 rfl 0 rfl ?_
  refine g_getR (r := 223) hg fl_X12_123 ly194 rfl (idb rfl rfl hn) (rfc hRf rfl rfl rfl rfl) (by decide) dX12_lineOf_96 ?_
  refine g_iload hg dX12_lineOf_99 6 rfl ?_
  refine g_iconst hg dX12_lineOf_101 kI_1 ?_
  obtain ⟨c102, h⟩ := ck_some h
  refine g_zast hg ly223 (idb rfl rfl hn) (inb_vp c102) rfl dX12_lineOf_102 ?_
  refine g_goto (tgt := 380) hg dX12_lineOf_103 (by decide) ?_
  refine g_sub (lv' := [(0, rr E.1 194), (1, .int x1), (2, .int x2), (3, .int x3), (4, .int x4), (5, .int x5)]) [0, 1, 2, 3, 4, 5] rfl ?_
  exact lkX12_lineOf_380 hn hRf hg hr hk13 hk27 _ _ _ _ _ _ h
theorem lkX12_lineOf_271 {g : Gm} {l0 : Launch} {E : En} {d n : Nat} {Rf : Nat → Nat → Nat} {ex : Bool} {kq : Nat × Nat} (hn : 238 ≤ n) (hRf : RfOk 194 238 kq Rf) (hg : Ok g l0 E cX12_lineOf RX12 9 (d + 3) 0 0) {q : Int32 × Mm} (hr : Ret g E 0 0 (some .int) ex n Rf (some (.int q.1)) q.2) {k13 : Int32 → Int32 → Int32 → Mm → Option (Int32 × Mm)} (hk13 : ∀ (x1 : Int32) (x2 : Int32) (x3 : Int32) (M : Mm), k13 x1 x2 x3 M = some q → WG g E 9 n Rf ex 0 0 13 [(0, rr E.1 194), (1, .int x1), (2, .int x2), (3, .int x3)] [] M) {k27 : Int32 → Int32 → Int32 → Int32 → Int32 → Mm → Option (Int32 × Mm)} (hk27 : ∀ (x1 : Int32) (x2 : Int32) (x3 : Int32) (x4 : Int32) (x5 : Int32) (M : Mm), k27 x1 x2 x3 x4 x5 M = some q → WG g E 9 n Rf ex 0 0 27 [(0, rr E.1 194), (1, .int x1), (2, .int x2), (3, .int x3), (4, .int x4), (5, .int x5)] [] M) : ∀ (x1 : Int32) (x2 : Int32) (x3 : Int32) (x4 : Int32) (x5 : Int32) (s1 : Int32) (s2 : Int32) (M : Mm), sX12_lineOf_271 k13 k27 x1 x2 x3 x4 x5 s1 s2 M = some q → WG g E 9 n Rf ex 0 0 271 [(0, rr E.1 194), (1, .int x1), (2, .int x2), (3, .int x3), (4, .int x4), (5, .int x5)] [.int s2, .int s1, rr E.1 222] M := by
  intro x1 x2 x3 x4 x5 s1 s2 M h
  unfold sX12_lineOf_271 at h
  obtain ⟨c271, h⟩ := ck_some h
  refine g_iast hg ly222 (idb rfl rfl hn) (inb_vp c271) dX12_lineOf_271 ?_
  refine g_goto (tgt := 380) hg dX12_lineOf_272 (by decide) ?_
  exact lkX12_lineOf_380 hn hRf hg hr hk13 hk27 _ _ _ _ _ _ h
theorem lkX12_lineOf_186 {g : Gm} {l0 : Launch} {E : En} {d n : Nat} {Rf : Nat → Nat → Nat} {ex : Bool} {kq : Nat × Nat} (hn : 238 ≤ n) (hRf : RfOk 194 238 kq Rf) (hg : Ok g l0 E cX12_lineOf RX12 9 (d + 3) 0 0) {q : Int32 × Mm} (hr : Ret g E 0 0 (some .int) ex n Rf (some (.int q.1)) q.2) {k13 : Int32 → Int32 → Int32 → Mm → Option (Int32 × Mm)} (hk13 : ∀ (x1 : Int32) (x2 : Int32) (x3 : Int32) (M : Mm), k13 x1 x2 x3 M = some q → WG g E 9 n Rf ex 0 0 13 [(0, rr E.1 194), (1, .int x1), (2, .int x2), (3, .int x3)] [] M) {k27 : Int32 → Int32 → Int32 → Int32 → Int32 → Mm → Option (Int32 × Mm)} (hk27 : ∀ (x1 : Int32) (x2 : Int32) (x3 : Int32) (x4 : Int32) (x5 : Int32) (M : Mm), k27 x1 x2 x3 x4 x5 M = some q → WG g E 9 n Rf ex 0 0 27 [(0, rr E.1 194), (1, .int x1), (2, .int x2), (3, .int x3), (4, .int x4), (5, .int x5)] [] M) : ∀ (x1 : Int32) (x2 : Int32) (x3 : Int32) (x4 : Int32) (x5 : Int32) (x6 : Int32) (x7 : Int32) (M : Mm), sX12_lineOf_186 k13 k27 x1 x2 x3 x4 x5 x6 x7 M = some q → WG g E 9 n Rf ex 0 0 186 [(0, rr E.1 194), (1, .int x1), (2, .int x2), (3, .int x3), (4, .int x4), (5, .int x5), (6, .int x6), (7, .int x7)] [] M := by
  intro x1 x2 x3 x4 x5 x6 x7 M h
  unfold sX12_lineOf_186 at h
  refine g_rload_n hg dX12_lineOf_186 rfl 0 rfl ?_
  refine g_getR (r := 223) hg fl_X12_123 ly194 rfl (idb rfl rfl hn) (rfc hRf rfl rfl rfl rfl) (by decide) dX12_lineOf_187 ?_
  refine g_iload hg dX12_lineOf_190 6 rfl ?_
  refine g_rload_n hg dX12_lineOf_192 rfl 0 rfl ?_
  refine g_getR (r := 223) hg fl_X12_123 ly194 rfl (idb rfl rfl hn) (rfc hRf rfl rfl rfl rfl) (by decide) dX12_lineOf_193 ?_
  refine g_rload_n hg dX12_lineOf_196 rfl 0 rfl ?_
  refine g_getR (r := 216) hg fl_X12_102 ly194 rfl (idb rfl rfl hn) (rfc hRf rfl rfl rfl rfl) (by decide) dX12_lineOf_197 ?_
  refine g_iload hg dX12_lineOf_200 6 rfl ?_
  obtain ⟨c202, h⟩ := ck_some h
  refine g_iald hg ly216 (idb rfl rfl hn) (inb_vp c202) dX12_lineOf_202 ?_
  obtain ⟨c203, h⟩ := ck_some h
  refine g_zald hg ly223 (idb rfl rfl hn) (inb_vp c203) dX12_lineOf_203 ?_
  obtain ⟨c204, h⟩ := ck_some h
  obtain ⟨c204b, h⟩ := ck_some h
  refine g_zast hg ly223 (idb rfl rfl hn) (inb_vp c204) (isb_nar c204b) dX12_lineOf_204 ?_
  refine g_rload_n hg dX12_lineOf_205 rfl 0 rfl ?_
  refine g_getR (r := 222) hg fl_X12_120 ly194 rfl (idb rfl rfl hn) (rfc hRf rfl rfl rfl rfl) (by decide) dX12_lineOf_206 ?_
  refine g_iload hg dX12_lineOf_209 6 rfl ?_
  refine g_iload hg dX12_lineOf_211 7 rfl ?_
  refine g_bipush hg dX12_lineOf_213 kB_14 ?_
  refine g_icmp_ne (tgt := 246) hg dX12_lineOf_215 (by decide) (fun c => ?_) (fun c => ?_)
  · replace h := itF c h
    refine g_rload_n hg dX12_lineOf_246 rfl 0 rfl ?_
    refine g_getR (r := 222) hg fl_X12_120 ly194 rfl (idb rfl rfl hn) (rfc hRf rfl rfl rfl rfl) (by decide) dX12_lineOf_247 ?_
    refine g_rload_n hg dX12_lineOf_250 rfl 0 rfl ?_
    refine g_getR (r := 216) hg fl_X12_102 ly194 rfl (idb rfl rfl hn) (rfc hRf rfl rfl rfl rfl) (by decide) dX12_lineOf_251 ?_
    refine g_iload hg dX12_lineOf_254 6 rfl ?_
    obtain ⟨c256, h⟩ := ck_some h
    refine g_iald hg ly216 (idb rfl rfl hn) (inb_vp c256) dX12_lineOf_256 ?_
    obtain ⟨c257, h⟩ := ck_some h
    refine g_iald hg ly222 (idb rfl rfl hn) (inb_vp c257) dX12_lineOf_257 ?_
    refine g_rload_n hg dX12_lineOf_258 rfl 0 rfl ?_
    refine g_getR (r := 222) hg fl_X12_120 ly194 rfl (idb rfl rfl hn) (rfc hRf rfl rfl rfl rfl) (by decide) dX12_lineOf_259 ?_
    refine g_rload_n hg dX12_lineOf_262 rfl 0 rfl ?_
    refine g_getR (r := 217) hg fl_X12_105 ly194 rfl (idb rfl rfl hn) (rfc hRf rfl rfl rfl rfl) (by decide) dX12_lineOf_263 ?_
    refine g_iload hg dX12_lineOf_266 6 rfl ?_
    obtain ⟨c268, h⟩ := ck_some h
    refine g_iald hg ly217 (idb rfl rfl hn) (inb_vp c268) dX12_lineOf_268 ?_
    obtain ⟨c269, h⟩ := ck_some h
    refine g_iald hg ly222 (idb rfl rfl hn) (inb_vp c269) dX12_lineOf_269 ?_
    refine g_ior hg dX12_lineOf_270 ?_
    refine g_sub (lv' := [(0, rr E.1 194), (1, .int x1), (2, .int x2), (3, .int x3), (4, .int x4), (5, .int x5)]) [0, 1, 2, 3, 4, 5] rfl ?_
    exact lkX12_lineOf_271 hn hRf hg hr hk13 hk27 _ _ _ _ _ _ _ _ h
  · replace h := itT c h
    refine g_rload_n hg dX12_lineOf_218 rfl 0 rfl ?_
    refine g_getR (r := 222) hg fl_X12_120 ly194 rfl (idb rfl rfl hn) (rfc hRf rfl rfl rfl rfl) (by decide) dX12_lineOf_219 ?_
    refine g_rload_n hg dX12_lineOf_222 rfl 0 rfl ?_
    refine g_getR (r := 216) hg fl_X12_102 ly194 rfl (idb rfl rfl hn) (rfc hRf rfl rfl rfl rfl) (by decide) dX12_lineOf_223 ?_
    refine g_iload hg dX12_lineOf_226 6 rfl ?_
    obtain ⟨c228, h⟩ := ck_some h
    refine g_iald hg ly216 (idb rfl rfl hn) (inb_vp c228) dX12_lineOf_228 ?_
    obtain ⟨c229, h⟩ := ck_some h
    refine g_iald hg ly222 (idb rfl rfl hn) (inb_vp c229) dX12_lineOf_229 ?_
    refine g_rload_n hg dX12_lineOf_230 rfl 0 rfl ?_
    refine g_getR (r := 222) hg fl_X12_120 ly194 rfl (idb rfl rfl hn) (rfc hRf rfl rfl rfl rfl) (by decide) dX12_lineOf_231 ?_
    refine g_rload_n hg dX12_lineOf_234 rfl 0 rfl ?_
    refine g_getR (r := 217) hg fl_X12_105 ly194 rfl (idb rfl rfl hn) (rfc hRf rfl rfl rfl rfl) (by decide) dX12_lineOf_235 ?_
    refine g_iload hg dX12_lineOf_238 6 rfl ?_
    obtain ⟨c240, h⟩ := ck_some h
    refine g_iald hg ly217 (idb rfl rfl hn) (inb_vp c240) dX12_lineOf_240 ?_
    obtain ⟨c241, h⟩ := ck_some h
    refine g_iald hg ly222 (idb rfl rfl hn) (inb_vp c241) dX12_lineOf_241 ?_
    refine g_iand hg dX12_lineOf_242 ?_
    refine g_goto (tgt := 271) hg dX12_lineOf_243 (by decide) ?_
    refine g_sub (lv' := [(0, rr E.1 194), (1, .int x1), (2, .int x2), (3, .int x3), (4, .int x4), (5, .int x5)]) [0, 1, 2, 3, 4, 5] rfl ?_
    exact lkX12_lineOf_271 hn hRf hg hr hk13 hk27 _ _ _ _ _ _ _ _ h
theorem lkX12_lineOf_379 {g : Gm} {l0 : Launch} {E : En} {d n : Nat} {Rf : Nat → Nat → Nat} {ex : Bool} {kq : Nat × Nat} (hn : 238 ≤ n) (hRf : RfOk 194 238 kq Rf) (hg : Ok g l0 E cX12_lineOf RX12 9 (d + 3) 0 0) {q : Int32 × Mm} (hr : Ret g E 0 0 (some .int) ex n Rf (some (.int q.1)) q.2) {k13 : Int32 → Int32 → Int32 → Mm → Option (Int32 × Mm)} (hk13 : ∀ (x1 : Int32) (x2 : Int32) (x3 : Int32) (M : Mm), k13 x1 x2 x3 M = some q → WG g E 9 n Rf ex 0 0 13 [(0, rr E.1 194), (1, .int x1), (2, .int x2), (3, .int x3)] [] M) {k27 : Int32 → Int32 → Int32 → Int32 → Int32 → Mm → Option (Int32 × Mm)} (hk27 : ∀ (x1 : Int32) (x2 : Int32) (x3 : Int32) (x4 : Int32) (x5 : Int32) (M : Mm), k27 x1 x2 x3 x4 x5 M = some q → WG g E 9 n Rf ex 0 0 27 [(0, rr E.1 194), (1, .int x1), (2, .int x2), (3, .int x3), (4, .int x4), (5, .int x5)] [] M) : ∀ (x1 : Int32) (x2 : Int32) (x3 : Int32) (x4 : Int32) (x5 : Int32) (s1 : Int32) (s2 : Int32) (M : Mm), sX12_lineOf_379 k13 k27 x1 x2 x3 x4 x5 s1 s2 M = some q → WG g E 9 n Rf ex 0 0 379 [(0, rr E.1 194), (1, .int x1), (2, .int x2), (3, .int x3), (4, .int x4), (5, .int x5)] [.int s2, .int s1, rr E.1 222] M := by
  intro x1 x2 x3 x4 x5 s1 s2 M h
  unfold sX12_lineOf_379 at h
  obtain ⟨c379, h⟩ := ck_some h
  refine g_iast hg ly222 (idb rfl rfl hn) (inb_vp c379) dX12_lineOf_379 ?_
  exact lkX12_lineOf_380 hn hRf hg hr hk13 hk27 _ _ _ _ _ _ h
theorem lkX12_lineOf_361 {g : Gm} {l0 : Launch} {E : En} {d n : Nat} {Rf : Nat → Nat → Nat} {ex : Bool} {kq : Nat × Nat} (hn : 238 ≤ n) (hRf : RfOk 194 238 kq Rf) (hg : Ok g l0 E cX12_lineOf RX12 9 (d + 3) 0 0) {q : Int32 × Mm} (hr : Ret g E 0 0 (some .int) ex n Rf (some (.int q.1)) q.2) {k13 : Int32 → Int32 → Int32 → Mm → Option (Int32 × Mm)} (hk13 : ∀ (x1 : Int32) (x2 : Int32) (x3 : Int32) (M : Mm), k13 x1 x2 x3 M = some q → WG g E 9 n Rf ex 0 0 13 [(0, rr E.1 194), (1, .int x1), (2, .int x2), (3, .int x3)] [] M) {k27 : Int32 → Int32 → Int32 → Int32 → Int32 → Mm → Option (Int32 × Mm)} (hk27 : ∀ (x1 : Int32) (x2 : Int32) (x3 : Int32) (x4 : Int32) (x5 : Int32) (M : Mm), k27 x1 x2 x3 x4 x5 M = some q → WG g E 9 n Rf ex 0 0 27 [(0, rr E.1 194), (1, .int x1), (2, .int x2), (3, .int x3), (4, .int x4), (5, .int x5)] [] M) : ∀ (x1 : Int32) (x2 : Int32) (x3 : Int32) (x4 : Int32) (x5 : Int32) (x6 : Int32) (s0 : Int32) (M : Mm), sX12_lineOf_361 k13 k27 x1 x2 x3 x4 x5 x6 s0 M = some q → WG g E 9 n Rf ex 0 0 361 [(0, rr E.1 194), (1, .int x1), (2, .int x2), (3, .int x3), (4, .int x4), (5, .int x5), (6, .int x6)] [.int s0] M := by
  intro x1 x2 x3 x4 x5 x6 s0 M h
  unfold sX12_lineOf_361 at h
  refine g_istore (lv' := [(8, .int s0), (0, rr E.1 194), (1, .int x1), (2, .int x2), (3, .int x3), (4, .int x4), (5, .int x5), (6, .int x6)]) hg dX12_lineOf_361 (by decide) rfl ?_
  refine g_rload_n hg dX12_lineOf_363 rfl 1 rfl ?_
  refine g_getR (r := 222) hg fl_X12_120 ly194 rfl (idb rfl rfl hn) (rfc hRf rfl rfl rfl rfl) (by decide) dX12_lineOf_364 ?_
  refine g_iload hg dX12_lineOf_367 7 rfl ?_
  refine g_iload hg dX12_lineOf_369 0 rfl ?_
  refine g_if_eq (tgt := 378) hg dX12_lineOf_371 (by decide) (fun c => ?_) (fun c => ?_)
  · rw [if_pos c] at h
    refine g_iconst hg dX12_lineOf_378 kI_0 ?_
    refine g_sub (lv' := [(0, rr E.1 194), (1, .int x1), (2, .int x2), (3, .int x3), (4, .int x4), (5, .int x5)]) [1, 2, 3, 4, 5, 6] rfl ?_
    exact lkX12_lineOf_379 hn hRf hg hr hk13 hk27 _ _ _ _ _ _ _ _ h
  · rw [if_neg c] at h
    refine g_iconst hg dX12_lineOf_374 kI_1 ?_
    refine g_goto (tgt := 379) hg dX12_lineOf_375 (by decide) ?_
    refine g_sub (lv' := [(0, rr E.1 194), (1, .int x1), (2, .int x2), (3, .int x3), (4, .int x4), (5, .int x5)]) [1, 2, 3, 4, 5, 6] rfl ?_
    exact lkX12_lineOf_379 hn hRf hg hr hk13 hk27 _ _ _ _ _ _ _ _ h
theorem lkX12_lineOf_356 {g : Gm} {l0 : Launch} {E : En} {d n : Nat} {Rf : Nat → Nat → Nat} {ex : Bool} {kq : Nat × Nat} (hn : 238 ≤ n) (hRf : RfOk 194 238 kq Rf) (hg : Ok g l0 E cX12_lineOf RX12 9 (d + 3) 0 0) {q : Int32 × Mm} (hr : Ret g E 0 0 (some .int) ex n Rf (some (.int q.1)) q.2) {k13 : Int32 → Int32 → Int32 → Mm → Option (Int32 × Mm)} (hk13 : ∀ (x1 : Int32) (x2 : Int32) (x3 : Int32) (M : Mm), k13 x1 x2 x3 M = some q → WG g E 9 n Rf ex 0 0 13 [(0, rr E.1 194), (1, .int x1), (2, .int x2), (3, .int x3)] [] M) {k27 : Int32 → Int32 → Int32 → Int32 → Int32 → Mm → Option (Int32 × Mm)} (hk27 : ∀ (x1 : Int32) (x2 : Int32) (x3 : Int32) (x4 : Int32) (x5 : Int32) (M : Mm), k27 x1 x2 x3 x4 x5 M = some q → WG g E 9 n Rf ex 0 0 27 [(0, rr E.1 194), (1, .int x1), (2, .int x2), (3, .int x3), (4, .int x4), (5, .int x5)] [] M) : ∀ (x1 : Int32) (x2 : Int32) (x3 : Int32) (x4 : Int32) (x5 : Int32) (x6 : Int32) (M : Mm), sX12_lineOf_356 k13 k27 x1 x2 x3 x4 x5 x6 M = some q → WG g E 9 n Rf ex 0 0 356 [(0, rr E.1 194), (1, .int x1), (2, .int x2), (3, .int x3), (4, .int x4), (5, .int x5), (6, .int x6)] [] M := by
  intro x1 x2 x3 x4 x5 x6 M h
  unfold sX12_lineOf_356 at h
  refine g_iconst hg dX12_lineOf_356 kI_1 ?_
  refine g_goto (tgt := 361) hg dX12_lineOf_357 (by decide) ?_
  exact lkX12_lineOf_361 hn hRf hg hr hk13 hk27 _ _ _ _ _ _ _ _ h
theorem lkX12_lineOf_360 {g : Gm} {l0 : Launch} {E : En} {d n : Nat} {Rf : Nat → Nat → Nat} {ex : Bool} {kq : Nat × Nat} (hn : 238 ≤ n) (hRf : RfOk 194 238 kq Rf) (hg : Ok g l0 E cX12_lineOf RX12 9 (d + 3) 0 0) {q : Int32 × Mm} (hr : Ret g E 0 0 (some .int) ex n Rf (some (.int q.1)) q.2) {k13 : Int32 → Int32 → Int32 → Mm → Option (Int32 × Mm)} (hk13 : ∀ (x1 : Int32) (x2 : Int32) (x3 : Int32) (M : Mm), k13 x1 x2 x3 M = some q → WG g E 9 n Rf ex 0 0 13 [(0, rr E.1 194), (1, .int x1), (2, .int x2), (3, .int x3)] [] M) {k27 : Int32 → Int32 → Int32 → Int32 → Int32 → Mm → Option (Int32 × Mm)} (hk27 : ∀ (x1 : Int32) (x2 : Int32) (x3 : Int32) (x4 : Int32) (x5 : Int32) (M : Mm), k27 x1 x2 x3 x4 x5 M = some q → WG g E 9 n Rf ex 0 0 27 [(0, rr E.1 194), (1, .int x1), (2, .int x2), (3, .int x3), (4, .int x4), (5, .int x5)] [] M) : ∀ (x1 : Int32) (x2 : Int32) (x3 : Int32) (x4 : Int32) (x5 : Int32) (x6 : Int32) (M : Mm), sX12_lineOf_360 k13 k27 x1 x2 x3 x4 x5 x6 M = some q → WG g E 9 n Rf ex 0 0 360 [(0, rr E.1 194), (1, .int x1), (2, .int x2), (3, .int x3), (4, .int x4), (5, .int x5), (6, .int x6)] [] M := by
  intro x1 x2 x3 x4 x5 x6 M h
  unfold sX12_lineOf_360 at h
  refine g_iconst hg dX12_lineOf_360 kI_0 ?_
  exact lkX12_lineOf_361 hn hRf hg hr hk13 hk27 _ _ _ _ _ _ _ _ h
theorem lkX12_lineOf_153 {g : Gm} {l0 : Launch} {E : En} {d n : Nat} {Rf : Nat → Nat → Nat} {ex : Bool} {kq : Nat × Nat} (hn : 238 ≤ n) (hRf : RfOk 194 238 kq Rf) (hg : Ok g l0 E cX12_lineOf RX12 9 (d + 3) 0 0) {q : Int32 × Mm} (hr : Ret g E 0 0 (some .int) ex n Rf (some (.int q.1)) q.2) {k13 : Int32 → Int32 → Int32 → Mm → Option (Int32 × Mm)} (hk13 : ∀ (x1 : Int32) (x2 : Int32) (x3 : Int32) (M : Mm), k13 x1 x2 x3 M = some q → WG g E 9 n Rf ex 0 0 13 [(0, rr E.1 194), (1, .int x1), (2, .int x2), (3, .int x3)] [] M) {k27 : Int32 → Int32 → Int32 → Int32 → Int32 → Mm → Option (Int32 × Mm)} (hk27 : ∀ (x1 : Int32) (x2 : Int32) (x3 : Int32) (x4 : Int32) (x5 : Int32) (M : Mm), k27 x1 x2 x3 x4 x5 M = some q → WG g E 9 n Rf ex 0 0 27 [(0, rr E.1 194), (1, .int x1), (2, .int x2), (3, .int x3), (4, .int x4), (5, .int x5)] [] M) : ∀ (x1 : Int32) (x2 : Int32) (x3 : Int32) (x4 : Int32) (x5 : Int32) (x6 : Int32) (s1 : Int32) (s2 : Int32) (M : Mm), sX12_lineOf_153 k13 k27 x1 x2 x3 x4 x5 x6 s1 s2 M = some q → WG g E 9 n Rf ex 0 0 153 [(0, rr E.1 194), (1, .int x1), (2, .int x2), (3, .int x3), (4, .int x4), (5, .int x5), (6, .int x6)] [.int s2, .int s1, rr E.1 222] M := by
  intro x1 x2 x3 x4 x5 x6 s1 s2 M h
  unfold sX12_lineOf_153 at h
  refine g_rload_n hg dX12_lineOf_153 rfl 0 rfl ?_
  refine g_getR (r := 222) hg fl_X12_120 ly194 rfl (idb rfl rfl hn) (rfc hRf rfl rfl rfl rfl) (by decide) dX12_lineOf_154 ?_
  refine g_rload_n hg dX12_lineOf_157 rfl 0 rfl ?_
  refine g_getR (r := 216) hg fl_X12_102 ly194 rfl (idb rfl rfl hn) (rfc hRf rfl rfl rfl rfl) (by decide) dX12_lineOf_158 ?_
  refine g_iload hg dX12_lineOf_161 6 rfl ?_
  obtain ⟨c163, h⟩ := ck_some h
  refine g_iald hg ly216 (idb rfl rfl hn) (inb_vp c163) dX12_lineOf_163 ?_
  obtain ⟨c164, h⟩ := ck_some h
  refine g_iald hg ly222 (idb rfl rfl hn) (inb_vp c164) dX12_lineOf_164 ?_
  refine g_iconst hg dX12_lineOf_165 kI_m1 ?_
  refine g_ixor hg dX12_lineOf_166 ?_
  refine g_iand hg dX12_lineOf_167 ?_
  obtain ⟨c168, h⟩ := ck_some h
  refine g_iast hg ly222 (idb rfl rfl hn) (inb_vp c168) dX12_lineOf_168 ?_
  refine g_goto (tgt := 380) hg dX12_lineOf_169 (by decide) ?_
  refine g_sub (lv' := [(0, rr E.1 194), (1, .int x1), (2, .int x2), (3, .int x3), (4, .int x4), (5, .int x5)]) [0, 1, 2, 3, 4, 5] rfl ?_
  exact lkX12_lineOf_380 hn hRf hg hr hk13 hk27 _ _ _ _ _ _ h
theorem lkX12_lineOf_27 {g : Gm} {l0 : Launch} {E : En} {d n : Nat} {Rf : Nat → Nat → Nat} {ex : Bool} {kq : Nat × Nat} (hn : 238 ≤ n) (hRf : RfOk 194 238 kq Rf) (hg : Ok g l0 E cX12_lineOf RX12 9 (d + 3) 0 0) {q : Int32 × Mm} (hr : Ret g E 0 0 (some .int) ex n Rf (some (.int q.1)) q.2) {k13 : Int32 → Int32 → Int32 → Mm → Option (Int32 × Mm)} (hk13 : ∀ (x1 : Int32) (x2 : Int32) (x3 : Int32) (M : Mm), k13 x1 x2 x3 M = some q → WG g E 9 n Rf ex 0 0 13 [(0, rr E.1 194), (1, .int x1), (2, .int x2), (3, .int x3)] [] M) : ∀ (F : Nat) (x1 : Int32) (x2 : Int32) (x3 : Int32) (x4 : Int32) (x5 : Int32) (M : Mm), sX12_lineOf_27 k13 F x1 x2 x3 x4 x5 M = some q → WG g E 9 n Rf ex 0 0 27 [(0, rr E.1 194), (1, .int x1), (2, .int x2), (3, .int x3), (4, .int x4), (5, .int x5)] [] M := by
  intro F
  induction F with
  | zero =>
    intro x1 x2 x3 x4 x5 M h
    cases h
  | succ F ih =>
    intro x1 x2 x3 x4 x5 M h
    rw [sX12_lineOf_27] at h
    refine g_iload hg dX12_lineOf_27 5 rfl ?_
    refine g_rload_n hg dX12_lineOf_29 rfl 0 rfl ?_
    refine g_getR (r := 212) hg fl_X12_90 ly194 rfl (idb rfl rfl hn) (rfc hRf rfl rfl rfl rfl) (by decide) dX12_lineOf_30 ?_
    refine g_iload_n hg dX12_lineOf_33 rfl 3 rfl ?_
    obtain ⟨c34, h⟩ := ck_some h
    refine g_iald hg ly212 (idb rfl rfl hn) (inb_vp c34) dX12_lineOf_34 ?_
    refine g_icmp_ge (tgt := 386) hg dX12_lineOf_35 (by decide) (fun c => ?_) (fun c => ?_)
    · replace h := itT c h
      refine g_rload_n hg dX12_lineOf_386 rfl 0 rfl ?_
      refine g_getR (r := 222) hg fl_X12_120 ly194 rfl (idb rfl rfl hn) (rfc hRf rfl rfl rfl rfl) (by decide) dX12_lineOf_387 ?_
      refine g_iload hg dX12_lineOf_390 4 rfl ?_
      obtain ⟨c392, h⟩ := ck_some h
      refine g_iald hg ly222 (idb rfl rfl hn) (inb_vp c392) dX12_lineOf_392 ?_
      refine g_iconst hg dX12_lineOf_393 kI_1 ?_
      refine g_icmp_ne (tgt := 399) hg dX12_lineOf_394 (by decide) (fun c => ?_) (fun c => ?_)
      · replace h := itF c h
        refine g_inc (lv' := [(3, .int (x3 + 1)), (0, rr E.1 194), (1, .int x1), (2, .int x2), (4, .int x4), (5, .int x5)]) hg dX12_lineOf_399 kI_1 3 rfl (by decide) rfl ?_
        refine g_goto (tgt := 13) hg dX12_lineOf_402 (by decide) ?_
        refine g_sub (lv' := [(0, rr E.1 194), (1, .int x1), (2, .int x2), (3, .int (x3 + 1))]) [1, 2, 3, 0] rfl ?_
        exact hk13 _ _ _ _ h
      · replace h := itT c h
        refine g_iload_n hg dX12_lineOf_397 rfl 3 rfl ?_
        replace h := Option.some.inj h
        subst h
        exact g_iret hg hr dX12_lineOf_398
    · replace h := itF c h
      refine g_rload_n hg dX12_lineOf_38 rfl 0 rfl ?_
      refine g_getR (r := 218) hg fl_X12_108 ly194 rfl (idb rfl rfl hn) (rfc hRf rfl rfl rfl rfl) (by decide) dX12_lineOf_39 ?_
      refine g_rload_n hg dX12_lineOf_42 rfl 0 rfl ?_
      refine g_getR (r := 211) hg fl_X12_87 ly194 rfl (idb rfl rfl hn) (rfc hRf rfl rfl rfl rfl) (by decide) dX12_lineOf_43 ?_
      refine g_iload_n hg dX12_lineOf_46 rfl 3 rfl ?_
      obtain ⟨c47, h⟩ := ck_some h
      refine g_iald hg ly211 (idb rfl rfl hn) (inb_vp c47) dX12_lineOf_47 ?_
      refine g_iload hg dX12_lineOf_48 5 rfl ?_
      refine g_iadd hg dX12_lineOf_50 ?_
      obtain ⟨c51, h⟩ := ck_some h
      refine g_iald hg ly218 (idb rfl rfl hn) (inb_vp c51) dX12_lineOf_51 ?_
      refine g_istore (lv' := [(6, .int (M.1 218 ((M.1 211 x3.toNatClampNeg) + x5).toNatClampNeg)), (0, rr E.1 194), (1, .int x1), (2, .int x2), (3, .int x3), (4, .int x4), (5, .int x5)]) hg dX12_lineOf_52 (by decide) rfl ?_
      refine g_rload_n hg dX12_lineOf_54 rfl 1 rfl ?_
      refine g_getR (r := 213) hg fl_X12_93 ly194 rfl (idb rfl rfl hn) (rfc hRf rfl rfl rfl rfl) (by decide) dX12_lineOf_55 ?_
      refine g_iload hg dX12_lineOf_58 0 rfl ?_
      obtain ⟨c60, h⟩ := ck_some h
      refine g_iald hg ly213 (idb rfl rfl hn) (inb_vp c60) dX12_lineOf_60 ?_
      refine g_istore (lv' := [(7, .int (M.1 213 (M.1 218 ((M.1 211 x3.toNatClampNeg) + x5).toNatClampNeg).toNatClampNeg)), (6, .int (M.1 218 ((M.1 211 x3.toNatClampNeg) + x5).toNatClampNeg)), (0, rr E.1 194), (1, .int x1), (2, .int x2), (3, .int x3), (4, .int x4), (5, .int x5)]) hg dX12_lineOf_61 (by decide) rfl ?_
      refine g_iload hg dX12_lineOf_63 1 rfl ?_
      refine g_istore (lv' := [(4, .int (M.1 218 ((M.1 211 x3.toNatClampNeg) + x5).toNatClampNeg)), (7, .int (M.1 213 (M.1 218 ((M.1 211 x3.toNatClampNeg) + x5).toNatClampNeg).toNatClampNeg)), (6, .int (M.1 218 ((M.1 211 x3.toNatClampNeg) + x5).toNatClampNeg)), (0, rr E.1 194), (1, .int x1), (2, .int x2), (3, .int x3), (5, .int x5)]) hg dX12_lineOf_65 (by decide) rfl ?_
      refine g_iload hg dX12_lineOf_67 1 rfl ?_
      refine g_bipush hg dX12_lineOf_69 kB_12 ?_
      refine g_icmp_le (tgt := 81) hg dX12_lineOf_71 (by decide) (fun c => ?_) (fun c => ?_)
      · replace h := itT c h
        refine g_sub (lv' := [(0, rr E.1 194), (1, .int x1), (2, .int x2), (3, .int x3), (4, .int (M.1 218 ((M.1 211 x3.toNatClampNeg) + x5).toNatClampNeg)), (5, .int x5), (6, .int (M.1 218 ((M.1 211 x3.toNatClampNeg) + x5).toNatClampNeg))]) [3, 4, 5, 6, 0, 7, 2] rfl ?_
        exact lkX12_lineOf_81 hn hRf hg hr hk13 ih _ _ _ _ _ _ _ h
      · replace h := itF c h
        refine g_iload hg dX12_lineOf_74 1 rfl ?_
        refine g_bipush hg dX12_lineOf_76 kB_23 ?_
        refine g_icmp_ne (tgt := 106) hg dX12_lineOf_78 (by decide) (fun c => ?_) (fun c => ?_)
        · replace h := itF c h
          refine g_iload hg dX12_lineOf_106 1 rfl ?_
          refine g_bipush hg dX12_lineOf_108 kB_15 ?_
          refine g_icmp_ne (tgt := 172) hg dX12_lineOf_110 (by decide) (fun c => ?_) (fun c => ?_)
          · replace h := itF c h
            refine g_iload hg dX12_lineOf_172 1 rfl ?_
            refine g_bipush hg dX12_lineOf_174 kB_14 ?_
            refine g_icmp_eq (tgt := 186) hg dX12_lineOf_176 (by decide) (fun c => ?_) (fun c => ?_)
            · replace h := itT c h
              refine g_sub (lv' := [(0, rr E.1 194), (1, .int x1), (2, .int x2), (3, .int x3), (4, .int (M.1 218 ((M.1 211 x3.toNatClampNeg) + x5).toNatClampNeg)), (5, .int x5), (6, .int (M.1 218 ((M.1 211 x3.toNatClampNeg) + x5).toNatClampNeg)), (7, .int (M.1 213 (M.1 218 ((M.1 211 x3.toNatClampNeg) + x5).toNatClampNeg).toNatClampNeg))]) [3, 4, 5, 6, 0, 7, 2, 1] rfl ?_
              exact lkX12_lineOf_186 hn hRf hg hr hk13 ih _ _ _ _ _ _ _ _ h
            · replace h := itF c h
              refine g_iload hg dX12_lineOf_179 1 rfl ?_
              refine g_bipush hg dX12_lineOf_181 kB_13 ?_
              refine g_icmp_ne (tgt := 275) hg dX12_lineOf_183 (by decide) (fun c => ?_) (fun c => ?_)
              · replace h := itF c h
                refine g_rload_n hg dX12_lineOf_275 rfl 3 rfl ?_
                refine g_getR (r := 223) hg fl_X12_123 ly194 rfl (idb rfl rfl hn) (rfc hRf rfl rfl rfl rfl) (by decide) dX12_lineOf_276 ?_
                refine g_iload hg dX12_lineOf_279 2 rfl ?_
                refine g_iconst hg dX12_lineOf_281 kI_0 ?_
                obtain ⟨c282, h⟩ := ck_some h
                refine g_zast hg ly223 (idb rfl rfl hn) (inb_vp c282) rfl dX12_lineOf_282 ?_
                refine g_iload hg dX12_lineOf_283 1 rfl ?_
                refine g_bipush hg dX12_lineOf_285 kB_16 ?_
                refine g_icmp_eq (tgt := 356) hg dX12_lineOf_287 (by decide) (fun c => ?_) (fun c => ?_)
                · replace h := itT c h
                  refine g_sub (lv' := [(0, rr E.1 194), (1, .int x1), (2, .int x2), (3, .int x3), (4, .int (M.1 218 ((M.1 211 x3.toNatClampNeg) + x5).toNatClampNeg)), (5, .int x5), (6, .int (M.1 218 ((M.1 211 x3.toNatClampNeg) + x5).toNatClampNeg))]) [3, 4, 5, 6, 0, 7, 2] rfl ?_
                  exact lkX12_lineOf_356 hn hRf hg hr hk13 ih _ _ _ _ _ _ _ h
                · replace h := itF c h
                  refine g_iload hg dX12_lineOf_290 1 rfl ?_
                  refine g_bipush hg dX12_lineOf_292 kB_22 ?_
                  refine g_icmp_ne (tgt := 334) hg dX12_lineOf_294 (by decide) (fun c => ?_) (fun c => ?_)
                  · replace h := itF c h
                    refine g_rload_n hg dX12_lineOf_334 rfl 3 rfl ?_
                    refine g_iload_n hg dX12_lineOf_335 rfl 4 rfl ?_
                    refine g_iload hg dX12_lineOf_336 2 rfl ?_
                    refine g_rload_n hg dX12_lineOf_338 rfl 3 rfl ?_
                    refine g_getR (r := 222) hg fl_X12_120 ly194 rfl (idb rfl rfl hn) (rfc hRf rfl rfl rfl rfl) (by decide) dX12_lineOf_339 ?_
                    refine g_rload_n hg dX12_lineOf_342 rfl 3 rfl ?_
                    refine g_getR (r := 216) hg fl_X12_102 ly194 rfl (idb rfl rfl hn) (rfc hRf rfl rfl rfl rfl) (by decide) dX12_lineOf_343 ?_
                    refine g_iload hg dX12_lineOf_346 2 rfl ?_
                    obtain ⟨c348, h⟩ := ck_some h
                    refine g_iald hg ly216 (idb rfl rfl hn) (inb_vp c348) dX12_lineOf_348 ?_
                    obtain ⟨c349, h⟩ := ck_some h
                    refine g_iald hg ly222 (idb rfl rfl hn) (inb_vp c349) dX12_lineOf_349 ?_
                    obtain ⟨q350, e350, h⟩ := Option.bind_eq_some_iff.mp h
                    refine g_callVi (As := [.int x1, .int (M.1 218 ((M.1 211 x3.toNatClampNeg) + x5).toNatClampNeg), .int ((sI M 223 (M.1 218 ((M.1 211 x3.toNatClampNeg) + x5).toNatClampNeg).toNatClampNeg 0).1 222 ((sI M 223 (M.1 218 ((M.1 211 x3.toNatClampNeg) + x5).toNatClampNeg).toNatClampNeg 0).1 216 (M.1 218 ((M.1 211 x3.toNatClampNeg) + x5).toNatClampNeg).toNatClampNeg).toNatClampNeg)]) (rest := []) hg (lkX12_isSo (by omega) hn hRf  e350) cv_X12_350 rfl ly194 (idb rfl rfl hn) rfl rfl (Nat.le_of_ble_eq_true rfl) ⟨Nat.le_refl _, Nat.le_refl _⟩ dX12_lineOf_350 ?_
                    refine g_if_eq (tgt := 360) hg dX12_lineOf_353 (by decide) (fun c => ?_) (fun c => ?_)
                    · replace h := itT c h
                      refine g_sub (lv' := [(0, rr E.1 194), (1, .int x1), (2, .int x2), (3, .int x3), (4, .int (M.1 218 ((M.1 211 x3.toNatClampNeg) + x5).toNatClampNeg)), (5, .int x5), (6, .int (M.1 218 ((M.1 211 x3.toNatClampNeg) + x5).toNatClampNeg))]) [3, 4, 5, 6, 0, 7, 2] rfl ?_
                      exact lkX12_lineOf_360 hn hRf hg hr hk13 ih _ _ _ _ _ _ _ h
                    · replace h := itF c h
                      refine g_sub (lv' := [(0, rr E.1 194), (1, .int x1), (2, .int x2), (3, .int x3), (4, .int (M.1 218 ((M.1 211 x3.toNatClampNeg) + x5).toNatClampNeg)), (5, .int x5), (6, .int (M.1 218 ((M.1 211 x3.toNatClampNeg) + x5).toNatClampNeg))]) [3, 4, 5, 6, 0, 7, 2] rfl ?_
                      exact lkX12_lineOf_356 hn hRf hg hr hk13 ih _ _ _ _ _ _ _ h
                  · replace h := itT c h
                    refine g_rload_n hg dX12_lineOf_297 rfl 3 rfl ?_
                    refine g_iload_n hg dX12_lineOf_298 rfl 4 rfl ?_
                    refine g_rload_n hg dX12_lineOf_299 rfl 3 rfl ?_
                    refine g_getR (r := 205) hg fl_X12_68 ly194 rfl (idb rfl rfl hn) (rfc hRf rfl rfl rfl rfl) (by decide) dX12_lineOf_300 ?_
                    refine g_iload_n hg dX12_lineOf_303 rfl 4 rfl ?_
                    obtain ⟨c304, h⟩ := ck_some h
                    refine g_iald hg ly205 (idb rfl rfl hn) (inb_vp c304) dX12_lineOf_304 ?_
                    refine g_iconst hg dX12_lineOf_305 kI_1 ?_
                    refine g_isub hg dX12_lineOf_306 ?_
                    refine g_iconst hg dX12_lineOf_307 kI_1 ?_
                    obtain ⟨q308, e308, h⟩ := Option.bind_eq_some_iff.mp h
                    refine g_callVi (As := [.int x1, .int (((sI M 223 (M.1 218 ((M.1 211 x3.toNatClampNeg) + x5).toNatClampNeg).toNatClampNeg 0).1 205 x1.toNatClampNeg) - 1), .int 1]) (rest := []) hg (lkX12_layerOf (by omega) hn hRf  e308) cv_X12_339 rfl ly194 (idb rfl rfl hn) rfl rfl (Nat.le_of_ble_eq_true rfl) ⟨Nat.le_refl _, Nat.le_refl _⟩ dX12_lineOf_308 ?_
                    refine g_rload_n hg dX12_lineOf_311 rfl 3 rfl ?_
                    refine g_getR (r := 214) hg fl_X12_96 ly194 rfl (idb rfl rfl hn) (rfc hRf rfl rfl rfl rfl) (by decide) dX12_lineOf_312 ?_
                    refine g_iload hg dX12_lineOf_315 2 rfl ?_
                    obtain ⟨c317, h⟩ := ck_some h
                    refine g_iald hg ly214 (idb rfl rfl hn) (inb_vp c317) dX12_lineOf_317 ?_
                    refine g_rload_n hg dX12_lineOf_318 rfl 3 rfl ?_
                    refine g_getR (r := 215) hg fl_X12_99 ly194 rfl (idb rfl rfl hn) (rfc hRf rfl rfl rfl rfl) (by decide) dX12_lineOf_319 ?_
                    refine g_iload hg dX12_lineOf_322 2 rfl ?_
                    obtain ⟨c324, h⟩ := ck_some h
                    refine g_iald hg ly215 (idb rfl rfl hn) (inb_vp c324) dX12_lineOf_324 ?_
                    obtain ⟨q325, e325, h⟩ := Option.bind_eq_some_iff.mp h
                    refine g_callSi (As := [.int q308.1, .int (q308.2.1 214 (M.1 218 ((M.1 211 x3.toNatClampNeg) + x5).toNatClampNeg).toNatClampNeg), .int (q308.2.1 215 (M.1 218 ((M.1 211 x3.toNatClampNeg) + x5).toNatClampNeg).toNatClampNeg)]) (rest := []) hg (lkX12_holds (by omega) hn hRf  e325) cs_X12_343 rfl rfl (Nat.le_of_ble_eq_true rfl) ⟨Nat.le_refl _, Nat.le_refl _⟩ dX12_lineOf_325 ?_
                    refine g_if_eq (tgt := 360) hg dX12_lineOf_328 (by decide) (fun c => ?_) (fun c => ?_)
                    · replace h := itT c h
                      refine g_sub (lv' := [(0, rr E.1 194), (1, .int x1), (2, .int x2), (3, .int x3), (4, .int (M.1 218 ((M.1 211 x3.toNatClampNeg) + x5).toNatClampNeg)), (5, .int x5), (6, .int (M.1 218 ((M.1 211 x3.toNatClampNeg) + x5).toNatClampNeg))]) [3, 4, 5, 6, 0, 7, 2] rfl ?_
                      exact lkX12_lineOf_360 hn hRf hg hr hk13 ih _ _ _ _ _ _ _ h
                    · replace h := itF c h
                      refine g_goto (tgt := 356) hg dX12_lineOf_331 (by decide) ?_
                      refine g_sub (lv' := [(0, rr E.1 194), (1, .int x1), (2, .int x2), (3, .int x3), (4, .int (M.1 218 ((M.1 211 x3.toNatClampNeg) + x5).toNatClampNeg)), (5, .int x5), (6, .int (M.1 218 ((M.1 211 x3.toNatClampNeg) + x5).toNatClampNeg))]) [3, 4, 5, 6, 0, 7, 2] rfl ?_
                      exact lkX12_lineOf_356 hn hRf hg hr hk13 ih _ _ _ _ _ _ _ h
              · replace h := itT c h
                refine g_sub (lv' := [(0, rr E.1 194), (1, .int x1), (2, .int x2), (3, .int x3), (4, .int (M.1 218 ((M.1 211 x3.toNatClampNeg) + x5).toNatClampNeg)), (5, .int x5), (6, .int (M.1 218 ((M.1 211 x3.toNatClampNeg) + x5).toNatClampNeg)), (7, .int (M.1 213 (M.1 218 ((M.1 211 x3.toNatClampNeg) + x5).toNatClampNeg).toNatClampNeg))]) [3, 4, 5, 6, 0, 7, 2, 1] rfl ?_
                exact lkX12_lineOf_186 hn hRf hg hr hk13 ih _ _ _ _ _ _ _ _ h
          · replace h := itT c h
            refine g_rload_n hg dX12_lineOf_113 rfl 3 rfl ?_
            refine g_getR (r := 223) hg fl_X12_123 ly194 rfl (idb rfl rfl hn) (rfc hRf rfl rfl rfl rfl) (by decide) dX12_lineOf_114 ?_
            refine g_iload hg dX12_lineOf_117 2 rfl ?_
            refine g_rload_n hg dX12_lineOf_119 rfl 3 rfl ?_
            refine g_getR (r := 223) hg fl_X12_123 ly194 rfl (idb rfl rfl hn) (rfc hRf rfl rfl rfl rfl) (by decide) dX12_lineOf_120 ?_
            refine g_rload_n hg dX12_lineOf_123 rfl 3 rfl ?_
            refine g_getR (r := 216) hg fl_X12_102 ly194 rfl (idb rfl rfl hn) (rfc hRf rfl rfl rfl rfl) (by decide) dX12_lineOf_124 ?_
            refine g_iload hg dX12_lineOf_127 2 rfl ?_
            obtain ⟨c129, h⟩ := ck_some h
            refine g_iald hg ly216 (idb rfl rfl hn) (inb_vp c129) dX12_lineOf_129 ?_
            obtain ⟨c130, h⟩ := ck_some h
            refine g_zald hg ly223 (idb rfl rfl hn) (inb_vp c130) dX12_lineOf_130 ?_
            obtain ⟨c131, h⟩ := ck_some h
            obtain ⟨c131b, h⟩ := ck_some h
            refine g_zast hg ly223 (idb rfl rfl hn) (inb_vp c131) (isb_nar c131b) dX12_lineOf_131 ?_
            refine g_rload_n hg dX12_lineOf_132 rfl 3 rfl ?_
            refine g_getR (r := 222) hg fl_X12_120 ly194 rfl (idb rfl rfl hn) (rfc hRf rfl rfl rfl rfl) (by decide) dX12_lineOf_133 ?_
            refine g_iload hg dX12_lineOf_136 2 rfl ?_
            refine g_rload_n hg dX12_lineOf_138 rfl 3 rfl ?_
            refine g_getR (r := 223) hg fl_X12_123 ly194 rfl (idb rfl rfl hn) (rfc hRf rfl rfl rfl rfl) (by decide) dX12_lineOf_139 ?_
            refine g_iload hg dX12_lineOf_142 2 rfl ?_
            obtain ⟨c144, h⟩ := ck_some h
            refine g_zald hg ly223 (idb rfl rfl hn) (inb_vp c144) dX12_lineOf_144 ?_
            refine g_if_eq (tgt := 152) hg dX12_lineOf_145 (by decide) (fun c => ?_) (fun c => ?_)
            · rw [if_pos c] at h
              refine g_iconst hg dX12_lineOf_152 kI_1 ?_
              refine g_sub (lv' := [(0, rr E.1 194), (1, .int x1), (2, .int x2), (3, .int x3), (4, .int (M.1 218 ((M.1 211 x3.toNatClampNeg) + x5).toNatClampNeg)), (5, .int x5), (6, .int (M.1 218 ((M.1 211 x3.toNatClampNeg) + x5).toNatClampNeg))]) [3, 4, 5, 6, 0, 7, 2] rfl ?_
              exact lkX12_lineOf_153 hn hRf hg hr hk13 ih _ _ _ _ _ _ _ _ _ h
            · rw [if_neg c] at h
              refine g_iload_n hg dX12_lineOf_148 rfl 5 rfl ?_
              refine g_goto (tgt := 153) hg dX12_lineOf_149 (by decide) ?_
              refine g_sub (lv' := [(0, rr E.1 194), (1, .int x1), (2, .int x2), (3, .int x3), (4, .int (M.1 218 ((M.1 211 x3.toNatClampNeg) + x5).toNatClampNeg)), (5, .int x5), (6, .int (M.1 218 ((M.1 211 x3.toNatClampNeg) + x5).toNatClampNeg))]) [3, 4, 5, 6, 0, 7, 2] rfl ?_
              exact lkX12_lineOf_153 hn hRf hg hr hk13 ih _ _ _ _ _ _ _ _ _ h
        · replace h := itT c h
          refine g_sub (lv' := [(0, rr E.1 194), (1, .int x1), (2, .int x2), (3, .int x3), (4, .int (M.1 218 ((M.1 211 x3.toNatClampNeg) + x5).toNatClampNeg)), (5, .int x5), (6, .int (M.1 218 ((M.1 211 x3.toNatClampNeg) + x5).toNatClampNeg))]) [3, 4, 5, 6, 0, 7, 2] rfl ?_
          exact lkX12_lineOf_81 hn hRf hg hr hk13 ih _ _ _ _ _ _ _ h
theorem lkX12_lineOf_13 {g : Gm} {l0 : Launch} {E : En} {d n : Nat} {Rf : Nat → Nat → Nat} {ex : Bool} {kq : Nat × Nat} (hn : 238 ≤ n) (hRf : RfOk 194 238 kq Rf) (hg : Ok g l0 E cX12_lineOf RX12 9 (d + 3) 0 0) {q : Int32 × Mm} (hr : Ret g E 0 0 (some .int) ex n Rf (some (.int q.1)) q.2) : ∀ (F : Nat) (x1 : Int32) (x2 : Int32) (x3 : Int32) (M : Mm), sX12_lineOf_13 F x1 x2 x3 M = some q → WG g E 9 n Rf ex 0 0 13 [(0, rr E.1 194), (1, .int x1), (2, .int x2), (3, .int x3)] [] M := by
  intro F
  induction F with
  | zero =>
    intro x1 x2 x3 M h
    cases h
  | succ F ih =>
    intro x1 x2 x3 M h
    rw [sX12_lineOf_13] at h
    refine g_iload_n hg dX12_lineOf_13 rfl 3 rfl ?_
    refine g_rload_n hg dX12_lineOf_14 rfl 0 rfl ?_
    refine g_getI hg fl_X12_333 ly194 rfl (idb rfl rfl hn) dX12_lineOf_15 ?_
    refine g_icmp_ge (tgt := 405) hg dX12_lineOf_18 (by decide) (fun c => ?_) (fun c => ?_)
    · replace h := itT c h
      refine g_iconst hg dX12_lineOf_405 kI_m1 ?_
      replace h := Option.some.inj h
      subst h
      exact g_iret hg hr dX12_lineOf_406
    · replace h := itF c h
      refine g_iconst hg dX12_lineOf_21 kI_m1 ?_
      refine g_istore (lv' := [(4, .int (-1)), (0, rr E.1 194), (1, .int x1), (2, .int x2), (3, .int x3)]) hg dX12_lineOf_22 (by decide) rfl ?_
      refine g_iconst hg dX12_lineOf_24 kI_0 ?_
      refine g_istore (lv' := [(5, .int 0), (4, .int (-1)), (0, rr E.1 194), (1, .int x1), (2, .int x2), (3, .int x3)]) hg dX12_lineOf_25 (by decide) rfl ?_
      refine g_sub (lv' := [(0, rr E.1 194), (1, .int x1), (2, .int x2), (3, .int x3), (4, .int (-1)), (5, .int 0)]) [2, 3, 4, 5, 1, 0] rfl ?_
      exact lkX12_lineOf_27 hn hRf hg hr ih 4096 _ _ _ _ _ _ h
theorem lkX12_lineOf {l0 : Launch} {E : En} {d n : Nat} {Rf : Nat → Nat → Nat} {ex : Bool} {kq : Nat × Nat} (hd : 3 ≤ d) (hn : 238 ≤ n) (hRf : RfOk 194 238 kq Rf) {x1 : Int32} {M : Mm} {q : Int32 × Mm} (h : sX12_lineOf x1 M = some q) : Ct l0 E yX12_lineOf cX12_lineOf 9 (some .int) d 0 0 [rr E.1 194, .int x1] ex n Rf M n Rf (some (.int q.1)) q.2 := by
  obtain ⟨d, rfl⟩ := Nat.exists_eq_add_of_le' hd
  refine Ct.of pnX12 (Nat.le_of_ble_eq_true rfl) (fun g hg hr _ => ?_)
  replace hg : Ok g l0 E cX12_lineOf RX12 9 (d + 3) 0 0 := hg
  show WG g E 9 n Rf ex 0 0 0 [(0, rr E.1 194), (1, .int x1)] [] M
  unfold sX12_lineOf at h
  refine g_iconst hg dX12_lineOf_0 kI_1 ?_
  refine g_rload_n hg dX12_lineOf_1 rfl 0 rfl ?_
  refine g_getR (r := 205) hg fl_X12_68 ly194 rfl (idb rfl rfl hn) (rfc hRf rfl rfl rfl rfl) (by decide) dX12_lineOf_2 ?_
  refine g_iload_n hg dX12_lineOf_5 rfl 1 rfl ?_
  obtain ⟨c6, h⟩ := ck_some h
  refine g_iald hg ly205 (idb rfl rfl hn) (inb_vp c6) dX12_lineOf_6 ?_
  refine g_ishl hg dX12_lineOf_7 ?_
  refine g_iconst hg dX12_lineOf_8 kI_1 ?_
  refine g_isub hg dX12_lineOf_9 ?_
  refine g_istore_n (lv' := [(2, .int ((1 <<< ((M.1 205 x1.toNatClampNeg) &&& 31)) - 1)), (0, rr E.1 194), (1, .int x1)]) hg dX12_lineOf_10 rfl (by decide) rfl ?_
  refine g_iconst hg dX12_lineOf_11 kI_0 ?_
  refine g_istore_n (lv' := [(3, .int 0), (2, .int ((1 <<< ((M.1 205 x1.toNatClampNeg) &&& 31)) - 1)), (0, rr E.1 194), (1, .int x1)]) hg dX12_lineOf_12 rfl (by decide) rfl ?_
  refine g_sub (lv' := [(0, rr E.1 194), (1, .int x1), (2, .int ((1 <<< ((M.1 205 x1.toNatClampNeg) &&& 31)) - 1)), (3, .int 0)]) [2, 3, 1, 0] rfl ?_
  exact lkX12_lineOf_13 hn hRf hg hr  4096 _ _ _ _ h
