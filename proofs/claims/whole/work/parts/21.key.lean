theorem cv_X11_128 : CV RX11 128 RX2 yX2_resetReads cX2_resetReads 5 none 1 := ⟨w4_14, w4_15, w4_16, w1_13, w4_17, by decide +kernel, by decide⟩
theorem cv_X11_131 : CV RX11 131 RX1 yX1_judgeAll cX1_judgeAll 3 none 1 := ⟨w4_21, w4_22, w4_23, w1_11, w4_24, by decide +kernel, by decide⟩
theorem cv_X11_114 : CV RX11 114 RX5 yX5_readKey cX5_readKey 3 (some .boolean) 0 := ⟨w3_167, w3_168, w3_169, w1_7, w3_170, by decide +kernel, by decide⟩
theorem cv_X11_121 : CV RX11 121 RX5 yX5_handOver cX5_handOver 3 (some (.object "ClodDesk$Key")) 1 := ⟨w4_10, w4_11, w4_12, w1_7, w4_13, by decide +kernel, by decide⟩
theorem fl_X11_27 : FL RX11 27 11 3 := ⟨_, _, _, rfl, by decide, w3_79⟩
theorem fp_X5_12 : FP RX5 12 5 1 (.object "ClodDesk$Key") := ⟨_, _, _, rfl, by decide, w1_185, rfl, by decide +kernel⟩
theorem fp_X11_34 : FP RX11 34 11 4 (.object "ClodDesk$Key") := ⟨_, _, _, rfl, by decide, w3_80, rfl, by decide +kernel⟩
def sX11_key_72 (kq : Nat × Nat) : Nat → Int32 → Mm → Option (Int32 × Mm)
  | 0, _, _ => none
  | F + 1, x3, M => if 8 ≤ x3 then
      ((sX1_judgeAll kq.1 M).bind fun (M99 : Mm) =>
      some ((M99.1 kq.1 8), M99))
    else (ck (inb x3 8) (sX11_key_72 kq F (x3 + 1) (sI M 193 x3.toNatClampNeg 0)))
def sX11_key_56 (kq : Nat × Nat) (M : Mm) : Option (Int32 × Mm) :=
  (sX2_resetReads (M.1 kq.1 9) M).bind fun (M67 : Mm) =>
  sX11_key_72 kq 4096 0 M67
theorem lkX11_key_72 {g : Gm} {l0 : Launch} {E : En} {d n : Nat} {Rf : Nat → Nat → Nat} {ex : Bool} {kq : Nat × Nat} (hn : 239 ≤ n) (hRf : RfOk 1 239 kq Rf) (hkq : isKq kq) (hg : Ok g l0 E cX11_key RX11 4 (d + 110) 0 0) {q : Int32 × Mm} (hr : Ret g E 0 0 (some .int) ex n Rf (some (.int q.1)) q.2) : ∀ (F : Nat) (x3 : Int32) (M : Mm), sX11_key_72 kq F x3 M = some q → WG g E 4 n Rf ex 0 0 72 [(0, rr E.1 1), (3, .int x3)] [] M := by
  intro F
  induction F with
  | zero =>
    intro x3 M h
    cases h
  | succ F ih =>
    intro x3 M h
    rw [sX11_key_72] at h
    refine g_iload_n hg dX11_key_72 rfl 1 rfl ?_
    refine g_bipush hg dX11_key_73 kB_8 ?_
    refine g_icmp_ge (tgt := 91) hg dX11_key_75 (by decide) (fun c => ?_) (fun c => ?_)
    · replace h := itT c h
      refine g_rload_n hg dX11_key_91 rfl 0 rfl ?_
      refine g_getR (r := 34) hg fl_X11_52 ly1 rfl (idb rfl rfl hn) (rfc hRf rfl rfl rfl rfl) (by decide) dX11_key_92 ?_
      refine g_rload_n hg dX11_key_95 rfl 0 rfl ?_
      refine g_getR (r := kq.1) hg fl_X11_34 ly1 rfl (idb rfl rfl hn) (rfc hRf rfl rfl rfl rfl) (ky_pos hkq.1) dX11_key_96 ?_
      obtain ⟨M99, e99, h⟩ := Option.bind_eq_some_iff.mp h
      refine g_callVv (As := [rr E.1 kq.1]) (rest := []) hg (lkX1_judgeAll (by omega) hn hRf hkq.1 e99) cv_X11_131 rfl ly34 (idb rfl rfl hn) rfl rfl (Nat.le_of_ble_eq_true rfl) ⟨Nat.le_refl _, Nat.le_refl _⟩ dX11_key_99 ?_
      refine g_rload_n hg dX11_key_102 rfl 0 rfl ?_
      refine g_getR (r := kq.1) hg fl_X11_34 ly1 rfl (idb rfl rfl hn) (rfc hRf rfl rfl rfl rfl) (ky_pos hkq.1) dX11_key_103 ?_
      refine g_getI hg fl_X11_135 (ky_lay hkq.1) rfl (ky_bd hkq.1 hn) dX11_key_106 ?_
      replace h := Option.some.inj h
      subst h
      exact g_iret hg hr dX11_key_109
    · replace h := itF c h
      refine g_rload_n hg dX11_key_78 rfl 0 rfl ?_
      refine g_getR (r := 193) hg fl_X11_101 ly1 rfl (idb rfl rfl hn) (rfc hRf rfl rfl rfl rfl) (by decide) dX11_key_79 ?_
      refine g_iload_n hg dX11_key_82 rfl 1 rfl ?_
      refine g_iconst hg dX11_key_83 kI_0 ?_
      obtain ⟨c84, h⟩ := ck_some h
      refine g_iast hg ly193 (idb rfl rfl hn) (inb_vp c84) dX11_key_84 ?_
      refine g_inc (lv' := [(3, .int (x3 + 1)), (0, rr E.1 1)]) hg dX11_key_85 kI_1 1 rfl (by decide) rfl ?_
      refine g_goto (tgt := 72) hg dX11_key_88 (by decide) ?_
      refine g_sub (lv' := [(0, rr E.1 1), (3, .int (x3 + 1))]) [1, 0] rfl ?_
      exact ih _ _ h
theorem lkX11_key_56 {g : Gm} {l0 : Launch} {E : En} {d n : Nat} {Rf : Nat → Nat → Nat} {ex : Bool} {kq : Nat × Nat} (hn : 239 ≤ n) (hRf : RfOk 1 239 kq Rf) (hkq : isKq kq) (hg : Ok g l0 E cX11_key RX11 4 (d + 110) 0 0) {q : Int32 × Mm} (hr : Ret g E 0 0 (some .int) ex n Rf (some (.int q.1)) q.2) : ∀  (M : Mm), sX11_key_56 kq  M = some q → WG g E 4 n Rf ex 0 0 56 [(0, rr E.1 1)] [] M := by
  intro M h
  unfold sX11_key_56 at h
  refine g_rload_n hg dX11_key_56 rfl 0 rfl ?_
  refine g_getR (r := 158) hg fl_X11_61 ly1 rfl (idb rfl rfl hn) (rfc hRf rfl rfl rfl rfl) (by decide) dX11_key_57 ?_
  refine g_rload_n hg dX11_key_60 rfl 0 rfl ?_
  refine g_getR (r := kq.1) hg fl_X11_34 ly1 rfl (idb rfl rfl hn) (rfc hRf rfl rfl rfl rfl) (ky_pos hkq.1) dX11_key_61 ?_
  refine g_getI hg fl_X11_125 (ky_lay hkq.1) rfl (ky_bd hkq.1 hn) dX11_key_64 ?_
  obtain ⟨M67, e67, h⟩ := Option.bind_eq_some_iff.mp h
  refine g_callVv (As := [.int (M.1 kq.1 9)]) (rest := []) hg (lkX2_resetReads (by omega) hn hRf  e67) cv_X11_128 rfl ly158 (idb rfl rfl hn) rfl rfl (Nat.le_of_ble_eq_true rfl) ⟨Nat.le_refl _, Nat.le_refl _⟩ dX11_key_67 ?_
  refine g_iconst hg dX11_key_70 kI_0 ?_
  refine g_istore_n (lv' := [(3, .int 0), (0, rr E.1 1)]) hg dX11_key_71 rfl (by decide) rfl ?_
  refine g_sub (lv' := [(0, rr E.1 1), (3, .int 0)]) [1, 0] rfl ?_
  exact lkX11_key_72 hn hRf hkq hg hr  4096 _ _ h
theorem lkX5_handOver {l0 : Launch} {E : En} {d n : Nat} {Rf : Nat → Nat → Nat} {ex : Bool} {kq : Nat × Nat} (hd : 1 ≤ d) (hn : 239 ≤ n) (hRf : RfOk 1 239 kq Rf) (hkq : isKq kq) {r1 : Nat} (hr1 : isKy r1) {M : Mm} : Ct l0 E yX5_handOver cX5_handOver 3 (some (.object "ClodDesk$Key")) d 0 0 [rr E.1 5, rr E.1 r1] ex n Rf M n (up2 Rf 5 1 r1) (some (rr E.1 kq.2)) M := by
  obtain ⟨d, rfl⟩ := Nat.exists_eq_add_of_le' hd
  refine Ct.of pnX5 (Nat.le_of_ble_eq_true rfl) (fun g hg hr _ => ?_)
  replace hg : Ok g l0 E cX5_handOver RX5 3 (d + 1) 0 0 := hg
  show WG g E 3 n Rf ex 0 0 0 [(0, rr E.1 5), (1, rr E.1 r1)] [] M
  refine g_rload_n hg dX5_handOver_0 rfl 0 rfl ?_
  refine g_getR (r := kq.2) hg fl_X5_12 ly5 rfl (idb rfl rfl hn) (rfc hRf rfl rfl rfl rfl) (ky_pos hkq.2) dX5_handOver_1 ?_
  refine g_rstore_n (lv' := [(2, rr E.1 kq.2), (0, rr E.1 5), (1, rr E.1 r1)]) hg dX5_handOver_4 rfl (by decide) rfl ?_
  refine g_rload_n hg dX5_handOver_5 rfl 1 rfl ?_
  refine g_rload_n hg dX5_handOver_6 rfl 2 rfl ?_
  refine g_putR hg fp_X5_12 ly5 rfl (idb rfl rfl hn) (ky_pos hr1) rfl rfl dX5_handOver_7 ?_
  refine g_rload_n hg dX5_handOver_10 rfl 0 rfl ?_
  exact g_aret hg hr (Or.inl ⟨_, rfl⟩) dX5_handOver_11
def Rsw (Rf : Nat → Nat → Nat) (kq : Nat × Nat) : Nat → Nat → Nat := up2 (up2 Rf 5 1 kq.2) 1 4 kq.1
theorem Rsw_same {Rf : Nat → Nat → Nat} {kq : Nat × Nat} (hRf : RfOk 1 239 kq Rf) : Rsw Rf kq = Rf := by
  funext a k
  unfold Rsw up2
  by_cases h1 : a = 1 ∧ k = 4
  · rw [if_pos h1, h1.1, h1.2]
    exact (rfc (id := 1) (k := 4) hRf rfl rfl rfl rfl).symm
  · rw [if_neg h1]
    by_cases h2 : a = 5 ∧ k = 1
    · rw [if_pos h2, h2.1, h2.2]
      exact (rfc (id := 5) (k := 1) hRf rfl rfl rfl rfl).symm
    · rw [if_neg h2]
theorem rT_sw (kq kq' : Nat × Nat) (a k : Nat) (h1 : ¬ (a = 1 ∧ k = 4)) (h2 : ¬ (a = 5 ∧ k = 1)) : rT kq a k = rT kq' a k := by
  by_cases ha : a = 1
  · subst ha
    match k, h1 with
    | 0, _ => rfl
    | 1, _ => rfl
    | 2, _ => rfl
    | 3, _ => rfl
    | 4, h => exact absurd ⟨rfl, rfl⟩ h
    | k + 5, _ => rfl
  · by_cases hb : a = 5
    · subst hb
      match k, h2 with
      | 0, _ => rfl
      | 1, h => exact absurd ⟨rfl, rfl⟩ h
      | k + 2, _ => rfl
    · have e : rTL kq.1 kq.2 = ((rTL kq'.1 kq'.2).set 1 ((rTL kq.1 kq.2).getD 1 [])).set 5 ((rTL kq.1 kq.2).getD 5 []) := rfl
      unfold rT
      rw [e]
      simp only [List.getD_eq_getElem?_getD]
      rw [List.getElem?_set_ne (Ne.symm hb), List.getElem?_set_ne (Ne.symm ha)]
theorem Rsw_ok {Rf : Nat → Nat → Nat} {kq kq' : Nat × Nat} (hRf : RfOk 1 239 kq Rf) : RfOk 1 239 kq' (Rsw Rf kq') := by
  intro a k h1 h2 hk
  unfold Rsw up2
  by_cases c1 : a = 1 ∧ k = 4
  · rw [if_pos c1, c1.1, c1.2]
    rfl
  · rw [if_neg c1]
    by_cases c2 : a = 5 ∧ k = 1
    · rw [if_pos c2, c2.1, c2.2]
      rfl
    · rw [if_neg c2, hRf a k h1 h2 hk]
      exact rT_sw _ _ _ _ c1 c2
def sX11_key_f (kq : Nat × Nat) (x1 : Int32) (M : Mm) : Option (Option Int32 × Mm) :=
  if x1 < 0 then some (some (-2), M) else if x1 ≤ M.1 1 1 then
    (sX10_start x1 M).bind fun (M20 : Mm) => (sX5_readKey kq M20).bind fun (q27 : Int32 × Mm) => (sX11_keepFault q27.2).bind fun (M32 : Mm) =>
      if q27.1 = 0 then some (some (-1), M32) else some (none, M32)
  else some (some (-2), M)
def sX11_key (kq : Nat × Nat) (x1 : Int32) (M : Mm) : Option ((Int32 × Mm) × (Nat × Nat)) :=
  (sX11_key_f kq x1 M).bind fun f => match f.1 with
    | some r => some ((r, f.2), kq)
    | none => (sX11_key_56 (kq.2, kq.1) f.2).bind fun q => some (q, (kq.2, kq.1))
theorem lkX11_key {l0 : Launch} {E : En} {d n : Nat} {Rf : Nat → Nat → Nat} {ex : Bool} {kq : Nat × Nat} (hd : 110 ≤ d) (hn : 239 ≤ n) (hRf : RfOk 1 239 kq Rf) (hkq : isKq kq) {x1 : Int32} {M : Mm} {q : (Int32 × Mm) × (Nat × Nat)} (h : sX11_key kq x1 M = some q) : Ct l0 E yX11_key cX11_key 4 (some .int) d 0 0 [rr E.1 1, .int x1] ex n Rf M n (Rsw Rf q.2) (some (.int q.1.1)) q.1.2 := by
  obtain ⟨d, rfl⟩ := Nat.exists_eq_add_of_le' hd
  refine Ct.of pnX11 (Nat.le_of_ble_eq_true rfl) (fun g hg hr _ => ?_)
  replace hg : Ok g l0 E cX11_key RX11 4 (d + 110) 0 0 := hg
  show WG g E 4 n Rf ex 0 0 0 [(0, rr E.1 1), (1, .int x1)] [] M
  unfold sX11_key at h
  obtain ⟨f, hf, h⟩ := Option.bind_eq_some_iff.mp h
  have fail : ∀ (r : Int32) (M1 : Mm) (pc : Nat) (lv : List (Nat × Value)), f = (some r, M1) → decode cX11_key pc = .ok (.ireturn, 1) → WG g E 4 n Rf ex 0 0 pc lv [.int r] M1 := by
    intro r M1 pc lv hf1 hd1
    subst hf1
    replace h := Option.some.inj h
    subst h
    rw [show Rsw Rf (((r, M1), kq) : (Int32 × Mm) × (Nat × Nat)).2 = Rf from Rsw_same hRf] at hr
    exact g_iret hg hr hd1
  unfold sX11_key_f at hf
  refine g_iload_n hg dX11_key_0 rfl 1 rfl ?_
  refine g_if_lt (tgt := 12) hg dX11_key_1 (by decide) (fun c => ?_) (fun c => ?_)
  · replace hf := Option.some.inj (itT c hf)
    refine g_bipush hg dX11_key_12 kB_m2 ?_
    exact fail _ _ _ _ hf.symm dX11_key_14
  · replace hf := itF c hf
    refine g_iload_n hg dX11_key_4 rfl 1 rfl ?_
    refine g_rload_n hg dX11_key_5 rfl 0 rfl ?_
    refine g_getI hg fl_X11_104 ly1 rfl (idb rfl rfl hn) dX11_key_6 ?_
    refine g_icmp_le (tgt := 15) hg dX11_key_9 (by decide) (fun c => ?_) (fun c => ?_)
    · replace hf := itT c hf
      refine g_rload_n hg dX11_key_15 rfl 0 rfl ?_
      refine g_getR (r := 3) hg fl_X11_18 ly1 rfl (idb rfl rfl hn) (rfc hRf rfl rfl rfl rfl) (by decide) dX11_key_16 ?_
      refine g_iload_n hg dX11_key_19 rfl 1 rfl ?_
      obtain ⟨M20, e20, hf⟩ := Option.bind_eq_some_iff.mp hf
      refine g_callVv (As := [.int x1]) (rest := []) hg (lkX10_start (by omega) (Nat.le_trans (by decide : 5 ≤ 239) hn) (hRf.mono (by decide) (by decide)) e20) cv_X11_111 rfl ly3 (idb rfl rfl hn) rfl rfl (Nat.le_of_ble_eq_true rfl) ⟨Nat.le_refl _, Nat.le_refl _⟩ dX11_key_20 ?_
      refine g_rload_n hg dX11_key_23 rfl 0 rfl ?_
      refine g_getR (r := 5) hg fl_X11_27 ly1 rfl (idb rfl rfl hn) (rfc hRf rfl rfl rfl rfl) (by decide) dX11_key_24 ?_
      obtain ⟨q27, e27, hf⟩ := Option.bind_eq_some_iff.mp hf
      refine g_callVi (As := []) (rest := []) hg (lkX5_readKey (by omega) hn hRf hkq e27) cv_X11_114 rfl ly5 (idb rfl rfl hn) rfl rfl (Nat.le_of_ble_eq_true rfl) ⟨Nat.le_refl _, Nat.le_refl _⟩ dX11_key_27 ?_
      refine g_istore_n (lv' := [(2, .int q27.1), (0, rr E.1 1), (1, .int x1)]) hg dX11_key_30 rfl (by decide) rfl ?_
      refine g_rload_n hg dX11_key_31 rfl 1 rfl ?_
      obtain ⟨M32, e32, hf⟩ := Option.bind_eq_some_iff.mp hf
      refine g_callVv (As := []) (rest := []) hg (lkX11_keepFault (by omega) hn hRf e32) cv_X11_118 rfl ly1 (idb rfl rfl hn) rfl rfl (Nat.le_of_ble_eq_true rfl) ⟨Nat.le_refl _, Nat.le_refl _⟩ dX11_key_32 ?_
      refine g_iload_n hg dX11_key_35 rfl 0 rfl ?_
      refine g_if_ne (tgt := 41) hg dX11_key_36 (by decide) (fun c => ?_) (fun c => ?_)
      · replace hf := Option.some.inj (itF c hf)
        subst hf
        obtain ⟨q2, e2, h⟩ := Option.bind_eq_some_iff.mp h
        replace h := Option.some.inj h
        subst h
        refine g_rload_n hg dX11_key_41 rfl 1 rfl ?_
        refine g_rload_n hg dX11_key_42 rfl 1 rfl ?_
        refine g_getR (r := 5) hg fl_X11_27 ly1 rfl (idb rfl rfl hn) (rfc hRf rfl rfl rfl rfl) (by decide) dX11_key_43 ?_
        refine g_rload_n hg dX11_key_46 rfl 1 rfl ?_
        refine g_getR (r := kq.1) hg fl_X11_34 ly1 rfl (idb rfl rfl hn) (rfc hRf rfl rfl rfl rfl) (ky_pos hkq.1) dX11_key_47 ?_
        refine g_callV (As := [rr E.1 kq.1]) (rest := [rr E.1 1]) hg (lkX5_handOver (by omega) hn hRf hkq hkq.1) cv_X11_121 rfl ly5 (idb rfl rfl hn) rfl rfl (Nat.le_of_ble_eq_true rfl) ⟨Nat.le_refl _, Nat.le_refl _⟩ dX11_key_50 ?_
        show WG g E 4 n _ ex 0 0 _ _ [rr E.1 kq.2, rr E.1 1] _
        refine g_putR hg fp_X11_34 ly1 rfl (idb rfl rfl hn) (ky_pos hkq.2) rfl rfl dX11_key_53 ?_
        refine g_sub (lv' := [(0, rr E.1 1)]) [1] rfl ?_
        exact lkX11_key_56 (kq := (kq.2, kq.1)) hn (Rsw_ok (kq' := (kq.2, kq.1)) hRf) ⟨hkq.2, hkq.1⟩ hg hr _ e2
      · replace hf := Option.some.inj (itT c hf)
        refine g_iconst hg dX11_key_39 kI_m1 ?_
        exact fail _ _ _ _ hf.symm dX11_key_40
    · replace hf := Option.some.inj (itF c hf)
      refine g_bipush hg dX11_key_12 kB_m2 ?_
      exact fail _ _ _ _ hf.symm dX11_key_14
