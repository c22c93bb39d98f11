theorem wl1_22 : Cond.initialized xIO ∈ gt := gt_in (tm1 _ (List.mem_of_getElem? (i := 22) rfl)) rfl
theorem wl1_23 : Cond.initialized xNS ∈ gt := gt_in (tm1 _ (List.mem_of_getElem? (i := 23) rfl)) rfl
theorem wl5_158 : Cond.codeWith yL_look cL_look 5 (some .int) [(0, 10, 13, 13), (0, 10, 17, 15)] ∈ gt := gt_in (tm5 _ (List.mem_of_getElem? (i := 158) rfl)) rfl
theorem fl_X11_231 : FL RX11 231 6 6 := ⟨_, _, _, rfl, by decide, w2_10⟩
theorem fl_X11_234 : FL RX11 234 6 7 := ⟨_, _, _, rfl, by decide, w2_12⟩
theorem fl_X11_237 : FL RX11 237 6 8 := ⟨_, _, _, rfl, by decide, w2_14⟩
theorem fl_X11_240 : FL RX11 240 6 3 := ⟨_, _, _, rfl, by decide, w2_6⟩
def sX11_look (x1 x2 : Int32) (M : Mm) : Option ((Int32 × Int32) × Mm) :=
  (sX6_hasCell x1 M).bind fun (q5 : Int32 × Mm) =>
    if q5.1 = 0 then some ((1, 0), q5.2) else if x2 < 0 then some ((2, 0), q5.2) else if x2 < 8 then
      (if x2 = 0 then ck (inb x1 64) (some ((0, q5.2.1 31 x1.toNatClampNeg), q5.2)) else if x2 = 1 then ck (inb x1 64) (some ((0, q5.2.1 32 x1.toNatClampNeg), q5.2)) else if x2 = 2 then ck (inb x1 64) (some ((0, q5.2.1 33 x1.toNatClampNeg), q5.2))
       else ck (inb (x2 - 3) 5) (ck (inb x1 64) (some ((0, q5.2.1 (24 + (x2 - 3).toNatClampNeg) x1.toNatClampNeg), q5.2))))
    else some ((2, 0), q5.2)
def Ql (E : En) (n : Nat) (Rf : Nat → Nat → Nat) (q : (Int32 × Int32) × Mm) : Array Value → State → Outcome → State → Prop := fun _ st oc t => q.1.1 = 0 ∧ oc = .returned (some (.int q.1.2)) ∧ Emb E n Rf false q.2 t.heap ∧ va_F (fun z => E.1 < z) st t
def Xl (E : En) (n : Nat) (Rf : Nat → Nat → Nat) (q : (Int32 × Int32) × Mm) : String → State → State → Prop := fun X st t => ((q.1.1 = 1 ∧ X = xIO) ∨ (q.1.1 = 2 ∧ X = xNS)) ∧ Emb E n Rf false q.2 t.heap ∧ va_F (fun z => E.1 < z) st t
theorem Emb.more {E : En} {n : Nat} {Rf : Nat → Nat → Nat} {M : Mm} {H H' : Heap} (h : Emb E n Rf false M H) (hz : H.size ≤ H'.size) (ho : ∀ q : Nat, q < H.size → H'[q]? = H[q]?) : Emb E n Rf false M H' :=
  ⟨fun id h1 h2 => (h.1 id h1 h2).kept (ho _ (by have := h.2.1; omega)) (fun _ => rfl) (fun _ => rfl) (fun _ => rfl), Nat.le_trans h.2.1 hz, fun e => by cases e⟩
theorem gd_io : ∀ w ∈ Cond.classLink RX11 219 xIO :: Cond.initialized xIO :: vx_atS RX11 223 xIO [nRT, nEX], vx_ot w = true := by decide +kernel
theorem gg_io : ∀ w ∈ (vx_atS RX11 223 xIO [nRT, nEX]).filter goodWord, w ∈ lw_tbl := by decide +kernel
theorem gb_io : ∀ w ∈ (vx_atS RX11 223 xIO [nRT, nEX]).filter (fun w => !goodWord w), w ∈ [Cond.castable xIO xIO, .declares (Bundle.initS nRT), .declares (Bundle.initS nEX), .declares (Bundle.initS Bundle.tN)] := by decide +kernel
theorem gx_io {p : Program} {l : Launch} {e : Env} {d : Nat} {s : State} {m : MethodId} {args : Array Value} {below : List Frame} {meth : Method} {c : Code} {E : En} {n : Nat} {Rf : Nat → Nat → Nat} {q : (Int32 × Int32) × Mm} {pc : Nat} {lv : List (Nat × Value)} (hl0 : l.stackTraces = false) (hex : ∀ x ∈ c.exceptionTable.toList, False) (hq : q.1.1 = 1)
    (hg : Ok (p, l, e, rmd (d + 6) 1 6, s, m, args, below, meth, c, vx_MQ below (Ql E n Rf q) (Xl E n Rf q) args s 1 6 (fun z => E.1 < z)) l E cX11_look RX11 3 (d + 6) 1 6)
    (d0 : decode cX11_look pc = .ok (.new 219, 3)) (d3 : decode cX11_look (pc + 3) = .ok (.dup, 1)) (d4 : decode cX11_look (pc + 4) = .ok (.ldc 221, 2)) (d6 : decode cX11_look (pc + 6) = .ok (.invokespecial 223, 3)) (d9 : decode cX11_look (pc + 9) = .ok (.athrow, 1)) :
    WG (p, l, e, rmd (d + 6) 1 6, s, m, args, below, meth, c, vx_MQ below (Ql E n Rf q) (Xl E n Rf q) args s 1 6 (fun z => E.1 < z)) E 3 n Rf false 0 0 pc lv [] q.2 := by
  obtain ⟨hll, hx, hb, hml, hown, hts, hSt, hlk, hfr, hlo, hrc, hrs⟩ := hg
  intro H locs ls hl hE hS
  obtain ⟨sa, hsa⟩ := hSt.2.2.1.2.2.2.2.2.1
  refine vx_throwS (names := [nRT, nEX]) (A := fun z => E.1 < z) hx hb hl0 hown (by decide +kernel) (by decide +kernel) (hts _ wx5_165) (hts _ wl1_22) hsa (vx_hat (fun w hw => hts w (gt_in (gg_io w hw) (List.mem_filter.mp hw).2)) gb_io (vx_c (va_Nw.use rfl hSt.2.1.2.2.2.2.2.2.1) (vx_c (va_Nw.use rfl hSt.2.1.2.2.2.2.2.2.2.2.2.1) (vx_c (va_Nw.use rfl hSt.2.1.2.2.2.2.2.2.2.2.2.2.1) (vx_c (va_Nw.use rfl hSt.2.1.2.2.2.2.2.2.2.2.2.2.2) vx_n))))) gd_io hSt.2.2.1.2.2.2.2.2.2.2.1 hSt.2.2.1.2.2.2.2.2.2.2.2.1 hS (hl.1.trans hml.symm) d0 d3 d4 d6 d9 (fun x hx9 => absurd (hex x hx9) id) (by show 2 + 3 < d + 6; omega) (by show 0 + (13 * (2 + 1) + 43) ≤ 60 * (d + 6); omega) (by show 0 + 1 ≤ 1; decide) (by show 0 + 6 ≤ 6; decide) hlk ?_ (fun z hz => hS.2.2 z hz) (by decide) (by decide)
  intro t hal hz ho
  refine ⟨Or.inl ⟨hq, rfl⟩, hE.more hz ho, Nat.le_trans hS.1 hz, fun z h1 h2 => ?_⟩
  rw [ho z (Nat.lt_of_lt_of_le h1 hS.1)]
  exact hS.2.1 z h1 h2
theorem gd_ns : ∀ w ∈ Cond.classLink RX11 226 xNS :: Cond.initialized xNS :: atSX RX11 230 xNS [nRT, nEX], vx_ot w = true := by decide +kernel
theorem gg_ns : ∀ w ∈ (atSX RX11 230 xNS [nRT, nEX]).filter goodWord, w ∈ lw_tbl := by decide +kernel
theorem gb_ns : ∀ w ∈ (atSX RX11 230 xNS [nRT, nEX]).filter (fun w => !goodWord w), w ∈ [Cond.castable xNS xNS, .declares (Bundle.initS nRT), .declares (Bundle.initS nEX), .declares (Bundle.initS Bundle.tN)] := by decide +kernel
theorem gx_ns {p : Program} {l : Launch} {e : Env} {d : Nat} {s : State} {m : MethodId} {args : Array Value} {below : List Frame} {meth : Method} {c : Code} {E : En} {n : Nat} {Rf : Nat → Nat → Nat} {q : (Int32 × Int32) × Mm} {pc : Nat} {lv : List (Nat × Value)} (hl0 : l.stackTraces = false) (hex : ∀ x ∈ c.exceptionTable.toList, False) (hq : q.1.1 = 2)
    (hg : Ok (p, l, e, rmd (d + 6) 1 6, s, m, args, below, meth, c, vx_MQ below (Ql E n Rf q) (Xl E n Rf q) args s 1 6 (fun z => E.1 < z)) l E cX11_look RX11 3 (d + 6) 1 6)
    (d0 : decode cX11_look pc = .ok (.new 226, 3)) (d3 : decode cX11_look (pc + 3) = .ok (.dup, 1)) (d4 : decode cX11_look (pc + 4) = .ok (.ldc 228, 2)) (d6 : decode cX11_look (pc + 6) = .ok (.invokespecial 230, 3)) (d9 : decode cX11_look (pc + 9) = .ok (.athrow, 1)) :
    WG (p, l, e, rmd (d + 6) 1 6, s, m, args, below, meth, c, vx_MQ below (Ql E n Rf q) (Xl E n Rf q) args s 1 6 (fun z => E.1 < z)) E 3 n Rf false 0 0 pc lv [] q.2 := by
  obtain ⟨hll, hx, hb, hml, hown, hts, hSt, hlk, hfr, hlo, hrc, hrs⟩ := hg
  intro H locs ls hl hE hS
  obtain ⟨sa, hsa⟩ := hSt.2.2.1.2.2.2.2.2.2.1
  refine throwSX (names := [nRT, nEX]) (A := fun z => E.1 < z) hx hb hl0 hown (by decide +kernel) (by decide +kernel) (hts _ wx5_231) (hts _ wl1_23) hsa (vx_hat (fun w hw => hts w (gt_in (gg_ns w hw) (List.mem_filter.mp hw).2)) gb_ns (vx_c (va_Nw.use rfl hSt.2.1.2.2.2.2.2.2.2.1) (vx_c (va_Nw.use rfl hSt.2.1.2.2.2.2.2.2.2.2.2.1) (vx_c (va_Nw.use rfl hSt.2.1.2.2.2.2.2.2.2.2.2.2.1) (vx_c (va_Nw.use rfl hSt.2.1.2.2.2.2.2.2.2.2.2.2.2) vx_n))))) gd_ns hSt.2.2.1.2.2.2.2.2.2.2.1 hSt.2.2.1.2.2.2.2.2.2.2.2.1 hS (hl.1.trans hml.symm) d0 d3 d4 d6 d9 (fun x hx9 => absurd (hex x hx9) id) (by show 2 + 3 < d + 6; omega) (by show 0 + (13 * (2 + 1) + 43) ≤ 60 * (d + 6); omega) (by show 0 + 1 ≤ 1; decide) (by show 0 + 6 ≤ 6; decide) hlk ?_ (fun z hz => hS.2.2 z hz) (by decide) (by decide)
  intro t hal hz ho
  refine ⟨Or.inr ⟨hq, rfl⟩, hE.more hz ho, Nat.le_trans hS.1 hz, fun z h1 h2 => ?_⟩
  rw [ho z (Nat.lt_of_lt_of_le h1 hS.1)]
  exact hS.2.1 z h1 h2
theorem gx_ret {p : Program} {l : Launch} {e : Env} {R : Room} {s : State} {m : MethodId} {args : Array Value} {below : List Frame} {meth : Method} {c : Code} {E : En} {d n : Nat} {Rf : Nat → Nat → Nat} {q : (Int32 × Int32) × Mm} {pc : Nat} {lv : List (Nat × Value)} (hrt : meth.sig.returnType = some .int) (hq : q.1.1 = 0)
    (hg : Ok (p, l, e, R, s, m, args, below, meth, c, vx_MQ below (Ql E n Rf q) (Xl E n Rf q) args s 1 6 (fun z => E.1 < z)) l E cX11_look RX11 3 d 1 6) (hd : decode cX11_look pc = .ok (.ireturn, 1)) :
    WG (p, l, e, R, s, m, args, below, meth, c, vx_MQ below (Ql E n Rf q) (Xl E n Rf q) args s 1 6 (fun z => E.1 < z)) E 3 n Rf false 0 0 pc lv [.int q.1.2] q.2 := by
  obtain ⟨hll, hx, hb, hml, hown, hts, hSt, hlk, hfr, hlo, hrc, hrs⟩ := hg
  intro H locs ls hl hE hS
  refine W.widen (k := 1) (n := 6) (by decide) (by decide) ?_
  exact vx_ret (W.iret hx hb hrt (fun t ht hW => ⟨hq, rfl, by rw [ht]; exact hE, hS.F ht⟩) (fun z hz => hS.2.2 z hz) hd (hlocks := hlk))
theorem ctX_look {l : Launch} {E : En} {d n : Nat} {Rf : Nat → Nat → Nat} {kq : Nat × Nat} (hl0 : l.stackTraces = false) (hn : 239 ≤ n) (hRf : RfOk 1 239 kq Rf) {x1 x2 : Int32} {M : Mm} {q : (Int32 × Int32) × Mm} (h : sX11_look x1 x2 M = some q) :
    vx_Met l yX11_look (.code yX11_look cX11_look 3 (some .int) :: gt) (rmd (d + 6) 1 6) (va_Pc [rr E.1 1, .int x1, .int x2] (Ps E n Rf false M)) (Ql E n Rf q) (Xl E n Rf q) 1 6 (fun z => E.1 < z) := by
  refine vx_ofW (cc := cX11_look) (maxL := 3) (ret := some .int) pnX11 rfl ?_
  intro p e s m args below meth c s₁ B hml hex hv
  obtain ⟨rfl, hE, hSt⟩ := hv
  have hts : ∀ w ∈ gt, w.before [rr E.1 1, .int x1, .int x2].toArray s = true := fun w hw => atoms_spec (ws := .code yX11_look cX11_look 3 (some .int) :: gt) B.pre w (List.mem_cons_of_mem _ hw)
  have hown : s.vm.findClass RX11 = some m.cls := findClass_of_methodNamed B.named
  have hrt := B.returns
  have hg : Ok (p, l, e, rmd (d + 6) 1 6, s, m, [rr E.1 1, .int x1, .int x2].toArray, below, meth, c, vx_MQ below (Ql E n Rf q) (Xl E n Rf q) [rr E.1 1, .int x1, .int x2].toArray s 1 6 (fun z => E.1 < z)) l E cX11_look RX11 3 (d + 6) 1 6 := ⟨rfl, B.exec, B.bytes, hml, hown, hts, hSt, B.notSynchronized, Nat.le_refl _, Nat.le_refl _, rfl, rfl⟩
  have hl := lv_entry [rr E.1 1, .int x1, .int x2] (n := 3) (Nat.le_of_ble_eq_true rfl)
  rw [lg_entry_eq]
  suffices K : WG (p, l, e, rmd (d + 6) 1 6, s, m, [rr E.1 1, .int x1, .int x2].toArray, below, meth, c, vx_MQ below (Ql E n Rf q) (Xl E n Rf q) [rr E.1 1, .int x1, .int x2].toArray s 1 6 (fun z => E.1 < z)) E 3 n Rf false 0 0 0 [(0, rr E.1 1), (1, .int x1), (2, .int x2)] [] M from K s.heap [] _ hl hE va_S.rf
  unfold sX11_look at h
  obtain ⟨q5, e5, h⟩ := Option.bind_eq_some_iff.mp h
  refine g_rload_n hg dX11_look_0 rfl 0 rfl ?_
  refine g_getR (r := 22) hg fl_X11_45 ly1 rfl (idb rfl rfl hn) (rfc hRf rfl rfl rfl rfl) (by decide) dX11_look_1 ?_
  refine g_iload_n hg dX11_look_4 rfl 1 rfl ?_
  refine g_callVi (d := d + 5) (As := [.int x1]) (rest := []) hg (lkX6_hasCell (by omega) (Nat.le_trans (by decide : 34 ≤ 239) hn) (hRf.mono (by decide) (by decide)) e5) cv_X11_142 rfl ly22 (idb rfl rfl hn) rfl rfl (Nat.le_of_ble_eq_true rfl) (by decide) dX11_look_5 ?_
  refine g_if_ne (tgt := 21) hg dX11_look_8 (by decide) (fun c0 => ?_) (fun c0 => ?_)
  · replace h := itF c0 h
    refine g_iload_n hg dX11_look_21 rfl 2 rfl ?_
    refine g_if_lt (tgt := 31) hg dX11_look_22 (by decide) (fun c1 => ?_) (fun c1 => ?_)
    · replace h := Option.some.inj (itT c1 h)
      subst h
      exact gx_ns hl0 hex rfl hg dX11_look_31 dX11_look_34 dX11_look_35 dX11_look_37 dX11_look_40
    · replace h := itF c1 h
      refine g_iload_n hg dX11_look_25 rfl 2 rfl ?_
      refine g_bipush hg dX11_look_26 kB_8 ?_
      refine g_icmp_lt (tgt := 41) hg dX11_look_28 (by decide) (fun c2 => ?_) (fun c2 => ?_)
      · replace h := itT c2 h
        refine g_iload_n hg dX11_look_41 rfl 2 rfl ?_
        by_cases w0 : x2 = 0
        · replace h := itT w0 h
          refine g_tabI (tgt := 68) (off := 26) hg dX11_look_42 w0 (by decide) (by decide) ?_
          obtain ⟨c1, h⟩ := ck_some h
          replace h := Option.some.inj h
          subst h
          refine g_rload_n hg dX11_look_68 rfl 0 rfl ?_
          refine g_getR (r := 22) hg fl_X11_45 ly1 rfl (idb rfl rfl hn) (rfc hRf rfl rfl rfl rfl) (by decide) dX11_look_69 ?_
          refine g_getR (r := 31) hg fl_X11_231 ly22 rfl (idb rfl rfl hn) (rfc hRf rfl rfl rfl rfl) (by decide) dX11_look_72 ?_
          refine g_iload_n hg dX11_look_75 rfl 1 rfl ?_
          refine g_iald hg ly31 (idb rfl rfl hn) (inb_vp c1) dX11_look_76 ?_
          exact gx_ret hrt rfl hg dX11_look_77
        replace h := itF w0 h
        by_cases w1 : x2 = 1
        · replace h := itT w1 h
          refine g_tabI (tgt := 78) (off := 36) hg dX11_look_42 w1 (by decide) (by decide) ?_
          obtain ⟨c1, h⟩ := ck_some h
          replace h := Option.some.inj h
          subst h
          refine g_rload_n hg dX11_look_78 rfl 0 rfl ?_
          refine g_getR (r := 22) hg fl_X11_45 ly1 rfl (idb rfl rfl hn) (rfc hRf rfl rfl rfl rfl) (by decide) dX11_look_79 ?_
          refine g_getR (r := 32) hg fl_X11_234 ly22 rfl (idb rfl rfl hn) (rfc hRf rfl rfl rfl rfl) (by decide) dX11_look_82 ?_
          refine g_iload_n hg dX11_look_85 rfl 1 rfl ?_
          refine g_iald hg ly32 (idb rfl rfl hn) (inb_vp c1) dX11_look_86 ?_
          exact gx_ret hrt rfl hg dX11_look_87
        replace h := itF w1 h
        by_cases w2 : x2 = 2
        · replace h := itT w2 h
          refine g_tabI (tgt := 88) (off := 46) hg dX11_look_42 w2 (by decide) (by decide) ?_
          obtain ⟨c1, h⟩ := ck_some h
          replace h := Option.some.inj h
          subst h
          refine g_rload_n hg dX11_look_88 rfl 0 rfl ?_
          refine g_getR (r := 22) hg fl_X11_45 ly1 rfl (idb rfl rfl hn) (rfc hRf rfl rfl rfl rfl) (by decide) dX11_look_89 ?_
          refine g_getR (r := 33) hg fl_X11_237 ly22 rfl (idb rfl rfl hn) (rfc hRf rfl rfl rfl rfl) (by decide) dX11_look_92 ?_
          refine g_iload_n hg dX11_look_95 rfl 1 rfl ?_
          refine g_iald hg ly33 (idb rfl rfl hn) (inb_vp c1) dX11_look_96 ?_
          exact gx_ret hrt rfl hg dX11_look_97
        replace h := itF w2 h
        refine g_tabO (tgt := 98) hg dX11_look_42 (by have e0w := lv_neT (a := 0) w0 (by decide); have e1w := lv_neT (a := 1) w1 (by decide); have e2w := lv_neT (a := 2) w2 (by decide); omega) (by decide) ?_
        obtain ⟨c3, h⟩ := ck_some h
        obtain ⟨c4, h⟩ := ck_some h
        replace h := Option.some.inj h
        subst h
        refine g_rload_n hg dX11_look_98 rfl 0 rfl ?_
        refine g_getR (r := 22) hg fl_X11_45 ly1 rfl (idb rfl rfl hn) (rfc hRf rfl rfl rfl rfl) (by decide) dX11_look_99 ?_
        refine g_getR (r := 23) hg fl_X11_240 ly22 rfl (idb rfl rfl hn) (rfc hRf rfl rfl rfl rfl) (by decide) dX11_look_102 ?_
        refine g_iload_n hg dX11_look_105 rfl 2 rfl ?_
        refine g_iconst hg dX11_look_106 kI_3 ?_
        refine g_isub hg dX11_look_107 ?_
        refine g_aald4 (r := (24 + (x2 - 3).toNatClampNeg)) hg ly23 (idb rfl rfl hn) (inb_vp c3) (fr23_rf (inb_vp c3) (hRf.mono (by decide) (by decide))) (Nat.lt_of_lt_of_le (by decide) (Nat.le_add_right _ _)) dX11_look_108 ?_
        refine g_iload_n hg dX11_look_109 rfl 1 rfl ?_
        refine g_iald hg (fr23_lay (inb_vp c3)) (fr23_bd (inb_vp c3) (Nat.le_trans (by decide) hn)) (inb_vp c4) dX11_look_110 ?_
        exact gx_ret hrt rfl hg dX11_look_111
      · replace h := Option.some.inj (itF c2 h)
        subst h
        exact gx_ns hl0 hex rfl hg dX11_look_31 dX11_look_34 dX11_look_35 dX11_look_37 dX11_look_40
  · replace h := Option.some.inj (itT c0 h)
    subst h
    exact gx_io hl0 hex rfl hg dX11_look_11 dX11_look_14 dX11_look_15 dX11_look_17 dX11_look_20
theorem xrun_go {p : Program} {l : Launch} {e : Env} {R : Room} {s : State} {m : MethodId} {args : Array Value} {below : List Frame} {meth : Method} {c : Code} {H : Heap} {locs : List Loc} {cells slots : Nat} {Q : State → Prop} {pc : Nat} {ls : Array Slot} {st0 rest : List Value} {a : Array Value} {E : En} {n : Nat} {Rf : Nat → Nat → Nat} {q : (Int32 × Int32) × Mm}
    (hr : vx_Run p l e R s m args below meth c H locs cells slots 1 6 (F0 m pc ls st0) rest (Ql E n Rf q a) (Xl E n Rf q) (fun z => E.1 < z)) (hS : va_S (fun z => E.1 < z) s.heap H locs)
    (kk : ∀ (H1 : Heap) (locs1 : List Loc), q.1.1 = 0 → Emb E n Rf false q.2 H1 → va_S (fun z => E.1 < z) s.heap H1 locs1 → W p l e R s m args below meth c H1 locs1 (cells + 1) (slots + 6) Q (F0 m (pc + 3) ls (.int q.1.2 :: rest)))
    (kx : ∀ (H1 : Heap) (locs1 : List Loc) (X : String) (ce : Cell) (z : Addr), ((q.1.1 = 1 ∧ X = xIO) ∨ (q.1.1 = 2 ∧ X = xNS)) → Emb E n Rf false q.2 H1 → va_S (fun z => E.1 < z) s.heap H1 locs1 → H1[z]? = some ce → ce.vm = .none → s.vm.findClass X = some ce.cls → vx_W p l e R s m args below meth c H1 locs1 (cells + 1) (slots + 6) Q (F0 m pc ls rest) z) : W p l e R s m args below meth c H locs cells slots Q (F0 m pc ls st0) := by
  intro T hT X
  rcases hr T hT X with ⟨v, st₀, t, T', L, h0, X', hL, e1, e2, ⟨hq0, hv, hE, hF⟩, st⟩ | ⟨z, st₀, t, T', L, Xc, ce, h0, X', hL, e1, e2, ⟨hx0, hE, hF⟩, hce, hcv, hcl, st⟩
  · cases hv
    obtain ⟨k1, k2, k3⟩ := vx_keep h0 e1 hS (fun _ _ h => h) (fun _ h => h) hL hF
    obtain ⟨t2, a1, b1⟩ := kk T'.heap (locs ++ L) hq0 (by rw [e1]; exact hE) k3 T' rfl X'
    exact ⟨t2, st t2 a1, b1⟩
  · obtain ⟨k1, k2, k3⟩ := vx_keep h0 e1 hS (fun _ _ h => h) (fun _ h => h) hL hF
    obtain ⟨t2, a1, b1⟩ := kx T'.heap (locs ++ L) Xc ce z hx0 (by rw [e1]; exact hE) k3 (by rw [e1]; exact hce) hcv hcl T' rfl X'
    exact ⟨t2, st.trans a1, b1⟩
def qL (q : (Int32 × Int32) × Mm) : Int32 × Mm := if q.1.1 = 0 then (0, sL q.2 238 0 q.1.2.toInt64) else (q.1.1, q.2)
theorem rm_look (d : Nat) : 8 + (3 + 11) + 60 * (d + 6) ≤ 60 * (d + 7) := by omega
abbrev hhL : List (Nat × Nat × Nat × Nat) := [(0, 10, 13, 13), (0, 10, 17, 15)]
theorem cvL_7 : CV RL 7 RX11 yX11_look cX11_look 3 (some .int) 2 := ⟨w5_161, w5_162, w5_163, w1_1, w5_164, by decide +kernel, by decide⟩
theorem ctL_look {l : Launch} {E : En} {d n : Nat} {Rf : Nat → Nat → Nat} {kq : Nat × Nat} (hl0 : l.stackTraces = false) (hn : 239 ≤ n) (hRf : RfOk 1 239 kq Rf) {x1 x2 : Int32} {M : Mm} {q : (Int32 × Int32) × Mm} (h : sX11_look x1 x2 M = some q) :
    Met l yL_look (.codeWith yL_look cL_look 5 (some .int) hhL :: gt) (rmd (d + 7) 1 6) (va_Pc [rr E.1 1, .int x1, .int x2, rr E.1 238] (Ps E n Rf false M)) (Qs E n Rf false (qL q).2 (some (.int (qL q).1))) 1 6 (fun z => E.1 < z) := by
  refine va_MetW (cc := cL_look) (maxL := 5) (ret := some .int) (hh := hhL) (by decide +kernel) rfl ?_
  intro p e s m args below meth c s₁ B hml hv
  obtain ⟨rfl, hE, hSt⟩ := hv
  have hts0 := atoms_spec (ws := .codeWith yL_look cL_look 5 (some .int) hhL :: gt) B.pre
  have hts : ∀ w ∈ gt, w.before [rr E.1 1, .int x1, .int x2, rr E.1 238].toArray s = true := fun w hw => hts0 w (List.mem_cons_of_mem _ hw)
  have htab : c.exceptionTable.toList = tableOf hhL := vx_table (x := yL_look) B (hts0 _ List.mem_cons_self)
  have hown : s.vm.findClass RL = some m.cls := findClass_of_methodNamed B.named
  have hl := lv_entry [rr E.1 1, .int x1, .int x2, rr E.1 238] (n := 5) (Nat.le_of_ble_eq_true rfl)
  rw [lg_entry_eq]
  have hg : Ok (p, l, e, rmd (d + 7) 1 6, s, m, [rr E.1 1, .int x1, .int x2, rr E.1 238].toArray, below, meth, c, MQ below (Qs E n Rf false (qL q).2 (some (.int (qL q).1))) [rr E.1 1, .int x1, .int x2, rr E.1 238].toArray s 1 6 (fun z => E.1 < z)) l E cL_look RL 5 (d + 7) 1 6 := ⟨rfl, B.exec, B.bytes, hml, hown, hts, hSt, B.notSynchronized, Nat.le_refl _, Nat.le_refl _, rfl, rfl⟩
  have hr : Ret (p, l, e, rmd (d + 7) 1 6, s, m, [rr E.1 1, .int x1, .int x2, rr E.1 238].toArray, below, meth, c, MQ below (Qs E n Rf false (qL q).2 (some (.int (qL q).1))) [rr E.1 1, .int x1, .int x2, rr E.1 238].toArray s 1 6 (fun z => E.1 < z)) E 1 6 (some .int) false n Rf (some (.int (qL q).1)) (qL q).2 := ⟨rfl, B.returns⟩
  suffices K : WG (p, l, e, rmd (d + 7) 1 6, s, m, [rr E.1 1, .int x1, .int x2, rr E.1 238].toArray, below, meth, c, MQ below (Qs E n Rf false (qL q).2 (some (.int (qL q).1))) [rr E.1 1, .int x1, .int x2, rr E.1 238].toArray s 1 6 (fun z => E.1 < z)) E 5 n Rf false 0 0 0 [(0, rr E.1 1), (1, .int x1), (2, .int x2), (3, rr E.1 238)] [] M from K s.heap [] _ hl hE va_S.rf
  refine g_rload_n hg dL_look_0 rfl 3 rfl ?_
  refine g_iconst hg dL_look_1 kI_0 ?_
  refine g_rload_n hg dL_look_2 rfl 0 rfl ?_
  refine g_iload_n hg dL_look_3 rfl 1 rfl ?_
  refine g_iload_n hg dL_look_4 rfl 2 rfl ?_
  have hg0 := hg
  obtain ⟨hll, hx, hb, hml, hown, hts, hSt, hlk, hfr, hlo, hrc, hrs⟩ := hg
  obtain ⟨w1, w2, w3, w4, w5, w6, w7⟩ := cvL_7
  intro H locs ls hl hE hS
  obtain ⟨cell, q1, q2, q3, q4⟩ := (hE.1 1 (by decide) (by omega)).obj ly1
  have hG : GoodIn gt (wsV RL 7 RX11 yX11_look (.code yX11_look cX11_look 3 (some .int) :: gt)) := gt_good (fun _ h => h) (fun w h => by
    rcases List.mem_append.mp h with h | h
    · simp only [List.mem_cons, List.not_mem_nil, or_false] at h
      rcases h with rfl | rfl | rfl | rfl
      · exact w1
      · exact w2
      · exact w3
      · exact w4
    · rcases List.mem_cons.mp h with rfl | h
      · exact w5
      · exact h)
  refine xrun_go (vx_runV (As := [.int x1, .int x2]) (rest := [.int 0, rr E.1 238]) ⟨hx, hb, hml, hown, hts⟩ (ctX_look (d := d) hl0 hn hRf h) (cwV 2 hts hG rfl rfl rfl w6 ⟨by show d + 6 + 1 ≤ d + 7; omega, rm_look d⟩) ⟨Ps.blind, ⟨cell, q1, by rw [q3]; rfl, by rw [q2]; exact (hSt.1.1 11 _ rfl).2.1⟩, fun U hU hW => ⟨rfl, by rw [hU]; exact hE, hSt.moved hW hS hU⟩⟩ rfl rfl hl.1 rfl (lv_room (Nat.le_of_ble_eq_true rfl)) dL_look_5 ⟨by show 0 + 1 ≤ 1; decide, by show 0 + 6 ≤ 6; decide⟩) hS (fun H1 locs1 hq0 hE1 hS1 => ?_) (fun H1 locs1 X ce z hX hE1 hS1 hce hcv hcl => ?_)
  · have hqL : qL q = (0, sL q.2 238 0 q.1.2.toInt64) := if_pos hq0
    suffices K2 : WG (p, l, e, rmd (d + 7) 1 6, s, m, [rr E.1 1, .int x1, .int x2, rr E.1 238].toArray, below, meth, c, MQ below (Qs E n Rf false (qL q).2 (some (.int (qL q).1))) [rr E.1 1, .int x1, .int x2, rr E.1 238].toArray s 1 6 (fun z => E.1 < z)) E 5 n Rf false 1 6 8 [(0, rr E.1 1), (1, .int x1), (2, .int x2), (3, rr E.1 238)] [.int q.1.2, .int 0, rr E.1 238] q.2 from K2 H1 locs1 ls hl hE1 hS1
    refine g_i2l hg0 dL_look_8 ?_
    refine g_last (N := 1) hg0 ly238 (idb rfl rfl hn) (inb_vp (by decide)) dL_look_9 ?_
    refine g_goto (tgt := 21) hg0 dL_look_10 (by decide) ?_
    refine g_iconst hg0 dL_look_21 kI_0 ?_
    rw [hqL] at hr
    rw [hqL] at hg0 ⊢
    exact g_iret hg0 hr dL_look_22
  · rcases hX with ⟨hq1, rfl⟩ | ⟨hq2, rfl⟩
    · have hqL : qL q = (1, q.2) := by
        unfold qL
        rw [if_neg (by rw [hq1]; decide), hq1]
      refine vx_catch (name := xIO) hown [] ⟨0, 10, 13, 13⟩ [⟨0, 10, 17, 15⟩] htab (fun z hz => by cases hz) (by decide) (by decide) (hts _ wx5_159) (va_Nw.use rfl hSt.2.1.2.2.2.2.2.2.1) hce hcv hcl ?_
      suffices K2 : WG (p, l, e, rmd (d + 7) 1 6, s, m, [rr E.1 1, .int x1, .int x2, rr E.1 238].toArray, below, meth, c, MQ below (Qs E n Rf false (qL q).2 (some (.int (qL q).1))) [rr E.1 1, .int x1, .int x2, rr E.1 238].toArray s 1 6 (fun z => E.1 < z)) E 5 n Rf false 1 6 13 [(0, rr E.1 1), (1, .int x1), (2, .int x2), (3, rr E.1 238)] [.ref z] q.2 from K2 H1 locs1 ls hl hE1 hS1
      refine g_astore (lv' := [(4, .ref z), (0, rr E.1 1), (1, .int x1), (2, .int x2), (3, rr E.1 238)]) hg0 dL_look_13 (by decide) rfl ?_
      refine g_iconst hg0 dL_look_15 kI_1 ?_
      rw [hqL] at hr
      rw [hqL] at hg0 ⊢
      exact g_iret hg0 hr dL_look_16
    · have hqL : qL q = (2, q.2) := by
        unfold qL
        rw [if_neg (by rw [hq2]; decide), hq2]
      refine vx_catch (name := xNS) hown [⟨0, 10, 13, 13⟩] ⟨0, 10, 17, 15⟩ [] htab (fun z hz => Or.inr (by
        rw [List.mem_singleton.mp hz]
        exact ⟨by decide, xIO, hts _ wx5_159, hSt.2.1.2.2.2.2.2.2.2.2.1⟩)) (by decide) (by decide) (hts _ wx5_160) (va_Nw.use rfl hSt.2.1.2.2.2.2.2.2.2.1) hce hcv hcl ?_
      suffices K2 : WG (p, l, e, rmd (d + 7) 1 6, s, m, [rr E.1 1, .int x1, .int x2, rr E.1 238].toArray, below, meth, c, MQ below (Qs E n Rf false (qL q).2 (some (.int (qL q).1))) [rr E.1 1, .int x1, .int x2, rr E.1 238].toArray s 1 6 (fun z => E.1 < z)) E 5 n Rf false 1 6 17 [(0, rr E.1 1), (1, .int x1), (2, .int x2), (3, rr E.1 238)] [.ref z] q.2 from K2 H1 locs1 ls hl hE1 hS1
      refine g_astore (lv' := [(4, .ref z), (0, rr E.1 1), (1, .int x1), (2, .int x2), (3, rr E.1 238)]) hg0 dL_look_17 (by decide) rfl ?_
      refine g_iconst hg0 dL_look_19 kI_2 ?_
      rw [hqL] at hr
      rw [hqL] at hg0 ⊢
      exact g_iret hg0 hr dL_look_20
