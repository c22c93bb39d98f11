def R_law : String := "ClodDeskLaw"
def lw_P (b : Addr) (xs : List Int32) (args : Array Value) (s : State) : Prop := args = #[.ref b] ∧ s.IntsAt b xs ∧ xs.length ≤ 3584 ∧ (Jvm.Cond.and given_1 narrow_1).before args s = true
def lw_Q (_ : Array Value) (s : State) (o : Outcome) (t : State) : Prop := o = .returned (some (.int 1)) ∧ Framed s o t [] 601024 7293034
def lw_Z (below : List Frame) (a : Array Value) (s : State) : State → Prop := fun t => ∃ o, t.status = .running ∧ Ended t below o ∧ lw_Q a s o t
theorem lw_ret {p : Program} {l : Launch} {e : Env} {s : State} {m : MethodId} {below : List Frame} {meth : Method} {c : Code} {b : Nat} (hx : p.tables.exec = Jvm.exec) (hb : c.code = code) (hr : meth.sig.returnType = ret) (hlocks : meth.locks = false) {pc : Nat} {H : Heap} {ls : Array Slot} (hdg : decode code pc = .ok (.ireturn, 1)) : W p l e room_1 s m #[Value.ref b] below meth c H [] 601024 7293034 (lw_Z below #[Value.ref b] s) (F0 m pc ls [.int 1]) := by
  intro T hT X
  obtain ⟨fs, hret, hrun, hended, hW, hframe⟩ := X.leave (v := some (.int 1)) (hlocks := hlocks) (fun h => by rw [hr] at h; cases h)
  have hmeth' : T.vm.method? m = some meth := X.method'
  refine ⟨T.setFrames fs, ?_, .returned (some (.int 1)), hrun, hended, rfl, ⟨_, rfl⟩, hW, hframe⟩
  jvm_step X.here [X.here.top, hx, hb, hdg, hmeth', hr, ret, narrow_b1]
  (try refine ⟨rfl, ?_⟩); (try refine ⟨rfl, ?_⟩)
  first | (intro acts; rw [hret _ acts rfl rfl rfl]) | rw [hret _ _ rfl rfl rfl]
  exact Steps.refl _
def lw_At (p : Program) (s : State) (m : MethodId) (meth : Method) (c : Code) (b L : Nat) (xs : Nat → Int32) : Prop :=
  p.tables.exec = Jvm.exec ∧ c.code = code ∧ meth.sig.returnType = ret ∧ c.maxLocals = 7 ∧ s.vm.findClass R_law = some m.cls ∧ (∀ w ∈ lw_tbl, w.before #[Value.ref b] s = true) ∧ va_X b L xs s s.heap ∧ b < s.heap.size ∧ meth.locks = false ∧ (Jvm.Cond.and given_1 narrow_1).before #[Value.ref b] s = true

def lawSt (op a1 a2 a3 a4 a5 a6 : Int32) (kq : Nat × Nat) (M : Mm) : Option ((Nat × Nat) × Mm) :=
  if op = 0 then st_feed kq a1 a2 a3 a4 a5 a6 M
  else if op = 1 then st_key kq a1 a2 a3 a4 a5 a6 M
  else if op = 2 then st_bore kq a1 a2 a3 a4 a5 a6 M
  else if op = 3 then st_fault kq a1 a2 a3 a4 a5 a6 M
  else if op = 4 then st_strike kq a1 a2 a3 a4 a5 a6 M
  else if op = 5 then st_land kq a1 a2 a3 a4 a5 a6 M
  else if op = 6 then st_ground kq a1 a2 a3 a4 a5 a6 M
  else if op = 7 then st_bounds kq a1 a2 a3 a4 a5 a6 M
  else if op = 8 then st_price kq a1 a2 a3 a4 a5 a6 M
  else if op = 9 then st_reads kq a1 a2 a3 a4 a5 a6 M
  else if op = 10 then st_value kq a1 a2 a3 a4 a5 a6 M
  else if op = 11 then st_layer kq a1 a2 a3 a4 a5 a6 M
  else if op = 12 then st_told kq a1 a2 a3 a4 a5 a6 M
  else if op = 13 then st_look kq a1 a2 a3 a4 a5 a6 M
  else if op = 14 then st_like kq a1 a2 a3 a4 a5 a6 M
  else if op = 15 then st_chance kq a1 a2 a3 a4 a5 a6 M
  else if op = 16 then st_leftOut kq a1 a2 a3 a4 a5 a6 M
  else if op = 17 then st_draw kq a1 a2 a3 a4 a5 a6 M
  else if op = 18 then st_drawn kq a1 a2 a3 a4 a5 a6 M
  else if op = 19 then st_plan kq a1 a2 a3 a4 a5 a6 M
  else if op = 20 then st_planned kq a1 a2 a3 a4 a5 a6 M
  else if op = 21 then st_turned kq a1 a2 a3 a4 a5 a6 M
  else if op = 22 then st_maps kq a1 a2 a3 a4 a5 a6 M
  else if op = 23 then st_worth kq a1 a2 a3 a4 a5 a6 M
  else if op = 24 then st_hands kq a1 a2 a3 a4 a5 a6 M
  else if op = 25 then st_count kq a1 a2 a3 a4 a5 a6 M
  else some (kq, M)
theorem le7 {i L : Nat} (hi : i ≤ 3600) (hL : L ≤ 3584) (h : ¬ nI L - 7 < nI i) : i + 7 ≤ L := by
  have e1 : (nI i).toInt = i := by
    unfold nI
    rw [Int32.toInt_ofNat_of_lt (by omega)]
  have e2 : (nI L).toInt = L := by
    unfold nI
    rw [Int32.toInt_ofNat_of_lt (by omega)]
  have e3 : (nI L - 7).toInt = (L : Int) - 7 := by
    rw [Int32.toInt_sub, e2]
    show ((L : Int) - 7).bmod (2 ^ 32) = _
    rw [Int.bmod_eq_of_le] <;> omega
  rw [Int32.lt_iff_toInt_lt, e1, e3] at h
  omega
section LP
variable {p : Program} {l : Launch} {e : Env} {s : State} {m : MethodId} {below : List Frame} {meth : Method} {c : Code} {E : En} {b L : Nat} {xs : Nat → Int32}
abbrev gLw (p : Program) (l : Launch) (e : Env) (s : State) (m : MethodId) (b : Nat) (below : List Frame) (meth : Method) (c : Code) : Gm := (p, l, e, room_1, s, m, #[Value.ref b], below, meth, c, lw_Z below #[Value.ref b] s)
theorem law_head (hg : Ok (gLw p l e s m b below meth c) l E cL_law RL 7 1400 601024 7293034) (hX : Sc (gLw p l e s m b below meth c) b L xs) (hbE : b ≤ E.1) (hL : L ≤ 3584) (hr : meth.sig.returnType = ret) (hsz : s.heap.size = E.1 + 1) {i cn sn : Nat} {Rf : Nat → Nat → Nat} {M : Mm} (hi : i ≤ 3600) (h1 : cn ≤ 601024) (h2 : sn ≤ 7293034)
    (kk : i + 7 ≤ L → WG (gLw p l e s m b below meth c) E 7 239 Rf false cn sn 33 (lvL E b i) [] M) : WG (gLw p l e s m b below meth c) E 7 239 Rf false cn sn 23 (lvL E b i) [] M := by
  refine g_iload hg dL_law_23 0 rfl ?_
  refine g_aload_n hg dL_law_25 rfl 1 rfl ?_
  refine g_slen hg hX hbE dL_law_26 ?_
  refine g_bipush (v := 7) hg dL_law_27 (by decide) ?_
  refine g_isub hg dL_law_29 ?_
  refine g_icmp_gt (tgt := 1309) hg dL_law_30 (by decide) (fun c0 => ?_) (fun c0 => ?_)
  · refine g_iconst hg dL_law_1309 kI_1 ?_
    obtain ⟨hll, hx, hb, hml, hown, hts, hSt, hlk, hfr, hlo, hrc, hrs⟩ := hg
    intro H locs ls hl hE hS
    refine va_forget (fun q hq => by have h9 : E.1 < q.base := hS.2.2 q hq; rw [hsz]; exact h9) ?_
    refine W.widen (k := 601024) (n := 7293034) h1 h2 ?_
    exact lw_ret hx hb hr hlk dL_law_1310
  · exact kk (le7 hi hL c0)
theorem law_loop (Inv : Nat × Nat → Mm → Prop) (hInv : ∀ (kq : Nat × Nat) (M : Mm) (op a1 a2 a3 a4 a5 a6 : Int32), Inv kq M → ∃ r : (Nat × Nat) × Mm, lawSt op a1 a2 a3 a4 a5 a6 kq M = some r ∧ Inv r.1 r.2) (hK : ∀ (kq : Nat × Nat) (M : Mm), Inv kq M → isKq kq) (hl0 : l.stackTraces = false)
    (hg : Ok (gLw p l e s m b below meth c) l E cL_law RL 7 1400 601024 7293034) (hX : Sc (gLw p l e s m b below meth c) b L xs) (hbE : b ≤ E.1) (hL : L ≤ 3584) (hr : meth.sig.returnType = ret) (hsz : s.heap.size = E.1 + 1) :
    ∀ (N i cn sn : Nat) (Rf : Nat → Nat → Nat) (kq : Nat × Nat) (M : Mm), i ≤ 3600 → L < i + 7 * N → cn + N ≤ 601024 → sn + 6 * N ≤ 7293034 → RfOk 1 239 kq Rf → Inv kq M → WG (gLw p l e s m b below meth c) E 7 239 Rf false cn sn 23 (lvL E b i) [] M := by
  intro N
  induction N with
  | zero =>
    intro i cn sn Rf kq M hi hN hcn hsn hRf hI
    exact law_head hg hX hbE hL hr hsz hi (by omega) (by omega) (fun h => by omega)
  | succ N ih =>
    intro i cn sn Rf kq M hi0 hN hcn hsn hRf hI
    refine law_head hg hX hbE hL hr hsz hi0 (by omega) (by omega) (fun hi => ?_)
    have hcs : cn + 1 ≤ 601024 ∧ sn + 6 ≤ 7293034 := ⟨by omega, by omega⟩
    obtain ⟨r, hs, hI1⟩ := hInv kq M (xs i &&& 31) (xs (i + 1)) (xs (i + 2)) (xs (i + 3)) (xs (i + 4)) (xs (i + 5)) (xs (i + 6)) hI
    have hkq := hK kq M hI
    have K : ∀ Rf1 : Nat → Nat → Nat, RfOk 1 239 r.1 Rf1 → WG (gLw p l e s m b below meth c) E 7 239 Rf1 false (cn + 1) (sn + 6) 1303 (lvL E b i) [] r.2 := fun Rf1 h1 => by
      refine g_iinc (v := nI (i + 7)) (lv' := lvL E b (i + 7)) hg dL_law_1303 0 rfl (nI_add i 7) (by decide) rfl ?_
      refine g_goto (tgt := 23) hg dL_law_1306 (by decide) ?_
      exact ih (i + 7) (cn + 1) (sn + 6) Rf1 r.1 r.2 (by omega) (by omega) (by omega) (by omega) h1 hI1
    refine g_aload_n hg dL_law_33 rfl 1 rfl ?_
    refine g_iload hg dL_law_34 0 rfl ?_
    refine g_sld hg hX hbE (vp_in_nI (show i < L by omega) (by omega)) dL_law_36 ?_
    rw [nI_clamp (by omega)]
    refine g_bipush (v := 31) hg dL_law_37 (by decide) ?_
    refine g_iand hg dL_law_39 ?_
    generalize xs i &&& 31 = op at hs ⊢
    unfold lawSt at hs
    by_cases w0 : op = 0
    · exact g_tabI (tgt := 160) (off := 120) hg dL_law_40 w0 (by decide) (by decide) (lc_feed hg hX hbE hL hi hcs hRf hkq (itT w0 hs) K)
    replace hs := itF w0 hs
    by_cases w1 : op = 1
    · exact g_tabI (tgt := 233) (off := 193) hg dL_law_40 w1 (by decide) (by decide) (lc_key hg hX hbE hL hi hcs hRf hkq (itT w1 hs) K)
    replace hs := itF w1 hs
    by_cases w2 : op = 2
    · exact g_tabI (tgt := 258) (off := 218) hg dL_law_40 w2 (by decide) (by decide) (lc_bore hg hX hbE hL hi hcs hRf hkq (itT w2 hs) K)
    replace hs := itF w2 hs
    by_cases w3 : op = 3
    · exact g_tabI (tgt := 307) (off := 267) hg dL_law_40 w3 (by decide) (by decide) (lc_fault hg hX hbE hL hi hcs hRf hkq (itT w3 hs) K)
    replace hs := itF w3 hs
    by_cases w4 : op = 4
    · exact g_tabI (tgt := 332) (off := 292) hg dL_law_40 w4 (by decide) (by decide) (lc_strike hg hX hbE hL hi hcs hRf hkq (itT w4 hs) K)
    replace hs := itF w4 hs
    by_cases w5 : op = 5
    · exact g_tabI (tgt := 357) (off := 317) hg dL_law_40 w5 (by decide) (by decide) (lc_land hg hX hbE hL hi hcs hRf hkq (itT w5 hs) K)
    replace hs := itF w5 hs
    by_cases w6 : op = 6
    · exact g_tabI (tgt := 394) (off := 354) hg dL_law_40 w6 (by decide) (by decide) (lc_ground hg hX hbE hL hi hcs hRf hkq (itT w6 hs) K)
    replace hs := itF w6 hs
    by_cases w7 : op = 7
    · exact g_tabI (tgt := 443) (off := 403) hg dL_law_40 w7 (by decide) (by decide) (lc_bounds hg hX hbE hL hi hcs hRf hkq (itT w7 hs) K)
    replace hs := itF w7 hs
    by_cases w8 : op = 8
    · exact g_tabI (tgt := 492) (off := 452) hg dL_law_40 w8 (by decide) (by decide) (lc_price hg hX hbE hL hi hcs hRf hkq (itT w8 hs) K)
    replace hs := itF w8 hs
    by_cases w9 : op = 9
    · exact g_tabI (tgt := 529) (off := 489) hg dL_law_40 w9 (by decide) (by decide) (lc_reads hg hX hbE hL hi hcs hRf hkq (itT w9 hs) K)
    replace hs := itF w9 hs
    by_cases w10 : op = 10
    · exact g_tabI (tgt := 616) (off := 576) hg dL_law_40 w10 (by decide) (by decide) (lc_value hg hX hbE hL hi hcs hRf hkq (itT w10 hs) K)
    replace hs := itF w10 hs
    by_cases w11 : op = 11
    · exact g_tabI (tgt := 653) (off := 613) hg dL_law_40 w11 (by decide) (by decide) (lc_layer hg hX hbE hL hi hcs hRf hkq (itT w11 hs) K)
    replace hs := itF w11 hs
    by_cases w12 : op = 12
    · exact g_tabI (tgt := 702) (off := 662) hg dL_law_40 w12 (by decide) (by decide) (lc_told hg hX hbE hL hi hcs hRf hkq (itT w12 hs) K)
    replace hs := itF w12 hs
    by_cases w13 : op = 13
    · exact g_tabI (tgt := 739) (off := 699) hg dL_law_40 w13 (by decide) (by decide) (lc_look hl0 hg hX hbE hL hi hcs hRf hkq (itT w13 hs) K)
    replace hs := itF w13 hs
    by_cases w14 : op = 14
    · exact g_tabI (tgt := 807) (off := 767) hg dL_law_40 w14 (by decide) (by decide) (lc_like hg hX hbE hL hi hcs hRf hkq (itT w14 hs) K)
    replace hs := itF w14 hs
    by_cases w15 : op = 15
    · exact g_tabI (tgt := 844) (off := 804) hg dL_law_40 w15 (by decide) (by decide) (lc_chance hg hX hbE hL hi hcs hRf hkq (itT w15 hs) K)
    replace hs := itF w15 hs
    by_cases w16 : op = 16
    · exact g_tabI (tgt := 905) (off := 865) hg dL_law_40 w16 (by decide) (by decide) (lc_leftOut hg hX hbE hL hi hcs hRf hkq (itT w16 hs) K)
    replace hs := itF w16 hs
    by_cases w17 : op = 17
    · exact g_tabI (tgt := 942) (off := 902) hg dL_law_40 w17 (by decide) (by decide) (lc_draw hg hX hbE hL hi hcs hRf hkq (itT w17 hs) K)
    replace hs := itF w17 hs
    by_cases w18 : op = 18
    · exact g_tabI (tgt := 1007) (off := 967) hg dL_law_40 w18 (by decide) (by decide) (lc_drawn hg hX hbE hL hi hcs hRf hkq (itT w18 hs) K)
    replace hs := itF w18 hs
    by_cases w19 : op = 19
    · exact g_tabI (tgt := 1032) (off := 992) hg dL_law_40 w19 (by decide) (by decide) (lc_plan hg hX hbE hL hi hcs hRf hkq (itT w19 hs) K)
    replace hs := itF w19 hs
    by_cases w20 : op = 20
    · exact g_tabI (tgt := 1081) (off := 1041) hg dL_law_40 w20 (by decide) (by decide) (lc_planned hg hX hbE hL hi hcs hRf hkq (itT w20 hs) K)
    replace hs := itF w20 hs
    by_cases w21 : op = 21
    · exact g_tabI (tgt := 1118) (off := 1078) hg dL_law_40 w21 (by decide) (by decide) (lc_turned hg hX hbE hL hi hcs hRf hkq (itT w21 hs) K)
    replace hs := itF w21 hs
    by_cases w22 : op = 22
    · exact g_tabI (tgt := 1155) (off := 1115) hg dL_law_40 w22 (by decide) (by decide) (lc_maps hg hX hbE hL hi hcs hRf hkq (itT w22 hs) K)
    replace hs := itF w22 hs
    by_cases w23 : op = 23
    · exact g_tabI (tgt := 1192) (off := 1152) hg dL_law_40 w23 (by decide) (by decide) (lc_worth hg hX hbE hL hi hcs hRf hkq (itT w23 hs) K)
    replace hs := itF w23 hs
    by_cases w24 : op = 24
    · exact g_tabI (tgt := 1229) (off := 1189) hg dL_law_40 w24 (by decide) (by decide) (lc_hands hg hX hbE hL hi hcs hRf hkq (itT w24 hs) K)
    replace hs := itF w24 hs
    by_cases w25 : op = 25
    · exact g_tabI (tgt := 1278) (off := 1238) hg dL_law_40 w25 (by decide) (by decide) (lc_count hg hX hbE hL hi hcs hRf hkq (itT w25 hs) K)
    replace hs := itF w25 hs
    replace hs := Option.some.inj hs
    subst hs
    refine g_tabO (tgt := 1303) hg dL_law_40 (by have v0 := lv_neT (a := 0) w0 (by decide); have v1 := lv_neT (a := 1) w1 (by decide); have v2 := lv_neT (a := 2) w2 (by decide); have v3 := lv_neT (a := 3) w3 (by decide); have v4 := lv_neT (a := 4) w4 (by decide); have v5 := lv_neT (a := 5) w5 (by decide); have v6 := lv_neT (a := 6) w6 (by decide); have v7 := lv_neT (a := 7) w7 (by decide); have v8 := lv_neT (a := 8) w8 (by decide); have v9 := lv_neT (a := 9) w9 (by decide); have v10 := lv_neT (a := 10) w10 (by decide); have v11 := lv_neT (a := 11) w11 (by decide); have v12 := lv_neT (a := 12) w12 (by decide); have v13 := lv_neT (a := 13) w13 (by decide); have v14 := lv_neT (a := 14) w14 (by decide); have v15 := lv_neT (a := 15) w15 (by decide); have v16 := lv_neT (a := 16) w16 (by decide); have v17 := lv_neT (a := 17) w17 (by decide); have v18 := lv_neT (a := 18) w18 (by decide); have v19 := lv_neT (a := 19) w19 (by decide); have v20 := lv_neT (a := 20) w20 (by decide); have v21 := lv_neT (a := 21) w21 (by decide); have v22 := lv_neT (a := 22) w22 (by decide); have v23 := lv_neT (a := 23) w23 (by decide); have v24 := lv_neT (a := 24) w24 (by decide); have v25 := lv_neT (a := 25) w25 (by decide); omega) (by decide) ?_
    exact g_wide (Nat.le_succ _) (Nat.le_add_right _ _) (K Rf hRf)
end LP
