theorem arr_ofC {s : State} {args : Array Value} {ty : FieldType} (h : (Cond.arrayClass ty).before args s = true) : ∃ cA : ClassId, ArrOfT s cA ty ∧ s.vm.findClass ("[" ++ ty.toString) = some cA := by
  obtain ⟨cB, kB, comp, h1, h2, h3⟩ := Cond.arrayClass_spec h
  exact ⟨cB, fun N z => ⟨(fun k h => by cases h), kB, h2, comp, h3⟩, h1⟩
theorem arr_ofO {s : State} {args : Array Value} {C : String} (h : (Cond.arrayOver (.object C)).before args s = true) : ∃ cA : ClassId, ArrOfT s cA (.object C) ∧ va_RA s cA (.object C) := by
  obtain ⟨comp, c, k, h1, -, h3, h4, h5⟩ := Cond.arrayOver_spec h
  exact ⟨c, fun N z => ⟨(fun k h => by cases h), k, h3, comp, h4⟩, k, comp, h3, h4, h1, h5⟩
theorem arr_ofA {s : State} {args : Array Value} {t : FieldType} (h : (Cond.arrayOver (.array t)).before args s = true) : ∃ cA : ClassId, ArrOfT s cA (.array t) ∧ s.vm.findClass ("[" ++ (FieldType.array t).toString) = some cA := by
  obtain ⟨comp, c, k, h1, h3, h4, h5⟩ := Cond.arrayOver_specA h
  exact ⟨c, fun N z => ⟨(fun k h => by cases h), k, h3, comp, h4⟩, h5⟩
theorem stt_K {s : State} {args : Array Value} (hts : ∀ w ∈ lw_tbl, w.before args s = true) : ∃ (D : va_G) (cs : Nat → ClassId), ∀ cs' : Nat → ClassId, (∀ k, k < 5 → cs' k = cs k) → va_K D vwCl (tysOf cs') s := by
  have htg : ∀ w ∈ gt, w.before args s = true := fun w hw => hts w (List.mem_filter.mp hw).1
  obtain ⟨c0, i0, k0⟩ := u_known (C := RX0) (T := TX0) (N := 10) (n := 10) htg inX0 (hts (.instantiable RX0 10) (by decide +kernel))
  obtain ⟨c1, i1, k1⟩ := u_known (C := RX1) (T := TX1) (N := 5) (n := 5) htg inX1 (hts (.instantiable RX1 5) (by decide +kernel))
  obtain ⟨c2, i2, k2⟩ := u_known (C := RX2) (T := TX2) (N := 8) (n := 8) htg inX2 (hts (.instantiable RX2 8) (by decide +kernel))
  obtain ⟨c3, i3, k3⟩ := u_known (C := RX3) (T := TX3) (N := 8) (n := 8) htg inX3 (hts (.instantiable RX3 8) (by decide +kernel))
  obtain ⟨c4, i4, k4⟩ := u_known (C := RX4) (T := TX4) (N := 11) (n := 11) htg inX4 (hts (.instantiable RX4 11) (by decide +kernel))
  obtain ⟨c5, i5, k5⟩ := u_known (C := RX5) (T := TX5) (N := 3) (n := 3) htg inX5 (hts (.instantiable RX5 3) (by decide +kernel))
  obtain ⟨c6, i6, k6⟩ := u_known (C := RX6) (T := TX6) (N := 13) (n := 13) htg inX6 (hts (.instantiable RX6 13) (by decide +kernel))
  obtain ⟨c7, i7, k7⟩ := u_known (C := RX7) (T := TX7) (N := 7) (n := 7) htg inX7 (hts (.instantiable RX7 7) (by decide +kernel))
  obtain ⟨c8, i8, k8⟩ := u_known (C := RX8) (T := TX8) (N := 5) (n := 5) htg inX8 (hts (.instantiable RX8 5) (by decide +kernel))
  obtain ⟨c9, i9, k9⟩ := u_known (C := RX9) (T := TX9) (N := 12) (n := 12) htg inX9 (hts (.instantiable RX9 12) (by decide +kernel))
  obtain ⟨c10, i10, k10⟩ := u_known (C := RX10) (T := TX10) (N := 10) (n := 10) htg inX10 (hts (.instantiable RX10 10) (by decide +kernel))
  obtain ⟨c11, i11, k11⟩ := u_known (C := RX11) (T := TX11) (N := 15) (n := 15) htg inX11 (hts (.instantiable RX11 15) (by decide +kernel))
  obtain ⟨c12, i12, k12⟩ := u_known (C := RX12) (T := TX12) (N := 81) (n := 81) htg inX12 (hts (.instantiable RX12 81) (by decide +kernel))
  obtain ⟨a0, p0, q0⟩ := arr_ofC (hts (.arrayClass .int) (by decide +kernel))
  obtain ⟨a1, p1, q1⟩ := arr_ofC (hts (.arrayClass .boolean) (by decide +kernel))
  obtain ⟨a2, p2, q2⟩ := arr_ofC (hts (.arrayClass .long) (by decide +kernel))
  obtain ⟨a3, p3, q3⟩ := arr_ofO (hts (.arrayOver (.object RX7)) (by decide +kernel))
  obtain ⟨a4, p4, q4⟩ := arr_ofA (hts (.arrayOver (.array .int)) (by decide +kernel))
  refine ⟨(fun k => [c0, c1, c2, c3, c4, c5, c6, c7, c8, c9, c10, c11, c12].getD k 0, fun k => [i0, i1, i2, i3, i4, i5, i6, i7, i8, i9, i10, i11, i12].getD k (fun _ => 0)), fun k => [a0, a1, a2, a3, a4].getD k 0, ?_⟩
  intro cs' hcs
  refine ⟨?_, ?_⟩
  · intro k q hq
    match k, hq with
    | 0, hq => cases hq; exact k0
    | 1, hq => cases hq; exact k1
    | 2, hq => cases hq; exact k2
    | 3, hq => cases hq; exact k3
    | 4, hq => cases hq; exact k4
    | 5, hq => cases hq; exact k5
    | 6, hq => cases hq; exact k6
    | 7, hq => cases hq; exact k7
    | 8, hq => cases hq; exact k8
    | 9, hq => cases hq; exact k9
    | 10, hq => cases hq; exact k10
    | 11, hq => cases hq; exact k11
    | 12, hq => cases hq; exact k12
    | k + 13, hq => simp [vwCl] at hq
  · have e0 : cs' 0 = a0 := hcs 0 (by decide)
    have e1 : cs' 1 = a1 := hcs 1 (by decide)
    have e2 : cs' 2 = a2 := hcs 2 (by decide)
    have e3 : cs' 3 = a3 := hcs 3 (by decide)
    have e4 : cs' 4 = a4 := hcs 4 (by decide)
    intro k q hq
    unfold tysOf at hq
    rw [e0, e1, e2, e3, e4] at hq
    match k, hq with
    | 0, hq => cases hq; exact ⟨p0, q0⟩
    | 1, hq => cases hq; exact ⟨p1, q1⟩
    | 2, hq => cases hq; exact ⟨p2, q2⟩
    | 3, hq => cases hq; exact ⟨p3, q3⟩
    | 4, hq => cases hq; exact ⟨p4, q4⟩
    | k + 5, hq => simp at hq
theorem stt_N {s : State} {args : Array Value} (hts : ∀ w ∈ lw_tbl, w.before args s = true) (hfl : ∀ w ∈ flatC (Jvm.Cond.and given_1 narrow_1), w.before args s = true) : NWs s :=
  ⟨va_Nw.of rfl (hts _ (by decide +kernel)), va_Nw.of rfl (hts _ (by decide +kernel)), va_Nw.of rfl (hts _ (by decide +kernel)), va_Nw.of rfl (hts _ (by decide +kernel)), hts (.arrayOver (.object RX7)) (by decide +kernel), hts (.arrayOver (.array .int)) (by decide +kernel), va_Nw.of rfl (hts _ (by decide +kernel)), va_Nw.of rfl (hts _ (by decide +kernel)), va_Nc.of (hfl (.not (.castable xNS xIO)) (by decide +kernel)), va_Nw.of rfl (hts _ (by decide +kernel)), va_Nw.of rfl (hts _ (by decide +kernel)), va_Nw.of rfl (hts _ (by decide +kernel))⟩
theorem st_arr {s : State} {args : Array Value} {S : Nat} (nm : String) (f : Nat → Int32) (hs : s.heap.size = S + 1) (h1 : (Cond.laysStatic RX6 nm "[I").before args s = true) (h2 : (Cond.initialized RX6).before args s = true) (h3 : (Cond.arrayOf (.static RX6 nm "[I") .int).before args s = true) (h4 : (Cond.eq (.length (.static RX6 nm "[I")) (.int 5)).before args s = true) (h5 : ∀ j : Nat, j < 5 → (Cond.eq (.elem (.static RX6 nm "[I") (.int (Int32.ofNat j))) (.int (f j))).before args s = true) : SAt nm f S s s.heap := by
  have hA : ∀ a : Nat, a < s.heap.size → ¬ S < a := fun a ha => by omega
  obtain ⟨t, ht, hT⟩ := va_Tof (f := fun j => .int (f j)) (A := fun q => S < q) (by decide : 5 < 2 ^ 31) h3 (va_eqt h4) (fun j hj => va_eqt (h5 j hj)) hA
  exact ⟨t, va_Zof h1 h2 ht hA, hT⟩
theorem st_el5 {P : Nat → Prop} (h0 : P 0) (h1 : P 1) (h2 : P 2) (h3 : P 3) (h4 : P 4) : ∀ j : Nat, j < 5 → P j := by
  intro j hj
  match j, hj with
  | 0, _ => exact h0
  | 1, _ => exact h1
  | 2, _ => exact h2
  | 3, _ => exact h3
  | 4, _ => exact h4
  | j + 5, h => omega
theorem words_in : ∀ j : Nat, j < 120 → Cond.eq (.elem (.field (.string RX10 23) "java/lang/String" "value" "[B") (.int (Int32.ofNat j))) (.int (tWORDS.getD j 0)) ∈ flatC (Jvm.Cond.and given_1 narrow_1) := by
  have h : ∀ j ∈ List.range 120, Cond.eq (.elem (.field (.string RX10 23) "java/lang/String" "value" "[B") (.int (Int32.ofNat j))) (.int (tWORDS.getD j 0)) ∈ flatC (Jvm.Cond.and given_1 narrow_1) := by decide +kernel
  exact fun j hj => h j (List.mem_range.mpr hj)
theorem st_str {s : State} {args : Array Value} {own : String} {k : Nat} {tx : String} (h1 : (Cond.stringRef own k tx).before args s = true) (h2 : (Cond.exactly (.string own k) "java/lang/String").before args s = true) : ∃ a : Nat, vk_R own k tx a s ∧ (Term.string own k).eval args s none [] s = some (.ref a) := by
  obtain ⟨a, c, cA, kA, q1, q2, q3, q4, q5, q6, -⟩ := Cond.exactly_spec (args := args) (first := s) (o := none) (s := s) (idx := []) (t := .string own k) (cls := "java/lang/String") h2
  exact ⟨a, vk_R.of h1 q1, q1⟩
theorem stt_start {s : State} {args : Array Value} (hts : ∀ w ∈ lw_tbl, w.before args s = true) (hgv : (Jvm.Cond.and given_1 narrow_1).before args s = true) (hz : 0 < s.heap.size) : ∃ E : En, s.heap.size = E.1 + 1 ∧ Stt E s := by
  have hfl : ∀ w ∈ flatC (Jvm.Cond.and given_1 narrow_1), w.before args s = true := flat_of_before _ hgv
  obtain ⟨S, hs⟩ : ∃ S, s.heap.size = S + 1 := ⟨s.heap.size - 1, by omega⟩
  have hA : ∀ a : Nat, a < s.heap.size → ¬ S < a := fun a ha => by omega
  obtain ⟨D, cs, hK⟩ := stt_K hts
  obtain ⟨aw, hr, ht⟩ := st_str (tx := WTX) (hts (.stringRef RX10 23 WTX) (by decide +kernel)) (hfl (.exactly (.string RX10 23) "java/lang/String") (by decide +kernel))
  obtain ⟨a1, hr1, -⟩ := st_str (tx := "no such cell") (hts (.stringRef RX11 221 "no such cell") (by decide +kernel)) (hfl (.exactly (.string RX11 221) "java/lang/String") (by decide +kernel))
  obtain ⟨a2, hr2, -⟩ := st_str (tx := "no such what") (hts (.stringRef RX11 228 "no such what") (by decide +kernel)) (hfl (.exactly (.string RX11 228) "java/lang/String") (by decide +kernel))
  obtain ⟨av, hv, hT⟩ := va_Tof (tm := .field (.string RX10 23) "java/lang/String" "value" "[B") (ty := .byte) (N := 120) (f := fun j => .int (tWORDS.getD j 0)) (A := fun q => S < q) (by decide) (hfl _ (by decide +kernel)) (va_eqt (z := 120) (hfl _ (by decide +kernel))) (fun j hj => va_eqt (hfl _ (words_in j hj))) hA
  refine ⟨(S, D, fun k => if k = 10 then aw else if k = 11 then av else cs k), hs, hK _ (fun k hk => by show (if k = 10 then aw else if k = 11 then av else cs k) = cs k; rw [if_neg (by omega), if_neg (by omega)]), stt_N hts hfl, ⟨st_arr "LEAST" tLEAST hs (hts _ (by decide +kernel)) (hts _ (by decide +kernel)) (hfl _ (by decide +kernel)) (hfl _ (by decide +kernel)) (st_el5 (hfl _ (by decide +kernel)) (hfl _ (by decide +kernel)) (hfl _ (by decide +kernel)) (hfl _ (by decide +kernel)) (hfl _ (by decide +kernel))), st_arr "MOST" tMOST hs (hts _ (by decide +kernel)) (hts _ (by decide +kernel)) (hfl _ (by decide +kernel)) (hfl _ (by decide +kernel)) (st_el5 (hfl _ (by decide +kernel)) (hfl _ (by decide +kernel)) (hfl _ (by decide +kernel)) (hfl _ (by decide +kernel)) (hfl _ (by decide +kernel))), st_arr "AT_FIRST" tFIRST hs (hts _ (by decide +kernel)) (hts _ (by decide +kernel)) (hfl _ (by decide +kernel)) (hfl _ (by decide +kernel)) (st_el5 (hfl _ (by decide +kernel)) (hfl _ (by decide +kernel)) (hfl _ (by decide +kernel)) (hfl _ (by decide +kernel)) (hfl _ (by decide +kernel))), ?_⟩, by show S < s.heap.size; omega⟩
  exact ⟨⟨hr, va_Oof (hfl (.exactly (.string RX10 23) "java/lang/String") (by decide +kernel)) ht hA, vk_OFof ht (va_eqt (hfl _ (by decide +kernel))) hA, vk_OFof ht hv hA, hT⟩, va_Zof (hts _ (by decide +kernel)) (hts _ (by decide +kernel)) (va_eqt (hfl _ (by decide +kernel))) hA, ⟨a1, hr1⟩, ⟨a2, hr2⟩, vx_Zqof (hts _ (by decide +kernel)) (hts _ (by decide +kernel)) (hfl _ (by decide +kernel)) hA, vx_Zqof (hts _ (by decide +kernel)) (hts _ (by decide +kernel)) (hfl _ (by decide +kernel)) hA, va_Zqof (hts _ (by decide +kernel)) (hts _ (by decide +kernel)) (hfl _ (by decide +kernel)) hA⟩
