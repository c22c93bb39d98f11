theorem wj1_3 : Cond.initialized RJ0 ∈ gt := gt_in (tm1 _ (List.mem_of_getElem? (i := 3) rfl)) rfl
theorem wj1_4 : Cond.initialized RJ1 ∈ gt := gt_in (tm1 _ (List.mem_of_getElem? (i := 4) rfl)) rfl
theorem wj1_5 : Cond.initialized RJ3 ∈ gt := gt_in (tm1 _ (List.mem_of_getElem? (i := 5) rfl)) rfl
theorem wj1_6 : Cond.initialized RJ2 ∈ gt := gt_in (tm1 _ (List.mem_of_getElem? (i := 6) rfl)) rfl
theorem wj1_40 : Cond.instanceMethod yJ0_length_8abf5 ∈ gt := gt_in (tm1 _ (List.mem_of_getElem? (i := 40) rfl)) rfl
theorem wj1_41 : Cond.selects RJ0 yJ0_length_8abf5 yJ0_length_8abf5 ∈ gt := gt_in (tm1 _ (List.mem_of_getElem? (i := 41) rfl)) rfl
theorem wj1_42 : Cond.code yJ0_length_8abf5 cJ0_length_8abf5 1 (some .int) ∈ gt := gt_in (tm1 _ (List.mem_of_getElem? (i := 42) rfl)) rfl
theorem wj1_43 : Cond.methodLink RJ0 335 yJ0_coder_7d493 ∈ gt := gt_in (tm1 _ (List.mem_of_getElem? (i := 43) rfl)) rfl
theorem wj1_44 : Cond.instanceMethod yJ0_coder_7d493 ∈ gt := gt_in (tm1 _ (List.mem_of_getElem? (i := 44) rfl)) rfl
theorem wj1_45 : Cond.selects RJ0 yJ0_coder_7d493 yJ0_coder_7d493 ∈ gt := gt_in (tm1 _ (List.mem_of_getElem? (i := 45) rfl)) rfl
theorem wj1_46 : Cond.code yJ0_coder_7d493 cJ0_coder_7d493 1 (some .byte) ∈ gt := gt_in (tm1 _ (List.mem_of_getElem? (i := 46) rfl)) rfl
theorem wj1_47 : Cond.fieldLink RJ0 38 RJ0 "COMPACT_STRINGS" "Z" ∈ gt := gt_in (tm1 _ (List.mem_of_getElem? (i := 47) rfl)) rfl
theorem wj1_50 : Cond.instanceMethod yJ0_charAt_5068e ∈ gt := gt_in (tm1 _ (List.mem_of_getElem? (i := 50) rfl)) rfl
theorem wj1_51 : Cond.selects RJ0 yJ0_charAt_5068e yJ0_charAt_5068e ∈ gt := gt_in (tm1 _ (List.mem_of_getElem? (i := 51) rfl)) rfl
theorem wj1_52 : Cond.code yJ0_charAt_5068e cJ0_charAt_5068e 2 (some .char) ∈ gt := gt_in (tm1 _ (List.mem_of_getElem? (i := 52) rfl)) rfl
theorem wj1_53 : Cond.methodLink RJ0 492 yJ0_isLatin1_aae02 ∈ gt := gt_in (tm1 _ (List.mem_of_getElem? (i := 53) rfl)) rfl
theorem wj1_54 : Cond.instanceMethod yJ0_isLatin1_aae02 ∈ gt := gt_in (tm1 _ (List.mem_of_getElem? (i := 54) rfl)) rfl
theorem wj1_55 : Cond.selects RJ0 yJ0_isLatin1_aae02 yJ0_isLatin1_aae02 ∈ gt := gt_in (tm1 _ (List.mem_of_getElem? (i := 55) rfl)) rfl
theorem wj1_56 : Cond.code yJ0_isLatin1_aae02 cJ0_isLatin1_aae02 1 (some .boolean) ∈ gt := gt_in (tm1 _ (List.mem_of_getElem? (i := 56) rfl)) rfl
theorem wj1_57 : Cond.methodLink RJ0 495 yJ1_charAt_3b067 ∈ gt := gt_in (tm1 _ (List.mem_of_getElem? (i := 57) rfl)) rfl
theorem wj1_58 : Cond.static yJ1_charAt_3b067 ∈ gt := gt_in (tm1 _ (List.mem_of_getElem? (i := 58) rfl)) rfl
theorem wj1_59 : Cond.code yJ1_charAt_3b067 cJ1_charAt_3b067 2 (some .char) ∈ gt := gt_in (tm1 _ (List.mem_of_getElem? (i := 59) rfl)) rfl
theorem wj1_60 : Cond.methodLink RJ1 9 yJ0_checkIndex_df160 ∈ gt := gt_in (tm1 _ (List.mem_of_getElem? (i := 60) rfl)) rfl
theorem wj1_61 : Cond.static yJ0_checkIndex_df160 ∈ gt := gt_in (tm1 _ (List.mem_of_getElem? (i := 61) rfl)) rfl
theorem wj1_62 : Cond.code yJ0_checkIndex_df160 cJ0_checkIndex_df160 2 none ∈ gt := gt_in (tm1 _ (List.mem_of_getElem? (i := 62) rfl)) rfl
theorem wj1_63 : Cond.fieldLink RJ0 1053 RJ3 "SIOOBE_FORMATTER" "Ljava/util/function/BiFunction;" ∈ gt := gt_in (tm1 _ (List.mem_of_getElem? (i := 63) rfl)) rfl
theorem wj1_65 : Cond.methodLink RJ0 1059 yJ3_checkIndex_8e157 ∈ gt := gt_in (tm1 _ (List.mem_of_getElem? (i := 65) rfl)) rfl
theorem wj1_66 : Cond.static yJ3_checkIndex_8e157 ∈ gt := gt_in (tm1 _ (List.mem_of_getElem? (i := 66) rfl)) rfl
theorem wj1_67 : Cond.code yJ3_checkIndex_8e157 cJ3_checkIndex_8e157 3 (some .int) ∈ gt := gt_in (tm1 _ (List.mem_of_getElem? (i := 67) rfl)) rfl
theorem wj1_68 : Cond.methodLink RJ0 498 yJ2_charAt_3b067 ∈ gt := gt_in (tm1 _ (List.mem_of_getElem? (i := 68) rfl)) rfl
theorem wj1_69 : Cond.static yJ2_charAt_3b067 ∈ gt := gt_in (tm1 _ (List.mem_of_getElem? (i := 69) rfl)) rfl
theorem wj1_70 : Cond.code yJ2_charAt_3b067 cJ2_charAt_3b067 2 (some .char) ∈ gt := gt_in (tm1 _ (List.mem_of_getElem? (i := 70) rfl)) rfl
theorem wj1_71 : Cond.methodLink RJ2 67 yJ2_checkIndex_2214a ∈ gt := gt_in (tm1 _ (List.mem_of_getElem? (i := 71) rfl)) rfl
theorem wj1_72 : Cond.static yJ2_checkIndex_2214a ∈ gt := gt_in (tm1 _ (List.mem_of_getElem? (i := 72) rfl)) rfl
theorem wj1_73 : Cond.code yJ2_checkIndex_2214a cJ2_checkIndex_2214a 2 none ∈ gt := gt_in (tm1 _ (List.mem_of_getElem? (i := 73) rfl)) rfl
theorem wj1_74 : Cond.methodLink RJ2 48 yJ2_length_9d52b ∈ gt := gt_in (tm1 _ (List.mem_of_getElem? (i := 74) rfl)) rfl
theorem wj1_75 : Cond.static yJ2_length_9d52b ∈ gt := gt_in (tm1 _ (List.mem_of_getElem? (i := 75) rfl)) rfl
theorem wj1_76 : Cond.code yJ2_length_9d52b cJ2_length_9d52b 1 (some .int) ∈ gt := gt_in (tm1 _ (List.mem_of_getElem? (i := 76) rfl)) rfl
theorem wj1_77 : Cond.methodLink RJ2 414 yJ0_checkIndex_df160 ∈ gt := gt_in (tm1 _ (List.mem_of_getElem? (i := 77) rfl)) rfl
theorem wj1_78 : Cond.methodLink RJ2 71 yJ2_getChar_3b067 ∈ gt := gt_in (tm1 _ (List.mem_of_getElem? (i := 78) rfl)) rfl
theorem wj1_79 : Cond.static yJ2_getChar_3b067 ∈ gt := gt_in (tm1 _ (List.mem_of_getElem? (i := 79) rfl)) rfl
theorem wj1_80 : Cond.code yJ2_getChar_3b067 cJ2_getChar_3b067 2 (some .char) ∈ gt := gt_in (tm1 _ (List.mem_of_getElem? (i := 80) rfl)) rfl
theorem wj1_81 : Cond.fieldLink RJ2 44 RJ2 "$assertionsDisabled" "Z" ∈ gt := gt_in (tm1 _ (List.mem_of_getElem? (i := 81) rfl)) rfl
theorem wj1_83 : Cond.fieldLink RJ2 59 RJ2 "HI_BYTE_SHIFT" "I" ∈ gt := gt_in (tm1 _ (List.mem_of_getElem? (i := 83) rfl)) rfl
theorem wj1_85 : Cond.fieldLink RJ2 63 RJ2 "LO_BYTE_SHIFT" "I" ∈ gt := gt_in (tm1 _ (List.mem_of_getElem? (i := 85) rfl)) rfl
theorem wj8_137 : Cond.fieldLink RJ0 9 RJ0 "value" "[B" ∈ gt := gt_in (tm8 _ (List.mem_of_getElem? (i := 137) rfl)) rfl
theorem wj8_138 : Cond.fieldLink RJ0 15 RJ0 "coder" "B" ∈ gt := gt_in (tm8 _ (List.mem_of_getElem? (i := 138) rfl)) rfl
section GJ
variable {g : Gm} {l0 : Launch} {E : En} {cc : ByteArray} {own : String} {nL d mc ms n : Nat} {Rf : Nat → Nat → Nat} {ex : Bool} {cn sn pc : Nat} {lv : List (Nat × Value)} {st : List Value} {M : Mm}
theorem g_jz (hg : Ok g l0 E cc own nL d mc ms) {idx : Nat} (hw : Cond.fieldLink own idx RJ0 "COMPACT_STRINGS" "Z" ∈ gt) (hd : decode cc pc = .ok (.getstatic idx, 3)) (kk : WG g E nL n Rf ex cn sn (pc + 3) lv (.int 1 :: st) M) : WG g E nL n Rf ex cn sn pc lv st M := by
  obtain ⟨p, l, e, R, s, m, args, below, meth, c, Q⟩ := g
  obtain ⟨hll, hx, hb, hml, hown, hts, hSt, hlk, hfr, hlo, hrc, hrs⟩ := hg
  exact fun H locs ls hl hE hS => va_gets hx hb hSt.2.2.1.2.2.2.2.1 hS hown (hts _ hw) (fun _ h => h) hd (kk H locs ls hl hE hS)
theorem g_jc (hg : Ok g l0 E cc own nL d mc ms) {idx : Nat} (hw : Cond.fieldLink own idx RJ0 "coder" "B" ∈ gt) (hd : decode cc pc = .ok (.getfield idx, 3)) (kk : WG g E nL n Rf ex cn sn (pc + 3) lv (.int 0 :: st) M) : WG g E nL n Rf ex cn sn pc lv (.ref (E.2.2 10) :: st) M := by
  obtain ⟨p, l, e, R, s, m, args, below, meth, c, Q⟩ := g
  obtain ⟨hll, hx, hb, hml, hown, hts, hSt, hlk, hfr, hlo, hrc, hrs⟩ := hg
  exact fun H locs ls hl hE hS => vk_getf hx hb hSt.2.2.1.2.2.2.1.2.2.1 hS hown (hts _ hw) (fun _ h => h) hd (kk H locs ls hl hE hS)
theorem g_jv (hg : Ok g l0 E cc own nL d mc ms) {idx : Nat} (hw : Cond.fieldLink own idx RJ0 "value" "[B" ∈ gt) (hd : decode cc pc = .ok (.getfield idx, 3)) (kk : WG g E nL n Rf ex cn sn (pc + 3) lv (.ref (E.2.2 11) :: st) M) : WG g E nL n Rf ex cn sn pc lv (.ref (E.2.2 10) :: st) M := by
  obtain ⟨p, l, e, R, s, m, args, below, meth, c, Q⟩ := g
  obtain ⟨hll, hx, hb, hml, hown, hts, hSt, hlk, hfr, hlo, hrc, hrs⟩ := hg
  exact fun H locs ls hl hE hS => vk_getf hx hb hSt.2.2.1.2.2.2.1.2.2.2.1 hS hown (hts _ hw) (fun _ h => h) hd (kk H locs ls hl hE hS)
theorem g_jl (hg : Ok g l0 E cc own nL d mc ms) (hd : decode cc pc = .ok (.arraylength, 1)) (kk : WG g E nL n Rf ex cn sn (pc + 1) lv (.int 120 :: st) M) : WG g E nL n Rf ex cn sn pc lv (.ref (E.2.2 11) :: st) M := by
  obtain ⟨p, l, e, R, s, m, args, below, meth, c, Q⟩ := g
  obtain ⟨hll, hx, hb, hml, hown, hts, hSt, hlk, hfr, hlo, hrc, hrs⟩ := hg
  exact fun H locs ls hl hE hS => va_tlen hx hb hSt.2.2.1.2.2.2.1.2.2.2.2 hS (by decide) hd (kk H locs ls hl hE hS)
theorem g_jb (hg : Ok g l0 E cc own nL d mc ms) {i : Int32} (hin : vp_in i 120) (hd : decode cc pc = .ok (.baload, 1)) (kk : WG g E nL n Rf ex cn sn (pc + 1) lv (.int (tWORDS.getD i.toNatClampNeg 0) :: st) M) : WG g E nL n Rf ex cn sn pc lv (.int i :: .ref (E.2.2 11) :: st) M := by
  obtain ⟨p, l, e, R, s, m, args, below, meth, c, Q⟩ := g
  obtain ⟨hll, hx, hb, hml, hown, hts, hSt, hlk, hfr, hlo, hrc, hrs⟩ := hg
  exact fun H locs ls hl hE hS => va_tb hx hb hSt.2.2.1.2.2.2.1.2.2.2.2 hS hin rfl hd (kk H locs ls hl hE hS)
theorem g_js (hg : Ok g l0 E cc RX10 nL d mc ms) (hd : decode cc pc = .ok (.ldc 23, 2)) (kk : WG g E nL n Rf ex cn sn (pc + 2) lv (.ref (E.2.2 10) :: st) M) : WG g E nL n Rf ex cn sn pc lv st M := by
  obtain ⟨p, l, e, R, s, m, args, below, meth, c, Q⟩ := g
  obtain ⟨hll, hx, hb, hml, hown, hts, hSt, hlk, hfr, hlo, hrc, hrs⟩ := hg
  exact fun H locs ls hl hE hS => va_ldcS hx hb hown hSt.2.2.1.2.2.2.1.1 hd (kk H locs ls hl hE hS)
theorem g_jq (hg : Ok g l0 E cc own nL d mc ms) {idx : Nat} (hw : Cond.fieldLink own idx RJ3 "SIOOBE_FORMATTER" "Ljava/util/function/BiFunction;" ∈ gt) (hd : decode cc pc = .ok (.getstatic idx, 3)) (kk : ∀ v : Value, (v = .null ∨ ∃ t, v = .ref t) → WG g E nL n Rf ex cn sn (pc + 3) lv (v :: st) M) : WG g E nL n Rf ex cn sn pc lv st M := by
  obtain ⟨p, l, e, R, s, m, args, below, meth, c, Q⟩ := g
  obtain ⟨hll, hx, hb, hml, hown, hts, hSt, hlk, hfr, hlo, hrc, hrs⟩ := hg
  intro H locs ls hl hE hS
  rcases hSt.2.2.1.2.2.2.2.2.2.2.2.2 with h | ⟨t, h⟩
  · exact va_gets hx hb h hS hown (hts _ hw) (fun _ h => h) hd (kk _ (Or.inl rfl) H locs ls hl hE hS)
  · exact va_gets hx hb h hS hown (hts _ hw) (fun _ h => h) hd (kk _ (Or.inr ⟨t, rfl⟩) H locs ls hl hE hS)
theorem g_nret (hg : Ok g l0 E cc own nL d mc ms) {v : Int32} {ty : FieldType} (hr : Ret g E mc ms (some ty) ex n Rf (some (.int v)) M) (hn : narrow ty (.int v) = .int v) (hd : decode cc pc = .ok (.ireturn, 1)) : WG g E nL n Rf ex mc ms pc lv [.int v] M := by
  obtain ⟨p, l, e, R, s, m, args, below, meth, c, Q⟩ := g
  obtain ⟨hll, hx, hb, hml, hown, hts, hSt, hlk, hfr, hlo, hrc, hrs⟩ := hg
  obtain ⟨hQ, hrt⟩ := hr
  subst hQ
  exact fun H locs ls hl hE hS => W.zret hx hb hrt hn (fun t ht hW => ⟨rfl, by rw [ht]; exact hE, hS.F ht⟩) (fun q hq => hS.2.2 q hq) hd (hlocks := hlk)
theorem g_i2c (hg : Ok g l0 E cc own nL d mc ms) {x : Int32} (hd : decode cc pc = .ok (.i2c, 1)) (kk : WG g E nL n Rf ex cn sn (pc + 1) lv (.int (x.toUInt32 % 65536).toInt32 :: st) M) : WG g E nL n Rf ex cn sn pc lv (.int x :: st) M := by
  obtain ⟨p, l, e, R, s, m, args, below, meth, c, Q⟩ := g
  obtain ⟨hll, hx, hb, hml, hown, hts, hSt, hlk, hfr, hlo, hrc, hrs⟩ := hg
  exact fun H locs ls hl hE hS => lv_i2c hx hb hd rfl (kk H locs ls hl hE hS)
theorem g_callJ (hg : Ok g l0 E cc own nL (d + 1) mc ms) {idx na maxL : Nat} {y : MethodName} {yc : ByteArray} {ret : Option FieldType} {As rest : List Value} {r : Option Value} {M' : Mm} (hc : Ct l0 E y yc maxL ret d 0 0 (.ref (E.2.2 10) :: As) ex n Rf M n Rf r M') (hw : CV own idx RJ0 y yc maxL ret na) (hn : As.length = na) (hst : st = As.reverse ++ .ref (E.2.2 10) :: rest) (hcat : (rest.map fun v => v.category).sum ≤ 8) (hcs : cn ≤ mc ∧ sn ≤ ms) (hd : decode cc pc = .ok (.invokevirtual idx, 3)) (kk : WG g E nL n Rf ex cn sn (pc + 3) lv (r.toList ++ rest) M') : WG g E nL n Rf ex cn sn pc lv st M := by
  obtain ⟨p, l, e, R, s, m, args, below, meth, c, Q⟩ := g
  obtain ⟨hll, hx, hb, hml, hown, hts, hSt, hlk, hfr, hlo, hrc, hrs⟩ := hg
  obtain ⟨w1, w2, w3, w4, w5, w6, w7⟩ := hw
  subst hll
  subst hst
  intro H locs ls hl hE hS
  obtain ⟨cell, q1, q2, q3, -⟩ := hSt.2.2.1.2.2.2.1.2.1.kept hS.2.1
  have hG : GoodIn gt (wsV own idx RJ0 y (.code y yc maxL ret :: gt)) := gt_good (fun _ h => h) (fun w h => by
    rcases List.mem_append.mp h with h | h
    · simp only [List.mem_cons, List.not_mem_nil, or_false] at h
      rcases h with rfl | rfl | rfl | rfl
      · exact w1
      · exact w2
      · exact w3
      · exact w4
    · rcases List.mem_cons.mp h with rfl | h
      · exact w5
      · exact h)
  refine run_go (va_runV (As := As) (rest := rest) ⟨hx, hb, hml, hown, hts⟩ hc (cwV na hts hG rfl rfl rfl w6 ⟨hfr, by show 8 + (maxL + 11) + 60 * d ≤ R.locals; omega⟩) ⟨Ps.blind, ⟨cell, q1, q2, q3⟩, fun U hU hW => ⟨rfl, by rw [hU]; exact hE, hSt.moved hW hS hU⟩⟩ rfl hn hl.1 rfl (lv_room hcat) hd ⟨by rw [hrc]; exact hcs.1, by rw [hrs]; exact hcs.2⟩) hS (fun H1 locs1 hE1 hS1 => kk H1 locs1 ls hl hE1 hS1)
end GJ
theorem cvj_335 : CV RJ0 335 RJ0 yJ0_coder_7d493 cJ0_coder_7d493 1 (some .byte) 0 := ⟨wj1_43, wj1_44, wj1_45, wj1_3, wj1_46, by decide +kernel, by decide⟩
theorem cvj_492 : CV RJ0 492 RJ0 yJ0_isLatin1_aae02 cJ0_isLatin1_aae02 1 (some .boolean) 0 := ⟨wj1_53, wj1_54, wj1_55, wj1_3, wj1_56, by decide +kernel, by decide⟩
theorem cvj_25 : CV RX10 25 RJ0 yJ0_length_8abf5 cJ0_length_8abf5 1 (some .int) 0 := ⟨w1_39, wj1_40, wj1_41, wj1_3, wj1_42, by decide +kernel, by decide⟩
theorem cvj_31 : CV RX10 31 RJ0 yJ0_charAt_5068e cJ0_charAt_5068e 2 (some .char) 1 := ⟨w1_49, wj1_50, wj1_51, wj1_3, wj1_52, by decide +kernel, by decide⟩
theorem csj_495 : CS RJ0 495 yJ1_charAt_3b067 cJ1_charAt_3b067 2 (some .char) 2 := ⟨wj1_57, wj1_58, wj1_4, wj1_59, by decide +kernel, by decide⟩
theorem csj_9 : CS RJ1 9 yJ0_checkIndex_df160 cJ0_checkIndex_df160 2 none 2 := ⟨wj1_60, wj1_61, wj1_3, wj1_62, by decide +kernel, by decide⟩
theorem csj_1059 : CS RJ0 1059 yJ3_checkIndex_8e157 cJ3_checkIndex_8e157 3 (some .int) 3 := ⟨wj1_65, wj1_66, wj1_5, wj1_67, by decide +kernel, by decide⟩
theorem ctj_coder {l0 : Launch} {E : En} {d n : Nat} {Rf : Nat → Nat → Nat} {ex : Bool} {M : Mm} (hd : 1 ≤ d) : Ct l0 E yJ0_coder_7d493 cJ0_coder_7d493 1 (some .byte) d 0 0 [.ref (E.2.2 10)] ex n Rf M n Rf (some (.int 0)) M := by
  obtain ⟨d, rfl⟩ := Nat.exists_eq_add_of_le' hd
  refine Ct.of (by decide +kernel) (Nat.le_of_ble_eq_true rfl) (fun g hg hr _ => ?_)
  replace hg : Ok g l0 E cJ0_coder_7d493 RJ0 1 (d + 1) 0 0 := hg
  show WG g E 1 n Rf ex 0 0 0 [(0, .ref (E.2.2 10))] [] M
  refine g_jz hg wj1_47 dJ0_coder_7d493_0 ?_
  refine g_if_eq (tgt := 13) hg dJ0_coder_7d493_3 (by decide) (fun c => absurd c (by decide)) (fun _ => ?_)
  refine g_aload_n hg dJ0_coder_7d493_6 rfl 0 rfl ?_
  refine g_jc hg wj8_138 dJ0_coder_7d493_7 ?_
  refine g_goto (tgt := 14) hg dJ0_coder_7d493_10 (by decide) ?_
  exact g_nret hg hr rfl dJ0_coder_7d493_14
theorem ctj_isL {l0 : Launch} {E : En} {d n : Nat} {Rf : Nat → Nat → Nat} {ex : Bool} {M : Mm} (hd : 1 ≤ d) : Ct l0 E yJ0_isLatin1_aae02 cJ0_isLatin1_aae02 1 (some .boolean) d 0 0 [.ref (E.2.2 10)] ex n Rf M n Rf (some (.int 1)) M := by
  obtain ⟨d, rfl⟩ := Nat.exists_eq_add_of_le' hd
  refine Ct.of (by decide +kernel) (Nat.le_of_ble_eq_true rfl) (fun g hg hr _ => ?_)
  replace hg : Ok g l0 E cJ0_isLatin1_aae02 RJ0 1 (d + 1) 0 0 := hg
  show WG g E 1 n Rf ex 0 0 0 [(0, .ref (E.2.2 10))] [] M
  refine g_jz hg wj1_47 dJ0_isLatin1_aae02_0 ?_
  refine g_if_eq (tgt := 17) hg dJ0_isLatin1_aae02_3 (by decide) (fun c => absurd c (by decide)) (fun _ => ?_)
  refine g_aload_n hg dJ0_isLatin1_aae02_6 rfl 0 rfl ?_
  refine g_jc hg wj8_138 dJ0_isLatin1_aae02_7 ?_
  refine g_if_ne (tgt := 17) hg dJ0_isLatin1_aae02_10 (by decide) (fun c => absurd rfl c) (fun _ => ?_)
  refine g_iconst hg dJ0_isLatin1_aae02_13 kI_1 ?_
  refine g_goto (tgt := 18) hg dJ0_isLatin1_aae02_14 (by decide) ?_
  exact g_nret hg hr rfl dJ0_isLatin1_aae02_18
theorem ctj_len {l0 : Launch} {E : En} {d n : Nat} {Rf : Nat → Nat → Nat} {ex : Bool} {M : Mm} (hd : 2 ≤ d) : Ct l0 E yJ0_length_8abf5 cJ0_length_8abf5 1 (some .int) d 0 0 [.ref (E.2.2 10)] ex n Rf M n Rf (some (.int 120)) M := by
  obtain ⟨d, rfl⟩ := Nat.exists_eq_add_of_le' hd
  refine Ct.of (by decide +kernel) (Nat.le_of_ble_eq_true rfl) (fun g hg hr _ => ?_)
  replace hg : Ok g l0 E cJ0_length_8abf5 RJ0 1 (d + 2) 0 0 := hg
  show WG g E 1 n Rf ex 0 0 0 [(0, .ref (E.2.2 10))] [] M
  refine g_aload_n hg dJ0_length_8abf5_0 rfl 0 rfl ?_
  refine g_jv hg wj8_137 dJ0_length_8abf5_1 ?_
  refine g_jl hg dJ0_length_8abf5_4 ?_
  refine g_aload_n hg dJ0_length_8abf5_5 rfl 0 rfl ?_
  refine g_callJ (As := []) (rest := [.int 120]) hg (ctj_coder (by omega)) cvj_335 rfl rfl (Nat.le_of_ble_eq_true rfl) ⟨Nat.le_refl _, Nat.le_refl _⟩ dJ0_length_8abf5_6 ?_
  show WG g E _ n Rf ex 0 0 _ _ [.int 0, .int 120] M
  refine g_ishr hg dJ0_length_8abf5_9 ?_
  rw [show ((120 : Int32) >>> ((0 : Int32) &&& 31)) = 120 from by decide +kernel]
  exact g_iret hg hr dJ0_length_8abf5_10
theorem ctj_pre {l0 : Launch} {E : En} {d n : Nat} {Rf : Nat → Nat → Nat} {ex : Bool} {M : Mm} (hd : 1 ≤ d) {i j : Int32} {v : Value} (hv : v = .null ∨ ∃ t, v = .ref t) (h1 : ¬ i < 0) (h2 : i < j) : Ct l0 E yJ3_checkIndex_8e157 cJ3_checkIndex_8e157 3 (some .int) d 0 0 [.int i, .int j, v] ex n Rf M n Rf (some (.int i)) M := by
  obtain ⟨d, rfl⟩ := Nat.exists_eq_add_of_le' hd
  have hm : (lg_sl [.int i, .int j, v]).length ≤ 3 := by rcases hv with rfl | ⟨t, rfl⟩ <;> exact Nat.le_of_ble_eq_true rfl
  have ha : lv_args 0 [.int i, .int j, v] = [(0, .int i), (1, .int j), (2, v)] := by rcases hv with rfl | ⟨t, rfl⟩ <;> rfl
  refine Ct.of (by decide +kernel) hm (fun g hg hr _ => ?_)
  replace hg : Ok g l0 E cJ3_checkIndex_8e157 RJ3 3 (d + 1) 0 0 := hg
  rw [ha]
  refine g_iload_n hg dJ3_checkIndex_8e157_0 rfl 0 rfl ?_
  refine g_if_lt (tgt := 9) hg dJ3_checkIndex_8e157_1 (by decide) (fun c => absurd c h1) (fun _ => ?_)
  refine g_iload_n hg dJ3_checkIndex_8e157_4 rfl 0 rfl ?_
  refine g_iload_n hg dJ3_checkIndex_8e157_5 rfl 1 rfl ?_
  refine g_icmp_lt (tgt := 16) hg dJ3_checkIndex_8e157_6 (by decide) (fun _ => ?_) (fun c => absurd h2 c)
  refine g_iload_n hg dJ3_checkIndex_8e157_16 rfl 0 rfl ?_
  exact g_iret hg hr dJ3_checkIndex_8e157_17
theorem ctj_chk {l0 : Launch} {E : En} {d n : Nat} {Rf : Nat → Nat → Nat} {ex : Bool} {M : Mm} (hd : 2 ≤ d) {i j : Int32} (h1 : ¬ i < 0) (h2 : i < j) : Ct l0 E yJ0_checkIndex_df160 cJ0_checkIndex_df160 2 none d 0 0 [.int i, .int j] ex n Rf M n Rf none M := by
  obtain ⟨d, rfl⟩ := Nat.exists_eq_add_of_le' hd
  refine Ct.of (by decide +kernel) (Nat.le_of_ble_eq_true rfl) (fun g hg hr _ => ?_)
  replace hg : Ok g l0 E cJ0_checkIndex_df160 RJ0 2 (d + 2) 0 0 := hg
  show WG g E 2 n Rf ex 0 0 0 [(0, .int i), (1, .int j)] [] M
  refine g_iload_n hg dJ0_checkIndex_df160_0 rfl 0 rfl ?_
  refine g_iload_n hg dJ0_checkIndex_df160_1 rfl 1 rfl ?_
  refine g_jq hg wj1_63 dJ0_checkIndex_df160_2 (fun v hv => ?_)
  refine g_callSi (As := [.int i, .int j, v]) (rest := []) hg (ctj_pre (by omega) hv h1 h2) csj_1059 rfl rfl (Nat.le_of_ble_eq_true rfl) ⟨Nat.le_refl _, Nat.le_refl _⟩ dJ0_checkIndex_df160_5 ?_
  refine g_pop hg dJ0_checkIndex_df160_8 rfl ?_
  exact g_vret hg hr dJ0_checkIndex_df160_9
def chW (i : Int32) : Int32 := (((tWORDS.getD i.toNatClampNeg 0) &&& 255).toUInt32 % 65536).toInt32
theorem ctj_la {l0 : Launch} {E : En} {d n : Nat} {Rf : Nat → Nat → Nat} {ex : Bool} {M : Mm} (hd : 3 ≤ d) {i : Int32} (hin : vp_in i 120) : Ct l0 E yJ1_charAt_3b067 cJ1_charAt_3b067 2 (some .char) d 0 0 [.ref (E.2.2 11), .int i] ex n Rf M n Rf (some (.int (chW i))) M := by
  obtain ⟨d, rfl⟩ := Nat.exists_eq_add_of_le' hd
  have h1 : ¬ i < 0 := fun q => hin (Or.inl q)
  have h2 : i < 120 := by
    obtain ⟨j, hj, rfl⟩ := vp_in_of hin (by decide)
    exact nI_lt (b := 120) hj (by decide)
  refine Ct.of (by decide +kernel) (Nat.le_of_ble_eq_true rfl) (fun g hg hr _ => ?_)
  replace hg : Ok g l0 E cJ1_charAt_3b067 RJ1 2 (d + 3) 0 0 := hg
  show WG g E 2 n Rf ex 0 0 0 [(0, .ref (E.2.2 11)), (1, .int i)] [] M
  refine g_iload_n hg dJ1_charAt_3b067_0 rfl 1 rfl ?_
  refine g_aload_n hg dJ1_charAt_3b067_1 rfl 0 rfl ?_
  refine g_jl hg dJ1_charAt_3b067_2 ?_
  refine g_callSv (As := [.int i, .int 120]) (rest := []) hg (ctj_chk (by omega) h1 h2) csj_9 rfl rfl (Nat.le_of_ble_eq_true rfl) ⟨Nat.le_refl _, Nat.le_refl _⟩ dJ1_charAt_3b067_3 ?_
  refine g_aload_n hg dJ1_charAt_3b067_6 rfl 0 rfl ?_
  refine g_iload_n hg dJ1_charAt_3b067_7 rfl 1 rfl ?_
  refine g_jb hg hin dJ1_charAt_3b067_8 ?_
  refine g_sipush hg dJ1_charAt_3b067_9 kS_255 ?_
  refine g_iand hg dJ1_charAt_3b067_12 ?_
  refine g_i2c hg dJ1_charAt_3b067_13 ?_
  exact g_nret hg hr (pk_nc _) dJ1_charAt_3b067_14
theorem ctj_at {l0 : Launch} {E : En} {d n : Nat} {Rf : Nat → Nat → Nat} {ex : Bool} {M : Mm} (hd : 4 ≤ d) {i : Int32} (hin : vp_in i 120) : Ct l0 E yJ0_charAt_5068e cJ0_charAt_5068e 2 (some .char) d 0 0 [.ref (E.2.2 10), .int i] ex n Rf M n Rf (some (.int (chW i))) M := by
  obtain ⟨d, rfl⟩ := Nat.exists_eq_add_of_le' hd
  refine Ct.of (by decide +kernel) (Nat.le_of_ble_eq_true rfl) (fun g hg hr _ => ?_)
  replace hg : Ok g l0 E cJ0_charAt_5068e RJ0 2 (d + 4) 0 0 := hg
  show WG g E 2 n Rf ex 0 0 0 [(0, .ref (E.2.2 10)), (1, .int i)] [] M
  refine g_aload_n hg dJ0_charAt_5068e_0 rfl 0 rfl ?_
  refine g_callJ (As := []) (rest := []) hg (ctj_isL (by omega)) cvj_492 rfl rfl (Nat.le_of_ble_eq_true rfl) ⟨Nat.le_refl _, Nat.le_refl _⟩ dJ0_charAt_5068e_1 ?_
  show WG g E _ n Rf ex 0 0 _ _ [.int 1] M
  refine g_if_eq (tgt := 16) hg dJ0_charAt_5068e_4 (by decide) (fun c => absurd c (by decide)) (fun _ => ?_)
  refine g_aload_n hg dJ0_charAt_5068e_7 rfl 0 rfl ?_
  refine g_jv hg wj8_137 dJ0_charAt_5068e_8 ?_
  refine g_iload_n hg dJ0_charAt_5068e_11 rfl 1 rfl ?_
  refine g_callSi (As := [.ref (E.2.2 11), .int i]) (rest := []) hg (ctj_la (by omega) hin) csj_495 rfl rfl (Nat.le_of_ble_eq_true rfl) ⟨Nat.le_refl _, Nat.le_refl _⟩ dJ0_charAt_5068e_12 ?_
  exact g_nret hg hr (pk_nc _) dJ0_charAt_5068e_15
