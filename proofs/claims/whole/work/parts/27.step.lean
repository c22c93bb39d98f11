def Sc (g : Gm) (b L : Nat) (xs : Nat → Int32) : Prop := match g with | (_, _, _, _, s, _, _, _, _, _, _) => va_X b L xs s s.heap ∧ b < s.heap.size
section ST
variable {g : Gm} {l0 : Launch} {E : En} {cc : ByteArray} {own : String} {nL d mc ms n : Nat} {Rf : Nat → Nat → Nat} {ex : Bool} {cn sn pc : Nat} {lv : List (Nat × Value)} {st : List Value} {M : Mm} {b L i : Nat} {xs : Nat → Int32}
theorem g_sld (hg : Ok g l0 E cc own nL d mc ms) (hX : Sc g b L xs) (hbE : b ≤ E.1) {x : Int32} (hin : vp_in x L) (hd : decode cc pc = .ok (.iaload, 1)) (kk : WG g E nL n Rf ex cn sn (pc + 1) lv (.int (xs x.toNatClampNeg) :: st) M) : WG g E nL n Rf ex cn sn pc lv (.int x :: .ref b :: st) M := by
  obtain ⟨p, l, e, R, s, m, args, below, meth, c, Q⟩ := g
  obtain ⟨hll, hx, hb, hml, hown, hts, hSt, hlk, hfr, hlo, hrc, hrs⟩ := hg
  intro H locs ls hl hE hS
  exact va_sld hx hb hX.1 hX.2 (Nat.not_lt.mpr hbE) hS hin hd (kk H locs ls hl hE hS)
theorem g_slen (hg : Ok g l0 E cc own nL d mc ms) (hX : Sc g b L xs) (hbE : b ≤ E.1) (hd : decode cc pc = .ok (.arraylength, 1)) (kk : WG g E nL n Rf ex cn sn (pc + 1) lv (.int (nI L) :: st) M) : WG g E nL n Rf ex cn sn pc lv (.ref b :: st) M := by
  obtain ⟨p, l, e, R, s, m, args, below, meth, c, Q⟩ := g
  obtain ⟨hll, hx, hb, hml, hown, hts, hSt, hlk, hfr, hlo, hrc, hrs⟩ := hg
  intro H locs ls hl hE hS
  exact va_slen hx hb hX.1 hX.2 (Nat.not_lt.mpr hbE) hS hd (kk H locs ls hl hE hS)
theorem g_wide {cn' sn' : Nat} (h1 : cn ≤ cn') (h2 : sn ≤ sn') (kk : WG g E nL n Rf ex cn' sn' pc lv st M) : WG g E nL n Rf ex cn sn pc lv st M := by
  obtain ⟨p, l, e, R, s, m, args, below, meth, c, Q⟩ := g
  intro H locs ls hl hE hS
  exact W.widen (k := cn') (n := sn') h1 h2 (kk H locs ls hl hE hS)
theorem g_arg (hg : Ok g l0 E cc own nL d mc ms) (hX : Sc g b L xs) (hbE : b ≤ E.1) (hL : L ≤ 3584) {k : Int} (a : Nat) (hk : Int32.ofInt k = nI a) (ha : i + a < L) (jb ji : Nat) (hjb : lv[jb]? = some (0, .ref b)) (hji : lv[ji]? = some (4, .int (nI i)))
    (d0 : decode cc pc = .ok (.aload_n 0, 1)) (d1 : decode cc (pc + 1) = .ok (.iload 4, 2)) (d3 : decode cc (pc + 3) = .ok (.iconst k, 1)) (d4 : decode cc (pc + 4) = .ok (.iadd, 1)) (d5 : decode cc (pc + 5) = .ok (.iaload, 1))
    (kk : WG g E nL n Rf ex cn sn (pc + 6) lv (.int (xs (i + a)) :: st) M) : WG g E nL n Rf ex cn sn pc lv st M := by
  refine g_aload_n hg d0 rfl jb hjb ?_
  refine g_iload hg d1 ji hji ?_
  refine g_iconst hg d3 hk ?_
  refine g_iadd hg d4 ?_
  rw [nI_add]
  refine g_sld hg hX hbE (vp_in_nI ha (by omega)) d5 ?_
  rw [nI_clamp (by omega)]
  exact kk
theorem g_arg6 (hg : Ok g l0 E cc own nL d mc ms) (hX : Sc g b L xs) (hbE : b ≤ E.1) (hL : L ≤ 3584) {k : Int} (a : Nat) (hk : (Int8.ofInt k).toInt32 = nI a) (ha : i + a < L) (jb ji : Nat) (hjb : lv[jb]? = some (0, .ref b)) (hji : lv[ji]? = some (4, .int (nI i)))
    (d0 : decode cc pc = .ok (.aload_n 0, 1)) (d1 : decode cc (pc + 1) = .ok (.iload 4, 2)) (d3 : decode cc (pc + 3) = .ok (.bipush k, 2)) (d4 : decode cc (pc + 5) = .ok (.iadd, 1)) (d5 : decode cc (pc + 6) = .ok (.iaload, 1))
    (kk : WG g E nL n Rf ex cn sn (pc + 7) lv (.int (xs (i + a)) :: st) M) : WG g E nL n Rf ex cn sn pc lv st M := by
  refine g_aload_n hg d0 rfl jb hjb ?_
  refine g_iload hg d1 ji hji ?_
  refine g_bipush hg d3 hk ?_
  refine g_iadd hg d4 ?_
  rw [nI_add]
  refine g_sld hg hX hbE (vp_in_nI ha (by omega)) d5 ?_
  rw [nI_clamp (by omega)]
  exact kk
theorem g_nz01 (hg : Ok g l0 E cc own nL d mc ms) {x : Int32} {o1 o2 : Int} (d0 : decode cc pc = .ok (.ifCond .eq o1, 3)) (e0 : (pc : Int) + o1 = ((pc + 7 : Nat) : Int)) (d3 : decode cc (pc + 3) = .ok (.iconst 1, 1)) (d4 : decode cc (pc + 4) = .ok (.goto o2, 3)) (e4 : ((pc + 4 : Nat) : Int) + o2 = ((pc + 8 : Nat) : Int)) (d7 : decode cc (pc + 7) = .ok (.iconst 0, 1))
    (kk : WG g E nL n Rf ex cn sn (pc + 8) lv (.int (if x = 0 then 0 else 1) :: st) M) : WG g E nL n Rf ex cn sn pc lv (.int x :: st) M := by
  refine g_if_eq (tgt := pc + 7) hg d0 e0 (fun c0 => ?_) (fun c0 => ?_)
  · refine g_iconst hg d7 kI_0 ?_
    rw [if_pos c0] at kk
    exact kk
  · refine g_iconst hg d3 kI_1 ?_
    refine g_goto (tgt := pc + 8) hg d4 e4 ?_
    rw [if_neg c0] at kk
    exact kk
end ST
abbrev lvL (E : En) (b i : Nat) : List (Nat × Value) := [(4, .int (nI i)), (0, .ref b), (1, rr E.1 1), (2, rr E.1 194), (3, rr E.1 238)]

theorem cvL_21 : CV RL 21 RX11 yX11_feed cX11_feed 6 (some .int) 5 := ⟨w3_122, w3_123, w3_124, w1_1, w3_125, by decide +kernel, by decide⟩
theorem cvL_25 : CV RL 25 RX12 yX12_feed cX12_feed 8 (some .int) 5 := ⟨w7_25, w7_26, w7_27, w1_18, w7_28, by decide +kernel, by decide⟩
def st_feed (kq : Nat × Nat) (a1 a2 a3 a4 a5 a6 : Int32) (M : Mm) : Option ((Nat × Nat) × Mm) := (sX11_feed a1 a2 a3 a4 a5 M).bind fun q => (sX12_feed a1 a2 a3 a4 a5 q.2).bind fun r => if q.1 = r.1 then some (kq, r.2) else none
theorem lc_feed {g : Gm} {l0 : Launch} {E : En} {b L i cn sn : Nat} {xs : Nat → Int32} {Rf : Nat → Nat → Nat} (hg : Ok g l0 E cL_law RL 7 1400 601024 7293034) (hX : Sc g b L xs) (hbE : b ≤ E.1) (hL : L ≤ 3584) (hi : i + 7 ≤ L) (hcs : cn + 1 ≤ 601024 ∧ sn + 6 ≤ 7293034) {kq : Nat × Nat} (hRf : RfOk 1 239 kq Rf) (hkq : isKq kq) {M : Mm} {r : (Nat × Nat) × Mm} (h : st_feed kq (xs (i + 1)) (xs (i + 2)) (xs (i + 3)) (xs (i + 4)) (xs (i + 5)) (xs (i + 6)) M = some r) (kk : ∀ Rf1 : Nat → Nat → Nat, RfOk 1 239 r.1 Rf1 → WG g E 7 239 Rf1 false (cn + 1) (sn + 6) 1303 (lvL E b i) [] r.2) : WG g E 7 239 Rf false cn sn 160 (lvL E b i) [] M := by
  unfold st_feed at h
  obtain ⟨q, e1, h⟩ := Option.bind_eq_some_iff.mp h
  obtain ⟨r1, e2, h⟩ := Option.bind_eq_some_iff.mp h
  have hn : 239 ≤ 239 := Nat.le_refl _
  refine g_rload_n hg dL_law_160 rfl 2 rfl ?_
  refine g_arg hg hX hbE hL 1 rfl (by omega) 1 0 rfl rfl dL_law_161 dL_law_162 dL_law_164 dL_law_165 dL_law_166 ?_
  refine g_arg hg hX hbE hL 2 rfl (by omega) 1 0 rfl rfl dL_law_167 dL_law_168 dL_law_170 dL_law_171 dL_law_172 ?_
  refine g_arg hg hX hbE hL 3 rfl (by omega) 1 0 rfl rfl dL_law_173 dL_law_174 dL_law_176 dL_law_177 dL_law_178 ?_
  refine g_arg hg hX hbE hL 4 rfl (by omega) 1 0 rfl rfl dL_law_179 dL_law_180 dL_law_182 dL_law_183 dL_law_184 ?_
  refine g_arg hg hX hbE hL 5 rfl (by omega) 1 0 rfl rfl dL_law_185 dL_law_186 dL_law_188 dL_law_189 dL_law_190 ?_
  refine g_callVi (d := 1399) (As := [.int (xs (i + 1)), .int (xs (i + 2)), .int (xs (i + 3)), .int (xs (i + 4)), .int (xs (i + 5))]) (rest := []) hg (lkX11_feed (by decide) hn hRf e1) cvL_21 rfl ly1 (idb rfl rfl hn) rfl rfl (Nat.le_of_ble_eq_true rfl) ⟨by omega, by omega⟩ dL_law_191 ?_
  refine g_rload_n hg dL_law_194 rfl 3 rfl ?_
  refine g_arg hg hX hbE hL 1 rfl (by omega) 1 0 rfl rfl dL_law_195 dL_law_196 dL_law_198 dL_law_199 dL_law_200 ?_
  refine g_arg hg hX hbE hL 2 rfl (by omega) 1 0 rfl rfl dL_law_201 dL_law_202 dL_law_204 dL_law_205 dL_law_206 ?_
  refine g_arg hg hX hbE hL 3 rfl (by omega) 1 0 rfl rfl dL_law_207 dL_law_208 dL_law_210 dL_law_211 dL_law_212 ?_
  refine g_arg hg hX hbE hL 4 rfl (by omega) 1 0 rfl rfl dL_law_213 dL_law_214 dL_law_216 dL_law_217 dL_law_218 ?_
  refine g_arg hg hX hbE hL 5 rfl (by omega) 1 0 rfl rfl dL_law_219 dL_law_220 dL_law_222 dL_law_223 dL_law_224 ?_
  refine g_callVi (d := 1399) (As := [.int (xs (i + 1)), .int (xs (i + 2)), .int (xs (i + 3)), .int (xs (i + 4)), .int (xs (i + 5))]) (rest := [.int q.1]) hg (lkX12_feed (by decide) (by decide) (hRf.mono (by decide) (by decide)) e2) cvL_25 rfl ly194 (idb rfl rfl hn) rfl rfl (Nat.le_of_ble_eq_true rfl) ⟨by omega, by omega⟩ dL_law_225 ?_
  refine g_icmp_eq (tgt := 1303) hg dL_law_228 (by decide) (fun c0 => ?_) (fun c0 => ?_)
  · replace h := Option.some.inj (itT c0 h)
    subst h
    exact g_wide (Nat.le_succ _) (Nat.le_add_right _ _) (kk _ hRf)
  · exact absurd (itF c0 h) (by simp)
theorem cvL_26 : CV RL 26 RX11 yX11_key cX11_key 4 (some .int) 1 := ⟨w3_130, w3_131, w3_132, w1_1, w3_133, by decide +kernel, by decide⟩
theorem cvL_30 : CV RL 30 RX12 yX12_key cX12_key 5 (some .int) 1 := ⟨w7_121, w7_122, w7_123, w1_18, w7_124, by decide +kernel, by decide⟩
def st_key (kq : Nat × Nat) (a1 a2 a3 a4 a5 a6 : Int32) (M : Mm) : Option ((Nat × Nat) × Mm) := (sX11_key kq a1 M).bind fun q => (sX12_key a1 q.1.2).bind fun r => if q.1.1 = r.1 then some (q.2, r.2) else none
theorem lc_key {g : Gm} {l0 : Launch} {E : En} {b L i cn sn : Nat} {xs : Nat → Int32} {Rf : Nat → Nat → Nat} (hg : Ok g l0 E cL_law RL 7 1400 601024 7293034) (hX : Sc g b L xs) (hbE : b ≤ E.1) (hL : L ≤ 3584) (hi : i + 7 ≤ L) (hcs : cn + 1 ≤ 601024 ∧ sn + 6 ≤ 7293034) {kq : Nat × Nat} (hRf : RfOk 1 239 kq Rf) (hkq : isKq kq) {M : Mm} {r : (Nat × Nat) × Mm} (h : st_key kq (xs (i + 1)) (xs (i + 2)) (xs (i + 3)) (xs (i + 4)) (xs (i + 5)) (xs (i + 6)) M = some r) (kk : ∀ Rf1 : Nat → Nat → Nat, RfOk 1 239 r.1 Rf1 → WG g E 7 239 Rf1 false (cn + 1) (sn + 6) 1303 (lvL E b i) [] r.2) : WG g E 7 239 Rf false cn sn 233 (lvL E b i) [] M := by
  unfold st_key at h
  obtain ⟨q, e1, h⟩ := Option.bind_eq_some_iff.mp h
  obtain ⟨r1, e2, h⟩ := Option.bind_eq_some_iff.mp h
  have hn : 239 ≤ 239 := Nat.le_refl _
  refine g_rload_n hg dL_law_233 rfl 2 rfl ?_
  refine g_arg hg hX hbE hL 1 rfl (by omega) 1 0 rfl rfl dL_law_234 dL_law_235 dL_law_237 dL_law_238 dL_law_239 ?_
  refine g_callVi (d := 1399) (As := [.int (xs (i + 1))]) (rest := []) hg (lkX11_key (by decide) hn hRf hkq e1) cvL_26 rfl ly1 (idb rfl rfl hn) rfl rfl (Nat.le_of_ble_eq_true rfl) ⟨by omega, by omega⟩ dL_law_240 ?_
  refine g_rload_n hg dL_law_243 rfl 3 rfl ?_
  refine g_arg hg hX hbE hL 1 rfl (by omega) 1 0 rfl rfl dL_law_244 dL_law_245 dL_law_247 dL_law_248 dL_law_249 ?_
  refine g_callVi (d := 1399) (As := [.int (xs (i + 1))]) (rest := [.int q.1.1]) hg (lkX12_key (by decide) (by decide) ((Rsw_ok (kq' := q.2) hRf).mono (by decide) (by decide)) e2) cvL_30 rfl ly194 (idb rfl rfl hn) rfl rfl (Nat.le_of_ble_eq_true rfl) ⟨by omega, by omega⟩ dL_law_250 ?_
  refine g_icmp_eq (tgt := 1303) hg dL_law_253 (by decide) (fun c0 => ?_) (fun c0 => ?_)
  · replace h := Option.some.inj (itT c0 h)
    subst h
    exact g_wide (Nat.le_succ _) (Nat.le_add_right _ _) (kk _ (Rsw_ok (kq' := q.2) hRf))
  · exact absurd (itF c0 h) (by simp)
theorem cvL_31 : CV RL 31 RX11 yX11_bore cX11_bore 6 (some .int) 3 := ⟨w4_75, w4_76, w4_77, w1_1, w4_78, by decide +kernel, by decide⟩
theorem cvL_35 : CV RL 35 RX12 yX12_bore cX12_bore 4 (some .int) 3 := ⟨w7_49, w7_50, w7_51, w1_18, w7_52, by decide +kernel, by decide⟩
def st_bore (kq : Nat × Nat) (a1 a2 a3 a4 a5 a6 : Int32) (M : Mm) : Option ((Nat × Nat) × Mm) := (sX11_bore kq a1 a2 a3 M).bind fun q => (sX12_bore a1 a2 a3 q.2).bind fun r => if q.1 = r.1 then some (kq, r.2) else none
theorem lc_bore {g : Gm} {l0 : Launch} {E : En} {b L i cn sn : Nat} {xs : Nat → Int32} {Rf : Nat → Nat → Nat} (hg : Ok g l0 E cL_law RL 7 1400 601024 7293034) (hX : Sc g b L xs) (hbE : b ≤ E.1) (hL : L ≤ 3584) (hi : i + 7 ≤ L) (hcs : cn + 1 ≤ 601024 ∧ sn + 6 ≤ 7293034) {kq : Nat × Nat} (hRf : RfOk 1 239 kq Rf) (hkq : isKq kq) {M : Mm} {r : (Nat × Nat) × Mm} (h : st_bore kq (xs (i + 1)) (xs (i + 2)) (xs (i + 3)) (xs (i + 4)) (xs (i + 5)) (xs (i + 6)) M = some r) (kk : ∀ Rf1 : Nat → Nat → Nat, RfOk 1 239 r.1 Rf1 → WG g E 7 239 Rf1 false (cn + 1) (sn + 6) 1303 (lvL E b i) [] r.2) : WG g E 7 239 Rf false cn sn 258 (lvL E b i) [] M := by
  unfold st_bore at h
  obtain ⟨q, e1, h⟩ := Option.bind_eq_some_iff.mp h
  obtain ⟨r1, e2, h⟩ := Option.bind_eq_some_iff.mp h
  have hn : 239 ≤ 239 := Nat.le_refl _
  refine g_rload_n hg dL_law_258 rfl 2 rfl ?_
  refine g_arg hg hX hbE hL 1 rfl (by omega) 1 0 rfl rfl dL_law_259 dL_law_260 dL_law_262 dL_law_263 dL_law_264 ?_
  refine g_arg hg hX hbE hL 2 rfl (by omega) 1 0 rfl rfl dL_law_265 dL_law_266 dL_law_268 dL_law_269 dL_law_270 ?_
  refine g_arg hg hX hbE hL 3 rfl (by omega) 1 0 rfl rfl dL_law_271 dL_law_272 dL_law_274 dL_law_275 dL_law_276 ?_
  refine g_callVi (d := 1399) (As := [.int (xs (i + 1)), .int (xs (i + 2)), .int (xs (i + 3))]) (rest := []) hg (lkX11_bore (by decide) hn hRf hkq e1) cvL_31 rfl ly1 (idb rfl rfl hn) rfl rfl (Nat.le_of_ble_eq_true rfl) ⟨by omega, by omega⟩ dL_law_277 ?_
  refine g_rload_n hg dL_law_280 rfl 3 rfl ?_
  refine g_arg hg hX hbE hL 1 rfl (by omega) 1 0 rfl rfl dL_law_281 dL_law_282 dL_law_284 dL_law_285 dL_law_286 ?_
  refine g_arg hg hX hbE hL 2 rfl (by omega) 1 0 rfl rfl dL_law_287 dL_law_288 dL_law_290 dL_law_291 dL_law_292 ?_
  refine g_arg hg hX hbE hL 3 rfl (by omega) 1 0 rfl rfl dL_law_293 dL_law_294 dL_law_296 dL_law_297 dL_law_298 ?_
  refine g_callVi (d := 1399) (As := [.int (xs (i + 1)), .int (xs (i + 2)), .int (xs (i + 3))]) (rest := [.int q.1]) hg (lkX12_bore (by decide) (by decide) (hRf.mono (by decide) (by decide)) e2) cvL_35 rfl ly194 (idb rfl rfl hn) rfl rfl (Nat.le_of_ble_eq_true rfl) ⟨by omega, by omega⟩ dL_law_299 ?_
  refine g_icmp_eq (tgt := 1303) hg dL_law_302 (by decide) (fun c0 => ?_) (fun c0 => ?_)
  · replace h := Option.some.inj (itT c0 h)
    subst h
    exact g_wide (Nat.le_succ _) (Nat.le_add_right _ _) (kk _ hRf)
  · exact absurd (itF c0 h) (by simp)
theorem cvL_36 : CV RL 36 RX11 yX11_fault cX11_fault 2 (some .int) 1 := ⟨w4_117, w4_118, w4_119, w1_1, w4_120, by decide +kernel, by decide⟩
theorem cvL_39 : CV RL 39 RX12 yX12_fault cX12_fault 2 (some .int) 1 := ⟨w7_105, w7_106, w7_107, w1_18, w7_108, by decide +kernel, by decide⟩
def st_fault (kq : Nat × Nat) (a1 a2 a3 a4 a5 a6 : Int32) (M : Mm) : Option ((Nat × Nat) × Mm) := (sX11_fault a1 M).bind fun q => (sX12_fault a1 q.2).bind fun r => if q.1 = r.1 then some (kq, r.2) else none
theorem lc_fault {g : Gm} {l0 : Launch} {E : En} {b L i cn sn : Nat} {xs : Nat → Int32} {Rf : Nat → Nat → Nat} (hg : Ok g l0 E cL_law RL 7 1400 601024 7293034) (hX : Sc g b L xs) (hbE : b ≤ E.1) (hL : L ≤ 3584) (hi : i + 7 ≤ L) (hcs : cn + 1 ≤ 601024 ∧ sn + 6 ≤ 7293034) {kq : Nat × Nat} (hRf : RfOk 1 239 kq Rf) (hkq : isKq kq) {M : Mm} {r : (Nat × Nat) × Mm} (h : st_fault kq (xs (i + 1)) (xs (i + 2)) (xs (i + 3)) (xs (i + 4)) (xs (i + 5)) (xs (i + 6)) M = some r) (kk : ∀ Rf1 : Nat → Nat → Nat, RfOk 1 239 r.1 Rf1 → WG g E 7 239 Rf1 false (cn + 1) (sn + 6) 1303 (lvL E b i) [] r.2) : WG g E 7 239 Rf false cn sn 307 (lvL E b i) [] M := by
  unfold st_fault at h
  obtain ⟨q, e1, h⟩ := Option.bind_eq_some_iff.mp h
  obtain ⟨r1, e2, h⟩ := Option.bind_eq_some_iff.mp h
  have hn : 239 ≤ 239 := Nat.le_refl _
  refine g_rload_n hg dL_law_307 rfl 2 rfl ?_
  refine g_arg hg hX hbE hL 1 rfl (by omega) 1 0 rfl rfl dL_law_308 dL_law_309 dL_law_311 dL_law_312 dL_law_313 ?_
  refine g_callVi (d := 1399) (As := [.int (xs (i + 1))]) (rest := []) hg (lkX11_fault (by decide) hn hRf e1) cvL_36 rfl ly1 (idb rfl rfl hn) rfl rfl (Nat.le_of_ble_eq_true rfl) ⟨by omega, by omega⟩ dL_law_314 ?_
  refine g_rload_n hg dL_law_317 rfl 3 rfl ?_
  refine g_arg hg hX hbE hL 1 rfl (by omega) 1 0 rfl rfl dL_law_318 dL_law_319 dL_law_321 dL_law_322 dL_law_323 ?_
  refine g_callVi (d := 1399) (As := [.int (xs (i + 1))]) (rest := [.int q.1]) hg (lkX12_fault (by decide) (by decide) (hRf.mono (by decide) (by decide)) e2) cvL_39 rfl ly194 (idb rfl rfl hn) rfl rfl (Nat.le_of_ble_eq_true rfl) ⟨by omega, by omega⟩ dL_law_324 ?_
  refine g_icmp_eq (tgt := 1303) hg dL_law_327 (by decide) (fun c0 => ?_) (fun c0 => ?_)
  · replace h := Option.some.inj (itT c0 h)
    subst h
    exact g_wide (Nat.le_succ _) (Nat.le_add_right _ _) (kk _ hRf)
  · exact absurd (itF c0 h) (by simp)
theorem cvL_40 : CV RL 40 RX11 yX11_strike cX11_strike 2 (some .int) 1 := ⟨w4_121, w4_122, w4_123, w1_1, w4_124, by decide +kernel, by decide⟩
theorem cvL_43 : CV RL 43 RX12 yX12_strike cX12_strike 2 (some .int) 1 := ⟨w7_109, w7_110, w7_111, w1_18, w7_112, by decide +kernel, by decide⟩
def st_strike (kq : Nat × Nat) (a1 a2 a3 a4 a5 a6 : Int32) (M : Mm) : Option ((Nat × Nat) × Mm) := (sX11_strike a1 M).bind fun q => (sX12_strike a1 q.2).bind fun r => if q.1 = r.1 then some (kq, r.2) else none
theorem lc_strike {g : Gm} {l0 : Launch} {E : En} {b L i cn sn : Nat} {xs : Nat → Int32} {Rf : Nat → Nat → Nat} (hg : Ok g l0 E cL_law RL 7 1400 601024 7293034) (hX : Sc g b L xs) (hbE : b ≤ E.1) (hL : L ≤ 3584) (hi : i + 7 ≤ L) (hcs : cn + 1 ≤ 601024 ∧ sn + 6 ≤ 7293034) {kq : Nat × Nat} (hRf : RfOk 1 239 kq Rf) (hkq : isKq kq) {M : Mm} {r : (Nat × Nat) × Mm} (h : st_strike kq (xs (i + 1)) (xs (i + 2)) (xs (i + 3)) (xs (i + 4)) (xs (i + 5)) (xs (i + 6)) M = some r) (kk : ∀ Rf1 : Nat → Nat → Nat, RfOk 1 239 r.1 Rf1 → WG g E 7 239 Rf1 false (cn + 1) (sn + 6) 1303 (lvL E b i) [] r.2) : WG g E 7 239 Rf false cn sn 332 (lvL E b i) [] M := by
  unfold st_strike at h
  obtain ⟨q, e1, h⟩ := Option.bind_eq_some_iff.mp h
  obtain ⟨r1, e2, h⟩ := Option.bind_eq_some_iff.mp h
  have hn : 239 ≤ 239 := Nat.le_refl _
  refine g_rload_n hg dL_law_332 rfl 2 rfl ?_
  refine g_arg hg hX hbE hL 1 rfl (by omega) 1 0 rfl rfl dL_law_333 dL_law_334 dL_law_336 dL_law_337 dL_law_338 ?_
  refine g_callVi (d := 1399) (As := [.int (xs (i + 1))]) (rest := []) hg (lkX11_strike (by decide) hn hRf e1) cvL_40 rfl ly1 (idb rfl rfl hn) rfl rfl (Nat.le_of_ble_eq_true rfl) ⟨by omega, by omega⟩ dL_law_339 ?_
  refine g_rload_n hg dL_law_342 rfl 3 rfl ?_
  refine g_arg hg hX hbE hL 1 rfl (by omega) 1 0 rfl rfl dL_law_343 dL_law_344 dL_law_346 dL_law_347 dL_law_348 ?_
  refine g_callVi (d := 1399) (As := [.int (xs (i + 1))]) (rest := [.int q.1]) hg (lkX12_strike (by decide) (by decide) (hRf.mono (by decide) (by decide)) e2) cvL_43 rfl ly194 (idb rfl rfl hn) rfl rfl (Nat.le_of_ble_eq_true rfl) ⟨by omega, by omega⟩ dL_law_349 ?_
  refine g_icmp_eq (tgt := 1303) hg dL_law_352 (by decide) (fun c0 => ?_) (fun c0 => ?_)
  · replace h := Option.some.inj (itT c0 h)
    subst h
    exact g_wide (Nat.le_succ _) (Nat.le_add_right _ _) (kk _ hRf)
  · exact absurd (itF c0 h) (by simp)
theorem cvL_44 : CV RL 44 RX11 yX11_land cX11_land 3 (some .boolean) 2 := ⟨w4_129, w4_130, w4_131, w1_1, w4_132, by decide +kernel, by decide⟩
theorem cvL_48 : CV RL 48 RX12 yX12_land cX12_land 3 (some .boolean) 2 := ⟨w7_29, w7_30, w7_31, w1_18, w7_32, by decide +kernel, by decide⟩
def st_land (kq : Nat × Nat) (a1 a2 a3 a4 a5 a6 : Int32) (M : Mm) : Option ((Nat × Nat) × Mm) := (sX11_land a1 a2 M).bind fun q => (sX12_land a1 a2 q.2).bind fun r => if q.1 = r.1 then some (kq, r.2) else none
theorem lc_land {g : Gm} {l0 : Launch} {E : En} {b L i cn sn : Nat} {xs : Nat → Int32} {Rf : Nat → Nat → Nat} (hg : Ok g l0 E cL_law RL 7 1400 601024 7293034) (hX : Sc g b L xs) (hbE : b ≤ E.1) (hL : L ≤ 3584) (hi : i + 7 ≤ L) (hcs : cn + 1 ≤ 601024 ∧ sn + 6 ≤ 7293034) {kq : Nat × Nat} (hRf : RfOk 1 239 kq Rf) (hkq : isKq kq) {M : Mm} {r : (Nat × Nat) × Mm} (h : st_land kq (xs (i + 1)) (xs (i + 2)) (xs (i + 3)) (xs (i + 4)) (xs (i + 5)) (xs (i + 6)) M = some r) (kk : ∀ Rf1 : Nat → Nat → Nat, RfOk 1 239 r.1 Rf1 → WG g E 7 239 Rf1 false (cn + 1) (sn + 6) 1303 (lvL E b i) [] r.2) : WG g E 7 239 Rf false cn sn 357 (lvL E b i) [] M := by
  unfold st_land at h
  obtain ⟨q, e1, h⟩ := Option.bind_eq_some_iff.mp h
  obtain ⟨r1, e2, h⟩ := Option.bind_eq_some_iff.mp h
  have hn : 239 ≤ 239 := Nat.le_refl _
  refine g_rload_n hg dL_law_357 rfl 2 rfl ?_
  refine g_arg hg hX hbE hL 1 rfl (by omega) 1 0 rfl rfl dL_law_358 dL_law_359 dL_law_361 dL_law_362 dL_law_363 ?_
  refine g_arg hg hX hbE hL 2 rfl (by omega) 1 0 rfl rfl dL_law_364 dL_law_365 dL_law_367 dL_law_368 dL_law_369 ?_
  refine g_callVi (d := 1399) (As := [.int (xs (i + 1)), .int (xs (i + 2))]) (rest := []) hg (lkX11_land (by decide) hn hRf e1) cvL_44 rfl ly1 (idb rfl rfl hn) rfl rfl (Nat.le_of_ble_eq_true rfl) ⟨by omega, by omega⟩ dL_law_370 ?_
  refine g_rload_n hg dL_law_373 rfl 3 rfl ?_
  refine g_arg hg hX hbE hL 1 rfl (by omega) 1 0 rfl rfl dL_law_374 dL_law_375 dL_law_377 dL_law_378 dL_law_379 ?_
  refine g_arg hg hX hbE hL 2 rfl (by omega) 1 0 rfl rfl dL_law_380 dL_law_381 dL_law_383 dL_law_384 dL_law_385 ?_
  refine g_callVi (d := 1399) (As := [.int (xs (i + 1)), .int (xs (i + 2))]) (rest := [.int q.1]) hg (lkX12_land (by decide) (by decide) (hRf.mono (by decide) (by decide)) e2) cvL_48 rfl ly194 (idb rfl rfl hn) rfl rfl (Nat.le_of_ble_eq_true rfl) ⟨by omega, by omega⟩ dL_law_386 ?_
  refine g_icmp_eq (tgt := 1303) hg dL_law_389 (by decide) (fun c0 => ?_) (fun c0 => ?_)
  · replace h := Option.some.inj (itT c0 h)
    subst h
    exact g_wide (Nat.le_succ _) (Nat.le_add_right _ _) (kk _ hRf)
  · exact absurd (itF c0 h) (by simp)
theorem cvL_49 : CV RL 49 RX11 yX11_ground cX11_ground 4 (some .boolean) 3 := ⟨w4_134, w4_135, w4_136, w1_1, w4_137, by decide +kernel, by decide⟩
theorem cvL_53 : CV RL 53 RX12 yX12_ground cX12_ground 4 (some .boolean) 3 := ⟨w7_33, w7_34, w7_35, w1_18, w7_36, by decide +kernel, by decide⟩
def st_ground (kq : Nat × Nat) (a1 a2 a3 a4 a5 a6 : Int32) (M : Mm) : Option ((Nat × Nat) × Mm) := (sX11_ground a1 a2 a3 M).bind fun q => (sX12_ground a1 a2 a3 q.2).bind fun r => if q.1 = r.1 then some (kq, r.2) else none
theorem lc_ground {g : Gm} {l0 : Launch} {E : En} {b L i cn sn : Nat} {xs : Nat → Int32} {Rf : Nat → Nat → Nat} (hg : Ok g l0 E cL_law RL 7 1400 601024 7293034) (hX : Sc g b L xs) (hbE : b ≤ E.1) (hL : L ≤ 3584) (hi : i + 7 ≤ L) (hcs : cn + 1 ≤ 601024 ∧ sn + 6 ≤ 7293034) {kq : Nat × Nat} (hRf : RfOk 1 239 kq Rf) (hkq : isKq kq) {M : Mm} {r : (Nat × Nat) × Mm} (h : st_ground kq (xs (i + 1)) (xs (i + 2)) (xs (i + 3)) (xs (i + 4)) (xs (i + 5)) (xs (i + 6)) M = some r) (kk : ∀ Rf1 : Nat → Nat → Nat, RfOk 1 239 r.1 Rf1 → WG g E 7 239 Rf1 false (cn + 1) (sn + 6) 1303 (lvL E b i) [] r.2) : WG g E 7 239 Rf false cn sn 394 (lvL E b i) [] M := by
  unfold st_ground at h
  obtain ⟨q, e1, h⟩ := Option.bind_eq_some_iff.mp h
  obtain ⟨r1, e2, h⟩ := Option.bind_eq_some_iff.mp h
  have hn : 239 ≤ 239 := Nat.le_refl _
  refine g_rload_n hg dL_law_394 rfl 2 rfl ?_
  refine g_arg hg hX hbE hL 1 rfl (by omega) 1 0 rfl rfl dL_law_395 dL_law_396 dL_law_398 dL_law_399 dL_law_400 ?_
  refine g_arg hg hX hbE hL 2 rfl (by omega) 1 0 rfl rfl dL_law_401 dL_law_402 dL_law_404 dL_law_405 dL_law_406 ?_
  refine g_arg hg hX hbE hL 3 rfl (by omega) 1 0 rfl rfl dL_law_407 dL_law_408 dL_law_410 dL_law_411 dL_law_412 ?_
  refine g_callVi (d := 1399) (As := [.int (xs (i + 1)), .int (xs (i + 2)), .int (xs (i + 3))]) (rest := []) hg (lkX11_ground (by decide) hn hRf e1) cvL_49 rfl ly1 (idb rfl rfl hn) rfl rfl (Nat.le_of_ble_eq_true rfl) ⟨by omega, by omega⟩ dL_law_413 ?_
  refine g_rload_n hg dL_law_416 rfl 3 rfl ?_
  refine g_arg hg hX hbE hL 1 rfl (by omega) 1 0 rfl rfl dL_law_417 dL_law_418 dL_law_420 dL_law_421 dL_law_422 ?_
  refine g_arg hg hX hbE hL 2 rfl (by omega) 1 0 rfl rfl dL_law_423 dL_law_424 dL_law_426 dL_law_427 dL_law_428 ?_
  refine g_arg hg hX hbE hL 3 rfl (by omega) 1 0 rfl rfl dL_law_429 dL_law_430 dL_law_432 dL_law_433 dL_law_434 ?_
  refine g_callVi (d := 1399) (As := [.int (xs (i + 1)), .int (xs (i + 2)), .int (xs (i + 3))]) (rest := [.int q.1]) hg (lkX12_ground (by decide) (by decide) (hRf.mono (by decide) (by decide)) e2) cvL_53 rfl ly194 (idb rfl rfl hn) rfl rfl (Nat.le_of_ble_eq_true rfl) ⟨by omega, by omega⟩ dL_law_435 ?_
  refine g_icmp_eq (tgt := 1303) hg dL_law_438 (by decide) (fun c0 => ?_) (fun c0 => ?_)
  · replace h := Option.some.inj (itT c0 h)
    subst h
    exact g_wide (Nat.le_succ _) (Nat.le_add_right _ _) (kk _ hRf)
  · exact absurd (itF c0 h) (by simp)
theorem cvL_54 : CV RL 54 RX11 yX11_bounds cX11_bounds 4 (some .boolean) 3 := ⟨w4_146, w4_147, w4_148, w1_1, w4_149, by decide +kernel, by decide⟩
theorem cvL_57 : CV RL 57 RX12 yX12_bounds cX12_bounds 4 (some .boolean) 3 := ⟨w7_41, w7_42, w7_43, w1_18, w7_44, by decide +kernel, by decide⟩
def st_bounds (kq : Nat × Nat) (a1 a2 a3 a4 a5 a6 : Int32) (M : Mm) : Option ((Nat × Nat) × Mm) := (sX11_bounds a1 a2 a3 M).bind fun q => (sX12_bounds a1 a2 a3 q.2).bind fun r => if q.1 = r.1 then some (kq, r.2) else none
theorem lc_bounds {g : Gm} {l0 : Launch} {E : En} {b L i cn sn : Nat} {xs : Nat → Int32} {Rf : Nat → Nat → Nat} (hg : Ok g l0 E cL_law RL 7 1400 601024 7293034) (hX : Sc g b L xs) (hbE : b ≤ E.1) (hL : L ≤ 3584) (hi : i + 7 ≤ L) (hcs : cn + 1 ≤ 601024 ∧ sn + 6 ≤ 7293034) {kq : Nat × Nat} (hRf : RfOk 1 239 kq Rf) (hkq : isKq kq) {M : Mm} {r : (Nat × Nat) × Mm} (h : st_bounds kq (xs (i + 1)) (xs (i + 2)) (xs (i + 3)) (xs (i + 4)) (xs (i + 5)) (xs (i + 6)) M = some r) (kk : ∀ Rf1 : Nat → Nat → Nat, RfOk 1 239 r.1 Rf1 → WG g E 7 239 Rf1 false (cn + 1) (sn + 6) 1303 (lvL E b i) [] r.2) : WG g E 7 239 Rf false cn sn 443 (lvL E b i) [] M := by
  unfold st_bounds at h
  obtain ⟨q, e1, h⟩ := Option.bind_eq_some_iff.mp h
  obtain ⟨r1, e2, h⟩ := Option.bind_eq_some_iff.mp h
  have hn : 239 ≤ 239 := Nat.le_refl _
  refine g_rload_n hg dL_law_443 rfl 2 rfl ?_
  refine g_arg hg hX hbE hL 1 rfl (by omega) 1 0 rfl rfl dL_law_444 dL_law_445 dL_law_447 dL_law_448 dL_law_449 ?_
  refine g_arg hg hX hbE hL 2 rfl (by omega) 1 0 rfl rfl dL_law_450 dL_law_451 dL_law_453 dL_law_454 dL_law_455 ?_
  refine g_arg hg hX hbE hL 3 rfl (by omega) 1 0 rfl rfl dL_law_456 dL_law_457 dL_law_459 dL_law_460 dL_law_461 ?_
  refine g_callVi (d := 1399) (As := [.int (xs (i + 1)), .int (xs (i + 2)), .int (xs (i + 3))]) (rest := []) hg (lkX11_bounds (by decide) hn hRf e1) cvL_54 rfl ly1 (idb rfl rfl hn) rfl rfl (Nat.le_of_ble_eq_true rfl) ⟨by omega, by omega⟩ dL_law_462 ?_
  refine g_rload_n hg dL_law_465 rfl 3 rfl ?_
  refine g_arg hg hX hbE hL 1 rfl (by omega) 1 0 rfl rfl dL_law_466 dL_law_467 dL_law_469 dL_law_470 dL_law_471 ?_
  refine g_arg hg hX hbE hL 2 rfl (by omega) 1 0 rfl rfl dL_law_472 dL_law_473 dL_law_475 dL_law_476 dL_law_477 ?_
  refine g_arg hg hX hbE hL 3 rfl (by omega) 1 0 rfl rfl dL_law_478 dL_law_479 dL_law_481 dL_law_482 dL_law_483 ?_
  refine g_callVi (d := 1399) (As := [.int (xs (i + 1)), .int (xs (i + 2)), .int (xs (i + 3))]) (rest := [.int q.1]) hg (lkX12_bounds (by decide) (by decide) (hRf.mono (by decide) (by decide)) e2) cvL_57 rfl ly194 (idb rfl rfl hn) rfl rfl (Nat.le_of_ble_eq_true rfl) ⟨by omega, by omega⟩ dL_law_484 ?_
  refine g_icmp_eq (tgt := 1303) hg dL_law_487 (by decide) (fun c0 => ?_) (fun c0 => ?_)
  · replace h := Option.some.inj (itT c0 h)
    subst h
    exact g_wide (Nat.le_succ _) (Nat.le_add_right _ _) (kk _ hRf)
  · exact absurd (itF c0 h) (by simp)
theorem cvL_58 : CV RL 58 RX11 yX11_price cX11_price 3 (some .boolean) 2 := ⟨w4_154, w4_155, w4_156, w1_1, w4_157, by decide +kernel, by decide⟩
theorem cvL_61 : CV RL 61 RX12 yX12_price cX12_price 3 (some .boolean) 2 := ⟨w7_45, w7_46, w7_47, w1_18, w7_48, by decide +kernel, by decide⟩
def st_price (kq : Nat × Nat) (a1 a2 a3 a4 a5 a6 : Int32) (M : Mm) : Option ((Nat × Nat) × Mm) := (sX11_price a1 a2 M).bind fun q => (sX12_price a1 a2 q.2).bind fun r => if q.1 = r.1 then some (kq, r.2) else none
theorem lc_price {g : Gm} {l0 : Launch} {E : En} {b L i cn sn : Nat} {xs : Nat → Int32} {Rf : Nat → Nat → Nat} (hg : Ok g l0 E cL_law RL 7 1400 601024 7293034) (hX : Sc g b L xs) (hbE : b ≤ E.1) (hL : L ≤ 3584) (hi : i + 7 ≤ L) (hcs : cn + 1 ≤ 601024 ∧ sn + 6 ≤ 7293034) {kq : Nat × Nat} (hRf : RfOk 1 239 kq Rf) (hkq : isKq kq) {M : Mm} {r : (Nat × Nat) × Mm} (h : st_price kq (xs (i + 1)) (xs (i + 2)) (xs (i + 3)) (xs (i + 4)) (xs (i + 5)) (xs (i + 6)) M = some r) (kk : ∀ Rf1 : Nat → Nat → Nat, RfOk 1 239 r.1 Rf1 → WG g E 7 239 Rf1 false (cn + 1) (sn + 6) 1303 (lvL E b i) [] r.2) : WG g E 7 239 Rf false cn sn 492 (lvL E b i) [] M := by
  unfold st_price at h
  obtain ⟨q, e1, h⟩ := Option.bind_eq_some_iff.mp h
  obtain ⟨r1, e2, h⟩ := Option.bind_eq_some_iff.mp h
  have hn : 239 ≤ 239 := Nat.le_refl _
  refine g_rload_n hg dL_law_492 rfl 2 rfl ?_
  refine g_arg hg hX hbE hL 1 rfl (by omega) 1 0 rfl rfl dL_law_493 dL_law_494 dL_law_496 dL_law_497 dL_law_498 ?_
  refine g_arg hg hX hbE hL 2 rfl (by omega) 1 0 rfl rfl dL_law_499 dL_law_500 dL_law_502 dL_law_503 dL_law_504 ?_
  refine g_callVi (d := 1399) (As := [.int (xs (i + 1)), .int (xs (i + 2))]) (rest := []) hg (lkX11_price (by decide) hn hRf e1) cvL_58 rfl ly1 (idb rfl rfl hn) rfl rfl (Nat.le_of_ble_eq_true rfl) ⟨by omega, by omega⟩ dL_law_505 ?_
  refine g_rload_n hg dL_law_508 rfl 3 rfl ?_
  refine g_arg hg hX hbE hL 1 rfl (by omega) 1 0 rfl rfl dL_law_509 dL_law_510 dL_law_512 dL_law_513 dL_law_514 ?_
  refine g_arg hg hX hbE hL 2 rfl (by omega) 1 0 rfl rfl dL_law_515 dL_law_516 dL_law_518 dL_law_519 dL_law_520 ?_
  refine g_callVi (d := 1399) (As := [.int (xs (i + 1)), .int (xs (i + 2))]) (rest := [.int q.1]) hg (lkX12_price (by decide) (by decide) (hRf.mono (by decide) (by decide)) e2) cvL_61 rfl ly194 (idb rfl rfl hn) rfl rfl (Nat.le_of_ble_eq_true rfl) ⟨by omega, by omega⟩ dL_law_521 ?_
  refine g_icmp_eq (tgt := 1303) hg dL_law_524 (by decide) (fun c0 => ?_) (fun c0 => ?_)
  · replace h := Option.some.inj (itT c0 h)
    subst h
    exact g_wide (Nat.le_succ _) (Nat.le_add_right _ _) (kk _ hRf)
  · exact absurd (itF c0 h) (by simp)
theorem cvL_62 : CV RL 62 RX11 yX11_reads cX11_reads 7 (some .boolean) 6 := ⟨w4_158, w4_159, w4_160, w1_1, w4_161, by decide +kernel, by decide⟩
theorem cvL_66 : CV RL 66 RX12 yX12_reads cX12_reads 10 (some .boolean) 6 := ⟨w8_6, w8_7, w8_8, w1_18, w8_9, by decide +kernel, by decide⟩
def st_reads (kq : Nat × Nat) (a1 a2 a3 a4 a5 a6 : Int32) (M : Mm) : Option ((Nat × Nat) × Mm) := (sX11_reads kq a1 a2 a3 a4 a5 a6 M).bind fun q => (sX12_reads a1 a2 a3 a4 a5 a6 q.2).bind fun r => if q.1 = r.1 then some (kq, r.2) else none
theorem lc_reads {g : Gm} {l0 : Launch} {E : En} {b L i cn sn : Nat} {xs : Nat → Int32} {Rf : Nat → Nat → Nat} (hg : Ok g l0 E cL_law RL 7 1400 601024 7293034) (hX : Sc g b L xs) (hbE : b ≤ E.1) (hL : L ≤ 3584) (hi : i + 7 ≤ L) (hcs : cn + 1 ≤ 601024 ∧ sn + 6 ≤ 7293034) {kq : Nat × Nat} (hRf : RfOk 1 239 kq Rf) (hkq : isKq kq) {M : Mm} {r : (Nat × Nat) × Mm} (h : st_reads kq (xs (i + 1)) (xs (i + 2)) (xs (i + 3)) (xs (i + 4)) (xs (i + 5)) (xs (i + 6)) M = some r) (kk : ∀ Rf1 : Nat → Nat → Nat, RfOk 1 239 r.1 Rf1 → WG g E 7 239 Rf1 false (cn + 1) (sn + 6) 1303 (lvL E b i) [] r.2) : WG g E 7 239 Rf false cn sn 529 (lvL E b i) [] M := by
  unfold st_reads at h
  obtain ⟨q, e1, h⟩ := Option.bind_eq_some_iff.mp h
  obtain ⟨r1, e2, h⟩ := Option.bind_eq_some_iff.mp h
  have hn : 239 ≤ 239 := Nat.le_refl _
  refine g_rload_n hg dL_law_529 rfl 2 rfl ?_
  refine g_arg hg hX hbE hL 1 rfl (by omega) 1 0 rfl rfl dL_law_530 dL_law_531 dL_law_533 dL_law_534 dL_law_535 ?_
  refine g_arg hg hX hbE hL 2 rfl (by omega) 1 0 rfl rfl dL_law_536 dL_law_537 dL_law_539 dL_law_540 dL_law_541 ?_
  refine g_arg hg hX hbE hL 3 rfl (by omega) 1 0 rfl rfl dL_law_542 dL_law_543 dL_law_545 dL_law_546 dL_law_547 ?_
  refine g_arg hg hX hbE hL 4 rfl (by omega) 1 0 rfl rfl dL_law_548 dL_law_549 dL_law_551 dL_law_552 dL_law_553 ?_
  refine g_arg hg hX hbE hL 5 rfl (by omega) 1 0 rfl rfl dL_law_554 dL_law_555 dL_law_557 dL_law_558 dL_law_559 ?_
  refine g_arg6 hg hX hbE hL 6 rfl (by omega) 1 0 rfl rfl dL_law_560 dL_law_561 dL_law_563 dL_law_565 dL_law_566 ?_
  refine g_callVi (d := 1399) (As := [.int (xs (i + 1)), .int (xs (i + 2)), .int (xs (i + 3)), .int (xs (i + 4)), .int (xs (i + 5)), .int (xs (i + 6))]) (rest := []) hg (lkX11_reads (by decide) hn hRf hkq e1) cvL_62 rfl ly1 (idb rfl rfl hn) rfl rfl (Nat.le_of_ble_eq_true rfl) ⟨by omega, by omega⟩ dL_law_567 ?_
  refine g_rload_n hg dL_law_570 rfl 3 rfl ?_
  refine g_arg hg hX hbE hL 1 rfl (by omega) 1 0 rfl rfl dL_law_571 dL_law_572 dL_law_574 dL_law_575 dL_law_576 ?_
  refine g_arg hg hX hbE hL 2 rfl (by omega) 1 0 rfl rfl dL_law_577 dL_law_578 dL_law_580 dL_law_581 dL_law_582 ?_
  refine g_arg hg hX hbE hL 3 rfl (by omega) 1 0 rfl rfl dL_law_583 dL_law_584 dL_law_586 dL_law_587 dL_law_588 ?_
  refine g_arg hg hX hbE hL 4 rfl (by omega) 1 0 rfl rfl dL_law_589 dL_law_590 dL_law_592 dL_law_593 dL_law_594 ?_
  refine g_arg hg hX hbE hL 5 rfl (by omega) 1 0 rfl rfl dL_law_595 dL_law_596 dL_law_598 dL_law_599 dL_law_600 ?_
  refine g_arg6 hg hX hbE hL 6 rfl (by omega) 1 0 rfl rfl dL_law_601 dL_law_602 dL_law_604 dL_law_606 dL_law_607 ?_
  refine g_callVi (d := 1399) (As := [.int (xs (i + 1)), .int (xs (i + 2)), .int (xs (i + 3)), .int (xs (i + 4)), .int (xs (i + 5)), .int (xs (i + 6))]) (rest := [.int q.1]) hg (lkX12_reads (by decide) (by decide) (hRf.mono (by decide) (by decide)) e2) cvL_66 rfl ly194 (idb rfl rfl hn) rfl rfl (Nat.le_of_ble_eq_true rfl) ⟨by omega, by omega⟩ dL_law_608 ?_
  refine g_icmp_eq (tgt := 1303) hg dL_law_611 (by decide) (fun c0 => ?_) (fun c0 => ?_)
  · replace h := Option.some.inj (itT c0 h)
    subst h
    exact g_wide (Nat.le_succ _) (Nat.le_add_right _ _) (kk _ hRf)
  · exact absurd (itF c0 h) (by simp)
theorem cvL_67 : CV RL 67 RX11 yX11_value cX11_value 3 (some .boolean) 2 := ⟨w4_174, w4_175, w4_176, w1_1, w4_177, by decide +kernel, by decide⟩
theorem cvL_70 : CV RL 70 RX12 yX12_value cX12_value 3 (some .boolean) 2 := ⟨w8_10, w8_11, w8_12, w1_18, w8_13, by decide +kernel, by decide⟩
def st_value (kq : Nat × Nat) (a1 a2 a3 a4 a5 a6 : Int32) (M : Mm) : Option ((Nat × Nat) × Mm) := (sX11_value kq a1 a2 M).bind fun q => (sX12_value a1 a2 q.2).bind fun r => if q.1 = r.1 then some (kq, r.2) else none
theorem lc_value {g : Gm} {l0 : Launch} {E : En} {b L i cn sn : Nat} {xs : Nat → Int32} {Rf : Nat → Nat → Nat} (hg : Ok g l0 E cL_law RL 7 1400 601024 7293034) (hX : Sc g b L xs) (hbE : b ≤ E.1) (hL : L ≤ 3584) (hi : i + 7 ≤ L) (hcs : cn + 1 ≤ 601024 ∧ sn + 6 ≤ 7293034) {kq : Nat × Nat} (hRf : RfOk 1 239 kq Rf) (hkq : isKq kq) {M : Mm} {r : (Nat × Nat) × Mm} (h : st_value kq (xs (i + 1)) (xs (i + 2)) (xs (i + 3)) (xs (i + 4)) (xs (i + 5)) (xs (i + 6)) M = some r) (kk : ∀ Rf1 : Nat → Nat → Nat, RfOk 1 239 r.1 Rf1 → WG g E 7 239 Rf1 false (cn + 1) (sn + 6) 1303 (lvL E b i) [] r.2) : WG g E 7 239 Rf false cn sn 616 (lvL E b i) [] M := by
  unfold st_value at h
  obtain ⟨q, e1, h⟩ := Option.bind_eq_some_iff.mp h
  obtain ⟨r1, e2, h⟩ := Option.bind_eq_some_iff.mp h
  have hn : 239 ≤ 239 := Nat.le_refl _
  refine g_rload_n hg dL_law_616 rfl 2 rfl ?_
  refine g_arg hg hX hbE hL 1 rfl (by omega) 1 0 rfl rfl dL_law_617 dL_law_618 dL_law_620 dL_law_621 dL_law_622 ?_
  refine g_arg hg hX hbE hL 2 rfl (by omega) 1 0 rfl rfl dL_law_623 dL_law_624 dL_law_626 dL_law_627 dL_law_628 ?_
  refine g_callVi (d := 1399) (As := [.int (xs (i + 1)), .int (xs (i + 2))]) (rest := []) hg (lkX11_value (by decide) hn hRf hkq e1) cvL_67 rfl ly1 (idb rfl rfl hn) rfl rfl (Nat.le_of_ble_eq_true rfl) ⟨by omega, by omega⟩ dL_law_629 ?_
  refine g_rload_n hg dL_law_632 rfl 3 rfl ?_
  refine g_arg hg hX hbE hL 1 rfl (by omega) 1 0 rfl rfl dL_law_633 dL_law_634 dL_law_636 dL_law_637 dL_law_638 ?_
  refine g_arg hg hX hbE hL 2 rfl (by omega) 1 0 rfl rfl dL_law_639 dL_law_640 dL_law_642 dL_law_643 dL_law_644 ?_
  refine g_callVi (d := 1399) (As := [.int (xs (i + 1)), .int (xs (i + 2))]) (rest := [.int q.1]) hg (lkX12_value (by decide) (by decide) (hRf.mono (by decide) (by decide)) e2) cvL_70 rfl ly194 (idb rfl rfl hn) rfl rfl (Nat.le_of_ble_eq_true rfl) ⟨by omega, by omega⟩ dL_law_645 ?_
  refine g_icmp_eq (tgt := 1303) hg dL_law_648 (by decide) (fun c0 => ?_) (fun c0 => ?_)
  · replace h := Option.some.inj (itT c0 h)
    subst h
    exact g_wide (Nat.le_succ _) (Nat.le_add_right _ _) (kk _ hRf)
  · exact absurd (itF c0 h) (by simp)
theorem cvL_71 : CV RL 71 RX11 yX11_layer cX11_layer 5 (some .int) 3 := ⟨w4_178, w4_179, w4_180, w1_1, w4_181, by decide +kernel, by decide⟩
theorem cvL_74 : CV RL 74 RX12 yX12_layer cX12_layer 4 (some .int) 3 := ⟨w7_113, w7_114, w7_115, w1_18, w7_116, by decide +kernel, by decide⟩
def st_layer (kq : Nat × Nat) (a1 a2 a3 a4 a5 a6 : Int32) (M : Mm) : Option ((Nat × Nat) × Mm) := (sX11_layer a1 a2 a3 M).bind fun q => (sX12_layer a1 a2 a3 q.2).bind fun r => if q.1 = r.1 then some (kq, r.2) else none
theorem lc_layer {g : Gm} {l0 : Launch} {E : En} {b L i cn sn : Nat} {xs : Nat → Int32} {Rf : Nat → Nat → Nat} (hg : Ok g l0 E cL_law RL 7 1400 601024 7293034) (hX : Sc g b L xs) (hbE : b ≤ E.1) (hL : L ≤ 3584) (hi : i + 7 ≤ L) (hcs : cn + 1 ≤ 601024 ∧ sn + 6 ≤ 7293034) {kq : Nat × Nat} (hRf : RfOk 1 239 kq Rf) (hkq : isKq kq) {M : Mm} {r : (Nat × Nat) × Mm} (h : st_layer kq (xs (i + 1)) (xs (i + 2)) (xs (i + 3)) (xs (i + 4)) (xs (i + 5)) (xs (i + 6)) M = some r) (kk : ∀ Rf1 : Nat → Nat → Nat, RfOk 1 239 r.1 Rf1 → WG g E 7 239 Rf1 false (cn + 1) (sn + 6) 1303 (lvL E b i) [] r.2) : WG g E 7 239 Rf false cn sn 653 (lvL E b i) [] M := by
  unfold st_layer at h
  obtain ⟨q, e1, h⟩ := Option.bind_eq_some_iff.mp h
  obtain ⟨r1, e2, h⟩ := Option.bind_eq_some_iff.mp h
  have hn : 239 ≤ 239 := Nat.le_refl _
  refine g_rload_n hg dL_law_653 rfl 2 rfl ?_
  refine g_arg hg hX hbE hL 1 rfl (by omega) 1 0 rfl rfl dL_law_654 dL_law_655 dL_law_657 dL_law_658 dL_law_659 ?_
  refine g_arg hg hX hbE hL 2 rfl (by omega) 1 0 rfl rfl dL_law_660 dL_law_661 dL_law_663 dL_law_664 dL_law_665 ?_
  refine g_arg hg hX hbE hL 3 rfl (by omega) 1 0 rfl rfl dL_law_666 dL_law_667 dL_law_669 dL_law_670 dL_law_671 ?_
  refine g_callVi (d := 1399) (As := [.int (xs (i + 1)), .int (xs (i + 2)), .int (xs (i + 3))]) (rest := []) hg (lkX11_layer (by decide) hn hRf e1) cvL_71 rfl ly1 (idb rfl rfl hn) rfl rfl (Nat.le_of_ble_eq_true rfl) ⟨by omega, by omega⟩ dL_law_672 ?_
  refine g_rload_n hg dL_law_675 rfl 3 rfl ?_
  refine g_arg hg hX hbE hL 1 rfl (by omega) 1 0 rfl rfl dL_law_676 dL_law_677 dL_law_679 dL_law_680 dL_law_681 ?_
  refine g_arg hg hX hbE hL 2 rfl (by omega) 1 0 rfl rfl dL_law_682 dL_law_683 dL_law_685 dL_law_686 dL_law_687 ?_
  refine g_arg hg hX hbE hL 3 rfl (by omega) 1 0 rfl rfl dL_law_688 dL_law_689 dL_law_691 dL_law_692 dL_law_693 ?_
  refine g_callVi (d := 1399) (As := [.int (xs (i + 1)), .int (xs (i + 2)), .int (xs (i + 3))]) (rest := [.int q.1]) hg (lkX12_layer (by decide) (by decide) (hRf.mono (by decide) (by decide)) e2) cvL_74 rfl ly194 (idb rfl rfl hn) rfl rfl (Nat.le_of_ble_eq_true rfl) ⟨by omega, by omega⟩ dL_law_694 ?_
  refine g_icmp_eq (tgt := 1303) hg dL_law_697 (by decide) (fun c0 => ?_) (fun c0 => ?_)
  · replace h := Option.some.inj (itT c0 h)
    subst h
    exact g_wide (Nat.le_succ _) (Nat.le_add_right _ _) (kk _ hRf)
  · exact absurd (itF c0 h) (by simp)
theorem cvL_75 : CV RL 75 RX11 yX11_told cX11_told 4 (some .int) 2 := ⟨w4_188, w4_189, w4_190, w1_1, w4_191, by decide +kernel, by decide⟩
theorem cvL_78 : CV RL 78 RX12 yX12_told cX12_told 3 (some .int) 2 := ⟨w7_184, w7_185, w7_186, w1_18, w7_187, by decide +kernel, by decide⟩
def st_told (kq : Nat × Nat) (a1 a2 a3 a4 a5 a6 : Int32) (M : Mm) : Option ((Nat × Nat) × Mm) := (sX11_told a1 a2 M).bind fun q => (sX12_told a1 a2 q.2).bind fun r => if q.1 = r.1 then some (kq, r.2) else none
theorem lc_told {g : Gm} {l0 : Launch} {E : En} {b L i cn sn : Nat} {xs : Nat → Int32} {Rf : Nat → Nat → Nat} (hg : Ok g l0 E cL_law RL 7 1400 601024 7293034) (hX : Sc g b L xs) (hbE : b ≤ E.1) (hL : L ≤ 3584) (hi : i + 7 ≤ L) (hcs : cn + 1 ≤ 601024 ∧ sn + 6 ≤ 7293034) {kq : Nat × Nat} (hRf : RfOk 1 239 kq Rf) (hkq : isKq kq) {M : Mm} {r : (Nat × Nat) × Mm} (h : st_told kq (xs (i + 1)) (xs (i + 2)) (xs (i + 3)) (xs (i + 4)) (xs (i + 5)) (xs (i + 6)) M = some r) (kk : ∀ Rf1 : Nat → Nat → Nat, RfOk 1 239 r.1 Rf1 → WG g E 7 239 Rf1 false (cn + 1) (sn + 6) 1303 (lvL E b i) [] r.2) : WG g E 7 239 Rf false cn sn 702 (lvL E b i) [] M := by
  unfold st_told at h
  obtain ⟨q, e1, h⟩ := Option.bind_eq_some_iff.mp h
  obtain ⟨r1, e2, h⟩ := Option.bind_eq_some_iff.mp h
  have hn : 239 ≤ 239 := Nat.le_refl _
  refine g_rload_n hg dL_law_702 rfl 2 rfl ?_
  refine g_arg hg hX hbE hL 1 rfl (by omega) 1 0 rfl rfl dL_law_703 dL_law_704 dL_law_706 dL_law_707 dL_law_708 ?_
  refine g_arg hg hX hbE hL 2 rfl (by omega) 1 0 rfl rfl dL_law_709 dL_law_710 dL_law_712 dL_law_713 dL_law_714 ?_
  refine g_callVi (d := 1399) (As := [.int (xs (i + 1)), .int (xs (i + 2))]) (rest := []) hg (lkX11_told (by decide) hn hRf e1) cvL_75 rfl ly1 (idb rfl rfl hn) rfl rfl (Nat.le_of_ble_eq_true rfl) ⟨by omega, by omega⟩ dL_law_715 ?_
  refine g_rload_n hg dL_law_718 rfl 3 rfl ?_
  refine g_arg hg hX hbE hL 1 rfl (by omega) 1 0 rfl rfl dL_law_719 dL_law_720 dL_law_722 dL_law_723 dL_law_724 ?_
  refine g_arg hg hX hbE hL 2 rfl (by omega) 1 0 rfl rfl dL_law_725 dL_law_726 dL_law_728 dL_law_729 dL_law_730 ?_
  refine g_callVi (d := 1399) (As := [.int (xs (i + 1)), .int (xs (i + 2))]) (rest := [.int q.1]) hg (lkX12_told (by decide) (by decide) (hRf.mono (by decide) (by decide)) e2) cvL_78 rfl ly194 (idb rfl rfl hn) rfl rfl (Nat.le_of_ble_eq_true rfl) ⟨by omega, by omega⟩ dL_law_731 ?_
  refine g_icmp_eq (tgt := 1303) hg dL_law_734 (by decide) (fun c0 => ?_) (fun c0 => ?_)
  · replace h := Option.some.inj (itT c0 h)
    subst h
    exact g_wide (Nat.le_succ _) (Nat.le_add_right _ _) (kk _ hRf)
  · exact absurd (itF c0 h) (by simp)
theorem cvL_89 : CV RL 89 RX11 yX11_like cX11_like 3 (some .int) 2 := ⟨w4_192, w4_193, w4_194, w1_1, w4_195, by decide +kernel, by decide⟩
theorem cvL_92 : CV RL 92 RX12 yX12_like cX12_like 3 (some .int) 2 := ⟨w7_234, w7_235, w7_236, w1_18, w7_237, by decide +kernel, by decide⟩
def st_like (kq : Nat × Nat) (a1 a2 a3 a4 a5 a6 : Int32) (M : Mm) : Option ((Nat × Nat) × Mm) := (sX11_like a1 a2 M).bind fun q => (sX12_like a1 a2 q.2).bind fun r => if q.1 = r.1 then some (kq, r.2) else none
theorem lc_like {g : Gm} {l0 : Launch} {E : En} {b L i cn sn : Nat} {xs : Nat → Int32} {Rf : Nat → Nat → Nat} (hg : Ok g l0 E cL_law RL 7 1400 601024 7293034) (hX : Sc g b L xs) (hbE : b ≤ E.1) (hL : L ≤ 3584) (hi : i + 7 ≤ L) (hcs : cn + 1 ≤ 601024 ∧ sn + 6 ≤ 7293034) {kq : Nat × Nat} (hRf : RfOk 1 239 kq Rf) (hkq : isKq kq) {M : Mm} {r : (Nat × Nat) × Mm} (h : st_like kq (xs (i + 1)) (xs (i + 2)) (xs (i + 3)) (xs (i + 4)) (xs (i + 5)) (xs (i + 6)) M = some r) (kk : ∀ Rf1 : Nat → Nat → Nat, RfOk 1 239 r.1 Rf1 → WG g E 7 239 Rf1 false (cn + 1) (sn + 6) 1303 (lvL E b i) [] r.2) : WG g E 7 239 Rf false cn sn 807 (lvL E b i) [] M := by
  unfold st_like at h
  obtain ⟨q, e1, h⟩ := Option.bind_eq_some_iff.mp h
  obtain ⟨r1, e2, h⟩ := Option.bind_eq_some_iff.mp h
  have hn : 239 ≤ 239 := Nat.le_refl _
  refine g_rload_n hg dL_law_807 rfl 2 rfl ?_
  refine g_arg hg hX hbE hL 1 rfl (by omega) 1 0 rfl rfl dL_law_808 dL_law_809 dL_law_811 dL_law_812 dL_law_813 ?_
  refine g_arg hg hX hbE hL 2 rfl (by omega) 1 0 rfl rfl dL_law_814 dL_law_815 dL_law_817 dL_law_818 dL_law_819 ?_
  refine g_callVi (d := 1399) (As := [.int (xs (i + 1)), .int (xs (i + 2))]) (rest := []) hg (lkX11_like (by decide) hn hRf e1) cvL_89 rfl ly1 (idb rfl rfl hn) rfl rfl (Nat.le_of_ble_eq_true rfl) ⟨by omega, by omega⟩ dL_law_820 ?_
  refine g_rload_n hg dL_law_823 rfl 3 rfl ?_
  refine g_arg hg hX hbE hL 1 rfl (by omega) 1 0 rfl rfl dL_law_824 dL_law_825 dL_law_827 dL_law_828 dL_law_829 ?_
  refine g_arg hg hX hbE hL 2 rfl (by omega) 1 0 rfl rfl dL_law_830 dL_law_831 dL_law_833 dL_law_834 dL_law_835 ?_
  refine g_callVi (d := 1399) (As := [.int (xs (i + 1)), .int (xs (i + 2))]) (rest := [.int q.1]) hg (lkX12_like (by decide) (by decide) (hRf.mono (by decide) (by decide)) e2) cvL_92 rfl ly194 (idb rfl rfl hn) rfl rfl (Nat.le_of_ble_eq_true rfl) ⟨by omega, by omega⟩ dL_law_836 ?_
  refine g_icmp_eq (tgt := 1303) hg dL_law_839 (by decide) (fun c0 => ?_) (fun c0 => ?_)
  · replace h := Option.some.inj (itT c0 h)
    subst h
    exact g_wide (Nat.le_succ _) (Nat.le_add_right _ _) (kk _ hRf)
  · exact absurd (itF c0 h) (by simp)
theorem cvL_93 : CV RL 93 RX11 yX11_chance cX11_chance 6 (some .int) 4 := ⟨w4_204, w4_205, w4_206, w1_1, w4_207, by decide +kernel, by decide⟩
theorem cvL_97 : CV RL 97 RX12 yX12_chance cX12_chance 5 (some .int) 4 := ⟨w8_14, w8_15, w8_16, w1_18, w8_17, by decide +kernel, by decide⟩
def st_chance (kq : Nat × Nat) (a1 a2 a3 a4 a5 a6 : Int32) (M : Mm) : Option ((Nat × Nat) × Mm) := (sX11_chance kq a1 a2 a3 a4 M).bind fun q => (sX12_chance a1 a2 a3 a4 q.2).bind fun r => if q.1 = r.1 then some (kq, r.2) else none
theorem lc_chance {g : Gm} {l0 : Launch} {E : En} {b L i cn sn : Nat} {xs : Nat → Int32} {Rf : Nat → Nat → Nat} (hg : Ok g l0 E cL_law RL 7 1400 601024 7293034) (hX : Sc g b L xs) (hbE : b ≤ E.1) (hL : L ≤ 3584) (hi : i + 7 ≤ L) (hcs : cn + 1 ≤ 601024 ∧ sn + 6 ≤ 7293034) {kq : Nat × Nat} (hRf : RfOk 1 239 kq Rf) (hkq : isKq kq) {M : Mm} {r : (Nat × Nat) × Mm} (h : st_chance kq (xs (i + 1)) (xs (i + 2)) (xs (i + 3)) (xs (i + 4)) (xs (i + 5)) (xs (i + 6)) M = some r) (kk : ∀ Rf1 : Nat → Nat → Nat, RfOk 1 239 r.1 Rf1 → WG g E 7 239 Rf1 false (cn + 1) (sn + 6) 1303 (lvL E b i) [] r.2) : WG g E 7 239 Rf false cn sn 844 (lvL E b i) [] M := by
  unfold st_chance at h
  obtain ⟨q, e1, h⟩ := Option.bind_eq_some_iff.mp h
  obtain ⟨r1, e2, h⟩ := Option.bind_eq_some_iff.mp h
  have hn : 239 ≤ 239 := Nat.le_refl _
  refine g_rload_n hg dL_law_844 rfl 2 rfl ?_
  refine g_arg hg hX hbE hL 1 rfl (by omega) 1 0 rfl rfl dL_law_845 dL_law_846 dL_law_848 dL_law_849 dL_law_850 ?_
  refine g_arg hg hX hbE hL 2 rfl (by omega) 1 0 rfl rfl dL_law_851 dL_law_852 dL_law_854 dL_law_855 dL_law_856 ?_
  refine g_arg hg hX hbE hL 3 rfl (by omega) 1 0 rfl rfl dL_law_857 dL_law_858 dL_law_860 dL_law_861 dL_law_862 ?_
  refine g_arg hg hX hbE hL 4 rfl (by omega) 1 0 rfl rfl dL_law_863 dL_law_864 dL_law_866 dL_law_867 dL_law_868 ?_
  refine g_callVi (d := 1399) (As := [.int (xs (i + 1)), .int (xs (i + 2)), .int (xs (i + 3)), .int (xs (i + 4))]) (rest := []) hg (lkX11_chance (by decide) hn hRf hkq e1) cvL_93 rfl ly1 (idb rfl rfl hn) rfl rfl (Nat.le_of_ble_eq_true rfl) ⟨by omega, by omega⟩ dL_law_869 ?_
  refine g_rload_n hg dL_law_872 rfl 3 rfl ?_
  refine g_arg hg hX hbE hL 1 rfl (by omega) 1 0 rfl rfl dL_law_873 dL_law_874 dL_law_876 dL_law_877 dL_law_878 ?_
  refine g_arg hg hX hbE hL 2 rfl (by omega) 1 0 rfl rfl dL_law_879 dL_law_880 dL_law_882 dL_law_883 dL_law_884 ?_
  refine g_arg hg hX hbE hL 3 rfl (by omega) 1 0 rfl rfl dL_law_885 dL_law_886 dL_law_888 dL_law_889 dL_law_890 ?_
  refine g_arg hg hX hbE hL 4 rfl (by omega) 1 0 rfl rfl dL_law_891 dL_law_892 dL_law_894 dL_law_895 dL_law_896 ?_
  refine g_callVi (d := 1399) (As := [.int (xs (i + 1)), .int (xs (i + 2)), .int (xs (i + 3)), .int (xs (i + 4))]) (rest := [.int q.1]) hg (lkX12_chance (by decide) (by decide) (hRf.mono (by decide) (by decide)) e2) cvL_97 rfl ly194 (idb rfl rfl hn) rfl rfl (Nat.le_of_ble_eq_true rfl) ⟨by omega, by omega⟩ dL_law_897 ?_
  refine g_icmp_eq (tgt := 1303) hg dL_law_900 (by decide) (fun c0 => ?_) (fun c0 => ?_)
  · replace h := Option.some.inj (itT c0 h)
    subst h
    exact g_wide (Nat.le_succ _) (Nat.le_add_right _ _) (kk _ hRf)
  · exact absurd (itF c0 h) (by simp)
theorem cvL_98 : CV RL 98 RX11 yX11_leftOut cX11_leftOut 3 (some .int) 2 := ⟨w4_239, w5_0, w5_1, w1_1, w5_2, by decide +kernel, by decide⟩
theorem cvL_101 : CV RL 101 RX12 yX12_leftOut cX12_leftOut 7 (some .int) 2 := ⟨w8_38, w8_39, w8_40, w1_18, w8_41, by decide +kernel, by decide⟩
def st_leftOut (kq : Nat × Nat) (a1 a2 a3 a4 a5 a6 : Int32) (M : Mm) : Option ((Nat × Nat) × Mm) := (sX11_leftOut a1 a2 M).bind fun q => (sX12_leftOut a1 a2 q.2).bind fun r => if q.1 = r.1 then some (kq, r.2) else none
theorem lc_leftOut {g : Gm} {l0 : Launch} {E : En} {b L i cn sn : Nat} {xs : Nat → Int32} {Rf : Nat → Nat → Nat} (hg : Ok g l0 E cL_law RL 7 1400 601024 7293034) (hX : Sc g b L xs) (hbE : b ≤ E.1) (hL : L ≤ 3584) (hi : i + 7 ≤ L) (hcs : cn + 1 ≤ 601024 ∧ sn + 6 ≤ 7293034) {kq : Nat × Nat} (hRf : RfOk 1 239 kq Rf) (hkq : isKq kq) {M : Mm} {r : (Nat × Nat) × Mm} (h : st_leftOut kq (xs (i + 1)) (xs (i + 2)) (xs (i + 3)) (xs (i + 4)) (xs (i + 5)) (xs (i + 6)) M = some r) (kk : ∀ Rf1 : Nat → Nat → Nat, RfOk 1 239 r.1 Rf1 → WG g E 7 239 Rf1 false (cn + 1) (sn + 6) 1303 (lvL E b i) [] r.2) : WG g E 7 239 Rf false cn sn 905 (lvL E b i) [] M := by
  unfold st_leftOut at h
  obtain ⟨q, e1, h⟩ := Option.bind_eq_some_iff.mp h
  obtain ⟨r1, e2, h⟩ := Option.bind_eq_some_iff.mp h
  have hn : 239 ≤ 239 := Nat.le_refl _
  refine g_rload_n hg dL_law_905 rfl 2 rfl ?_
  refine g_arg hg hX hbE hL 1 rfl (by omega) 1 0 rfl rfl dL_law_906 dL_law_907 dL_law_909 dL_law_910 dL_law_911 ?_
  refine g_arg hg hX hbE hL 2 rfl (by omega) 1 0 rfl rfl dL_law_912 dL_law_913 dL_law_915 dL_law_916 dL_law_917 ?_
  refine g_callVi (d := 1399) (As := [.int (xs (i + 1)), .int (xs (i + 2))]) (rest := []) hg (lkX11_leftOut (by decide) hn hRf e1) cvL_98 rfl ly1 (idb rfl rfl hn) rfl rfl (Nat.le_of_ble_eq_true rfl) ⟨by omega, by omega⟩ dL_law_918 ?_
  refine g_rload_n hg dL_law_921 rfl 3 rfl ?_
  refine g_arg hg hX hbE hL 1 rfl (by omega) 1 0 rfl rfl dL_law_922 dL_law_923 dL_law_925 dL_law_926 dL_law_927 ?_
  refine g_arg hg hX hbE hL 2 rfl (by omega) 1 0 rfl rfl dL_law_928 dL_law_929 dL_law_931 dL_law_932 dL_law_933 ?_
  refine g_callVi (d := 1399) (As := [.int (xs (i + 1)), .int (xs (i + 2))]) (rest := [.int q.1]) hg (lkX12_leftOut (by decide) (by decide) (hRf.mono (by decide) (by decide)) e2) cvL_101 rfl ly194 (idb rfl rfl hn) rfl rfl (Nat.le_of_ble_eq_true rfl) ⟨by omega, by omega⟩ dL_law_934 ?_
  refine g_icmp_eq (tgt := 1303) hg dL_law_937 (by decide) (fun c0 => ?_) (fun c0 => ?_)
  · replace h := Option.some.inj (itT c0 h)
    subst h
    exact g_wide (Nat.le_succ _) (Nat.le_add_right _ _) (kk _ hRf)
  · exact absurd (itF c0 h) (by simp)
theorem cvL_102 : CV RL 102 RX11 yX11_draw cX11_draw 5 (some .int) 3 := ⟨w5_11, w5_12, w5_13, w1_1, w5_14, by decide +kernel, by decide⟩
theorem cvL_106 : CV RL 106 RX12 yX12_draw cX12_draw 10 (some .int) 3 := ⟨w8_42, w8_43, w8_44, w1_18, w8_45, by decide +kernel, by decide⟩
def st_draw (kq : Nat × Nat) (a1 a2 a3 a4 a5 a6 : Int32) (M : Mm) : Option ((Nat × Nat) × Mm) := (sX11_draw kq a1 (if a2 = 0 then 0 else 1) a3 M).bind fun q => (sX12_draw a1 (if a2 = 0 then 0 else 1) a3 q.2).bind fun r => if q.1 = r.1 then some (kq, r.2) else none
theorem lc_draw {g : Gm} {l0 : Launch} {E : En} {b L i cn sn : Nat} {xs : Nat → Int32} {Rf : Nat → Nat → Nat} (hg : Ok g l0 E cL_law RL 7 1400 601024 7293034) (hX : Sc g b L xs) (hbE : b ≤ E.1) (hL : L ≤ 3584) (hi : i + 7 ≤ L) (hcs : cn + 1 ≤ 601024 ∧ sn + 6 ≤ 7293034) {kq : Nat × Nat} (hRf : RfOk 1 239 kq Rf) (hkq : isKq kq) {M : Mm} {r : (Nat × Nat) × Mm} (h : st_draw kq (xs (i + 1)) (xs (i + 2)) (xs (i + 3)) (xs (i + 4)) (xs (i + 5)) (xs (i + 6)) M = some r) (kk : ∀ Rf1 : Nat → Nat → Nat, RfOk 1 239 r.1 Rf1 → WG g E 7 239 Rf1 false (cn + 1) (sn + 6) 1303 (lvL E b i) [] r.2) : WG g E 7 239 Rf false cn sn 942 (lvL E b i) [] M := by
  unfold st_draw at h
  obtain ⟨q, e1, h⟩ := Option.bind_eq_some_iff.mp h
  obtain ⟨r1, e2, h⟩ := Option.bind_eq_some_iff.mp h
  have hn : 239 ≤ 239 := Nat.le_refl _
  refine g_rload_n hg dL_law_942 rfl 2 rfl ?_
  refine g_arg hg hX hbE hL 1 rfl (by omega) 1 0 rfl rfl dL_law_943 dL_law_944 dL_law_946 dL_law_947 dL_law_948 ?_
  refine g_arg hg hX hbE hL 2 rfl (by omega) 1 0 rfl rfl dL_law_949 dL_law_950 dL_law_952 dL_law_953 dL_law_954 ?_
  refine g_nz01 hg dL_law_955 (by decide) dL_law_958 dL_law_959 (by decide) dL_law_962 ?_
  refine g_arg hg hX hbE hL 3 rfl (by omega) 1 0 rfl rfl dL_law_963 dL_law_964 dL_law_966 dL_law_967 dL_law_968 ?_
  refine g_callVi (d := 1399) (As := [.int (xs (i + 1)), .int (if xs (i + 2) = 0 then 0 else 1), .int (xs (i + 3))]) (rest := []) hg (lkX11_draw (by decide) hn hRf hkq e1) cvL_102 rfl ly1 (idb rfl rfl hn) rfl rfl (Nat.le_of_ble_eq_true rfl) ⟨by omega, by omega⟩ dL_law_969 ?_
  refine g_rload_n hg dL_law_972 rfl 3 rfl ?_
  refine g_arg hg hX hbE hL 1 rfl (by omega) 1 0 rfl rfl dL_law_973 dL_law_974 dL_law_976 dL_law_977 dL_law_978 ?_
  refine g_arg hg hX hbE hL 2 rfl (by omega) 1 0 rfl rfl dL_law_979 dL_law_980 dL_law_982 dL_law_983 dL_law_984 ?_
  refine g_nz01 hg dL_law_985 (by decide) dL_law_988 dL_law_989 (by decide) dL_law_992 ?_
  refine g_arg hg hX hbE hL 3 rfl (by omega) 1 0 rfl rfl dL_law_993 dL_law_994 dL_law_996 dL_law_997 dL_law_998 ?_
  refine g_callVi (d := 1399) (As := [.int (xs (i + 1)), .int (if xs (i + 2) = 0 then 0 else 1), .int (xs (i + 3))]) (rest := [.int q.1]) hg (lkX12_draw (by decide) (by decide) (hRf.mono (by decide) (by decide)) e2) cvL_106 rfl ly194 (idb rfl rfl hn) rfl rfl (Nat.le_of_ble_eq_true rfl) ⟨by omega, by omega⟩ dL_law_999 ?_
  refine g_icmp_eq (tgt := 1303) hg dL_law_1002 (by decide) (fun c0 => ?_) (fun c0 => ?_)
  · replace h := Option.some.inj (itT c0 h)
    subst h
    exact g_wide (Nat.le_succ _) (Nat.le_add_right _ _) (kk _ hRf)
  · exact absurd (itF c0 h) (by simp)
theorem cvL_107 : CV RL 107 RX11 yX11_drawn cX11_drawn 2 (some .int) 1 := ⟨w5_34, w5_35, w5_36, w1_1, w5_37, by decide +kernel, by decide⟩
theorem cvL_110 : CV RL 110 RX12 yX12_drawn cX12_drawn 2 (some .int) 1 := ⟨w8_54, w8_55, w8_56, w1_18, w8_57, by decide +kernel, by decide⟩
def st_drawn (kq : Nat × Nat) (a1 a2 a3 a4 a5 a6 : Int32) (M : Mm) : Option ((Nat × Nat) × Mm) := (sX11_drawn a1 M).bind fun q => (sX12_drawn a1 q.2).bind fun r => if q.1 = r.1 then some (kq, r.2) else none
theorem lc_drawn {g : Gm} {l0 : Launch} {E : En} {b L i cn sn : Nat} {xs : Nat → Int32} {Rf : Nat → Nat → Nat} (hg : Ok g l0 E cL_law RL 7 1400 601024 7293034) (hX : Sc g b L xs) (hbE : b ≤ E.1) (hL : L ≤ 3584) (hi : i + 7 ≤ L) (hcs : cn + 1 ≤ 601024 ∧ sn + 6 ≤ 7293034) {kq : Nat × Nat} (hRf : RfOk 1 239 kq Rf) (hkq : isKq kq) {M : Mm} {r : (Nat × Nat) × Mm} (h : st_drawn kq (xs (i + 1)) (xs (i + 2)) (xs (i + 3)) (xs (i + 4)) (xs (i + 5)) (xs (i + 6)) M = some r) (kk : ∀ Rf1 : Nat → Nat → Nat, RfOk 1 239 r.1 Rf1 → WG g E 7 239 Rf1 false (cn + 1) (sn + 6) 1303 (lvL E b i) [] r.2) : WG g E 7 239 Rf false cn sn 1007 (lvL E b i) [] M := by
  unfold st_drawn at h
  obtain ⟨q, e1, h⟩ := Option.bind_eq_some_iff.mp h
  obtain ⟨r1, e2, h⟩ := Option.bind_eq_some_iff.mp h
  have hn : 239 ≤ 239 := Nat.le_refl _
  refine g_rload_n hg dL_law_1007 rfl 2 rfl ?_
  refine g_arg hg hX hbE hL 1 rfl (by omega) 1 0 rfl rfl dL_law_1008 dL_law_1009 dL_law_1011 dL_law_1012 dL_law_1013 ?_
  refine g_callVi (d := 1399) (As := [.int (xs (i + 1))]) (rest := []) hg (lkX11_drawn (by decide) hn hRf e1) cvL_107 rfl ly1 (idb rfl rfl hn) rfl rfl (Nat.le_of_ble_eq_true rfl) ⟨by omega, by omega⟩ dL_law_1014 ?_
  refine g_rload_n hg dL_law_1017 rfl 3 rfl ?_
  refine g_arg hg hX hbE hL 1 rfl (by omega) 1 0 rfl rfl dL_law_1018 dL_law_1019 dL_law_1021 dL_law_1022 dL_law_1023 ?_
  refine g_callVi (d := 1399) (As := [.int (xs (i + 1))]) (rest := [.int q.1]) hg (lkX12_drawn (by decide) (by decide) (hRf.mono (by decide) (by decide)) e2) cvL_110 rfl ly194 (idb rfl rfl hn) rfl rfl (Nat.le_of_ble_eq_true rfl) ⟨by omega, by omega⟩ dL_law_1024 ?_
  refine g_icmp_eq (tgt := 1303) hg dL_law_1027 (by decide) (fun c0 => ?_) (fun c0 => ?_)
  · replace h := Option.some.inj (itT c0 h)
    subst h
    exact g_wide (Nat.le_succ _) (Nat.le_add_right _ _) (kk _ hRf)
  · exact absurd (itF c0 h) (by simp)
theorem cvL_111 : CV RL 111 RX11 yX11_plan cX11_plan 5 (some .int) 3 := ⟨w5_38, w5_39, w5_40, w1_1, w5_41, by decide +kernel, by decide⟩
theorem cvL_114 : CV RL 114 RX12 yX12_plan cX12_plan 10 (some .int) 3 := ⟨w8_58, w8_59, w8_60, w1_18, w8_61, by decide +kernel, by decide⟩
def st_plan (kq : Nat × Nat) (a1 a2 a3 a4 a5 a6 : Int32) (M : Mm) : Option ((Nat × Nat) × Mm) := (sX11_plan kq a1 a2 a3 M).bind fun q => (sX12_plan a1 a2 a3 q.2).bind fun r => if q.1 = r.1 then some (kq, r.2) else none
theorem lc_plan {g : Gm} {l0 : Launch} {E : En} {b L i cn sn : Nat} {xs : Nat → Int32} {Rf : Nat → Nat → Nat} (hg : Ok g l0 E cL_law RL 7 1400 601024 7293034) (hX : Sc g b L xs) (hbE : b ≤ E.1) (hL : L ≤ 3584) (hi : i + 7 ≤ L) (hcs : cn + 1 ≤ 601024 ∧ sn + 6 ≤ 7293034) {kq : Nat × Nat} (hRf : RfOk 1 239 kq Rf) (hkq : isKq kq) {M : Mm} {r : (Nat × Nat) × Mm} (h : st_plan kq (xs (i + 1)) (xs (i + 2)) (xs (i + 3)) (xs (i + 4)) (xs (i + 5)) (xs (i + 6)) M = some r) (kk : ∀ Rf1 : Nat → Nat → Nat, RfOk 1 239 r.1 Rf1 → WG g E 7 239 Rf1 false (cn + 1) (sn + 6) 1303 (lvL E b i) [] r.2) : WG g E 7 239 Rf false cn sn 1032 (lvL E b i) [] M := by
  unfold st_plan at h
  obtain ⟨q, e1, h⟩ := Option.bind_eq_some_iff.mp h
  obtain ⟨r1, e2, h⟩ := Option.bind_eq_some_iff.mp h
  have hn : 239 ≤ 239 := Nat.le_refl _
  refine g_rload_n hg dL_law_1032 rfl 2 rfl ?_
  refine g_arg hg hX hbE hL 1 rfl (by omega) 1 0 rfl rfl dL_law_1033 dL_law_1034 dL_law_1036 dL_law_1037 dL_law_1038 ?_
  refine g_arg hg hX hbE hL 2 rfl (by omega) 1 0 rfl rfl dL_law_1039 dL_law_1040 dL_law_1042 dL_law_1043 dL_law_1044 ?_
  refine g_arg hg hX hbE hL 3 rfl (by omega) 1 0 rfl rfl dL_law_1045 dL_law_1046 dL_law_1048 dL_law_1049 dL_law_1050 ?_
  refine g_callVi (d := 1399) (As := [.int (xs (i + 1)), .int (xs (i + 2)), .int (xs (i + 3))]) (rest := []) hg (lkX11_plan (by decide) hn hRf hkq e1) cvL_111 rfl ly1 (idb rfl rfl hn) rfl rfl (Nat.le_of_ble_eq_true rfl) ⟨by omega, by omega⟩ dL_law_1051 ?_
  refine g_rload_n hg dL_law_1054 rfl 3 rfl ?_
  refine g_arg hg hX hbE hL 1 rfl (by omega) 1 0 rfl rfl dL_law_1055 dL_law_1056 dL_law_1058 dL_law_1059 dL_law_1060 ?_
  refine g_arg hg hX hbE hL 2 rfl (by omega) 1 0 rfl rfl dL_law_1061 dL_law_1062 dL_law_1064 dL_law_1065 dL_law_1066 ?_
  refine g_arg hg hX hbE hL 3 rfl (by omega) 1 0 rfl rfl dL_law_1067 dL_law_1068 dL_law_1070 dL_law_1071 dL_law_1072 ?_
  refine g_callVi (d := 1399) (As := [.int (xs (i + 1)), .int (xs (i + 2)), .int (xs (i + 3))]) (rest := [.int q.1]) hg (lkX12_plan (by decide) (by decide) (hRf.mono (by decide) (by decide)) e2) cvL_114 rfl ly194 (idb rfl rfl hn) rfl rfl (Nat.le_of_ble_eq_true rfl) ⟨by omega, by omega⟩ dL_law_1073 ?_
  refine g_icmp_eq (tgt := 1303) hg dL_law_1076 (by decide) (fun c0 => ?_) (fun c0 => ?_)
  · replace h := Option.some.inj (itT c0 h)
    subst h
    exact g_wide (Nat.le_succ _) (Nat.le_add_right _ _) (kk _ hRf)
  · exact absurd (itF c0 h) (by simp)
theorem cvL_115 : CV RL 115 RX11 yX11_planned cX11_planned 3 (some .int) 2 := ⟨w5_78, w5_79, w5_80, w1_1, w5_81, by decide +kernel, by decide⟩
theorem cvL_118 : CV RL 118 RX12 yX12_planned cX12_planned 3 (some .int) 2 := ⟨w8_74, w8_75, w8_76, w1_18, w8_77, by decide +kernel, by decide⟩
def st_planned (kq : Nat × Nat) (a1 a2 a3 a4 a5 a6 : Int32) (M : Mm) : Option ((Nat × Nat) × Mm) := (sX11_planned a1 a2 M).bind fun q => (sX12_planned a1 a2 q.2).bind fun r => if q.1 = r.1 then some (kq, r.2) else none
theorem lc_planned {g : Gm} {l0 : Launch} {E : En} {b L i cn sn : Nat} {xs : Nat → Int32} {Rf : Nat → Nat → Nat} (hg : Ok g l0 E cL_law RL 7 1400 601024 7293034) (hX : Sc g b L xs) (hbE : b ≤ E.1) (hL : L ≤ 3584) (hi : i + 7 ≤ L) (hcs : cn + 1 ≤ 601024 ∧ sn + 6 ≤ 7293034) {kq : Nat × Nat} (hRf : RfOk 1 239 kq Rf) (hkq : isKq kq) {M : Mm} {r : (Nat × Nat) × Mm} (h : st_planned kq (xs (i + 1)) (xs (i + 2)) (xs (i + 3)) (xs (i + 4)) (xs (i + 5)) (xs (i + 6)) M = some r) (kk : ∀ Rf1 : Nat → Nat → Nat, RfOk 1 239 r.1 Rf1 → WG g E 7 239 Rf1 false (cn + 1) (sn + 6) 1303 (lvL E b i) [] r.2) : WG g E 7 239 Rf false cn sn 1081 (lvL E b i) [] M := by
  unfold st_planned at h
  obtain ⟨q, e1, h⟩ := Option.bind_eq_some_iff.mp h
  obtain ⟨r1, e2, h⟩ := Option.bind_eq_some_iff.mp h
  have hn : 239 ≤ 239 := Nat.le_refl _
  refine g_rload_n hg dL_law_1081 rfl 2 rfl ?_
  refine g_arg hg hX hbE hL 1 rfl (by omega) 1 0 rfl rfl dL_law_1082 dL_law_1083 dL_law_1085 dL_law_1086 dL_law_1087 ?_
  refine g_arg hg hX hbE hL 2 rfl (by omega) 1 0 rfl rfl dL_law_1088 dL_law_1089 dL_law_1091 dL_law_1092 dL_law_1093 ?_
  refine g_callVi (d := 1399) (As := [.int (xs (i + 1)), .int (xs (i + 2))]) (rest := []) hg (lkX11_planned (by decide) hn hRf e1) cvL_115 rfl ly1 (idb rfl rfl hn) rfl rfl (Nat.le_of_ble_eq_true rfl) ⟨by omega, by omega⟩ dL_law_1094 ?_
  refine g_rload_n hg dL_law_1097 rfl 3 rfl ?_
  refine g_arg hg hX hbE hL 1 rfl (by omega) 1 0 rfl rfl dL_law_1098 dL_law_1099 dL_law_1101 dL_law_1102 dL_law_1103 ?_
  refine g_arg hg hX hbE hL 2 rfl (by omega) 1 0 rfl rfl dL_law_1104 dL_law_1105 dL_law_1107 dL_law_1108 dL_law_1109 ?_
  refine g_callVi (d := 1399) (As := [.int (xs (i + 1)), .int (xs (i + 2))]) (rest := [.int q.1]) hg (lkX12_planned (by decide) (by decide) (hRf.mono (by decide) (by decide)) e2) cvL_118 rfl ly194 (idb rfl rfl hn) rfl rfl (Nat.le_of_ble_eq_true rfl) ⟨by omega, by omega⟩ dL_law_1110 ?_
  refine g_icmp_eq (tgt := 1303) hg dL_law_1113 (by decide) (fun c0 => ?_) (fun c0 => ?_)
  · replace h := Option.some.inj (itT c0 h)
    subst h
    exact g_wide (Nat.le_succ _) (Nat.le_add_right _ _) (kk _ hRf)
  · exact absurd (itF c0 h) (by simp)
theorem cvL_119 : CV RL 119 RX11 yX11_turned cX11_turned 3 (some .int) 2 := ⟨w5_82, w5_83, w5_84, w1_1, w5_85, by decide +kernel, by decide⟩
theorem cvL_122 : CV RL 122 RX12 yX12_turned cX12_turned 3 (some .int) 2 := ⟨w8_78, w8_79, w8_80, w1_18, w8_81, by decide +kernel, by decide⟩
def st_turned (kq : Nat × Nat) (a1 a2 a3 a4 a5 a6 : Int32) (M : Mm) : Option ((Nat × Nat) × Mm) := (sX11_turned a1 a2 M).bind fun q => (sX12_turned a1 a2 q.2).bind fun r => if q.1 = r.1 then some (kq, r.2) else none
theorem lc_turned {g : Gm} {l0 : Launch} {E : En} {b L i cn sn : Nat} {xs : Nat → Int32} {Rf : Nat → Nat → Nat} (hg : Ok g l0 E cL_law RL 7 1400 601024 7293034) (hX : Sc g b L xs) (hbE : b ≤ E.1) (hL : L ≤ 3584) (hi : i + 7 ≤ L) (hcs : cn + 1 ≤ 601024 ∧ sn + 6 ≤ 7293034) {kq : Nat × Nat} (hRf : RfOk 1 239 kq Rf) (hkq : isKq kq) {M : Mm} {r : (Nat × Nat) × Mm} (h : st_turned kq (xs (i + 1)) (xs (i + 2)) (xs (i + 3)) (xs (i + 4)) (xs (i + 5)) (xs (i + 6)) M = some r) (kk : ∀ Rf1 : Nat → Nat → Nat, RfOk 1 239 r.1 Rf1 → WG g E 7 239 Rf1 false (cn + 1) (sn + 6) 1303 (lvL E b i) [] r.2) : WG g E 7 239 Rf false cn sn 1118 (lvL E b i) [] M := by
  unfold st_turned at h
  obtain ⟨q, e1, h⟩ := Option.bind_eq_some_iff.mp h
  obtain ⟨r1, e2, h⟩ := Option.bind_eq_some_iff.mp h
  have hn : 239 ≤ 239 := Nat.le_refl _
  refine g_rload_n hg dL_law_1118 rfl 2 rfl ?_
  refine g_arg hg hX hbE hL 1 rfl (by omega) 1 0 rfl rfl dL_law_1119 dL_law_1120 dL_law_1122 dL_law_1123 dL_law_1124 ?_
  refine g_arg hg hX hbE hL 2 rfl (by omega) 1 0 rfl rfl dL_law_1125 dL_law_1126 dL_law_1128 dL_law_1129 dL_law_1130 ?_
  refine g_callVi (d := 1399) (As := [.int (xs (i + 1)), .int (xs (i + 2))]) (rest := []) hg (lkX11_turned (by decide) hn hRf e1) cvL_119 rfl ly1 (idb rfl rfl hn) rfl rfl (Nat.le_of_ble_eq_true rfl) ⟨by omega, by omega⟩ dL_law_1131 ?_
  refine g_rload_n hg dL_law_1134 rfl 3 rfl ?_
  refine g_arg hg hX hbE hL 1 rfl (by omega) 1 0 rfl rfl dL_law_1135 dL_law_1136 dL_law_1138 dL_law_1139 dL_law_1140 ?_
  refine g_arg hg hX hbE hL 2 rfl (by omega) 1 0 rfl rfl dL_law_1141 dL_law_1142 dL_law_1144 dL_law_1145 dL_law_1146 ?_
  refine g_callVi (d := 1399) (As := [.int (xs (i + 1)), .int (xs (i + 2))]) (rest := [.int q.1]) hg (lkX12_turned (by decide) (by decide) (hRf.mono (by decide) (by decide)) e2) cvL_122 rfl ly194 (idb rfl rfl hn) rfl rfl (Nat.le_of_ble_eq_true rfl) ⟨by omega, by omega⟩ dL_law_1147 ?_
  refine g_icmp_eq (tgt := 1303) hg dL_law_1150 (by decide) (fun c0 => ?_) (fun c0 => ?_)
  · replace h := Option.some.inj (itT c0 h)
    subst h
    exact g_wide (Nat.le_succ _) (Nat.le_add_right _ _) (kk _ hRf)
  · exact absurd (itF c0 h) (by simp)
theorem cvL_123 : CV RL 123 RX11 yX11_maps cX11_maps 3 (some .int) 2 := ⟨w5_94, w5_95, w5_96, w1_1, w5_97, by decide +kernel, by decide⟩
theorem cvL_126 : CV RL 126 RX12 yX12_maps cX12_maps 6 (some .int) 2 := ⟨w8_90, w8_91, w8_92, w1_18, w8_93, by decide +kernel, by decide⟩
def st_maps (kq : Nat × Nat) (a1 a2 a3 a4 a5 a6 : Int32) (M : Mm) : Option ((Nat × Nat) × Mm) := (sX11_maps kq a1 a2 M).bind fun q => (sX12_maps a1 a2 q.2).bind fun r => if q.1 = r.1 then some (kq, r.2) else none
theorem lc_maps {g : Gm} {l0 : Launch} {E : En} {b L i cn sn : Nat} {xs : Nat → Int32} {Rf : Nat → Nat → Nat} (hg : Ok g l0 E cL_law RL 7 1400 601024 7293034) (hX : Sc g b L xs) (hbE : b ≤ E.1) (hL : L ≤ 3584) (hi : i + 7 ≤ L) (hcs : cn + 1 ≤ 601024 ∧ sn + 6 ≤ 7293034) {kq : Nat × Nat} (hRf : RfOk 1 239 kq Rf) (hkq : isKq kq) {M : Mm} {r : (Nat × Nat) × Mm} (h : st_maps kq (xs (i + 1)) (xs (i + 2)) (xs (i + 3)) (xs (i + 4)) (xs (i + 5)) (xs (i + 6)) M = some r) (kk : ∀ Rf1 : Nat → Nat → Nat, RfOk 1 239 r.1 Rf1 → WG g E 7 239 Rf1 false (cn + 1) (sn + 6) 1303 (lvL E b i) [] r.2) : WG g E 7 239 Rf false cn sn 1155 (lvL E b i) [] M := by
  unfold st_maps at h
  obtain ⟨q, e1, h⟩ := Option.bind_eq_some_iff.mp h
  obtain ⟨r1, e2, h⟩ := Option.bind_eq_some_iff.mp h
  have hn : 239 ≤ 239 := Nat.le_refl _
  refine g_rload_n hg dL_law_1155 rfl 2 rfl ?_
  refine g_arg hg hX hbE hL 1 rfl (by omega) 1 0 rfl rfl dL_law_1156 dL_law_1157 dL_law_1159 dL_law_1160 dL_law_1161 ?_
  refine g_arg hg hX hbE hL 2 rfl (by omega) 1 0 rfl rfl dL_law_1162 dL_law_1163 dL_law_1165 dL_law_1166 dL_law_1167 ?_
  refine g_callVi (d := 1399) (As := [.int (xs (i + 1)), .int (xs (i + 2))]) (rest := []) hg (lkX11_maps (by decide) hn hRf hkq e1) cvL_123 rfl ly1 (idb rfl rfl hn) rfl rfl (Nat.le_of_ble_eq_true rfl) ⟨by omega, by omega⟩ dL_law_1168 ?_
  refine g_rload_n hg dL_law_1171 rfl 3 rfl ?_
  refine g_arg hg hX hbE hL 1 rfl (by omega) 1 0 rfl rfl dL_law_1172 dL_law_1173 dL_law_1175 dL_law_1176 dL_law_1177 ?_
  refine g_arg hg hX hbE hL 2 rfl (by omega) 1 0 rfl rfl dL_law_1178 dL_law_1179 dL_law_1181 dL_law_1182 dL_law_1183 ?_
  refine g_callVi (d := 1399) (As := [.int (xs (i + 1)), .int (xs (i + 2))]) (rest := [.int q.1]) hg (lkX12_maps (by decide) (by decide) (hRf.mono (by decide) (by decide)) e2) cvL_126 rfl ly194 (idb rfl rfl hn) rfl rfl (Nat.le_of_ble_eq_true rfl) ⟨by omega, by omega⟩ dL_law_1184 ?_
  refine g_icmp_eq (tgt := 1303) hg dL_law_1187 (by decide) (fun c0 => ?_) (fun c0 => ?_)
  · replace h := Option.some.inj (itT c0 h)
    subst h
    exact g_wide (Nat.le_succ _) (Nat.le_add_right _ _) (kk _ hRf)
  · exact absurd (itF c0 h) (by simp)
theorem cvL_127 : CV RL 127 RX11 yX11_worth cX11_worth 5 (some .int) 2 := ⟨w5_119, w5_120, w5_121, w1_1, w5_122, by decide +kernel, by decide⟩
theorem cvL_130 : CV RL 130 RX12 yX12_worth cX12_worth 10 (some .int) 2 := ⟨w8_102, w8_103, w8_104, w1_18, w8_105, by decide +kernel, by decide⟩
def st_worth (kq : Nat × Nat) (a1 a2 a3 a4 a5 a6 : Int32) (M : Mm) : Option ((Nat × Nat) × Mm) := (sX11_worth kq a1 a2 M).bind fun q => (sX12_worth a1 a2 q.2).bind fun r => if q.1 = r.1 then some (kq, r.2) else none
theorem lc_worth {g : Gm} {l0 : Launch} {E : En} {b L i cn sn : Nat} {xs : Nat → Int32} {Rf : Nat → Nat → Nat} (hg : Ok g l0 E cL_law RL 7 1400 601024 7293034) (hX : Sc g b L xs) (hbE : b ≤ E.1) (hL : L ≤ 3584) (hi : i + 7 ≤ L) (hcs : cn + 1 ≤ 601024 ∧ sn + 6 ≤ 7293034) {kq : Nat × Nat} (hRf : RfOk 1 239 kq Rf) (hkq : isKq kq) {M : Mm} {r : (Nat × Nat) × Mm} (h : st_worth kq (xs (i + 1)) (xs (i + 2)) (xs (i + 3)) (xs (i + 4)) (xs (i + 5)) (xs (i + 6)) M = some r) (kk : ∀ Rf1 : Nat → Nat → Nat, RfOk 1 239 r.1 Rf1 → WG g E 7 239 Rf1 false (cn + 1) (sn + 6) 1303 (lvL E b i) [] r.2) : WG g E 7 239 Rf false cn sn 1192 (lvL E b i) [] M := by
  unfold st_worth at h
  obtain ⟨q, e1, h⟩ := Option.bind_eq_some_iff.mp h
  obtain ⟨r1, e2, h⟩ := Option.bind_eq_some_iff.mp h
  have hn : 239 ≤ 239 := Nat.le_refl _
  refine g_rload_n hg dL_law_1192 rfl 2 rfl ?_
  refine g_arg hg hX hbE hL 1 rfl (by omega) 1 0 rfl rfl dL_law_1193 dL_law_1194 dL_law_1196 dL_law_1197 dL_law_1198 ?_
  refine g_arg hg hX hbE hL 2 rfl (by omega) 1 0 rfl rfl dL_law_1199 dL_law_1200 dL_law_1202 dL_law_1203 dL_law_1204 ?_
  refine g_callVi (d := 1399) (As := [.int (xs (i + 1)), .int (xs (i + 2))]) (rest := []) hg (lkX11_worth (by decide) hn hRf hkq e1) cvL_127 rfl ly1 (idb rfl rfl hn) rfl rfl (Nat.le_of_ble_eq_true rfl) ⟨by omega, by omega⟩ dL_law_1205 ?_
  refine g_rload_n hg dL_law_1208 rfl 3 rfl ?_
  refine g_arg hg hX hbE hL 1 rfl (by omega) 1 0 rfl rfl dL_law_1209 dL_law_1210 dL_law_1212 dL_law_1213 dL_law_1214 ?_
  refine g_arg hg hX hbE hL 2 rfl (by omega) 1 0 rfl rfl dL_law_1215 dL_law_1216 dL_law_1218 dL_law_1219 dL_law_1220 ?_
  refine g_callVi (d := 1399) (As := [.int (xs (i + 1)), .int (xs (i + 2))]) (rest := [.int q.1]) hg (lkX12_worth (by decide) (by decide) (hRf.mono (by decide) (by decide)) e2) cvL_130 rfl ly194 (idb rfl rfl hn) rfl rfl (Nat.le_of_ble_eq_true rfl) ⟨by omega, by omega⟩ dL_law_1221 ?_
  refine g_icmp_eq (tgt := 1303) hg dL_law_1224 (by decide) (fun c0 => ?_) (fun c0 => ?_)
  · replace h := Option.some.inj (itT c0 h)
    subst h
    exact g_wide (Nat.le_succ _) (Nat.le_add_right _ _) (kk _ hRf)
  · exact absurd (itF c0 h) (by simp)
theorem cvL_131 : CV RL 131 RX11 yX11_hands cX11_hands 4 (some .int) 3 := ⟨w5_131, w5_132, w5_133, w1_1, w5_134, by decide +kernel, by decide⟩
theorem cvL_134 : CV RL 134 RX12 yX12_hands cX12_hands 12 (some .int) 3 := ⟨w8_106, w8_107, w8_108, w1_18, w8_109, by decide +kernel, by decide⟩
def st_hands (kq : Nat × Nat) (a1 a2 a3 a4 a5 a6 : Int32) (M : Mm) : Option ((Nat × Nat) × Mm) := (sX11_hands a1 a2 a3 M).bind fun q => (sX12_hands a1 a2 a3 q.2).bind fun r => if q.1 = r.1 then some (kq, r.2) else none
theorem lc_hands {g : Gm} {l0 : Launch} {E : En} {b L i cn sn : Nat} {xs : Nat → Int32} {Rf : Nat → Nat → Nat} (hg : Ok g l0 E cL_law RL 7 1400 601024 7293034) (hX : Sc g b L xs) (hbE : b ≤ E.1) (hL : L ≤ 3584) (hi : i + 7 ≤ L) (hcs : cn + 1 ≤ 601024 ∧ sn + 6 ≤ 7293034) {kq : Nat × Nat} (hRf : RfOk 1 239 kq Rf) (hkq : isKq kq) {M : Mm} {r : (Nat × Nat) × Mm} (h : st_hands kq (xs (i + 1)) (xs (i + 2)) (xs (i + 3)) (xs (i + 4)) (xs (i + 5)) (xs (i + 6)) M = some r) (kk : ∀ Rf1 : Nat → Nat → Nat, RfOk 1 239 r.1 Rf1 → WG g E 7 239 Rf1 false (cn + 1) (sn + 6) 1303 (lvL E b i) [] r.2) : WG g E 7 239 Rf false cn sn 1229 (lvL E b i) [] M := by
  unfold st_hands at h
  obtain ⟨q, e1, h⟩ := Option.bind_eq_some_iff.mp h
  obtain ⟨r1, e2, h⟩ := Option.bind_eq_some_iff.mp h
  have hn : 239 ≤ 239 := Nat.le_refl _
  refine g_rload_n hg dL_law_1229 rfl 2 rfl ?_
  refine g_arg hg hX hbE hL 1 rfl (by omega) 1 0 rfl rfl dL_law_1230 dL_law_1231 dL_law_1233 dL_law_1234 dL_law_1235 ?_
  refine g_arg hg hX hbE hL 2 rfl (by omega) 1 0 rfl rfl dL_law_1236 dL_law_1237 dL_law_1239 dL_law_1240 dL_law_1241 ?_
  refine g_arg hg hX hbE hL 3 rfl (by omega) 1 0 rfl rfl dL_law_1242 dL_law_1243 dL_law_1245 dL_law_1246 dL_law_1247 ?_
  refine g_callVi (d := 1399) (As := [.int (xs (i + 1)), .int (xs (i + 2)), .int (xs (i + 3))]) (rest := []) hg (lkX11_hands (by decide) hn hRf e1) cvL_131 rfl ly1 (idb rfl rfl hn) rfl rfl (Nat.le_of_ble_eq_true rfl) ⟨by omega, by omega⟩ dL_law_1248 ?_
  refine g_rload_n hg dL_law_1251 rfl 3 rfl ?_
  refine g_arg hg hX hbE hL 1 rfl (by omega) 1 0 rfl rfl dL_law_1252 dL_law_1253 dL_law_1255 dL_law_1256 dL_law_1257 ?_
  refine g_arg hg hX hbE hL 2 rfl (by omega) 1 0 rfl rfl dL_law_1258 dL_law_1259 dL_law_1261 dL_law_1262 dL_law_1263 ?_
  refine g_arg hg hX hbE hL 3 rfl (by omega) 1 0 rfl rfl dL_law_1264 dL_law_1265 dL_law_1267 dL_law_1268 dL_law_1269 ?_
  refine g_callVi (d := 1399) (As := [.int (xs (i + 1)), .int (xs (i + 2)), .int (xs (i + 3))]) (rest := [.int q.1]) hg (lkX12_hands (by decide) (by decide) (hRf.mono (by decide) (by decide)) e2) cvL_134 rfl ly194 (idb rfl rfl hn) rfl rfl (Nat.le_of_ble_eq_true rfl) ⟨by omega, by omega⟩ dL_law_1270 ?_
  refine g_icmp_eq (tgt := 1303) hg dL_law_1273 (by decide) (fun c0 => ?_) (fun c0 => ?_)
  · replace h := Option.some.inj (itT c0 h)
    subst h
    exact g_wide (Nat.le_succ _) (Nat.le_add_right _ _) (kk _ hRf)
  · exact absurd (itF c0 h) (by simp)
theorem cvL_135 : CV RL 135 RX11 yX11_count cX11_count 2 (some .int) 1 := ⟨w5_152, w5_153, w5_154, w1_1, w5_155, by decide +kernel, by decide⟩
theorem cvL_138 : CV RL 138 RX12 yX12_count cX12_count 4 (some .int) 1 := ⟨w8_115, w8_116, w8_117, w1_18, w8_118, by decide +kernel, by decide⟩
def st_count (kq : Nat × Nat) (a1 a2 a3 a4 a5 a6 : Int32) (M : Mm) : Option ((Nat × Nat) × Mm) := (sX11_count kq a1 M).bind fun q => (sX12_count a1 q.2).bind fun r => if q.1 = r.1 then some (kq, r.2) else none
theorem lc_count {g : Gm} {l0 : Launch} {E : En} {b L i cn sn : Nat} {xs : Nat → Int32} {Rf : Nat → Nat → Nat} (hg : Ok g l0 E cL_law RL 7 1400 601024 7293034) (hX : Sc g b L xs) (hbE : b ≤ E.1) (hL : L ≤ 3584) (hi : i + 7 ≤ L) (hcs : cn + 1 ≤ 601024 ∧ sn + 6 ≤ 7293034) {kq : Nat × Nat} (hRf : RfOk 1 239 kq Rf) (hkq : isKq kq) {M : Mm} {r : (Nat × Nat) × Mm} (h : st_count kq (xs (i + 1)) (xs (i + 2)) (xs (i + 3)) (xs (i + 4)) (xs (i + 5)) (xs (i + 6)) M = some r) (kk : ∀ Rf1 : Nat → Nat → Nat, RfOk 1 239 r.1 Rf1 → WG g E 7 239 Rf1 false (cn + 1) (sn + 6) 1303 (lvL E b i) [] r.2) : WG g E 7 239 Rf false cn sn 1278 (lvL E b i) [] M := by
  unfold st_count at h
  obtain ⟨q, e1, h⟩ := Option.bind_eq_some_iff.mp h
  obtain ⟨r1, e2, h⟩ := Option.bind_eq_some_iff.mp h
  have hn : 239 ≤ 239 := Nat.le_refl _
  refine g_rload_n hg dL_law_1278 rfl 2 rfl ?_
  refine g_arg hg hX hbE hL 1 rfl (by omega) 1 0 rfl rfl dL_law_1279 dL_law_1280 dL_law_1282 dL_law_1283 dL_law_1284 ?_
  refine g_callVi (d := 1399) (As := [.int (xs (i + 1))]) (rest := []) hg (lkX11_count (by decide) hn hRf hkq e1) cvL_135 rfl ly1 (idb rfl rfl hn) rfl rfl (Nat.le_of_ble_eq_true rfl) ⟨by omega, by omega⟩ dL_law_1285 ?_
  refine g_rload_n hg dL_law_1288 rfl 3 rfl ?_
  refine g_arg hg hX hbE hL 1 rfl (by omega) 1 0 rfl rfl dL_law_1289 dL_law_1290 dL_law_1292 dL_law_1293 dL_law_1294 ?_
  refine g_callVi (d := 1399) (As := [.int (xs (i + 1))]) (rest := [.int q.1]) hg (lkX12_count (by decide) (by decide) (hRf.mono (by decide) (by decide)) e2) cvL_138 rfl ly194 (idb rfl rfl hn) rfl rfl (Nat.le_of_ble_eq_true rfl) ⟨by omega, by omega⟩ dL_law_1295 ?_
  refine g_icmp_eq (tgt := 1303) hg dL_law_1298 (by decide) (fun c0 => ?_) (fun c0 => ?_)
  · replace h := Option.some.inj (itT c0 h)
    subst h
    exact g_wide (Nat.le_succ _) (Nat.le_add_right _ _) (kk _ hRf)
  · exact absurd (itF c0 h) (by simp)
theorem cvL_84 : CV RL 84 RX12 yX12_look cX12_look 3 (some .int) 2 := ⟨w7_211, w7_212, w7_213, w1_18, w7_214, by decide +kernel, by decide⟩
theorem cvL_85 : CV RL 85 RX12 yX12_thrown cX12_thrown 1 (some .int) 0 := ⟨w7_21, w7_22, w7_23, w1_18, w7_24, by decide +kernel, by decide⟩
def st_look (kq : Nat × Nat) (a1 a2 a3 a4 a5 a6 : Int32) (M : Mm) : Option ((Nat × Nat) × Mm) := (sX11_look a1 a2 M).bind fun q => (sX12_look a1 a2 (qL q).2).bind fun r => (sX12_thrown r.2).bind fun t => if t.1 = (qL q).1 then (if (qL q).1 = 0 then (if lg_cmp (t.2.2 238 ((0 : Int32).toNatClampNeg)) r.1.toInt64 = 0 then some (kq, t.2) else none) else some (kq, t.2)) else none
theorem csL_79 : Cond.methodLink RL 79 yL_look ∈ gt ∧ Cond.static yL_look ∈ gt ∧ Cond.initialized RL ∈ gt := ⟨w5_156, w5_157, w1_0⟩
theorem g_lawlook {g : Gm} {l0 : Launch} {E : En} {cn sn : Nat} {Rf : Nat → Nat → Nat} {lv : List (Nat × Value)} {rest : List Value} {kq : Nat × Nat} {M : Mm} (hl0 : l0.stackTraces = false) (hg : Ok g l0 E cL_law RL 7 1400 601024 7293034) (hRf : RfOk 1 239 kq Rf) (hcs : cn + 1 ≤ 601024 ∧ sn + 6 ≤ 7293034) {x1 x2 : Int32} {q : (Int32 × Int32) × Mm} (h : sX11_look x1 x2 M = some q) (hcat : (rest.map fun v => v.category).sum ≤ 8)
    (hd : decode cL_law 753 = .ok (.invokestatic 79, 3)) (kk : WG g E 7 239 Rf false (cn + 1) (sn + 6) 756 lv (.int (qL q).1 :: rest) (qL q).2) : WG g E 7 239 Rf false cn sn 753 lv (rr E.1 238 :: .int x2 :: .int x1 :: rr E.1 1 :: rest) M := by
  obtain ⟨p, l, e, R, s, m, args, below, meth, c, Q⟩ := g
  obtain ⟨hll, hx, hb, hml, hown, hts, hSt, hlk, hfr, hlo, hrc, hrs⟩ := hg
  subst hll
  intro H locs ls hl hE hS
  obtain ⟨w1, w2, w3⟩ := csL_79
  have hG : GoodIn gt (va_wsS RL 79 yL_look (.codeWith yL_look cL_look 5 (some .int) hhL :: gt)) := gt_good (fun _ h => h) (fun w h => by
    rcases List.mem_append.mp h with h | h
    · simp only [List.mem_cons, List.not_mem_nil, or_false] at h
      rcases h with rfl | rfl | rfl
      · exact w1
      · exact w2
      · exact w3
    · rcases List.mem_cons.mp h with rfl | h
      · exact wl5_158
      · exact h)
  refine run_go (vx_runSW (As := [rr E.1 1, .int x1, .int x2, rr E.1 238]) (rest := rest) ⟨hx, hb, hml, hown, hts⟩ (ctL_look (d := 1392) hl0 (Nat.le_refl _) hRf h) (vx_cwSW 4 hts hG rfl rfl rfl (by decide +kernel) ⟨by show 1399 + 1 ≤ R.frames; exact hfr, by show 8 + (5 + 11) + 60 * 1399 ≤ R.locals; exact Nat.le_trans (by decide) hlo⟩) ⟨Ps.blind, fun U hU hW => ⟨rfl, by rw [hU]; exact hE, hSt.moved hW hS hU⟩⟩ rfl rfl hl.1 rfl (lv_room hcat) hd ⟨by rw [hrc]; exact hcs.1, by rw [hrs]; exact hcs.2⟩) hS (fun H1 locs1 hE1 hS1 => kk H1 locs1 ls hl hE1 hS1)
theorem lc_look {g : Gm} {l0 : Launch} {E : En} {b L i cn sn : Nat} {xs : Nat → Int32} {Rf : Nat → Nat → Nat} (hl0 : l0.stackTraces = false) (hg : Ok g l0 E cL_law RL 7 1400 601024 7293034) (hX : Sc g b L xs) (hbE : b ≤ E.1) (hL : L ≤ 3584) (hi : i + 7 ≤ L) (hcs : cn + 1 ≤ 601024 ∧ sn + 6 ≤ 7293034) {kq : Nat × Nat} (hRf : RfOk 1 239 kq Rf) (hkq : isKq kq) {M : Mm} {r : (Nat × Nat) × Mm} (h : st_look kq (xs (i + 1)) (xs (i + 2)) (xs (i + 3)) (xs (i + 4)) (xs (i + 5)) (xs (i + 6)) M = some r) (kk : ∀ Rf1 : Nat → Nat → Nat, RfOk 1 239 r.1 Rf1 → WG g E 7 239 Rf1 false (cn + 1) (sn + 6) 1303 (lvL E b i) [] r.2) : WG g E 7 239 Rf false cn sn 739 (lvL E b i) [] M := by
  unfold st_look at h
  obtain ⟨q, e1, h⟩ := Option.bind_eq_some_iff.mp h
  obtain ⟨r1, e2, h⟩ := Option.bind_eq_some_iff.mp h
  obtain ⟨t, e3, h⟩ := Option.bind_eq_some_iff.mp h
  have hn : 239 ≤ 239 := Nat.le_refl _
  refine g_rload_n hg dL_law_739 rfl 2 rfl ?_
  refine g_arg hg hX hbE hL 1 rfl (by omega) 1 0 rfl rfl dL_law_740 dL_law_741 dL_law_743 dL_law_744 dL_law_745 ?_
  refine g_arg hg hX hbE hL 2 rfl (by omega) 1 0 rfl rfl dL_law_746 dL_law_747 dL_law_749 dL_law_750 dL_law_751 ?_
  refine g_rload_n hg dL_law_752 rfl 4 rfl ?_
  refine g_lawlook (rest := []) hl0 hg hRf hcs e1 (by decide) dL_law_753 ?_
  refine g_istore (lv' := (5, .int (qL q).1) :: lvL E b i) hg dL_law_756 (by decide) rfl ?_
  refine g_rload_n hg dL_law_758 rfl 4 rfl ?_
  refine g_arg hg hX hbE hL 1 rfl (by omega) 2 1 rfl rfl dL_law_759 dL_law_760 dL_law_762 dL_law_763 dL_law_764 ?_
  refine g_arg hg hX hbE hL 2 rfl (by omega) 2 1 rfl rfl dL_law_765 dL_law_766 dL_law_768 dL_law_769 dL_law_770 ?_
  refine g_callVi (d := 1399) (As := [.int (xs (i + 1)), .int (xs (i + 2))]) (rest := []) hg (lkX12_look (by decide) (by decide) (hRf.mono (by decide) (by decide)) e2) cvL_84 rfl ly194 (idb rfl rfl hn) rfl rfl (Nat.le_of_ble_eq_true rfl) ⟨by omega, by omega⟩ dL_law_771 ?_
  refine g_istore (lv' := (6, .int r1.1) :: (5, .int (qL q).1) :: lvL E b i) hg dL_law_774 (by decide) rfl ?_
  refine g_rload_n hg dL_law_776 rfl 5 rfl ?_
  refine g_callVi (d := 1399) (As := []) (rest := []) hg (lkX12_thrown (by decide) (by decide) (hRf.mono (by decide) (by decide)) e3) cvL_85 rfl ly194 (idb rfl rfl hn) rfl rfl (Nat.le_of_ble_eq_true rfl) ⟨by omega, by omega⟩ dL_law_777 ?_
  refine g_iload hg dL_law_780 1 rfl ?_
  refine g_icmp_eq (tgt := 787) hg dL_law_782 (by decide) (fun c0 => ?_) (fun c0 => ?_)
  · replace h := itT c0 h
    refine g_iload hg dL_law_787 1 rfl ?_
    refine g_if_ne (tgt := 804) hg dL_law_789 (by decide) (fun c1 => ?_) (fun c1 => ?_)
    · replace h := Option.some.inj (itF c1 h)
      subst h
      refine g_goto (tgt := 1303) hg dL_law_804 (by decide) ?_
      exact g_sub [2, 3, 4, 5, 6] rfl (kk _ hRf)
    · replace h := itT c1 h
      refine g_rload_n hg dL_law_792 rfl 6 rfl ?_
      refine g_iconst hg dL_law_793 kI_0 ?_
      refine g_lald (N := 1) hg ly238 (idb rfl rfl hn) (inb_vp (by decide)) dL_law_794 ?_
      refine g_iload hg dL_law_795 0 rfl ?_
      refine g_i2l hg dL_law_797 ?_
      refine g_lcmp hg dL_law_798 ?_
      refine g_if_eq (tgt := 804) hg dL_law_799 (by decide) (fun c2 => ?_) (fun c2 => ?_)
      · replace h := Option.some.inj (itT c2 h)
        subst h
        refine g_goto (tgt := 1303) hg dL_law_804 (by decide) ?_
        exact g_sub [2, 3, 4, 5, 6] rfl (kk _ hRf)
      · exact absurd (itF c2 h) (by simp)
  · exact absurd (itF c0 h) (by simp)
