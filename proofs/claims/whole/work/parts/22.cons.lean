theorem wx1_24 : Cond.classLink RL 8 RX11 ∈ gt := gt_in (tm1 _ (List.mem_of_getElem? (i := 24) rfl)) rfl
theorem wx1_25 : Cond.instantiable RX11 15 ∈ gt := gt_in (tm1 _ (List.mem_of_getElem? (i := 25) rfl)) rfl
theorem wx1_29 : Cond.methodLink RX11 1 Lib.objectInit ∈ gt := gt_in (tm1 _ (List.mem_of_getElem? (i := 29) rfl)) rfl
theorem wx1_30 : Cond.instanceMethod Lib.objectInit ∈ gt := gt_in (tm1 _ (List.mem_of_getElem? (i := 30) rfl)) rfl
theorem wx1_31 : Cond.code Lib.objectInit ⟨#[0xb1]⟩ 1 none ∈ gt := gt_in (tm1 _ (List.mem_of_getElem? (i := 31) (by decide +kernel))) rfl
theorem wx1_32 : Cond.classLink RX11 13 RX10 ∈ gt := gt_in (tm1 _ (List.mem_of_getElem? (i := 32) rfl)) rfl
theorem wx1_33 : Cond.instantiable RX10 10 ∈ gt := gt_in (tm1 _ (List.mem_of_getElem? (i := 33) rfl)) rfl
theorem wx1_37 : Cond.methodLink RX10 3 Lib.objectInit ∈ gt := gt_in (tm1 _ (List.mem_of_getElem? (i := 37) rfl)) rfl
theorem wx1_129 : Cond.arrayClass .int ∈ gt := gt_in (tm1 _ (List.mem_of_getElem? (i := 129) rfl)) rfl
theorem wx1_130 : Cond.arrayClass .long ∈ gt := gt_in (tm1 _ (List.mem_of_getElem? (i := 130) rfl)) rfl
theorem wx1_131 : Cond.arrayClass .byte ∈ gt := gt_in (tm1 _ (List.mem_of_getElem? (i := 131) rfl)) rfl
theorem wx1_132 : Cond.classLink RX11 22 RX5 ∈ gt := gt_in (tm1 _ (List.mem_of_getElem? (i := 132) rfl)) rfl
theorem wx1_133 : Cond.instantiable RX5 3 ∈ gt := gt_in (tm1 _ (List.mem_of_getElem? (i := 133) rfl)) rfl
theorem wx1_137 : Cond.methodLink RX5 3 Lib.objectInit ∈ gt := gt_in (tm1 _ (List.mem_of_getElem? (i := 137) rfl)) rfl
theorem wx1_138 : Cond.classLink RX5 9 RX4 ∈ gt := gt_in (tm1 _ (List.mem_of_getElem? (i := 138) rfl)) rfl
theorem wx1_139 : Cond.instantiable RX4 11 ∈ gt := gt_in (tm1 _ (List.mem_of_getElem? (i := 139) rfl)) rfl
theorem wx1_143 : Cond.methodLink RX4 3 Lib.objectInit ∈ gt := gt_in (tm1 _ (List.mem_of_getElem? (i := 143) rfl)) rfl
theorem wx1_194 : Cond.classLink RX11 31 RX4 ∈ gt := gt_in (tm1 _ (List.mem_of_getElem? (i := 194) rfl)) rfl
theorem wx1_196 : Cond.classLink RX11 42 RX6 ∈ gt := gt_in (tm1 _ (List.mem_of_getElem? (i := 196) rfl)) rfl
theorem wx1_197 : Cond.instantiable RX6 13 ∈ gt := gt_in (tm1 _ (List.mem_of_getElem? (i := 197) rfl)) rfl
theorem wx1_201 : Cond.methodLink RX6 3 Lib.objectInit ∈ gt := gt_in (tm1 _ (List.mem_of_getElem? (i := 201) rfl)) rfl
theorem wx1_202 : Cond.classLink RX6 11 "[[I" ∈ gt := gt_in (tm1 _ (List.mem_of_getElem? (i := 202) rfl)) rfl
theorem wx2_47 : Cond.classLink RX11 49 RX1 ∈ gt := gt_in (tm2 _ (List.mem_of_getElem? (i := 47) rfl)) rfl
theorem wx2_48 : Cond.instantiable RX1 5 ∈ gt := gt_in (tm2 _ (List.mem_of_getElem? (i := 48) rfl)) rfl
theorem wx2_52 : Cond.methodLink RX1 3 Lib.objectInit ∈ gt := gt_in (tm2 _ (List.mem_of_getElem? (i := 52) rfl)) rfl
theorem wx2_53 : Cond.classLink RX1 9 RX7 ∈ gt := gt_in (tm2 _ (List.mem_of_getElem? (i := 53) rfl)) rfl
theorem wx2_55 : Cond.instantiable RX7 7 ∈ gt := gt_in (tm2 _ (List.mem_of_getElem? (i := 55) rfl)) rfl
theorem wx2_59 : Cond.methodLink RX7 3 Lib.objectInit ∈ gt := gt_in (tm2 _ (List.mem_of_getElem? (i := 59) rfl)) rfl
theorem wx2_98 : Cond.arrayClass .boolean ∈ gt := gt_in (tm2 _ (List.mem_of_getElem? (i := 98) rfl)) rfl
theorem wx2_131 : Cond.classLink RX11 56 RX2 ∈ gt := gt_in (tm2 _ (List.mem_of_getElem? (i := 131) rfl)) rfl
theorem wx2_132 : Cond.instantiable RX2 8 ∈ gt := gt_in (tm2 _ (List.mem_of_getElem? (i := 132) rfl)) rfl
theorem wx2_136 : Cond.methodLink RX2 3 Lib.objectInit ∈ gt := gt_in (tm2 _ (List.mem_of_getElem? (i := 136) rfl)) rfl
theorem wx2_167 : Cond.classLink RX11 65 RX3 ∈ gt := gt_in (tm2 _ (List.mem_of_getElem? (i := 167) rfl)) rfl
theorem wx2_168 : Cond.instantiable RX3 8 ∈ gt := gt_in (tm2 _ (List.mem_of_getElem? (i := 168) rfl)) rfl
theorem wx2_172 : Cond.methodLink RX3 3 Lib.objectInit ∈ gt := gt_in (tm2 _ (List.mem_of_getElem? (i := 172) rfl)) rfl
theorem wx2_173 : Cond.classLink RX3 18 "[[I" ∈ gt := gt_in (tm2 _ (List.mem_of_getElem? (i := 173) rfl)) rfl
theorem wx2_203 : Cond.classLink RX11 74 RX9 ∈ gt := gt_in (tm2 _ (List.mem_of_getElem? (i := 203) rfl)) rfl
theorem wx2_204 : Cond.instantiable RX9 12 ∈ gt := gt_in (tm2 _ (List.mem_of_getElem? (i := 204) rfl)) rfl
theorem wx2_208 : Cond.methodLink RX9 3 Lib.objectInit ∈ gt := gt_in (tm2 _ (List.mem_of_getElem? (i := 208) rfl)) rfl
theorem wx3_9 : Cond.classLink RX11 83 RX8 ∈ gt := gt_in (tm3 _ (List.mem_of_getElem? (i := 9) rfl)) rfl
theorem wx3_10 : Cond.instantiable RX8 5 ∈ gt := gt_in (tm3 _ (List.mem_of_getElem? (i := 10) rfl)) rfl
theorem wx3_14 : Cond.methodLink RX8 3 Lib.objectInit ∈ gt := gt_in (tm3 _ (List.mem_of_getElem? (i := 14) rfl)) rfl
theorem wx3_15 : Cond.classLink RX8 9 "[[I" ∈ gt := gt_in (tm3 _ (List.mem_of_getElem? (i := 15) rfl)) rfl
theorem wx3_34 : Cond.classLink RX11 92 RX0 ∈ gt := gt_in (tm3 _ (List.mem_of_getElem? (i := 34) rfl)) rfl
theorem wx3_35 : Cond.instantiable RX0 10 ∈ gt := gt_in (tm3 _ (List.mem_of_getElem? (i := 35) rfl)) rfl
theorem wx3_39 : Cond.methodLink RX0 3 Lib.objectInit ∈ gt := gt_in (tm3 _ (List.mem_of_getElem? (i := 39) rfl)) rfl
theorem wx5_159 : Cond.classLink RL 13 "java/lang/IndexOutOfBoundsException" ∈ gt := gt_in (tm5 _ (List.mem_of_getElem? (i := 159) rfl)) rfl
theorem wx5_160 : Cond.classLink RL 15 "java/util/NoSuchElementException" ∈ gt := gt_in (tm5 _ (List.mem_of_getElem? (i := 160) rfl)) rfl
theorem wx5_165 : Cond.classLink RX11 219 "java/lang/IndexOutOfBoundsException" ∈ gt := gt_in (tm5 _ (List.mem_of_getElem? (i := 165) rfl)) rfl
theorem wx5_231 : Cond.classLink RX11 226 "java/util/NoSuchElementException" ∈ gt := gt_in (tm5 _ (List.mem_of_getElem? (i := 231) rfl)) rfl
theorem wx6_7 : Cond.classLink RL 18 RX12 ∈ gt := gt_in (tm6 _ (List.mem_of_getElem? (i := 7) rfl)) rfl
theorem wx6_8 : Cond.instantiable RX12 81 ∈ gt := gt_in (tm6 _ (List.mem_of_getElem? (i := 8) rfl)) rfl
theorem wx6_12 : Cond.methodLink RX12 1 Lib.objectInit ∈ gt := gt_in (tm6 _ (List.mem_of_getElem? (i := 12) rfl)) rfl
theorem vr_outer (c : ClassId) (N h0 : Nat) : ∀ i : Nat, Jvm.Free.Multi.outerC c N h0 i = arrV c N (fun j => va_rf (if j < i then some (h0 + 1 + j) else none))
  | 0 => by
    show ({ cls := c, slots := Array.replicate N .null, vm := .none } : Cell) = _
    rw [arrV_new]
    refine congrArg (arrV c N) (funext fun j => ?_)
    simp [va_rf]
  | i + 1 => by
    show (Jvm.Free.Multi.outerC c N h0 i).setSlot i (.ref (h0 + 1 + i)) = _
    rw [vr_outer c N h0 i, arrV_store]
    refine congrArg (arrV c N) (funext fun j => ?_)
    by_cases e : j = i
    · subst e
      simp [updV, va_rf]
    · by_cases h : j < i
      · simp [updV, e, h, Nat.lt_succ_of_lt h]
      · simp [updV, e, h, show ¬ j < i + 1 by omega]
def dfl (t : Nat) : Value := if t = 0 then .int 0 else if t = 1 then .long 0 else .null
theorem dv_ok (ci : Nat) (q : vw_C) (h : vwCl[ci]? = some q) : ∃ ty : Nat → FieldType, (∀ k, k < q.2.2 → parseFieldDescriptor (q.2.1 k).2.2.1 = some (ty k)) ∧ ∀ k, k < q.2.2 → defaultValue (ty k) = dfl (ftc ci k) := by
  match ci, h with
  | 0, h => cases h; exact ⟨tyX0, tyX0_ok, by decide +kernel⟩
  | 1, h => cases h; exact ⟨tyX1, tyX1_ok, by decide +kernel⟩
  | 2, h => cases h; exact ⟨tyX2, tyX2_ok, by decide +kernel⟩
  | 3, h => cases h; exact ⟨tyX3, tyX3_ok, by decide +kernel⟩
  | 4, h => cases h; exact ⟨tyX4, tyX4_ok, by decide +kernel⟩
  | 5, h => cases h; exact ⟨tyX5, tyX5_ok, by decide +kernel⟩
  | 6, h => cases h; exact ⟨tyX6, tyX6_ok, by decide +kernel⟩
  | 7, h => cases h; exact ⟨tyX7, tyX7_ok, by decide +kernel⟩
  | 8, h => cases h; exact ⟨tyX8, tyX8_ok, by decide +kernel⟩
  | 9, h => cases h; exact ⟨tyX9, tyX9_ok, by decide +kernel⟩
  | 10, h => cases h; exact ⟨tyX10, tyX10_ok, by decide +kernel⟩
  | 11, h => cases h; exact ⟨tyX11, tyX11_ok, by decide +kernel⟩
  | 12, h => cases h; exact ⟨tyX12, tyX12_ok, by decide +kernel⟩
  | k + 13, h => simp [vwCl] at h
def Zr (n : Nat) (M : Mm) (Rf : Nat → Nat → Nat) : Prop := ∀ id, n ≤ id → ∀ k, M.1 id k = 0 ∧ M.2 id k = 0 ∧ Rf id k = 0
theorem Zr_sI {n : Nat} {M : Mm} {Rf : Nat → Nat → Nat} {a k : Nat} {v : Int32} (h : Zr n M Rf) (ha : a < n) : Zr n (sI M a k v) Rf := fun id hi j => ⟨by rw [show (sI M a k v).1 id j = M.1 id j from up2_ne k j v (by omega)]; exact (h id hi j).1, (h id hi j).2⟩
theorem Zr_sL {n : Nat} {M : Mm} {Rf : Nat → Nat → Nat} {a k : Nat} {v : Int64} (h : Zr n M Rf) (ha : a < n) : Zr n (sL M a k v) Rf := fun id hi j => ⟨(h id hi j).1, by rw [show (sL M a k v).2 id j = M.2 id j from up2_ne k j v (by omega)]; exact (h id hi j).2.1, (h id hi j).2.2⟩
theorem Zr_up {n : Nat} {M : Mm} {Rf : Nat → Nat → Nat} {a k r : Nat} (h : Zr n M Rf) (ha : a < n) : Zr n M (up2 Rf a k r) := fun id hi j => ⟨(h id hi j).1, (h id hi j).2.1, by rw [up2_ne k j r (by omega)]; exact (h id hi j).2.2⟩
theorem Zr_mono {n n' : Nat} {M : Mm} {Rf : Nat → Nat → Nat} (h : Zr n M Rf) (hn : n ≤ n') : Zr n' M Rf := fun id hi j => h id (Nat.le_trans hn hi) j
def upR (Rf : Nat → Nat → Nat) (a N : Nat) : Nat → Nat → Nat := fun b k => if b = a ∧ k < N then a + 1 + k else Rf b k
theorem Zr_upR {n : Nat} {M : Mm} {Rf : Nat → Nat → Nat} {a N : Nat} (h : Zr n M Rf) (ha : a < n) : Zr n M (upR Rf a N) := fun id hi j => ⟨(h id hi j).1, (h id hi j).2.1, by show (if _ then _ else _) = 0; rw [if_neg (by omega)]; exact (h id hi j).2.2⟩
def CI (own : String) (idx : Nat) (y : MethodName) (yc : ByteArray) (maxL na : Nat) : Prop := Cond.methodLink own idx y ∈ gt ∧ Cond.instanceMethod y ∈ gt ∧ Cond.initialized y.cls ∈ gt ∧ Cond.code y yc maxL none ∈ gt ∧ y.name = "<init>" ∧ (y.cls ≠ "java/lang/invoke/MethodHandle" ∧ y.cls ≠ "java/lang/invoke/VarHandle" ∧ (parseMethodDescriptor y.desc).map (fun d => d.parameters.length) = some na) ∧ maxL ≤ 41
def CIN (own : String) (idx : Nat) (y : MethodName) (yc : ByteArray) (maxL na : Nat) : Prop := (∀ U, NWs U → va_Nw (.methodLinkNest own idx y RX11) U) ∧ Cond.instanceMethod y ∈ gt ∧ Cond.initialized y.cls ∈ gt ∧ Cond.code y yc maxL none ∈ gt ∧ y.name = "<init>" ∧ (y.cls ≠ "java/lang/invoke/MethodHandle" ∧ y.cls ≠ "java/lang/invoke/VarHandle" ∧ (parseMethodDescriptor y.desc).map (fun d => d.parameters.length) = some na) ∧ maxL ≤ 41
theorem Emb.grow {E : En} {n : Nat} {Rf : Nat → Nat → Nat} {M : Mm} {H H' : Heap} (h : Emb E n Rf true M H) (hz : H'.size = H.size + 1) (ho : ∀ q : Nat, q < H.size → H'[q]? = H[q]?) (hc : Cel E Rf M H' n) : Emb E (n + 1) Rf true M H' := by
  have hs := h.2.2 rfl
  refine ⟨fun id h1 h2 => ?_, by omega, fun _ => by omega⟩
  by_cases he : id = n
  · rw [he]; exact hc
  · exact (h.1 id h1 (by omega)).kept (ho _ (by omega)) (fun _ => rfl) (fun _ => rfl) (fun _ => rfl)
theorem va_S.grow {A : Nat → Prop} {H0 H H' : Heap} {locs : List Loc} (h : va_S A H0 H locs) (hz : H.size ≤ H'.size) (ho : ∀ q : Nat, q < H.size → H'[q]? = H[q]?) : va_S A H0 H' locs := ⟨Nat.le_trans h.1 hz, fun q h1 h2 => (ho q (Nat.lt_of_lt_of_le h1 h.1)).trans (h.2.1 q h1 h2), h.2.2⟩
theorem arrV_congr (cI : ClassId) (N : Nat) {f f' : Nat → Value} (h : ∀ j, j < N → f j = f' j) : arrV cI N f = arrV cI N f' := by
  unfold arrV
  congr 2
  funext j
  exact h j.val j.isLt
section GC
variable {g : Gm} {l0 : Launch} {E : En} {cc : ByteArray} {own : String} {nL d mc ms n : Nat} {Rf : Nat → Nat → Nat} {ex : Bool} {cn sn pc : Nat} {lv : List (Nat × Value)} {st : List Value} {M : Mm}
theorem g_objI (hg : Ok g l0 E cc own nL (d + 1) mc ms) {idx id : Nat} (hw : Cond.methodLink own idx Lib.objectInit ∈ gt) (hcat : (st.map fun v => v.category).sum ≤ 8) (hd : decode cc pc = .ok (.invokespecial idx, 3)) (kk : WG g E nL n Rf ex cn sn (pc + 3) lv st M) : WG g E nL n Rf ex cn sn pc lv (rr E.1 id :: st) M := by
  obtain ⟨p, l, e, R, s, m, args, below, meth, c, Q⟩ := g
  obtain ⟨hll, hx, hb, hml, hown, hts, hSt, hlk, hfr, hlo, hrc, hrs⟩ := hg
  exact fun H locs ls hl hE hS => W.objInit hx hb hown (hts _ hw) (hts _ wx1_30) (hts _ wx1_31) rfl (by rw [hml]; exact hl.1) rfl hd (by omega) (by show 2 * 0 + _ + 12 ≤ _; omega) (kk H locs ls hl hE hS)
theorem g_new (hg : Ok g l0 E cc own nL d mc ms) {idx ci : Nat} {C : String} {T : u_T} {N : Nat} (hci : vwCl[ci]? = some (C, T, N)) (hl2 : lay n = .inl ci) (hw : Cond.classLink own idx C ∈ gt ∧ Cond.instantiable C N ∈ gt ∧ Cond.initialized C ∈ gt) (hz : Zr n M Rf) (hcs : cn + 1 ≤ mc ∧ sn + N ≤ ms) (hd : decode cc pc = .ok (.new idx, 3)) (kk : WG g E nL (n + 1) Rf true (cn + 1) (sn + N) (pc + 3) lv (rr E.1 n :: st) M) : WG g E nL n Rf true cn sn pc lv st M := by
  obtain ⟨p, l, e, R, s, m, args, below, meth, c, Q⟩ := g
  obtain ⟨hll, hx, hb, hml, hown, hts, hSt, hlk, hfr, hlo, hrc, hrs⟩ := hg
  intro H locs ls hl hE hS
  have hKn := hSt.1.1 ci _ hci
  have hsz := hE.2.2 rfl
  refine W.newcK hx hb hown (hts _ hw.1) (hts _ hw.2.1) (hts _ hw.2.2) rfl hd (by rw [hrc]; exact hcs.1) (by rw [hrs]; exact hcs.2) hKn.2.1 hsz fun H1 kC hkC e1 z1 o1 => ?_
  obtain ⟨ty, hty, hdv⟩ := dv_ok ci _ hci
  have hB := u_born ty hts (cls_ok ci _ hci).1 hKn hkC e1 hty
  refine kk H1 locs ls hl (hE.grow (by omega) (fun q hq => o1 q (by omega)) (Cel.ofObj hl2 ?_)) (hS.grow (by omega) (fun q hq => o1 q (by omega)))
  rw [nFl_eq hci]
  refine hB.to (fun k hk => ?_)
  rw [hdv k hk]
  obtain ⟨z1, z2, z3⟩ := hz n (Nat.le_refl _) k
  simp only [dfl, fv, z1, z2, z3, rv]
  rfl
theorem g_newa (hg : Ok g l0 E cc own nL d mc ms) {t N : Nat} {atype : ArrayType} {x : Int32} {ty : FieldType} (hta : newarray.typeOf atype = ty) (htt : ∀ cs : Nat → ClassId, (tysOf cs)[t]? = some (cs t, ty)) (hra : ∀ (U : State) (c : ClassId), va_RA U c ty → U.vm.findClass ("[" ++ ty.toString) = some c) (hl2 : lay n = .inr (t, N)) (hav : ∀ (S : Nat) (Rf : Nat → Nat → Nat) (M : Mm) (i j : Nat), M.1 i j = 0 → M.2 i j = 0 → av S Rf M t i j = defaultValue ty) (hw : Cond.arrayClass ty ∈ gt) (hx0 : ¬ x < 0) (hN : x.toNatClampNeg = N) (hby : N * componentBytes ty ≤ 536870912) (hz : Zr n M Rf) (hcs : cn + 1 ≤ mc ∧ sn + N ≤ ms) (hd : decode cc pc = .ok (.newarray atype, 2)) (kk : WG g E nL (n + 1) Rf true (cn + 1) (sn + N) (pc + 2) lv (rr E.1 n :: st) M) : WG g E nL n Rf true cn sn pc lv (.int x :: st) M := by
  subst hta
  obtain ⟨p, l, e, R, s, m, args, below, meth, c, Q⟩ := g
  obtain ⟨hll, hx, hb, hml, hown, hts, hSt, hlk, hfr, hlo, hrc, hrs⟩ := hg
  intro H locs ls hl hE hS
  have hsz := hE.2.2 rfl
  refine va_newaK hx hb (hts _ hw) rfl hd rfl hx0 hN hby (by rw [hrc]; exact hcs.1) (by rw [hrs]; exact hcs.2) hsz fun H1 cA e1 z1 o1 hAr hNm => ?_
  have hcA : cA = E.2.2 t := Option.some.inj (hNm.symm.trans (hra _ _ (hSt.1.2 t _ (htt E.2.2)).2))
  subst hcA
  refine kk H1 locs ls hl (hE.grow (by omega) (fun q hq => o1 q (by omega)) (Cel.ofArr hl2 ?_)) (hS.grow (by omega) (fun q hq => o1 q (by omega)))
  rw [e1]
  congr 2
  funext j
  exact (hav _ _ _ _ _ (hz n (Nat.le_refl _) j).1 (hz n (Nat.le_refl _) j).2.1).symm
theorem g_anew (hg : Ok g l0 E cc own nL d mc ms) {idx N : Nat} {x : Int32} (hl2 : lay n = .inr (3, N)) (hw : Cond.classLink own idx RX7 ∈ gt) (hx0 : ¬ x < 0) (hN : x.toNatClampNeg = N) (hby : N * 4 ≤ 536870912) (hz : Zr n M Rf) (hcs : cn + 1 ≤ mc ∧ sn + N ≤ ms) (hd : decode cc pc = .ok (.anewarray idx, 3)) (kk : WG g E nL (n + 1) Rf true (cn + 1) (sn + N) (pc + 3) lv (rr E.1 n :: st) M) : WG g E nL n Rf true cn sn pc lv (.int x :: st) M := by
  subst hN
  obtain ⟨p, l, e, R, s, m, args, below, meth, c, Q⟩ := g
  obtain ⟨hll, hx, hb, hml, hown, hts, hSt, hlk, hfr, hlo, hrc, hrs⟩ := hg
  intro H locs ls hl hE hS
  have hsz := hE.2.2 rfl
  refine W.anew hx hb hown (hts _ hw) (va_AO.use hSt.2.1.2.2.2.2.1) rfl hd rfl hx0 hby (by rw [hrc]; exact hcs.1) (by rw [hrs]; exact hcs.2) fun cA kA comp f1 f2 f3 f4 => ?_
  obtain ⟨kA2, comp2, g1, g2, g3, g4⟩ := (hSt.1.2 3 _ rfl).2
  have hcA : cA = E.2.2 3 := Option.some.inj (f1.symm.trans g4)
  subst hcA
  have e0 : (F0 m (pc + 3) ls (.ref H.size :: st)) = F0 m (pc + 3) ls (rr E.1 n :: st) := by rw [hsz]; rfl
  refine W.eq e0 ?_
  refine kk _ locs ls hl (hE.grow (by rw [Array.size_push]) (fun q hq => by rw [Array.getElem?_push, if_neg (Nat.ne_of_lt hq)]) (Cel.ofArr hl2 ?_)) (hS.grow (by rw [Array.size_push]; omega) (fun q hq => by rw [Array.getElem?_push, if_neg (Nat.ne_of_lt hq)]))
  rw [← hsz, Array.getElem?_push_size, arrV_new]
  congr 2
  funext j
  simp [av, rv, (hz n (Nat.le_refl _) j).2.2]
theorem g_mna (hg : Ok g l0 E cc own nL d mc ms) {idx N K : Nat} {x y : Int32} (hl2 : lay n = .inr (4, N)) (hl3 : ∀ j, j < N → lay (n + 1 + j) = .inr (0, K)) (hw : Cond.classLink own idx "[[I" ∈ gt) (hac : Cond.arrayClass .int ∈ gt) (hx0 : ¬ x < 0) (hy0 : ¬ y < 0) (hN : x.toNatClampNeg = N) (hK : y.toNatClampNeg = K) (hby : N * 4 ≤ 536870912 ∧ K * 4 ≤ 536870912 ∧ K ≤ 536870912) (hz : Zr n M Rf) (hcs : cn + (1 + N) ≤ mc ∧ sn + (N + N * K) ≤ ms) (hd : decode cc pc = .ok (.multianewarray idx 2, 4)) (kk : WG g E nL (n + 1 + N) (upR Rf n N) true (cn + 1 + N) (sn + N + N * K) (pc + 4) lv (rr E.1 n :: st) M) : WG g E nL n Rf true cn sn pc lv (.int y :: .int x :: st) M := by
  subst hN
  subst hK
  obtain ⟨p, l, e, R, s, m, args, below, meth, c, Q⟩ := g
  obtain ⟨hll, hx, hb, hml, hown, hts, hSt, hlk, hfr, hlo, hrc, hrs⟩ := hg
  intro H locs ls hl hE hS
  have hsz := hE.2.2 rfl
  intro T hT Xs
  obtain ⟨vm₁, cA, comp, -, fA, fC, hO, -, X', step⟩ := Xs.multianewarray2F (ty := .int) hx hown (hts _ hw) hSt.2.1.2.2.2.2.2.1 (hts _ hac) (g := F0 m pc ls (.int y :: .int x :: st)) rfl (by rw [hb]; exact hd) rfl hx0 hy0 hby.1 hby.2.1 hby.2.2 rfl rfl (by rw [hrc]; exact hcs.1) (by rw [hrs]; exact hcs.2)
  have hcI : comp = E.2.2 0 := Option.some.inj (fC.symm.trans (hSt.1.2 0 _ rfl).2)
  have hcA : cA = E.2.2 4 := Option.some.inj (fA.symm.trans (hSt.1.2 4 _ rfl).2)
  subst hcI
  subst hcA
  generalize hF : Jvm.Free.Multi.fill (T.setVm vm₁) (E.2.2 4) (E.2.2 0) x.toNatClampNeg y.toNatClampNeg (defaultValue .int) x.toNatClampNeg = F at X' step
  have hTh : (T.setVm vm₁).heap = H := hT
  obtain ⟨f1, f2, -, -⟩ := Jvm.Free.Multi.fill_facts (T.setVm vm₁) (E.2.2 4) (E.2.2 0) x.toNatClampNeg y.toNatClampNeg (defaultValue .int) x.toNatClampNeg
  rw [hF, hTh] at f1 f2
  have hold : ∀ q : Nat, q < H.size → F.heap[q]? = H[q]? := fun q hq => by
    have := Jvm.Free.Multi.fill_old (T.setVm vm₁) (E.2.2 4) (E.2.2 0) x.toNatClampNeg y.toNatClampNeg (defaultValue .int) (a := q) (by rw [hTh]; exact hq) x.toNatClampNeg
    rw [hF, hTh] at this
    exact this
  have hrow : ∀ j : Nat, j < x.toNatClampNeg → F.heap[H.size + 1 + j]? = some (arrV (E.2.2 0) y.toNatClampNeg (fun _ => .int 0)) := fun j hj => by
    have := Jvm.Free.Multi.fill_inner (T.setVm vm₁) (E.2.2 4) (E.2.2 0) x.toNatClampNeg y.toNatClampNeg (defaultValue .int) x.toNatClampNeg j hj
    rw [hF, hTh] at this
    rw [this]
    exact congrArg some (arrV_new _ _ _)
  rw [vr_outer] at f2
  have e0 : (F0 m (pc + 4) ls (.ref T.heap.size :: st)) = F0 m (pc + 4) ls (rr E.1 n :: st) := by rw [hT, hsz]; rfl
  have hemb : Emb E (n + 1 + x.toNatClampNeg) (upR Rf n x.toNatClampNeg) true M F.heap := by
    refine ⟨fun id h1 h2 => ?_, by omega, fun _ => by omega⟩
    by_cases c1 : id < n
    · refine (hE.1 id h1 c1).kept (hold _ (by omega)) (fun _ => rfl) (fun _ => rfl) (fun k => ?_)
      unfold upR
      rw [if_neg (by omega)]
    · by_cases c2 : id = n
      · subst c2
        refine Cel.ofArr hl2 ?_
        rw [← hsz, f2]
        show some (arrV _ _ _) = some (arrV _ _ _)
        congr 1
        refine arrV_congr _ _ (fun j hj => ?_)
        have hj' : j < x.toNatClampNeg := hj
        have h7 : upR Rf id x.toNatClampNeg id j = id + 1 + j := if_pos ⟨rfl, hj'⟩
        show va_rf (if j < x.toNatClampNeg then some (H.size + 1 + j) else none) = rv E.1 (upR Rf id x.toNatClampNeg id j)
        rw [h7, if_pos hj', rv_rr (by omega), hsz]
        exact congrArg Value.ref (by omega : E.1 + id + 1 + j = E.1 + (id + 1 + j))
      · obtain ⟨j, hj, rfl⟩ : ∃ j, j < x.toNatClampNeg ∧ id = n + 1 + j := ⟨id - n - 1, by omega, by omega⟩
        refine Cel.ofArr (hl3 j hj) ?_
        have hr := hrow j hj
        rw [hsz] at hr
        rw [show E.1 + (n + 1 + j) = E.1 + n + 1 + j by omega, hr]
        congr 2
        funext k
        simp [av, (hz (n + 1 + j) (by omega) k).1]
  have hs2 : va_S (fun q => E.1 < q) s.heap F.heap locs := hS.grow (by omega) hold
  have K2 := kk F.heap locs ls hl hemb hs2
  rw [← e0] at K2
  obtain ⟨t, a1, b1⟩ := K2 F rfl X'
  exact ⟨t, step t a1, b1⟩
theorem g_aast (hg : Ok g l0 E cc own nL d mc ms) {id N r : Nat} {i : Int32} (hl2 : lay id = .inr (3, N)) (hi : 0 < id ∧ id < n) (hl3 : lay r = .inl 7) (hr : 0 < r ∧ r < n) (hin : vp_in i N) (hd : decode cc pc = .ok (.aastore, 1)) (kk : WG g E nL n (up2 Rf id i.toNatClampNeg r) ex cn sn (pc + 1) lv st M) : WG g E nL n Rf ex cn sn pc lv (rr E.1 r :: .int i :: rr E.1 id :: st) M := by
  obtain ⟨p, l, e, R, s, m, args, below, meth, c, Q⟩ := g
  obtain ⟨hll, hx, hb, hml, hown, hts, hSt, hlk, hfr, hlo, hrc, hrs⟩ := hg
  intro H locs ls hl hE hS
  have hlt : i.toNatClampNeg < N := Nat.not_le.mp fun q => hin (Or.inr q)
  have h0 : ¬ i < 0 := fun q => hin (Or.inl q)
  obtain ⟨cellV, g1, g2, g3, -⟩ := (hE.1 r hr.1 hr.2).obj hl3
  have hcls := (hSt.1.1 7 _ rfl).2
  obtain ⟨kA, comp, k1, k2, k3, -⟩ := (hSt.1.2 3 _ rfl).2
  have hcomp : comp = E.2.1.1 7 := Option.some.inj (k3.symm.trans hcls.1)
  subst hcomp
  obtain ⟨kC, hkC, -⟩ := hcls.2
  refine W.aast hx hb ((hE.1 id hi.1 hi.2).arr hl2) (fun q h => by cases h) (fun h => by cases h) k1 k2 rfl hkC ⟨h0, by show _ < (arrV _ _ _).slots.size; rw [arrV_size]; exact hlt⟩ g1 (fun q h => by rw [g3] at h; cases h) (by rw [g2]; exact hkC) (by rw [g2]; exact va_assign hcls) rfl rfl hd fun H1 e1 z oq => ?_
  refine kk H1 _ ls hl (hE.put (M' := M) (Rf' := up2 Rf id i.toNatClampNeg r) (Cel.ofArr hl2 ?_) z oq (fun _ _ => rfl) (fun _ _ => rfl) (fun b h => up2_row _ r h)) (hS.put z oq (by show E.1 < E.1 + id; omega))
  rw [e1]
  show some ((arrV _ _ _).setSlot _ _) = _
  rw [arrV_store]
  congr 2
  funext q
  by_cases hq : q = i.toNatClampNeg
  · subst hq
    simp [updV, av, up2, rv, Nat.ne_of_gt hr.1]
  · simp [updV, av, up2, hq]
def FF (own : String) (idx ci k : Nat) (ty : FieldType) : Prop := ∃ (C : String) (T : u_T) (N : Nat), vwCl[ci]? = some (C, T, N) ∧ k < N ∧ Cond.fieldLink own idx (T k).1 (T k).2.1 (T k).2.2.1 ∈ gt ∧ (T k).2.2.2 = true ∧ parseFieldDescriptor (T k).2.2.1 = some ty ∧ (T k).1 = own
theorem g_putF (hg : Ok g l0 E cc own nL d mc ms) {idx ci k id r : Nat} {ty : FieldType} (hnm0 : (match g with | (_, _, _, _, _, _, _, _, meth, _, _) => meth.name = "<init>")) (hf : FF own idx ci k ty) (hl2 : lay id = .inl ci) (ht : ftc ci k = 2) (hi : 0 < id ∧ id < n) (h0 : 0 < r) (hn : narrow ty (rr E.1 r) = rr E.1 r) (hfit : fits ty (rr E.1 r) = true) (hd : decode cc pc = .ok (.putfield idx, 3)) (kk : WG g E nL n (up2 Rf id k r) ex cn sn (pc + 3) lv st M) : WG g E nL n Rf ex cn sn pc lv (rr E.1 r :: rr E.1 id :: st) M := by
  obtain ⟨p, l, e, R, s, m, args, below, meth, c, Q⟩ := g
  obtain ⟨hll, hx, hb, hml, hown, hts, hSt, hlk, hfr, hlo, hrc, hrs⟩ := hg
  intro H locs ls hl hE hS
  obtain ⟨C, T, N, hc, hk, hw, hfin, hty, hdecl⟩ := hf
  obtain ⟨hin, ty0, hty0, hnm⟩ := cls_ok ci _ hc
  have hap := va_apart (own := own) (args := args) (s := s) hts hin ty0 hty0 hnm hSt.1 hc
  obtain ⟨cell, q1, q2, q3, q4⟩ := (hE.1 id hi.1 hi.2).obj hl2
  rw [nFl_eq hc] at q4
  obtain ⟨hS', hfc, kC, hkC, hkind⟩ := hSt.1.1 ci _ hc
  obtain ⟨cf, kf, fi, f, hif, hsl⟩ := hS' k hk
  have hlay := hts _ (hin _ (u_in_lay hk))
  unfold u_lay at hlay
  rw [if_pos hfin] at hlay
  have hst := (u_facts hfc hkC (u_lays hts hin hk) hif).1
  have hcf : m.cls = cf := by
    obtain ⟨_, _, c', _, _, _, -, -, hf', -, -, -, hown2, -⟩ := Cond.laysFinal_spec hlay
    have e1 : c' = cf := by have := hif.symm.trans hf'; simp at this; exact this.1.symm
    rw [hdecl] at hown2
    rw [← e1]; exact Option.some.inj (hown.symm.trans hown2)
  have h6 := u_fits hfc hkC hkind (Or.inr hlay) hif hty hn hfit
  refine W.putFinK hx hb hown (hts _ hw) hif hst hcf hnm0 (by rw [q2]; exact h6) q1 q3 (by rw [hsl]; exact k2_hasslot (q4 k hk)) rfl rfl hd fun H' e1 e2 e3 => ?_
  rw [hsl] at e1 ⊢
  have hO : t_OB (E.1 + id) (E.2.1.1 ci) (nFl ci) (E.2.1.2 ci) H' (updV (fv E.1 Rf M ci id) k (rr E.1 r)) := by
    rw [nFl_eq hc]
    exact ⟨_, e1, q2, q3, t_set q4 hap hk _⟩
  refine kk H' _ ls hl (hE.put (M' := M) (Rf' := up2 Rf id k r) (Cel.ofObj hl2 (hO.to (fun j _ => ?_))) e2 e3 (fun _ _ => rfl) (fun _ _ => rfl) (fun b h => up2_row k r h)) (hS.put e2 e3 (by show E.1 < E.1 + id; omega))
  by_cases hj : j = k
  · subst hj
    simp [updV, fv, ht, up2, rv_rr h0]
  · simp [updV, fv, up2, hj]
theorem g_callI (hg : Ok g l0 E cc own nL (d + 1) mc ms) {idx b na maxL n' mc' ms' : Nat} {y : MethodName} {yc : ByteArray} {As rest : List Value} {Rf' : Nat → Nat → Nat} {M' : Mm} (hc : Ct l0 E y yc maxL none d mc' ms' (rr E.1 b :: As) ex n Rf M n' Rf' none M') (hw : CI own idx y yc maxL na) (hn : As.length = na) (hst : st = As.reverse ++ rr E.1 b :: rest) (hcat : (rest.map fun v => v.category).sum ≤ 8) (hcs : cn + mc' ≤ mc ∧ sn + ms' ≤ ms) (hd : decode cc pc = .ok (.invokespecial idx, 3)) (kk : WG g E nL n' Rf' ex (cn + mc') (sn + ms') (pc + 3) lv rest M') : WG g E nL n Rf ex cn sn pc lv st M := by
  obtain ⟨p, l, e, R, s, m, args, below, meth, c, Q⟩ := g
  obtain ⟨hll, hx, hb, hml, hown, hts, hSt, hlk, hfr, hlo, hrc, hrs⟩ := hg
  obtain ⟨w1, w2, w3, w4, w5, w6, w7⟩ := hw
  subst hll
  subst hst
  intro H locs ls hl hE hS
  have hG : GoodIn gt (.code y yc maxL none :: gt) := gt_good (fun _ h => h) (fun w h => by
    rcases List.mem_cons.mp h with rfl | h
    · exact w4
    · exact h)
  exact run_go (va_runI (As := As) (rest := rest) ⟨hx, hb, hml, hown, hts⟩ hc (cwI na hts hG rfl rfl rfl (hts _ w3) (hts _ w1) (hts _ w2) w5 w6 ⟨hfr, by show 8 + (maxL + 11) + 60 * d ≤ R.locals; omega⟩) ⟨Ps.blind, fun U hU hW => ⟨rfl, by rw [hU]; exact hE, hSt.moved hW hS hU⟩⟩ rfl hn hl.1 rfl (lv_room hcat) hd ⟨by rw [hrc]; exact hcs.1, by rw [hrs]; exact hcs.2⟩) hS (fun H1 locs1 hE1 hS1 => kk H1 locs1 ls hl hE1 hS1)
theorem g_callIN (hg : Ok g l0 E cc own nL (d + 1) mc ms) {idx b na maxL n' mc' ms' : Nat} {y : MethodName} {yc : ByteArray} {As rest : List Value} {Rf' : Nat → Nat → Nat} {M' : Mm} (hc : Ct l0 E y yc maxL none d mc' ms' (rr E.1 b :: As) ex n Rf M n' Rf' none M') (hw : CIN own idx y yc maxL na) (hn : As.length = na) (hst : st = As.reverse ++ rr E.1 b :: rest) (hcat : (rest.map fun v => v.category).sum ≤ 8) (hcs : cn + mc' ≤ mc ∧ sn + ms' ≤ ms) (hd : decode cc pc = .ok (.invokespecial idx, 3)) (kk : WG g E nL n' Rf' ex (cn + mc') (sn + ms') (pc + 3) lv rest M') : WG g E nL n Rf ex cn sn pc lv st M := by
  obtain ⟨p, l, e, R, s, m, args, below, meth, c, Q⟩ := g
  obtain ⟨hll, hx, hb, hml, hown, hts, hSt, hlk, hfr, hlo, hrc, hrs⟩ := hg
  obtain ⟨w1, w2, w3, w4, w5, w6, w7⟩ := hw
  subst hll
  subst hst
  intro H locs ls hl hE hS
  have hG : GoodIn gt (.code y yc maxL none :: gt) := gt_good (fun _ h => h) (fun w h => by
    rcases List.mem_cons.mp h with rfl | h
    · exact w4
    · exact h)
  exact run_go (va_runIN (As := As) (rest := rest) ⟨hx, hb, hml, hown, hts⟩ hc ⟨va_cnB na hts hG rfl rfl rfl (w1 _ hSt.2.1) (hts _ w3) w6 ⟨hfr, by show 8 + (maxL + 11) + 60 * d ≤ R.locals; omega⟩, w5, hts _ w2⟩ ⟨Ps.blind, fun U hU hW => ⟨rfl, by rw [hU]; exact hE, hSt.moved hW hS hU⟩⟩ rfl hn hl.1 rfl (lv_room hcat) hd ⟨by rw [hrc]; exact hcs.1, by rw [hrs]; exact hcs.2⟩) hS (fun H1 locs1 hE1 hS1 => kk H1 locs1 ls hl hE1 hS1)
end GC
