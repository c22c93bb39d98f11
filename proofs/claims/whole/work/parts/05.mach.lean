abbrev Mm : Type := (Nat → Nat → Int32) × (Nat → Nat → Int64)
def up2 {α : Type} (f : Nat → Nat → α) (a k : Nat) (v : α) : Nat → Nat → α := fun b j => if b = a ∧ j = k then v else f b j
def sI (M : Mm) (a k : Nat) (v : Int32) : Mm := (up2 M.1 a k v, M.2)
def sL (M : Mm) (a k : Nat) (v : Int64) : Mm := (M.1, up2 M.2 a k v)
abbrev En : Type := Nat × va_G × (Nat → ClassId)
def rv (S k : Nat) : Value := if k = 0 then .null else .ref (S + k)
def rr (S k : Nat) : Value := .ref (S + k)
theorem rv_rr {S k : Nat} (h : 0 < k) : rv S k = rr S k := if_neg (Nat.ne_of_gt h)
def fv (S : Nat) (Rf : Nat → Nat → Nat) (M : Mm) (ci id k : Nat) : Value := if ftc ci k = 0 then .int (M.1 id k) else if ftc ci k = 1 then .long (M.2 id k) else rv S (Rf id k)
def av (S : Nat) (Rf : Nat → Nat → Nat) (M : Mm) (t id j : Nat) : Value := if t ≤ 1 then .int (M.1 id j) else if t = 2 then .long (M.2 id j) else rv S (Rf id j)
def nFl (ci : Nat) : Nat := (vwCl.getD ci ("", TX0, 0)).2.2
def Cel (E : En) (Rf : Nat → Nat → Nat) (M : Mm) (H : Heap) (id : Nat) : Prop := match lay id with
  | .inl ci => t_OB (E.1 + id) (E.2.1.1 ci) (nFl ci) (E.2.1.2 ci) H (fv E.1 Rf M ci id)
  | .inr q => H[E.1 + id]? = some (arrV (E.2.2 q.1) q.2 (av E.1 Rf M q.1 id))
def Emb (E : En) (n : Nat) (Rf : Nat → Nat → Nat) (ex : Bool) (M : Mm) (H : Heap) : Prop := (∀ id, 0 < id → id < n → Cel E Rf M H id) ∧ E.1 + n ≤ H.size ∧ (ex = true → H.size = E.1 + n)
theorem Cel.obj {E : En} {Rf : Nat → Nat → Nat} {M : Mm} {H : Heap} {id ci : Nat} (h : Cel E Rf M H id) (hl : lay id = .inl ci) : t_OB (E.1 + id) (E.2.1.1 ci) (nFl ci) (E.2.1.2 ci) H (fv E.1 Rf M ci id) := by
  unfold Cel at h
  rw [hl] at h
  exact h
theorem Cel.arr {E : En} {Rf : Nat → Nat → Nat} {M : Mm} {H : Heap} {id : Nat} {q : Nat × Nat} (h : Cel E Rf M H id) (hl : lay id = .inr q) : H[E.1 + id]? = some (arrV (E.2.2 q.1) q.2 (av E.1 Rf M q.1 id)) := by
  unfold Cel at h
  rw [hl] at h
  exact h
theorem Cel.ofObj {E : En} {Rf : Nat → Nat → Nat} {M : Mm} {H : Heap} {id ci : Nat} (hl : lay id = .inl ci) (h : t_OB (E.1 + id) (E.2.1.1 ci) (nFl ci) (E.2.1.2 ci) H (fv E.1 Rf M ci id)) : Cel E Rf M H id := by
  unfold Cel
  rw [hl]
  exact h
theorem Cel.ofArr {E : En} {Rf : Nat → Nat → Nat} {M : Mm} {H : Heap} {id : Nat} {q : Nat × Nat} (hl : lay id = .inr q) (h : H[E.1 + id]? = some (arrV (E.2.2 q.1) q.2 (av E.1 Rf M q.1 id))) : Cel E Rf M H id := by
  unfold Cel
  rw [hl]
  exact h
theorem Cel.kept {E : En} {Rf Rf' : Nat → Nat → Nat} {M M' : Mm} {H H' : Heap} {id : Nat} (h : Cel E Rf M H id) (hq : H'[E.1 + id]? = H[E.1 + id]?) (h1 : ∀ k, M'.1 id k = M.1 id k) (h2 : ∀ k, M'.2 id k = M.2 id k) (h3 : ∀ k, Rf' id k = Rf id k) : Cel E Rf' M' H' id := by
  cases hl : lay id with
  | inl ci =>
    refine Cel.ofObj hl (((h.obj hl).kept hq).to (fun k _ => ?_))
    simp only [fv, h1, h2, h3]
  | inr q =>
    refine Cel.ofArr hl ?_
    rw [hq, h.arr hl]
    congr 2
    funext j
    simp only [av, h1, h2, h3]
theorem up2_ne {α : Type} {f : Nat → Nat → α} {a b : Nat} (k j : Nat) (v : α) (h : b ≠ a) : up2 f a k v b j = f b j := by simp [up2, h]
theorem up2_row {α : Type} {f : Nat → Nat → α} {a b : Nat} (k : Nat) (v : α) (h : b ≠ a) : up2 f a k v b = f b := by
  funext j
  exact up2_ne k j v h
theorem up2_self {α : Type} (f : Nat → Nat → α) (a k : Nat) (v : α) : up2 f a k v a k = v := by simp [up2]
theorem up2_col {α : Type} {f : Nat → Nat → α} {a k j : Nat} (v : α) (h : j ≠ k) : up2 f a k v a j = f a j := by simp [up2, h]
theorem up2_at {α : Type} (f : Nat → Nat → α) (a k j : Nat) (v : α) : up2 f a k v a j = if j = k then v else f a j := by simp [up2]
/-- a cell is written: the others stay -/
theorem Emb.put {E : En} {n : Nat} {Rf Rf' : Nat → Nat → Nat} {ex : Bool} {M M' : Mm} {H H' : Heap} {id : Nat} (h : Emb E n Rf ex M H) (hc : Cel E Rf' M' H' id) (z : H'.size = H.size) (oq : ∀ q : Nat, q ≠ E.1 + id → H'[q]? = H[q]?) (h1 : ∀ b, b ≠ id → M'.1 b = M.1 b) (h2 : ∀ b, b ≠ id → M'.2 b = M.2 b) (h3 : ∀ b, b ≠ id → Rf' b = Rf b) : Emb E n Rf' ex M' H' := by
  refine ⟨fun b h4 h5 => ?_, by rw [z]; exact h.2.1, fun e => by rw [z]; exact h.2.2 e⟩
  by_cases hb : b = id
  · rw [hb]; exact hc
  · exact (h.1 b h4 h5).kept (oq _ (by omega)) (fun k => by rw [h1 b hb]) (fun k => by rw [h2 b hb]) (fun k => by rw [h3 b hb])
def gt : List Cond := lw_tbl.filter goodWord
theorem gt_in {w : Cond} (h : w ∈ lw_tbl) (hg : goodWord w = true) : w ∈ gt := List.mem_filter.mpr ⟨h, hg⟩
theorem gt_gd {w : Cond} (h : w ∈ gt) : (w.onTables && w.keeps) = true ∨ ∃ ty, w = .arrayClass ty := good_of_word (List.mem_filter.mp h).2
theorem gt_good {big : List Cond} (hb : ∀ w ∈ gt, w ∈ big) {ws : List Cond} (h : ∀ w ∈ ws, w ∈ gt) : GoodIn big ws := fun w hw => ⟨hb w (h w hw), gt_gd (h w hw)⟩
def tyA (t : Nat) : FieldType := match t with
  | 0 => .int
  | 1 => .boolean
  | 2 => .long
  | 3 => .object RX7
  | _ => .array .int
def tysOf (cs : Nat → ClassId) : List (ClassId × FieldType) := [(cs 0, .int), (cs 1, .boolean), (cs 2, .long), (cs 3, .object RX7), (cs 4, .array .int)]
def tLEAST (j : Nat) : Int32 := ([0, 0, -1, 0, -1] : List Int32).getD j 0
def tMOST (j : Nat) : Int32 := ([999, 3, 99, 99, 5] : List Int32).getD j 0
def tFIRST (j : Nat) : Int32 := ([0, 0, -1, 1, -1] : List Int32).getD j 0
def SAt (nm : String) (f : Nat → Int32) (S : Nat) (U : State) (H : Heap) : Prop := ∃ t : Nat, va_Z RX6 nm "[I" (.ref t) (fun q => S < q) U H ∧ va_T .int t 5 (fun j => .int (f j)) (fun q => S < q) U H
def tWORDS : List Int32 := [115, 97, 110, 100, 32, 115, 105, 108, 116, 32, 108, 111, 97, 109, 32, 99, 108, 97, 121, 32, 112, 101, 97, 116, 32, 99, 104, 97, 108, 107, 32, 98, 108, 97, 99, 107, 32, 98, 114, 111, 119, 110, 32, 114, 101, 100, 32, 103, 114, 101, 121, 32, 119, 104, 105, 116, 101, 32, 109, 111, 116, 116, 108, 101, 100, 32, 115, 116, 111, 110, 101, 115, 32, 99, 109, 32, 111, 114, 32, 97, 110, 100, 32, 110, 111, 116, 32, 97, 108, 119, 97, 121, 115, 32, 97, 110, 121, 32, 97, 108, 108, 32, 97, 116, 32, 116, 104, 105, 99, 107, 32, 102, 114, 111, 109, 32, 100, 101, 101, 112]
def WTX : String := "sand silt loam clay peat chalk black brown red grey white mottled stones cm or and not always any all at thick from deep"
def JDs (E : En) (U : State) (H : Heap) : Prop := (vk_R RX10 23 WTX (E.2.2 10) U ∧ va_O "java/lang/String" (E.2.2 10) (fun q => E.1 < q) U H ∧ va_OF "java/lang/String" "coder" "B" (.int 0) (E.2.2 10) (fun q => E.1 < q) U H ∧ va_OF "java/lang/String" "value" "[B" (.ref (E.2.2 11)) (E.2.2 10) (fun q => E.1 < q) U H ∧ va_T .byte (E.2.2 11) 120 (fun j => .int (tWORDS.getD j 0)) (fun q => E.1 < q) U H) ∧ va_Z "java/lang/String" "COMPACT_STRINGS" "Z" (.int 1) (fun q => E.1 < q) U H ∧ (∃ a : Nat, vk_R RX11 221 "no such cell" a U) ∧ (∃ a : Nat, vk_R RX11 228 "no such what" a U) ∧ vx_Zq Bundle.tN "UNASSIGNED_STACK" Bundle.steD (fun q => E.1 < q) U H ∧ vx_Zq Bundle.tN "SUPPRESSED_SENTINEL" Bundle.listD (fun q => E.1 < q) U H ∧ va_Zq RJ3 "SIOOBE_FORMATTER" "Ljava/util/function/BiFunction;" (fun q => E.1 < q) U H
theorem JDs.moved {E : En} {u U : State} {H H1 : Heap} (hW : u.WarmedH U.vm) (hq : ∀ a : Nat, a < H.size → ¬ E.1 < a → H1[a]? = H[a]?) (h : JDs E u H) : JDs E U H1 := by
  obtain ⟨⟨h1, h2, h3, h4, h5⟩, h6, ⟨b, h7⟩, ⟨c, h8⟩, h9, h10, h11⟩ := h
  exact ⟨⟨h1.warm hW, (h2.kept hq).moved hW.alike, (h3.kept hq).moved hW.alike, (h4.kept hq).moved hW.alike, (h5.kept hq).moved hW.alike⟩, (h6.kept hq).moved hW.alike, ⟨b, h7.warm hW⟩, ⟨c, h8.warm hW⟩, (h9.kept hq).moved hW.alike, (h10.kept hq).moved hW.alike, (h11.kept hq).moved hW.alike⟩
theorem JDs.same {E : En} {u U : State} {H : Heap} (hv : u.vm = U.vm) (h : JDs E u H) : JDs E U H := by
  have hA : u.vm.Alike U.vm := by rw [hv]; exact Vm.Alike.refl _
  obtain ⟨⟨h1, h2, h3, h4, h5⟩, h6, ⟨b, h7⟩, ⟨c, h8⟩, h9, h10, h11⟩ := h
  exact ⟨⟨h1.same hv.symm, h2.moved hA, h3.moved hA, h4.moved hA, h5.moved hA⟩, h6.moved hA, ⟨b, h7.same hv.symm⟩, ⟨c, h8.same hv.symm⟩, h9.moved hA, h10.moved hA, h11.moved hA⟩
def SAs (E : En) (U : State) (H : Heap) : Prop := SAt "LEAST" tLEAST E.1 U H ∧ SAt "MOST" tMOST E.1 U H ∧ SAt "AT_FIRST" tFIRST E.1 U H ∧ JDs E U H
theorem SAt.moved {nm : String} {f : Nat → Int32} {S : Nat} {u U : State} {H H1 : Heap} (hvm : u.vm.Alike U.vm) (hq : ∀ a : Nat, a < H.size → ¬ S < a → H1[a]? = H[a]?) (h : SAt nm f S u H) : SAt nm f S U H1 := by
  obtain ⟨t, h1, h2⟩ := h
  exact ⟨t, (h1.kept hq).moved hvm, (h2.kept hq).moved hvm⟩
theorem SAs.moved {E : En} {u U : State} {H H1 : Heap} (hW : u.WarmedH U.vm) (hq : ∀ a : Nat, a < H.size → ¬ E.1 < a → H1[a]? = H[a]?) (h : SAs E u H) : SAs E U H1 := ⟨h.1.moved hW.alike hq, h.2.1.moved hW.alike hq, h.2.2.1.moved hW.alike hq, h.2.2.2.moved hW hq⟩
theorem SAs.same {E : En} {u U : State} {H : Heap} (hv : u.vm = U.vm) (h : SAs E u H) : SAs E U H := by
  have hA : u.vm.Alike U.vm := by rw [hv]; exact Vm.Alike.refl _
  exact ⟨h.1.moved hA (fun _ _ _ => rfl), h.2.1.moved hA (fun _ _ _ => rfl), h.2.2.1.moved hA (fun _ _ _ => rfl), h.2.2.2.same hv⟩
def va_AOA (U : State) : Prop := (Cond.arrayOver (.array .int)).before #[] U = true
theorem va_AOA.moved {u U : State} (hvm : u.vm.Alike U.vm) (h : va_AOA u) : va_AOA U := by
  obtain ⟨comp, c, k, h1, h2, h3, h4, h5⟩ := arrayOverA_spec h
  obtain ⟨k', hk', he⟩ := hvm.2.2 _ _ h3
  have hi : (U.vm.classes.findIdx? fun (x : Class) => match x.kind with | .array component _ => component == comp | _ => false) = some c := by
    refine (va_idx_bare U.vm comp).symm.trans ?_
    have e3 := va_idx_bare u.vm comp
    first | (rw [hvm.bare_eq]; exact e3.trans h2) | (rw [← hvm.bare_eq]; exact e3.trans h2)
  have hkind : k'.kind = .array comp (.array .int) := by rw [he]; exact h4
  have f1 : U.vm.findClass (FieldType.array .int).toString = some comp := by rw [hvm.findClass]; exact h1
  have f2 : U.vm.findClass ("[" ++ (FieldType.array .int).toString) = some c := by rw [hvm.findClass]; exact h5
  unfold va_AOA Cond.before Cond.holds
  simp only [Cond.value]
  rw [f1, Option.bind_some]
  refine (congrArg (fun o : Option Nat => (o.bind (fun c => (U.vm.classes[c]?).map fun (k : Class) => match k.kind with | .array _ ty => decide (ty = FieldType.array .int) && decide (U.vm.findClass ("[" ++ (FieldType.array .int).toString) = some c) | _ => false) == some true)) hi).trans ?_
  simp [hk', hkind, f2]
def xIO : String := "java/lang/IndexOutOfBoundsException"
def xNS : String := "java/util/NoSuchElementException"
def nRT : String := "java/lang/RuntimeException"
def nEX : String := "java/lang/Exception"
def NWs (U : State) : Prop := va_Nw (.fieldLinkNest RX3 62 RX2 "kinds" "I" RX11) U ∧ va_Nw (.methodLinkNest RX5 11 yX4_init RX11) U ∧ va_Nw (.methodLinkNest RX11 33 yX4_init RX11) U ∧ va_Nw (.methodLinkNest RX1 25 yX7_init RX11) U ∧ va_AO RX7 U ∧ va_AOA U ∧ va_Nw (.castable xIO xIO) U ∧ va_Nw (.castable xNS xNS) U ∧ va_Nc xNS xIO U ∧ va_Nw (.declares (Bundle.initS nRT)) U ∧ va_Nw (.declares (Bundle.initS nEX)) U ∧ va_Nw (.declares (Bundle.initS Bundle.tN)) U
theorem NWs.moved {s U : State} (hW : s.WarmedH U.vm) (h : NWs s) : NWs U := ⟨h.1.warmF hW, h.2.1.warmM hW, h.2.2.1.warmM hW, h.2.2.2.1.warmM hW, h.2.2.2.2.1.moved hW.alike, h.2.2.2.2.2.1.moved hW.alike, h.2.2.2.2.2.2.1.warmC hW, h.2.2.2.2.2.2.2.1.warmC hW, h.2.2.2.2.2.2.2.2.1.moved hW.alike, h.2.2.2.2.2.2.2.2.2.1.warmD hW, h.2.2.2.2.2.2.2.2.2.2.1.warmD hW, h.2.2.2.2.2.2.2.2.2.2.2.warmD hW⟩
theorem NWs.same {s U : State} (hv : s.vm = U.vm) (h : NWs s) : NWs U := ⟨h.1.same rfl hv, h.2.1.same rfl hv, h.2.2.1.same rfl hv, h.2.2.2.1.same rfl hv, h.2.2.2.2.1.moved (by rw [hv]; exact Vm.Alike.refl _), h.2.2.2.2.2.1.moved (by rw [hv]; exact Vm.Alike.refl _), h.2.2.2.2.2.2.1.same rfl hv, h.2.2.2.2.2.2.2.1.same rfl hv, h.2.2.2.2.2.2.2.2.1.moved (by rw [hv]; exact Vm.Alike.refl _), h.2.2.2.2.2.2.2.2.2.1.same rfl hv, h.2.2.2.2.2.2.2.2.2.2.1.same rfl hv, h.2.2.2.2.2.2.2.2.2.2.2.same rfl hv⟩
def Stt (E : En) (U : State) : Prop := va_K E.2.1 vwCl (tysOf E.2.2) U ∧ NWs U ∧ SAs E U U.heap ∧ E.1 < U.heap.size
theorem Stt.moved {E : En} {s U : State} {H : Heap} {locs : List Loc} (hW : s.WarmedH U.vm) (hS : va_S (fun q => E.1 < q) s.heap H locs) (hU : U.heap = H) (h : Stt E s) : Stt E U :=
  ⟨h.1.moved hW.alike, h.2.1.moved hW, by rw [hU]; exact h.2.2.1.moved hW hS.2.1, by rw [hU]; exact Nat.lt_of_lt_of_le h.2.2.2 hS.1⟩
abbrev Gm : Type := Program × Launch × Env × Room × State × MethodId × Array Value × List Frame × Method × Code × (State → Prop)
def WG (g : Gm) (E : En) (nL n : Nat) (Rf : Nat → Nat → Nat) (ex : Bool) (cn sn pc : Nat) (lv : List (Nat × Value)) (st : List Value) (M : Mm) : Prop :=
  match g with
  | (p, l, e, R, s, m, args, below, meth, c, Q) => ∀ (H : Heap) (locs : List Loc) (ls : Array Slot), lv_has ls nL lv → Emb E n Rf ex M H → va_S (fun q => E.1 < q) s.heap H locs → W p l e R s m args below meth c H locs cn sn Q (F0 m pc ls st)
def Ok (g : Gm) (l0 : Launch) (E : En) (cc : ByteArray) (own : String) (nL d mc ms : Nat) : Prop :=
  match g with
  | (p, l, _, R, s, m, args, _, meth, c, _) => l = l0 ∧ p.tables.exec = Jvm.exec ∧ c.code = cc ∧ c.maxLocals = nL ∧ s.vm.findClass own = some m.cls ∧ (∀ w ∈ gt, w.before args s = true) ∧ Stt E s ∧ meth.locks = false ∧ d ≤ R.frames ∧ 60 * d ≤ R.locals ∧ R.cells = mc ∧ R.slots = ms
def Ps (E : En) (n : Nat) (Rf : Nat → Nat → Nat) (ex : Bool) (M : Mm) (U : State) : Prop := Emb E n Rf ex M U.heap ∧ Stt E U
def Qs (E : En) (n : Nat) (Rf : Nat → Nat → Nat) (ex : Bool) (M : Mm) (r : Option Value) : Array Value → State → Outcome → State → Prop := fun _ st oc t => oc = .returned r ∧ Emb E n Rf ex M t.heap ∧ va_F (fun q => E.1 < q) st t
def rmd (d mc ms : Nat) : Room := { frames := d, cells := mc, slots := ms, locals := 60 * d }
/-- a contract -/
def Ct (l : Launch) (E : En) (y : MethodName) (cc : ByteArray) (maxL : Nat) (ret : Option FieldType) (d mc ms : Nat) (as : List Value) (ex : Bool) (n : Nat) (Rf : Nat → Nat → Nat) (M : Mm) (n' : Nat) (Rf' : Nat → Nat → Nat) (r : Option Value) (M' : Mm) : Prop :=
  Met l y (.code y cc maxL ret :: gt) (rmd d mc ms) (va_Pc as (Ps E n Rf ex M)) (Qs E n' Rf' ex M' r) mc ms (fun q => E.1 < q)
def Ret (g : Gm) (E : En) (mc ms : Nat) (ret : Option FieldType) (ex : Bool) (n : Nat) (Rf : Nat → Nat → Nat) (r : Option Value) (M : Mm) : Prop :=
  match g with
  | (_, _, _, _, s, _, args, below, meth, _, Q) => Q = MQ below (Qs E n Rf ex M r) args s mc ms (fun q => E.1 < q) ∧ meth.sig.returnType = ret
theorem Ct.of {l : Launch} {E : En} {y : MethodName} {cc : ByteArray} {maxL : Nat} {ret : Option FieldType} {d mc ms : Nat} {as : List Value} {ex : Bool} {n : Nat} {Rf : Nat → Nat → Nat} {M : Mm} {n' : Nat} {Rf' : Nat → Nat → Nat} {r : Option Value} {M' : Mm} (hy : plainName y.cls = true) (hm : (lg_sl as).length ≤ maxL)
    (h : ∀ g : Gm, Ok g l E cc y.cls maxL d mc ms → Ret g E mc ms ret ex n' Rf' r M' → (match g with | (_, _, _, _, _, _, _, _, meth, _, _) => meth.name = y.name) → WG g E maxL n Rf ex 0 0 0 (lv_args 0 as) [] M) : Ct l E y cc maxL ret d mc ms as ex n Rf M n' Rf' r M' := by
  refine Met.ofW (cc := cc) (maxL := maxL) (ret := ret) hy rfl ?_
  intro p e s m args below meth c s₁ B hml hv
  obtain ⟨rfl, hE, hSt⟩ := hv
  have hts : ∀ w ∈ gt, w.before as.toArray s = true := fun w hw => atoms_spec (ws := .code y cc maxL ret :: gt) B.pre w (List.mem_cons_of_mem _ hw)
  have hown : s.vm.findClass y.cls = some m.cls := findClass_of_methodNamed B.named
  have hin : meth.name = y.name := (name_of_methodNamed B.named B.method).1
  have K := h (p, l, e, rmd d mc ms, s, m, as.toArray, below, meth, c, MQ below (Qs E n' Rf' ex M' r) as.toArray s mc ms (fun q => E.1 < q)) ⟨rfl, B.exec, B.bytes, hml, hown, hts, hSt, B.notSynchronized, Nat.le_refl _, Nat.le_refl _, rfl, rfl⟩ ⟨rfl, B.returns⟩ hin
  have hl := lv_entry as (n := maxL) hm
  rw [lg_entry_eq]
  exact K s.heap [] _ hl hE va_S.rf
section GR
variable {g : Gm} {l0 : Launch} {E : En} {cc : ByteArray} {own : String} {nL d mc ms n : Nat} {Rf : Nat → Nat → Nat} {ex : Bool} {cn sn pc : Nat} {lv : List (Nat × Value)} {st : List Value} {M : Mm}
theorem g_iconst (hg : Ok g l0 E cc own nL d mc ms) {k : Int} {v : Int32} (hd : decode cc pc = .ok (.iconst k, 1)) (hv : Int32.ofInt k = v) (kk : WG g E nL n Rf ex cn sn (pc + 1) lv (.int v :: st) M) : WG g E nL n Rf ex cn sn pc lv st M := by
  obtain ⟨p, l, e, R, s, m, args, below, meth, c, Q⟩ := g
  exact fun H locs ls hl hE hS => lv_iconst hg.2.1 hg.2.2.1 hd hv (kk H locs ls hl hE hS)
theorem g_bipush (hg : Ok g l0 E cc own nL d mc ms) {k : Int} {v : Int32} (hd : decode cc pc = .ok (.bipush k, 2)) (hv : (Int8.ofInt k).toInt32 = v) (kk : WG g E nL n Rf ex cn sn (pc + 2) lv (.int v :: st) M) : WG g E nL n Rf ex cn sn pc lv st M := by
  obtain ⟨p, l, e, R, s, m, args, below, meth, c, Q⟩ := g
  exact fun H locs ls hl hE hS => lv_bipush hg.2.1 hg.2.2.1 hd hv (kk H locs ls hl hE hS)
theorem g_sipush (hg : Ok g l0 E cc own nL d mc ms) {k : Int} {v : Int32} (hd : decode cc pc = .ok (.sipush k, 3)) (hv : (Int16.ofInt k).toInt32 = v) (kk : WG g E nL n Rf ex cn sn (pc + 3) lv (.int v :: st) M) : WG g E nL n Rf ex cn sn pc lv st M := by
  obtain ⟨p, l, e, R, s, m, args, below, meth, c, Q⟩ := g
  exact fun H locs ls hl hE hS => lv_sipush hg.2.1 hg.2.2.1 hd hv (kk H locs ls hl hE hS)
theorem g_lconst (hg : Ok g l0 E cc own nL d mc ms) {k : Fin 2} {v : Int64} (hd : decode cc pc = .ok (.lconst k, 1)) (hv : Int64.ofNat (k : Nat) = v) (kk : WG g E nL n Rf ex cn sn (pc + 1) lv (.long v :: st) M) : WG g E nL n Rf ex cn sn pc lv st M := by
  obtain ⟨p, l, e, R, s, m, args, below, meth, c, Q⟩ := g
  exact fun H locs ls hl hE hS => lv_lconst hg.2.1 hg.2.2.1 hd hv (kk H locs ls hl hE hS)
theorem g_iload_n (hg : Ok g l0 E cc own nL d mc ms) {k : Fin 4} {i : Nat} {x : Int32} (hd : decode cc pc = .ok (.iload_n k, 1)) (hi : (k : Nat) = i) (j : Nat) (hj : lv[j]? = some (i, .int x)) (kk : WG g E nL n Rf ex cn sn (pc + 1) lv (.int x :: st) M) : WG g E nL n Rf ex cn sn pc lv st M := by
  obtain ⟨p, l, e, R, s, m, args, below, meth, c, Q⟩ := g
  exact fun H locs ls hl hE hS => lv_iload_n hg.2.1 hg.2.2.1 hd hi (lv_at hl j hj) (kk H locs ls hl hE hS)
theorem g_iload (hg : Ok g l0 E cc own nL d mc ms) {i : Nat} {x : Int32} (hd : decode cc pc = .ok (.iload i, 2)) (j : Nat) (hj : lv[j]? = some (i, .int x)) (kk : WG g E nL n Rf ex cn sn (pc + 2) lv (.int x :: st) M) : WG g E nL n Rf ex cn sn pc lv st M := by
  obtain ⟨p, l, e, R, s, m, args, below, meth, c, Q⟩ := g
  exact fun H locs ls hl hE hS => lv_iload hg.2.1 hg.2.2.1 hd (lv_at hl j hj) (kk H locs ls hl hE hS)
theorem g_istore_n (hg : Ok g l0 E cc own nL d mc ms) {k : Fin 4} {i : Nat} {x : Int32} {lv' : List (Nat × Value)} (hd : decode cc pc = .ok (.istore_n k, 1)) (hi : (k : Nat) = i) (hn : i < nL) (hl' : (i, Value.int x) :: lv.filter (fun q => !(q.1 == i) && !(q.1 + 1 == i && q.2.category == 2)) = lv') (kk : WG g E nL n Rf ex cn sn (pc + 1) lv' st M) : WG g E nL n Rf ex cn sn pc lv (.int x :: st) M := by
  obtain ⟨p, l, e, R, s, m, args, below, meth, c, Q⟩ := g
  exact fun H locs ls hl hE hS => lv_istore_n hg.2.1 hg.2.2.1 hd hi hl hn hl' (fun ls' hl2 => kk H locs ls' hl2 hE hS)
theorem g_istore (hg : Ok g l0 E cc own nL d mc ms) {i : Nat} {x : Int32} {lv' : List (Nat × Value)} (hd : decode cc pc = .ok (.istore i, 2)) (hn : i < nL) (hl' : (i, Value.int x) :: lv.filter (fun q => !(q.1 == i) && !(q.1 + 1 == i && q.2.category == 2)) = lv') (kk : WG g E nL n Rf ex cn sn (pc + 2) lv' st M) : WG g E nL n Rf ex cn sn pc lv (.int x :: st) M := by
  obtain ⟨p, l, e, R, s, m, args, below, meth, c, Q⟩ := g
  exact fun H locs ls hl hE hS => lv_istore hg.2.1 hg.2.2.1 hd hl hn hl' (fun ls' hl2 => kk H locs ls' hl2 hE hS)
theorem g_lload_n (hg : Ok g l0 E cc own nL d mc ms) {k : Fin 4} {i : Nat} {x : Int64} (hd : decode cc pc = .ok (.lload_n k, 1)) (hi : (k : Nat) = i) (j : Nat) (hj : lv[j]? = some (i, .long x)) (kk : WG g E nL n Rf ex cn sn (pc + 1) lv (.long x :: st) M) : WG g E nL n Rf ex cn sn pc lv st M := by
  obtain ⟨p, l, e, R, s, m, args, below, meth, c, Q⟩ := g
  exact fun H locs ls hl hE hS => lv_lload_n hg.2.1 hg.2.2.1 hd hi (lv_at hl j hj) (kk H locs ls hl hE hS)
theorem g_lload (hg : Ok g l0 E cc own nL d mc ms) {i : Nat} {x : Int64} (hd : decode cc pc = .ok (.lload i, 2)) (j : Nat) (hj : lv[j]? = some (i, .long x)) (kk : WG g E nL n Rf ex cn sn (pc + 2) lv (.long x :: st) M) : WG g E nL n Rf ex cn sn pc lv st M := by
  obtain ⟨p, l, e, R, s, m, args, below, meth, c, Q⟩ := g
  exact fun H locs ls hl hE hS => lv_lload hg.2.1 hg.2.2.1 hd (lv_at hl j hj) (kk H locs ls hl hE hS)
theorem g_lstore_n (hg : Ok g l0 E cc own nL d mc ms) {k : Fin 4} {i : Nat} {x : Int64} {lv' : List (Nat × Value)} (hd : decode cc pc = .ok (.lstore_n k, 1)) (hi : (k : Nat) = i) (hn : i + 1 < nL) (hl' : (i, Value.long x) :: lv.filter (fun q => !(q.1 == i) && (!(q.1 == i + 1) && !(q.1 + 1 == i && q.2.category == 2))) = lv') (kk : WG g E nL n Rf ex cn sn (pc + 1) lv' st M) : WG g E nL n Rf ex cn sn pc lv (.long x :: st) M := by
  obtain ⟨p, l, e, R, s, m, args, below, meth, c, Q⟩ := g
  exact fun H locs ls hl hE hS => lv_lstore_n hg.2.1 hg.2.2.1 hd hi hl hn hl' (fun ls' hl2 => kk H locs ls' hl2 hE hS)
theorem g_lstore (hg : Ok g l0 E cc own nL d mc ms) {i : Nat} {x : Int64} {lv' : List (Nat × Value)} (hd : decode cc pc = .ok (.lstore i, 2)) (hn : i + 1 < nL) (hl' : (i, Value.long x) :: lv.filter (fun q => !(q.1 == i) && (!(q.1 == i + 1) && !(q.1 + 1 == i && q.2.category == 2))) = lv') (kk : WG g E nL n Rf ex cn sn (pc + 2) lv' st M) : WG g E nL n Rf ex cn sn pc lv (.long x :: st) M := by
  obtain ⟨p, l, e, R, s, m, args, below, meth, c, Q⟩ := g
  exact fun H locs ls hl hE hS => lv_lstore hg.2.1 hg.2.2.1 hd hl hn hl' (fun ls' hl2 => kk H locs ls' hl2 hE hS)
theorem g_aload_n (hg : Ok g l0 E cc own nL d mc ms) {k : Fin 4} {i : Nat} {x : Nat} (hd : decode cc pc = .ok (.aload_n k, 1)) (hi : (k : Nat) = i) (j : Nat) (hj : lv[j]? = some (i, .ref x)) (kk : WG g E nL n Rf ex cn sn (pc + 1) lv (.ref x :: st) M) : WG g E nL n Rf ex cn sn pc lv st M := by
  obtain ⟨p, l, e, R, s, m, args, below, meth, c, Q⟩ := g
  exact fun H locs ls hl hE hS => lv_aload_n hg.2.1 hg.2.2.1 hd hi (lv_at hl j hj) (kk H locs ls hl hE hS)
theorem g_aload (hg : Ok g l0 E cc own nL d mc ms) {i : Nat} {x : Nat} (hd : decode cc pc = .ok (.aload i, 2)) (j : Nat) (hj : lv[j]? = some (i, .ref x)) (kk : WG g E nL n Rf ex cn sn (pc + 2) lv (.ref x :: st) M) : WG g E nL n Rf ex cn sn pc lv st M := by
  obtain ⟨p, l, e, R, s, m, args, below, meth, c, Q⟩ := g
  exact fun H locs ls hl hE hS => lv_aload hg.2.1 hg.2.2.1 hd (lv_at hl j hj) (kk H locs ls hl hE hS)
theorem g_astore_n (hg : Ok g l0 E cc own nL d mc ms) {k : Fin 4} {i : Nat} {x : Nat} {lv' : List (Nat × Value)} (hd : decode cc pc = .ok (.astore_n k, 1)) (hi : (k : Nat) = i) (hn : i < nL) (hl' : (i, Value.ref x) :: lv.filter (fun q => !(q.1 == i) && !(q.1 + 1 == i && q.2.category == 2)) = lv') (kk : WG g E nL n Rf ex cn sn (pc + 1) lv' st M) : WG g E nL n Rf ex cn sn pc lv (.ref x :: st) M := by
  obtain ⟨p, l, e, R, s, m, args, below, meth, c, Q⟩ := g
  exact fun H locs ls hl hE hS => lv_astore_n hg.2.1 hg.2.2.1 hd hi hl hn hl' (fun ls' hl2 => kk H locs ls' hl2 hE hS)
theorem g_astore (hg : Ok g l0 E cc own nL d mc ms) {i : Nat} {x : Nat} {lv' : List (Nat × Value)} (hd : decode cc pc = .ok (.astore i, 2)) (hn : i < nL) (hl' : (i, Value.ref x) :: lv.filter (fun q => !(q.1 == i) && !(q.1 + 1 == i && q.2.category == 2)) = lv') (kk : WG g E nL n Rf ex cn sn (pc + 2) lv' st M) : WG g E nL n Rf ex cn sn pc lv (.ref x :: st) M := by
  obtain ⟨p, l, e, R, s, m, args, below, meth, c, Q⟩ := g
  exact fun H locs ls hl hE hS => lv_astore hg.2.1 hg.2.2.1 hd hl hn hl' (fun ls' hl2 => kk H locs ls' hl2 hE hS)
theorem g_iinc (hg : Ok g l0 E cc own nL d mc ms) {i : Nat} {k : Int} {x v : Int32} {lv' : List (Nat × Value)} (hd : decode cc pc = .ok (.iinc i k, 3)) (j : Nat) (hj : lv[j]? = some (i, .int x)) (hv : x + Int32.ofInt k = v) (hn : i < nL) (hl' : (i, Value.int v) :: lv.filter (fun q => !(q.1 == i) && !(q.1 + 1 == i && q.2.category == 2)) = lv') (kk : WG g E nL n Rf ex cn sn (pc + 3) lv' st M) : WG g E nL n Rf ex cn sn pc lv st M := by
  obtain ⟨p, l, e, R, s, m, args, below, meth, c, Q⟩ := g
  exact fun H locs ls hl hE hS => lv_iinc hg.2.1 hg.2.2.1 hd hl hj hv hn hl' (fun ls' hl2 => kk H locs ls' hl2 hE hS)
theorem g_iadd (hg : Ok g l0 E cc own nL d mc ms) {x y : Int32} (hd : decode cc pc = .ok (.iadd, 1)) (kk : WG g E nL n Rf ex cn sn (pc + 1) lv (.int (x + y) :: st) M) : WG g E nL n Rf ex cn sn pc lv (.int y :: .int x :: st) M := by
  obtain ⟨p, l, e, R, s, m, args, below, meth, c, Q⟩ := g
  exact fun H locs ls hl hE hS => lv_iadd hg.2.1 hg.2.2.1 hd (kk H locs ls hl hE hS)
theorem g_isub (hg : Ok g l0 E cc own nL d mc ms) {x y : Int32} (hd : decode cc pc = .ok (.isub, 1)) (kk : WG g E nL n Rf ex cn sn (pc + 1) lv (.int (x - y) :: st) M) : WG g E nL n Rf ex cn sn pc lv (.int y :: .int x :: st) M := by
  obtain ⟨p, l, e, R, s, m, args, below, meth, c, Q⟩ := g
  exact fun H locs ls hl hE hS => lv_isub hg.2.1 hg.2.2.1 hd (kk H locs ls hl hE hS)
theorem g_imul (hg : Ok g l0 E cc own nL d mc ms) {x y : Int32} (hd : decode cc pc = .ok (.imul, 1)) (kk : WG g E nL n Rf ex cn sn (pc + 1) lv (.int (x * y) :: st) M) : WG g E nL n Rf ex cn sn pc lv (.int y :: .int x :: st) M := by
  obtain ⟨p, l, e, R, s, m, args, below, meth, c, Q⟩ := g
  exact fun H locs ls hl hE hS => lv_imul hg.2.1 hg.2.2.1 hd (kk H locs ls hl hE hS)
theorem g_iand (hg : Ok g l0 E cc own nL d mc ms) {x y : Int32} (hd : decode cc pc = .ok (.iand, 1)) (kk : WG g E nL n Rf ex cn sn (pc + 1) lv (.int (x &&& y) :: st) M) : WG g E nL n Rf ex cn sn pc lv (.int y :: .int x :: st) M := by
  obtain ⟨p, l, e, R, s, m, args, below, meth, c, Q⟩ := g
  exact fun H locs ls hl hE hS => lv_iand hg.2.1 hg.2.2.1 hd (kk H locs ls hl hE hS)
theorem g_ior (hg : Ok g l0 E cc own nL d mc ms) {x y : Int32} (hd : decode cc pc = .ok (.ior, 1)) (kk : WG g E nL n Rf ex cn sn (pc + 1) lv (.int (x ||| y) :: st) M) : WG g E nL n Rf ex cn sn pc lv (.int y :: .int x :: st) M := by
  obtain ⟨p, l, e, R, s, m, args, below, meth, c, Q⟩ := g
  exact fun H locs ls hl hE hS => lv_ior hg.2.1 hg.2.2.1 hd (kk H locs ls hl hE hS)
theorem g_ixor (hg : Ok g l0 E cc own nL d mc ms) {x y : Int32} (hd : decode cc pc = .ok (.ixor, 1)) (kk : WG g E nL n Rf ex cn sn (pc + 1) lv (.int (x ^^^ y) :: st) M) : WG g E nL n Rf ex cn sn pc lv (.int y :: .int x :: st) M := by
  obtain ⟨p, l, e, R, s, m, args, below, meth, c, Q⟩ := g
  exact fun H locs ls hl hE hS => lv_ixor hg.2.1 hg.2.2.1 hd (kk H locs ls hl hE hS)
theorem g_ishl (hg : Ok g l0 E cc own nL d mc ms) {x y : Int32} (hd : decode cc pc = .ok (.ishl, 1)) (kk : WG g E nL n Rf ex cn sn (pc + 1) lv (.int (x <<< (y &&& 31)) :: st) M) : WG g E nL n Rf ex cn sn pc lv (.int y :: .int x :: st) M := by
  obtain ⟨p, l, e, R, s, m, args, below, meth, c, Q⟩ := g
  exact fun H locs ls hl hE hS => lv_ishl hg.2.1 hg.2.2.1 hd (kk H locs ls hl hE hS)
theorem g_ishr (hg : Ok g l0 E cc own nL d mc ms) {x y : Int32} (hd : decode cc pc = .ok (.ishr, 1)) (kk : WG g E nL n Rf ex cn sn (pc + 1) lv (.int (x >>> (y &&& 31)) :: st) M) : WG g E nL n Rf ex cn sn pc lv (.int y :: .int x :: st) M := by
  obtain ⟨p, l, e, R, s, m, args, below, meth, c, Q⟩ := g
  exact fun H locs ls hl hE hS => lv_ishr hg.2.1 hg.2.2.1 hd (kk H locs ls hl hE hS)
theorem g_ladd (hg : Ok g l0 E cc own nL d mc ms) {x y : Int64} (hd : decode cc pc = .ok (.ladd, 1)) (kk : WG g E nL n Rf ex cn sn (pc + 1) lv (.long (x + y) :: st) M) : WG g E nL n Rf ex cn sn pc lv (.long y :: .long x :: st) M := by
  obtain ⟨p, l, e, R, s, m, args, below, meth, c, Q⟩ := g
  exact fun H locs ls hl hE hS => lv_ladd hg.2.1 hg.2.2.1 hd (kk H locs ls hl hE hS)
theorem g_lmul (hg : Ok g l0 E cc own nL d mc ms) {x y : Int64} (hd : decode cc pc = .ok (.lmul, 1)) (kk : WG g E nL n Rf ex cn sn (pc + 1) lv (.long (x * y) :: st) M) : WG g E nL n Rf ex cn sn pc lv (.long y :: .long x :: st) M := by
  obtain ⟨p, l, e, R, s, m, args, below, meth, c, Q⟩ := g
  exact fun H locs ls hl hE hS => lv_lmul hg.2.1 hg.2.2.1 hd (kk H locs ls hl hE hS)
theorem g_idiv (hg : Ok g l0 E cc own nL d mc ms) {x y : Int32} (hd : decode cc pc = .ok (.idiv, 1)) (hne : ¬ y = 0) (kk : WG g E nL n Rf ex cn sn (pc + 1) lv (.int (x / y) :: st) M) : WG g E nL n Rf ex cn sn pc lv (.int y :: .int x :: st) M := by
  obtain ⟨p, l, e, R, s, m, args, below, meth, c, Q⟩ := g
  exact fun H locs ls hl hE hS => lv_idiv hg.2.1 hg.2.2.1 hd hne (kk H locs ls hl hE hS)
theorem g_irem (hg : Ok g l0 E cc own nL d mc ms) {x y : Int32} (hd : decode cc pc = .ok (.irem, 1)) (hne : ¬ y = 0) (kk : WG g E nL n Rf ex cn sn (pc + 1) lv (.int (x - x / y * y) :: st) M) : WG g E nL n Rf ex cn sn pc lv (.int y :: .int x :: st) M := by
  obtain ⟨p, l, e, R, s, m, args, below, meth, c, Q⟩ := g
  exact fun H locs ls hl hE hS => lv_irem hg.2.1 hg.2.2.1 hd hne (kk H locs ls hl hE hS)
theorem g_ldiv (hg : Ok g l0 E cc own nL d mc ms) {x y : Int64} (hd : decode cc pc = .ok (.ldiv, 1)) (hne : ¬ y = 0) (kk : WG g E nL n Rf ex cn sn (pc + 1) lv (.long (x / y) :: st) M) : WG g E nL n Rf ex cn sn pc lv (.long y :: .long x :: st) M := by
  obtain ⟨p, l, e, R, s, m, args, below, meth, c, Q⟩ := g
  exact fun H locs ls hl hE hS => lv_ldiv hg.2.1 hg.2.2.1 hd hne (kk H locs ls hl hE hS)
theorem g_ineg (hg : Ok g l0 E cc own nL d mc ms) {x : Int32} (hd : decode cc pc = .ok (.ineg, 1)) (kk : WG g E nL n Rf ex cn sn (pc + 1) lv (.int (-x) :: st) M) : WG g E nL n Rf ex cn sn pc lv (.int x :: st) M := by
  obtain ⟨p, l, e, R, s, m, args, below, meth, c, Q⟩ := g
  exact fun H locs ls hl hE hS => lv_ineg hg.2.1 hg.2.2.1 hd (kk H locs ls hl hE hS)
theorem g_i2l (hg : Ok g l0 E cc own nL d mc ms) {x : Int32} (hd : decode cc pc = .ok (.i2l, 1)) (kk : WG g E nL n Rf ex cn sn (pc + 1) lv (.long x.toInt64 :: st) M) : WG g E nL n Rf ex cn sn pc lv (.int x :: st) M := by
  obtain ⟨p, l, e, R, s, m, args, below, meth, c, Q⟩ := g
  exact fun H locs ls hl hE hS => lv_i2l hg.2.1 hg.2.2.1 hd rfl (kk H locs ls hl hE hS)
theorem g_l2i (hg : Ok g l0 E cc own nL d mc ms) {x : Int64} (hd : decode cc pc = .ok (.l2i, 1)) (kk : WG g E nL n Rf ex cn sn (pc + 1) lv (.int x.toInt32 :: st) M) : WG g E nL n Rf ex cn sn pc lv (.long x :: st) M := by
  obtain ⟨p, l, e, R, s, m, args, below, meth, c, Q⟩ := g
  exact fun H locs ls hl hE hS => lv_l2i hg.2.1 hg.2.2.1 hd rfl (kk H locs ls hl hE hS)
theorem g_lcmp (hg : Ok g l0 E cc own nL d mc ms) {x y : Int64} (hd : decode cc pc = .ok (.lcmp, 1)) (kk : WG g E nL n Rf ex cn sn (pc + 1) lv (.int (lg_cmp x y) :: st) M) : WG g E nL n Rf ex cn sn pc lv (.long y :: .long x :: st) M := by
  obtain ⟨p, l, e, R, s, m, args, below, meth, c, Q⟩ := g
  exact fun H locs ls hl hE hS => W.lcmp hg.2.1 hg.2.2.1 hd (kk H locs ls hl hE hS)
theorem g_dup (hg : Ok g l0 E cc own nL d mc ms) {v : Value} (hd : decode cc pc = .ok (.dup, 1)) (hv : v.category = 1) (kk : WG g E nL n Rf ex cn sn (pc + 1) lv (v :: v :: st) M) : WG g E nL n Rf ex cn sn pc lv (v :: st) M := by
  obtain ⟨p, l, e, R, s, m, args, below, meth, c, Q⟩ := g
  exact fun H locs ls hl hE hS => lv_dup hg.2.1 hg.2.2.1 hd hv (kk H locs ls hl hE hS)
theorem g_pop (hg : Ok g l0 E cc own nL d mc ms) {v : Value} (hd : decode cc pc = .ok (.pop, 1)) (hv : v.category = 1) (kk : WG g E nL n Rf ex cn sn (pc + 1) lv st M) : WG g E nL n Rf ex cn sn pc lv (v :: st) M := by
  obtain ⟨p, l, e, R, s, m, args, below, meth, c, Q⟩ := g
  exact fun H locs ls hl hE hS => lv_pop hg.2.1 hg.2.2.1 hd hv (kk H locs ls hl hE hS)
theorem g_dup2 (hg : Ok g l0 E cc own nL d mc ms) {v w : Value} (hd : decode cc pc = .ok (.dup2, 1)) (hv : v.category = 1) (hw : w.category = 1) (kk : WG g E nL n Rf ex cn sn (pc + 1) lv (v :: w :: v :: w :: st) M) : WG g E nL n Rf ex cn sn pc lv (v :: w :: st) M := by
  obtain ⟨p, l, e, R, s, m, args, below, meth, c, Q⟩ := g
  exact fun H locs ls hl hE hS => lv_dup2_11 hg.2.1 hg.2.2.1 hd hv hw (kk H locs ls hl hE hS)
theorem g_ldc (hg : Ok g l0 E cc own nL d mc ms) {k : Nat} {v : Int32} (hd : decode cc pc = .ok (.ldc k, 2)) (hw : Cond.constant own k v ∈ gt) (kk : WG g E nL n Rf ex cn sn (pc + 2) lv (.int v :: st) M) : WG g E nL n Rf ex cn sn pc lv st M := by
  obtain ⟨p, l, e, R, s, m, args, below, meth, c, Q⟩ := g
  exact fun H locs ls hl hE hS => lv_ldc hg.2.1 hg.2.2.1 hg.2.2.2.2.1 (hg.2.2.2.2.2.1 _ hw) hd (kk H locs ls hl hE hS)
theorem g_ldcw (hg : Ok g l0 E cc own nL d mc ms) {k : Nat} {v : Int32} (hd : decode cc pc = .ok (.ldc_w k, 3)) (hw : Cond.constant own k v ∈ gt) (kk : WG g E nL n Rf ex cn sn (pc + 3) lv (.int v :: st) M) : WG g E nL n Rf ex cn sn pc lv st M := by
  obtain ⟨p, l, e, R, s, m, args, below, meth, c, Q⟩ := g
  exact fun H locs ls hl hE hS => lv_ldcw hg.2.1 hg.2.2.1 hg.2.2.2.2.1 (hg.2.2.2.2.2.1 _ hw) hd (kk H locs ls hl hE hS)
theorem g_ldc2 (hg : Ok g l0 E cc own nL d mc ms) {k : Nat} {v : Int64} (hd : decode cc pc = .ok (.ldc2_w k, 3)) (hw : Cond.constantLong own k v ∈ gt) (kk : WG g E nL n Rf ex cn sn (pc + 3) lv (.long v :: st) M) : WG g E nL n Rf ex cn sn pc lv st M := by
  obtain ⟨p, l, e, R, s, m, args, below, meth, c, Q⟩ := g
  exact fun H locs ls hl hE hS => lv_ldc2 hg.2.1 hg.2.2.1 hg.2.2.2.2.1 (hg.2.2.2.2.2.1 _ hw) hd (kk H locs ls hl hE hS)
theorem g_goto (hg : Ok g l0 E cc own nL d mc ms) {off : Int} {tgt : Nat} (hd : decode cc pc = .ok (.goto off, 3)) (ht : (pc : Int) + off = (tgt : Int)) (kk : WG g E nL n Rf ex cn sn tgt lv st M) : WG g E nL n Rf ex cn sn pc lv st M := by
  obtain ⟨p, l, e, R, s, m, args, below, meth, c, Q⟩ := g
  exact fun H locs ls hl hE hS => lv_goto hg.2.1 hg.2.2.1 hd ht (kk H locs ls hl hE hS)
theorem g_if_eq (hg : Ok g l0 E cc own nL d mc ms) {x : Int32} {off : Int} {tgt : Nat} (hd : decode cc pc = .ok (.ifCond .eq off, 3)) (ht : (pc : Int) + off = (tgt : Int)) (kt : x = 0 → WG g E nL n Rf ex cn sn tgt lv st M) (kf : ¬ x = 0 → WG g E nL n Rf ex cn sn (pc + 3) lv st M) : WG g E nL n Rf ex cn sn pc lv (.int x :: st) M := by
  obtain ⟨p, l, e, R, s, m, args, below, meth, c, Q⟩ := g
  exact fun H locs ls hl hE hS => lv_if_eq hg.2.1 hg.2.2.1 hd ht (fun h => kt h H locs ls hl hE hS) (fun h => kf h H locs ls hl hE hS)
theorem g_icmp_eq (hg : Ok g l0 E cc own nL d mc ms) {x y : Int32} {off : Int} {tgt : Nat} (hd : decode cc pc = .ok (.if_icmp .eq off, 3)) (ht : (pc : Int) + off = (tgt : Int)) (kt : x = y → WG g E nL n Rf ex cn sn tgt lv st M) (kf : ¬ x = y → WG g E nL n Rf ex cn sn (pc + 3) lv st M) : WG g E nL n Rf ex cn sn pc lv (.int y :: .int x :: st) M := by
  obtain ⟨p, l, e, R, s, m, args, below, meth, c, Q⟩ := g
  exact fun H locs ls hl hE hS => lv_icmp_eq hg.2.1 hg.2.2.1 hd ht (fun h => kt h H locs ls hl hE hS) (fun h => kf h H locs ls hl hE hS)
theorem g_if_ne (hg : Ok g l0 E cc own nL d mc ms) {x : Int32} {off : Int} {tgt : Nat} (hd : decode cc pc = .ok (.ifCond .ne off, 3)) (ht : (pc : Int) + off = (tgt : Int)) (kt : ¬ x = 0 → WG g E nL n Rf ex cn sn tgt lv st M) (kf : x = 0 → WG g E nL n Rf ex cn sn (pc + 3) lv st M) : WG g E nL n Rf ex cn sn pc lv (.int x :: st) M := by
  obtain ⟨p, l, e, R, s, m, args, below, meth, c, Q⟩ := g
  exact fun H locs ls hl hE hS => lv_if_ne hg.2.1 hg.2.2.1 hd ht (fun h => kt h H locs ls hl hE hS) (fun h => kf h H locs ls hl hE hS)
theorem g_icmp_ne (hg : Ok g l0 E cc own nL d mc ms) {x y : Int32} {off : Int} {tgt : Nat} (hd : decode cc pc = .ok (.if_icmp .ne off, 3)) (ht : (pc : Int) + off = (tgt : Int)) (kt : ¬ x = y → WG g E nL n Rf ex cn sn tgt lv st M) (kf : x = y → WG g E nL n Rf ex cn sn (pc + 3) lv st M) : WG g E nL n Rf ex cn sn pc lv (.int y :: .int x :: st) M := by
  obtain ⟨p, l, e, R, s, m, args, below, meth, c, Q⟩ := g
  exact fun H locs ls hl hE hS => lv_icmp_ne hg.2.1 hg.2.2.1 hd ht (fun h => kt h H locs ls hl hE hS) (fun h => kf h H locs ls hl hE hS)
theorem g_if_lt (hg : Ok g l0 E cc own nL d mc ms) {x : Int32} {off : Int} {tgt : Nat} (hd : decode cc pc = .ok (.ifCond .lt off, 3)) (ht : (pc : Int) + off = (tgt : Int)) (kt : x < 0 → WG g E nL n Rf ex cn sn tgt lv st M) (kf : ¬ x < 0 → WG g E nL n Rf ex cn sn (pc + 3) lv st M) : WG g E nL n Rf ex cn sn pc lv (.int x :: st) M := by
  obtain ⟨p, l, e, R, s, m, args, below, meth, c, Q⟩ := g
  exact fun H locs ls hl hE hS => lv_if_lt hg.2.1 hg.2.2.1 hd ht (fun h => kt h H locs ls hl hE hS) (fun h => kf h H locs ls hl hE hS)
theorem g_icmp_lt (hg : Ok g l0 E cc own nL d mc ms) {x y : Int32} {off : Int} {tgt : Nat} (hd : decode cc pc = .ok (.if_icmp .lt off, 3)) (ht : (pc : Int) + off = (tgt : Int)) (kt : x < y → WG g E nL n Rf ex cn sn tgt lv st M) (kf : ¬ x < y → WG g E nL n Rf ex cn sn (pc + 3) lv st M) : WG g E nL n Rf ex cn sn pc lv (.int y :: .int x :: st) M := by
  obtain ⟨p, l, e, R, s, m, args, below, meth, c, Q⟩ := g
  exact fun H locs ls hl hE hS => lv_icmp_lt hg.2.1 hg.2.2.1 hd ht (fun h => kt h H locs ls hl hE hS) (fun h => kf h H locs ls hl hE hS)
theorem g_if_ge (hg : Ok g l0 E cc own nL d mc ms) {x : Int32} {off : Int} {tgt : Nat} (hd : decode cc pc = .ok (.ifCond .ge off, 3)) (ht : (pc : Int) + off = (tgt : Int)) (kt : 0 ≤ x → WG g E nL n Rf ex cn sn tgt lv st M) (kf : ¬ 0 ≤ x → WG g E nL n Rf ex cn sn (pc + 3) lv st M) : WG g E nL n Rf ex cn sn pc lv (.int x :: st) M := by
  obtain ⟨p, l, e, R, s, m, args, below, meth, c, Q⟩ := g
  exact fun H locs ls hl hE hS => lv_if_ge hg.2.1 hg.2.2.1 hd ht (fun h => kt h H locs ls hl hE hS) (fun h => kf h H locs ls hl hE hS)
theorem g_icmp_ge (hg : Ok g l0 E cc own nL d mc ms) {x y : Int32} {off : Int} {tgt : Nat} (hd : decode cc pc = .ok (.if_icmp .ge off, 3)) (ht : (pc : Int) + off = (tgt : Int)) (kt : y ≤ x → WG g E nL n Rf ex cn sn tgt lv st M) (kf : ¬ y ≤ x → WG g E nL n Rf ex cn sn (pc + 3) lv st M) : WG g E nL n Rf ex cn sn pc lv (.int y :: .int x :: st) M := by
  obtain ⟨p, l, e, R, s, m, args, below, meth, c, Q⟩ := g
  exact fun H locs ls hl hE hS => lv_icmp_ge hg.2.1 hg.2.2.1 hd ht (fun h => kt h H locs ls hl hE hS) (fun h => kf h H locs ls hl hE hS)
theorem g_if_gt (hg : Ok g l0 E cc own nL d mc ms) {x : Int32} {off : Int} {tgt : Nat} (hd : decode cc pc = .ok (.ifCond .gt off, 3)) (ht : (pc : Int) + off = (tgt : Int)) (kt : 0 < x → WG g E nL n Rf ex cn sn tgt lv st M) (kf : ¬ 0 < x → WG g E nL n Rf ex cn sn (pc + 3) lv st M) : WG g E nL n Rf ex cn sn pc lv (.int x :: st) M := by
  obtain ⟨p, l, e, R, s, m, args, below, meth, c, Q⟩ := g
  exact fun H locs ls hl hE hS => lv_if_gt hg.2.1 hg.2.2.1 hd ht (fun h => kt h H locs ls hl hE hS) (fun h => kf h H locs ls hl hE hS)
theorem g_icmp_gt (hg : Ok g l0 E cc own nL d mc ms) {x y : Int32} {off : Int} {tgt : Nat} (hd : decode cc pc = .ok (.if_icmp .gt off, 3)) (ht : (pc : Int) + off = (tgt : Int)) (kt : y < x → WG g E nL n Rf ex cn sn tgt lv st M) (kf : ¬ y < x → WG g E nL n Rf ex cn sn (pc + 3) lv st M) : WG g E nL n Rf ex cn sn pc lv (.int y :: .int x :: st) M := by
  obtain ⟨p, l, e, R, s, m, args, below, meth, c, Q⟩ := g
  exact fun H locs ls hl hE hS => lv_icmp_gt hg.2.1 hg.2.2.1 hd ht (fun h => kt h H locs ls hl hE hS) (fun h => kf h H locs ls hl hE hS)
theorem g_if_le (hg : Ok g l0 E cc own nL d mc ms) {x : Int32} {off : Int} {tgt : Nat} (hd : decode cc pc = .ok (.ifCond .le off, 3)) (ht : (pc : Int) + off = (tgt : Int)) (kt : x ≤ 0 → WG g E nL n Rf ex cn sn tgt lv st M) (kf : ¬ x ≤ 0 → WG g E nL n Rf ex cn sn (pc + 3) lv st M) : WG g E nL n Rf ex cn sn pc lv (.int x :: st) M := by
  obtain ⟨p, l, e, R, s, m, args, below, meth, c, Q⟩ := g
  exact fun H locs ls hl hE hS => lv_if_le hg.2.1 hg.2.2.1 hd ht (fun h => kt h H locs ls hl hE hS) (fun h => kf h H locs ls hl hE hS)
theorem g_icmp_le (hg : Ok g l0 E cc own nL d mc ms) {x y : Int32} {off : Int} {tgt : Nat} (hd : decode cc pc = .ok (.if_icmp .le off, 3)) (ht : (pc : Int) + off = (tgt : Int)) (kt : x ≤ y → WG g E nL n Rf ex cn sn tgt lv st M) (kf : ¬ x ≤ y → WG g E nL n Rf ex cn sn (pc + 3) lv st M) : WG g E nL n Rf ex cn sn pc lv (.int y :: .int x :: st) M := by
  obtain ⟨p, l, e, R, s, m, args, below, meth, c, Q⟩ := g
  exact fun H locs ls hl hE hS => lv_icmp_le hg.2.1 hg.2.2.1 hd ht (fun h => kt h H locs ls hl hE hS) (fun h => kf h H locs ls hl hE hS)
theorem g_tabO (hg : Ok g l0 E cc own nL d mc ms) {dflt lo hi : Int} {offs : Array Int} {len : Nat} {x : Int32} {tgt : Nat} (hd : decode cc pc = .ok (.tableswitch dflt lo hi offs, len)) (h : x.toInt < lo ∨ hi < x.toInt) (ht : (pc : Int) + dflt = (tgt : Int)) (kk : WG g E nL n Rf ex cn sn tgt lv st M) : WG g E nL n Rf ex cn sn pc lv (.int x :: st) M := by
  obtain ⟨p, l, e, R, s, m, args, below, meth, c, Q⟩ := g
  exact fun H locs ls hl hE hS => lv_tableOut hg.2.1 hg.2.2.1 hd h ht (kk H locs ls hl hE hS)
theorem g_tabI (hg : Ok g l0 E cc own nL d mc ms) {dflt lo hi : Int} {offs : Array Int} {len : Nat} {x v : Int32} {off : Int} {tgt : Nat} (hd : decode cc pc = .ok (.tableswitch dflt lo hi offs, len)) (hx : x = v) (h : ¬ v.toInt < lo ∧ ¬ hi < v.toInt ∧ offs[(v.toInt - lo).toNat]? = some off) (ht : (pc : Int) + off = (tgt : Int)) (kk : WG g E nL n Rf ex cn sn tgt lv st M) : WG g E nL n Rf ex cn sn pc lv (.int x :: st) M := by
  obtain ⟨p, l, e, R, s, m, args, below, meth, c, Q⟩ := g
  subst hx
  exact fun H locs ls hl hE hS => lv_tableIn hg.2.1 hg.2.2.1 hd h.1 h.2.1 h.2.2 ht (kk H locs ls hl hE hS)
theorem g_lookup (hg : Ok g l0 E cc own nL d mc ms) {dflt : Int} {ps : Array (Int × Int)} {len : Nat} {x : Int32} {off : Int} {tgt : Nat} (hd : decode cc pc = .ok (.lookupswitch dflt ps, len)) (hp : (ps.toList.zip (ps.toList.drop 1)).all (fun (a, next) => a.1 < next.1) = true) (ho : Op.lookupswitch.offset ps.toList dflt x.toInt = off) (ht : (pc : Int) + off = (tgt : Int)) (kk : WG g E nL n Rf ex cn sn tgt lv st M) : WG g E nL n Rf ex cn sn pc lv (.int x :: st) M := by
  obtain ⟨p, l, e, R, s, m, args, below, meth, c, Q⟩ := g
  exact fun H locs ls hl hE hS => lv_lookup hg.2.1 hg.2.2.1 hd hp ho ht (kk H locs ls hl hE hS)
theorem g_sub {lv' : List (Nat × Value)} (ks : List Nat) (h : lv_pick lv ks = lv') (kk : WG g E nL n Rf ex cn sn pc lv' st M) : WG g E nL n Rf ex cn sn pc lv st M := by
  obtain ⟨p, l, e, R, s, m, args, below, meth, c, Q⟩ := g
  exact fun H locs ls hl hE hS => kk H locs ls (lv_sub hl ks h) hE hS
theorem g_widen {k2 n2 : Nat} (h1 : cn ≤ k2) (h2 : sn ≤ n2) (kk : WG g E nL n Rf ex k2 n2 pc lv st M) : WG g E nL n Rf ex cn sn pc lv st M := by
  obtain ⟨p, l, e, R, s, m, args, below, meth, c, Q⟩ := g
  exact fun H locs ls hl hE hS => W.widen (k := k2) (n := n2) h1 h2 (kk H locs ls hl hE hS)
end GR
