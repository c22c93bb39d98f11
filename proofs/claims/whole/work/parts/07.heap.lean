theorem nFl_eq {ci : Nat} {q : vw_C} (h : vwCl[ci]? = some q) : nFl ci = q.2.2 := by
  unfold nFl
  rw [List.getD_eq_getElem?_getD, h]
  rfl
def FL (own : String) (idx ci k : Nat) : Prop := ∃ (C : String) (T : u_T) (N : Nat), vwCl[ci]? = some (C, T, N) ∧ k < N ∧ Cond.fieldLink own idx (T k).1 (T k).2.1 (T k).2.2.1 ∈ gt
def FP (own : String) (idx ci k : Nat) (ty : FieldType) : Prop := ∃ (C : String) (T : u_T) (N : Nat), vwCl[ci]? = some (C, T, N) ∧ k < N ∧ Cond.fieldLink own idx (T k).1 (T k).2.1 (T k).2.2.1 ∈ gt ∧ (T k).2.2.2 = false ∧ parseFieldDescriptor (T k).2.2.1 = some ty
def CV (own : String) (idx : Nat) (C : String) (y : MethodName) (yc : ByteArray) (maxL : Nat) (ret : Option FieldType) (na : Nat) : Prop := Cond.methodLink own idx y ∈ gt ∧ Cond.instanceMethod y ∈ gt ∧ Cond.selects C y y ∈ gt ∧ Cond.initialized C ∈ gt ∧ Cond.code y yc maxL ret ∈ gt ∧ (y.cls = C ∧ y.cls ≠ "java/lang/invoke/MethodHandle" ∧ y.cls ≠ "java/lang/invoke/VarHandle" ∧ (parseMethodDescriptor y.desc).map (fun d => d.parameters.length) = some na) ∧ maxL ≤ 41
def CS (own : String) (idx : Nat) (y : MethodName) (yc : ByteArray) (maxL : Nat) (ret : Option FieldType) (na : Nat) : Prop := Cond.methodLink own idx y ∈ gt ∧ Cond.static y ∈ gt ∧ Cond.initialized y.cls ∈ gt ∧ Cond.code y yc maxL ret ∈ gt ∧ (y.cls ≠ "java/lang/invoke/MethodHandle" ∧ y.cls ≠ "java/lang/invoke/VarHandle" ∧ (parseMethodDescriptor y.desc).map (fun d => d.parameters.length) = some na) ∧ maxL ≤ 41
theorem Ps.blind {as : List Value} {E : En} {n : Nat} {Rf : Nat → Nat → Nat} {ex : Bool} {M : Mm} : FrameBlind (va_Pc as (Ps E n Rf ex M)) := fun a U g mk q => ⟨q.1, q.2.1, va_K.moved (u := U) (U := U.calling g mk a) (Vm.Alike.refl U.vm) q.2.2.1, NWs.same (s := U) (U := U.calling g mk a) rfl q.2.2.2.1, SAs.same (u := U) (U := U.calling g mk a) rfl q.2.2.2.2.1, q.2.2.2.2.2⟩
theorem run_go {p : Program} {l : Launch} {e : Env} {R : Room} {s : State} {m : MethodId} {args : Array Value} {below : List Frame} {meth : Method} {c : Code} {H : Heap} {locs : List Loc} {cells slots mc ms : Nat} {Q : State → Prop} {pc : Nat} {ls : Array Slot} {st0 rest : List Value} {a : Array Value} {E : En} {n : Nat} {Rf : Nat → Nat → Nat} {ex : Bool} {M : Mm} {r : Option Value}
    (hr : va_Run p l e R s m args below meth c H locs cells slots mc ms (F0 m pc ls st0) rest (Qs E n Rf ex M r a) (fun q => E.1 < q)) (hS : va_S (fun q => E.1 < q) s.heap H locs)
    (kk : ∀ (H1 : Heap) (locs1 : List Loc), Emb E n Rf ex M H1 → va_S (fun q => E.1 < q) s.heap H1 locs1 → W p l e R s m args below meth c H1 locs1 (cells + mc) (slots + ms) Q (F0 m (pc + 3) ls (r.toList ++ rest))) : W p l e R s m args below meth c H locs cells slots Q (F0 m pc ls st0) := by
  intro T hT X
  obtain ⟨v, st₀, t, T', L, h0, X', hL, e1, e2, ⟨hv, hE, hz, hk⟩, st⟩ := hr T hT X
  cases hv
  rw [h0] at hz hk
  obtain ⟨t2, a1, b1⟩ := kk T'.heap (locs ++ L) (by rw [e1]; exact hE)
    ⟨Nat.le_trans hS.1 (by rw [e1]; exact hz), fun q h1 h2 => by rw [e1, hk q (Nat.lt_of_lt_of_le h1 hS.1) h2]; exact hS.2.1 q h1 h2, fun q hq => by
      rcases List.mem_append.mp hq with h | h
      · exact hS.2.2 q h
      · exact hL q h⟩ T' rfl X'
  exact ⟨t2, st t2 a1, b1⟩
section GH
variable {g : Gm} {l0 : Launch} {E : En} {cc : ByteArray} {own : String} {nL d mc ms n : Nat} {Rf : Nat → Nat → Nat} {ex : Bool} {cn sn pc : Nat} {lv : List (Nat × Value)} {st : List Value} {M : Mm}
theorem g_get (hg : Ok g l0 E cc own nL d mc ms) {idx ci k id : Nat} (hf : FL own idx ci k) (hl2 : lay id = .inl ci) (hi : 0 < id ∧ id < n) (hd : decode cc pc = .ok (.getfield idx, 3)) (kk : WG g E nL n Rf ex cn sn (pc + 3) lv (fv E.1 Rf M ci id k :: st) M) : WG g E nL n Rf ex cn sn pc lv (rr E.1 id :: st) M := by
  obtain ⟨p, l, e, R, s, m, args, below, meth, c, Q⟩ := g
  obtain ⟨hll, hx, hb, hml, hown, hts, hSt, hlk, hfr, hlo, hrc, hrs⟩ := hg
  intro H locs ls hl hE hS
  obtain ⟨C, T, N, hc, hk, hw⟩ := hf
  obtain ⟨cell, q1, q2, q3, q4⟩ := (hE.1 id hi.1 hi.2).obj hl2
  obtain ⟨hS', hfc, kC, hkC, hkind⟩ := hSt.1.1 ci _ hc
  obtain ⟨cf, kf, fi, f, hif, hsl⟩ := hS' k hk
  refine W.getf hx hb hown (hts _ hw) hif (u_facts hfc hkC (u_lays hts (cls_ok ci _ hc).1 hk) hif).1 q1 (by rw [q3]; exact fun h => by cases h) (v := fv E.1 Rf M ci id k) ?_ rfl rfl hd (kk H locs ls hl hE hS)
  rw [hsl, q4 k (by rw [nFl_eq hc]; exact hk)]
theorem g_getI (hg : Ok g l0 E cc own nL d mc ms) {idx ci k id : Nat} (hf : FL own idx ci k) (hl2 : lay id = .inl ci) (ht : ftc ci k = 0) (hi : 0 < id ∧ id < n) (hd : decode cc pc = .ok (.getfield idx, 3)) (kk : WG g E nL n Rf ex cn sn (pc + 3) lv (.int (M.1 id k) :: st) M) : WG g E nL n Rf ex cn sn pc lv (rr E.1 id :: st) M := by
  refine g_get hg hf hl2 hi hd ?_
  simp only [fv, ht, if_true]
  exact kk
theorem g_getL (hg : Ok g l0 E cc own nL d mc ms) {idx ci k id : Nat} (hf : FL own idx ci k) (hl2 : lay id = .inl ci) (ht : ftc ci k = 1) (hi : 0 < id ∧ id < n) (hd : decode cc pc = .ok (.getfield idx, 3)) (kk : WG g E nL n Rf ex cn sn (pc + 3) lv (.long (M.2 id k) :: st) M) : WG g E nL n Rf ex cn sn pc lv (rr E.1 id :: st) M := by
  refine g_get hg hf hl2 hi hd ?_
  have h0 : ¬ ((1 : Nat) = 0) := by decide
  simp only [fv, ht, if_true, if_neg h0]
  exact kk
theorem g_getR (hg : Ok g l0 E cc own nL d mc ms) {idx ci k id r : Nat} (hf : FL own idx ci k) (hl2 : lay id = .inl ci) (ht : ftc ci k = 2) (hi : 0 < id ∧ id < n) (hr : Rf id k = r) (h0 : 0 < r) (hd : decode cc pc = .ok (.getfield idx, 3)) (kk : WG g E nL n Rf ex cn sn (pc + 3) lv (rr E.1 r :: st) M) : WG g E nL n Rf ex cn sn pc lv (rr E.1 id :: st) M := by
  refine g_get hg hf hl2 hi hd ?_
  have e0 : ¬ ((2 : Nat) = 0) := by decide
  have e1 : ¬ ((2 : Nat) = 1) := by decide
  simp only [fv, ht, if_neg e0, if_neg e1, hr, rv_rr h0]
  exact kk
theorem g_getN (hg : Ok g l0 E cc RX3 nL d mc ms) {id : Nat} (hl2 : lay id = .inl 2) (hi : 0 < id ∧ id < n) (hd : decode cc pc = .ok (.getfield 62, 3)) (kk : WG g E nL n Rf ex cn sn (pc + 3) lv (.int (M.1 id 4) :: st) M) : WG g E nL n Rf ex cn sn pc lv (rr E.1 id :: st) M := by
  obtain ⟨p, l, e, R, s, m, args, below, meth, c, Q⟩ := g
  obtain ⟨hll, hx, hb, hml, hown, hts, hSt, hlk, hfr, hlo, hrc, hrs⟩ := hg
  intro H locs ls hl hE hS
  have hc : vwCl[2]? = some (RX2, TX2, 8) := rfl
  obtain ⟨cell, q1, q2, q3, q4⟩ := (hE.1 id hi.1 hi.2).obj hl2
  obtain ⟨hS', hfc, kC, hkC, hkind⟩ := hSt.1.1 2 _ hc
  have hk : 4 < 8 := by decide
  obtain ⟨cf, kf, fi, f, hif, hsl⟩ := hS' 4 hk
  refine va_Wgetf hx hb hown (hSt.2.1.1.use rfl) hif (u_facts hfc hkC (u_lays hts (cls_ok 2 _ hc).1 hk) hif).1 q1 (by rw [q3]; exact fun h => by cases h) (v := .int (M.1 id 4)) ?_ rfl rfl hd (kk H locs ls hl hE hS)
  rw [hsl, q4 4 (by rw [nFl_eq hc]; exact hk)]
  rfl
theorem g_put (hg : Ok g l0 E cc own nL d mc ms) {idx ci k id : Nat} {ty : FieldType} {v : Value} {M' : Mm} {Rf' : Nat → Nat → Nat} (hf : FP own idx ci k ty) (hl2 : lay id = .inl ci) (hi : 0 < id ∧ id < n) (hn : narrow ty v = v) (hfit : fits ty v = true) (hv : ∀ j, updV (fv E.1 Rf M ci id) k v j = fv E.1 Rf' M' ci id j) (h1 : ∀ b, b ≠ id → M'.1 b = M.1 b) (h2 : ∀ b, b ≠ id → M'.2 b = M.2 b) (h3 : ∀ b, b ≠ id → Rf' b = Rf b) (hd : decode cc pc = .ok (.putfield idx, 3)) (kk : WG g E nL n Rf' ex cn sn (pc + 3) lv st M') : WG g E nL n Rf ex cn sn pc lv (v :: rr E.1 id :: st) M := by
  obtain ⟨p, l, e, R, s, m, args, below, meth, c, Q⟩ := g
  obtain ⟨hll, hx, hb, hml, hown, hts, hSt, hlk, hfr, hlo, hrc, hrs⟩ := hg
  intro H locs ls hl hE hS
  obtain ⟨C, T, N, hc, hk, hw, hfin, hty⟩ := hf
  obtain ⟨hin, ty0, hty0, hnm⟩ := cls_ok ci _ hc
  have hap := va_apart (own := own) (args := args) (s := s) hts hin ty0 hty0 hnm hSt.1 hc
  obtain ⟨cell, q1, q2, q3, q4⟩ := (hE.1 id hi.1 hi.2).obj hl2
  rw [nFl_eq hc] at q4
  obtain ⟨hS', hfc, kC, hkC, hkind⟩ := hSt.1.1 ci _ hc
  obtain ⟨cf, kf, fi, f, hif, hsl⟩ := hS' k hk
  have hlay := hts _ (hin _ (u_in_lay hk))
  unfold u_lay at hlay
  rw [if_neg (by rw [hfin]; decide)] at hlay
  have hst := (u_facts hfc hkC (u_lays hts hin hk) hif).1
  have h6 := u_store hfc hkC hkind hlay hif hty hn hfit
  refine W.putK hx hb (f := f) ⟨hown, hts _ hw, ⟨_, _, _, hif⟩, hst⟩ (by rw [q2]; exact h6) q1 q3 (by rw [hsl]; exact k2_hasslot (q4 k hk)) rfl rfl hd fun H' e1 e2 e3 => ?_
  rw [hsl] at e1 ⊢
  have hO : t_OB (E.1 + id) (E.2.1.1 ci) (nFl ci) (E.2.1.2 ci) H' (updV (fv E.1 Rf M ci id) k v) := by
    rw [nFl_eq hc]
    exact ⟨_, e1, q2, q3, t_set q4 hap hk v⟩
  exact kk H' _ ls hl (hE.put (Cel.ofObj hl2 (hO.to (fun j _ => hv j))) e2 e3 h1 h2 h3) (hS.put e2 e3 (by show E.1 < E.1 + id; omega))
theorem g_putI (hg : Ok g l0 E cc own nL d mc ms) {idx ci k id : Nat} {x : Int32} (hf : FP own idx ci k .int) (hl2 : lay id = .inl ci) (ht : ftc ci k = 0) (hi : 0 < id ∧ id < n) (hd : decode cc pc = .ok (.putfield idx, 3)) (kk : WG g E nL n Rf ex cn sn (pc + 3) lv st (sI M id k x)) : WG g E nL n Rf ex cn sn pc lv (.int x :: rr E.1 id :: st) M := by
  refine g_put (M' := sI M id k x) (Rf' := Rf) hg hf hl2 hi rfl rfl (fun j => ?_) (fun b h => up2_row k x h) (fun _ _ => rfl) (fun _ _ => rfl) hd kk
  by_cases hj : j = k
  · subst hj
    simp [updV, fv, ht, sI, up2]
  · simp [updV, fv, sI, up2, hj]
theorem g_putL (hg : Ok g l0 E cc own nL d mc ms) {idx ci k id : Nat} {x : Int64} (hf : FP own idx ci k .long) (hl2 : lay id = .inl ci) (ht : ftc ci k = 1) (hi : 0 < id ∧ id < n) (hd : decode cc pc = .ok (.putfield idx, 3)) (kk : WG g E nL n Rf ex cn sn (pc + 3) lv st (sL M id k x)) : WG g E nL n Rf ex cn sn pc lv (.long x :: rr E.1 id :: st) M := by
  refine g_put (M' := sL M id k x) (Rf' := Rf) hg hf hl2 hi rfl rfl (fun j => ?_) (fun _ _ => rfl) (fun b h => up2_row k x h) (fun _ _ => rfl) hd kk
  by_cases hj : j = k
  · subst hj
    simp [updV, fv, ht, sL, up2]
  · simp [updV, fv, sL, up2, hj]
theorem g_putR (hg : Ok g l0 E cc own nL d mc ms) {idx ci k id r : Nat} {ty : FieldType} (hf : FP own idx ci k ty) (hl2 : lay id = .inl ci) (ht : ftc ci k = 2) (hi : 0 < id ∧ id < n) (h0 : 0 < r) (hn : narrow ty (rr E.1 r) = rr E.1 r) (hfit : fits ty (rr E.1 r) = true) (hd : decode cc pc = .ok (.putfield idx, 3)) (kk : WG g E nL n (up2 Rf id k r) ex cn sn (pc + 3) lv st M) : WG g E nL n Rf ex cn sn pc lv (rr E.1 r :: rr E.1 id :: st) M := by
  refine g_put (M' := M) (Rf' := up2 Rf id k r) hg hf hl2 hi hn hfit (fun j => ?_) (fun _ _ => rfl) (fun _ _ => rfl) (fun b h => up2_row k r h) hd kk
  by_cases hj : j = k
  · subst hj
    simp [updV, fv, ht, up2, rv_rr h0]
  · simp [updV, fv, up2, hj]
theorem g_iald (hg : Ok g l0 E cc own nL d mc ms) {id N : Nat} {i : Int32} (hl2 : lay id = .inr (0, N)) (hi : 0 < id ∧ id < n) (hin : vp_in i N) (hd : decode cc pc = .ok (.iaload, 1)) (kk : WG g E nL n Rf ex cn sn (pc + 1) lv (.int (M.1 id i.toNatClampNeg) :: st) M) : WG g E nL n Rf ex cn sn pc lv (.int i :: rr E.1 id :: st) M := by
  obtain ⟨p, l, e, R, s, m, args, below, meth, c, Q⟩ := g
  obtain ⟨hll, hx, hb, hml, hown, hts, hSt, hlk, hfr, hlo, hrc, hrs⟩ := hg
  intro H locs ls hl hE hS
  have hlt : i.toNatClampNeg < N := Nat.not_le.mp fun q => hin (Or.inr q)
  exact W.iald (v := .int (M.1 id i.toNatClampNeg)) hx hb ((hE.1 id hi.1 hi.2).arr hl2) ((hSt.1.2 0 _ rfl).1 N _) (fun q => by cases q) (by show ¬ (i < 0 ∨ (arrV _ _ _).slots.size ≤ _); rw [arrV_size]; exact hin) (by show (arrV _ _ _).slots[_]? = _; rw [arrV_read _ _ hlt]; rfl) rfl rfl hd (kk H locs ls hl hE hS)
theorem g_zald (hg : Ok g l0 E cc own nL d mc ms) {id N : Nat} {i : Int32} (hl2 : lay id = .inr (1, N)) (hi : 0 < id ∧ id < n) (hin : vp_in i N) (hd : decode cc pc = .ok (.baload, 1)) (kk : WG g E nL n Rf ex cn sn (pc + 1) lv (.int (M.1 id i.toNatClampNeg) :: st) M) : WG g E nL n Rf ex cn sn pc lv (.int i :: rr E.1 id :: st) M := by
  obtain ⟨p, l, e, R, s, m, args, below, meth, c, Q⟩ := g
  obtain ⟨hll, hx, hb, hml, hown, hts, hSt, hlk, hfr, hlo, hrc, hrs⟩ := hg
  intro H locs ls hl hE hS
  have hlt : i.toNatClampNeg < N := Nat.not_le.mp fun q => hin (Or.inr q)
  exact W.zald (v := .int (M.1 id i.toNatClampNeg)) hx hb ((hE.1 id hi.1 hi.2).arr hl2) ((hSt.1.2 1 _ rfl).1 N _) (fun q => by cases q) (by show ¬ (i < 0 ∨ (arrV _ _ _).slots.size ≤ _); rw [arrV_size]; exact hin) (by show (arrV _ _ _).slots[_]? = _; rw [arrV_read _ _ hlt]; rfl) rfl rfl hd (kk H locs ls hl hE hS)
theorem g_lald (hg : Ok g l0 E cc own nL d mc ms) {id N : Nat} {i : Int32} (hl2 : lay id = .inr (2, N)) (hi : 0 < id ∧ id < n) (hin : vp_in i N) (hd : decode cc pc = .ok (.laload, 1)) (kk : WG g E nL n Rf ex cn sn (pc + 1) lv (.long (M.2 id i.toNatClampNeg) :: st) M) : WG g E nL n Rf ex cn sn pc lv (.int i :: rr E.1 id :: st) M := by
  obtain ⟨p, l, e, R, s, m, args, below, meth, c, Q⟩ := g
  obtain ⟨hll, hx, hb, hml, hown, hts, hSt, hlk, hfr, hlo, hrc, hrs⟩ := hg
  intro H locs ls hl hE hS
  have hlt : i.toNatClampNeg < N := Nat.not_le.mp fun q => hin (Or.inr q)
  exact W.lald (v := .long (M.2 id i.toNatClampNeg)) hx hb ((hE.1 id hi.1 hi.2).arr hl2) ((hSt.1.2 2 _ rfl).1 N _) (fun q => by cases q) (by show ¬ (i < 0 ∨ (arrV _ _ _).slots.size ≤ _); rw [arrV_size]; exact hin) (by show (arrV _ _ _).slots[_]? = _; rw [arrV_read _ _ hlt]; rfl) rfl rfl hd (kk H locs ls hl hE hS)
theorem g_aald3 (hg : Ok g l0 E cc own nL d mc ms) {id N r : Nat} {i : Int32} (hl2 : lay id = .inr (3, N)) (hi : 0 < id ∧ id < n) (hin : vp_in i N) (hr : Rf id i.toNatClampNeg = r) (h0 : 0 < r) (hd : decode cc pc = .ok (.aaload, 1)) (kk : WG g E nL n Rf ex cn sn (pc + 1) lv (rr E.1 r :: st) M) : WG g E nL n Rf ex cn sn pc lv (.int i :: rr E.1 id :: st) M := by
  obtain ⟨p, l, e, R, s, m, args, below, meth, c, Q⟩ := g
  obtain ⟨hll, hx, hb, hml, hown, hts, hSt, hlk, hfr, hlo, hrc, hrs⟩ := hg
  intro H locs ls hl hE hS
  have hlt : i.toNatClampNeg < N := Nat.not_le.mp fun q => hin (Or.inr q)
  exact W.aald (v := rr E.1 r) (ty := tyA 3) hx hb ((hE.1 id hi.1 hi.2).arr hl2) ((hSt.1.2 3 _ rfl).1 N _) rfl (fun q => by cases q) (by show ¬ (i < 0 ∨ (arrV _ _ _).slots.size ≤ _); rw [arrV_size]; exact hin) (by show (arrV _ _ _).slots[_]? = _; rw [arrV_read _ _ hlt, ← rv_rr h0, ← hr]; rfl) rfl rfl hd (kk H locs ls hl hE hS)
theorem g_aald4 (hg : Ok g l0 E cc own nL d mc ms) {id N r : Nat} {i : Int32} (hl2 : lay id = .inr (4, N)) (hi : 0 < id ∧ id < n) (hin : vp_in i N) (hr : Rf id i.toNatClampNeg = r) (h0 : 0 < r) (hd : decode cc pc = .ok (.aaload, 1)) (kk : WG g E nL n Rf ex cn sn (pc + 1) lv (rr E.1 r :: st) M) : WG g E nL n Rf ex cn sn pc lv (.int i :: rr E.1 id :: st) M := by
  obtain ⟨p, l, e, R, s, m, args, below, meth, c, Q⟩ := g
  obtain ⟨hll, hx, hb, hml, hown, hts, hSt, hlk, hfr, hlo, hrc, hrs⟩ := hg
  intro H locs ls hl hE hS
  have hlt : i.toNatClampNeg < N := Nat.not_le.mp fun q => hin (Or.inr q)
  exact W.aald (v := rr E.1 r) (ty := tyA 4) hx hb ((hE.1 id hi.1 hi.2).arr hl2) ((hSt.1.2 4 _ rfl).1 N _) rfl (fun q => by cases q) (by show ¬ (i < 0 ∨ (arrV _ _ _).slots.size ≤ _); rw [arrV_size]; exact hin) (by show (arrV _ _ _).slots[_]? = _; rw [arrV_read _ _ hlt, ← rv_rr h0, ← hr]; rfl) rfl rfl hd (kk H locs ls hl hE hS)
theorem g_iast (hg : Ok g l0 E cc own nL d mc ms) {id N : Nat} {i : Int32} {x : Int32} (hl2 : lay id = .inr (0, N)) (hi : 0 < id ∧ id < n) (hin : vp_in i N) (hd : decode cc pc = .ok (.iastore, 1)) (kk : WG g E nL n Rf ex cn sn (pc + 1) lv st (sI M id i.toNatClampNeg x)) : WG g E nL n Rf ex cn sn pc lv (.int x :: .int i :: rr E.1 id :: st) M := by
  obtain ⟨p, l, e, R, s, m, args, below, meth, c, Q⟩ := g
  obtain ⟨hll, hx, hb, hml, hown, hts, hSt, hlk, hfr, hlo, hrc, hrs⟩ := hg
  intro H locs ls hl hE hS
  refine W.iast hx hb ((hE.1 id hi.1 hi.2).arr hl2) ((hSt.1.2 0 _ rfl).1 N _) (fun q => by cases q) (by show ¬ (i < 0 ∨ (arrV _ _ _).slots.size ≤ _); rw [arrV_size]; exact hin) rfl rfl hd fun H1 e1 z oq => ?_
  refine kk H1 _ ls hl (hE.put (M' := sI M id i.toNatClampNeg x) (Cel.ofArr hl2 ?_) z oq (fun b h => up2_row _ x h) (fun _ _ => rfl) (fun _ _ => rfl)) (hS.put z oq (by show E.1 < E.1 + id; omega))
  rw [e1]
  show some ((arrV _ _ _).setSlot _ _) = _
  rw [arrV_store]
  congr 2
  funext q
  by_cases hq : q = i.toNatClampNeg
  · subst hq
    simp [updV, av, sI, up2]
  · simp [updV, av, sI, up2, hq]
theorem g_zast (hg : Ok g l0 E cc own nL d mc ms) {id N : Nat} {i : Int32} {x : Int32} (hl2 : lay id = .inr (1, N)) (hi : 0 < id ∧ id < n) (hin : vp_in i N) (hn : narrow .boolean (.int x) = .int x) (hd : decode cc pc = .ok (.bastore, 1)) (kk : WG g E nL n Rf ex cn sn (pc + 1) lv st (sI M id i.toNatClampNeg x)) : WG g E nL n Rf ex cn sn pc lv (.int x :: .int i :: rr E.1 id :: st) M := by
  obtain ⟨p, l, e, R, s, m, args, below, meth, c, Q⟩ := g
  obtain ⟨hll, hx, hb, hml, hown, hts, hSt, hlk, hfr, hlo, hrc, hrs⟩ := hg
  intro H locs ls hl hE hS
  refine W.zast hx hb ((hE.1 id hi.1 hi.2).arr hl2) ((hSt.1.2 1 _ rfl).1 N _) (fun q => by cases q) (by show ¬ (i < 0 ∨ (arrV _ _ _).slots.size ≤ _); rw [arrV_size]; exact hin) rfl rfl hd fun H1 e1 z oq => ?_
  refine kk H1 _ ls hl (hE.put (M' := sI M id i.toNatClampNeg x) (Cel.ofArr hl2 ?_) z oq (fun b h => up2_row _ x h) (fun _ _ => rfl) (fun _ _ => rfl)) (hS.put z oq (by show E.1 < E.1 + id; omega))
  rw [e1, hn]
  show some ((arrV _ _ _).setSlot _ _) = _
  rw [arrV_store]
  congr 2
  funext q
  by_cases hq : q = i.toNatClampNeg
  · subst hq
    simp [updV, av, sI, up2]
  · simp [updV, av, sI, up2, hq]
theorem g_last (hg : Ok g l0 E cc own nL d mc ms) {id N : Nat} {i : Int32} {x : Int64} (hl2 : lay id = .inr (2, N)) (hi : 0 < id ∧ id < n) (hin : vp_in i N) (hd : decode cc pc = .ok (.lastore, 1)) (kk : WG g E nL n Rf ex cn sn (pc + 1) lv st (sL M id i.toNatClampNeg x)) : WG g E nL n Rf ex cn sn pc lv (.long x :: .int i :: rr E.1 id :: st) M := by
  obtain ⟨p, l, e, R, s, m, args, below, meth, c, Q⟩ := g
  obtain ⟨hll, hx, hb, hml, hown, hts, hSt, hlk, hfr, hlo, hrc, hrs⟩ := hg
  intro H locs ls hl hE hS
  refine W.last hx hb ((hE.1 id hi.1 hi.2).arr hl2) ((hSt.1.2 2 _ rfl).1 N _) (fun q => by cases q) (by show ¬ (i < 0 ∨ (arrV _ _ _).slots.size ≤ _); rw [arrV_size]; exact hin) rfl rfl hd fun H1 e1 z oq => ?_
  refine kk H1 _ ls hl (hE.put (M' := sL M id i.toNatClampNeg x) (Cel.ofArr hl2 ?_) z oq (fun _ _ => rfl) (fun b h => up2_row _ x h) (fun _ _ => rfl)) (hS.put z oq (by show E.1 < E.1 + id; omega))
  rw [e1]
  show some ((arrV _ _ _).setSlot _ _) = _
  rw [arrV_store]
  congr 2
  funext q
  by_cases hq : q = i.toNatClampNeg
  · subst hq
    simp [updV, av, sL, up2]
  · simp [updV, av, sL, up2, hq]
theorem g_alen (hg : Ok g l0 E cc own nL d mc ms) {id t N : Nat} {v : Int32} {ty : FieldType} (hl2 : lay id = .inr (t, N)) (htt : ∀ cs : Nat → ClassId, (tysOf cs)[t]? = some (cs t, ty)) (hi : 0 < id ∧ id < n) (hv : Int32.ofNat N = v) (hd : decode cc pc = .ok (.arraylength, 1)) (kk : WG g E nL n Rf ex cn sn (pc + 1) lv (.int v :: st) M) : WG g E nL n Rf ex cn sn pc lv (rr E.1 id :: st) M := by
  obtain ⟨p, l, e, R, s, m, args, below, meth, c, Q⟩ := g
  obtain ⟨hll, hx, hb, hml, hown, hts, hSt, hlk, hfr, hlo, hrc, hrs⟩ := hg
  intro H locs ls hl hE hS
  exact W.alen (n := v) hx hb ((hE.1 id hi.1 hi.2).arr hl2) ((hSt.1.2 t _ (htt E.2.2)).1 N _) (by rw [arrV_size, ← hv] <;> rfl) rfl rfl hd (kk H locs ls hl hE hS)
theorem g_stat (hg : Ok g l0 E cc own nL d mc ms) {nm : String} {f : Nat → Int32} {idx : Nat} (hw : Cond.fieldLink own idx RX6 nm "[I" ∈ gt) (hf : ∀ (E : En) U H, SAs E U H → SAt nm f E.1 U H) {x : Int32} (hd : decode cc pc = .ok (.getstatic idx, 3)) (hld : ∀ t : Nat, WG g E nL n Rf ex cn sn (pc + 4) lv (.int x :: .ref t :: st) M → WG g E nL n Rf ex cn sn (pc + 3) lv (.ref t :: st) M) (hin : vp_in x 5) (hd2 : decode cc (pc + 4) = .ok (.iaload, 1)) (kk : WG g E nL n Rf ex cn sn (pc + 5) lv (.int (f x.toNatClampNeg) :: st) M) : WG g E nL n Rf ex cn sn pc lv st M := by
  have hg0 := hg
  obtain ⟨p, l, e, R, s, m, args, below, meth, c, Q⟩ := g
  obtain ⟨hll, hx, hb, hml, hown, hts, hSt, hlk, hfr, hlo, hrc, hrs⟩ := hg
  obtain ⟨t, hZ, hT⟩ := hf _ _ _ hSt.2.2.1
  intro H locs ls hl hE hS
  refine va_gets hx hb hZ hS hown (hts _ hw) (fun _ h => h) hd ?_
  refine hld t ?_ H locs ls hl hE hS
  intro H locs ls hl hE hS
  exact va_ti hx hb hT hS hin rfl hd2 (kk H locs ls hl hE hS)
theorem g_iret (hg : Ok g l0 E cc own nL d mc ms) {v : Int32} (hr : Ret g E mc ms (some .int) ex n Rf (some (.int v)) M) (hd : decode cc pc = .ok (.ireturn, 1)) : WG g E nL n Rf ex mc ms pc lv [.int v] M := by
  obtain ⟨p, l, e, R, s, m, args, below, meth, c, Q⟩ := g
  obtain ⟨hll, hx, hb, hml, hown, hts, hSt, hlk, hfr, hlo, hrc, hrs⟩ := hg
  obtain ⟨hQ, hrt⟩ := hr
  subst hQ
  exact fun H locs ls hl hE hS => W.iret hx hb hrt (fun t ht hW => ⟨rfl, by rw [ht]; exact hE, hS.F ht⟩) (fun q hq => hS.2.2 q hq) hd (hlocks := hlk)
theorem g_zret (hg : Ok g l0 E cc own nL d mc ms) {v : Int32} (hr : Ret g E mc ms (some .boolean) ex n Rf (some (.int v)) M) (hn : narrow .boolean (.int v) = .int v) (hd : decode cc pc = .ok (.ireturn, 1)) : WG g E nL n Rf ex mc ms pc lv [.int v] M := by
  obtain ⟨p, l, e, R, s, m, args, below, meth, c, Q⟩ := g
  obtain ⟨hll, hx, hb, hml, hown, hts, hSt, hlk, hfr, hlo, hrc, hrs⟩ := hg
  obtain ⟨hQ, hrt⟩ := hr
  subst hQ
  exact fun H locs ls hl hE hS => W.zret hx hb hrt hn (fun t ht hW => ⟨rfl, by rw [ht]; exact hE, hS.F ht⟩) (fun q hq => hS.2.2 q hq) hd (hlocks := hlk)
theorem g_vret (hg : Ok g l0 E cc own nL d mc ms) (hr : Ret g E mc ms none ex n Rf none M) (hd : decode cc pc = .ok (.return_, 1)) : WG g E nL n Rf ex mc ms pc lv [] M := by
  obtain ⟨p, l, e, R, s, m, args, below, meth, c, Q⟩ := g
  obtain ⟨hll, hx, hb, hml, hown, hts, hSt, hlk, hfr, hlo, hrc, hrs⟩ := hg
  obtain ⟨hQ, hrt⟩ := hr
  subst hQ
  exact fun H locs ls hl hE hS => W.vret hx hb hrt (fun t ht hW => ⟨rfl, by rw [ht]; exact hE, hS.F ht⟩) (fun q hq => hS.2.2 q hq) hd (hlocks := hlk)
theorem g_lret (hg : Ok g l0 E cc own nL d mc ms) {v : Int64} (hr : Ret g E mc ms (some .long) ex n Rf (some (.long v)) M) (hd : decode cc pc = .ok (.lreturn, 1)) : WG g E nL n Rf ex mc ms pc lv [.long v] M := by
  obtain ⟨p, l, e, R, s, m, args, below, meth, c, Q⟩ := g
  obtain ⟨hll, hx, hb, hml, hown, hts, hSt, hlk, hfr, hlo, hrc, hrs⟩ := hg
  obtain ⟨hQ, hrt⟩ := hr
  subst hQ
  exact fun H locs ls hl hE hS => W.lret hx hb hrt (fun t ht hW => ⟨rfl, by rw [ht]; exact hE, hS.F ht⟩) (fun q hq => hS.2.2 q hq) hd (hlocks := hlk)
theorem g_aret (hg : Ok g l0 E cc own nL d mc ms) {r : Nat} {rt : FieldType} (hr : Ret g E mc ms (some rt) ex n Rf (some (rr E.1 r)) M) (hrt : (∃ n, rt = .object n) ∨ ∃ t, rt = .array t) (hd : decode cc pc = .ok (.areturn, 1)) : WG g E nL n Rf ex mc ms pc lv [rr E.1 r] M := by
  obtain ⟨p, l, e, R, s, m, args, below, meth, c, Q⟩ := g
  obtain ⟨hll, hx, hb, hml, hown, hts, hSt, hlk, hfr, hlo, hrc, hrs⟩ := hg
  obtain ⟨hQ, hrt2⟩ := hr
  subst hQ
  exact fun H locs ls hl hE hS => W.aret hx hb hrt2 hrt (Or.inr ⟨_, rfl⟩) (fun t ht hW => ⟨rfl, by rw [ht]; exact hE, hS.F ht⟩) (fun q hq => hS.2.2 q hq) hd (hlocks := hlk)
theorem g_callV (hg : Ok g l0 E cc own nL (d + 1) mc ms) {idx ci b na maxL n' : Nat} {y : MethodName} {yc : ByteArray} {ret : Option FieldType} {C : String} {T : u_T} {N : Nat} {As rest : List Value} {Rf' : Nat → Nat → Nat} {r : Option Value} {M' : Mm} (hc : Ct l0 E y yc maxL ret d 0 0 (rr E.1 b :: As) ex n Rf M n' Rf' r M') (hw : CV own idx C y yc maxL ret na) (hci : vwCl[ci]? = some (C, T, N)) (hl2 : lay b = .inl ci) (hi : 0 < b ∧ b < n) (hn : As.length = na) (hst : st = As.reverse ++ rr E.1 b :: rest) (hcat : (rest.map fun v => v.category).sum ≤ 8) (hcs : cn ≤ mc ∧ sn ≤ ms) (hd : decode cc pc = .ok (.invokevirtual idx, 3)) (kk : WG g E nL n' Rf' ex cn sn (pc + 3) lv (r.toList ++ rest) M') : WG g E nL n Rf ex cn sn pc lv st M := by
  obtain ⟨p, l, e, R, s, m, args, below, meth, c, Q⟩ := g
  obtain ⟨hll, hx, hb, hml, hown, hts, hSt, hlk, hfr, hlo, hrc, hrs⟩ := hg
  obtain ⟨w1, w2, w3, w4, w5, w6, w7⟩ := hw
  subst hll
  subst hst
  intro H locs ls hl hE hS
  obtain ⟨cell, q1, q2, q3, q4⟩ := (hE.1 b hi.1 hi.2).obj hl2
  have hG : GoodIn gt (wsV own idx C y (.code y yc maxL ret :: gt)) := gt_good (fun _ h => h) (fun w h => by
    rcases List.mem_append.mp h with h | h
    · simp only [List.mem_cons, List.not_mem_nil, or_false] at h
      rcases h with rfl | rfl | rfl | rfl
      · exact w1
      · exact w2
      · exact w3
      · exact w4
    · rcases List.mem_cons.mp h with rfl | h
      · exact w5
      · exact h)
  refine run_go (va_runV (As := As) (rest := rest) ⟨hx, hb, hml, hown, hts⟩ hc (cwV na hts hG rfl rfl rfl w6 ⟨hfr, by show 8 + (maxL + 11) + 60 * d ≤ R.locals; omega⟩) ⟨Ps.blind, ⟨cell, q1, by rw [q3]; rfl, by rw [q2]; exact (hSt.1.1 ci _ hci).2.1⟩, fun U hU hW => ⟨rfl, by rw [hU]; exact hE, hSt.moved hW hS hU⟩⟩ rfl hn hl.1 rfl (lv_room hcat) hd ⟨by rw [hrc]; exact hcs.1, by rw [hrs]; exact hcs.2⟩) hS (fun H1 locs1 hE1 hS1 => kk H1 locs1 ls hl hE1 hS1)
theorem g_callS (hg : Ok g l0 E cc own nL (d + 1) mc ms) {idx na maxL n' : Nat} {y : MethodName} {yc : ByteArray} {ret : Option FieldType} {As rest : List Value} {Rf' : Nat → Nat → Nat} {r : Option Value} {M' : Mm} (hc : Ct l0 E y yc maxL ret d 0 0 As ex n Rf M n' Rf' r M') (hw : CS own idx y yc maxL ret na) (hn : As.length = na) (hst : st = As.reverse ++ rest) (hcat : (rest.map fun v => v.category).sum ≤ 8) (hcs : cn ≤ mc ∧ sn ≤ ms) (hd : decode cc pc = .ok (.invokestatic idx, 3)) (kk : WG g E nL n' Rf' ex cn sn (pc + 3) lv (r.toList ++ rest) M') : WG g E nL n Rf ex cn sn pc lv st M := by
  obtain ⟨p, l, e, R, s, m, args, below, meth, c, Q⟩ := g
  obtain ⟨hll, hx, hb, hml, hown, hts, hSt, hlk, hfr, hlo, hrc, hrs⟩ := hg
  obtain ⟨w1, w2, w3, w4, w6, w7⟩ := hw
  subst hll
  subst hst
  intro H locs ls hl hE hS
  have hG : GoodIn gt (va_wsS own idx y (.code y yc maxL ret :: gt)) := gt_good (fun _ h => h) (fun w h => by
    rcases List.mem_append.mp h with h | h
    · simp only [List.mem_cons, List.not_mem_nil, or_false] at h
      rcases h with rfl | rfl | rfl
      · exact w1
      · exact w2
      · exact w3
    · rcases List.mem_cons.mp h with rfl | h
      · exact w4
      · exact h)
  refine run_go (va_runS (As := As) (rest := rest) ⟨hx, hb, hml, hown, hts⟩ hc (va_cwS na hts hG rfl rfl rfl w6 ⟨hfr, by show 8 + (maxL + 11) + 60 * d ≤ R.locals; omega⟩) ⟨Ps.blind, fun U hU hW => ⟨rfl, by rw [hU]; exact hE, hSt.moved hW hS hU⟩⟩ rfl hn hl.1 rfl (lv_room hcat) hd ⟨by rw [hrc]; exact hcs.1, by rw [hrs]; exact hcs.2⟩) hS (fun H1 locs1 hE1 hS1 => kk H1 locs1 ls hl hE1 hS1)
theorem g_mmax (hg : Ok g l0 E cc own nL (d + 1) mc ms) {idx : Nat} {x y : Int32} (hw : Cond.methodLink own idx Lib.Math.max.name ∈ gt ∧ Cond.static Lib.Math.max.name ∈ gt ∧ Cond.initialized "java/lang/Math" ∈ gt ∧ Cond.code Lib.Math.max.name Lib.Math.max.code 2 (some .int) ∈ gt) (hcat : (st.map fun v => v.category).sum ≤ 8) (hcs : cn ≤ mc ∧ sn ≤ ms) (hd : decode cc pc = .ok (.invokestatic idx, 3)) (kk : WG g E nL n Rf ex cn sn (pc + 3) lv (.int (if x < y then y else x) :: st) M) : WG g E nL n Rf ex cn sn pc lv (.int y :: .int x :: st) M := by
  obtain ⟨p, l, e, R, s, m, args, below, meth, c, Q⟩ := g
  obtain ⟨hll, hx, hb, hml, hown, hts, hSt, hlk, hfr, hlo, hrc, hrs⟩ := hg
  exact fun H locs ls hl hE hS => va_mmax hx hb (by rw [hml, hl.1]) hown (hts _ hw.1) (hts _ hw.2.1) (hts _ hw.2.2.1) (hts _ hw.2.2.2) (by omega) (by omega) (by rw [hrc]; exact hcs.1) (by rw [hrs]; exact hcs.2) hd (kk H locs ls hl hE hS)
theorem g_mmin (hg : Ok g l0 E cc own nL (d + 1) mc ms) {idx : Nat} {x y : Int32} (hw : Cond.methodLink own idx Lib.Math.min.name ∈ gt ∧ Cond.static Lib.Math.min.name ∈ gt ∧ Cond.initialized "java/lang/Math" ∈ gt ∧ Cond.code Lib.Math.min.name Lib.Math.min.code 2 (some .int) ∈ gt) (hcat : (st.map fun v => v.category).sum ≤ 8) (hcs : cn ≤ mc ∧ sn ≤ ms) (hd : decode cc pc = .ok (.invokestatic idx, 3)) (kk : WG g E nL n Rf ex cn sn (pc + 3) lv (.int (if y < x then y else x) :: st) M) : WG g E nL n Rf ex cn sn pc lv (.int y :: .int x :: st) M := by
  obtain ⟨p, l, e, R, s, m, args, below, meth, c, Q⟩ := g
  obtain ⟨hll, hx, hb, hml, hown, hts, hSt, hlk, hfr, hlo, hrc, hrs⟩ := hg
  exact fun H locs ls hl hE hS => va_mmin hx hb (by rw [hml, hl.1]) hown (hts _ hw.1) (hts _ hw.2.1) (hts _ hw.2.2.1) (hts _ hw.2.2.2) (by omega) (by omega) (by rw [hrc]; exact hcs.1) (by rw [hrs]; exact hcs.2) hd (kk H locs ls hl hE hS)
theorem g_mabs (hg : Ok g l0 E cc own nL (d + 1) mc ms) {idx : Nat} {x : Int32} (hw : Cond.methodLink own idx Lib.Math.abs.name ∈ gt ∧ Cond.static Lib.Math.abs.name ∈ gt ∧ Cond.initialized "java/lang/Math" ∈ gt ∧ Cond.code Lib.Math.abs.name Lib.Math.abs.code 1 (some .int) ∈ gt) (hcat : (st.map fun v => v.category).sum ≤ 8) (hcs : cn ≤ mc ∧ sn ≤ ms) (hd : decode cc pc = .ok (.invokestatic idx, 3)) (kk : WG g E nL n Rf ex cn sn (pc + 3) lv (.int (if 0 ≤ x then x else 0 - x) :: st) M) : WG g E nL n Rf ex cn sn pc lv (.int x :: st) M := by
  obtain ⟨p, l, e, R, s, m, args, below, meth, c, Q⟩ := g
  obtain ⟨hll, hx, hb, hml, hown, hts, hSt, hlk, hfr, hlo, hrc, hrs⟩ := hg
  exact fun H locs ls hl hE hS => va_mabs hx hb (by rw [hml, hl.1]) hown (hts _ hw.1) (hts _ hw.2.1) (hts _ hw.2.2.1) (hts _ hw.2.2.2) (by omega) (by omega) (by rw [hrc]; exact hcs.1) (by rw [hrs]; exact hcs.2) hd (kk H locs ls hl hE hS)
end GH
