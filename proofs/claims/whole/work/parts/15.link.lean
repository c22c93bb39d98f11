theorem lkX12_worth_211 {g : Gm} {l0 : Launch} {E : En} {d n : Nat} {Rf : Nat → Nat → Nat} {ex : Bool} {kq : Nat × Nat} (hn : 238 ≤ n) (hRf : RfOk 194 238 kq Rf) (hg : Ok g l0 E cX12_worth RX12 10 (d + 6) 0 0) {q : Int32 × Mm} (hr : Ret g E 0 0 (some .int) ex n Rf (some (.int q.1)) q.2) {k52 : Int32 → Int32 → Int32 → Int32 → Mm → Option (Int32 × Mm)} (hk52 : ∀ (x1 : Int32) (x2 : Int32) (x3 : Int32) (x4 : Int32) (M : Mm), k52 x1 x2 x3 x4 M = some q → WG g E 10 n Rf ex 0 0 52 [(0, rr E.1 194), (1, .int x1), (2, .int x2), (3, .int x3), (4, .int x4)] [] M) : ∀ (x1 : Int32) (x2 : Int32) (x3 : Int32) (x4 : Int32) (M : Mm), sX12_worth_211 k52 x1 x2 x3 x4 M = some q → WG g E 10 n Rf ex 0 0 211 [(0, rr E.1 194), (1, .int x1), (2, .int x2), (3, .int x3), (4, .int x4)] [] M := by
  intro x1 x2 x3 x4 M h
  unfold sX12_worth_211 at h
  refine g_inc (lv' := [(4, .int (x4 + 1)), (0, rr E.1 194), (1, .int x1), (2, .int x2), (3, .int x3)]) hg dX12_worth_211 kI_1 4 rfl (by decide) rfl ?_
  refine g_goto (tgt := 52) hg dX12_worth_214 (by decide) ?_
  refine g_sub (lv' := [(0, rr E.1 194), (1, .int x1), (2, .int x2), (3, .int x3), (4, .int (x4 + 1))]) [1, 2, 3, 4, 0] rfl ?_
  exact hk52 _ _ _ _ _ h
theorem lkX12_worth_209 {g : Gm} {l0 : Launch} {E : En} {d n : Nat} {Rf : Nat → Nat → Nat} {ex : Bool} {kq : Nat × Nat} (hn : 238 ≤ n) (hRf : RfOk 194 238 kq Rf) (hg : Ok g l0 E cX12_worth RX12 10 (d + 6) 0 0) {q : Int32 × Mm} (hr : Ret g E 0 0 (some .int) ex n Rf (some (.int q.1)) q.2) {k52 : Int32 → Int32 → Int32 → Int32 → Mm → Option (Int32 × Mm)} (hk52 : ∀ (x1 : Int32) (x2 : Int32) (x3 : Int32) (x4 : Int32) (M : Mm), k52 x1 x2 x3 x4 M = some q → WG g E 10 n Rf ex 0 0 52 [(0, rr E.1 194), (1, .int x1), (2, .int x2), (3, .int x3), (4, .int x4)] [] M) : ∀ (x1 : Int32) (x2 : Int32) (x4 : Int32) (s0 : Int32) (s1 : Int32) (M : Mm), sX12_worth_209 k52 x1 x2 x4 s0 s1 M = some q → WG g E 10 n Rf ex 0 0 209 [(0, rr E.1 194), (1, .int x1), (2, .int x2), (4, .int x4)] [.int s1, .int s0] M := by
  intro x1 x2 x4 s0 s1 M h
  unfold sX12_worth_209 at h
  refine g_iadd hg dX12_worth_209 ?_
  refine g_istore_n (lv' := [(3, .int (s0 + s1)), (0, rr E.1 194), (1, .int x1), (2, .int x2), (4, .int x4)]) hg dX12_worth_210 rfl (by decide) rfl ?_
  refine g_sub (lv' := [(0, rr E.1 194), (1, .int x1), (2, .int x2), (3, .int (s0 + s1)), (4, .int x4)]) [1, 2, 3, 0, 4] rfl ?_
  exact lkX12_worth_211 hn hRf hg hr hk52 _ _ _ _ _ h
theorem lkX12_worth_173 {g : Gm} {l0 : Launch} {E : En} {d n : Nat} {Rf : Nat → Nat → Nat} {ex : Bool} {kq : Nat × Nat} (hn : 238 ≤ n) (hRf : RfOk 194 238 kq Rf) (hg : Ok g l0 E cX12_worth RX12 10 (d + 6) 0 0) {q : Int32 × Mm} (hr : Ret g E 0 0 (some .int) ex n Rf (some (.int q.1)) q.2) {k52 : Int32 → Int32 → Int32 → Int32 → Mm → Option (Int32 × Mm)} (hk52 : ∀ (x1 : Int32) (x2 : Int32) (x3 : Int32) (x4 : Int32) (M : Mm), k52 x1 x2 x3 x4 M = some q → WG g E 10 n Rf ex 0 0 52 [(0, rr E.1 194), (1, .int x1), (2, .int x2), (3, .int x3), (4, .int x4)] [] M) {k105 : Int32 → Int32 → Int32 → Int32 → Int32 → Int64 → Int32 → Int32 → Mm → Option (Int32 × Mm)} (hk105 : ∀ (x1 : Int32) (x2 : Int32) (x3 : Int32) (x4 : Int32) (x5 : Int32) (y6 : Int64) (x8 : Int32) (x9 : Int32) (M : Mm), k105 x1 x2 x3 x4 x5 y6 x8 x9 M = some q → WG g E 10 n Rf ex 0 0 105 [(0, rr E.1 194), (1, .int x1), (2, .int x2), (3, .int x3), (4, .int x4), (5, .int x5), (6, .long y6), (8, .int x8), (9, .int x9)] [] M) : ∀ (x1 : Int32) (x2 : Int32) (x3 : Int32) (x4 : Int32) (x5 : Int32) (y6 : Int64) (x9 : Int32) (s0 : Int32) (M : Mm), sX12_worth_173 k52 k105 x1 x2 x3 x4 x5 y6 x9 s0 M = some q → WG g E 10 n Rf ex 0 0 173 [(0, rr E.1 194), (1, .int x1), (2, .int x2), (3, .int x3), (4, .int x4), (5, .int x5), (6, .long y6), (9, .int x9)] [.int s0] M := by
  intro x1 x2 x3 x4 x5 y6 x9 s0 M h
  unfold sX12_worth_173 at h
  refine g_istore (lv' := [(8, .int s0), (0, rr E.1 194), (1, .int x1), (2, .int x2), (3, .int x3), (4, .int x4), (5, .int x5), (6, .long y6), (9, .int x9)]) hg dX12_worth_173 (by decide) rfl ?_
  refine g_inc (lv' := [(9, .int (x9 + 1)), (8, .int s0), (0, rr E.1 194), (1, .int x1), (2, .int x2), (3, .int x3), (4, .int x4), (5, .int x5), (6, .long y6)]) hg dX12_worth_175 kI_1 8 rfl (by decide) rfl ?_
  refine g_goto (tgt := 105) hg dX12_worth_178 (by decide) ?_
  refine g_sub (lv' := [(0, rr E.1 194), (1, .int x1), (2, .int x2), (3, .int x3), (4, .int x4), (5, .int x5), (6, .long y6), (8, .int s0), (9, .int (x9 + 1))]) [2, 3, 4, 5, 6, 7, 8, 1, 0] rfl ?_
  exact hk105 _ _ _ _ _ _ _ _ _ h
theorem lkX12_worth_168 {g : Gm} {l0 : Launch} {E : En} {d n : Nat} {Rf : Nat → Nat → Nat} {ex : Bool} {kq : Nat × Nat} (hn : 238 ≤ n) (hRf : RfOk 194 238 kq Rf) (hg : Ok g l0 E cX12_worth RX12 10 (d + 6) 0 0) {q : Int32 × Mm} (hr : Ret g E 0 0 (some .int) ex n Rf (some (.int q.1)) q.2) {k52 : Int32 → Int32 → Int32 → Int32 → Mm → Option (Int32 × Mm)} (hk52 : ∀ (x1 : Int32) (x2 : Int32) (x3 : Int32) (x4 : Int32) (M : Mm), k52 x1 x2 x3 x4 M = some q → WG g E 10 n Rf ex 0 0 52 [(0, rr E.1 194), (1, .int x1), (2, .int x2), (3, .int x3), (4, .int x4)] [] M) {k105 : Int32 → Int32 → Int32 → Int32 → Int32 → Int64 → Int32 → Int32 → Mm → Option (Int32 × Mm)} (hk105 : ∀ (x1 : Int32) (x2 : Int32) (x3 : Int32) (x4 : Int32) (x5 : Int32) (y6 : Int64) (x8 : Int32) (x9 : Int32) (M : Mm), k105 x1 x2 x3 x4 x5 y6 x8 x9 M = some q → WG g E 10 n Rf ex 0 0 105 [(0, rr E.1 194), (1, .int x1), (2, .int x2), (3, .int x3), (4, .int x4), (5, .int x5), (6, .long y6), (8, .int x8), (9, .int x9)] [] M) : ∀ (x1 : Int32) (x2 : Int32) (x3 : Int32) (x4 : Int32) (x5 : Int32) (y6 : Int64) (x9 : Int32) (M : Mm), sX12_worth_168 k52 k105 x1 x2 x3 x4 x5 y6 x9 M = some q → WG g E 10 n Rf ex 0 0 168 [(0, rr E.1 194), (1, .int x1), (2, .int x2), (3, .int x3), (4, .int x4), (5, .int x5), (6, .long y6), (9, .int x9)] [] M := by
  intro x1 x2 x3 x4 x5 y6 x9 M h
  unfold sX12_worth_168 at h
  refine g_iconst hg dX12_worth_168 kI_1 ?_
  refine g_goto (tgt := 173) hg dX12_worth_169 (by decide) ?_
  exact lkX12_worth_173 hn hRf hg hr hk52 hk105 _ _ _ _ _ _ _ _ _ h
theorem lkX12_worth_172 {g : Gm} {l0 : Launch} {E : En} {d n : Nat} {Rf : Nat → Nat → Nat} {ex : Bool} {kq : Nat × Nat} (hn : 238 ≤ n) (hRf : RfOk 194 238 kq Rf) (hg : Ok g l0 E cX12_worth RX12 10 (d + 6) 0 0) {q : Int32 × Mm} (hr : Ret g E 0 0 (some .int) ex n Rf (some (.int q.1)) q.2) {k52 : Int32 → Int32 → Int32 → Int32 → Mm → Option (Int32 × Mm)} (hk52 : ∀ (x1 : Int32) (x2 : Int32) (x3 : Int32) (x4 : Int32) (M : Mm), k52 x1 x2 x3 x4 M = some q → WG g E 10 n Rf ex 0 0 52 [(0, rr E.1 194), (1, .int x1), (2, .int x2), (3, .int x3), (4, .int x4)] [] M) {k105 : Int32 → Int32 → Int32 → Int32 → Int32 → Int64 → Int32 → Int32 → Mm → Option (Int32 × Mm)} (hk105 : ∀ (x1 : Int32) (x2 : Int32) (x3 : Int32) (x4 : Int32) (x5 : Int32) (y6 : Int64) (x8 : Int32) (x9 : Int32) (M : Mm), k105 x1 x2 x3 x4 x5 y6 x8 x9 M = some q → WG g E 10 n Rf ex 0 0 105 [(0, rr E.1 194), (1, .int x1), (2, .int x2), (3, .int x3), (4, .int x4), (5, .int x5), (6, .long y6), (8, .int x8), (9, .int x9)] [] M) : ∀ (x1 : Int32) (x2 : Int32) (x3 : Int32) (x4 : Int32) (x5 : Int32) (y6 : Int64) (x9 : Int32) (M : Mm), sX12_worth_172 k52 k105 x1 x2 x3 x4 x5 y6 x9 M = some q → WG g E 10 n Rf ex 0 0 172 [(0, rr E.1 194), (1, .int x1), (2, .int x2), (3, .int x3), (4, .int x4), (5, .int x5), (6, .long y6), (9, .int x9)] [] M := by
  intro x1 x2 x3 x4 x5 y6 x9 M h
  unfold sX12_worth_172 at h
  refine g_iconst hg dX12_worth_172 kI_0 ?_
  exact lkX12_worth_173 hn hRf hg hr hk52 hk105 _ _ _ _ _ _ _ _ _ h
theorem lkX12_worth_105 {g : Gm} {l0 : Launch} {E : En} {d n : Nat} {Rf : Nat → Nat → Nat} {ex : Bool} {kq : Nat × Nat} (hn : 238 ≤ n) (hRf : RfOk 194 238 kq Rf) (hg : Ok g l0 E cX12_worth RX12 10 (d + 6) 0 0) {q : Int32 × Mm} (hr : Ret g E 0 0 (some .int) ex n Rf (some (.int q.1)) q.2) {k52 : Int32 → Int32 → Int32 → Int32 → Mm → Option (Int32 × Mm)} (hk52 : ∀ (x1 : Int32) (x2 : Int32) (x3 : Int32) (x4 : Int32) (M : Mm), k52 x1 x2 x3 x4 M = some q → WG g E 10 n Rf ex 0 0 52 [(0, rr E.1 194), (1, .int x1), (2, .int x2), (3, .int x3), (4, .int x4)] [] M) : ∀ (F : Nat) (x1 : Int32) (x2 : Int32) (x3 : Int32) (x4 : Int32) (x5 : Int32) (y6 : Int64) (x8 : Int32) (x9 : Int32) (M : Mm), sX12_worth_105 k52 F x1 x2 x3 x4 x5 y6 x8 x9 M = some q → WG g E 10 n Rf ex 0 0 105 [(0, rr E.1 194), (1, .int x1), (2, .int x2), (3, .int x3), (4, .int x4), (5, .int x5), (6, .long y6), (8, .int x8), (9, .int x9)] [] M := by
  intro F
  induction F with
  | zero =>
    intro x1 x2 x3 x4 x5 y6 x8 x9 M h
    cases h
  | succ F ih =>
    intro x1 x2 x3 x4 x5 y6 x8 x9 M h
    rw [sX12_worth_105] at h
    refine g_iload hg dX12_worth_105 8 rfl ?_
    refine g_rload_n hg dX12_worth_107 rfl 0 rfl ?_
    refine g_getI hg fl_X12_330 ly194 rfl (idb rfl rfl hn) dX12_worth_108 ?_
    refine g_icmp_ge (tgt := 181) hg dX12_worth_111 (by decide) (fun c => ?_) (fun c => ?_)
    · replace h := itT c h
      refine g_iload_n hg dX12_worth_181 rfl 3 rfl ?_
      refine g_iload_n hg dX12_worth_182 rfl 1 rfl ?_
      refine g_iconst hg dX12_worth_183 kI_1 ?_
      refine g_icmp_ne (tgt := 199) hg dX12_worth_184 (by decide) (fun c => ?_) (fun c => ?_)
      · replace h := itF c h
        refine g_iload hg dX12_worth_199 7 rfl ?_
        refine g_if_eq (tgt := 208) hg dX12_worth_201 (by decide) (fun c => ?_) (fun c => ?_)
        · rw [if_pos c] at h
          refine g_iconst hg dX12_worth_208 kI_0 ?_
          refine g_sub (lv' := [(0, rr E.1 194), (1, .int x1), (2, .int x2), (4, .int x4)]) [0, 1, 2, 4] rfl ?_
          exact lkX12_worth_209 hn hRf hg hr hk52 _ _ _ _ _ _ h
        · rw [if_neg c] at h
          refine g_iconst hg dX12_worth_204 kI_1 ?_
          refine g_goto (tgt := 209) hg dX12_worth_205 (by decide) ?_
          refine g_sub (lv' := [(0, rr E.1 194), (1, .int x1), (2, .int x2), (4, .int x4)]) [0, 1, 2, 4] rfl ?_
          exact lkX12_worth_209 hn hRf hg hr hk52 _ _ _ _ _ _ h
      · replace h := itT c h
        refine g_lload hg dX12_worth_187 6 rfl ?_
        refine g_rload_n hg dX12_worth_189 rfl 0 rfl ?_
        refine g_getI hg fl_X12_380 ly194 rfl (idb rfl rfl hn) dX12_worth_190 ?_
        refine g_i2l hg dX12_worth_193 ?_
        obtain ⟨c194, h⟩ := ck_some h
        refine g_ldiv hg dX12_worth_194 (nzL_ne c194) ?_
        refine g_l2i hg dX12_worth_195 ?_
        refine g_goto (tgt := 209) hg dX12_worth_196 (by decide) ?_
        refine g_sub (lv' := [(0, rr E.1 194), (1, .int x1), (2, .int x2), (4, .int x4)]) [0, 1, 2, 4] rfl ?_
        exact lkX12_worth_209 hn hRf hg hr hk52 _ _ _ _ _ _ h
    · replace h := itF c h
      refine g_lload hg dX12_worth_114 6 rfl ?_
      refine g_rload_n hg dX12_worth_116 rfl 0 rfl ?_
      refine g_getR (r := 225) hg fl_X12_129 ly194 rfl (idb rfl rfl hn) (rfc hRf rfl rfl rfl rfl) (by decide) dX12_worth_117 ?_
      refine g_iload hg dX12_worth_120 8 rfl ?_
      obtain ⟨c122, h⟩ := ck_some h
      refine g_iald hg ly225 (idb rfl rfl hn) (inb_vp c122) dX12_worth_122 ?_
      refine g_i2l hg dX12_worth_123 ?_
      refine g_rload_n hg dX12_worth_124 rfl 0 rfl ?_
      refine g_getR (r := 228) hg fl_X12_138 ly194 rfl (idb rfl rfl hn) (rfc hRf rfl rfl rfl rfl) (by decide) dX12_worth_125 ?_
      refine g_iload hg dX12_worth_128 8 rfl ?_
      obtain ⟨c130, h⟩ := ck_some h
      refine g_iald hg ly228 (idb rfl rfl hn) (inb_vp c130) dX12_worth_130 ?_
      refine g_i2l hg dX12_worth_131 ?_
      refine g_lmul hg dX12_worth_132 ?_
      refine g_ladd hg dX12_worth_133 ?_
      refine g_lstore (lv' := [(6, .long (y6 + ((M.1 225 x9.toNatClampNeg).toInt64 * (M.1 228 x9.toNatClampNeg).toInt64))), (0, rr E.1 194), (1, .int x1), (2, .int x2), (3, .int x3), (4, .int x4), (5, .int x5), (8, .int x8), (9, .int x9)]) hg dX12_worth_134 (by decide) rfl ?_
      refine g_iload hg dX12_worth_136 7 rfl ?_
      refine g_if_ne (tgt := 168) hg dX12_worth_138 (by decide) (fun c => ?_) (fun c => ?_)
      · replace h := itF c h
        refine g_sub (lv' := [(0, rr E.1 194), (1, .int x1), (2, .int x2), (3, .int x3), (4, .int x4), (5, .int x5), (6, .long (y6 + ((M.1 225 x9.toNatClampNeg).toInt64 * (M.1 228 x9.toNatClampNeg).toInt64))), (9, .int x9)]) [1, 2, 3, 4, 5, 6, 0, 8] rfl ?_
        exact lkX12_worth_168 hn hRf hg hr hk52 ih _ _ _ _ _ _ _ _ h
      · replace h := itT c h
        refine g_rload_n hg dX12_worth_141 rfl 1 rfl ?_
        refine g_iload hg dX12_worth_142 8 rfl ?_
        obtain ⟨q144, e144, h⟩ := Option.bind_eq_some_iff.mp h
        refine g_callVi (As := [.int x9]) (rest := []) hg (lkX12_part (by omega) hn hRf  e144) cv_X12_392 rfl ly194 (idb rfl rfl hn) rfl rfl (Nat.le_of_ble_eq_true rfl) ⟨Nat.le_refl _, Nat.le_refl _⟩ dX12_worth_144 ?_
        refine g_iload_n hg dX12_worth_147 rfl 3 rfl ?_
        refine g_icmp_lt (tgt := 172) hg dX12_worth_148 (by decide) (fun c => ?_) (fun c => ?_)
        · replace h := itT c h
          refine g_sub (lv' := [(0, rr E.1 194), (1, .int x1), (2, .int x2), (3, .int x3), (4, .int x4), (5, .int x5), (6, .long (y6 + ((M.1 225 x9.toNatClampNeg).toInt64 * (M.1 228 x9.toNatClampNeg).toInt64))), (9, .int x9)]) [1, 2, 3, 4, 5, 6, 0, 8] rfl ?_
          exact lkX12_worth_172 hn hRf hg hr hk52 ih _ _ _ _ _ _ _ _ h
        · replace h := itF c h
          refine g_rload_n hg dX12_worth_151 rfl 1 rfl ?_
          refine g_getR (r := 225) hg fl_X12_129 ly194 rfl (idb rfl rfl hn) (rfc hRf rfl rfl rfl rfl) (by decide) dX12_worth_152 ?_
          refine g_iload hg dX12_worth_155 8 rfl ?_
          obtain ⟨c157, h⟩ := ck_some h
          refine g_iald hg ly225 (idb rfl rfl hn) (inb_vp c157) dX12_worth_157 ?_
          refine g_rload_n hg dX12_worth_158 rfl 1 rfl ?_
          refine g_getR (r := 225) hg fl_X12_129 ly194 rfl (idb rfl rfl hn) (rfc hRf rfl rfl rfl rfl) (by decide) dX12_worth_159 ?_
          refine g_iload hg dX12_worth_162 6 rfl ?_
          obtain ⟨c164, h⟩ := ck_some h
          refine g_iald hg ly225 (idb rfl rfl hn) (inb_vp c164) dX12_worth_164 ?_
          refine g_icmp_eq (tgt := 172) hg dX12_worth_165 (by decide) (fun c => ?_) (fun c => ?_)
          · replace h := itT c h
            refine g_sub (lv' := [(0, rr E.1 194), (1, .int x1), (2, .int x2), (3, .int x3), (4, .int x4), (5, .int x5), (6, .long (y6 + ((M.1 225 x9.toNatClampNeg).toInt64 * (M.1 228 x9.toNatClampNeg).toInt64))), (9, .int x9)]) [1, 2, 3, 4, 5, 6, 0, 8] rfl ?_
            exact lkX12_worth_172 hn hRf hg hr hk52 ih _ _ _ _ _ _ _ _ h
          · replace h := itF c h
            refine g_sub (lv' := [(0, rr E.1 194), (1, .int x1), (2, .int x2), (3, .int x3), (4, .int x4), (5, .int x5), (6, .long (y6 + ((M.1 225 x9.toNatClampNeg).toInt64 * (M.1 228 x9.toNatClampNeg).toInt64))), (9, .int x9)]) [1, 2, 3, 4, 5, 6, 0, 8] rfl ?_
            exact lkX12_worth_168 hn hRf hg hr hk52 ih _ _ _ _ _ _ _ _ h
theorem lkX12_worth_52 {g : Gm} {l0 : Launch} {E : En} {d n : Nat} {Rf : Nat → Nat → Nat} {ex : Bool} {kq : Nat × Nat} (hn : 238 ≤ n) (hRf : RfOk 194 238 kq Rf) (hg : Ok g l0 E cX12_worth RX12 10 (d + 6) 0 0) {q : Int32 × Mm} (hr : Ret g E 0 0 (some .int) ex n Rf (some (.int q.1)) q.2) : ∀ (F : Nat) (x1 : Int32) (x2 : Int32) (x3 : Int32) (x4 : Int32) (M : Mm), sX12_worth_52 F x1 x2 x3 x4 M = some q → WG g E 10 n Rf ex 0 0 52 [(0, rr E.1 194), (1, .int x1), (2, .int x2), (3, .int x3), (4, .int x4)] [] M := by
  intro F
  induction F with
  | zero =>
    intro x1 x2 x3 x4 M h
    cases h
  | succ F ih =>
    intro x1 x2 x3 x4 M h
    rw [sX12_worth_52] at h
    refine g_iload hg dX12_worth_52 4 rfl ?_
    refine g_rload_n hg dX12_worth_54 rfl 0 rfl ?_
    refine g_getI hg fl_X12_13 ly194 rfl (idb rfl rfl hn) dX12_worth_55 ?_
    refine g_rload_n hg dX12_worth_58 rfl 0 rfl ?_
    refine g_getI hg fl_X12_17 ly194 rfl (idb rfl rfl hn) dX12_worth_59 ?_
    refine g_imul hg dX12_worth_62 ?_
    refine g_icmp_ge (tgt := 217) hg dX12_worth_63 (by decide) (fun c => ?_) (fun c => ?_)
    · replace h := itT c h
      refine g_iload_n hg dX12_worth_217 rfl 3 rfl ?_
      replace h := Option.some.inj h
      subst h
      exact g_iret hg hr dX12_worth_218
    · replace h := itF c h
      refine g_rload_n hg dX12_worth_66 rfl 0 rfl ?_
      refine g_iload hg dX12_worth_67 4 rfl ?_
      refine g_iconst hg dX12_worth_69 kI_m1 ?_
      obtain ⟨M70, e70, h⟩ := Option.bind_eq_some_iff.mp h
      refine g_callVv (As := [.int x4, .int (-1)]) (rest := []) hg (lkX12_weigh (by omega) hn hRf  e70) cv_X12_389 rfl ly194 (idb rfl rfl hn) rfl rfl (Nat.le_of_ble_eq_true rfl) ⟨Nat.le_refl _, Nat.le_refl _⟩ dX12_worth_70 ?_
      refine g_rload_n hg dX12_worth_73 rfl 0 rfl ?_
      obtain ⟨q74, e74, h⟩ := Option.bind_eq_some_iff.mp h
      refine g_callVi (As := []) (rest := []) hg (lkX12_bestHere (by omega) hn hRf  e74) cv_X12_395 rfl ly194 (idb rfl rfl hn) rfl rfl (Nat.le_of_ble_eq_true rfl) ⟨Nat.le_refl _, Nat.le_refl _⟩ dX12_worth_74 ?_
      refine g_istore (lv' := [(5, .int q74.1), (0, rr E.1 194), (1, .int x1), (2, .int x2), (3, .int x3), (4, .int x4)]) hg dX12_worth_77 (by decide) rfl ?_
      refine g_iload_n hg dX12_worth_79 rfl 2 rfl ?_
      refine g_if_ne (tgt := 96) hg dX12_worth_80 (by decide) (fun c => ?_) (fun c => ?_)
      · replace h := itF c h
        refine g_lconst hg dX12_worth_96 kL_0 ?_
        refine g_lstore (lv' := [(6, .long 0), (5, .int q74.1), (0, rr E.1 194), (1, .int x1), (2, .int x2), (3, .int x3), (4, .int x4)]) hg dX12_worth_97 (by decide) rfl ?_
        refine g_iconst hg dX12_worth_99 kI_0 ?_
        refine g_istore (lv' := [(8, .int 0), (6, .long 0), (5, .int q74.1), (0, rr E.1 194), (1, .int x1), (2, .int x2), (3, .int x3), (4, .int x4)]) hg dX12_worth_100 (by decide) rfl ?_
        refine g_iconst hg dX12_worth_102 kI_0 ?_
        refine g_istore (lv' := [(9, .int 0), (8, .int 0), (6, .long 0), (5, .int q74.1), (0, rr E.1 194), (1, .int x1), (2, .int x2), (3, .int x3), (4, .int x4)]) hg dX12_worth_103 (by decide) rfl ?_
        refine g_sub (lv' := [(0, rr E.1 194), (1, .int x1), (2, .int x2), (3, .int x3), (4, .int x4), (5, .int q74.1), (6, .long 0), (8, .int 0), (9, .int 0)]) [4, 5, 6, 7, 8, 3, 2, 1, 0] rfl ?_
        exact lkX12_worth_105 hn hRf hg hr ih 4096 _ _ _ _ _ _ _ _ _ h
      · replace h := itT c h
        refine g_iload_n hg dX12_worth_83 rfl 4 rfl ?_
        refine g_rload_n hg dX12_worth_84 rfl 1 rfl ?_
        refine g_getR (r := 225) hg fl_X12_129 ly194 rfl (idb rfl rfl hn) (rfc hRf rfl rfl rfl rfl) (by decide) dX12_worth_85 ?_
        refine g_iload hg dX12_worth_88 0 rfl ?_
        obtain ⟨c90, h⟩ := ck_some h
        refine g_iald hg ly225 (idb rfl rfl hn) (inb_vp c90) dX12_worth_90 ?_
        refine g_iadd hg dX12_worth_91 ?_
        refine g_istore_n (lv' := [(3, .int (x3 + (q74.2.1 225 q74.1.toNatClampNeg))), (5, .int q74.1), (0, rr E.1 194), (1, .int x1), (2, .int x2), (4, .int x4)]) hg dX12_worth_92 rfl (by decide) rfl ?_
        refine g_goto (tgt := 211) hg dX12_worth_93 (by decide) ?_
        refine g_sub (lv' := [(0, rr E.1 194), (1, .int x1), (2, .int x2), (3, .int (x3 + (q74.2.1 225 q74.1.toNatClampNeg))), (4, .int x4)]) [2, 3, 4, 0, 5] rfl ?_
        exact lkX12_worth_211 hn hRf hg hr ih _ _ _ _ _ h
theorem lkX12_worth_30 {g : Gm} {l0 : Launch} {E : En} {d n : Nat} {Rf : Nat → Nat → Nat} {ex : Bool} {kq : Nat × Nat} (hn : 238 ≤ n) (hRf : RfOk 194 238 kq Rf) (hg : Ok g l0 E cX12_worth RX12 10 (d + 6) 0 0) {q : Int32 × Mm} (hr : Ret g E 0 0 (some .int) ex n Rf (some (.int q.1)) q.2) : ∀ (x1 : Int32) (x2 : Int32) (M : Mm), sX12_worth_30 x1 x2 M = some q → WG g E 10 n Rf ex 0 0 30 [(0, rr E.1 194), (1, .int x1), (2, .int x2)] [] M := by
  intro x1 x2 M h
  unfold sX12_worth_30 at h
  refine g_rload_n hg dX12_worth_30 rfl 0 rfl ?_
  refine g_getI hg fl_X12_330 ly194 rfl (idb rfl rfl hn) dX12_worth_31 ?_
  refine g_if_ne (tgt := 39) hg dX12_worth_34 (by decide) (fun c => ?_) (fun c => ?_)
  · replace h := itF c h
    refine g_rload_n hg dX12_worth_39 rfl 0 rfl ?_
    refine g_rload_n hg dX12_worth_40 rfl 0 rfl ?_
    refine g_getI hg fl_X12_174 ly194 rfl (idb rfl rfl hn) dX12_worth_41 ?_
    obtain ⟨M44, e44, h⟩ := Option.bind_eq_some_iff.mp h
    refine g_callVv (As := [.int (M.1 194 26)]) (rest := []) hg (lkX12_know (by omega) hn hRf  e44) cv_X12_386 rfl ly194 (idb rfl rfl hn) rfl rfl (Nat.le_of_ble_eq_true rfl) ⟨Nat.le_refl _, Nat.le_refl _⟩ dX12_worth_44 ?_
    refine g_iconst hg dX12_worth_47 kI_0 ?_
    refine g_istore_n (lv' := [(3, .int 0), (0, rr E.1 194), (1, .int x1), (2, .int x2)]) hg dX12_worth_48 rfl (by decide) rfl ?_
    refine g_iconst hg dX12_worth_49 kI_0 ?_
    refine g_istore (lv' := [(4, .int 0), (3, .int 0), (0, rr E.1 194), (1, .int x1), (2, .int x2)]) hg dX12_worth_50 (by decide) rfl ?_
    refine g_sub (lv' := [(0, rr E.1 194), (1, .int x1), (2, .int x2), (3, .int 0), (4, .int 0)]) [2, 3, 4, 1, 0] rfl ?_
    exact lkX12_worth_52 hn hRf hg hr  4096 _ _ _ _ _ h
  · replace h := itT c h
    refine g_iconst hg dX12_worth_37 kI_m1 ?_
    replace h := Option.some.inj h
    subst h
    exact g_iret hg hr dX12_worth_38
theorem lkX12_worth {l0 : Launch} {E : En} {d n : Nat} {Rf : Nat → Nat → Nat} {ex : Bool} {kq : Nat × Nat} (hd : 6 ≤ d) (hn : 238 ≤ n) (hRf : RfOk 194 238 kq Rf) {x1 : Int32} {x2 : Int32} {M : Mm} {q : Int32 × Mm} (h : sX12_worth x1 x2 M = some q) : Ct l0 E yX12_worth cX12_worth 10 (some .int) d 0 0 [rr E.1 194, .int x1, .int x2] ex n Rf M n Rf (some (.int q.1)) q.2 := by
  obtain ⟨d, rfl⟩ := Nat.exists_eq_add_of_le' hd
  refine Ct.of pnX12 (Nat.le_of_ble_eq_true rfl) (fun g hg hr _ => ?_)
  replace hg : Ok g l0 E cX12_worth RX12 10 (d + 6) 0 0 := hg
  show WG g E 10 n Rf ex 0 0 0 [(0, rr E.1 194), (1, .int x1), (2, .int x2)] [] M
  unfold sX12_worth at h
  refine g_rload_n hg dX12_worth_0 rfl 0 rfl ?_
  refine g_iconst hg dX12_worth_1 kI_0 ?_
  refine g_putI hg fp_X12_171 ly194 rfl (idb rfl rfl hn) dX12_worth_2 ?_
  refine g_iload_n hg dX12_worth_5 rfl 1 rfl ?_
  refine g_if_lt (tgt := 37) hg dX12_worth_6 (by decide) (fun c => ?_) (fun c => ?_)
  · replace h := itT c h
    refine g_iconst hg dX12_worth_37 kI_m1 ?_
    replace h := Option.some.inj h
    subst h
    exact g_iret hg hr dX12_worth_38
  · replace h := itF c h
    refine g_iload_n hg dX12_worth_9 rfl 1 rfl ?_
    refine g_iconst hg dX12_worth_10 kI_2 ?_
    refine g_icmp_gt (tgt := 37) hg dX12_worth_11 (by decide) (fun c => ?_) (fun c => ?_)
    · replace h := itT c h
      refine g_iconst hg dX12_worth_37 kI_m1 ?_
      replace h := Option.some.inj h
      subst h
      exact g_iret hg hr dX12_worth_38
    · replace h := itF c h
      refine g_iload_n hg dX12_worth_14 rfl 1 rfl ?_
      refine g_iconst hg dX12_worth_15 kI_2 ?_
      refine g_icmp_ne (tgt := 30) hg dX12_worth_16 (by decide) (fun c => ?_) (fun c => ?_)
      · replace h := itF c h
        exact lkX12_worth_30 hn hRf hg hr  _ _ _ h
      · replace h := itT c h
        refine g_iload_n hg dX12_worth_19 rfl 2 rfl ?_
        refine g_if_lt (tgt := 37) hg dX12_worth_20 (by decide) (fun c => ?_) (fun c => ?_)
        · replace h := itT c h
          refine g_iconst hg dX12_worth_37 kI_m1 ?_
          replace h := Option.some.inj h
          subst h
          exact g_iret hg hr dX12_worth_38
        · replace h := itF c h
          refine g_iload_n hg dX12_worth_23 rfl 2 rfl ?_
          refine g_sipush hg dX12_worth_24 kS_1000 ?_
          refine g_icmp_gt (tgt := 37) hg dX12_worth_27 (by decide) (fun c => ?_) (fun c => ?_)
          · replace h := itT c h
            refine g_iconst hg dX12_worth_37 kI_m1 ?_
            replace h := Option.some.inj h
            subst h
            exact g_iret hg hr dX12_worth_38
          · replace h := itF c h
            exact lkX12_worth_30 hn hRf hg hr  _ _ _ h
theorem lkX12_latestOf_47 {g : Gm} {l0 : Launch} {E : En} {d n : Nat} {Rf : Nat → Nat → Nat} {ex : Bool} {kq : Nat × Nat} (hn : 238 ≤ n) (hRf : RfOk 194 238 kq Rf) (hg : Ok g l0 E cX12_latestOf RX12 4 (d + 1) 0 0) {q : Int32 × Mm} (hr : Ret g E 0 0 (some .int) ex n Rf (some (.int q.1)) q.2) {k7 : Int32 → Int32 → Int32 → Mm → Option (Int32 × Mm)} (hk7 : ∀ (x1 : Int32) (x2 : Int32) (x3 : Int32) (M : Mm), k7 x1 x2 x3 M = some q → WG g E 4 n Rf ex 0 0 7 [(0, rr E.1 194), (1, .int x1), (2, .int x2), (3, .int x3)] [] M) : ∀ (x1 : Int32) (x2 : Int32) (x3 : Int32) (M : Mm), sX12_latestOf_47 k7 x1 x2 x3 M = some q → WG g E 4 n Rf ex 0 0 47 [(0, rr E.1 194), (1, .int x1), (2, .int x2), (3, .int x3)] [] M := by
  intro x1 x2 x3 M h
  unfold sX12_latestOf_47 at h
  refine g_inc (lv' := [(3, .int (x3 + (-1))), (0, rr E.1 194), (1, .int x1), (2, .int x2)]) hg dX12_latestOf_47 kI_m1 3 rfl (by decide) rfl ?_
  refine g_goto (tgt := 7) hg dX12_latestOf_50 (by decide) ?_
  refine g_sub (lv' := [(0, rr E.1 194), (1, .int x1), (2, .int x2), (3, .int (x3 + (-1)))]) [1, 2, 3, 0] rfl ?_
  exact hk7 _ _ _ _ h
theorem lkX12_latestOf_7 {g : Gm} {l0 : Launch} {E : En} {d n : Nat} {Rf : Nat → Nat → Nat} {ex : Bool} {kq : Nat × Nat} (hn : 238 ≤ n) (hRf : RfOk 194 238 kq Rf) (hg : Ok g l0 E cX12_latestOf RX12 4 (d + 1) 0 0) {q : Int32 × Mm} (hr : Ret g E 0 0 (some .int) ex n Rf (some (.int q.1)) q.2) : ∀ (F : Nat) (x1 : Int32) (x2 : Int32) (x3 : Int32) (M : Mm), sX12_latestOf_7 F x1 x2 x3 M = some q → WG g E 4 n Rf ex 0 0 7 [(0, rr E.1 194), (1, .int x1), (2, .int x2), (3, .int x3)] [] M := by
  intro F
  induction F with
  | zero =>
    intro x1 x2 x3 M h
    cases h
  | succ F ih =>
    intro x1 x2 x3 M h
    rw [sX12_latestOf_7] at h
    refine g_iload_n hg dX12_latestOf_7 rfl 3 rfl ?_
    refine g_if_lt (tgt := 53) hg dX12_latestOf_8 (by decide) (fun c => ?_) (fun c => ?_)
    · replace h := itT c h
      refine g_iconst hg dX12_latestOf_53 kI_m1 ?_
      replace h := Option.some.inj h
      subst h
      exact g_iret hg hr dX12_latestOf_54
    · replace h := itF c h
      refine g_rload_n hg dX12_latestOf_11 rfl 0 rfl ?_
      refine g_getR (r := 227) hg fl_X12_135 ly194 rfl (idb rfl rfl hn) (rfc hRf rfl rfl rfl rfl) (by decide) dX12_latestOf_12 ?_
      refine g_iload_n hg dX12_latestOf_15 rfl 3 rfl ?_
      obtain ⟨c16, h⟩ := ck_some h
      refine g_iald hg ly227 (idb rfl rfl hn) (inb_vp c16) dX12_latestOf_16 ?_
      refine g_if_lt (tgt := 47) hg dX12_latestOf_17 (by decide) (fun c => ?_) (fun c => ?_)
      · replace h := itT c h
        exact lkX12_latestOf_47 hn hRf hg hr ih _ _ _ _ h
      · replace h := itF c h
        refine g_rload_n hg dX12_latestOf_20 rfl 0 rfl ?_
        refine g_getR (r := 203) hg fl_X12_62 ly194 rfl (idb rfl rfl hn) (rfc hRf rfl rfl rfl rfl) (by decide) dX12_latestOf_21 ?_
        refine g_iload_n hg dX12_latestOf_24 rfl 3 rfl ?_
        obtain ⟨c25, h⟩ := ck_some h
        refine g_iald hg ly203 (idb rfl rfl hn) (inb_vp c25) dX12_latestOf_25 ?_
        refine g_iload_n hg dX12_latestOf_26 rfl 1 rfl ?_
        refine g_icmp_ne (tgt := 47) hg dX12_latestOf_27 (by decide) (fun c => ?_) (fun c => ?_)
        · replace h := itF c h
          exact lkX12_latestOf_47 hn hRf hg hr ih _ _ _ _ h
        · replace h := itT c h
          refine g_rload_n hg dX12_latestOf_30 rfl 0 rfl ?_
          refine g_getR (r := 204) hg fl_X12_65 ly194 rfl (idb rfl rfl hn) (rfc hRf rfl rfl rfl rfl) (by decide) dX12_latestOf_31 ?_
          refine g_iload_n hg dX12_latestOf_34 rfl 3 rfl ?_
          obtain ⟨c35, h⟩ := ck_some h
          refine g_iald hg ly204 (idb rfl rfl hn) (inb_vp c35) dX12_latestOf_35 ?_
          refine g_iload_n hg dX12_latestOf_36 rfl 2 rfl ?_
          refine g_icmp_ne (tgt := 47) hg dX12_latestOf_37 (by decide) (fun c => ?_) (fun c => ?_)
          · replace h := itF c h
            exact lkX12_latestOf_47 hn hRf hg hr ih _ _ _ _ h
          · replace h := itT c h
            refine g_rload_n hg dX12_latestOf_40 rfl 0 rfl ?_
            refine g_getR (r := 227) hg fl_X12_135 ly194 rfl (idb rfl rfl hn) (rfc hRf rfl rfl rfl rfl) (by decide) dX12_latestOf_41 ?_
            refine g_iload_n hg dX12_latestOf_44 rfl 3 rfl ?_
            obtain ⟨c45, h⟩ := ck_some h
            refine g_iald hg ly227 (idb rfl rfl hn) (inb_vp c45) dX12_latestOf_45 ?_
            replace h := Option.some.inj h
            subst h
            exact g_iret hg hr dX12_latestOf_46
theorem lkX12_latestOf {l0 : Launch} {E : En} {d n : Nat} {Rf : Nat → Nat → Nat} {ex : Bool} {kq : Nat × Nat} (hd : 1 ≤ d) (hn : 238 ≤ n) (hRf : RfOk 194 238 kq Rf) {x1 : Int32} {x2 : Int32} {M : Mm} {q : Int32 × Mm} (h : sX12_latestOf x1 x2 M = some q) : Ct l0 E yX12_latestOf cX12_latestOf 4 (some .int) d 0 0 [rr E.1 194, .int x1, .int x2] ex n Rf M n Rf (some (.int q.1)) q.2 := by
  obtain ⟨d, rfl⟩ := Nat.exists_eq_add_of_le' hd
  refine Ct.of pnX12 (Nat.le_of_ble_eq_true rfl) (fun g hg hr _ => ?_)
  replace hg : Ok g l0 E cX12_latestOf RX12 4 (d + 1) 0 0 := hg
  show WG g E 4 n Rf ex 0 0 0 [(0, rr E.1 194), (1, .int x1), (2, .int x2)] [] M
  unfold sX12_latestOf at h
  refine g_rload_n hg dX12_latestOf_0 rfl 0 rfl ?_
  refine g_getI hg fl_X12_174 ly194 rfl (idb rfl rfl hn) dX12_latestOf_1 ?_
  refine g_iconst hg dX12_latestOf_4 kI_1 ?_
  refine g_isub hg dX12_latestOf_5 ?_
  refine g_istore_n (lv' := [(3, .int ((M.1 194 26) - 1)), (0, rr E.1 194), (1, .int x1), (2, .int x2)]) hg dX12_latestOf_6 rfl (by decide) rfl ?_
  refine g_sub (lv' := [(0, rr E.1 194), (1, .int x1), (2, .int x2), (3, .int ((M.1 194 26) - 1))]) [1, 2, 3, 0] rfl ?_
  exact lkX12_latestOf_7 hn hRf hg hr  4096 _ _ _ _ h
theorem lkX12_hands_283 {g : Gm} {l0 : Launch} {E : En} {d n : Nat} {Rf : Nat → Nat → Nat} {ex : Bool} {kq : Nat × Nat} (hn : 238 ≤ n) (hRf : RfOk 194 238 kq Rf) (hg : Ok g l0 E cX12_hands RX12 12 (d + 6) 0 0) {q : Int32 × Mm} (hr : Ret g E 0 0 (some .int) ex n Rf (some (.int q.1)) q.2) : ∀ (F : Nat) (x3 : Int32) (x7 : Int32) (x8 : Int32) (x9 : Int32) (x10 : Int32) (M : Mm), sX12_hands_283 F x3 x7 x8 x9 x10 M = some q → WG g E 12 n Rf ex 0 0 283 [(3, .int x3), (7, .int x7), (8, .int x8), (9, .int x9), (10, .int x10)] [] M := by
  intro F
  induction F with
  | zero =>
    intro x3 x7 x8 x9 x10 M h
    cases h
  | succ F ih =>
    intro x3 x7 x8 x9 x10 M h
    rw [sX12_hands_283] at h
    refine g_iload hg dX12_hands_283 4 rfl ?_
    refine g_if_eq (tgt := 306) hg dX12_hands_285 (by decide) (fun c => ?_) (fun c => ?_)
    · replace h := itT c h
      refine g_iload hg dX12_hands_306 3 rfl ?_
      refine g_if_ne (tgt := 313) hg dX12_hands_308 (by decide) (fun c => ?_) (fun c => ?_)
      · replace h := itF c h
        refine g_iload_n hg dX12_hands_313 rfl 0 rfl ?_
        refine g_iconst hg dX12_hands_314 kI_3 ?_
        refine g_icmp_ne (tgt := 326) hg dX12_hands_315 (by decide) (fun c => ?_) (fun c => ?_)
        · replace h := itF c h
          refine g_iload hg dX12_hands_326 2 rfl ?_
          refine g_iload hg dX12_hands_328 3 rfl ?_
          obtain ⟨c330, h⟩ := ck_some h
          refine g_idiv hg dX12_hands_330 (nz_ne c330) ?_
          replace h := Option.some.inj h
          subst h
          exact g_iret hg hr dX12_hands_331
        · replace h := itT c h
          refine g_iload hg dX12_hands_318 1 rfl ?_
          refine g_iload hg dX12_hands_320 3 rfl ?_
          obtain ⟨c322, h⟩ := ck_some h
          refine g_idiv hg dX12_hands_322 (nz_ne c322) ?_
          refine g_goto (tgt := 331) hg dX12_hands_323 (by decide) ?_
          replace h := Option.some.inj h
          subst h
          exact g_iret hg hr dX12_hands_331
      · replace h := itT c h
        refine g_iconst hg dX12_hands_311 kI_0 ?_
        replace h := Option.some.inj h
        subst h
        exact g_iret hg hr dX12_hands_312
    · replace h := itF c h
      refine g_iload hg dX12_hands_288 3 rfl ?_
      refine g_iload hg dX12_hands_290 4 rfl ?_
      obtain ⟨c292, h⟩ := ck_some h
      refine g_irem hg dX12_hands_292 (nz_ne c292) ?_
      refine g_istore (lv' := [(11, .int (x9 - x9 / x10 * x10)), (3, .int x3), (7, .int x7), (8, .int x8), (9, .int x9), (10, .int x10)]) hg dX12_hands_293 (by decide) rfl ?_
      refine g_iload hg dX12_hands_295 5 rfl ?_
      refine g_istore (lv' := [(9, .int x10), (11, .int (x9 - x9 / x10 * x10)), (3, .int x3), (7, .int x7), (8, .int x8), (10, .int x10)]) hg dX12_hands_297 (by decide) rfl ?_
      refine g_iload hg dX12_hands_299 1 rfl ?_
      refine g_istore (lv' := [(10, .int (x9 - x9 / x10 * x10)), (9, .int x10), (11, .int (x9 - x9 / x10 * x10)), (3, .int x3), (7, .int x7), (8, .int x8)]) hg dX12_hands_301 (by decide) rfl ?_
      refine g_goto (tgt := 283) hg dX12_hands_303 (by decide) ?_
      refine g_sub (lv' := [(3, .int x3), (7, .int x7), (8, .int x8), (9, .int x10), (10, .int (x9 - x9 / x10 * x10))]) [3, 4, 5, 1, 0] rfl ?_
      exact ih _ _ _ _ _ _ h
theorem lkX12_hands_189 {g : Gm} {l0 : Launch} {E : En} {d n : Nat} {Rf : Nat → Nat → Nat} {ex : Bool} {kq : Nat × Nat} (hn : 238 ≤ n) (hRf : RfOk 194 238 kq Rf) (hg : Ok g l0 E cX12_hands RX12 12 (d + 6) 0 0) {q : Int32 × Mm} (hr : Ret g E 0 0 (some .int) ex n Rf (some (.int q.1)) q.2) : ∀ (F : Nat) (x3 : Int32) (x4 : Int32) (x5 : Int32) (x6 : Int32) (x7 : Int32) (M : Mm), sX12_hands_189 F x3 x4 x5 x6 x7 M = some q → WG g E 12 n Rf ex 0 0 189 [(0, rr E.1 194), (3, .int x3), (4, .int x4), (5, .int x5), (6, .int x6), (7, .int x7)] [] M := by
  intro F
  induction F with
  | zero =>
    intro x3 x4 x5 x6 x7 M h
    cases h
  | succ F ih =>
    intro x3 x4 x5 x6 x7 M h
    rw [sX12_hands_189] at h
    refine g_iload hg dX12_hands_189 5 rfl ?_
    refine g_bipush hg dX12_hands_191 kB_8 ?_
    refine g_icmp_ge (tgt := 222) hg dX12_hands_193 (by decide) (fun c => ?_) (fun c => ?_)
    · replace h := itT c h
      refine g_iload_n hg dX12_hands_222 rfl 1 rfl ?_
      refine g_iconst hg dX12_hands_223 kI_3 ?_
      refine g_icmp_ge (tgt := 249) hg dX12_hands_224 (by decide) (fun c => ?_) (fun c => ?_)
      · replace h := itT c h
        refine g_iload hg dX12_hands_249 3 rfl ?_
        refine g_iload hg dX12_hands_251 2 rfl ?_
        refine g_imul hg dX12_hands_253 ?_
        refine g_iload hg dX12_hands_254 4 rfl ?_
        refine g_isub hg dX12_hands_256 ?_
        refine g_istore (lv' := [(7, .int ((x5 * x4) - x6)), (0, rr E.1 194), (3, .int x3), (4, .int x4), (5, .int x5), (6, .int x6)]) hg dX12_hands_257 (by decide) rfl ?_
        refine g_iload hg dX12_hands_259 3 rfl ?_
        refine g_iload hg dX12_hands_261 3 rfl ?_
        refine g_imul hg dX12_hands_263 ?_
        refine g_iload hg dX12_hands_264 5 rfl ?_
        refine g_isub hg dX12_hands_266 ?_
        refine g_istore (lv' := [(8, .int ((x4 * x4) - x6)), (7, .int ((x5 * x4) - x6)), (0, rr E.1 194), (3, .int x3), (4, .int x4), (5, .int x5), (6, .int x6)]) hg dX12_hands_267 (by decide) rfl ?_
        refine g_iload hg dX12_hands_269 1 rfl ?_
        obtain ⟨q271, e271, h⟩ := Option.bind_eq_some_iff.mp h
        refine g_callSi (As := [.int ((x5 * x4) - x6)]) (rest := []) hg (lkX12_size (by omega) hn hRf  e271) cs_X12_359 rfl rfl (Nat.le_of_ble_eq_true rfl) ⟨Nat.le_refl _, Nat.le_refl _⟩ dX12_hands_271 ?_
        refine g_istore (lv' := [(9, .int q271.1), (8, .int ((x4 * x4) - x6)), (7, .int ((x5 * x4) - x6)), (0, rr E.1 194), (3, .int x3), (4, .int x4), (5, .int x5), (6, .int x6)]) hg dX12_hands_274 (by decide) rfl ?_
        refine g_iload hg dX12_hands_276 1 rfl ?_
        obtain ⟨q278, e278, h⟩ := Option.bind_eq_some_iff.mp h
        refine g_callSi (As := [.int ((x4 * x4) - x6)]) (rest := []) hg (lkX12_size (by omega) hn hRf  e278) cs_X12_359 rfl rfl (Nat.le_of_ble_eq_true rfl) ⟨Nat.le_refl _, Nat.le_refl _⟩ dX12_hands_278 ?_
        refine g_istore (lv' := [(10, .int q278.1), (9, .int q271.1), (8, .int ((x4 * x4) - x6)), (7, .int ((x5 * x4) - x6)), (0, rr E.1 194), (3, .int x3), (4, .int x4), (5, .int x5), (6, .int x6)]) hg dX12_hands_281 (by decide) rfl ?_
        refine g_sub (lv' := [(3, .int x3), (7, .int ((x5 * x4) - x6)), (8, .int ((x4 * x4) - x6)), (9, .int q271.1), (10, .int q278.1)]) [5, 3, 2, 1, 0] rfl ?_
        exact lkX12_hands_283 hn hRf hg hr  4096 _ _ _ _ _ _ h
      · replace h := itF c h
        refine g_iload_n hg dX12_hands_227 rfl 1 rfl ?_
        refine g_if_ne (tgt := 236) hg dX12_hands_228 (by decide) (fun c => ?_) (fun c => ?_)
        · rw [if_neg c] at h
          refine g_iload_n hg dX12_hands_236 rfl 1 rfl ?_
          refine g_iconst hg dX12_hands_237 kI_1 ?_
          refine g_icmp_ne (tgt := 246) hg dX12_hands_238 (by decide) (fun c => ?_) (fun c => ?_)
          · rw [if_neg c] at h
            refine g_iload hg dX12_hands_246 4 rfl ?_
            replace h := Option.some.inj h
            subst h
            exact g_iret hg hr dX12_hands_248
          · rw [if_pos c] at h
            refine g_iload hg dX12_hands_241 3 rfl ?_
            refine g_goto (tgt := 248) hg dX12_hands_243 (by decide) ?_
            replace h := Option.some.inj h
            subst h
            exact g_iret hg hr dX12_hands_248
        · rw [if_pos c] at h
          refine g_iload hg dX12_hands_231 2 rfl ?_
          refine g_goto (tgt := 248) hg dX12_hands_233 (by decide) ?_
          replace h := Option.some.inj h
          subst h
          exact g_iret hg hr dX12_hands_248
    · replace h := itF c h
      refine g_iload hg dX12_hands_196 4 rfl ?_
      refine g_rload_n hg dX12_hands_198 rfl 0 rfl ?_
      refine g_getR (r := 236) hg fl_X12_162 ly194 rfl (idb rfl rfl hn) (rfc hRf rfl rfl rfl rfl) (by decide) dX12_hands_199 ?_
      refine g_iload hg dX12_hands_202 5 rfl ?_
      obtain ⟨c204, h⟩ := ck_some h
      refine g_iald hg ly236 (idb rfl rfl hn) (inb_vp c204) dX12_hands_204 ?_
      refine g_rload_n hg dX12_hands_205 rfl 0 rfl ?_
      refine g_getR (r := 237) hg fl_X12_165 ly194 rfl (idb rfl rfl hn) (rfc hRf rfl rfl rfl rfl) (by decide) dX12_hands_206 ?_
      refine g_iload hg dX12_hands_209 5 rfl ?_
      obtain ⟨c211, h⟩ := ck_some h
      refine g_iald hg ly237 (idb rfl rfl hn) (inb_vp c211) dX12_hands_211 ?_
      refine g_imul hg dX12_hands_212 ?_
      refine g_iadd hg dX12_hands_213 ?_
      refine g_istore (lv' := [(6, .int (x6 + ((M.1 236 x7.toNatClampNeg) * (M.1 237 x7.toNatClampNeg)))), (0, rr E.1 194), (3, .int x3), (4, .int x4), (5, .int x5), (7, .int x7)]) hg dX12_hands_214 (by decide) rfl ?_
      refine g_inc (lv' := [(7, .int (x7 + 1)), (6, .int (x6 + ((M.1 236 x7.toNatClampNeg) * (M.1 237 x7.toNatClampNeg)))), (0, rr E.1 194), (3, .int x3), (4, .int x4), (5, .int x5)]) hg dX12_hands_216 kI_1 5 rfl (by decide) rfl ?_
      refine g_goto (tgt := 189) hg dX12_hands_219 (by decide) ?_
      refine g_sub (lv' := [(0, rr E.1 194), (3, .int x3), (4, .int x4), (5, .int x5), (6, .int (x6 + ((M.1 236 x7.toNatClampNeg) * (M.1 237 x7.toNatClampNeg)))), (7, .int (x7 + 1))]) [2, 3, 4, 5, 1, 0] rfl ?_
      exact ih _ _ _ _ _ _ h
theorem lkX12_hands_177 {g : Gm} {l0 : Launch} {E : En} {d n : Nat} {Rf : Nat → Nat → Nat} {ex : Bool} {kq : Nat × Nat} (hn : 238 ≤ n) (hRf : RfOk 194 238 kq Rf) (hg : Ok g l0 E cX12_hands RX12 12 (d + 6) 0 0) {q : Int32 × Mm} (hr : Ret g E 0 0 (some .int) ex n Rf (some (.int q.1)) q.2) {k90 : Int32 → Int32 → Int32 → Int32 → Int32 → Int32 → Mm → Option (Int32 × Mm)} (hk90 : ∀ (x1 : Int32) (x2 : Int32) (x3 : Int32) (x4 : Int32) (x5 : Int32) (x6 : Int32) (M : Mm), k90 x1 x2 x3 x4 x5 x6 M = some q → WG g E 12 n Rf ex 0 0 90 [(0, rr E.1 194), (1, .int x1), (2, .int x2), (3, .int x3), (4, .int x4), (5, .int x5), (6, .int x6)] [] M) : ∀ (x1 : Int32) (x2 : Int32) (x3 : Int32) (x4 : Int32) (x5 : Int32) (x6 : Int32) (M : Mm), sX12_hands_177 k90 x1 x2 x3 x4 x5 x6 M = some q → WG g E 12 n Rf ex 0 0 177 [(0, rr E.1 194), (1, .int x1), (2, .int x2), (3, .int x3), (4, .int x4), (5, .int x5), (6, .int x6)] [] M := by
  intro x1 x2 x3 x4 x5 x6 M h
  unfold sX12_hands_177 at h
  refine g_inc (lv' := [(6, .int (x6 + 1)), (0, rr E.1 194), (1, .int x1), (2, .int x2), (3, .int x3), (4, .int x4), (5, .int x5)]) hg dX12_hands_177 kI_1 6 rfl (by decide) rfl ?_
  refine g_goto (tgt := 90) hg dX12_hands_180 (by decide) ?_
  refine g_sub (lv' := [(0, rr E.1 194), (1, .int x1), (2, .int x2), (3, .int x3), (4, .int x4), (5, .int x5), (6, .int (x6 + 1))]) [1, 2, 3, 4, 5, 6, 0] rfl ?_
  exact hk90 _ _ _ _ _ _ _ h
theorem lkX12_hands_152 {g : Gm} {l0 : Launch} {E : En} {d n : Nat} {Rf : Nat → Nat → Nat} {ex : Bool} {kq : Nat × Nat} (hn : 238 ≤ n) (hRf : RfOk 194 238 kq Rf) (hg : Ok g l0 E cX12_hands RX12 12 (d + 6) 0 0) {q : Int32 × Mm} (hr : Ret g E 0 0 (some .int) ex n Rf (some (.int q.1)) q.2) {k90 : Int32 → Int32 → Int32 → Int32 → Int32 → Int32 → Mm → Option (Int32 × Mm)} (hk90 : ∀ (x1 : Int32) (x2 : Int32) (x3 : Int32) (x4 : Int32) (x5 : Int32) (x6 : Int32) (M : Mm), k90 x1 x2 x3 x4 x5 x6 M = some q → WG g E 12 n Rf ex 0 0 90 [(0, rr E.1 194), (1, .int x1), (2, .int x2), (3, .int x3), (4, .int x4), (5, .int x5), (6, .int x6)] [] M) : ∀ (x1 : Int32) (x2 : Int32) (x3 : Int32) (x4 : Int32) (x6 : Int32) (x7 : Int32) (x8 : Int32) (s0 : Int32) (s1 : Int32) (M : Mm), sX12_hands_152 k90 x1 x2 x3 x4 x6 x7 x8 s0 s1 M = some q → WG g E 12 n Rf ex 0 0 152 [(0, rr E.1 194), (1, .int x1), (2, .int x2), (3, .int x3), (4, .int x4), (6, .int x6), (7, .int x7), (8, .int x8)] [.int s1, .int s0] M := by
  intro x1 x2 x3 x4 x6 x7 x8 s0 s1 M h
  unfold sX12_hands_152 at h
  refine g_iadd hg dX12_hands_152 ?_
  refine g_istore (lv' := [(5, .int (s0 + s1)), (0, rr E.1 194), (1, .int x1), (2, .int x2), (3, .int x3), (4, .int x4), (6, .int x6), (7, .int x7), (8, .int x8)]) hg dX12_hands_153 (by decide) rfl ?_
  refine g_rload_n hg dX12_hands_155 rfl 1 rfl ?_
  refine g_getR (r := 236) hg fl_X12_162 ly194 rfl (idb rfl rfl hn) (rfc hRf rfl rfl rfl rfl) (by decide) dX12_hands_156 ?_
  refine g_iload hg dX12_hands_159 7 rfl ?_
  refine g_dup2 hg dX12_hands_161 rfl rfl ?_
  obtain ⟨c162, h⟩ := ck_some h
  refine g_iald hg ly236 (idb rfl rfl hn) (inb_vp c162) dX12_hands_162 ?_
  refine g_iconst hg dX12_hands_163 kI_1 ?_
  refine g_iadd hg dX12_hands_164 ?_
  obtain ⟨c165, h⟩ := ck_some h
  refine g_iast hg ly236 (idb rfl rfl hn) (inb_vp c165) dX12_hands_165 ?_
  refine g_rload_n hg dX12_hands_166 rfl 1 rfl ?_
  refine g_getR (r := 237) hg fl_X12_165 ly194 rfl (idb rfl rfl hn) (rfc hRf rfl rfl rfl rfl) (by decide) dX12_hands_167 ?_
  refine g_iload hg dX12_hands_170 8 rfl ?_
  refine g_dup2 hg dX12_hands_172 rfl rfl ?_
  obtain ⟨c173, h⟩ := ck_some h
  refine g_iald hg ly237 (idb rfl rfl hn) (inb_vp c173) dX12_hands_173 ?_
  refine g_iconst hg dX12_hands_174 kI_1 ?_
  refine g_iadd hg dX12_hands_175 ?_
  obtain ⟨c176, h⟩ := ck_some h
  refine g_iast hg ly237 (idb rfl rfl hn) (inb_vp c176) dX12_hands_176 ?_
  refine g_sub (lv' := [(0, rr E.1 194), (1, .int x1), (2, .int x2), (3, .int x3), (4, .int x4), (5, .int (s0 + s1)), (6, .int x6)]) [1, 2, 3, 4, 5, 0, 6] rfl ?_
  exact lkX12_hands_177 hn hRf hg hr hk90 _ _ _ _ _ _ _ h
theorem lkX12_hands_90 {g : Gm} {l0 : Launch} {E : En} {d n : Nat} {Rf : Nat → Nat → Nat} {ex : Bool} {kq : Nat × Nat} (hn : 238 ≤ n) (hRf : RfOk 194 238 kq Rf) (hg : Ok g l0 E cX12_hands RX12 12 (d + 6) 0 0) {q : Int32 × Mm} (hr : Ret g E 0 0 (some .int) ex n Rf (some (.int q.1)) q.2) : ∀ (F : Nat) (x1 : Int32) (x2 : Int32) (x3 : Int32) (x4 : Int32) (x5 : Int32) (x6 : Int32) (M : Mm), sX12_hands_90 F x1 x2 x3 x4 x5 x6 M = some q → WG g E 12 n Rf ex 0 0 90 [(0, rr E.1 194), (1, .int x1), (2, .int x2), (3, .int x3), (4, .int x4), (5, .int x5), (6, .int x6)] [] M := by
  intro F
  induction F with
  | zero =>
    intro x1 x2 x3 x4 x5 x6 M h
    cases h
  | succ F ih =>
    intro x1 x2 x3 x4 x5 x6 M h
    rw [sX12_hands_90] at h
    refine g_iload hg dX12_hands_90 6 rfl ?_
    refine g_rload_n hg dX12_hands_92 rfl 0 rfl ?_
    refine g_getI hg fl_X12_13 ly194 rfl (idb rfl rfl hn) dX12_hands_93 ?_
    refine g_rload_n hg dX12_hands_96 rfl 0 rfl ?_
    refine g_getI hg fl_X12_17 ly194 rfl (idb rfl rfl hn) dX12_hands_97 ?_
    refine g_imul hg dX12_hands_100 ?_
    refine g_icmp_ge (tgt := 183) hg dX12_hands_101 (by decide) (fun c => ?_) (fun c => ?_)
    · replace h := itT c h
      refine g_iconst hg dX12_hands_183 kI_0 ?_
      refine g_istore (lv' := [(6, .int 0), (0, rr E.1 194), (1, .int x1), (2, .int x2), (3, .int x3), (4, .int x4), (5, .int x5)]) hg dX12_hands_184 (by decide) rfl ?_
      refine g_iconst hg dX12_hands_186 kI_0 ?_
      refine g_istore (lv' := [(7, .int 0), (6, .int 0), (0, rr E.1 194), (1, .int x1), (2, .int x2), (3, .int x3), (4, .int x4), (5, .int x5)]) hg dX12_hands_187 (by decide) rfl ?_
      refine g_sub (lv' := [(0, rr E.1 194), (3, .int x3), (4, .int x4), (5, .int x5), (6, .int 0), (7, .int 0)]) [2, 5, 6, 7, 1, 0] rfl ?_
      exact lkX12_hands_189 hn hRf hg hr  4096 _ _ _ _ _ _ h
    · replace h := itF c h
      refine g_rload_n hg dX12_hands_104 rfl 0 rfl ?_
      refine g_iload_n hg dX12_hands_105 rfl 1 rfl ?_
      refine g_iload hg dX12_hands_106 6 rfl ?_
      obtain ⟨q108, e108, h⟩ := Option.bind_eq_some_iff.mp h
      refine g_callVi (As := [.int x1, .int x6]) (rest := []) hg (lkX12_latestOf (by omega) hn hRf  e108) cv_X12_442 rfl ly194 (idb rfl rfl hn) rfl rfl (Nat.le_of_ble_eq_true rfl) ⟨Nat.le_refl _, Nat.le_refl _⟩ dX12_hands_108 ?_
      refine g_istore (lv' := [(7, .int q108.1), (0, rr E.1 194), (1, .int x1), (2, .int x2), (3, .int x3), (4, .int x4), (5, .int x5), (6, .int x6)]) hg dX12_hands_111 (by decide) rfl ?_
      refine g_rload_n hg dX12_hands_113 rfl 1 rfl ?_
      refine g_iload_n hg dX12_hands_114 rfl 3 rfl ?_
      refine g_iload hg dX12_hands_115 7 rfl ?_
      obtain ⟨q117, e117, h⟩ := Option.bind_eq_some_iff.mp h
      refine g_callVi (As := [.int x2, .int x6]) (rest := []) hg (lkX12_latestOf (by omega) hn hRf  e117) cv_X12_442 rfl ly194 (idb rfl rfl hn) rfl rfl (Nat.le_of_ble_eq_true rfl) ⟨Nat.le_refl _, Nat.le_refl _⟩ dX12_hands_117 ?_
      refine g_istore (lv' := [(8, .int q117.1), (7, .int q108.1), (0, rr E.1 194), (1, .int x1), (2, .int x2), (3, .int x3), (4, .int x4), (5, .int x5), (6, .int x6)]) hg dX12_hands_120 (by decide) rfl ?_
      refine g_iload hg dX12_hands_122 1 rfl ?_
      refine g_if_lt (tgt := 177) hg dX12_hands_124 (by decide) (fun c => ?_) (fun c => ?_)
      · replace h := itT c h
        refine g_sub (lv' := [(0, rr E.1 194), (1, .int x1), (2, .int x2), (3, .int x3), (4, .int x4), (5, .int x5), (6, .int x6)]) [2, 3, 4, 5, 6, 7, 8] rfl ?_
        exact lkX12_hands_177 hn hRf hg hr ih _ _ _ _ _ _ _ h
      · replace h := itF c h
        refine g_iload hg dX12_hands_127 0 rfl ?_
        refine g_if_ge (tgt := 135) hg dX12_hands_129 (by decide) (fun c => ?_) (fun c => ?_)
        · replace h := itT c h
          refine g_inc (lv' := [(4, .int (x4 + 1)), (8, .int q117.1), (7, .int q108.1), (0, rr E.1 194), (1, .int x1), (2, .int x2), (3, .int x3), (5, .int x5), (6, .int x6)]) hg dX12_hands_135 kI_1 6 rfl (by decide) rfl ?_
          refine g_iload hg dX12_hands_138 7 rfl ?_
          refine g_iload hg dX12_hands_140 2 rfl ?_
          refine g_iload hg dX12_hands_142 1 rfl ?_
          refine g_icmp_ne (tgt := 151) hg dX12_hands_144 (by decide) (fun c => ?_) (fun c => ?_)
          · rw [if_neg c] at h
            refine g_iconst hg dX12_hands_151 kI_0 ?_
            refine g_sub (lv' := [(0, rr E.1 194), (1, .int x1), (2, .int x2), (3, .int x3), (4, .int (x4 + 1)), (6, .int x6), (7, .int q108.1), (8, .int q117.1)]) [3, 4, 5, 6, 0, 8, 2, 1] rfl ?_
            exact lkX12_hands_152 hn hRf hg hr ih _ _ _ _ _ _ _ _ _ _ h
          · rw [if_pos c] at h
            refine g_iconst hg dX12_hands_147 kI_1 ?_
            refine g_goto (tgt := 152) hg dX12_hands_148 (by decide) ?_
            refine g_sub (lv' := [(0, rr E.1 194), (1, .int x1), (2, .int x2), (3, .int x3), (4, .int (x4 + 1)), (6, .int x6), (7, .int q108.1), (8, .int q117.1)]) [3, 4, 5, 6, 0, 8, 2, 1] rfl ?_
            exact lkX12_hands_152 hn hRf hg hr ih _ _ _ _ _ _ _ _ _ _ h
        · replace h := itF c h
          refine g_goto (tgt := 177) hg dX12_hands_132 (by decide) ?_
          refine g_sub (lv' := [(0, rr E.1 194), (1, .int x1), (2, .int x2), (3, .int x3), (4, .int x4), (5, .int x5), (6, .int x6)]) [2, 3, 4, 5, 6, 7, 8] rfl ?_
          exact lkX12_hands_177 hn hRf hg hr ih _ _ _ _ _ _ _ h
theorem lkX12_hands_52 {g : Gm} {l0 : Launch} {E : En} {d n : Nat} {Rf : Nat → Nat → Nat} {ex : Bool} {kq : Nat × Nat} (hn : 238 ≤ n) (hRf : RfOk 194 238 kq Rf) (hg : Ok g l0 E cX12_hands RX12 12 (d + 6) 0 0) {q : Int32 × Mm} (hr : Ret g E 0 0 (some .int) ex n Rf (some (.int q.1)) q.2) : ∀ (F : Nat) (x1 : Int32) (x2 : Int32) (x3 : Int32) (x4 : Int32) (M : Mm), sX12_hands_52 F x1 x2 x3 x4 M = some q → WG g E 12 n Rf ex 0 0 52 [(0, rr E.1 194), (1, .int x1), (2, .int x2), (3, .int x3), (4, .int x4)] [] M := by
  intro F
  induction F with
  | zero =>
    intro x1 x2 x3 x4 M h
    cases h
  | succ F ih =>
    intro x1 x2 x3 x4 M h
    rw [sX12_hands_52] at h
    refine g_iload hg dX12_hands_52 4 rfl ?_
    refine g_bipush hg dX12_hands_54 kB_8 ?_
    refine g_icmp_ge (tgt := 81) hg dX12_hands_56 (by decide) (fun c => ?_) (fun c => ?_)
    · replace h := itT c h
      refine g_iconst hg dX12_hands_81 kI_0 ?_
      refine g_istore (lv' := [(4, .int 0), (0, rr E.1 194), (1, .int x1), (2, .int x2), (3, .int x3)]) hg dX12_hands_82 (by decide) rfl ?_
      refine g_iconst hg dX12_hands_84 kI_0 ?_
      refine g_istore (lv' := [(5, .int 0), (4, .int 0), (0, rr E.1 194), (1, .int x1), (2, .int x2), (3, .int x3)]) hg dX12_hands_85 (by decide) rfl ?_
      refine g_iconst hg dX12_hands_87 kI_0 ?_
      refine g_istore (lv' := [(6, .int 0), (5, .int 0), (4, .int 0), (0, rr E.1 194), (1, .int x1), (2, .int x2), (3, .int x3)]) hg dX12_hands_88 (by decide) rfl ?_
      refine g_sub (lv' := [(0, rr E.1 194), (1, .int x1), (2, .int x2), (3, .int x3), (4, .int 0), (5, .int 0), (6, .int 0)]) [3, 4, 5, 6, 2, 1, 0] rfl ?_
      exact lkX12_hands_90 hn hRf hg hr  4096 _ _ _ _ _ _ _ h
    · replace h := itF c h
      refine g_rload_n hg dX12_hands_59 rfl 0 rfl ?_
      refine g_getR (r := 236) hg fl_X12_162 ly194 rfl (idb rfl rfl hn) (rfc hRf rfl rfl rfl rfl) (by decide) dX12_hands_60 ?_
      refine g_iload hg dX12_hands_63 4 rfl ?_
      refine g_iconst hg dX12_hands_65 kI_0 ?_
      obtain ⟨c66, h⟩ := ck_some h
      refine g_iast hg ly236 (idb rfl rfl hn) (inb_vp c66) dX12_hands_66 ?_
      refine g_rload_n hg dX12_hands_67 rfl 0 rfl ?_
      refine g_getR (r := 237) hg fl_X12_165 ly194 rfl (idb rfl rfl hn) (rfc hRf rfl rfl rfl rfl) (by decide) dX12_hands_68 ?_
      refine g_iload hg dX12_hands_71 4 rfl ?_
      refine g_iconst hg dX12_hands_73 kI_0 ?_
      obtain ⟨c74, h⟩ := ck_some h
      refine g_iast hg ly237 (idb rfl rfl hn) (inb_vp c74) dX12_hands_74 ?_
      refine g_inc (lv' := [(4, .int (x4 + 1)), (0, rr E.1 194), (1, .int x1), (2, .int x2), (3, .int x3)]) hg dX12_hands_75 kI_1 4 rfl (by decide) rfl ?_
      refine g_goto (tgt := 52) hg dX12_hands_78 (by decide) ?_
      refine g_sub (lv' := [(0, rr E.1 194), (1, .int x1), (2, .int x2), (3, .int x3), (4, .int (x4 + 1))]) [1, 2, 3, 4, 0] rfl ?_
      exact ih _ _ _ _ _ h
theorem lkX12_hands {l0 : Launch} {E : En} {d n : Nat} {Rf : Nat → Nat → Nat} {ex : Bool} {kq : Nat × Nat} (hd : 6 ≤ d) (hn : 238 ≤ n) (hRf : RfOk 194 238 kq Rf) {x1 : Int32} {x2 : Int32} {x3 : Int32} {M : Mm} {q : Int32 × Mm} (h : sX12_hands x1 x2 x3 M = some q) : Ct l0 E yX12_hands cX12_hands 12 (some .int) d 0 0 [rr E.1 194, .int x1, .int x2, .int x3] ex n Rf M n Rf (some (.int q.1)) q.2 := by
  obtain ⟨d, rfl⟩ := Nat.exists_eq_add_of_le' hd
  refine Ct.of pnX12 (Nat.le_of_ble_eq_true rfl) (fun g hg hr _ => ?_)
  replace hg : Ok g l0 E cX12_hands RX12 12 (d + 6) 0 0 := hg
  show WG g E 12 n Rf ex 0 0 0 [(0, rr E.1 194), (1, .int x1), (2, .int x2), (3, .int x3)] [] M
  unfold sX12_hands at h
  refine g_rload_n hg dX12_hands_0 rfl 0 rfl ?_
  refine g_iconst hg dX12_hands_1 kI_0 ?_
  refine g_putI hg fp_X12_171 ly194 rfl (idb rfl rfl hn) dX12_hands_2 ?_
  refine g_iload_n hg dX12_hands_5 rfl 1 rfl ?_
  refine g_if_lt (tgt := 37) hg dX12_hands_6 (by decide) (fun c => ?_) (fun c => ?_)
  · replace h := itT c h
    refine g_ldcw hg dX12_hands_37 w8_110 ?_
    replace h := Option.some.inj h
    subst h
    exact g_iret hg hr dX12_hands_40
  · replace h := itF c h
    refine g_iload_n hg dX12_hands_9 rfl 1 rfl ?_
    refine g_iconst hg dX12_hands_10 kI_2 ?_
    refine g_icmp_gt (tgt := 37) hg dX12_hands_11 (by decide) (fun c => ?_) (fun c => ?_)
    · replace h := itT c h
      refine g_ldcw hg dX12_hands_37 w8_110 ?_
      replace h := Option.some.inj h
      subst h
      exact g_iret hg hr dX12_hands_40
    · replace h := itF c h
      refine g_iload_n hg dX12_hands_14 rfl 2 rfl ?_
      refine g_if_lt (tgt := 37) hg dX12_hands_15 (by decide) (fun c => ?_) (fun c => ?_)
      · replace h := itT c h
        refine g_ldcw hg dX12_hands_37 w8_110 ?_
        replace h := Option.some.inj h
        subst h
        exact g_iret hg hr dX12_hands_40
      · replace h := itF c h
        refine g_iload_n hg dX12_hands_18 rfl 2 rfl ?_
        refine g_iconst hg dX12_hands_19 kI_2 ?_
        refine g_icmp_gt (tgt := 37) hg dX12_hands_20 (by decide) (fun c => ?_) (fun c => ?_)
        · replace h := itT c h
          refine g_ldcw hg dX12_hands_37 w8_110 ?_
          replace h := Option.some.inj h
          subst h
          exact g_iret hg hr dX12_hands_40
        · replace h := itF c h
          refine g_iload_n hg dX12_hands_23 rfl 1 rfl ?_
          refine g_iload_n hg dX12_hands_24 rfl 2 rfl ?_
          refine g_icmp_eq (tgt := 37) hg dX12_hands_25 (by decide) (fun c => ?_) (fun c => ?_)
          · replace h := itT c h
            refine g_ldcw hg dX12_hands_37 w8_110 ?_
            replace h := Option.some.inj h
            subst h
            exact g_iret hg hr dX12_hands_40
          · replace h := itF c h
            refine g_iload_n hg dX12_hands_28 rfl 3 rfl ?_
            refine g_if_lt (tgt := 37) hg dX12_hands_29 (by decide) (fun c => ?_) (fun c => ?_)
            · replace h := itT c h
              refine g_ldcw hg dX12_hands_37 w8_110 ?_
              replace h := Option.some.inj h
              subst h
              exact g_iret hg hr dX12_hands_40
            · replace h := itF c h
              refine g_iload_n hg dX12_hands_32 rfl 3 rfl ?_
              refine g_iconst hg dX12_hands_33 kI_4 ?_
              refine g_icmp_le (tgt := 41) hg dX12_hands_34 (by decide) (fun c => ?_) (fun c => ?_)
              · replace h := itT c h
                refine g_rload_n hg dX12_hands_41 rfl 0 rfl ?_
                refine g_rload_n hg dX12_hands_42 rfl 0 rfl ?_
                refine g_getI hg fl_X12_174 ly194 rfl (idb rfl rfl hn) dX12_hands_43 ?_
                obtain ⟨M46, e46, h⟩ := Option.bind_eq_some_iff.mp h
                refine g_callVv (As := [.int ((sI M 194 2 0).1 194 26)]) (rest := []) hg (lkX12_know (by omega) hn hRf  e46) cv_X12_386 rfl ly194 (idb rfl rfl hn) rfl rfl (Nat.le_of_ble_eq_true rfl) ⟨Nat.le_refl _, Nat.le_refl _⟩ dX12_hands_46 ?_
                refine g_iconst hg dX12_hands_49 kI_0 ?_
                refine g_istore (lv' := [(4, .int 0), (0, rr E.1 194), (1, .int x1), (2, .int x2), (3, .int x3)]) hg dX12_hands_50 (by decide) rfl ?_
                refine g_sub (lv' := [(0, rr E.1 194), (1, .int x1), (2, .int x2), (3, .int x3), (4, .int 0)]) [1, 2, 3, 4, 0] rfl ?_
                exact lkX12_hands_52 hn hRf hg hr  4096 _ _ _ _ _ h
              · replace h := itF c h
                refine g_ldcw hg dX12_hands_37 w8_110 ?_
                replace h := Option.some.inj h
                subst h
                exact g_iret hg hr dX12_hands_40
theorem lkX12_count_115 {g : Gm} {l0 : Launch} {E : En} {d n : Nat} {Rf : Nat → Nat → Nat} {ex : Bool} {kq : Nat × Nat} (hn : 238 ≤ n) (hRf : RfOk 194 238 kq Rf) (hg : Ok g l0 E cX12_count RX12 4 (d + 6) 0 0) {q : Int32 × Mm} (hr : Ret g E 0 0 (some .int) ex n Rf (some (.int q.1)) q.2) {k92 : Int32 → Int32 → Mm → Option (Int32 × Mm)} (hk92 : ∀ (x2 : Int32) (x3 : Int32) (M : Mm), k92 x2 x3 M = some q → WG g E 4 n Rf ex 0 0 92 [(0, rr E.1 194), (2, .int x2), (3, .int x3)] [] M) : ∀ (x3 : Int32) (s0 : Int32) (s1 : Int32) (M : Mm), sX12_count_115 k92 x3 s0 s1 M = some q → WG g E 4 n Rf ex 0 0 115 [(0, rr E.1 194), (3, .int x3)] [.int s1, .int s0] M := by
  intro x3 s0 s1 M h
  unfold sX12_count_115 at h
  refine g_iadd hg dX12_count_115 ?_
  refine g_istore_n (lv' := [(2, .int (s0 + s1)), (0, rr E.1 194), (3, .int x3)]) hg dX12_count_116 rfl (by decide) rfl ?_
  refine g_inc (lv' := [(3, .int (x3 + 1)), (2, .int (s0 + s1)), (0, rr E.1 194)]) hg dX12_count_117 kI_1 2 rfl (by decide) rfl ?_
  refine g_goto (tgt := 92) hg dX12_count_120 (by decide) ?_
  refine g_sub (lv' := [(0, rr E.1 194), (2, .int (s0 + s1)), (3, .int (x3 + 1))]) [2, 1, 0] rfl ?_
  exact hk92 _ _ _ h
theorem lkX12_count_92 {g : Gm} {l0 : Launch} {E : En} {d n : Nat} {Rf : Nat → Nat → Nat} {ex : Bool} {kq : Nat × Nat} (hn : 238 ≤ n) (hRf : RfOk 194 238 kq Rf) (hg : Ok g l0 E cX12_count RX12 4 (d + 6) 0 0) {q : Int32 × Mm} (hr : Ret g E 0 0 (some .int) ex n Rf (some (.int q.1)) q.2) : ∀ (F : Nat) (x2 : Int32) (x3 : Int32) (M : Mm), sX12_count_92 F x2 x3 M = some q → WG g E 4 n Rf ex 0 0 92 [(0, rr E.1 194), (2, .int x2), (3, .int x3)] [] M := by
  intro F
  induction F with
  | zero =>
    intro x2 x3 M h
    cases h
  | succ F ih =>
    intro x2 x3 M h
    rw [sX12_count_92] at h
    refine g_iload_n hg dX12_count_92 rfl 2 rfl ?_
    refine g_rload_n hg dX12_count_93 rfl 0 rfl ?_
    refine g_getI hg fl_X12_174 ly194 rfl (idb rfl rfl hn) dX12_count_94 ?_
    refine g_icmp_ge (tgt := 123) hg dX12_count_97 (by decide) (fun c => ?_) (fun c => ?_)
    · replace h := itT c h
      refine g_iload_n hg dX12_count_123 rfl 1 rfl ?_
      replace h := Option.some.inj h
      subst h
      exact g_iret hg hr dX12_count_124
    · replace h := itF c h
      refine g_iload_n hg dX12_count_100 rfl 1 rfl ?_
      refine g_rload_n hg dX12_count_101 rfl 0 rfl ?_
      refine g_getR (r := 227) hg fl_X12_135 ly194 rfl (idb rfl rfl hn) (rfc hRf rfl rfl rfl rfl) (by decide) dX12_count_102 ?_
      refine g_iload_n hg dX12_count_105 rfl 2 rfl ?_
      obtain ⟨c106, h⟩ := ck_some h
      refine g_iald hg ly227 (idb rfl rfl hn) (inb_vp c106) dX12_count_106 ?_
      refine g_if_lt (tgt := 114) hg dX12_count_107 (by decide) (fun c => ?_) (fun c => ?_)
      · rw [if_pos c] at h
        refine g_iconst hg dX12_count_114 kI_0 ?_
        refine g_sub (lv' := [(0, rr E.1 194), (3, .int x3)]) [0, 2] rfl ?_
        exact lkX12_count_115 hn hRf hg hr ih _ _ _ _ h
      · rw [if_neg c] at h
        refine g_iconst hg dX12_count_110 kI_1 ?_
        refine g_goto (tgt := 115) hg dX12_count_111 (by decide) ?_
        refine g_sub (lv' := [(0, rr E.1 194), (3, .int x3)]) [0, 2] rfl ?_
        exact lkX12_count_115 hn hRf hg hr ih _ _ _ _ h
theorem lkX12_count {l0 : Launch} {E : En} {d n : Nat} {Rf : Nat → Nat → Nat} {ex : Bool} {kq : Nat × Nat} (hd : 6 ≤ d) (hn : 238 ≤ n) (hRf : RfOk 194 238 kq Rf) {x1 : Int32} {M : Mm} {q : Int32 × Mm} (h : sX12_count x1 M = some q) : Ct l0 E yX12_count cX12_count 4 (some .int) d 0 0 [rr E.1 194, .int x1] ex n Rf M n Rf (some (.int q.1)) q.2 := by
  obtain ⟨d, rfl⟩ := Nat.exists_eq_add_of_le' hd
  refine Ct.of pnX12 (Nat.le_of_ble_eq_true rfl) (fun g hg hr _ => ?_)
  replace hg : Ok g l0 E cX12_count RX12 4 (d + 6) 0 0 := hg
  show WG g E 4 n Rf ex 0 0 0 [(0, rr E.1 194), (1, .int x1)] [] M
  unfold sX12_count at h
  refine g_rload_n hg dX12_count_0 rfl 0 rfl ?_
  refine g_iconst hg dX12_count_1 kI_0 ?_
  refine g_putI hg fp_X12_171 ly194 rfl (idb rfl rfl hn) dX12_count_2 ?_
  refine g_iconst hg dX12_count_5 kI_0 ?_
  refine g_istore_n (lv' := [(2, .int 0), (0, rr E.1 194), (1, .int x1)]) hg dX12_count_6 rfl (by decide) rfl ?_
  refine g_iload_n hg dX12_count_7 rfl 2 rfl ?_
  by_cases c0w : x1 = 0
  · replace h := itT c0w h
    refine g_tabI (tgt := 52) (off := 44) hg dX12_count_8 c0w (by decide) (by decide) ?_
    refine g_rload_n hg dX12_count_52 rfl 1 rfl ?_
    refine g_getI hg fl_X12_13 ly194 rfl (idb rfl rfl hn) dX12_count_53 ?_
    replace h := Option.some.inj h
    subst h
    exact g_iret hg hr dX12_count_56
  replace h := itF c0w h
  by_cases c1w : x1 = 1
  · replace h := itT c1w h
    refine g_tabI (tgt := 57) (off := 49) hg dX12_count_8 c1w (by decide) (by decide) ?_
    refine g_rload_n hg dX12_count_57 rfl 1 rfl ?_
    refine g_getI hg fl_X12_17 ly194 rfl (idb rfl rfl hn) dX12_count_58 ?_
    replace h := Option.some.inj h
    subst h
    exact g_iret hg hr dX12_count_61
  replace h := itF c1w h
  by_cases c2w : x1 = 2
  · replace h := itT c2w h
    refine g_tabI (tgt := 62) (off := 54) hg dX12_count_8 c2w (by decide) (by decide) ?_
    refine g_rload_n hg dX12_count_62 rfl 1 rfl ?_
    refine g_getI hg fl_X12_174 ly194 rfl (idb rfl rfl hn) dX12_count_63 ?_
    replace h := Option.some.inj h
    subst h
    exact g_iret hg hr dX12_count_66
  replace h := itF c2w h
  by_cases c3w : x1 = 3
  · replace h := itT c3w h
    refine g_tabI (tgt := 67) (off := 59) hg dX12_count_8 c3w (by decide) (by decide) ?_
    refine g_rload_n hg dX12_count_67 rfl 1 rfl ?_
    refine g_getI hg fl_X12_330 ly194 rfl (idb rfl rfl hn) dX12_count_68 ?_
    replace h := Option.some.inj h
    subst h
    exact g_iret hg hr dX12_count_71
  replace h := itF c3w h
  by_cases c4w : x1 = 4
  · replace h := itT c4w h
    refine g_tabI (tgt := 72) (off := 64) hg dX12_count_8 c4w (by decide) (by decide) ?_
    refine g_rload_n hg dX12_count_72 rfl 1 rfl ?_
    refine g_getI hg fl_X12_333 ly194 rfl (idb rfl rfl hn) dX12_count_73 ?_
    replace h := Option.some.inj h
    subst h
    exact g_iret hg hr dX12_count_76
  replace h := itF c4w h
  by_cases c5w : x1 = 5
  · replace h := itT c5w h
    refine g_tabI (tgt := 77) (off := 69) hg dX12_count_8 c5w (by decide) (by decide) ?_
    refine g_rload_n hg dX12_count_77 rfl 1 rfl ?_
    refine g_getI hg fl_X12_336 ly194 rfl (idb rfl rfl hn) dX12_count_78 ?_
    replace h := Option.some.inj h
    subst h
    exact g_iret hg hr dX12_count_81
  replace h := itF c5w h
  by_cases c6w : x1 = 6
  · replace h := itT c6w h
    refine g_tabI (tgt := 82) (off := 74) hg dX12_count_8 c6w (by decide) (by decide) ?_
    refine g_rload_n hg dX12_count_82 rfl 1 rfl ?_
    refine g_rload_n hg dX12_count_83 rfl 1 rfl ?_
    refine g_getI hg fl_X12_174 ly194 rfl (idb rfl rfl hn) dX12_count_84 ?_
    obtain ⟨M87, e87, h⟩ := Option.bind_eq_some_iff.mp h
    refine g_callVv (As := [.int ((sI M 194 2 0).1 194 26)]) (rest := []) hg (lkX12_know (by omega) hn hRf  e87) cv_X12_386 rfl ly194 (idb rfl rfl hn) rfl rfl (Nat.le_of_ble_eq_true rfl) ⟨Nat.le_refl _, Nat.le_refl _⟩ dX12_count_87 ?_
    refine g_iconst hg dX12_count_90 kI_0 ?_
    refine g_istore_n (lv' := [(3, .int 0), (2, .int 0), (0, rr E.1 194), (1, .int x1)]) hg dX12_count_91 rfl (by decide) rfl ?_
    refine g_sub (lv' := [(0, rr E.1 194), (2, .int 0), (3, .int 0)]) [2, 1, 0] rfl ?_
    exact lkX12_count_92 hn hRf hg hr  4096 _ _ _ h
  replace h := itF c6w h
  refine g_tabO (tgt := 125) hg dX12_count_8 (by have e0w := lv_neT (a := 0) c0w (by decide); have e1w := lv_neT (a := 1) c1w (by decide); have e2w := lv_neT (a := 2) c2w (by decide); have e3w := lv_neT (a := 3) c3w (by decide); have e4w := lv_neT (a := 4) c4w (by decide); have e5w := lv_neT (a := 5) c5w (by decide); have e6w := lv_neT (a := 6) c6w (by decide); omega) (by decide) ?_
  refine g_iconst hg dX12_count_125 kI_m1 ?_
  replace h := Option.some.inj h
  subst h
  exact g_iret hg hr dX12_count_126
