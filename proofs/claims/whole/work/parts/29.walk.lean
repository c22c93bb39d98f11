def m00 : Mm := (fun _ _ => 0, fun _ _ => 0)
def r00 : Nat → Nat → Nat := fun _ _ => 0
/-- what the two constructors reckon, from nothing -/
def Begun (MB : Mm) : Prop := ∃ MS ML : Mm, scL 4096 0 0 (sI m00 3 9 (-1)) = some MS ∧ Zr 5 MS (rf_scan (up2 r00 1 0 2)) ∧ sX6_renew 4 4 (sI (sI (sI (sI (sI (mm_k14 (mm_kr MS)) 1 6 (-1)) 22 9 5) 22 10 20) 22 11 30) 22 12 60) = some ML ∧ Zr 34 ML (rf_land (up2 (rf_k14 (up2 (rf_kr (up2 (rf_scan (up2 r00 1 0 2)) 1 2 3)) 1 3 5)) 1 4 14)) ∧
  sX12_bare (sI (mmW (sI (sI (sI (sI (sI (sI (sI (sI (mm_desk ML) 194 3 4) 194 4 4) 194 10 5) 194 11 20) 194 12 30) 194 13 60) 194 14 300) 194 15 100)) 194 18 (-1)) = some MB ∧ Zr 238 MB (rf_model (rf_desk r00))
def fT (T : List (List Nat)) (i k : Nat) : Nat := (T.getD i []).getD k 0
def sT (T : List (List Nat)) (a k v : Nat) : List (List Nat) := T.set a ((T.getD a []).set k v)
def Rp (S : List Nat) (f : Nat → Nat → Nat) (T : List (List Nat)) : Prop := (∀ i k, f i k = fT T i k) ∧ T.map List.length = S
theorem Rp_len {S : List Nat} {f : Nat → Nat → Nat} {T : List (List Nat)} (h : Rp S f T) (a : Nat) : S.getD a 0 = (T.getD a []).length := by
  rw [← h.2]
  simp only [List.getD_eq_getElem?_getD, List.getElem?_map]
  cases T[a]? <;> rfl
theorem Rp_up {S : List Nat} {f : Nat → Nat → Nat} {T : List (List Nat)} {a k v : Nat} (h : Rp S f T) (hk : k < S.getD a 0) : Rp S (up2 f a k v) (sT T a k v) := by
  have hr := Rp_len h a
  have ha : a < T.length := by
    rcases Nat.lt_or_ge a T.length with q | q
    · exact q
    · rw [hr, List.getD_eq_getElem?_getD, List.getElem?_eq_none q] at hk
      exact absurd hk (Nat.not_lt_zero _)
  rw [hr] at hk
  refine ⟨fun i j => ?_, ?_⟩
  · unfold up2 fT sT
    by_cases e : i = a
    · subst e
      rw [List.getD_eq_getElem?_getD (l := List.set _ _ _), List.getElem?_set_self ha]
      by_cases e2 : j = k
      · subst e2
        rw [if_pos ⟨rfl, rfl⟩]
        rw [List.getD_eq_getElem?_getD] at hk
        simp [List.getElem?_set_self hk]
      · rw [if_neg (fun q => e2 q.2), h.1 i j]
        unfold fT
        simp [List.getD_eq_getElem?_getD, List.getElem?_set_ne (Ne.symm e2)]
    · rw [if_neg (fun q => e q.1), h.1 i j]
      unfold fT
      simp [List.getD_eq_getElem?_getD, List.getElem?_set_ne (Ne.symm e)]
  · rw [← h.2]
    unfold sT
    rw [List.map_set, List.length_set]
    apply List.ext_getElem?
    intro i
    by_cases e : i = a
    · subst e
      rw [List.getElem?_set_self (by rw [List.length_map]; exact ha)]
      simp [List.getD_eq_getElem?_getD, ha]
    · rw [List.getElem?_set_ne (Ne.symm e)]
def tR (T : List (List Nat)) (a : Nat) : Nat → List (List Nat)
  | 0 => T
  | n + 1 => sT (tR T a n) a n (a + 1 + n)
theorem Rp_R {S : List Nat} {f : Nat → Nat → Nat} {T : List (List Nat)} {a : Nat} (h : Rp S f T) : ∀ N, N ≤ S.getD a 0 → Rp S (upR f a N) (tR T a N)
  | 0, _ => by
    have e : upR f a 0 = f := by
      funext b k
      unfold upR
      rw [if_neg (by omega)]
    rw [e]
    exact h
  | n + 1, hn => by
    have e : upR f a (n + 1) = up2 (upR f a n) a n (a + 1 + n) := by
      funext b k
      show (if b = a ∧ k < n + 1 then a + 1 + k else f b k) = (if b = a ∧ k = n then a + 1 + n else if b = a ∧ k < n then a + 1 + k else f b k)
      by_cases q : b = a ∧ k = n
      · rw [if_pos ⟨q.1, by omega⟩, if_pos q, q.2]
      · rw [if_neg q]
        by_cases q2 : b = a ∧ k < n
        · rw [if_pos ⟨q2.1, by omega⟩, if_pos q2]
        · rw [if_neg (by omega), if_neg q2]
    rw [e]
    exact Rp_up (Rp_R h n (by omega)) (by omega)
def tBk : Nat → Nat → List (List Nat) → List (List Nat)
  | 0, _, T => T
  | k + 1, i, T => tBk k (i + 1) (sT (sT T (38 + 2 * i) 6 (38 + 2 * i + 1)) 35 i (38 + 2 * i))
theorem Rp_B {S : List Nat} : ∀ (k i : Nat) {f : Nat → Nat → Nat} {T : List (List Nat)}, Rp S f T → (∀ j, i ≤ j → j < i + k → 6 < S.getD (38 + 2 * j) 0 ∧ j < S.getD 35 0) → Rp S (rfB k i f) (tBk k i T)
  | 0, _, _, _, h, _ => h
  | k + 1, i, _, _, h, hs => Rp_B k (i + 1) (Rp_up (Rp_up h (hs i (Nat.le_refl _) (by omega)).1) (hs i (Nat.le_refl _) (by omega)).2) (fun j h1 h2 => hs j (by omega) (by omega))
def S00 : List Nat := (rTL 14 6).map List.length
def T00 : List (List Nat) := (rTL 14 6).map (fun r => r.map (fun _ => 0))
theorem Rp_0 : Rp S00 r00 T00 := by
  refine ⟨fun i k => ?_, by decide +kernel⟩
  unfold fT T00 r00
  simp only [List.getD_eq_getElem?_getD, List.getElem?_map]
  cases (rTL 14 6)[i]? with
  | none => simp
  | some r => simp; cases r[k]? <;> simp
def tf_k6 (T : List (List Nat)) : List (List Nat) := (sT (sT (sT (sT (sT (sT (sT T 6 0 7) 6 1 8) 6 2 9) 6 4 10) 6 5 11) 6 6 12) 6 7 13)
theorem Rp_k6 {f : Nat → Nat → Nat} {T : List (List Nat)} (h : Rp S00 f T) : Rp S00 (rf_k6 f) (tf_k6 T) := by
  unfold rf_k6 tf_k6
  repeat (first | exact h | refine Rp_up ?_ (by decide +kernel) | refine Rp_R ?_ _ (by decide +kernel) | refine Rp_B _ _ ?_ (fun j h1 h2 => (by decide +kernel : ∀ j, j < 60 → 6 < S00.getD (38 + 2 * j) 0 ∧ j < S00.getD 35 0) j (by omega)))
def tf_k14 (T : List (List Nat)) : List (List Nat) := (sT (sT (sT (sT (sT (sT (sT T 14 0 15) 14 1 16) 14 2 17) 14 4 18) 14 5 19) 14 6 20) 14 7 21)
theorem Rp_k14 {f : Nat → Nat → Nat} {T : List (List Nat)} (h : Rp S00 f T) : Rp S00 (rf_k14 f) (tf_k14 T) := by
  unfold rf_k14 tf_k14
  repeat (first | exact h | refine Rp_up ?_ (by decide +kernel) | refine Rp_R ?_ _ (by decide +kernel) | refine Rp_B _ _ ?_ (fun j h1 h2 => (by decide +kernel : ∀ j, j < 60 → 6 < S00.getD (38 + 2 * j) 0 ∧ j < S00.getD 35 0) j (by omega)))
def tf_kr (T : List (List Nat)) : List (List Nat) := (sT (sT (tf_k6 T) 5 1 6) 5 0 3)
theorem Rp_kr {f : Nat → Nat → Nat} {T : List (List Nat)} (h : Rp S00 f T) : Rp S00 (rf_kr f) (tf_kr T) := by
  unfold rf_kr tf_kr
  repeat (first | exact h | refine Rp_up ?_ (by decide +kernel) | refine Rp_R ?_ _ (by decide +kernel) | refine Rp_B _ _ ?_ (fun j h1 h2 => (by decide +kernel : ∀ j, j < 60 → 6 < S00.getD (38 + 2 * j) 0 ∧ j < S00.getD 35 0) j (by omega)) | refine Rp_k6 ?_)
def tf_land (T : List (List Nat)) : List (List Nat) := (sT (sT (sT (sT (sT (sT (tR T 23 5) 22 3 23) 22 4 29) 22 5 30) 22 6 31) 22 7 32) 22 8 33)
theorem Rp_land {f : Nat → Nat → Nat} {T : List (List Nat)} (h : Rp S00 f T) : Rp S00 (rf_land f) (tf_land T) := by
  unfold rf_land tf_land
  repeat (first | exact h | refine Rp_up ?_ (by decide +kernel) | refine Rp_R ?_ _ (by decide +kernel) | refine Rp_B _ _ ?_ (fun j h1 h2 => (by decide +kernel : ∀ j, j < 60 → 6 < S00.getD (38 + 2 * j) 0 ∧ j < S00.getD 35 0) j (by omega)))
def tf_book (T : List (List Nat)) : List (List Nat) := tBk 60 0 (sT (sT (sT T 34 0 35) 34 2 36) 34 4 37)
theorem Rp_book {f : Nat → Nat → Nat} {T : List (List Nat)} (h : Rp S00 f T) : Rp S00 (rf_book f) (tf_book T) := by
  unfold rf_book tf_book
  repeat (first | exact h | refine Rp_up ?_ (by decide +kernel) | refine Rp_R ?_ _ (by decide +kernel) | refine Rp_B _ _ ?_ (fun j h1 h2 => (by decide +kernel : ∀ j, j < 60 → 6 < S00.getD (38 + 2 * j) 0 ∧ j < S00.getD 35 0) j (by omega)))
def tf_chances (T : List (List Nat)) : List (List Nat) := (sT (sT (sT (sT (sT T 158 2 159) 158 3 160) 158 5 161) 158 0 22) 158 1 34)
theorem Rp_chances {f : Nat → Nat → Nat} {T : List (List Nat)} (h : Rp S00 f T) : Rp S00 (rf_chances f) (tf_chances T) := by
  unfold rf_chances tf_chances
  repeat (first | exact h | refine Rp_up ?_ (by decide +kernel) | refine Rp_R ?_ _ (by decide +kernel) | refine Rp_B _ _ ?_ (fun j h1 h2 => (by decide +kernel : ∀ j, j < 60 → 6 < S00.getD (38 + 2 * j) 0 ∧ j < S00.getD 35 0) j (by omega)))
def tf_drawer (T : List (List Nat)) : List (List Nat) := (sT (sT (sT (sT (sT (tR T 163 8) 162 4 163) 162 5 172) 162 6 173) 162 0 22) 162 1 158)
theorem Rp_drawer {f : Nat → Nat → Nat} {T : List (List Nat)} (h : Rp S00 f T) : Rp S00 (rf_drawer f) (tf_drawer T) := by
  unfold rf_drawer tf_drawer
  repeat (first | exact h | refine Rp_up ?_ (by decide +kernel) | refine Rp_R ?_ _ (by decide +kernel) | refine Rp_B _ _ ?_ (fun j h1 h2 => (by decide +kernel : ∀ j, j < 60 → 6 < S00.getD (38 + 2 * j) 0 ∧ j < S00.getD 35 0) j (by omega)))
def tf_planner (T : List (List Nat)) : List (List Nat) := (sT (sT (sT (sT (sT T 174 1 175) 174 5 176) 174 6 177) 174 9 178) 174 0 22)
theorem Rp_planner {f : Nat → Nat → Nat} {T : List (List Nat)} (h : Rp S00 f T) : Rp S00 (rf_planner f) (tf_planner T) := by
  unfold rf_planner tf_planner
  repeat (first | exact h | refine Rp_up ?_ (by decide +kernel) | refine Rp_R ?_ _ (by decide +kernel) | refine Rp_B _ _ ?_ (fun j h1 h2 => (by decide +kernel : ∀ j, j < 60 → 6 < S00.getD (38 + 2 * j) 0 ∧ j < S00.getD 35 0) j (by omega)))
def tf_oldmap (T : List (List Nat)) : List (List Nat) := (sT (sT (sT (sT (sT (tR T 180 6) 179 3 180) 179 4 187) 179 0 22) 179 1 34) 179 2 158)
theorem Rp_oldmap {f : Nat → Nat → Nat} {T : List (List Nat)} (h : Rp S00 f T) : Rp S00 (rf_oldmap f) (tf_oldmap T) := by
  unfold rf_oldmap tf_oldmap
  repeat (first | exact h | refine Rp_up ?_ (by decide +kernel) | refine Rp_R ?_ _ (by decide +kernel) | refine Rp_B _ _ ?_ (fun j h1 h2 => (by decide +kernel : ∀ j, j < 60 → 6 < S00.getD (38 + 2 * j) 0 ∧ j < S00.getD 35 0) j (by omega)))
def tf_agree (T : List (List Nat)) : List (List Nat) := (sT (sT (sT (sT (sT T 188 1 189) 188 2 190) 188 3 191) 188 4 192) 188 0 34)
theorem Rp_agree {f : Nat → Nat → Nat} {T : List (List Nat)} (h : Rp S00 f T) : Rp S00 (rf_agree f) (tf_agree T) := by
  unfold rf_agree tf_agree
  repeat (first | exact h | refine Rp_up ?_ (by decide +kernel) | refine Rp_R ?_ _ (by decide +kernel) | refine Rp_B _ _ ?_ (fun j h1 h2 => (by decide +kernel : ∀ j, j < 60 → 6 < S00.getD (38 + 2 * j) 0 ∧ j < S00.getD 35 0) j (by omega)))
def tf_scan (T : List (List Nat)) : List (List Nat) := sT (sT T 3 1 4) 3 0 2
theorem Rp_scan {f : Nat → Nat → Nat} {T : List (List Nat)} (h : Rp S00 f T) : Rp S00 (rf_scan f) (tf_scan T) := by
  unfold rf_scan tf_scan
  repeat (first | exact h | refine Rp_up ?_ (by decide +kernel) | refine Rp_R ?_ _ (by decide +kernel) | refine Rp_B _ _ ?_ (fun j h1 h2 => (by decide +kernel : ∀ j, j < 60 → 6 < S00.getD (38 + 2 * j) 0 ∧ j < S00.getD 35 0) j (by omega)))
def tf_desk (T : List (List Nat)) : List (List Nat) := (sT (sT (tf_agree (sT (tf_oldmap (sT (tf_planner (sT (tf_drawer (sT (tf_chances (sT (tf_book (sT (tf_land (sT (tf_k14 (sT (tf_kr (sT (tf_scan (sT T 1 0 2)) 1 2 3)) 1 3 5)) 1 4 14)) 1 7 22)) 1 8 34)) 1 9 158)) 1 10 162)) 1 11 174)) 1 12 179)) 1 13 188) 1 14 193)
theorem Rp_desk {f : Nat → Nat → Nat} {T : List (List Nat)} (h : Rp S00 f T) : Rp S00 (rf_desk f) (tf_desk T) := by
  unfold rf_desk tf_desk
  repeat (first | exact h | refine Rp_up ?_ (by decide +kernel) | refine Rp_R ?_ _ (by decide +kernel) | refine Rp_B _ _ ?_ (fun j h1 h2 => (by decide +kernel : ∀ j, j < 60 → 6 < S00.getD (38 + 2 * j) 0 ∧ j < S00.getD 35 0) j (by omega)) | refine Rp_agree ?_ | refine Rp_oldmap ?_ | refine Rp_planner ?_ | refine Rp_drawer ?_ | refine Rp_chances ?_ | refine Rp_book ?_ | refine Rp_land ?_ | refine Rp_k14 ?_ | refine Rp_kr ?_ | refine Rp_scan ?_)
def tf_model (T : List (List Nat)) : List (List Nat) := (sT (sT (sT (sT (sT (sT (sT (sT (sT (sT (sT (sT (sT (sT (sT (sT (sT (sT (sT (sT (sT (sT (sT (sT (sT (sT (sT (sT (sT (sT (sT (sT (sT (sT (sT (sT (sT (sT (sT (sT (sT (sT (sT T 194 0 195) 194 5 196) 194 6 197) 194 7 198) 194 8 199) 194 9 200) 194 16 201) 194 27 202) 194 28 203) 194 29 204) 194 30 205) 194 31 206) 194 32 207) 194 39 208) 194 40 209) 194 41 210) 194 42 211) 194 43 212) 194 44 213) 194 45 214) 194 46 215) 194 47 216) 194 48 217) 194 49 218) 194 51 219) 194 52 220) 194 54 221) 194 59 222) 194 60 223) 194 61 224) 194 62 225) 194 63 226) 194 64 227) 194 65 228) 194 67 229) 194 68 230) 194 69 231) 194 71 232) 194 72 233) 194 73 234) 194 76 235) 194 79 236) 194 80 237)
theorem Rp_model {f : Nat → Nat → Nat} {T : List (List Nat)} (h : Rp S00 f T) : Rp S00 (rf_model f) (tf_model T) := by
  unfold rf_model tf_model
  repeat (first | exact h | refine Rp_up ?_ (by decide +kernel) | refine Rp_R ?_ _ (by decide +kernel) | refine Rp_B _ _ ?_ (fun j h1 h2 => (by decide +kernel : ∀ j, j < 60 → 6 < S00.getD (38 + 2 * j) 0 ∧ j < S00.getD 35 0) j (by omega)))
theorem rf_ok0 : RfOk 1 239 (14, 6) (rf_model (rf_desk r00)) := by
  have h := Rp_model (Rp_desk Rp_0)
  have e : tf_model (tf_desk T00) = rTL 14 6 := by decide +kernel
  rw [e] at h
  exact fun id k _ _ _ => h.1 id k
theorem ciL_17 : CI RL 17 yX11_init cX11_init 1 0 := ⟨w1_26, w1_27, w1_1, w1_28, rfl, by decide +kernel, by decide⟩
theorem ciL_20 : CI RL 20 yX12_init cX12_init 1 0 := ⟨w6_9, w6_10, w1_18, w6_11, rfl, by decide +kernel, by decide⟩
theorem Emb.loose {E : En} {n : Nat} {Rf : Nat → Nat → Nat} {M : Mm} {H : Heap} (h : Emb E n Rf true M H) : Emb E n Rf false M H := ⟨h.1, h.2.1, fun e => by cases e⟩
theorem g_loose {g : Gm} {E : En} {nL n : Nat} {Rf : Nat → Nat → Nat} {cn sn pc : Nat} {lv : List (Nat × Value)} {st : List Value} {M : Mm} (kk : WG g E nL n Rf false cn sn pc lv st M) : WG g E nL n Rf true cn sn pc lv st M := by
  obtain ⟨p, l, e, R, s, m, args, below, meth, c, Q⟩ := g
  exact fun H locs ls hl hE hS => kk H locs ls hl hE.loose hS
theorem whole_go {p : Program} {e : Env} {s : State} {m : MethodId} {below : List Frame} {meth : Method} {c : Code} {l : Launch} (hl0 : l.stackTraces = false) {b L : Nat} {xs : Nat → Int32} (hL : L ≤ 3584) (C0 : lw_At p s m meth c b L xs)
    (Inv : Nat × Nat → Mm → Prop) (hInv : ∀ (kq : Nat × Nat) (M : Mm) (op a1 a2 a3 a4 a5 a6 : Int32), Inv kq M → ∃ r : (Nat × Nat) × Mm, lawSt op a1 a2 a3 a4 a5 a6 kq M = some r ∧ Inv r.1 r.2) (hK : ∀ (kq : Nat × Nat) (M : Mm), Inv kq M → isKq kq) {MB : Mm} (hB : Begun MB) (hI : Inv (14, 6) MB) :
    W p l e room_1 s m #[Value.ref b] below meth c s.heap [] 0 0 (lw_Z below #[Value.ref b] s) (entryFrame m ([Value.ref b] : List Value).toArray 7) := by
  obtain ⟨hx, hb, hr, hml, hown, hts, hX, hbl, hlocks, hgv⟩ := C0
  obtain ⟨E, hsz, hSt⟩ := stt_start hts hgv (Nat.lt_of_le_of_lt (Nat.zero_le _) hbl)
  have htg : ∀ w ∈ gt, w.before #[Value.ref b] s = true := fun w hw => hts w (List.mem_filter.mp hw).1
  have hg : Ok (gLw p l e s m b below meth c) l E cL_law RL 7 1400 601024 7293034 := ⟨rfl, hx, hb, hml, hown, htg, hSt, hlocks, by decide, by decide, rfl, rfl⟩
  have hSc : Sc (gLw p l e s m b below meth c) b L xs := ⟨hX, hbl⟩
  have hbE : b ≤ E.1 := by omega
  obtain ⟨MS, ML, h1, z1, h2, z2, h3, z3⟩ := hB
  have hz0 : Zr 1 m00 r00 := fun id _ k => ⟨rfl, rfl, rfl⟩
  have hE0 : Emb E 1 r00 true m00 s.heap := ⟨fun id a b => by omega, by omega, fun _ => by omega⟩
  have hl := lv_entry [Value.ref b] (n := 7) (Nat.le_of_ble_eq_true rfl)
  rw [lg_entry_eq]
  suffices K : WG (gLw p l e s m b below meth c) E 7 1 r00 true 0 0 0 [(0, .ref b)] [] m00 from K s.heap [] _ hl hE0 va_S.rf
  refine g_new (ci := 11) hg rfl ly1 ⟨wx1_24, wx1_25, w1_1⟩ hz0 (by decide) dL_law_0 ?_
  refine g_dup hg dL_law_3 rfl ?_
  refine g_callI (d := 1399) (As := []) (rest := [rr E.1 1]) hg (ct_desk (by decide) hz0 h1 z1 h2 z2) ciL_17 rfl rfl (Nat.le_of_ble_eq_true rfl) (by decide) dL_law_4 ?_
  refine g_astore_n (lv' := [(1, rr E.1 1), (0, .ref b)]) hg dL_law_7 rfl (by decide) rfl ?_
  refine g_new (ci := 12) hg rfl ly194 ⟨wx6_7, wx6_8, w1_18⟩ (zr_desk z2) (by decide) dL_law_8 ?_
  refine g_dup hg dL_law_11 rfl ?_
  refine g_callI (d := 1399) (As := []) (rest := [rr E.1 194]) hg (ct_model (by decide) (zr_desk z2) h3) ciL_20 rfl rfl (Nat.le_of_ble_eq_true rfl) (by decide) dL_law_12 ?_
  refine g_astore_n (lv' := [(2, rr E.1 194), (1, rr E.1 1), (0, .ref b)]) hg dL_law_15 rfl (by decide) rfl ?_
  refine g_iconst hg dL_law_16 kI_1 ?_
  refine g_newa (t := 2) (ty := .long) (N := 1) hg rfl (fun _ => rfl) (fun _ _ h => h) ly238 av_l wx1_130 (by decide) (by decide) (by decide) z3 (by decide) dL_law_17 ?_
  refine g_astore_n (lv' := [(3, rr E.1 238), (2, rr E.1 194), (1, rr E.1 1), (0, .ref b)]) hg dL_law_19 rfl (by decide) rfl ?_
  refine g_iconst hg dL_law_20 kI_0 ?_
  refine g_istore (lv' := [(4, .int 0), (3, rr E.1 238), (2, rr E.1 194), (1, rr E.1 1), (0, .ref b)]) hg dL_law_21 (by decide) rfl ?_
  refine g_loose ?_
  refine g_sub [0, 4, 3, 2, 1] (lv' := lvL E b 0) rfl ?_
  refine g_wide (cn' := 300) (sn' := 14000) (by decide) (by decide) ?_
  exact law_loop Inv hInv hK hl0 hg hSc hbE hL hr hsz 600 0 300 14000 _ (14, 6) MB (by decide) (by omega) (by decide) (by decide) rf_ok0 hI
