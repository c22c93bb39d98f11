def ck {α : Type} (b : Bool) (k : Option α) : Option α := if b = true then k else none
theorem ck_some {α : Type} {b : Bool} {k : Option α} {r : α} (h : ck b k = some r) : b = true ∧ k = some r := by
  unfold ck at h
  split at h
  · exact ⟨by assumption, h⟩
  · cases h
theorem ck_t {α : Type} {b : Bool} {k : Option α} (h : b = true) : ck b k = k := if_pos h
def inb (i : Int32) (N : Nat) : Bool := decide (¬ (i < 0 ∨ N ≤ i.toNatClampNeg))
theorem inb_vp {i : Int32} {N : Nat} (h : inb i N = true) : vp_in i N := (of_decide_eq_true h : ¬ (i < 0 ∨ N ≤ i.toNatClampNeg))
theorem inb_of {i : Int32} {N : Nat} (h : vp_in i N) : inb i N = true := decide_eq_true (show ¬ (i < 0 ∨ N ≤ i.toNatClampNeg) from h)
def nz (y : Int32) : Bool := decide (¬ y = 0)
theorem nz_ne {y : Int32} (h : nz y = true) : ¬ y = 0 := of_decide_eq_true h
def nzL (y : Int64) : Bool := decide (¬ y = 0)
theorem nzL_ne {y : Int64} (h : nzL y = true) : ¬ y = 0 := of_decide_eq_true h
def isb (y : Int32) : Bool := decide (y = 0 ∨ y = 1)
theorem isb_nar {y : Int32} (h : isb y = true) : narrow .boolean (.int y) = .int y := by
  rcases (of_decide_eq_true h : y = 0 ∨ y = 1) with rfl | rfl <;> rfl
theorem isb_fit {y : Int32} (h : isb y = true) : fits .boolean (.int y) = true := by
  rcases (of_decide_eq_true h : y = 0 ∨ y = 1) with rfl | rfl <;> rfl
theorem itT {c : Prop} [Decidable c] {α : Type} {a b r : α} (hc : c) (h : (if c then a else b) = r) : a = r := by rw [if_pos hc] at h; exact h
theorem itF {c : Prop} [Decidable c] {α : Type} {a b r : α} (hc : ¬ c) (h : (if c then a else b) = r) : b = r := by rw [if_neg hc] at h; exact h
theorem idb {id K n : Nat} (h0 : Nat.blt 0 id = true) (h1 : Nat.blt id K = true) (hn : K ≤ n) : 0 < id ∧ id < n := ⟨Nat.blt_eq.mp h0, Nat.lt_of_lt_of_le (Nat.blt_eq.mp h1) hn⟩
def RfOk (lo hi : Nat) (kq : Nat × Nat) (Rf : Nat → Nat → Nat) : Prop := ∀ id k, lo ≤ id → id < hi → k < 96 → Rf id k = rT kq id k
theorem RfOk.mono {lo hi lo' hi' : Nat} {kq : Nat × Nat} {Rf : Nat → Nat → Nat} (h : RfOk lo hi kq Rf) (h1 : lo ≤ lo') (h2 : hi' ≤ hi) : RfOk lo' hi' kq Rf := fun id k a b c => h id k (Nat.le_trans h1 a) (Nat.lt_of_lt_of_le b h2) c
theorem rfc {lo hi id k r : Nat} {kq : Nat × Nat} {Rf : Nat → Nat → Nat} (h : RfOk lo hi kq Rf) (h1 : Nat.ble lo id = true) (h2 : Nat.blt id hi = true) (hk : Nat.blt k 96 = true) (h3 : rT kq id k = r) : Rf id k = r := (h id k (Nat.le_of_ble_eq_true h1) (Nat.blt_eq.mp h2) (Nat.blt_eq.mp hk)).trans h3
def isNt (r : Nat) : Prop := ∃ i, i < 60 ∧ r = 38 + 2 * i
def isKy (k : Nat) : Prop := k = 6 ∨ k = 14
def isKq (kq : Nat × Nat) : Prop := isKy kq.1 ∧ isKy kq.2
def isKA (a : Nat) : Prop := a = 189 ∨ a = 190
def isA (N n r : Nat) : Prop := lay r = .inr (0, N) ∧ 0 < r ∧ r < n
theorem vp_lt {i : Int32} {N : Nat} (h : vp_in i N) : i.toNatClampNeg < N := Nat.not_le.mp fun q => h (Or.inr q)
theorem nt_of {i : Int32} (h : vp_in i 60) : isNt (38 + 2 * i.toNatClampNeg) := ⟨_, vp_lt h, rfl⟩
theorem nt_lay {r : Nat} (h : isNt r) : lay r = .inl 7 := by
  obtain ⟨i, hi, rfl⟩ := h
  exact (by decide +kernel : ∀ i, i < 60 → lay (38 + 2 * i) = .inl 7) i hi
theorem nt_lay1 {r : Nat} (h : isNt r) : lay (r + 1) = .inr (0, 48) := by
  obtain ⟨i, hi, rfl⟩ := h
  exact (by decide +kernel : ∀ i, i < 60 → lay (38 + 2 * i + 1) = .inr (0, 48)) i hi
theorem nt_bd {r n : Nat} (h : isNt r) (hn : 239 ≤ n) : 0 < r ∧ r < n := by
  obtain ⟨i, hi, rfl⟩ := h
  omega
theorem nt_bd1 {r n : Nat} (h : isNt r) (hn : 239 ≤ n) : 0 < r + 1 ∧ r + 1 < n := by
  obtain ⟨i, hi, rfl⟩ := h
  omega
theorem rT_note (kq : Nat × Nat) : ∀ i, i < 60 → rT kq (38 + 2 * i) 6 = 38 + 2 * i + 1 := by
  intro i hi
  have h : ∀ i, i < 60 → ∀ a b, rT (a, b) (38 + 2 * i) 6 = rT (0, 0) (38 + 2 * i) 6 := by
    intro i hi a b
    have e : rTL a b = ((rTL 0 0).set 1 ((rTL a b).getD 1 [])).set 5 ((rTL a b).getD 5 []) := rfl
    unfold rT
    rw [e]
    simp only [List.getD_eq_getElem?_getD]
    rw [List.getElem?_set_ne (by omega), List.getElem?_set_ne (by omega)]
  rw [h i hi kq.1 kq.2]
  exact (by decide +kernel : ∀ i, i < 60 → rT (0, 0) (38 + 2 * i) 6 = 38 + 2 * i + 1) i hi
theorem nt_rf {r : Nat} {kq : Nat × Nat} {Rf : Nat → Nat → Nat} (h : isNt r) (hR : RfOk 1 239 kq Rf) : Rf r 6 = r + 1 := by
  obtain ⟨i, hi, rfl⟩ := h
  rw [hR _ _ (by omega) (by omega) (by omega)]
  exact rT_note kq i hi
theorem nt_rfA {i : Int32} {kq : Nat × Nat} {Rf : Nat → Nat → Nat} (h : vp_in i 60) (hR : RfOk 1 239 kq Rf) : Rf 35 i.toNatClampNeg = 38 + 2 * i.toNatClampNeg := by
  have hl := vp_lt h
  rw [hR _ _ (by decide) (by decide) (by omega)]
  generalize i.toNatClampNeg = j at hl ⊢
  show rT (0, 0) 35 j = _
  exact (by decide +kernel : ∀ j, j < 60 → rT (0, 0) 35 j = 38 + 2 * j) j hl
theorem ky_pos {k : Nat} (h : isKy k) : 0 < k := by rcases h with rfl | rfl <;> decide
theorem ky_lay {k : Nat} (h : isKy k) : lay k = .inl 4 := by rcases h with rfl | rfl <;> rfl
theorem ky_bd {k n : Nat} (h : isKy k) (hn : 239 ≤ n) : 0 < k ∧ k < n := by rcases h with rfl | rfl <;> omega
theorem ka_lay {k : Nat} (h : isKA k) : lay k = .inr (0, 64) := by rcases h with rfl | rfl <;> rfl
theorem ka_bd {k n : Nat} (h : isKA k) (hn : 239 ≤ n) : 0 < k ∧ k < n := by rcases h with rfl | rfl <;> omega
theorem ky_lay1 {k : Nat} (h : isKy k) : lay (k + 1) = .inr (0, 96) := by rcases h with rfl | rfl <;> rfl
theorem ky_bd1 {k n : Nat} (h : isKy k) (hn : 239 ≤ n) : 0 < k + 1 ∧ k + 1 < n := by rcases h with rfl | rfl <;> omega
theorem ky_rf1 {k : Nat} {kq : Nat × Nat} {Rf : Nat → Nat → Nat} (h : isKy k) (hR : RfOk 1 239 kq Rf) : Rf k 0 = k + 1 := by rcases h with rfl | rfl <;> exact rfc hR rfl rfl rfl rfl
theorem ky_lay2 {k : Nat} (h : isKy k) : lay (k + 2) = .inr (0, 96) := by rcases h with rfl | rfl <;> rfl
theorem ky_bd2 {k n : Nat} (h : isKy k) (hn : 239 ≤ n) : 0 < k + 2 ∧ k + 2 < n := by rcases h with rfl | rfl <;> omega
theorem ky_rf2 {k : Nat} {kq : Nat × Nat} {Rf : Nat → Nat → Nat} (h : isKy k) (hR : RfOk 1 239 kq Rf) : Rf k 1 = k + 2 := by rcases h with rfl | rfl <;> exact rfc hR rfl rfl rfl rfl
theorem ky_lay3 {k : Nat} (h : isKy k) : lay (k + 3) = .inr (0, 96) := by rcases h with rfl | rfl <;> rfl
theorem ky_bd3 {k n : Nat} (h : isKy k) (hn : 239 ≤ n) : 0 < k + 3 ∧ k + 3 < n := by rcases h with rfl | rfl <;> omega
theorem ky_rf3 {k : Nat} {kq : Nat × Nat} {Rf : Nat → Nat → Nat} (h : isKy k) (hR : RfOk 1 239 kq Rf) : Rf k 2 = k + 3 := by rcases h with rfl | rfl <;> exact rfc hR rfl rfl rfl rfl
theorem ky_lay4 {k : Nat} (h : isKy k) : lay (k + 4) = .inr (0, 16) := by rcases h with rfl | rfl <;> rfl
theorem ky_bd4 {k n : Nat} (h : isKy k) (hn : 239 ≤ n) : 0 < k + 4 ∧ k + 4 < n := by rcases h with rfl | rfl <;> omega
theorem ky_rf4 {k : Nat} {kq : Nat × Nat} {Rf : Nat → Nat → Nat} (h : isKy k) (hR : RfOk 1 239 kq Rf) : Rf k 4 = k + 4 := by rcases h with rfl | rfl <;> exact rfc hR rfl rfl rfl rfl
theorem ky_lay5 {k : Nat} (h : isKy k) : lay (k + 5) = .inr (0, 16) := by rcases h with rfl | rfl <;> rfl
theorem ky_bd5 {k n : Nat} (h : isKy k) (hn : 239 ≤ n) : 0 < k + 5 ∧ k + 5 < n := by rcases h with rfl | rfl <;> omega
theorem ky_rf5 {k : Nat} {kq : Nat × Nat} {Rf : Nat → Nat → Nat} (h : isKy k) (hR : RfOk 1 239 kq Rf) : Rf k 5 = k + 5 := by rcases h with rfl | rfl <;> exact rfc hR rfl rfl rfl rfl
theorem ky_lay6 {k : Nat} (h : isKy k) : lay (k + 6) = .inr (2, 8) := by rcases h with rfl | rfl <;> rfl
theorem ky_bd6 {k n : Nat} (h : isKy k) (hn : 239 ≤ n) : 0 < k + 6 ∧ k + 6 < n := by rcases h with rfl | rfl <;> omega
theorem ky_rf6 {k : Nat} {kq : Nat × Nat} {Rf : Nat → Nat → Nat} (h : isKy k) (hR : RfOk 1 239 kq Rf) : Rf k 6 = k + 6 := by rcases h with rfl | rfl <;> exact rfc hR rfl rfl rfl rfl
theorem ky_lay7 {k : Nat} (h : isKy k) : lay (k + 7) = .inr (0, 96) := by rcases h with rfl | rfl <;> rfl
theorem ky_bd7 {k n : Nat} (h : isKy k) (hn : 239 ≤ n) : 0 < k + 7 ∧ k + 7 < n := by rcases h with rfl | rfl <;> omega
theorem ky_rf7 {k : Nat} {kq : Nat × Nat} {Rf : Nat → Nat → Nat} (h : isKy k) (hR : RfOk 1 239 kq Rf) : Rf k 7 = k + 7 := by rcases h with rfl | rfl <;> exact rfc hR rfl rfl rfl rfl
theorem fr23_lay {i : Int32} (h : vp_in i 5) : lay (24 + i.toNatClampNeg) = .inr (0, 64) := (by decide +kernel : ∀ j, j < 5 → lay (24 + j) = .inr (0, 64)) _ (vp_lt h)
theorem fr23_bd {i : Int32} {n : Nat} (h : vp_in i 5) (hn : 34 ≤ n) : 0 < 24 + i.toNatClampNeg ∧ 24 + i.toNatClampNeg < n := by
  have hl := vp_lt h
  omega
theorem fr23_rf {i : Int32} {kq : Nat × Nat} {Rf : Nat → Nat → Nat} (h : vp_in i 5) (hR : RfOk 22 34 kq Rf) : Rf 23 i.toNatClampNeg = 24 + i.toNatClampNeg := by
  have hl := vp_lt h
  rw [hR _ _ (by decide) (by decide) (by omega)]
  generalize i.toNatClampNeg = j at hl ⊢
  show rT (0, 0) 23 j = _
  exact (by decide +kernel : ∀ j, j < 5 → rT (0, 0) 23 j = 24 + j) j hl
theorem fr163_lay {i : Int32} (h : vp_in i 8) : lay (164 + i.toNatClampNeg) = .inr (0, 8) := (by decide +kernel : ∀ j, j < 8 → lay (164 + j) = .inr (0, 8)) _ (vp_lt h)
theorem fr163_bd {i : Int32} {n : Nat} (h : vp_in i 8) (hn : 239 ≤ n) : 0 < 164 + i.toNatClampNeg ∧ 164 + i.toNatClampNeg < n := by
  have hl := vp_lt h
  omega
theorem fr163_rf {i : Int32} {kq : Nat × Nat} {Rf : Nat → Nat → Nat} (h : vp_in i 8) (hR : RfOk 1 239 kq Rf) : Rf 163 i.toNatClampNeg = 164 + i.toNatClampNeg := by
  have hl := vp_lt h
  rw [hR _ _ (by decide) (by decide) (by omega)]
  generalize i.toNatClampNeg = j at hl ⊢
  show rT (0, 0) 163 j = _
  exact (by decide +kernel : ∀ j, j < 8 → rT (0, 0) 163 j = 164 + j) j hl
theorem fr180_lay {i : Int32} (h : vp_in i 6) : lay (181 + i.toNatClampNeg) = .inr (0, 8) := (by decide +kernel : ∀ j, j < 6 → lay (181 + j) = .inr (0, 8)) _ (vp_lt h)
theorem fr180_bd {i : Int32} {n : Nat} (h : vp_in i 6) (hn : 239 ≤ n) : 0 < 181 + i.toNatClampNeg ∧ 181 + i.toNatClampNeg < n := by
  have hl := vp_lt h
  omega
theorem fr180_rf {i : Int32} {kq : Nat × Nat} {Rf : Nat → Nat → Nat} (h : vp_in i 6) (hR : RfOk 1 239 kq Rf) : Rf 180 i.toNatClampNeg = 181 + i.toNatClampNeg := by
  have hl := vp_lt h
  rw [hR _ _ (by decide) (by decide) (by omega)]
  generalize i.toNatClampNeg = j at hl ⊢
  show rT (0, 0) 180 j = _
  exact (by decide +kernel : ∀ j, j < 6 → rT (0, 0) 180 j = 181 + j) j hl
theorem ly1 : lay 1 = .inl 11 := rfl
theorem ly2 : lay 2 = .inr (0, 800) := rfl
theorem ly3 : lay 3 = .inl 10 := rfl
theorem ly4 : lay 4 = .inr (2, 24) := rfl
theorem ly5 : lay 5 = .inl 5 := rfl
theorem ly6 : lay 6 = .inl 4 := rfl
theorem ly7 : lay 7 = .inr (0, 96) := rfl
theorem ly8 : lay 8 = .inr (0, 96) := rfl
theorem ly9 : lay 9 = .inr (0, 96) := rfl
theorem ly10 : lay 10 = .inr (0, 16) := rfl
theorem ly11 : lay 11 = .inr (0, 16) := rfl
theorem ly12 : lay 12 = .inr (2, 8) := rfl
theorem ly13 : lay 13 = .inr (0, 96) := rfl
theorem ly14 : lay 14 = .inl 4 := rfl
theorem ly15 : lay 15 = .inr (0, 96) := rfl
theorem ly16 : lay 16 = .inr (0, 96) := rfl
theorem ly17 : lay 17 = .inr (0, 96) := rfl
theorem ly18 : lay 18 = .inr (0, 16) := rfl
theorem ly19 : lay 19 = .inr (0, 16) := rfl
theorem ly20 : lay 20 = .inr (2, 8) := rfl
theorem ly21 : lay 21 = .inr (0, 96) := rfl
theorem ly22 : lay 22 = .inl 6 := rfl
theorem ly23 : lay 23 = .inr (4, 5) := rfl
theorem ly24 : lay 24 = .inr (0, 64) := rfl
theorem ly25 : lay 25 = .inr (0, 64) := rfl
theorem ly26 : lay 26 = .inr (0, 64) := rfl
theorem ly27 : lay 27 = .inr (0, 64) := rfl
theorem ly28 : lay 28 = .inr (0, 64) := rfl
theorem ly29 : lay 29 = .inr (0, 64) := rfl
theorem ly30 : lay 30 = .inr (0, 64) := rfl
theorem ly31 : lay 31 = .inr (0, 64) := rfl
theorem ly32 : lay 32 = .inr (0, 64) := rfl
theorem ly33 : lay 33 = .inr (0, 64) := rfl
theorem ly34 : lay 34 = .inl 1 := rfl
theorem ly35 : lay 35 = .inr (3, 60) := rfl
theorem ly36 : lay 36 = .inr (0, 60) := rfl
theorem ly37 : lay 37 = .inr (1, 60) := rfl
theorem ly38 : lay 38 = .inl 7 := rfl
theorem ly39 : lay 39 = .inr (0, 48) := rfl
theorem ly40 : lay 40 = .inl 7 := rfl
theorem ly41 : lay 41 = .inr (0, 48) := rfl
theorem ly42 : lay 42 = .inl 7 := rfl
theorem ly43 : lay 43 = .inr (0, 48) := rfl
theorem ly44 : lay 44 = .inl 7 := rfl
theorem ly45 : lay 45 = .inr (0, 48) := rfl
theorem ly46 : lay 46 = .inl 7 := rfl
theorem ly47 : lay 47 = .inr (0, 48) := rfl
theorem ly48 : lay 48 = .inl 7 := rfl
theorem ly49 : lay 49 = .inr (0, 48) := rfl
theorem ly50 : lay 50 = .inl 7 := rfl
theorem ly51 : lay 51 = .inr (0, 48) := rfl
theorem ly52 : lay 52 = .inl 7 := rfl
theorem ly53 : lay 53 = .inr (0, 48) := rfl
theorem ly54 : lay 54 = .inl 7 := rfl
theorem ly55 : lay 55 = .inr (0, 48) := rfl
theorem ly56 : lay 56 = .inl 7 := rfl
theorem ly57 : lay 57 = .inr (0, 48) := rfl
theorem ly58 : lay 58 = .inl 7 := rfl
theorem ly59 : lay 59 = .inr (0, 48) := rfl
theorem ly60 : lay 60 = .inl 7 := rfl
theorem ly61 : lay 61 = .inr (0, 48) := rfl
theorem ly62 : lay 62 = .inl 7 := rfl
theorem ly63 : lay 63 = .inr (0, 48) := rfl
theorem ly64 : lay 64 = .inl 7 := rfl
theorem ly65 : lay 65 = .inr (0, 48) := rfl
theorem ly66 : lay 66 = .inl 7 := rfl
theorem ly67 : lay 67 = .inr (0, 48) := rfl
theorem ly68 : lay 68 = .inl 7 := rfl
theorem ly69 : lay 69 = .inr (0, 48) := rfl
theorem ly70 : lay 70 = .inl 7 := rfl
theorem ly71 : lay 71 = .inr (0, 48) := rfl
theorem ly72 : lay 72 = .inl 7 := rfl
theorem ly73 : lay 73 = .inr (0, 48) := rfl
theorem ly74 : lay 74 = .inl 7 := rfl
theorem ly75 : lay 75 = .inr (0, 48) := rfl
theorem ly76 : lay 76 = .inl 7 := rfl
theorem ly77 : lay 77 = .inr (0, 48) := rfl
theorem ly78 : lay 78 = .inl 7 := rfl
theorem ly79 : lay 79 = .inr (0, 48) := rfl
theorem ly80 : lay 80 = .inl 7 := rfl
theorem ly81 : lay 81 = .inr (0, 48) := rfl
theorem ly82 : lay 82 = .inl 7 := rfl
theorem ly83 : lay 83 = .inr (0, 48) := rfl
theorem ly84 : lay 84 = .inl 7 := rfl
theorem ly85 : lay 85 = .inr (0, 48) := rfl
theorem ly86 : lay 86 = .inl 7 := rfl
theorem ly87 : lay 87 = .inr (0, 48) := rfl
theorem ly88 : lay 88 = .inl 7 := rfl
theorem ly89 : lay 89 = .inr (0, 48) := rfl
theorem ly90 : lay 90 = .inl 7 := rfl
theorem ly91 : lay 91 = .inr (0, 48) := rfl
theorem ly92 : lay 92 = .inl 7 := rfl
theorem ly93 : lay 93 = .inr (0, 48) := rfl
theorem ly94 : lay 94 = .inl 7 := rfl
theorem ly95 : lay 95 = .inr (0, 48) := rfl
theorem ly96 : lay 96 = .inl 7 := rfl
theorem ly97 : lay 97 = .inr (0, 48) := rfl
theorem ly98 : lay 98 = .inl 7 := rfl
theorem ly99 : lay 99 = .inr (0, 48) := rfl
theorem ly100 : lay 100 = .inl 7 := rfl
theorem ly101 : lay 101 = .inr (0, 48) := rfl
theorem ly102 : lay 102 = .inl 7 := rfl
theorem ly103 : lay 103 = .inr (0, 48) := rfl
theorem ly104 : lay 104 = .inl 7 := rfl
theorem ly105 : lay 105 = .inr (0, 48) := rfl
theorem ly106 : lay 106 = .inl 7 := rfl
theorem ly107 : lay 107 = .inr (0, 48) := rfl
theorem ly108 : lay 108 = .inl 7 := rfl
theorem ly109 : lay 109 = .inr (0, 48) := rfl
theorem ly110 : lay 110 = .inl 7 := rfl
theorem ly111 : lay 111 = .inr (0, 48) := rfl
theorem ly112 : lay 112 = .inl 7 := rfl
theorem ly113 : lay 113 = .inr (0, 48) := rfl
theorem ly114 : lay 114 = .inl 7 := rfl
theorem ly115 : lay 115 = .inr (0, 48) := rfl
theorem ly116 : lay 116 = .inl 7 := rfl
theorem ly117 : lay 117 = .inr (0, 48) := rfl
theorem ly118 : lay 118 = .inl 7 := rfl
theorem ly119 : lay 119 = .inr (0, 48) := rfl
theorem ly120 : lay 120 = .inl 7 := rfl
theorem ly121 : lay 121 = .inr (0, 48) := rfl
theorem ly122 : lay 122 = .inl 7 := rfl
theorem ly123 : lay 123 = .inr (0, 48) := rfl
theorem ly124 : lay 124 = .inl 7 := rfl
theorem ly125 : lay 125 = .inr (0, 48) := rfl
theorem ly126 : lay 126 = .inl 7 := rfl
theorem ly127 : lay 127 = .inr (0, 48) := rfl
theorem ly128 : lay 128 = .inl 7 := rfl
theorem ly129 : lay 129 = .inr (0, 48) := rfl
theorem ly130 : lay 130 = .inl 7 := rfl
theorem ly131 : lay 131 = .inr (0, 48) := rfl
theorem ly132 : lay 132 = .inl 7 := rfl
theorem ly133 : lay 133 = .inr (0, 48) := rfl
theorem ly134 : lay 134 = .inl 7 := rfl
theorem ly135 : lay 135 = .inr (0, 48) := rfl
theorem ly136 : lay 136 = .inl 7 := rfl
theorem ly137 : lay 137 = .inr (0, 48) := rfl
theorem ly138 : lay 138 = .inl 7 := rfl
theorem ly139 : lay 139 = .inr (0, 48) := rfl
theorem ly140 : lay 140 = .inl 7 := rfl
theorem ly141 : lay 141 = .inr (0, 48) := rfl
theorem ly142 : lay 142 = .inl 7 := rfl
theorem ly143 : lay 143 = .inr (0, 48) := rfl
theorem ly144 : lay 144 = .inl 7 := rfl
theorem ly145 : lay 145 = .inr (0, 48) := rfl
theorem ly146 : lay 146 = .inl 7 := rfl
theorem ly147 : lay 147 = .inr (0, 48) := rfl
theorem ly148 : lay 148 = .inl 7 := rfl
theorem ly149 : lay 149 = .inr (0, 48) := rfl
theorem ly150 : lay 150 = .inl 7 := rfl
theorem ly151 : lay 151 = .inr (0, 48) := rfl
theorem ly152 : lay 152 = .inl 7 := rfl
theorem ly153 : lay 153 = .inr (0, 48) := rfl
theorem ly154 : lay 154 = .inl 7 := rfl
theorem ly155 : lay 155 = .inr (0, 48) := rfl
theorem ly156 : lay 156 = .inl 7 := rfl
theorem ly157 : lay 157 = .inr (0, 48) := rfl
theorem ly158 : lay 158 = .inl 2 := rfl
theorem ly159 : lay 159 = .inr (0, 192) := rfl
theorem ly160 : lay 160 = .inr (0, 8) := rfl
theorem ly161 : lay 161 = .inr (0, 8) := rfl
theorem ly162 : lay 162 = .inl 3 := rfl
theorem ly163 : lay 163 = .inr (4, 8) := rfl
theorem ly164 : lay 164 = .inr (0, 8) := rfl
theorem ly165 : lay 165 = .inr (0, 8) := rfl
theorem ly166 : lay 166 = .inr (0, 8) := rfl
theorem ly167 : lay 167 = .inr (0, 8) := rfl
theorem ly168 : lay 168 = .inr (0, 8) := rfl
theorem ly169 : lay 169 = .inr (0, 8) := rfl
theorem ly170 : lay 170 = .inr (0, 8) := rfl
theorem ly171 : lay 171 = .inr (0, 8) := rfl
theorem ly172 : lay 172 = .inr (0, 8) := rfl
theorem ly173 : lay 173 = .inr (0, 8) := rfl
theorem ly174 : lay 174 = .inl 9 := rfl
theorem ly175 : lay 175 = .inr (0, 64) := rfl
theorem ly176 : lay 176 = .inr (0, 3) := rfl
theorem ly177 : lay 177 = .inr (0, 3) := rfl
theorem ly178 : lay 178 = .inr (0, 3) := rfl
theorem ly179 : lay 179 = .inl 8 := rfl
theorem ly180 : lay 180 = .inr (4, 6) := rfl
theorem ly181 : lay 181 = .inr (0, 8) := rfl
theorem ly182 : lay 182 = .inr (0, 8) := rfl
theorem ly183 : lay 183 = .inr (0, 8) := rfl
theorem ly184 : lay 184 = .inr (0, 8) := rfl
theorem ly185 : lay 185 = .inr (0, 8) := rfl
theorem ly186 : lay 186 = .inr (0, 8) := rfl
theorem ly187 : lay 187 = .inr (0, 6) := rfl
theorem ly188 : lay 188 = .inl 0 := rfl
theorem ly189 : lay 189 = .inr (0, 64) := rfl
theorem ly190 : lay 190 = .inr (0, 64) := rfl
theorem ly191 : lay 191 = .inr (0, 8) := rfl
theorem ly192 : lay 192 = .inr (0, 8) := rfl
theorem ly193 : lay 193 = .inr (0, 8) := rfl
theorem ly194 : lay 194 = .inl 12 := rfl
theorem ly195 : lay 195 = .inr (0, 800) := rfl
theorem ly196 : lay 196 = .inr (0, 64) := rfl
theorem ly197 : lay 197 = .inr (0, 64) := rfl
theorem ly198 : lay 198 = .inr (0, 64) := rfl
theorem ly199 : lay 199 = .inr (0, 64) := rfl
theorem ly200 : lay 200 = .inr (0, 64) := rfl
theorem ly201 : lay 201 = .inr (0, 121) := rfl
theorem ly202 : lay 202 = .inr (0, 60) := rfl
theorem ly203 : lay 203 = .inr (0, 60) := rfl
theorem ly204 : lay 204 = .inr (0, 60) := rfl
theorem ly205 : lay 205 = .inr (0, 60) := rfl
theorem ly206 : lay 206 = .inr (0, 2880) := rfl
theorem ly207 : lay 207 = .inr (1, 60) := rfl
theorem ly208 : lay 208 = .inr (0, 128) := rfl
theorem ly209 : lay 209 = .inr (0, 16) := rfl
theorem ly210 : lay 210 = .inr (0, 32) := rfl
theorem ly211 : lay 211 = .inr (0, 32) := rfl
theorem ly212 : lay 212 = .inr (0, 32) := rfl
theorem ly213 : lay 213 = .inr (0, 192) := rfl
theorem ly214 : lay 214 = .inr (0, 192) := rfl
theorem ly215 : lay 215 = .inr (0, 192) := rfl
theorem ly216 : lay 216 = .inr (0, 192) := rfl
theorem ly217 : lay 217 = .inr (0, 192) := rfl
theorem ly218 : lay 218 = .inr (0, 192) := rfl
theorem ly219 : lay 219 = .inr (0, 120) := rfl
theorem ly220 : lay 220 = .inr (0, 120) := rfl
theorem ly221 : lay 221 = .inr (0, 120) := rfl
theorem ly222 : lay 222 = .inr (0, 96) := rfl
theorem ly223 : lay 223 = .inr (1, 96) := rfl
theorem ly224 : lay 224 = .inr (0, 192) := rfl
theorem ly225 : lay 225 = .inr (0, 8) := rfl
theorem ly226 : lay 226 = .inr (0, 8) := rfl
theorem ly227 : lay 227 = .inr (0, 60) := rfl
theorem ly228 : lay 228 = .inr (0, 8) := rfl
theorem ly229 : lay 229 = .inr (0, 72) := rfl
theorem ly230 : lay 230 = .inr (0, 64) := rfl
theorem ly231 : lay 231 = .inr (0, 8) := rfl
theorem ly232 : lay 232 = .inr (0, 8) := rfl
theorem ly233 : lay 233 = .inr (0, 64) := rfl
theorem ly234 : lay 234 = .inr (1, 64) := rfl
theorem ly235 : lay 235 = .inr (0, 3) := rfl
theorem ly236 : lay 236 = .inr (0, 8) := rfl
theorem ly237 : lay 237 = .inr (0, 8) := rfl
theorem ly238 : lay 238 = .inr (2, 1) := rfl
theorem kB_m2 : (Int8.ofInt (-2)).toInt32 = (-2) := by decide +kernel
theorem kB_6 : (Int8.ofInt 6).toInt32 = 6 := by decide +kernel
theorem kB_7 : (Int8.ofInt 7).toInt32 = 7 := by decide +kernel
theorem kB_8 : (Int8.ofInt 8).toInt32 = 8 := by decide +kernel
theorem kB_10 : (Int8.ofInt 10).toInt32 = 10 := by decide +kernel
theorem kB_11 : (Int8.ofInt 11).toInt32 = 11 := by decide +kernel
theorem kB_12 : (Int8.ofInt 12).toInt32 = 12 := by decide +kernel
theorem kB_13 : (Int8.ofInt 13).toInt32 = 13 := by decide +kernel
theorem kB_14 : (Int8.ofInt 14).toInt32 = 14 := by decide +kernel
theorem kB_15 : (Int8.ofInt 15).toInt32 = 15 := by decide +kernel
theorem kB_16 : (Int8.ofInt 16).toInt32 = 16 := by decide +kernel
theorem kB_17 : (Int8.ofInt 17).toInt32 = 17 := by decide +kernel
theorem kB_18 : (Int8.ofInt 18).toInt32 = 18 := by decide +kernel
theorem kB_19 : (Int8.ofInt 19).toInt32 = 19 := by decide +kernel
theorem kB_20 : (Int8.ofInt 20).toInt32 = 20 := by decide +kernel
theorem kB_21 : (Int8.ofInt 21).toInt32 = 21 := by decide +kernel
theorem kB_22 : (Int8.ofInt 22).toInt32 = 22 := by decide +kernel
theorem kB_23 : (Int8.ofInt 23).toInt32 = 23 := by decide +kernel
theorem kB_24 : (Int8.ofInt 24).toInt32 = 24 := by decide +kernel
theorem kB_32 : (Int8.ofInt 32).toInt32 = 32 := by decide +kernel
theorem kB_40 : (Int8.ofInt 40).toInt32 = 40 := by decide +kernel
theorem kB_41 : (Int8.ofInt 41).toInt32 = 41 := by decide +kernel
theorem kB_45 : (Int8.ofInt 45).toInt32 = 45 := by decide +kernel
theorem kB_48 : (Int8.ofInt 48).toInt32 = 48 := by decide +kernel
theorem kB_57 : (Int8.ofInt 57).toInt32 = 57 := by decide +kernel
theorem kB_58 : (Int8.ofInt 58).toInt32 = 58 := by decide +kernel
theorem kB_59 : (Int8.ofInt 59).toInt32 = 59 := by decide +kernel
theorem kB_60 : (Int8.ofInt 60).toInt32 = 60 := by decide +kernel
theorem kB_61 : (Int8.ofInt 61).toInt32 = 61 := by decide +kernel
theorem kB_62 : (Int8.ofInt 62).toInt32 = 62 := by decide +kernel
theorem kB_64 : (Int8.ofInt 64).toInt32 = 64 := by decide +kernel
theorem kB_96 : (Int8.ofInt 96).toInt32 = 96 := by decide +kernel
theorem kB_97 : (Int8.ofInt 97).toInt32 = 97 := by decide +kernel
theorem kB_99 : (Int8.ofInt 99).toInt32 = 99 := by decide +kernel
theorem kB_100 : (Int8.ofInt 100).toInt32 = 100 := by decide +kernel
theorem kB_101 : (Int8.ofInt 101).toInt32 = 101 := by decide +kernel
theorem kB_102 : (Int8.ofInt 102).toInt32 = 102 := by decide +kernel
theorem kB_122 : (Int8.ofInt 122).toInt32 = 122 := by decide +kernel
theorem kI_m8 : Int32.ofInt (-8) = (-8) := by decide +kernel
theorem kI_m1 : Int32.ofInt (-1) = (-1) := by decide +kernel
theorem kI_0 : Int32.ofInt 0 = 0 := by decide +kernel
theorem kI_1 : Int32.ofInt 1 = 1 := by decide +kernel
theorem kI_2 : Int32.ofInt 2 = 2 := by decide +kernel
theorem kI_3 : Int32.ofInt 3 = 3 := by decide +kernel
theorem kI_4 : Int32.ofInt 4 = 4 := by decide +kernel
theorem kI_5 : Int32.ofInt 5 = 5 := by decide +kernel
theorem kS_255 : (Int16.ofInt 255).toInt32 = 255 := by decide +kernel
theorem kS_256 : (Int16.ofInt 256).toInt32 = 256 := by decide +kernel
theorem kS_300 : (Int16.ofInt 300).toInt32 = 300 := by decide +kernel
theorem kS_316 : (Int16.ofInt 316).toInt32 = 316 := by decide +kernel
theorem kS_318 : (Int16.ofInt 318).toInt32 = 318 := by decide +kernel
theorem kS_800 : (Int16.ofInt 800).toInt32 = 800 := by decide +kernel
theorem kS_999 : (Int16.ofInt 999).toInt32 = 999 := by decide +kernel
theorem kS_1000 : (Int16.ofInt 1000).toInt32 = 1000 := by decide +kernel
theorem kS_9999 : (Int16.ofInt 9999).toInt32 = 9999 := by decide +kernel
theorem kL_0 : Int64.ofNat ((0 : Fin 2) : Nat) = 0 := by decide +kernel
theorem pnX0 : plainName RX0 = true := by decide +kernel
theorem pnX1 : plainName RX1 = true := by decide +kernel
theorem pnX2 : plainName RX2 = true := by decide +kernel
theorem pnX3 : plainName RX3 = true := by decide +kernel
theorem pnX4 : plainName RX4 = true := by decide +kernel
theorem pnX5 : plainName RX5 = true := by decide +kernel
theorem pnX6 : plainName RX6 = true := by decide +kernel
theorem pnX7 : plainName RX7 = true := by decide +kernel
theorem pnX8 : plainName RX8 = true := by decide +kernel
theorem pnX9 : plainName RX9 = true := by decide +kernel
theorem pnX10 : plainName RX10 = true := by decide +kernel
theorem pnX11 : plainName RX11 = true := by decide +kernel
theorem pnX12 : plainName RX12 = true := by decide +kernel
theorem fl_X0_9 : FL RX0 9 0 1 := ⟨_, _, _, rfl, by decide, w3_41⟩
theorem fl_X0_15 : FL RX0 15 0 2 := ⟨_, _, _, rfl, by decide, w3_42⟩
theorem fl_X0_18 : FL RX0 18 0 3 := ⟨_, _, _, rfl, by decide, w3_43⟩
theorem fl_X0_21 : FL RX0 21 0 4 := ⟨_, _, _, rfl, by decide, w3_44⟩
theorem fl_X0_24 : FL RX0 24 0 0 := ⟨_, _, _, rfl, by decide, w3_40⟩
theorem fl_X0_35 : FL RX0 35 0 7 := ⟨_, _, _, rfl, by decide, w3_49⟩
theorem fl_X0_39 : FL RX0 39 0 6 := ⟨_, _, _, rfl, by decide, w3_47⟩
theorem fl_X0_42 : FL RX0 42 0 5 := ⟨_, _, _, rfl, by decide, w3_45⟩
theorem fl_X0_55 : FL RX0 55 1 3 := ⟨_, _, _, rfl, by decide, w2_115⟩
theorem fl_X0_60 : FL RX0 60 1 0 := ⟨_, _, _, rfl, by decide, w2_102⟩
theorem fl_X0_64 : FL RX0 64 1 2 := ⟨_, _, _, rfl, by decide, w2_110⟩
theorem fl_X0_67 : FL RX0 67 7 1 := ⟨_, _, _, rfl, by decide, w2_63⟩
theorem fl_X0_72 : FL RX0 72 7 2 := ⟨_, _, _, rfl, by decide, w2_68⟩
theorem fl_X0_75 : FL RX0 75 7 5 := ⟨_, _, _, rfl, by decide, w2_78⟩
theorem fl_X1_11 : FL RX1 11 1 0 := ⟨_, _, _, rfl, by decide, w2_99⟩
theorem fl_X1_17 : FL RX1 17 1 2 := ⟨_, _, _, rfl, by decide, w2_107⟩
theorem fl_X1_21 : FL RX1 21 1 4 := ⟨_, _, _, rfl, by decide, w2_119⟩
theorem fl_X1_26 : FL RX1 26 1 1 := ⟨_, _, _, rfl, by decide, w2_105⟩
theorem fl_X1_34 : FL RX1 34 7 0 := ⟨_, _, _, rfl, by decide, w2_61⟩
theorem fl_X1_45 : FL RX1 45 1 3 := ⟨_, _, _, rfl, by decide, w2_117⟩
theorem fl_X1_48 : FL RX1 48 7 5 := ⟨_, _, _, rfl, by decide, w2_79⟩
theorem fl_X2_9 : FL RX2 9 2 2 := ⟨_, _, _, rfl, by decide, w2_139⟩
theorem fl_X2_15 : FL RX2 15 2 3 := ⟨_, _, _, rfl, by decide, w2_140⟩
theorem fl_X2_18 : FL RX2 18 2 5 := ⟨_, _, _, rfl, by decide, w2_143⟩
theorem fl_X2_21 : FL RX2 21 2 0 := ⟨_, _, _, rfl, by decide, w2_137⟩
theorem fl_X2_25 : FL RX2 25 2 1 := ⟨_, _, _, rfl, by decide, w2_138⟩
theorem fl_X2_29 : FL RX2 29 2 4 := ⟨_, _, _, rfl, by decide, w2_141⟩
theorem fl_X2_37 : FL RX2 37 1 3 := ⟨_, _, _, rfl, by decide, w2_116⟩
theorem fl_X2_42 : FL RX2 42 1 0 := ⟨_, _, _, rfl, by decide, w2_104⟩
theorem fl_X2_46 : FL RX2 46 1 2 := ⟨_, _, _, rfl, by decide, w2_111⟩
theorem fl_X2_53 : FL RX2 53 2 6 := ⟨_, _, _, rfl, by decide, w2_145⟩
theorem fl_X2_56 : FL RX2 56 2 7 := ⟨_, _, _, rfl, by decide, w2_147⟩
theorem fl_X2_63 : FL RX2 63 7 2 := ⟨_, _, _, rfl, by decide, w2_70⟩
theorem fl_X2_74 : FL RX2 74 7 1 := ⟨_, _, _, rfl, by decide, w2_65⟩
theorem fl_X2_77 : FL RX2 77 7 5 := ⟨_, _, _, rfl, by decide, w2_80⟩
theorem fl_X3_9 : FL RX3 9 3 2 := ⟨_, _, _, rfl, by decide, w2_176⟩
theorem fl_X3_15 : FL RX3 15 3 3 := ⟨_, _, _, rfl, by decide, w2_178⟩
theorem fl_X3_20 : FL RX3 20 3 4 := ⟨_, _, _, rfl, by decide, w2_180⟩
theorem fl_X3_23 : FL RX3 23 3 5 := ⟨_, _, _, rfl, by decide, w2_181⟩
theorem fl_X3_27 : FL RX3 27 3 6 := ⟨_, _, _, rfl, by decide, w2_182⟩
theorem fl_X3_30 : FL RX3 30 3 0 := ⟨_, _, _, rfl, by decide, w2_174⟩
theorem fl_X3_34 : FL RX3 34 3 1 := ⟨_, _, _, rfl, by decide, w2_175⟩
theorem fl_X3_38 : FL RX3 38 6 0 := ⟨_, _, _, rfl, by decide, w1_232⟩
theorem fl_X3_43 : FL RX3 43 6 1 := ⟨_, _, _, rfl, by decide, w1_236⟩
theorem fl_X3_46 : FL RX3 46 3 7 := ⟨_, _, _, rfl, by decide, w2_184⟩
theorem fl_X3_53 : FL RX3 53 6 9 := ⟨_, _, _, rfl, by decide, w2_16⟩
theorem fl_X4_11 : FL RX4 11 4 0 := ⟨_, _, _, rfl, by decide, w1_144⟩
theorem fl_X4_15 : FL RX4 15 4 1 := ⟨_, _, _, rfl, by decide, w1_145⟩
theorem fl_X4_18 : FL RX4 18 4 2 := ⟨_, _, _, rfl, by decide, w1_146⟩
theorem fl_X4_21 : FL RX4 21 4 4 := ⟨_, _, _, rfl, by decide, w1_148⟩
theorem fl_X4_24 : FL RX4 24 4 5 := ⟨_, _, _, rfl, by decide, w1_149⟩
theorem fl_X4_27 : FL RX4 27 4 6 := ⟨_, _, _, rfl, by decide, w1_151⟩
theorem fl_X4_31 : FL RX4 31 4 7 := ⟨_, _, _, rfl, by decide, w1_152⟩
theorem fl_X4_34 : FL RX4 34 4 3 := ⟨_, _, _, rfl, by decide, w1_147⟩
theorem fl_X4_38 : FL RX4 38 4 8 := ⟨_, _, _, rfl, by decide, w1_153⟩
theorem fl_X4_41 : FL RX4 41 4 9 := ⟨_, _, _, rfl, by decide, w1_156⟩
theorem fl_X4_72 : FL RX4 72 7 3 := ⟨_, _, _, rfl, by decide, w2_72⟩
theorem fl_X5_12 : FL RX5 12 5 1 := ⟨_, _, _, rfl, by decide, w1_185⟩
theorem fl_X5_18 : FL RX5 18 5 0 := ⟨_, _, _, rfl, by decide, w1_184⟩
theorem fl_X5_25 : FL RX5 25 5 2 := ⟨_, _, _, rfl, by decide, w1_186⟩
theorem fl_X5_29 : FL RX5 29 10 4 := ⟨_, _, _, rfl, by decide, w1_95⟩
theorem fl_X5_50 : FL RX5 50 10 6 := ⟨_, _, _, rfl, by decide, w1_100⟩
theorem fl_X5_56 : FL RX5 56 4 8 := ⟨_, _, _, rfl, by decide, w1_155⟩
theorem fl_X5_59 : FL RX5 59 10 7 := ⟨_, _, _, rfl, by decide, w1_102⟩
theorem fl_X5_106 : FL RX5 106 4 10 := ⟨_, _, _, rfl, by decide, w1_159⟩
theorem fl_X6_13 : FL RX6 13 6 3 := ⟨_, _, _, rfl, by decide, w2_3⟩
theorem fl_X6_16 : FL RX6 16 6 4 := ⟨_, _, _, rfl, by decide, w2_7⟩
theorem fl_X6_20 : FL RX6 20 6 5 := ⟨_, _, _, rfl, by decide, w2_8⟩
theorem fl_X6_23 : FL RX6 23 6 6 := ⟨_, _, _, rfl, by decide, w2_9⟩
theorem fl_X6_26 : FL RX6 26 6 7 := ⟨_, _, _, rfl, by decide, w2_11⟩
theorem fl_X6_29 : FL RX6 29 6 8 := ⟨_, _, _, rfl, by decide, w2_13⟩
theorem fl_X6_32 : FL RX6 32 6 9 := ⟨_, _, _, rfl, by decide, w2_15⟩
theorem fl_X6_36 : FL RX6 36 6 10 := ⟨_, _, _, rfl, by decide, w2_17⟩
theorem fl_X6_39 : FL RX6 39 6 11 := ⟨_, _, _, rfl, by decide, w2_18⟩
theorem fl_X6_42 : FL RX6 42 6 12 := ⟨_, _, _, rfl, by decide, w2_19⟩
theorem fl_X6_49 : FL RX6 49 6 0 := ⟨_, _, _, rfl, by decide, w1_231⟩
theorem fl_X6_52 : FL RX6 52 6 1 := ⟨_, _, _, rfl, by decide, w1_235⟩
theorem fl_X6_55 : FL RX6 55 6 2 := ⟨_, _, _, rfl, by decide, w2_0⟩
theorem fl_X7_15 : FL RX7 15 7 4 := ⟨_, _, _, rfl, by decide, w2_74⟩
theorem fl_X7_21 : FL RX7 21 7 6 := ⟨_, _, _, rfl, by decide, w2_82⟩
theorem fl_X7_25 : FL RX7 25 7 3 := ⟨_, _, _, rfl, by decide, w2_71⟩
theorem fl_X7_38 : FL RX7 38 4 5 := ⟨_, _, _, rfl, by decide, w1_150⟩
theorem fl_X7_48 : FL RX7 48 10 4 := ⟨_, _, _, rfl, by decide, w1_97⟩
theorem fl_X7_67 : FL RX7 67 10 6 := ⟨_, _, _, rfl, by decide, w1_101⟩
theorem fl_X8_11 : FL RX8 11 8 3 := ⟨_, _, _, rfl, by decide, w3_19⟩
theorem fl_X8_16 : FL RX8 16 8 4 := ⟨_, _, _, rfl, by decide, w3_21⟩
theorem fl_X8_20 : FL RX8 20 8 0 := ⟨_, _, _, rfl, by decide, w3_16⟩
theorem fl_X8_24 : FL RX8 24 8 1 := ⟨_, _, _, rfl, by decide, w3_17⟩
theorem fl_X8_28 : FL RX8 28 8 2 := ⟨_, _, _, rfl, by decide, w3_18⟩
theorem fl_X8_32 : FL RX8 32 1 3 := ⟨_, _, _, rfl, by decide, w2_113⟩
theorem fl_X8_38 : FL RX8 38 1 0 := ⟨_, _, _, rfl, by decide, w2_100⟩
theorem fl_X8_42 : FL RX8 42 1 2 := ⟨_, _, _, rfl, by decide, w2_108⟩
theorem fl_X8_45 : FL RX8 45 6 3 := ⟨_, _, _, rfl, by decide, w2_5⟩
theorem fl_X8_50 : FL RX8 50 7 2 := ⟨_, _, _, rfl, by decide, w2_67⟩
theorem fl_X8_55 : FL RX8 55 7 5 := ⟨_, _, _, rfl, by decide, w2_77⟩
theorem fl_X8_62 : FL RX8 62 6 2 := ⟨_, _, _, rfl, by decide, w2_1⟩
theorem fl_X8_71 : FL RX8 71 6 1 := ⟨_, _, _, rfl, by decide, w1_237⟩
theorem fl_X8_74 : FL RX8 74 6 0 := ⟨_, _, _, rfl, by decide, w1_233⟩
theorem fl_X8_83 : FL RX8 83 2 7 := ⟨_, _, _, rfl, by decide, w2_148⟩
theorem fl_X9_9 : FL RX9 9 9 1 := ⟨_, _, _, rfl, by decide, w2_210⟩
theorem fl_X9_15 : FL RX9 15 9 5 := ⟨_, _, _, rfl, by decide, w2_214⟩
theorem fl_X9_18 : FL RX9 18 9 6 := ⟨_, _, _, rfl, by decide, w2_215⟩
theorem fl_X9_21 : FL RX9 21 9 9 := ⟨_, _, _, rfl, by decide, w2_218⟩
theorem fl_X9_28 : FL RX9 28 9 0 := ⟨_, _, _, rfl, by decide, w2_209⟩
theorem fl_X9_32 : FL RX9 32 9 2 := ⟨_, _, _, rfl, by decide, w2_211⟩
theorem fl_X9_35 : FL RX9 35 6 2 := ⟨_, _, _, rfl, by decide, w1_239⟩
theorem fl_X9_49 : FL RX9 49 6 3 := ⟨_, _, _, rfl, by decide, w2_4⟩
theorem fl_X9_53 : FL RX9 53 1 3 := ⟨_, _, _, rfl, by decide, w2_114⟩
theorem fl_X9_58 : FL RX9 58 1 0 := ⟨_, _, _, rfl, by decide, w2_101⟩
theorem fl_X9_62 : FL RX9 62 1 2 := ⟨_, _, _, rfl, by decide, w2_109⟩
theorem fl_X9_65 : FL RX9 65 7 2 := ⟨_, _, _, rfl, by decide, w2_66⟩
theorem fl_X9_76 : FL RX9 76 9 3 := ⟨_, _, _, rfl, by decide, w2_212⟩
theorem fl_X9_79 : FL RX9 79 9 4 := ⟨_, _, _, rfl, by decide, w2_213⟩
theorem fl_X9_82 : FL RX9 82 9 7 := ⟨_, _, _, rfl, by decide, w2_216⟩
theorem fl_X9_85 : FL RX9 85 9 8 := ⟨_, _, _, rfl, by decide, w2_217⟩
theorem fl_X10_9 : FL RX10 9 10 1 := ⟨_, _, _, rfl, by decide, w1_92⟩
theorem fl_X10_19 : FL RX10 19 10 0 := ⟨_, _, _, rfl, by decide, w1_91⟩
theorem fl_X10_45 : FL RX10 45 10 2 := ⟨_, _, _, rfl, by decide, w1_93⟩
theorem fl_X10_47 : FL RX10 47 10 3 := ⟨_, _, _, rfl, by decide, w1_94⟩
theorem fl_X10_56 : FL RX10 56 10 5 := ⟨_, _, _, rfl, by decide, w1_98⟩
theorem fl_X10_59 : FL RX10 59 10 4 := ⟨_, _, _, rfl, by decide, w1_96⟩
theorem fl_X10_78 : FL RX10 78 10 6 := ⟨_, _, _, rfl, by decide, w1_99⟩
theorem fl_X10_87 : FL RX10 87 10 7 := ⟨_, _, _, rfl, by decide, w1_103⟩
theorem fl_X11_9 : FL RX11 9 11 0 := ⟨_, _, _, rfl, by decide, w3_76⟩
theorem fl_X11_18 : FL RX11 18 11 2 := ⟨_, _, _, rfl, by decide, w3_78⟩
theorem fl_X11_34 : FL RX11 34 11 4 := ⟨_, _, _, rfl, by decide, w3_80⟩
theorem fl_X11_38 : FL RX11 38 11 6 := ⟨_, _, _, rfl, by decide, w3_82⟩
theorem fl_X11_45 : FL RX11 45 11 7 := ⟨_, _, _, rfl, by decide, w3_83⟩
theorem fl_X11_52 : FL RX11 52 11 8 := ⟨_, _, _, rfl, by decide, w3_84⟩
theorem fl_X11_61 : FL RX11 61 11 9 := ⟨_, _, _, rfl, by decide, w3_85⟩
theorem fl_X11_70 : FL RX11 70 11 10 := ⟨_, _, _, rfl, by decide, w3_86⟩
theorem fl_X11_79 : FL RX11 79 11 11 := ⟨_, _, _, rfl, by decide, w3_87⟩
theorem fl_X11_88 : FL RX11 88 11 12 := ⟨_, _, _, rfl, by decide, w3_88⟩
theorem fl_X11_97 : FL RX11 97 11 13 := ⟨_, _, _, rfl, by decide, w3_89⟩
theorem fl_X11_101 : FL RX11 101 11 14 := ⟨_, _, _, rfl, by decide, w3_90⟩
theorem fl_X11_104 : FL RX11 104 11 1 := ⟨_, _, _, rfl, by decide, w3_77⟩
theorem fl_X11_125 : FL RX11 125 4 9 := ⟨_, _, _, rfl, by decide, w1_157⟩
theorem fl_X11_135 : FL RX11 135 4 8 := ⟨_, _, _, rfl, by decide, w1_154⟩
theorem fl_X11_145 : FL RX11 145 1 1 := ⟨_, _, _, rfl, by decide, w2_106⟩
theorem fl_X11_148 : FL RX11 148 1 0 := ⟨_, _, _, rfl, by decide, w2_103⟩
theorem fl_X11_161 : FL RX11 161 7 1 := ⟨_, _, _, rfl, by decide, w2_64⟩
theorem fl_X11_164 : FL RX11 164 7 2 := ⟨_, _, _, rfl, by decide, w2_69⟩
theorem fl_X11_170 : FL RX11 170 11 5 := ⟨_, _, _, rfl, by decide, w3_81⟩
theorem fl_X11_206 : FL RX11 206 7 3 := ⟨_, _, _, rfl, by decide, w2_73⟩
theorem fl_X11_213 : FL RX11 213 7 5 := ⟨_, _, _, rfl, by decide, w2_81⟩
theorem fl_X11_216 : FL RX11 216 7 4 := ⟨_, _, _, rfl, by decide, w2_75⟩
theorem fl_X11_256 : FL RX11 256 2 5 := ⟨_, _, _, rfl, by decide, w2_144⟩
theorem fl_X11_263 : FL RX11 263 2 7 := ⟨_, _, _, rfl, by decide, w2_149⟩
theorem fl_X11_270 : FL RX11 270 2 6 := ⟨_, _, _, rfl, by decide, w2_146⟩
theorem fl_X11_273 : FL RX11 273 1 3 := ⟨_, _, _, rfl, by decide, w2_118⟩
theorem fl_X11_282 : FL RX11 282 6 0 := ⟨_, _, _, rfl, by decide, w1_234⟩
theorem fl_X11_285 : FL RX11 285 6 1 := ⟨_, _, _, rfl, by decide, w1_238⟩
theorem fl_X11_292 : FL RX11 292 3 7 := ⟨_, _, _, rfl, by decide, w2_185⟩
theorem fl_X11_293 : FL RX11 293 3 6 := ⟨_, _, _, rfl, by decide, w2_183⟩
theorem fl_X11_303 : FL RX11 303 9 11 := ⟨_, _, _, rfl, by decide, w2_223⟩
theorem fl_X11_306 : FL RX11 306 9 10 := ⟨_, _, _, rfl, by decide, w2_221⟩
theorem fl_X11_307 : FL RX11 307 9 9 := ⟨_, _, _, rfl, by decide, w2_219⟩
theorem fl_X11_313 : FL RX11 313 8 4 := ⟨_, _, _, rfl, by decide, w3_22⟩
theorem fl_X11_316 : FL RX11 316 8 3 := ⟨_, _, _, rfl, by decide, w3_20⟩
theorem fl_X11_328 : FL RX11 328 6 2 := ⟨_, _, _, rfl, by decide, w2_2⟩
theorem fl_X11_340 : FL RX11 340 0 5 := ⟨_, _, _, rfl, by decide, w3_46⟩
theorem fl_X11_343 : FL RX11 343 0 6 := ⟨_, _, _, rfl, by decide, w3_48⟩
theorem fl_X11_346 : FL RX11 346 0 7 := ⟨_, _, _, rfl, by decide, w3_50⟩
theorem fl_X11_349 : FL RX11 349 0 8 := ⟨_, _, _, rfl, by decide, w3_52⟩
theorem fl_X11_352 : FL RX11 352 0 9 := ⟨_, _, _, rfl, by decide, w3_54⟩
theorem fl_X11_355 : FL RX11 355 4 10 := ⟨_, _, _, rfl, by decide, w1_160⟩
theorem fl_X11_358 : FL RX11 358 10 8 := ⟨_, _, _, rfl, by decide, w1_105⟩
theorem fl_X11_361 : FL RX11 361 10 9 := ⟨_, _, _, rfl, by decide, w1_107⟩
theorem fl_X11_364 : FL RX11 364 1 2 := ⟨_, _, _, rfl, by decide, w2_112⟩
theorem fl_X12_7 : FL RX12 7 12 0 := ⟨_, _, _, rfl, by decide, w6_17⟩
theorem fl_X12_13 : FL RX12 13 12 3 := ⟨_, _, _, rfl, by decide, w6_20⟩
theorem fl_X12_17 : FL RX12 17 12 4 := ⟨_, _, _, rfl, by decide, w6_21⟩
theorem fl_X12_20 : FL RX12 20 12 5 := ⟨_, _, _, rfl, by decide, w6_22⟩
theorem fl_X12_23 : FL RX12 23 12 6 := ⟨_, _, _, rfl, by decide, w6_23⟩
theorem fl_X12_26 : FL RX12 26 12 7 := ⟨_, _, _, rfl, by decide, w6_24⟩
theorem fl_X12_29 : FL RX12 29 12 8 := ⟨_, _, _, rfl, by decide, w6_25⟩
theorem fl_X12_32 : FL RX12 32 12 9 := ⟨_, _, _, rfl, by decide, w6_26⟩
theorem fl_X12_35 : FL RX12 35 12 10 := ⟨_, _, _, rfl, by decide, w6_27⟩
theorem fl_X12_38 : FL RX12 38 12 11 := ⟨_, _, _, rfl, by decide, w6_28⟩
theorem fl_X12_41 : FL RX12 41 12 12 := ⟨_, _, _, rfl, by decide, w6_29⟩
theorem fl_X12_44 : FL RX12 44 12 13 := ⟨_, _, _, rfl, by decide, w6_30⟩
theorem fl_X12_47 : FL RX12 47 12 14 := ⟨_, _, _, rfl, by decide, w6_31⟩
theorem fl_X12_50 : FL RX12 50 12 15 := ⟨_, _, _, rfl, by decide, w6_32⟩
theorem fl_X12_53 : FL RX12 53 12 16 := ⟨_, _, _, rfl, by decide, w6_33⟩
theorem fl_X12_56 : FL RX12 56 12 18 := ⟨_, _, _, rfl, by decide, w6_35⟩
theorem fl_X12_59 : FL RX12 59 12 27 := ⟨_, _, _, rfl, by decide, w6_44⟩
theorem fl_X12_62 : FL RX12 62 12 28 := ⟨_, _, _, rfl, by decide, w6_45⟩
theorem fl_X12_65 : FL RX12 65 12 29 := ⟨_, _, _, rfl, by decide, w6_46⟩
theorem fl_X12_68 : FL RX12 68 12 30 := ⟨_, _, _, rfl, by decide, w6_47⟩
theorem fl_X12_71 : FL RX12 71 12 31 := ⟨_, _, _, rfl, by decide, w6_48⟩
theorem fl_X12_74 : FL RX12 74 12 32 := ⟨_, _, _, rfl, by decide, w6_49⟩
theorem fl_X12_78 : FL RX12 78 12 39 := ⟨_, _, _, rfl, by decide, w6_56⟩
theorem fl_X12_81 : FL RX12 81 12 40 := ⟨_, _, _, rfl, by decide, w6_57⟩
theorem fl_X12_84 : FL RX12 84 12 41 := ⟨_, _, _, rfl, by decide, w6_58⟩
theorem fl_X12_87 : FL RX12 87 12 42 := ⟨_, _, _, rfl, by decide, w6_59⟩
theorem fl_X12_90 : FL RX12 90 12 43 := ⟨_, _, _, rfl, by decide, w6_60⟩
theorem fl_X12_93 : FL RX12 93 12 44 := ⟨_, _, _, rfl, by decide, w6_61⟩
theorem fl_X12_96 : FL RX12 96 12 45 := ⟨_, _, _, rfl, by decide, w6_62⟩
theorem fl_X12_99 : FL RX12 99 12 46 := ⟨_, _, _, rfl, by decide, w6_63⟩
theorem fl_X12_102 : FL RX12 102 12 47 := ⟨_, _, _, rfl, by decide, w6_64⟩
theorem fl_X12_105 : FL RX12 105 12 48 := ⟨_, _, _, rfl, by decide, w6_65⟩
theorem fl_X12_108 : FL RX12 108 12 49 := ⟨_, _, _, rfl, by decide, w6_66⟩
theorem fl_X12_111 : FL RX12 111 12 51 := ⟨_, _, _, rfl, by decide, w6_68⟩
theorem fl_X12_114 : FL RX12 114 12 52 := ⟨_, _, _, rfl, by decide, w6_69⟩
theorem fl_X12_117 : FL RX12 117 12 54 := ⟨_, _, _, rfl, by decide, w6_71⟩
theorem fl_X12_120 : FL RX12 120 12 59 := ⟨_, _, _, rfl, by decide, w6_76⟩
theorem fl_X12_123 : FL RX12 123 12 60 := ⟨_, _, _, rfl, by decide, w6_77⟩
theorem fl_X12_126 : FL RX12 126 12 61 := ⟨_, _, _, rfl, by decide, w6_78⟩
theorem fl_X12_129 : FL RX12 129 12 62 := ⟨_, _, _, rfl, by decide, w6_79⟩
theorem fl_X12_132 : FL RX12 132 12 63 := ⟨_, _, _, rfl, by decide, w6_80⟩
theorem fl_X12_135 : FL RX12 135 12 64 := ⟨_, _, _, rfl, by decide, w6_81⟩
theorem fl_X12_138 : FL RX12 138 12 65 := ⟨_, _, _, rfl, by decide, w6_82⟩
theorem fl_X12_141 : FL RX12 141 12 67 := ⟨_, _, _, rfl, by decide, w6_84⟩
theorem fl_X12_144 : FL RX12 144 12 68 := ⟨_, _, _, rfl, by decide, w6_85⟩
theorem fl_X12_147 : FL RX12 147 12 69 := ⟨_, _, _, rfl, by decide, w6_86⟩
theorem fl_X12_150 : FL RX12 150 12 71 := ⟨_, _, _, rfl, by decide, w6_88⟩
theorem fl_X12_153 : FL RX12 153 12 72 := ⟨_, _, _, rfl, by decide, w6_89⟩
theorem fl_X12_156 : FL RX12 156 12 73 := ⟨_, _, _, rfl, by decide, w6_90⟩
theorem fl_X12_159 : FL RX12 159 12 76 := ⟨_, _, _, rfl, by decide, w6_93⟩
theorem fl_X12_162 : FL RX12 162 12 79 := ⟨_, _, _, rfl, by decide, w6_96⟩
theorem fl_X12_165 : FL RX12 165 12 80 := ⟨_, _, _, rfl, by decide, w6_97⟩
theorem fl_X12_171 : FL RX12 171 12 2 := ⟨_, _, _, rfl, by decide, w6_19⟩
theorem fl_X12_174 : FL RX12 174 12 26 := ⟨_, _, _, rfl, by decide, w6_43⟩
theorem fl_X12_177 : FL RX12 177 12 1 := ⟨_, _, _, rfl, by decide, w6_18⟩
theorem fl_X12_184 : FL RX12 184 12 17 := ⟨_, _, _, rfl, by decide, w6_34⟩
theorem fl_X12_187 : FL RX12 187 12 23 := ⟨_, _, _, rfl, by decide, w6_40⟩
theorem fl_X12_190 : FL RX12 190 12 19 := ⟨_, _, _, rfl, by decide, w6_36⟩
theorem fl_X12_193 : FL RX12 193 12 20 := ⟨_, _, _, rfl, by decide, w6_37⟩
theorem fl_X12_199 : FL RX12 199 12 21 := ⟨_, _, _, rfl, by decide, w6_38⟩
theorem fl_X12_209 : FL RX12 209 12 22 := ⟨_, _, _, rfl, by decide, w6_39⟩
theorem fl_X12_219 : FL RX12 219 12 24 := ⟨_, _, _, rfl, by decide, w6_41⟩
theorem fl_X12_225 : FL RX12 225 12 25 := ⟨_, _, _, rfl, by decide, w6_42⟩
theorem fl_X12_254 : FL RX12 254 12 38 := ⟨_, _, _, rfl, by decide, w6_55⟩
theorem fl_X12_257 : FL RX12 257 12 55 := ⟨_, _, _, rfl, by decide, w6_72⟩
theorem fl_X12_260 : FL RX12 260 12 50 := ⟨_, _, _, rfl, by decide, w6_67⟩
theorem fl_X12_266 : FL RX12 266 12 53 := ⟨_, _, _, rfl, by decide, w6_70⟩
theorem fl_X12_279 : FL RX12 279 12 56 := ⟨_, _, _, rfl, by decide, w6_73⟩
theorem fl_X12_290 : FL RX12 290 12 57 := ⟨_, _, _, rfl, by decide, w6_74⟩
theorem fl_X12_300 : FL RX12 300 12 58 := ⟨_, _, _, rfl, by decide, w6_75⟩
theorem fl_X12_315 : FL RX12 315 12 36 := ⟨_, _, _, rfl, by decide, w6_53⟩
theorem fl_X12_318 : FL RX12 318 12 37 := ⟨_, _, _, rfl, by decide, w6_54⟩
theorem fl_X12_330 : FL RX12 330 12 33 := ⟨_, _, _, rfl, by decide, w6_50⟩
theorem fl_X12_333 : FL RX12 333 12 34 := ⟨_, _, _, rfl, by decide, w6_51⟩
theorem fl_X12_336 : FL RX12 336 12 35 := ⟨_, _, _, rfl, by decide, w6_52⟩
theorem fl_X12_380 : FL RX12 380 12 66 := ⟨_, _, _, rfl, by decide, w6_83⟩
theorem fl_X12_404 : FL RX12 404 12 70 := ⟨_, _, _, rfl, by decide, w6_87⟩
theorem fl_X12_407 : FL RX12 407 12 77 := ⟨_, _, _, rfl, by decide, w6_94⟩
theorem fl_X12_410 : FL RX12 410 12 78 := ⟨_, _, _, rfl, by decide, w6_95⟩
theorem fl_X12_413 : FL RX12 413 12 74 := ⟨_, _, _, rfl, by decide, w6_91⟩
theorem fl_X12_416 : FL RX12 416 12 75 := ⟨_, _, _, rfl, by decide, w6_92⟩
theorem fp_X0_35 : FP RX0 35 0 7 .int := ⟨_, _, _, rfl, by decide, w3_49, rfl, by decide +kernel⟩
theorem fp_X0_39 : FP RX0 39 0 6 .int := ⟨_, _, _, rfl, by decide, w3_47, rfl, by decide +kernel⟩
theorem fp_X0_42 : FP RX0 42 0 5 .int := ⟨_, _, _, rfl, by decide, w3_45, rfl, by decide +kernel⟩
theorem fp_X0_49 : FP RX0 49 0 8 .int := ⟨_, _, _, rfl, by decide, w3_51, rfl, by decide +kernel⟩
theorem fp_X0_52 : FP RX0 52 0 9 .int := ⟨_, _, _, rfl, by decide, w3_53, rfl, by decide +kernel⟩
theorem fp_X1_45 : FP RX1 45 1 3 .int := ⟨_, _, _, rfl, by decide, w2_117, rfl, by decide +kernel⟩
theorem fp_X2_29 : FP RX2 29 2 4 .int := ⟨_, _, _, rfl, by decide, w2_141, rfl, by decide +kernel⟩
theorem fp_X2_53 : FP RX2 53 2 6 .int := ⟨_, _, _, rfl, by decide, w2_145, rfl, by decide +kernel⟩
theorem fp_X2_56 : FP RX2 56 2 7 .int := ⟨_, _, _, rfl, by decide, w2_147, rfl, by decide +kernel⟩
theorem fp_X3_46 : FP RX3 46 3 7 .int := ⟨_, _, _, rfl, by decide, w2_184, rfl, by decide +kernel⟩
theorem fp_X4_34 : FP RX4 34 4 3 .int := ⟨_, _, _, rfl, by decide, w1_147, rfl, by decide +kernel⟩
theorem fp_X4_38 : FP RX4 38 4 8 .int := ⟨_, _, _, rfl, by decide, w1_153, rfl, by decide +kernel⟩
theorem fp_X4_41 : FP RX4 41 4 9 .int := ⟨_, _, _, rfl, by decide, w1_156, rfl, by decide +kernel⟩
theorem fp_X4_44 : FP RX4 44 4 10 .int := ⟨_, _, _, rfl, by decide, w1_158, rfl, by decide +kernel⟩
theorem fp_X5_25 : FP RX5 25 5 2 .int := ⟨_, _, _, rfl, by decide, w1_186, rfl, by decide +kernel⟩
theorem fp_X5_106 : FP RX5 106 4 10 .int := ⟨_, _, _, rfl, by decide, w1_159, rfl, by decide +kernel⟩
theorem fp_X6_32 : FP RX6 32 6 9 .int := ⟨_, _, _, rfl, by decide, w2_15, rfl, by decide +kernel⟩
theorem fp_X6_36 : FP RX6 36 6 10 .int := ⟨_, _, _, rfl, by decide, w2_17, rfl, by decide +kernel⟩
theorem fp_X6_39 : FP RX6 39 6 11 .int := ⟨_, _, _, rfl, by decide, w2_18, rfl, by decide +kernel⟩
theorem fp_X6_42 : FP RX6 42 6 12 .int := ⟨_, _, _, rfl, by decide, w2_19, rfl, by decide +kernel⟩
theorem fp_X6_49 : FP RX6 49 6 0 .int := ⟨_, _, _, rfl, by decide, w1_231, rfl, by decide +kernel⟩
theorem fp_X6_52 : FP RX6 52 6 1 .int := ⟨_, _, _, rfl, by decide, w1_235, rfl, by decide +kernel⟩
theorem fp_X6_55 : FP RX6 55 6 2 .int := ⟨_, _, _, rfl, by decide, w2_0, rfl, by decide +kernel⟩
theorem fp_X7_15 : FP RX7 15 7 4 .int := ⟨_, _, _, rfl, by decide, w2_74, rfl, by decide +kernel⟩
theorem fp_X7_18 : FP RX7 18 7 5 .int := ⟨_, _, _, rfl, by decide, w2_76, rfl, by decide +kernel⟩
theorem fp_X7_25 : FP RX7 25 7 3 .int := ⟨_, _, _, rfl, by decide, w2_71, rfl, by decide +kernel⟩
theorem fp_X9_24 : FP RX9 24 9 11 .int := ⟨_, _, _, rfl, by decide, w2_222, rfl, by decide +kernel⟩
theorem fp_X9_32 : FP RX9 32 9 2 .int := ⟨_, _, _, rfl, by decide, w2_211, rfl, by decide +kernel⟩
theorem fp_X9_76 : FP RX9 76 9 3 .int := ⟨_, _, _, rfl, by decide, w2_212, rfl, by decide +kernel⟩
theorem fp_X9_79 : FP RX9 79 9 4 .int := ⟨_, _, _, rfl, by decide, w2_213, rfl, by decide +kernel⟩
theorem fp_X9_82 : FP RX9 82 9 7 .int := ⟨_, _, _, rfl, by decide, w2_216, rfl, by decide +kernel⟩
theorem fp_X9_85 : FP RX9 85 9 8 .int := ⟨_, _, _, rfl, by decide, w2_217, rfl, by decide +kernel⟩
theorem fp_X9_92 : FP RX9 92 9 10 .int := ⟨_, _, _, rfl, by decide, w2_220, rfl, by decide +kernel⟩
theorem fp_X10_15 : FP RX10 15 10 9 .int := ⟨_, _, _, rfl, by decide, w1_106, rfl, by decide +kernel⟩
theorem fp_X10_45 : FP RX10 45 10 2 .int := ⟨_, _, _, rfl, by decide, w1_93, rfl, by decide +kernel⟩
theorem fp_X10_47 : FP RX10 47 10 3 .int := ⟨_, _, _, rfl, by decide, w1_94, rfl, by decide +kernel⟩
theorem fp_X10_50 : FP RX10 50 10 8 .int := ⟨_, _, _, rfl, by decide, w1_104, rfl, by decide +kernel⟩
theorem fp_X10_56 : FP RX10 56 10 5 .int := ⟨_, _, _, rfl, by decide, w1_98, rfl, by decide +kernel⟩
theorem fp_X10_59 : FP RX10 59 10 4 .int := ⟨_, _, _, rfl, by decide, w1_96, rfl, by decide +kernel⟩
theorem fp_X10_78 : FP RX10 78 10 6 .int := ⟨_, _, _, rfl, by decide, w1_99, rfl, by decide +kernel⟩
theorem fp_X10_87 : FP RX10 87 10 7 .long := ⟨_, _, _, rfl, by decide, w1_103, rfl, by decide +kernel⟩
theorem fp_X11_38 : FP RX11 38 11 6 .int := ⟨_, _, _, rfl, by decide, w3_82, rfl, by decide +kernel⟩
theorem fp_X11_104 : FP RX11 104 11 1 .int := ⟨_, _, _, rfl, by decide, w3_77, rfl, by decide +kernel⟩
theorem fp_X11_145 : FP RX11 145 1 1 .int := ⟨_, _, _, rfl, by decide, w2_106, rfl, by decide +kernel⟩
theorem fp_X11_158 : FP RX11 158 7 0 .int := ⟨_, _, _, rfl, by decide, w2_62, rfl, by decide +kernel⟩
theorem fp_X11_161 : FP RX11 161 7 1 .int := ⟨_, _, _, rfl, by decide, w2_64, rfl, by decide +kernel⟩
theorem fp_X11_164 : FP RX11 164 7 2 .int := ⟨_, _, _, rfl, by decide, w2_69, rfl, by decide +kernel⟩
theorem fp_X11_170 : FP RX11 170 11 5 .int := ⟨_, _, _, rfl, by decide, w3_81, rfl, by decide +kernel⟩
theorem fp_X11_187 : FP RX11 187 3 2 .int := ⟨_, _, _, rfl, by decide, w2_177, rfl, by decide +kernel⟩
theorem fp_X11_190 : FP RX11 190 3 3 .int := ⟨_, _, _, rfl, by decide, w2_179, rfl, by decide +kernel⟩
theorem fp_X12_13 : FP RX12 13 12 3 .int := ⟨_, _, _, rfl, by decide, w6_20, rfl, by decide +kernel⟩
theorem fp_X12_17 : FP RX12 17 12 4 .int := ⟨_, _, _, rfl, by decide, w6_21, rfl, by decide +kernel⟩
theorem fp_X12_35 : FP RX12 35 12 10 .int := ⟨_, _, _, rfl, by decide, w6_27, rfl, by decide +kernel⟩
theorem fp_X12_38 : FP RX12 38 12 11 .int := ⟨_, _, _, rfl, by decide, w6_28, rfl, by decide +kernel⟩
theorem fp_X12_41 : FP RX12 41 12 12 .int := ⟨_, _, _, rfl, by decide, w6_29, rfl, by decide +kernel⟩
theorem fp_X12_44 : FP RX12 44 12 13 .int := ⟨_, _, _, rfl, by decide, w6_30, rfl, by decide +kernel⟩
theorem fp_X12_47 : FP RX12 47 12 14 .int := ⟨_, _, _, rfl, by decide, w6_31, rfl, by decide +kernel⟩
theorem fp_X12_50 : FP RX12 50 12 15 .int := ⟨_, _, _, rfl, by decide, w6_32, rfl, by decide +kernel⟩
theorem fp_X12_56 : FP RX12 56 12 18 .int := ⟨_, _, _, rfl, by decide, w6_35, rfl, by decide +kernel⟩
theorem fp_X12_171 : FP RX12 171 12 2 .int := ⟨_, _, _, rfl, by decide, w6_19, rfl, by decide +kernel⟩
theorem fp_X12_174 : FP RX12 174 12 26 .int := ⟨_, _, _, rfl, by decide, w6_43, rfl, by decide +kernel⟩
theorem fp_X12_177 : FP RX12 177 12 1 .int := ⟨_, _, _, rfl, by decide, w6_18, rfl, by decide +kernel⟩
theorem fp_X12_184 : FP RX12 184 12 17 .int := ⟨_, _, _, rfl, by decide, w6_34, rfl, by decide +kernel⟩
theorem fp_X12_187 : FP RX12 187 12 23 .int := ⟨_, _, _, rfl, by decide, w6_40, rfl, by decide +kernel⟩
theorem fp_X12_190 : FP RX12 190 12 19 .int := ⟨_, _, _, rfl, by decide, w6_36, rfl, by decide +kernel⟩
theorem fp_X12_193 : FP RX12 193 12 20 .int := ⟨_, _, _, rfl, by decide, w6_37, rfl, by decide +kernel⟩
theorem fp_X12_199 : FP RX12 199 12 21 .int := ⟨_, _, _, rfl, by decide, w6_38, rfl, by decide +kernel⟩
theorem fp_X12_209 : FP RX12 209 12 22 .int := ⟨_, _, _, rfl, by decide, w6_39, rfl, by decide +kernel⟩
theorem fp_X12_219 : FP RX12 219 12 24 .int := ⟨_, _, _, rfl, by decide, w6_41, rfl, by decide +kernel⟩
theorem fp_X12_225 : FP RX12 225 12 25 .int := ⟨_, _, _, rfl, by decide, w6_42, rfl, by decide +kernel⟩
theorem fp_X12_254 : FP RX12 254 12 38 .int := ⟨_, _, _, rfl, by decide, w6_55, rfl, by decide +kernel⟩
theorem fp_X12_257 : FP RX12 257 12 55 .int := ⟨_, _, _, rfl, by decide, w6_72, rfl, by decide +kernel⟩
theorem fp_X12_260 : FP RX12 260 12 50 .int := ⟨_, _, _, rfl, by decide, w6_67, rfl, by decide +kernel⟩
theorem fp_X12_266 : FP RX12 266 12 53 .int := ⟨_, _, _, rfl, by decide, w6_70, rfl, by decide +kernel⟩
theorem fp_X12_279 : FP RX12 279 12 56 .int := ⟨_, _, _, rfl, by decide, w6_73, rfl, by decide +kernel⟩
theorem fp_X12_290 : FP RX12 290 12 57 .boolean := ⟨_, _, _, rfl, by decide, w6_74, rfl, by decide +kernel⟩
theorem fp_X12_300 : FP RX12 300 12 58 .boolean := ⟨_, _, _, rfl, by decide, w6_75, rfl, by decide +kernel⟩
theorem fp_X12_315 : FP RX12 315 12 36 .int := ⟨_, _, _, rfl, by decide, w6_53, rfl, by decide +kernel⟩
theorem fp_X12_318 : FP RX12 318 12 37 .int := ⟨_, _, _, rfl, by decide, w6_54, rfl, by decide +kernel⟩
theorem fp_X12_330 : FP RX12 330 12 33 .int := ⟨_, _, _, rfl, by decide, w6_50, rfl, by decide +kernel⟩
theorem fp_X12_333 : FP RX12 333 12 34 .int := ⟨_, _, _, rfl, by decide, w6_51, rfl, by decide +kernel⟩
theorem fp_X12_336 : FP RX12 336 12 35 .int := ⟨_, _, _, rfl, by decide, w6_52, rfl, by decide +kernel⟩
theorem fp_X12_380 : FP RX12 380 12 66 .int := ⟨_, _, _, rfl, by decide, w6_83, rfl, by decide +kernel⟩
theorem fp_X12_404 : FP RX12 404 12 70 .int := ⟨_, _, _, rfl, by decide, w6_87, rfl, by decide +kernel⟩
theorem fp_X12_407 : FP RX12 407 12 77 .int := ⟨_, _, _, rfl, by decide, w6_94, rfl, by decide +kernel⟩
theorem fp_X12_410 : FP RX12 410 12 78 .int := ⟨_, _, _, rfl, by decide, w6_95, rfl, by decide +kernel⟩
theorem fp_X12_413 : FP RX12 413 12 74 .int := ⟨_, _, _, rfl, by decide, w6_91, rfl, by decide +kernel⟩
theorem fp_X12_416 : FP RX12 416 12 75 .int := ⟨_, _, _, rfl, by decide, w6_92, rfl, by decide +kernel⟩
theorem cv_X11_107 : CV RX11 107 RX11 yX11_putBytes cX11_putBytes 3 none 1 := ⟨w3_126, w3_128, wp1_2, w1_1, w3_129, by decide +kernel, by decide⟩
theorem cv_X11_111 : CV RX11 111 RX10 yX10_start cX10_start 2 none 1 := ⟨w3_134, w3_135, w3_136, w1_2, w3_137, by decide +kernel, by decide⟩
theorem cv_X11_118 : CV RX11 118 RX11 yX11_keepFault cX11_keepFault 1 none 0 := ⟨w4_6, w4_8, wp2_0, w1_1, w4_9, by decide +kernel, by decide⟩
theorem cv_X11_142 : CV RX11 142 RX6 yX6_hasCell cX6_hasCell 2 (some .boolean) 1 := ⟨w4_82, w4_83, w4_84, w1_9, w4_85, by decide +kernel, by decide⟩
theorem cv_X11_152 : CV RX11 152 RX7 yX7_readFrom cX7_readFrom 3 (some .boolean) 1 := ⟨w4_86, w4_87, w4_88, w1_12, w4_89, by decide +kernel, by decide⟩
theorem cv_X11_167 : CV RX11 167 RX7 yX7_judge cX7_judge 2 none 1 := ⟨w4_116, w4_26, w4_27, w1_12, w4_28, by decide +kernel, by decide⟩
theorem cv_X11_173 : CV RX11 173 RX1 yX1_hasNote cX1_hasNote 2 (some .boolean) 1 := ⟨w4_125, w4_126, w4_127, w1_11, w4_128, by decide +kernel, by decide⟩
theorem cv_X11_176 : CV RX11 176 RX6 yX6_renew cX6_renew 5 none 2 := ⟨w4_133, w1_205, w1_206, w1_9, w1_207, by decide +kernel, by decide⟩
theorem cv_X11_180 : CV RX11 180 RX6 yX6_put cX6_put 4 (some .boolean) 3 := ⟨w4_138, w4_139, w4_140, w1_9, w4_141, by decide +kernel, by decide⟩
theorem cv_X11_184 : CV RX11 184 RX6 yX6_putBounds cX6_putBounds 4 (some .boolean) 3 := ⟨w4_150, w4_151, w4_152, w1_9, w4_153, by decide +kernel, by decide⟩
theorem cv_X11_193 : CV RX11 193 RX11 yX11_isKind cX11_isKind 2 (some .boolean) 1 := ⟨w4_162, w4_164, wp2_10, w1_1, w4_165, by decide +kernel, by decide⟩
theorem cv_X11_196 : CV RX11 196 RX2 yX2_noteRow cX2_noteRow 3 none 2 := ⟨w4_166, w4_167, w4_168, w1_13, w4_169, by decide +kernel, by decide⟩
theorem cv_X11_199 : CV RX11 199 RX2 yX2_takeRow cX2_takeRow 5 (some .boolean) 2 := ⟨w4_170, w4_171, w4_172, w1_13, w4_173, by decide +kernel, by decide⟩
theorem cv_X11_203 : CV RX11 203 RX1 yX1_hasBore cX1_hasBore 2 (some .boolean) 1 := ⟨w4_182, w4_183, w4_184, w1_11, w4_185, by decide +kernel, by decide⟩
theorem cv_X11_209 : CV RX11 209 RX7 yX7_get cX7_get 3 (some .int) 2 := ⟨w4_187, w4_49, w4_50, w1_12, w4_51, by decide +kernel, by decide⟩
theorem cv_X11_244 : CV RX11 244 RX6 yX6_likeness cX6_likeness 4 (some .int) 2 := ⟨w4_196, w4_197, w4_198, w1_9, w4_199, by decide +kernel, by decide⟩
theorem cv_X11_247 : CV RX11 247 RX1 yX1_knows cX1_knows 2 (some .boolean) 1 := ⟨w4_208, w4_209, w4_210, w1_11, w4_211, by decide +kernel, by decide⟩
theorem cv_X11_250 : CV RX11 250 RX1 yX1_gather cX1_gather 3 none 1 := ⟨w4_212, w4_213, w4_214, w1_11, w4_215, by decide +kernel, by decide⟩
theorem cv_X11_253 : CV RX11 253 RX2 yX2_weigh cX2_weigh 4 none 2 := ⟨w4_221, w4_222, w4_223, w1_13, w4_224, by decide +kernel, by decide⟩
theorem cv_X11_259 : CV RX11 259 RX2 yX2_partsOf cX2_partsOf 2 (some .int) 1 := ⟨w4_230, w4_231, w4_232, w1_13, w4_233, by decide +kernel, by decide⟩
theorem cv_X11_266 : CV RX11 266 RX2 yX2_doubt cX2_doubt 1 (some .int) 0 := ⟨w4_234, w4_235, w4_236, w1_13, w4_237, by decide +kernel, by decide⟩
theorem cv_X11_276 : CV RX11 276 RX11 yX11_countRight cX11_countRight 4 (some .int) 0 := ⟨w5_3, w5_5, wp2_13, w1_1, w5_6, by decide +kernel, by decide⟩
theorem cv_X11_279 : CV RX11 279 RX11 yX11_sumSaid cX11_sumSaid 3 (some .int) 0 := ⟨w5_7, w5_9, wp2_14, w1_1, w5_10, by decide +kernel, by decide⟩
theorem cv_X11_288 : CV RX11 288 RX3 yX3_drawLine cX3_drawLine 9 (some .int) 2 := ⟨w5_15, w5_16, w5_17, w1_14, w5_18, by decide +kernel, by decide⟩
theorem cv_X11_295 : CV RX11 295 RX9 yX9_weighGains cX9_weighGains 4 none 2 := ⟨w5_42, w5_43, w5_44, w1_15, w5_45, by decide +kernel, by decide⟩
theorem cv_X11_299 : CV RX11 299 RX9 yX9_findPlan cX9_findPlan 5 (some .int) 3 := ⟨w5_49, w5_50, w5_51, w1_15, w5_52, by decide +kernel, by decide⟩
theorem cv_X11_310 : CV RX11 310 RX8 yX8_tallyBores cX8_tallyBores 4 none 0 := ⟨w5_86, w5_87, w5_88, w1_16, w5_89, by decide +kernel, by decide⟩
theorem cv_X11_319 : CV RX11 319 RX8 yX8_countAgreeing cX8_countAgreeing 4 (some .int) 0 := ⟨w5_98, w5_99, w5_100, w1_16, w5_101, by decide +kernel, by decide⟩
theorem cv_X11_322 : CV RX11 322 RX8 yX8_seamOfOld cX8_seamOfOld 6 (some .int) 1 := ⟨w5_111, w5_112, w5_113, w1_16, w5_114, by decide +kernel, by decide⟩
theorem cv_X11_325 : CV RX11 325 RX8 yX8_seamOfBest cX8_seamOfBest 4 (some .int) 1 := ⟨w5_115, w5_116, w5_117, w1_16, w5_118, by decide +kernel, by decide⟩
theorem cv_X11_330 : CV RX11 330 RX11 yX11_fairValue cX11_fairValue 4 (some .int) 0 := ⟨w5_123, w5_125, wp3_10, w1_1, w5_126, by decide +kernel, by decide⟩
theorem cv_X11_333 : CV RX11 333 RX11 yX11_isUnsure cX11_isUnsure 3 (some .boolean) 1 := ⟨w5_127, w5_129, wp3_11, w1_1, w5_130, by decide +kernel, by decide⟩
theorem cv_X11_337 : CV RX11 337 RX0 yX0_compare cX0_compare 4 none 2 := ⟨w5_136, w5_137, w5_138, w1_17, w5_139, by decide +kernel, by decide⟩
theorem cv_X0_28 : CV RX0 28 RX0 yX0_findLatest cX0_findLatest 5 none 2 := ⟨w5_140, w5_142, wp3_12, w1_17, w5_143, by decide +kernel, by decide⟩
theorem cv_X0_32 : CV RX0 32 RX0 yX0_countCells cX0_countCells 4 none 0 := ⟨w5_144, w5_146, wp3_13, w1_17, w5_147, by decide +kernel, by decide⟩
theorem cv_X1_30 : CV RX1 30 RX1 yX1_hasNote cX1_hasNote 2 (some .boolean) 1 := ⟨w4_186, w4_126, w4_127, w1_11, w4_128, by decide +kernel, by decide⟩
theorem cv_X1_37 : CV RX1 37 RX7 yX7_judge cX7_judge 2 none 1 := ⟨w4_25, w4_26, w4_27, w1_12, w4_28, by decide +kernel, by decide⟩
theorem cv_X1_41 : CV RX1 41 RX1 yX1_findStruck cX1_findStruck 5 none 1 := ⟨w4_216, w4_218, wp2_11, w1_11, w4_219, by decide +kernel, by decide⟩
theorem cv_X2_49 : CV RX2 49 RX2 yX2_addBore cX2_addBore 5 none 2 := ⟨w4_225, w4_227, wp2_12, w1_13, w4_228, by decide +kernel, by decide⟩
theorem cv_X2_59 : CV RX2 59 RX2 yX2_partsOf cX2_partsOf 2 (some .int) 1 := ⟨w4_238, w4_231, w4_232, w1_13, w4_233, by decide +kernel, by decide⟩
theorem cv_X2_68 : CV RX2 68 RX6 yX6_likeness cX6_likeness 4 (some .int) 2 := ⟨w4_229, w4_197, w4_198, w1_9, w4_199, by decide +kernel, by decide⟩
theorem cv_X3_49 : CV RX3 49 RX6 yX6_heightGap cX6_heightGap 3 (some .int) 2 := ⟨w5_19, w1_219, w1_220, w1_9, w1_221, by decide +kernel, by decide⟩
theorem cv_X3_56 : CV RX3 56 RX2 yX2_weigh cX2_weigh 4 none 2 := ⟨w5_20, w4_222, w4_223, w1_13, w4_224, by decide +kernel, by decide⟩
theorem cv_X3_65 : CV RX3 65 RX2 yX2_partsOf cX2_partsOf 2 (some .int) 1 := ⟨w5_21, w4_231, w4_232, w1_13, w4_233, by decide +kernel, by decide⟩
theorem cv_X3_69 : CV RX3 69 RX3 yX3_followerOf cX3_followerOf 5 (some .int) 2 := ⟨w5_22, w5_24, wp2_15, w1_14, w5_25, by decide +kernel, by decide⟩
theorem cv_X3_72 : CV RX3 72 RX3 yX3_costBehind cX3_costBehind 4 (some .int) 3 := ⟨w5_26, w5_28, wp3_0, w1_14, w5_29, by decide +kernel, by decide⟩
theorem cv_X3_76 : CV RX3 76 RX3 yX3_chooseKinds cX3_chooseKinds 4 (some .int) 0 := ⟨w5_30, w5_32, wp3_1, w1_14, w5_33, by decide +kernel, by decide⟩
theorem cv_X4_47 : CV RX4 47 RX4 yX4_holds cX4_holds 6 (some .boolean) 3 := ⟨w4_33, w4_35, wp2_1, w1_8, w4_36, by decide +kernel, by decide⟩
theorem cv_X4_51 : CV RX4 51 RX4 yX4_changed cX4_changed 6 (some .int) 3 := ⟨w4_37, w4_39, wp2_2, w1_8, w4_40, by decide +kernel, by decide⟩
theorem cv_X4_55 : CV RX4 55 RX4 yX4_leaf cX4_leaf 6 (some .int) 2 := ⟨w4_62, w4_64, wp2_4, w1_8, w4_65, by decide +kernel, by decide⟩
theorem cv_X4_59 : CV RX4 59 RX7 yX7_allLayers cX7_allLayers 1 (some .int) 0 := ⟨w4_41, w4_42, w4_43, w1_12, w4_44, by decide +kernel, by decide⟩
theorem cv_X4_65 : CV RX4 65 RX7 yX7_depth cX7_depth 1 (some .int) 0 := ⟨w4_66, w4_67, w4_68, w1_12, w4_69, by decide +kernel, by decide⟩
theorem cv_X4_68 : CV RX4 68 RX4 yX4_compares cX4_compares 3 (some .boolean) 2 := ⟨w4_55, w4_57, wp2_3, w1_8, w4_58, by decide +kernel, by decide⟩
theorem cv_X4_75 : CV RX4 75 RX4 yX4_isSo cX4_isSo 4 (some .boolean) 3 := ⟨w4_71, w4_73, wp2_5, w1_8, w4_74, by decide +kernel, by decide⟩
theorem cv_X4_78 : CV RX4 78 RX7 yX7_get cX7_get 3 (some .int) 2 := ⟨w4_48, w4_49, w4_50, w1_12, w4_51, by decide +kernel, by decide⟩
theorem cv_X5_22 : CV RX5 22 RX4 yX4_clear cX4_clear 1 none 0 := ⟨w3_171, w3_172, w3_173, w1_8, w3_174, by decide +kernel, by decide⟩
theorem cv_X5_34 : CV RX5 34 RX5 yX5_readKind cX5_readKind 2 (some .int) 0 := ⟨w3_175, w3_177, wp1_7, w1_7, w3_178, by decide +kernel, by decide⟩
theorem cv_X5_38 : CV RX5 38 RX10 yX10_takeSign cX10_takeSign 2 (some .boolean) 1 := ⟨w3_188, w3_189, w3_190, w1_2, w3_191, by decide +kernel, by decide⟩
theorem cv_X5_42 : CV RX5 42 RX5 yX5_readEither cX5_readEither 3 (some .boolean) 1 := ⟨w3_197, w3_199, wp1_8, w1_7, w3_200, by decide +kernel, by decide⟩
theorem cv_X5_46 : CV RX5 46 RX4 yX4_endLine cX4_endLine 2 none 1 := ⟨w4_2, w4_3, w4_4, w1_8, w4_5, by decide +kernel, by decide⟩
theorem cv_X5_53 : CV RX5 53 RX10 yX10_refuse cX10_refuse 2 (some .boolean) 1 := ⟨w3_179, w3_180, w3_181, w1_2, w3_182, by decide +kernel, by decide⟩
theorem cv_X5_63 : CV RX5 63 RX4 yX4_numberOf cX4_numberOf 4 (some .int) 1 := ⟨w3_183, w3_184, w3_185, w1_8, w3_186, by decide +kernel, by decide⟩
theorem cv_X5_67 : CV RX5 67 RX10 yX10_step cX10_step 1 none 0 := ⟨w3_187, w3_142, w3_143, w1_2, w3_144, by decide +kernel, by decide⟩
theorem cv_X5_70 : CV RX5 70 RX5 yX5_readBoth cX5_readBoth 3 (some .boolean) 1 := ⟨w3_201, w3_203, wp1_9, w1_7, w3_204, by decide +kernel, by decide⟩
theorem cv_X5_73 : CV RX5 73 RX10 yX10_isWord cX10_isWord 3 (some .boolean) 2 := ⟨w3_209, w3_210, w3_211, w1_2, w3_212, by decide +kernel, by decide⟩
theorem cv_X5_77 : CV RX5 77 RX5 yX5_takeKnot cX5_takeKnot 1 (some .boolean) 0 := ⟨w3_213, w3_215, wp1_11, w1_7, w3_216, by decide +kernel, by decide⟩
theorem cv_X5_81 : CV RX5 81 RX4 yX4_emit cX4_emit 4 none 3 := ⟨w3_234, w3_235, w3_236, w1_8, w3_237, by decide +kernel, by decide⟩
theorem cv_X5_85 : CV RX5 85 RX5 yX5_readMaybeNot cX5_readMaybeNot 4 (some .boolean) 1 := ⟨w3_205, w3_207, wp1_10, w1_7, w3_208, by decide +kernel, by decide⟩
theorem cv_X5_88 : CV RX5 88 RX10 yX10_isSign cX10_isSign 2 (some .boolean) 1 := ⟨w3_217, w3_193, w3_194, w1_2, w3_195, by decide +kernel, by decide⟩
theorem cv_X5_91 : CV RX5 91 RX5 yX5_readBracket cX5_readBracket 3 (some .boolean) 1 := ⟨w3_218, w3_220, wp1_12, w1_7, w3_221, by decide +kernel, by decide⟩
theorem cv_X5_94 : CV RX5 94 RX5 yX5_readOfLayer cX5_readOfLayer 3 (some .boolean) 0 := ⟨w3_222, w3_224, wp1_13, w1_7, w3_225, by decide +kernel, by decide⟩
theorem cv_X5_97 : CV RX5 97 RX5 yX5_readOfBore cX5_readOfBore 3 (some .boolean) 0 := ⟨w3_238, w4_0, wp1_15, w1_7, w4_1, by decide +kernel, by decide⟩
theorem cv_X5_100 : CV RX5 100 RX5 yX5_readCompare cX5_readCompare 4 (some .boolean) 1 := ⟨w3_226, w3_228, wp1_14, w1_7, w3_229, by decide +kernel, by decide⟩
theorem cv_X5_103 : CV RX5 103 RX10 yX10_isNumberTo cX10_isNumberTo 2 (some .boolean) 1 := ⟨w3_230, w3_231, w3_232, w1_2, w3_233, by decide +kernel, by decide⟩
theorem cv_X6_61 : CV RX6 61 RX6 yX6_reckon cX6_reckon 2 none 0 := ⟨w1_210, w1_212, wp1_0, w1_9, w1_213, by decide +kernel, by decide⟩
theorem cv_X6_80 : CV RX6 80 RX6 yX6_far cX6_far 3 (some .int) 2 := ⟨w4_200, w4_201, w4_202, w1_9, w4_203, by decide +kernel, by decide⟩
theorem cv_X6_83 : CV RX6 83 RX6 yX6_slopeOf cX6_slopeOf 3 (some .int) 1 := ⟨w1_214, w1_216, wp1_1, w1_9, w1_217, by decide +kernel, by decide⟩
theorem cv_X6_90 : CV RX6 90 RX6 yX6_heightGap cX6_heightGap 3 (some .int) 2 := ⟨w1_218, w1_219, w1_220, w1_9, w1_221, by decide +kernel, by decide⟩
theorem cv_X7_28 : CV RX7 28 RX7 yX7_get cX7_get 3 (some .int) 2 := ⟨w4_70, w4_49, w4_50, w1_12, w4_51, by decide +kernel, by decide⟩
theorem cv_X7_32 : CV RX7 32 RX4 yX4_firstLineOf cX4_firstLineOf 4 (some .int) 1 := ⟨w4_29, w4_30, w4_31, w1_8, w4_32, by decide +kernel, by decide⟩
theorem cv_X7_41 : CV RX7 41 RX7 yX7_readDepths cX7_readDepths 4 (some .boolean) 2 := ⟨w4_90, w4_92, wp2_6, w1_12, w4_93, by decide +kernel, by decide⟩
theorem cv_X7_45 : CV RX7 45 RX7 yX7_readLook cX7_readLook 4 (some .boolean) 2 := ⟨w4_103, w4_105, wp2_7, w1_12, w4_106, by decide +kernel, by decide⟩
theorem cv_X7_53 : CV RX7 53 RX10 yX10_takeSign cX10_takeSign 2 (some .boolean) 1 := ⟨w4_102, w3_189, w3_190, w1_2, w3_191, by decide +kernel, by decide⟩
theorem cv_X7_57 : CV RX7 57 RX10 yX10_refuse cX10_refuse 2 (some .boolean) 1 := ⟨w4_96, w3_180, w3_181, w1_2, w3_182, by decide +kernel, by decide⟩
theorem cv_X7_60 : CV RX7 60 RX7 yX7_depth cX7_depth 1 (some .int) 0 := ⟨w4_94, w4_67, w4_68, w1_12, w4_69, by decide +kernel, by decide⟩
theorem cv_X7_64 : CV RX7 64 RX10 yX10_isNumberTo cX10_isNumberTo 2 (some .boolean) 1 := ⟨w4_95, w3_231, w3_232, w1_2, w3_233, by decide +kernel, by decide⟩
theorem cv_X7_70 : CV RX7 70 RX7 yX7_set cX7_set 4 none 3 := ⟨w4_97, w4_98, w4_99, w1_12, w4_100, by decide +kernel, by decide⟩
theorem cv_X7_74 : CV RX7 74 RX10 yX10_step cX10_step 1 none 0 := ⟨w4_101, w3_142, w3_143, w1_2, w3_144, by decide +kernel, by decide⟩
theorem cv_X7_77 : CV RX7 77 RX7 yX7_readWord cX7_readWord 6 (some .boolean) 5 := ⟨w4_107, w4_109, wp2_8, w1_12, w4_110, by decide +kernel, by decide⟩
theorem cv_X7_81 : CV RX7 81 RX10 yX10_isWord cX10_isWord 3 (some .boolean) 2 := ⟨w4_111, w3_210, w3_211, w1_2, w3_212, by decide +kernel, by decide⟩
theorem cv_X7_85 : CV RX7 85 RX7 yX7_readStones cX7_readStones 3 (some .boolean) 2 := ⟨w4_112, w4_114, wp2_9, w1_12, w4_115, by decide +kernel, by decide⟩
theorem cv_X8_58 : CV RX8 58 RX8 yX8_mostTold cX8_mostTold 4 (some .int) 1 := ⟨w5_90, w5_92, wp3_7, w1_16, w5_93, by decide +kernel, by decide⟩
theorem cv_X8_65 : CV RX8 65 RX8 yX8_turnedAt cX8_turnedAt 3 (some .int) 1 := ⟨w5_102, w5_104, wp3_8, w1_16, w5_105, by decide +kernel, by decide⟩
theorem cv_X8_68 : CV RX8 68 RX8 yX8_bestAt cX8_bestAt 2 (some .int) 1 := ⟨w5_106, w5_108, wp3_9, w1_16, w5_109, by decide +kernel, by decide⟩
theorem cv_X8_77 : CV RX8 77 RX2 yX2_weigh cX2_weigh 4 none 2 := ⟨w5_110, w4_222, w4_223, w1_13, w4_224, by decide +kernel, by decide⟩
theorem cv_X9_39 : CV RX9 39 RX2 yX2_weigh cX2_weigh 4 none 2 := ⟨w5_46, w4_222, w4_223, w1_13, w4_224, by decide +kernel, by decide⟩
theorem cv_X9_45 : CV RX9 45 RX2 yX2_doubt cX2_doubt 1 (some .int) 0 := ⟨w5_47, w4_235, w4_236, w1_13, w4_237, by decide +kernel, by decide⟩
theorem cv_X9_88 : CV RX9 88 RX9 yX9_search cX9_search 6 none 4 := ⟨w5_53, w5_55, wp3_2, w1_15, w5_56, by decide +kernel, by decide⟩
theorem cv_X9_95 : CV RX9 95 RX9 yX9_keepFound cX9_keepFound 4 none 2 := ⟨w5_57, w5_59, wp3_3, w1_15, w5_60, by decide +kernel, by decide⟩
theorem cv_X9_98 : CV RX9 98 RX9 yX9_tryCell cX9_tryCell 10 none 5 := ⟨w5_61, w5_63, wp3_4, w1_15, w5_64, by decide +kernel, by decide⟩
theorem cv_X9_102 : CV RX9 102 RX6 yX6_steps cX6_steps 3 (some .int) 2 := ⟨w5_65, w5_66, w5_67, w1_9, w5_68, by decide +kernel, by decide⟩
theorem cv_X9_105 : CV RX9 105 RX9 yX9_isBetter cX9_isBetter 3 (some .boolean) 2 := ⟨w5_69, w5_71, wp3_5, w1_15, w5_72, by decide +kernel, by decide⟩
theorem cv_X9_109 : CV RX9 109 RX9 yX9_isApart cX9_isApart 4 (some .boolean) 2 := ⟨w5_73, w5_75, wp3_6, w1_15, w5_76, by decide +kernel, by decide⟩
theorem cv_X9_112 : CV RX9 112 RX6 yX6_far cX6_far 3 (some .int) 2 := ⟨w5_77, w4_201, w4_202, w1_9, w4_203, by decide +kernel, by decide⟩
theorem cv_X10_53 : CV RX10 53 RX10 yX10_step cX10_step 1 none 0 := ⟨w3_141, w3_142, w3_143, w1_2, w3_144, by decide +kernel, by decide⟩
theorem cv_X10_66 : CV RX10 66 RX10 yX10_cutNumber cX10_cutNumber 1 none 0 := ⟨w3_148, w3_150, wp1_3, w1_2, w3_151, by decide +kernel, by decide⟩
theorem cv_X10_72 : CV RX10 72 RX10 yX10_cutWord cX10_cutWord 1 none 0 := ⟨w3_155, w3_157, wp1_4, w1_2, w3_158, by decide +kernel, by decide⟩
theorem cv_X10_75 : CV RX10 75 RX10 yX10_cutSign cX10_cutSign 1 none 0 := ⟨w3_163, w3_165, wp1_6, w1_2, w3_166, by decide +kernel, by decide⟩
theorem cv_X10_81 : CV RX10 81 RX10 yX10_isSign cX10_isSign 2 (some .boolean) 1 := ⟨w3_192, w3_193, w3_194, w1_2, w3_195, by decide +kernel, by decide⟩
theorem cv_X10_84 : CV RX10 84 RX10 yX10_refuse cX10_refuse 2 (some .boolean) 1 := ⟨w3_196, w3_180, w3_181, w1_2, w3_182, by decide +kernel, by decide⟩
theorem cv_X10_91 : CV RX10 91 RX10 yX10_wordNumber cX10_wordNumber 2 (some .int) 0 := ⟨w3_159, w3_161, wp1_5, w1_2, w3_162, by decide +kernel, by decide⟩
theorem cv_X12_168 : CV RX12 168 RX12 yX12_bare cX12_bare 2 none 0 := ⟨w6_13, w6_15, wp3_15, w1_18, w6_16, by decide +kernel, by decide⟩
theorem cv_X12_180 : CV RX12 180 RX12 yX12_isCell cX12_isCell 2 (some .boolean) 1 := ⟨w7_37, w7_39, wp4_0, w1_18, w7_40, by decide +kernel, by decide⟩
theorem cv_X12_196 : CV RX12 196 RX12 yX12_isEqual cX12_isEqual 2 (some .boolean) 1 := ⟨w7_77, w7_79, wp4_7, w1_18, w7_80, by decide +kernel, by decide⟩
theorem cv_X12_202 : CV RX12 202 RX12 yX12_isSmall cX12_isSmall 2 (some .boolean) 1 := ⟨w7_61, w7_63, wp4_3, w1_18, w7_64, by decide +kernel, by decide⟩
theorem cv_X12_205 : CV RX12 205 RX12 yX12_wordAt cX12_wordAt 8 (some .int) 2 := ⟨w7_65, w7_67, wp4_4, w1_18, w7_68, by decide +kernel, by decide⟩
theorem cv_X12_212 : CV RX12 212 RX12 yX12_isDigit cX12_isDigit 2 (some .boolean) 1 := ⟨w7_69, w7_71, wp4_5, w1_18, w7_72, by decide +kernel, by decide⟩
theorem cv_X12_215 : CV RX12 215 RX12 yX12_signOf cX12_signOf 2 (some .int) 1 := ⟨w7_73, w7_75, wp4_6, w1_18, w7_76, by decide +kernel, by decide⟩
theorem cv_X12_222 : CV RX12 222 RX12 yX12_wrong cX12_wrong 2 (some .boolean) 1 := ⟨w7_89, w7_91, wp4_10, w1_18, w7_92, by decide +kernel, by decide⟩
theorem cv_X12_228 : CV RX12 228 RX12 yX12_take cX12_take 2 none 0 := ⟨w7_57, w7_59, wp4_2, w1_18, w7_60, by decide +kernel, by decide⟩
theorem cv_X12_231 : CV RX12 231 RX12 yX12_isSign cX12_isSign 2 (some .boolean) 1 := ⟨w7_93, w7_95, wp4_11, w1_18, w7_96, by decide +kernel, by decide⟩
theorem cv_X12_234 : CV RX12 234 RX12 yX12_isWord cX12_isWord 2 (some .boolean) 1 := ⟨w7_97, w7_99, wp4_12, w1_18, w7_100, by decide +kernel, by decide⟩
theorem cv_X12_237 : CV RX12 237 RX12 yX12_number cX12_number 2 (some .boolean) 1 := ⟨w7_101, w7_103, wp4_13, w1_18, w7_104, by decide +kernel, by decide⟩
theorem cv_X12_240 : CV RX12 240 RX12 yX12_layerRead cX12_layerRead 3 (some .boolean) 1 := ⟨w7_85, w7_87, wp4_9, w1_18, w7_88, by decide +kernel, by decide⟩
theorem cv_X12_243 : CV RX12 243 RX12 yX12_begins cX12_begins 2 none 1 := ⟨w7_53, w7_55, wp4_1, w1_18, w7_56, by decide +kernel, by decide⟩
theorem cv_X12_247 : CV RX12 247 RX12 yX12_boreRead cX12_boreRead 2 (some .boolean) 0 := ⟨w7_81, w7_83, wp4_8, w1_18, w7_84, by decide +kernel, by decide⟩
theorem cv_X12_251 : CV RX12 251 RX12 yX12_isBore cX12_isBore 2 (some .boolean) 1 := ⟨w7_117, w7_119, wp4_14, w1_18, w7_120, by decide +kernel, by decide⟩
theorem cv_X12_263 : CV RX12 263 RX12 yX12_hold cX12_hold 2 none 1 := ⟨w7_161, w7_163, wp5_8, w1_18, w7_164, by decide +kernel, by decide⟩
theorem cv_X12_272 : CV RX12 272 RX12 yX12_drop cX12_drop 1 (some .int) 0 := ⟨w7_176, w7_178, wp5_11, w1_18, w7_179, by decide +kernel, by decide⟩
theorem cv_X12_276 : CV RX12 276 RX12 yX12_done cX12_done 2 none 1 := ⟨w7_157, w7_159, wp5_7, w1_18, w7_160, by decide +kernel, by decide⟩
theorem cv_X12_282 : CV RX12 282 RX12 yX12_waitFor cX12_waitFor 3 none 2 := ⟨w7_145, w7_147, wp5_4, w1_18, w7_148, by decide +kernel, by decide⟩
theorem cv_X12_286 : CV RX12 286 RX12 yX12_opens cX12_opens 3 (some .boolean) 2 := ⟨w7_141, w7_143, wp5_3, w1_18, w7_144, by decide +kernel, by decide⟩
theorem cv_X12_294 : CV RX12 294 RX12 yX12_grown cX12_grown 3 (some .int) 1 := ⟨w7_149, w7_151, wp5_5, w1_18, w7_152, by decide +kernel, by decide⟩
theorem cv_X12_297 : CV RX12 297 RX12 yX12_compares cX12_compares 2 (some .boolean) 1 := ⟨w7_153, w7_155, wp5_6, w1_18, w7_156, by decide +kernel, by decide⟩
theorem cv_X12_303 : CV RX12 303 RX12 yX12_bind cX12_bind 3 none 1 := ⟨w7_172, w7_174, wp5_10, w1_18, w7_175, by decide +kernel, by decide⟩
theorem cv_X12_306 : CV RX12 306 RX12 yX12_valueRead cX12_valueRead 4 (some .boolean) 0 := ⟨w7_137, w7_139, wp5_2, w1_18, w7_140, by decide +kernel, by decide⟩
theorem cv_X12_309 : CV RX12 309 RX12 yX12_joins cX12_joins 3 (some .boolean) 1 := ⟨w7_165, w7_167, wp5_9, w1_18, w7_168, by decide +kernel, by decide⟩
theorem cv_X12_312 : CV RX12 312 RX12 yX12_closes cX12_closes 3 (some .boolean) 0 := ⟨w7_180, w7_182, wp5_12, w1_18, w7_183, by decide +kernel, by decide⟩
theorem cv_X12_321 : CV RX12 321 RX12 yX12_kindAt cX12_kindAt 4 (some .int) 0 := ⟨w7_129, w7_131, wp5_0, w1_18, w7_132, by decide +kernel, by decide⟩
theorem cv_X12_324 : CV RX12 324 RX12 yX12_expression cX12_expression 2 (some .boolean) 0 := ⟨w7_133, w7_135, wp5_1, w1_18, w7_136, by decide +kernel, by decide⟩
theorem cv_X12_327 : CV RX12 327 RX12 yX12_lineRead cX12_lineRead 3 (some .boolean) 0 := ⟨w7_125, w7_127, wp4_15, w1_18, w7_128, by decide +kernel, by decide⟩
theorem cv_X12_339 : CV RX12 339 RX12 yX12_layerOf cX12_layerOf 4 (some .int) 3 := ⟨w7_200, w7_202, wp6_0, w1_18, w7_203, by decide +kernel, by decide⟩
theorem cv_X12_347 : CV RX12 347 RX12 yX12_layersSo cX12_layersSo 8 (some .int) 2 := ⟨w7_196, w7_198, wp5_15, w1_18, w7_199, by decide +kernel, by decide⟩
theorem cv_X12_350 : CV RX12 350 RX12 yX12_isSo cX12_isSo 8 (some .boolean) 3 := ⟨w7_207, w7_209, wp6_1, w1_18, w7_210, by decide +kernel, by decide⟩
theorem cv_X12_353 : CV RX12 353 RX12 yX12_lineOf cX12_lineOf 9 (some .int) 1 := ⟨w7_192, w7_194, wp5_14, w1_18, w7_195, by decide +kernel, by decide⟩
theorem cv_X12_356 : CV RX12 356 RX12 yX12_kindOf cX12_kindOf 3 (some .int) 1 := ⟨w7_188, w7_190, wp5_13, w1_18, w7_191, by decide +kernel, by decide⟩
theorem cv_X12_362 : CV RX12 362 RX12 yX12_slope cX12_slope 7 (some .int) 1 := ⟨w7_219, w7_221, wp6_3, w1_18, w7_222, by decide +kernel, by decide⟩
theorem cv_X12_365 : CV RX12 365 RX12 yX12_fails cX12_fails 2 (some .int) 1 := ⟨w7_215, w7_217, wp6_2, w1_18, w7_218, by decide +kernel, by decide⟩
theorem cv_X12_368 : CV RX12 368 RX12 yX12_steep cX12_steep 2 (some .int) 1 := ⟨w7_226, w7_228, wp6_4, w1_18, w7_229, by decide +kernel, by decide⟩
theorem cv_X12_371 : CV RX12 371 RX12 yX12_feel cX12_feel 2 (some .int) 1 := ⟨w7_230, w7_232, wp6_5, w1_18, w7_233, by decide +kernel, by decide⟩
theorem cv_X12_374 : CV RX12 374 RX12 yX12_far cX12_far 5 (some .int) 2 := ⟨w8_2, w8_4, wp6_7, w1_18, w8_5, by decide +kernel, by decide⟩
theorem cv_X12_377 : CV RX12 377 RX12 yX12_alike cX12_alike 4 (some .int) 2 := ⟨w7_238, w8_0, wp6_6, w1_18, w8_1, by decide +kernel, by decide⟩
theorem cv_X12_383 : CV RX12 383 RX12 yX12_isKnown cX12_isKnown 2 (some .boolean) 1 := ⟨w8_18, w8_20, wp6_8, w1_18, w8_21, by decide +kernel, by decide⟩
theorem cv_X12_386 : CV RX12 386 RX12 yX12_know cX12_know 3 none 1 := ⟨w8_22, w8_24, wp6_9, w1_18, w8_25, by decide +kernel, by decide⟩
theorem cv_X12_389 : CV RX12 389 RX12 yX12_weigh cX12_weigh 6 none 2 := ⟨w8_26, w8_28, wp6_10, w1_18, w8_29, by decide +kernel, by decide⟩
theorem cv_X12_392 : CV RX12 392 RX12 yX12_part cX12_part 2 (some .int) 1 := ⟨w8_30, w8_32, wp6_11, w1_18, w8_33, by decide +kernel, by decide⟩
theorem cv_X12_395 : CV RX12 395 RX12 yX12_bestHere cX12_bestHere 3 (some .int) 0 := ⟨w8_34, w8_36, wp6_12, w1_18, w8_37, by decide +kernel, by decide⟩
theorem cv_X12_398 : CV RX12 398 RX12 yX12_change cX12_change 4 (some .int) 3 := ⟨w8_50, w8_52, wp6_14, w1_18, w8_53, by decide +kernel, by decide⟩
theorem cv_X12_401 : CV RX12 401 RX12 yX12_onward cX12_onward 7 (some .int) 3 := ⟨w8_46, w8_48, wp6_13, w1_18, w8_49, by decide +kernel, by decide⟩
theorem cv_X12_419 : CV RX12 419 RX12 yX12_mayBore cX12_mayBore 2 (some .boolean) 1 := ⟨w8_62, w8_64, wp6_15, w1_18, w8_65, by decide +kernel, by decide⟩
theorem cv_X12_422 : CV RX12 422 RX12 yX12_steps cX12_steps 3 (some .int) 2 := ⟨w8_66, w8_68, wp7_0, w1_18, w8_69, by decide +kernel, by decide⟩
theorem cv_X12_425 : CV RX12 425 RX12 yX12_better cX12_better 8 none 7 := ⟨w8_70, w8_72, wp7_1, w1_18, w8_73, by decide +kernel, by decide⟩
theorem cv_X12_429 : CV RX12 429 RX12 yX12_boresOf cX12_boresOf 5 (some .int) 2 := ⟨w8_86, w8_88, wp7_3, w1_18, w8_89, by decide +kernel, by decide⟩
theorem cv_X12_432 : CV RX12 432 RX12 yX12_turnedTo cX12_turnedTo 5 (some .int) 1 := ⟨w8_82, w8_84, wp7_2, w1_18, w8_85, by decide +kernel, by decide⟩
theorem cv_X12_435 : CV RX12 435 RX12 yX12_turnedAt cX12_turnedAt 2 (some .int) 1 := ⟨w8_94, w8_96, wp7_4, w1_18, w8_97, by decide +kernel, by decide⟩
theorem cv_X12_438 : CV RX12 438 RX12 yX12_bestAt cX12_bestAt 2 (some .int) 1 := ⟨w8_98, w8_100, wp7_5, w1_18, w8_101, by decide +kernel, by decide⟩
theorem cv_X12_442 : CV RX12 442 RX12 yX12_latestOf cX12_latestOf 4 (some .int) 2 := ⟨w8_111, w8_113, wp7_6, w1_18, w8_114, by decide +kernel, by decide⟩
theorem cs_X11_138 : CS RX11 138 yX11_isHand cX11_isHand 1 (some .boolean) 1 := ⟨w4_79, w4_80, w1_1, w4_81, by decide +kernel, by decide⟩
theorem cs_X0_45 : CS RX0 45 yX0_greatestDivisor cX0_greatestDivisor 6 (some .int) 2 := ⟨w5_148, w5_149, w1_17, w5_150, by decide +kernel, by decide⟩
theorem cs_X2_33 : CS RX2 33 yX2_place cX2_place 3 (some .int) 3 := ⟨w4_18, w4_19, w1_13, w4_20, by decide +kernel, by decide⟩
theorem cs_X4_82 : CS RX4 82 yX4_isAt cX4_isAt 4 (some .boolean) 3 := ⟨w4_45, w4_46, w1_8, w4_47, by decide +kernel, by decide⟩
theorem cs_X4_85 : CS RX4 85 yX4_thickness cX4_thickness 4 (some .int) 2 := ⟨w4_52, w4_53, w1_8, w4_54, by decide +kernel, by decide⟩
theorem cs_X4_88 : CS RX4 88 yX4_firstBegin cX4_firstBegin 3 (some .int) 2 := ⟨w4_59, w4_60, w1_8, w4_61, by decide +kernel, by decide⟩
theorem cs_X6_86 : CS RX6 86 yX6_stepOf cX6_stepOf 3 (some .int) 3 := ⟨w1_228, w1_229, w1_9, w1_230, by decide +kernel, by decide⟩
theorem cs_X10_35 : CS RX10 35 yX10_joined cX10_joined 3 (some .long) 2 := ⟨w1_87, w1_88, w1_2, w1_89, by decide +kernel, by decide⟩
theorem cs_X10_62 : CS RX10 62 yX10_isDigit cX10_isDigit 1 (some .boolean) 1 := ⟨w3_145, w3_146, w1_2, w3_147, by decide +kernel, by decide⟩
theorem cs_X10_69 : CS RX10 69 yX10_isLetter cX10_isLetter 1 (some .boolean) 1 := ⟨w3_152, w3_153, w1_2, w3_154, by decide +kernel, by decide⟩
theorem cs_X12_269 : CS RX12 269 yX12_weight cX12_weight 1 (some .int) 1 := ⟨w7_169, w7_170, w1_18, w7_171, by decide +kernel, by decide⟩
theorem cs_X12_343 : CS RX12 343 yX12_holds cX12_holds 3 (some .boolean) 3 := ⟨w7_204, w7_205, w1_18, w7_206, by decide +kernel, by decide⟩
theorem cs_X12_359 : CS RX12 359 yX12_size cX12_size 1 (some .int) 1 := ⟨w7_223, w7_224, w1_18, w7_225, by decide +kernel, by decide⟩
theorem mw_X0_78 : Cond.methodLink RX0 78 Lib.Math.abs.name ∈ gt ∧ Cond.static Lib.Math.abs.name ∈ gt ∧ Cond.initialized "java/lang/Math" ∈ gt ∧ Cond.code Lib.Math.abs.name Lib.Math.abs.code 1 (some .int) ∈ gt := ⟨w5_151, w1_223, w1_10, w1_224⟩
theorem mw_X1_51 : Cond.methodLink RX1 51 Lib.Math.min.name ∈ gt ∧ Cond.static Lib.Math.min.name ∈ gt ∧ Cond.initialized "java/lang/Math" ∈ gt ∧ Cond.code Lib.Math.min.name Lib.Math.min.code 2 (some .int) ∈ gt := ⟨w4_220, w3_139, w1_10, w3_140⟩
theorem mw_X6_70 : Cond.methodLink RX6 70 Lib.Math.abs.name ∈ gt ∧ Cond.static Lib.Math.abs.name ∈ gt ∧ Cond.initialized "java/lang/Math" ∈ gt ∧ Cond.code Lib.Math.abs.name Lib.Math.abs.code 1 (some .int) ∈ gt := ⟨w1_222, w1_223, w1_10, w1_224⟩
theorem mw_X6_76 : Cond.methodLink RX6 76 Lib.Math.max.name ∈ gt ∧ Cond.static Lib.Math.max.name ∈ gt ∧ Cond.initialized "java/lang/Math" ∈ gt ∧ Cond.code Lib.Math.max.name Lib.Math.max.code 2 (some .int) ∈ gt := ⟨w1_225, w1_226, w1_10, w1_227⟩
theorem mw_X9_70 : Cond.methodLink RX9 70 Lib.Math.max.name ∈ gt ∧ Cond.static Lib.Math.max.name ∈ gt ∧ Cond.initialized "java/lang/Math" ∈ gt ∧ Cond.code Lib.Math.max.name Lib.Math.max.code 2 (some .int) ∈ gt := ⟨w5_48, w1_226, w1_10, w1_227⟩
theorem mw_X10_39 : Cond.methodLink RX10 39 Lib.Math.min.name ∈ gt ∧ Cond.static Lib.Math.min.name ∈ gt ∧ Cond.initialized "java/lang/Math" ∈ gt ∧ Cond.code Lib.Math.min.name Lib.Math.min.code 2 (some .int) ∈ gt := ⟨w3_138, w3_139, w1_10, w3_140⟩
section GS
variable {g : Gm} {l0 : Launch} {E : En} {cc : ByteArray} {own : String} {nL d mc ms n : Nat} {Rf : Nat → Nat → Nat} {ex : Bool} {cn sn pc : Nat} {lv : List (Nat × Value)} {st : List Value} {M : Mm}
theorem g_rload_n (hg : Ok g l0 E cc own nL d mc ms) {k : Fin 4} {i x : Nat} (hd : decode cc pc = .ok (.aload_n k, 1)) (hi : (k : Nat) = i) (j : Nat) (hj : lv[j]? = some (i, rr E.1 x)) (kk : WG g E nL n Rf ex cn sn (pc + 1) lv (rr E.1 x :: st) M) : WG g E nL n Rf ex cn sn pc lv st M := g_aload_n hg hd hi j hj kk
theorem g_rstore_n (hg : Ok g l0 E cc own nL d mc ms) {k : Fin 4} {i x : Nat} {lv' : List (Nat × Value)} (hd : decode cc pc = .ok (.astore_n k, 1)) (hi : (k : Nat) = i) (hn : i < nL) (hl' : (i, rr E.1 x) :: lv.filter (fun q => !(q.1 == i) && !(q.1 + 1 == i && q.2.category == 2)) = lv') (kk : WG g E nL n Rf ex cn sn (pc + 1) lv' st M) : WG g E nL n Rf ex cn sn pc lv (rr E.1 x :: st) M := g_astore_n hg hd hi hn hl' kk
theorem g_rload (hg : Ok g l0 E cc own nL d mc ms) {i x : Nat} (hd : decode cc pc = .ok (.aload i, 2)) (j : Nat) (hj : lv[j]? = some (i, rr E.1 x)) (kk : WG g E nL n Rf ex cn sn (pc + 2) lv (rr E.1 x :: st) M) : WG g E nL n Rf ex cn sn pc lv st M := g_aload hg hd j hj kk
theorem g_rstore (hg : Ok g l0 E cc own nL d mc ms) {i x : Nat} {lv' : List (Nat × Value)} (hd : decode cc pc = .ok (.astore i, 2)) (hn : i < nL) (hl' : (i, rr E.1 x) :: lv.filter (fun q => !(q.1 == i) && !(q.1 + 1 == i && q.2.category == 2)) = lv') (kk : WG g E nL n Rf ex cn sn (pc + 2) lv' st M) : WG g E nL n Rf ex cn sn pc lv (rr E.1 x :: st) M := g_astore hg hd hn hl' kk
theorem g_inc (hg : Ok g l0 E cc own nL d mc ms) {i : Nat} {k : Int} {x v : Int32} {lv' : List (Nat × Value)} (hd : decode cc pc = .ok (.iinc i k, 3)) (hv : Int32.ofInt k = v) (j : Nat) (hj : lv[j]? = some (i, .int x)) (hn : i < nL) (hl' : (i, Value.int (x + v)) :: lv.filter (fun q => !(q.1 == i) && !(q.1 + 1 == i && q.2.category == 2)) = lv') (kk : WG g E nL n Rf ex cn sn (pc + 3) lv' st M) : WG g E nL n Rf ex cn sn pc lv st M := g_iinc hg hd j hj (by rw [hv]) hn hl' kk
theorem g_callVi (hg : Ok g l0 E cc own nL (d + 1) mc ms) {idx ci b na maxL n' : Nat} {y : MethodName} {yc : ByteArray} {ret : Option FieldType} {C : String} {T : u_T} {N : Nat} {As rest : List Value} {Rf' : Nat → Nat → Nat} {r : Int32} {M' : Mm} (hc : Ct l0 E y yc maxL ret d 0 0 (rr E.1 b :: As) ex n Rf M n' Rf' (some (.int r)) M') (hw : CV own idx C y yc maxL ret na) (hci : vwCl[ci]? = some (C, T, N)) (hl2 : lay b = .inl ci) (hi : 0 < b ∧ b < n) (hn : As.length = na) (hst : st = As.reverse ++ rr E.1 b :: rest) (hcat : (rest.map fun v => v.category).sum ≤ 8) (hcs : cn ≤ mc ∧ sn ≤ ms) (hd : decode cc pc = .ok (.invokevirtual idx, 3)) (kk : WG g E nL n' Rf' ex cn sn (pc + 3) lv (.int r :: rest) M') : WG g E nL n Rf ex cn sn pc lv st M := g_callV hg hc hw hci hl2 hi hn hst hcat hcs hd kk
theorem g_callSi (hg : Ok g l0 E cc own nL (d + 1) mc ms) {idx na maxL n' : Nat} {y : MethodName} {yc : ByteArray} {ret : Option FieldType} {As rest : List Value} {Rf' : Nat → Nat → Nat} {r : Int32} {M' : Mm} (hc : Ct l0 E y yc maxL ret d 0 0 As ex n Rf M n' Rf' (some (.int r)) M') (hw : CS own idx y yc maxL ret na) (hn : As.length = na) (hst : st = As.reverse ++ rest) (hcat : (rest.map fun v => v.category).sum ≤ 8) (hcs : cn ≤ mc ∧ sn ≤ ms) (hd : decode cc pc = .ok (.invokestatic idx, 3)) (kk : WG g E nL n' Rf' ex cn sn (pc + 3) lv (.int r :: rest) M') : WG g E nL n Rf ex cn sn pc lv st M := g_callS hg hc hw hn hst hcat hcs hd kk
theorem g_callVl (hg : Ok g l0 E cc own nL (d + 1) mc ms) {idx ci b na maxL n' : Nat} {y : MethodName} {yc : ByteArray} {ret : Option FieldType} {C : String} {T : u_T} {N : Nat} {As rest : List Value} {Rf' : Nat → Nat → Nat} {r : Int64} {M' : Mm} (hc : Ct l0 E y yc maxL ret d 0 0 (rr E.1 b :: As) ex n Rf M n' Rf' (some (.long r)) M') (hw : CV own idx C y yc maxL ret na) (hci : vwCl[ci]? = some (C, T, N)) (hl2 : lay b = .inl ci) (hi : 0 < b ∧ b < n) (hn : As.length = na) (hst : st = As.reverse ++ rr E.1 b :: rest) (hcat : (rest.map fun v => v.category).sum ≤ 8) (hcs : cn ≤ mc ∧ sn ≤ ms) (hd : decode cc pc = .ok (.invokevirtual idx, 3)) (kk : WG g E nL n' Rf' ex cn sn (pc + 3) lv (.long r :: rest) M') : WG g E nL n Rf ex cn sn pc lv st M := g_callV hg hc hw hci hl2 hi hn hst hcat hcs hd kk
theorem g_callSl (hg : Ok g l0 E cc own nL (d + 1) mc ms) {idx na maxL n' : Nat} {y : MethodName} {yc : ByteArray} {ret : Option FieldType} {As rest : List Value} {Rf' : Nat → Nat → Nat} {r : Int64} {M' : Mm} (hc : Ct l0 E y yc maxL ret d 0 0 As ex n Rf M n' Rf' (some (.long r)) M') (hw : CS own idx y yc maxL ret na) (hn : As.length = na) (hst : st = As.reverse ++ rest) (hcat : (rest.map fun v => v.category).sum ≤ 8) (hcs : cn ≤ mc ∧ sn ≤ ms) (hd : decode cc pc = .ok (.invokestatic idx, 3)) (kk : WG g E nL n' Rf' ex cn sn (pc + 3) lv (.long r :: rest) M') : WG g E nL n Rf ex cn sn pc lv st M := g_callS hg hc hw hn hst hcat hcs hd kk
theorem g_callVv (hg : Ok g l0 E cc own nL (d + 1) mc ms) {idx ci b na maxL n' : Nat} {y : MethodName} {yc : ByteArray} {ret : Option FieldType} {C : String} {T : u_T} {N : Nat} {As rest : List Value} {Rf' : Nat → Nat → Nat} {M' : Mm} (hc : Ct l0 E y yc maxL ret d 0 0 (rr E.1 b :: As) ex n Rf M n' Rf' none M') (hw : CV own idx C y yc maxL ret na) (hci : vwCl[ci]? = some (C, T, N)) (hl2 : lay b = .inl ci) (hi : 0 < b ∧ b < n) (hn : As.length = na) (hst : st = As.reverse ++ rr E.1 b :: rest) (hcat : (rest.map fun v => v.category).sum ≤ 8) (hcs : cn ≤ mc ∧ sn ≤ ms) (hd : decode cc pc = .ok (.invokevirtual idx, 3)) (kk : WG g E nL n' Rf' ex cn sn (pc + 3) lv rest M') : WG g E nL n Rf ex cn sn pc lv st M := g_callV hg hc hw hci hl2 hi hn hst hcat hcs hd kk
theorem g_callSv (hg : Ok g l0 E cc own nL (d + 1) mc ms) {idx na maxL n' : Nat} {y : MethodName} {yc : ByteArray} {ret : Option FieldType} {As rest : List Value} {Rf' : Nat → Nat → Nat} {M' : Mm} (hc : Ct l0 E y yc maxL ret d 0 0 As ex n Rf M n' Rf' none M') (hw : CS own idx y yc maxL ret na) (hn : As.length = na) (hst : st = As.reverse ++ rest) (hcat : (rest.map fun v => v.category).sum ≤ 8) (hcs : cn ≤ mc ∧ sn ≤ ms) (hd : decode cc pc = .ok (.invokestatic idx, 3)) (kk : WG g E nL n' Rf' ex cn sn (pc + 3) lv rest M') : WG g E nL n Rf ex cn sn pc lv st M := g_callS hg hc hw hn hst hcat hcs hd kk
theorem g_putZ (hg : Ok g l0 E cc own nL d mc ms) {idx ci k id : Nat} {x : Int32} (hf : FP own idx ci k .boolean) (hl2 : lay id = .inl ci) (ht : ftc ci k = 0) (hi : 0 < id ∧ id < n) (hn : narrow .boolean (.int x) = .int x) (hfit : fits .boolean (.int x) = true) (hd : decode cc pc = .ok (.putfield idx, 3)) (kk : WG g E nL n Rf ex cn sn (pc + 3) lv st (sI M id k x)) : WG g E nL n Rf ex cn sn pc lv (.int x :: rr E.1 id :: st) M := by
  refine g_put (M' := sI M id k x) (Rf' := Rf) hg hf hl2 hi hn hfit (fun j => ?_) (fun b h => up2_row k x h) (fun _ _ => rfl) (fun _ _ => rfl) hd kk
  by_cases hj : j = k
  · subst hj
    simp [updV, fv, ht, sI, up2]
  · simp [updV, fv, sI, up2, hj]
end GS
