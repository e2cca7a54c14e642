/-! ===== numbers: whole numbers in the range of an int, of a long, and the machine's ===== -/
def gm_i (x : Int) : Prop := -2147483648 ≤ x ∧ x ≤ 2147483647
def gm_l (x : Int) : Prop := -9223372036854775808 ≤ x ∧ x ≤ 9223372036854775807
theorem oi_t {x : Int} (h : gm_i x) : (Int32.ofInt x).toInt = x := by
  obtain ⟨h1, h2⟩ := h
  rw [Int32.toInt_ofInt]
  exact Int.bmod_eq_of_le (by simp [Int32.size]; omega) (by simp [Int32.size]; omega)
theorem ol_t {x : Int} (h : gm_l x) : (Int64.ofInt x).toInt = x := by
  obtain ⟨h1, h2⟩ := h
  rw [Int64.toInt_ofInt]
  exact Int.bmod_eq_of_le (by simp [Int64.size]; omega) (by simp [Int64.size]; omega)
theorem gm_i_w (x : Int) : gm_i (w32 x) := by
  unfold w32 gm_i
  have h1 := @Int.le_bmod x 4294967296 (by omega)
  have h2 := @Int.bmod_lt x 4294967296 (by omega)
  omega
theorem gm_l_w (x : Int) : gm_l (w64 x) := by
  unfold w64 gm_l
  have h1 := @Int.le_bmod x 18446744073709551616 (by omega)
  have h2 := @Int.bmod_lt x 18446744073709551616 (by omega)
  omega
theorem gm_i_to (x : Int32) : gm_i x.toInt := ⟨Int32.le_toInt x, by have := Int32.toInt_lt x; omega⟩
theorem gm_l_to (x : Int64) : gm_l x.toInt := ⟨Int64.le_toInt x, by have := Int64.toInt_lt x; omega⟩
theorem oi_to (x : Int32) : Int32.ofInt x.toInt = x := Int32.ofInt_toInt x
theorem ol_to (x : Int64) : Int64.ofInt x.toInt = x := Int64.ofInt_toInt x
theorem oi_eq {x : Int} {y : Int32} (h : y.toInt = x) : y = Int32.ofInt x := by rw [← h, oi_to]
theorem ol_eq {x : Int} {y : Int64} (h : y.toInt = x) : y = Int64.ofInt x := by rw [← h, ol_to]
theorem w32_id {x : Int} (h1 : -2147483648 ≤ x) (h2 : x ≤ 2147483647) : w32 x = x := Int.bmod_eq_of_le (by omega) (by omega)
theorem w64_id {x : Int} (h1 : -9223372036854775808 ≤ x) (h2 : x ≤ 9223372036854775807) : w64 x = x := Int.bmod_eq_of_le (by omega) (by omega)
theorem oi_add {a b : Int} (ha : gm_i a) (hb : gm_i b) : Int32.ofInt a + Int32.ofInt b = Int32.ofInt (w32 (a + b)) := oi_eq (by rw [Int32.toInt_add, oi_t ha, oi_t hb]; rfl)
theorem oi_sub {a b : Int} (ha : gm_i a) (hb : gm_i b) : Int32.ofInt a - Int32.ofInt b = Int32.ofInt (w32 (a - b)) := oi_eq (by rw [Int32.toInt_sub, oi_t ha, oi_t hb]; rfl)
theorem oi_mul {a b : Int} (ha : gm_i a) (hb : gm_i b) : Int32.ofInt a * Int32.ofInt b = Int32.ofInt (w32 (a * b)) := oi_eq (by rw [Int32.toInt_mul, oi_t ha, oi_t hb]; rfl)
theorem oi_div {a b : Int} (ha : gm_i a) (hb : gm_i b) : Int32.ofInt a / Int32.ofInt b = Int32.ofInt (w32 (a.tdiv b)) := oi_eq (by rw [Int32.toInt_div, oi_t ha, oi_t hb]; rfl)
theorem oi_rem {a b : Int} (ha : gm_i a) (hb : gm_i b) : Int32.ofInt a % Int32.ofInt b = Int32.ofInt (a.tmod b) := oi_eq (by rw [Int32.toInt_mod, oi_t ha, oi_t hb])
theorem gm_i_rem {a b : Int} (ha : gm_i a) (hb : gm_i b) : gm_i (a.tmod b) := by
  have h := Int32.toInt_mod (Int32.ofInt a) (Int32.ofInt b)
  rw [oi_t ha, oi_t hb] at h
  rw [← h]
  exact gm_i_to _
theorem ol_add {a b : Int} (ha : gm_l a) (hb : gm_l b) : Int64.ofInt a + Int64.ofInt b = Int64.ofInt (w64 (a + b)) := ol_eq (by rw [Int64.toInt_add, ol_t ha, ol_t hb]; rfl)
theorem ol_mul {a b : Int} (ha : gm_l a) (hb : gm_l b) : Int64.ofInt a * Int64.ofInt b = Int64.ofInt (w64 (a * b)) := ol_eq (by rw [Int64.toInt_mul, ol_t ha, ol_t hb]; rfl)
theorem ol_div {a b : Int} (ha : gm_l a) (hb : gm_l b) : Int64.ofInt a / Int64.ofInt b = Int64.ofInt (w64 (a.tdiv b)) := ol_eq (by rw [Int64.toInt_div, ol_t ha, ol_t hb]; rfl)
theorem ol_rem {a b : Int} (ha : gm_l a) (hb : gm_l b) : Int64.ofInt a % Int64.ofInt b = Int64.ofInt (a.tmod b) := ol_eq (by rw [Int64.toInt_mod, ol_t ha, ol_t hb])
theorem gm_l_rem {a b : Int} (ha : gm_l a) (hb : gm_l b) : gm_l (a.tmod b) := by
  have h := Int64.toInt_mod (Int64.ofInt a) (Int64.ofInt b)
  rw [ol_t ha, ol_t hb] at h
  rw [← h]
  exact gm_l_to _
theorem gm_i_sh (f : Int32 → Int32 → Int32) (a b : Int) : gm_i (gm_sh f a b) := gm_i_to _
theorem oi_sh (f : Int32 → Int32 → Int32) (a b : Int) : f (Int32.ofInt a) (Int32.ofInt b) = Int32.ofInt (gm_sh f a b) := (oi_to _).symm
theorem oi_i2l {a : Int} (ha : gm_i a) : (Int32.ofInt a).toInt64 = Int64.ofInt a := ol_eq (by rw [Int32.toInt_toInt64, oi_t ha])
theorem gm_l_i {a : Int} (ha : gm_i a) : gm_l a := by unfold gm_i at ha; unfold gm_l; omega
theorem oi_l2i {a : Int} (ha : gm_l a) : (Int64.ofInt a).toInt32 = Int32.ofInt (w32 a) := oi_eq (by rw [Int64.toInt_toInt32, ol_t ha]; rfl)
theorem oi_inj {a b : Int} (ha : gm_i a) (hb : gm_i b) : Int32.ofInt a = Int32.ofInt b ↔ a = b := ⟨fun h => by have := congrArg Int32.toInt h; rwa [oi_t ha, oi_t hb] at this, fun h => by rw [h]⟩
theorem oi_lt {a b : Int} (ha : gm_i a) (hb : gm_i b) : Int32.ofInt a < Int32.ofInt b ↔ a < b := by rw [Int32.lt_iff_toInt_lt, oi_t ha, oi_t hb]
theorem oi_le {a b : Int} (ha : gm_i a) (hb : gm_i b) : Int32.ofInt a ≤ Int32.ofInt b ↔ a ≤ b := by rw [Int32.le_iff_toInt_le, oi_t ha, oi_t hb]
theorem oi_0 : Int32.ofInt 0 = 0 := rfl
theorem gm_i_0 : gm_i 0 := by unfold gm_i; omega
theorem oi_nat {a : Int} (ha : gm_i a) : (Int32.ofInt a).toNatClampNeg = a.toNat := by
  show (Int32.ofInt a).toInt.toNat = _
  rw [oi_t ha]
theorem ol_0 {a : Int} (ha : gm_l a) : Int64.ofInt a = 0 ↔ a = 0 := ⟨fun h => by have := congrArg Int64.toInt h; rwa [ol_t ha] at this, fun h => by rw [h]; rfl⟩
theorem ol_cmp {a b : Int} (ha : gm_l a) (hb : gm_l b) : lg_cmp (Int64.ofInt a) (Int64.ofInt b) = Int32.ofInt (gm_cmp a b) := by
  have h1 : (Int64.ofInt a < Int64.ofInt b) ↔ a < b := by rw [Int64.lt_iff_toInt_lt, ol_t ha, ol_t hb]
  have h2 : (Int64.ofInt a = Int64.ofInt b) ↔ a = b := ⟨fun h => by have := congrArg Int64.toInt h; rwa [ol_t ha, ol_t hb] at this, fun h => by rw [h]⟩
  have h3 : (Int64.ofInt a > Int64.ofInt b) ↔ b < a := by rw [gt_iff_lt, Int64.lt_iff_toInt_lt, ol_t ha, ol_t hb]
  unfold lg_cmp gm_cmp
  rcases Int.lt_trichotomy a b with c | c | c
  · rw [if_neg (by rw [h3]; omega), if_neg (by rw [h2]; omega), if_pos c]; rfl
  · rw [if_neg (by rw [h3]; omega), if_pos (by rw [h2]; omega), if_neg (by omega), if_pos c]; rfl
  · rw [if_pos (by rw [h3]; omega), if_neg (by omega), if_neg (by omega)]; rfl
theorem gm_i_cmp (a b : Int) : gm_i (gm_cmp a b) := by unfold gm_cmp gm_i; split <;> (try split) <;> omega
theorem vp_in_oi {j : Int} {n : Nat} (hj : gm_i j) (h0 : 0 ≤ j) (h : j < n) : vp_in (Int32.ofInt j) n := by
  rintro (q | q)
  · rw [← oi_0, oi_lt hj gm_i_0] at q; omega
  · rw [oi_nat hj] at q; omega
theorem oi_rem2 {a b : Int} (ha : gm_i a) (hb : gm_i b) : Int32.ofInt a - Int32.ofInt a / Int32.ofInt b * Int32.ofInt b = Int32.ofInt (a.tmod b) := by
  refine oi_eq ?_
  rw [Int32.toInt_sub, Int32.toInt_mul, Int32.toInt_div, oi_t ha, oi_t hb]
  rw [Int.bmod_mul_bmod, Int.sub_bmod_bmod]
  have h1 : a - a.tdiv b * b = a.tmod b := by rw [Int.tmod_def, Int.mul_comm]
  rw [h1]
  have h2 := gm_i_rem ha hb
  exact Int.bmod_eq_of_le (by have := h2.1; omega) (by have := h2.2; omega)
theorem ol_rem2 {a b : Int} (ha : gm_l a) (hb : gm_l b) : Int64.ofInt a - Int64.ofInt a / Int64.ofInt b * Int64.ofInt b = Int64.ofInt (a.tmod b) := by
  refine ol_eq ?_
  rw [Int64.toInt_sub, Int64.toInt_mul, Int64.toInt_div, ol_t ha, ol_t hb]
  rw [Int.bmod_mul_bmod, Int.sub_bmod_bmod]
  have h1 : a - a.tdiv b * b = a.tmod b := by rw [Int.tmod_def, Int.mul_comm]
  rw [h1]
  have h2 := gm_l_rem ha hb
  exact Int.bmod_eq_of_le (by have := h2.1; omega) (by have := h2.2; omega)
