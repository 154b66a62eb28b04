/-! numbers: Int32 and Int64 as the images of Int -/
def ap_i (a : Int) : Int32 := Int32.ofInt a
def ap_l (a : Int) : Int64 := Int64.ofInt a
def ap_b (n : Nat) (a : Int) : Prop := a.natAbs ≤ n
theorem ap_i_add (a b : Int) : ap_i a + ap_i b = ap_i (a + b) := (Int32.ofInt_add a b).symm
theorem ap_i_sub (a b : Int) : ap_i a - ap_i b = ap_i (a - b) := (Int32.ofInt_sub a b).symm
theorem ap_i_mul (a b : Int) : ap_i a * ap_i b = ap_i (a * b) := (Int32.ofInt_mul a b).symm
theorem ap_i_neg (a : Int) : -ap_i a = ap_i (-a) := (Int32.ofInt_neg a).symm
theorem ap_l_add (a b : Int) : ap_l a + ap_l b = ap_l (a + b) := (Int64.ofInt_add a b).symm
theorem ap_l_sub (a b : Int) : ap_l a - ap_l b = ap_l (a - b) := (Int64.ofInt_sub a b).symm
theorem ap_l_mul (a b : Int) : ap_l a * ap_l b = ap_l (a * b) := (Int64.ofInt_mul a b).symm
theorem ap_l_neg (a : Int) : -ap_l a = ap_l (-a) := (Int64.ofInt_neg a).symm
theorem ap_i_of (x : Int32) : ap_i x.toInt = x := Int32.ofInt_toInt x
theorem ap_i_n (n : Nat) : nI n = ap_i (n : Int) := Int32.ofInt_eq_ofNat.symm
theorem ap_l_n (n : Nat) : lN n = ap_l (n : Int) := Int64.ofInt_eq_ofNat.symm
theorem ap_i_0 : (0 : Int32) = ap_i 0 := by decide
theorem ap_i_1 : (1 : Int32) = ap_i 1 := by decide
theorem ap_i_m1 : (-1 : Int32) = ap_i (-1) := by decide
theorem ap_i_20 : (20 : Int32) = ap_i 20 := by decide
theorem ap_l_0 : (0 : Int64) = ap_l 0 := by decide
theorem ap_l_1 : (1 : Int64) = ap_l 1 := by decide
theorem ap_l_m1 : (-1 : Int64) = ap_l (-1) := by decide
theorem ap_l_20 : (20 : Int64) = ap_l 20 := by decide
theorem ap_i_t {a : Int} (h : ap_b 2147483647 a) : (ap_i a).toInt = a :=
  Int32.toInt_ofInt_of_le (by unfold ap_b at h; omega) (by unfold ap_b at h; omega)
theorem ap_l_t {a : Int} (h : ap_b 9000000000000000000 a) : (ap_l a).toInt = a :=
  Int64.toInt_ofInt_of_le (by unfold ap_b at h; omega) (by unfold ap_b at h; omega)
theorem ap_i_le {a b : Int} (ha : ap_b 2147483647 a) (hb : ap_b 2147483647 b) : ap_i a ≤ ap_i b ↔ a ≤ b := by
  rw [Int32.le_iff_toInt_le, ap_i_t ha, ap_i_t hb]
theorem ap_i_lt {a b : Int} (ha : ap_b 2147483647 a) (hb : ap_b 2147483647 b) : ap_i a < ap_i b ↔ a < b := by
  rw [Int32.lt_iff_toInt_lt, ap_i_t ha, ap_i_t hb]
theorem ap_i_eq {a b : Int} (ha : ap_b 2147483647 a) (hb : ap_b 2147483647 b) : ap_i a = ap_i b ↔ a = b := by
  rw [← Int32.toInt_inj, ap_i_t ha, ap_i_t hb]
theorem ap_l_le {a b : Int} (ha : ap_b 9000000000000000000 a) (hb : ap_b 9000000000000000000 b) : ap_l a ≤ ap_l b ↔ a ≤ b := by
  rw [Int64.le_iff_toInt_le, ap_l_t ha, ap_l_t hb]
theorem ap_l_lt {a b : Int} (ha : ap_b 9000000000000000000 a) (hb : ap_b 9000000000000000000 b) : ap_l a < ap_l b ↔ a < b := by
  rw [Int64.lt_iff_toInt_lt, ap_l_t ha, ap_l_t hb]
theorem ap_l_eq {a b : Int} (ha : ap_b 9000000000000000000 a) (hb : ap_b 9000000000000000000 b) : ap_l a = ap_l b ↔ a = b := by
  rw [← Int64.toInt_inj, ap_l_t ha, ap_l_t hb]
theorem ap_b_0 {n : Nat} : ap_b n 0 := Nat.zero_le n
theorem ap_i_le0 {a : Int} (ha : ap_b 2147483647 a) : ap_i a ≤ 0 ↔ a ≤ 0 := by rw [ap_i_0, ap_i_le ha ap_b_0]
theorem ap_i_0le {a : Int} (ha : ap_b 2147483647 a) : 0 ≤ ap_i a ↔ 0 ≤ a := by rw [ap_i_0, ap_i_le ap_b_0 ha]
theorem ap_i_lt0 {a : Int} (ha : ap_b 2147483647 a) : ap_i a < 0 ↔ a < 0 := by rw [ap_i_0, ap_i_lt ha ap_b_0]
theorem ap_i_0lt {a : Int} (ha : ap_b 2147483647 a) : 0 < ap_i a ↔ 0 < a := by rw [ap_i_0, ap_i_lt ap_b_0 ha]
theorem ap_i_eq0 {a : Int} (ha : ap_b 2147483647 a) : ap_i a = 0 ↔ a = 0 := by rw [ap_i_0, ap_i_eq ha ap_b_0]
theorem ap_l_le0 {a : Int} (ha : ap_b 9000000000000000000 a) : ap_l a ≤ 0 ↔ a ≤ 0 := by rw [ap_l_0, ap_l_le ha ap_b_0]
theorem ap_l_0le {a : Int} (ha : ap_b 9000000000000000000 a) : 0 ≤ ap_l a ↔ 0 ≤ a := by rw [ap_l_0, ap_l_le ap_b_0 ha]
theorem ap_l_lt0 {a : Int} (ha : ap_b 9000000000000000000 a) : ap_l a < 0 ↔ a < 0 := by rw [ap_l_0, ap_l_lt ha ap_b_0]
theorem ap_l_0lt {a : Int} (ha : ap_b 9000000000000000000 a) : 0 < ap_l a ↔ 0 < a := by rw [ap_l_0, ap_l_lt ap_b_0 ha]
theorem ap_l_eq0 {a : Int} (ha : ap_b 9000000000000000000 a) : ap_l a = 0 ↔ a = 0 := by rw [ap_l_0, ap_l_eq ha ap_b_0]
theorem ap_i_l {a : Int} (h : ap_b 2147483647 a) : (ap_i a).toInt64 = ap_l a :=
  Int32.toInt64_ofInt (by rw [Int32.toInt_minValue]; unfold ap_b at h; omega) (by rw [Int32.toInt_maxValue]; unfold ap_b at h; omega)
theorem ap_l_i (a : Int) : (ap_l a).toInt32 = ap_i a := Int64.toInt32_ofInt
theorem ap_x_l (x : Int32) : x.toInt64 = ap_l x.toInt := by
  apply Int64.toInt_inj.mp
  rw [Int32.toInt_toInt64]
  have h1 := Int32.toInt_lt x
  have h2 := Int32.le_toInt x
  rw [ap_l_t (by unfold ap_b; omega)]
theorem ap_b_mul {m n : Nat} {a b : Int} (ha : ap_b m a) (hb : ap_b n b) : ap_b (m * n) (a * b) := by
  unfold ap_b at *; rw [Int.natAbs_mul]; exact Nat.mul_le_mul ha hb
theorem ap_b_add {m n : Nat} {a b : Int} (ha : ap_b m a) (hb : ap_b n b) : ap_b (m + n) (a + b) := by
  unfold ap_b at *; omega
theorem ap_b_sub {m n : Nat} {a b : Int} (ha : ap_b m a) (hb : ap_b n b) : ap_b (m + n) (a - b) := by
  unfold ap_b at *; omega
theorem ap_b_neg {m : Nat} {a : Int} (ha : ap_b m a) : ap_b m (-a) := by unfold ap_b at *; omega
theorem ap_b_le {m n : Nat} {a : Int} (ha : ap_b m a) (h : m ≤ n) : ap_b n a := Nat.le_trans ha h
theorem ap_b_n {m n : Nat} (h : m ≤ n) : ap_b n (m : Int) := by unfold ap_b; omega
/-! indices -/
theorem ap_3i (r i : Nat) : (3 : Int32) * nI r + nI i = nI (3 * r + i) := by
  have h : (3 : Int32) = nI 3 := by decide
  rw [h]; unfold nI; rw [← Int32.ofNat_mul, ← Int32.ofNat_add]
theorem ap_4i (r i : Nat) : (4 : Int32) * nI r + nI i = nI (4 * r + i) := by
  have h : (4 : Int32) = nI 4 := by decide
  rw [h]; unfold nI; rw [← Int32.ofNat_mul, ← Int32.ofNat_add]
theorem ap_6i (k : Nat) : (6 : Int32) + nI k = nI (6 + k) := by
  have h : (6 : Int32) = nI 6 := by decide
  rw [h, nI_add]
theorem ap_l3 (i : Nat) (h : i < 3) : ¬ (3 : Int32) ≤ nI i := nI_ge (b := 3) h (by decide)
theorem ap_g3 : (3 : Int32) ≤ nI 3 := by decide
theorem ap_l5 (i : Nat) (h : i < 5) : ¬ (5 : Int32) ≤ nI i := nI_ge (b := 5) h (by decide)
theorem ap_g5 : (5 : Int32) ≤ nI 5 := by decide
theorem ap_l11 (i : Nat) (h : i < 11) : ¬ (11 : Int32) ≤ nI i := nI_ge (b := 11) h (by decide)
theorem ap_g11 : (11 : Int32) ≤ nI 11 := by decide
theorem ap_in {n N : Nat} (h : n < N) (hN : N < 2000000000) : vp_in (nI n) N := vp_in_nI h (by omega)
theorem ap_cl {n : Nat} (h : n < 2000000000) : (nI n).toNatClampNeg = n := nI_clamp (by omega)
theorem ap_us {f : Nat → Int32} {k : Nat} {x : Int32} : upd f k x k = x := if_pos rfl
theorem ap_un {f : Nat → Int32} {k j : Nat} {x : Int32} (h : j ≠ k) : upd f k x j = f j := if_neg h
theorem ap_uLs {f : Nat → Int64} {k : Nat} {x : Int64} : vp_updL f k x k = x := if_pos rfl
theorem ap_uLn {f : Nat → Int64} {k j : Nat} {x : Int64} (h : j ≠ k) : vp_updL f k x j = f j := if_neg h
theorem ap_lt3 {P : Nat → Prop} (h0 : P 0) (h1 : P 1) (h2 : P 2) : ∀ i, i < 3 → P i := by
  intro i hi
  match i, hi with
  | 0, _ => exact h0
  | 1, _ => exact h1
  | 2, _ => exact h2
