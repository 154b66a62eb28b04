section
theorem pk_us {f : Nat → Int32} {k : Nat} {x : Int32} : upd f k x k = x := if_pos rfl
theorem pk_un {f : Nat → Int32} {k j : Nat} {x : Int32} (h : j ≠ k) : upd f k x j = f j := if_neg h
theorem pk_uLs {f : Nat → Int64} {k : Nat} {x : Int64} : vp_updL f k x k = x := if_pos rfl
theorem pk_uLn {f : Nat → Int64} {k j : Nat} {x : Int64} (h : j ≠ k) : vp_updL f k x j = f j := if_neg h
theorem pk_sub {a b : Nat} (h : b ≤ a) : nI a - nI b = nI (a - b) := by
  obtain ⟨c, rfl⟩ : ∃ c, a = c + b := ⟨a - b, by omega⟩
  rw [← nI_add, Int32.add_sub_cancel, Nat.add_sub_cancel]
theorem pk_m1 (n : Nat) : nI (n + 1) + (-1) = nI n := by
  rw [← nI_1, Int32.add_assoc, show (1 : Int32) + (-1) = 0 from rfl, Int32.add_zero]
theorem pk_mul (a b : Nat) : nI a * nI b = nI (a * b) := (Int32.ofNat_mul a b).symm
theorem pk_div {a d : Nat} (ha : a < 2 ^ 31) (h0 : 0 < d) (hd : d < 2 ^ 31) : nI a / nI d = nI (a / d) := by
  apply Int32.toInt_inj.mp
  rw [lg_idiv_nonneg (by rw [nI_toInt ha]; omega) (by rw [nI_toInt hd]; omega), nI_toInt ha, nI_toInt hd, nI_toInt (Nat.lt_of_le_of_lt (Nat.div_le_self a d) ha)]
  first | rfl | exact (Int.natCast_ediv _ _).symm
theorem pk_rem {a d : Nat} (ha : a < 2 ^ 31) (h0 : 0 < d) (hd : d < 2 ^ 31) : nI a - nI a / nI d * nI d = nI (a % d) := by
  rw [pk_div ha h0 hd, pk_mul, pk_sub (Nat.div_mul_le_self a d)]
  exact congrArg nI (by have := Nat.div_add_mod' a d; omega)
theorem pk_lT {n : Nat} (h : n < 2 ^ 63) : (lN n).toInt = (n : Int) := lg_ofNat_toInt h
theorem pk_lLT {a b : Nat} (ha : a < 2 ^ 63) (hb : b < 2 ^ 63) : lN a < lN b ↔ a < b := by
  rw [Int64.lt_iff_toInt_lt, pk_lT ha, pk_lT hb]; omega
theorem pk_lLE {a b : Nat} (ha : a < 2 ^ 63) (hb : b < 2 ^ 63) : lN a ≤ lN b ↔ a ≤ b := by
  rw [Int64.le_iff_toInt_le, pk_lT ha, pk_lT hb]; omega
theorem pk_lEQ {a b : Nat} (ha : a < 2 ^ 63) (hb : b < 2 ^ 63) : lN a = lN b ↔ a = b := by
  rw [← Int64.toInt_inj, pk_lT ha, pk_lT hb]; omega
theorem pk_lDiv {a b : Nat} (ha : a < 2 ^ 63) (h0 : 0 < b) (hb : b < 2 ^ 63) : lN a / lN b = lN (a / b) := by
  apply Int64.toInt_inj.mp
  rw [lg_ldiv_nonneg (by rw [pk_lT ha]; omega) (by rw [pk_lT hb]; omega), pk_lT ha, pk_lT hb, pk_lT (Nat.lt_of_le_of_lt (Nat.div_le_self a b) ha)]
  rfl
theorem pk_lRem {a b : Nat} (ha : a < 2 ^ 63) (h0 : 0 < b) (hb : b < 2 ^ 63) : lN a - lN a / lN b * lN b = lN (a % b) := by
  rw [pk_lDiv ha h0 hb, lN_mul, lN_sub (Nat.div_mul_le_self a b)]
  exact congrArg lN (by have := Nat.div_add_mod' a b; omega)
end
section
/-! numbers: Int32 and Int64 as the images of Int -/
def ap_i (a : Int) : Int32 := Int32.ofInt a
def ap_l (a : Int) : Int64 := Int64.ofInt a
def ap_b (n : Nat) (a : Int) : Prop := a.natAbs ≤ n
theorem ap_i_add (a b : Int) : ap_i a + ap_i b = ap_i (a + b) := (Int32.ofInt_add a b).symm
theorem ap_i_sub (a b : Int) : ap_i a - ap_i b = ap_i (a - b) := (Int32.ofInt_sub a b).symm
theorem ap_i_mul (a b : Int) : ap_i a * ap_i b = ap_i (a * b) := (Int32.ofInt_mul a b).symm
theorem ap_i_neg (a : Int) : -ap_i a = ap_i (-a) := (Int32.ofInt_neg a).symm
theorem ap_l_add (a b : Int) : ap_l a + ap_l b = ap_l (a + b) := (Int64.ofInt_add a b).symm
theorem ap_l_sub (a b : Int) : ap_l a - ap_l b = ap_l (a - b) := (Int64.ofInt_sub a b).symm
theorem ap_l_mul (a b : Int) : ap_l a * ap_l b = ap_l (a * b) := (Int64.ofInt_mul a b).symm
theorem ap_l_neg (a : Int) : -ap_l a = ap_l (-a) := (Int64.ofInt_neg a).symm
theorem ap_i_of (x : Int32) : ap_i x.toInt = x := Int32.ofInt_toInt x
theorem ap_i_n (n : Nat) : nI n = ap_i (n : Int) := Int32.ofInt_eq_ofNat.symm
theorem ap_l_n (n : Nat) : lN n = ap_l (n : Int) := Int64.ofInt_eq_ofNat.symm
theorem ap_i_0 : (0 : Int32) = ap_i 0 := by decide
theorem ap_i_1 : (1 : Int32) = ap_i 1 := by decide
theorem ap_i_m1 : (-1 : Int32) = ap_i (-1) := by decide
theorem ap_i_20 : (20 : Int32) = ap_i 20 := by decide
theorem ap_l_0 : (0 : Int64) = ap_l 0 := by decide
theorem ap_l_1 : (1 : Int64) = ap_l 1 := by decide
theorem ap_l_m1 : (-1 : Int64) = ap_l (-1) := by decide
theorem ap_l_20 : (20 : Int64) = ap_l 20 := by decide
theorem ap_i_t {a : Int} (h : ap_b 2147483647 a) : (ap_i a).toInt = a :=
  Int32.toInt_ofInt_of_le (by unfold ap_b at h; omega) (by unfold ap_b at h; omega)
theorem ap_l_t {a : Int} (h : ap_b 9000000000000000000 a) : (ap_l a).toInt = a :=
  Int64.toInt_ofInt_of_le (by unfold ap_b at h; omega) (by unfold ap_b at h; omega)
theorem ap_i_le {a b : Int} (ha : ap_b 2147483647 a) (hb : ap_b 2147483647 b) : ap_i a ≤ ap_i b ↔ a ≤ b := by
  rw [Int32.le_iff_toInt_le, ap_i_t ha, ap_i_t hb]
theorem ap_i_lt {a b : Int} (ha : ap_b 2147483647 a) (hb : ap_b 2147483647 b) : ap_i a < ap_i b ↔ a < b := by
  rw [Int32.lt_iff_toInt_lt, ap_i_t ha, ap_i_t hb]
theorem ap_i_eq {a b : Int} (ha : ap_b 2147483647 a) (hb : ap_b 2147483647 b) : ap_i a = ap_i b ↔ a = b := by
  rw [← Int32.toInt_inj, ap_i_t ha, ap_i_t hb]
theorem ap_l_le {a b : Int} (ha : ap_b 9000000000000000000 a) (hb : ap_b 9000000000000000000 b) : ap_l a ≤ ap_l b ↔ a ≤ b := by
  rw [Int64.le_iff_toInt_le, ap_l_t ha, ap_l_t hb]
theorem ap_l_lt {a b : Int} (ha : ap_b 9000000000000000000 a) (hb : ap_b 9000000000000000000 b) : ap_l a < ap_l b ↔ a < b := by
  rw [Int64.lt_iff_toInt_lt, ap_l_t ha, ap_l_t hb]
theorem ap_l_eq {a b : Int} (ha : ap_b 9000000000000000000 a) (hb : ap_b 9000000000000000000 b) : ap_l a = ap_l b ↔ a = b := by
  rw [← Int64.toInt_inj, ap_l_t ha, ap_l_t hb]
theorem ap_b_0 {n : Nat} : ap_b n 0 := Nat.zero_le n
theorem ap_i_le0 {a : Int} (ha : ap_b 2147483647 a) : ap_i a ≤ 0 ↔ a ≤ 0 := by rw [ap_i_0, ap_i_le ha ap_b_0]
theorem ap_i_0le {a : Int} (ha : ap_b 2147483647 a) : 0 ≤ ap_i a ↔ 0 ≤ a := by rw [ap_i_0, ap_i_le ap_b_0 ha]
theorem ap_i_lt0 {a : Int} (ha : ap_b 2147483647 a) : ap_i a < 0 ↔ a < 0 := by rw [ap_i_0, ap_i_lt ha ap_b_0]
theorem ap_i_0lt {a : Int} (ha : ap_b 2147483647 a) : 0 < ap_i a ↔ 0 < a := by rw [ap_i_0, ap_i_lt ap_b_0 ha]
theorem ap_i_eq0 {a : Int} (ha : ap_b 2147483647 a) : ap_i a = 0 ↔ a = 0 := by rw [ap_i_0, ap_i_eq ha ap_b_0]
theorem ap_l_le0 {a : Int} (ha : ap_b 9000000000000000000 a) : ap_l a ≤ 0 ↔ a ≤ 0 := by rw [ap_l_0, ap_l_le ha ap_b_0]
theorem ap_l_0le {a : Int} (ha : ap_b 9000000000000000000 a) : 0 ≤ ap_l a ↔ 0 ≤ a := by rw [ap_l_0, ap_l_le ap_b_0 ha]
theorem ap_l_lt0 {a : Int} (ha : ap_b 9000000000000000000 a) : ap_l a < 0 ↔ a < 0 := by rw [ap_l_0, ap_l_lt ha ap_b_0]
theorem ap_l_0lt {a : Int} (ha : ap_b 9000000000000000000 a) : 0 < ap_l a ↔ 0 < a := by rw [ap_l_0, ap_l_lt ap_b_0 ha]
theorem ap_l_eq0 {a : Int} (ha : ap_b 9000000000000000000 a) : ap_l a = 0 ↔ a = 0 := by rw [ap_l_0, ap_l_eq ha ap_b_0]
theorem ap_i_l {a : Int} (h : ap_b 2147483647 a) : (ap_i a).toInt64 = ap_l a :=
  Int32.toInt64_ofInt (by rw [Int32.toInt_minValue]; unfold ap_b at h; omega) (by rw [Int32.toInt_maxValue]; unfold ap_b at h; omega)
theorem ap_l_i (a : Int) : (ap_l a).toInt32 = ap_i a := Int64.toInt32_ofInt
theorem ap_x_l (x : Int32) : x.toInt64 = ap_l x.toInt := by
  apply Int64.toInt_inj.mp
  rw [Int32.toInt_toInt64]
  have h1 := Int32.toInt_lt x
  have h2 := Int32.le_toInt x
  rw [ap_l_t (by unfold ap_b; omega)]
theorem ap_b_mul {m n : Nat} {a b : Int} (ha : ap_b m a) (hb : ap_b n b) : ap_b (m * n) (a * b) := by
  unfold ap_b at *; rw [Int.natAbs_mul]; exact Nat.mul_le_mul ha hb
theorem ap_b_add {m n : Nat} {a b : Int} (ha : ap_b m a) (hb : ap_b n b) : ap_b (m + n) (a + b) := by
  unfold ap_b at *; omega
theorem ap_b_sub {m n : Nat} {a b : Int} (ha : ap_b m a) (hb : ap_b n b) : ap_b (m + n) (a - b) := by
  unfold ap_b at *; omega
theorem ap_b_neg {m : Nat} {a : Int} (ha : ap_b m a) : ap_b m (-a) := by unfold ap_b at *; omega
theorem ap_b_le {m n : Nat} {a : Int} (ha : ap_b m a) (h : m ≤ n) : ap_b n a := Nat.le_trans ha h
theorem ap_b_n {m n : Nat} (h : m ≤ n) : ap_b n (m : Int) := by unfold ap_b; omega
/-! indices -/
theorem ap_3i (r i : Nat) : (3 : Int32) * nI r + nI i = nI (3 * r + i) := by
  have h : (3 : Int32) = nI 3 := by decide
  rw [h]; unfold nI; rw [← Int32.ofNat_mul, ← Int32.ofNat_add]
theorem ap_4i (r i : Nat) : (4 : Int32) * nI r + nI i = nI (4 * r + i) := by
  have h : (4 : Int32) = nI 4 := by decide
  rw [h]; unfold nI; rw [← Int32.ofNat_mul, ← Int32.ofNat_add]
theorem ap_6i (k : Nat) : (6 : Int32) + nI k = nI (6 + k) := by
  have h : (6 : Int32) = nI 6 := by decide
  rw [h, nI_add]
theorem ap_l3 (i : Nat) (h : i < 3) : ¬ (3 : Int32) ≤ nI i := nI_ge (b := 3) h (by decide)
theorem ap_g3 : (3 : Int32) ≤ nI 3 := by decide
theorem ap_l5 (i : Nat) (h : i < 5) : ¬ (5 : Int32) ≤ nI i := nI_ge (b := 5) h (by decide)
theorem ap_g5 : (5 : Int32) ≤ nI 5 := by decide
theorem ap_l11 (i : Nat) (h : i < 11) : ¬ (11 : Int32) ≤ nI i := nI_ge (b := 11) h (by decide)
theorem ap_g11 : (11 : Int32) ≤ nI 11 := by decide
theorem ap_in {n N : Nat} (h : n < N) (hN : N < 2000000000) : vp_in (nI n) N := vp_in_nI h (by omega)
theorem ap_cl {n : Nat} (h : n < 2000000000) : (nI n).toNatClampNeg = n := nI_clamp (by omega)
theorem ap_us {f : Nat → Int32} {k : Nat} {x : Int32} : upd f k x k = x := if_pos rfl
theorem ap_un {f : Nat → Int32} {k j : Nat} {x : Int32} (h : j ≠ k) : upd f k x j = f j := if_neg h
theorem ap_uLs {f : Nat → Int64} {k : Nat} {x : Int64} : vp_updL f k x k = x := if_pos rfl
theorem ap_uLn {f : Nat → Int64} {k j : Nat} {x : Int64} (h : j ≠ k) : vp_updL f k x j = f j := if_neg h
theorem ap_lt3 {P : Nat → Prop} (h0 : P 0) (h1 : P 1) (h2 : P 2) : ∀ i, i < 3 → P i := by
  intro i hi
  match i, hi with
  | 0, _ => exact h0
  | 1, _ => exact h1
  | 2, _ => exact h2
end
section
/-! the pure picture: rows F, B; a place is three tops over one bottom -/
abbrev ap_P : Type := (Nat → Int) × Int
def ap_cr (F : Nat → Nat → Int) (q r i : Nat) : Int := F q ((i + 1) % 3) * F r ((i + 2) % 3) - F q ((i + 2) % 3) * F r ((i + 1) % 3)
def ap_dt (F : Nat → Nat → Int) (p q r : Nat) : Int := F p 0 * ap_cr F q r 0 + F p 1 * ap_cr F q r 1 + F p 2 * ap_cr F q r 2
def ap_tp (F : Nat → Nat → Int) (B : Nat → Int) (p q r i : Nat) : Int := B p * ap_cr F q r i + B q * ap_cr F r p i + B r * ap_cr F p q i
def ap_sg (d : Int) : Int := if 0 ≤ d then 1 else -1
def ap_co (F : Nat → Nat → Int) (B : Nat → Int) (p q r : Nat) : ap_P := (fun i => ap_sg (ap_dt F p q r) * ap_tp F B p q r i, ap_sg (ap_dt F p q r) * ap_dt F p q r)
def ap_ex (F : Nat → Nat → Int) (B : Nat → Int) (r : Nat) (P : ap_P) : Int := F r 0 * P.1 0 + F r 1 * P.1 1 + F r 2 * P.1 2 - B r * P.2
def ap_w (A : Nat → Int) (P : ap_P) : Int := A 0 * P.1 0 + A 1 * P.1 1 + A 2 * P.1 2
def ap_rk (F : Nat → Nat → Int) (B : Nat → Int) (K : Nat → Int32) (P : ap_P) (r : Nat) : Prop := ¬ ((0 < ap_ex F B r P ∧ ¬ K r = 2) ∨ (ap_ex F B r P < 0 ∧ ¬ K r = 0))
def ap_ok (F : Nat → Nat → Int) (B : Nat → Int) (K U : Nat → Int32) (P : ap_P) : Prop := ∀ r, r < 11 → ¬ U r = 0 → ap_rk F B K P r
def ap_gc (F : Nat → Nat → Int) (B : Nat → Int) (K U : Nat → Int32) (p q r : Nat) : Prop := ¬ U p = 0 ∧ ¬ U q = 0 ∧ ¬ U r = 0 ∧ ap_dt F p q r ≠ 0 ∧ ap_ok F B K U (ap_co F B p q r)
/-- bounds of a place -/
def ap_pb (P : ap_P) : Prop := (∀ i, ap_b 29106 (P.1 i)) ∧ 0 < P.2 ∧ P.2 ≤ 2058
def ap_g0 (A : Nat → Int) (P Q : ap_P) : Int := ap_w A P * Q.2 - ap_w A Q * P.2
def ap_gi (i : Nat) (P Q : ap_P) : Int := Q.1 i * P.2 - P.1 i * Q.2
def ap_bt (A : Nat → Int) (P Q : ap_P) : Prop := 0 < ap_g0 A P Q ∨ (ap_g0 A P Q = 0 ∧ (0 < ap_gi 0 P Q ∨ (ap_gi 0 P Q = 0 ∧ (0 < ap_gi 1 P Q ∨ (ap_gi 1 P Q = 0 ∧ 0 < ap_gi 2 P Q)))))
def ap_br (s : Int) (i : Nat) (P Q : ap_P) : Prop := 0 < s * (P.1 i * Q.2 - Q.1 i * P.2)
theorem ap_cr_b {F : Nat → Nat → Int} (hF : ∀ r i, ap_b 7 (F r i)) (q r i : Nat) : ap_b 98 (ap_cr F q r i) :=
  ap_b_le (ap_b_sub (ap_b_mul (hF _ _) (hF _ _)) (ap_b_mul (hF _ _) (hF _ _))) (by decide)
theorem ap_dt_b {F : Nat → Nat → Int} (hF : ∀ r i, ap_b 7 (F r i)) (p q r : Nat) : ap_b 2058 (ap_dt F p q r) :=
  ap_b_le (ap_b_add (ap_b_add (ap_b_mul (hF _ _) (ap_cr_b hF _ _ _)) (ap_b_mul (hF _ _) (ap_cr_b hF _ _ _))) (ap_b_mul (hF _ _) (ap_cr_b hF _ _ _))) (by decide)
theorem ap_tp_b {F : Nat → Nat → Int} {B : Nat → Int} (hF : ∀ r i, ap_b 7 (F r i)) (hB : ∀ r, ap_b 99 (B r)) (p q r i : Nat) : ap_b 29106 (ap_tp F B p q r i) :=
  ap_b_le (ap_b_add (ap_b_add (ap_b_mul (hB _) (ap_cr_b hF _ _ _)) (ap_b_mul (hB _) (ap_cr_b hF _ _ _))) (ap_b_mul (hB _) (ap_cr_b hF _ _ _))) (by decide)
theorem ap_sg_b (d : Int) : ap_b 1 (ap_sg d) := by unfold ap_b ap_sg; split <;> decide
theorem ap_sg_d (d : Int) : ap_sg d * d = (d.natAbs : Int) := by unfold ap_sg; split <;> omega
theorem ap_co_pb {F : Nat → Nat → Int} {B : Nat → Int} (hF : ∀ r i, ap_b 7 (F r i)) (hB : ∀ r, ap_b 99 (B r)) {p q r : Nat} (hd : ap_dt F p q r ≠ 0) : ap_pb (ap_co F B p q r) := by
  refine ⟨fun i => ap_b_le (ap_b_mul (ap_sg_b _) (ap_tp_b hF hB p q r i)) (by decide), ?_, ?_⟩
  · show 0 < ap_sg (ap_dt F p q r) * ap_dt F p q r
    rw [ap_sg_d]; omega
  · show ap_sg (ap_dt F p q r) * ap_dt F p q r ≤ 2058
    have h := ap_dt_b hF p q r
    unfold ap_b at h
    rw [ap_sg_d]; omega
theorem ap_pb_2 {P : ap_P} (h : ap_pb P) : ap_b 2058 P.2 := by unfold ap_b; have := h.2; omega
theorem ap_w_b {A : Nat → Int} {P : ap_P} (hA : ∀ i, ap_b 7 (A i)) (hP : ap_pb P) : ap_b 611226 (ap_w A P) :=
  ap_b_le (ap_b_add (ap_b_add (ap_b_mul (hA _) (hP.1 _)) (ap_b_mul (hA _) (hP.1 _))) (ap_b_mul (hA _) (hP.1 _))) (by decide)
theorem ap_ex_b {F : Nat → Nat → Int} {B : Nat → Int} (hF : ∀ r i, ap_b 7 (F r i)) (hB : ∀ r, ap_b 99 (B r)) {P : ap_P} (hP : ap_pb P) (r : Nat) : ap_b 814968 (ap_ex F B r P) :=
  ap_b_le (ap_b_sub (ap_w_b (A := F r) (hF r) hP) (ap_b_mul (hB r) (ap_pb_2 hP))) (by decide)
theorem ap_g0_b {A : Nat → Int} {P Q : ap_P} (hA : ∀ i, ap_b 7 (A i)) (hP : ap_pb P) (hQ : ap_pb Q) : ap_b 2515806216 (ap_g0 A P Q) :=
  ap_b_le (ap_b_sub (ap_b_mul (ap_w_b hA hP) (ap_pb_2 hQ)) (ap_b_mul (ap_w_b hA hQ) (ap_pb_2 hP))) (by decide)
theorem ap_gi_b {P Q : ap_P} (hP : ap_pb P) (hQ : ap_pb Q) (i : Nat) : ap_b 119800296 (ap_gi i P Q) :=
  ap_b_le (ap_b_sub (ap_b_mul (hQ.1 i) (ap_pb_2 hP)) (ap_b_mul (hP.1 i) (ap_pb_2 hQ))) (by decide)
/-! cyclic rows -/
theorem ap_dt_cy (F : Nat → Nat → Int) (p q r : Nat) : ap_dt F q r p = ap_dt F p q r := by
  unfold ap_dt ap_cr; simp only [Nat.reduceAdd, Nat.reduceMod]; grind
theorem ap_tp_cy (F : Nat → Nat → Int) (B : Nat → Int) (p q r i : Nat) : ap_tp F B q r p i = ap_tp F B p q r i := by
  unfold ap_tp; omega
theorem ap_co_cy (F : Nat → Nat → Int) (B : Nat → Int) (p q r : Nat) : ap_co F B q r p = ap_co F B p q r := by
  unfold ap_co; rw [ap_dt_cy]
  congr 1
  funext i
  rw [ap_tp_cy]
theorem ap_gc_cy {F : Nat → Nat → Int} {B : Nat → Int} {K U : Nat → Int32} {p q r : Nat} : ap_gc F B K U q r p ↔ ap_gc F B K U p q r := by
  unfold ap_gc; rw [ap_dt_cy, ap_co_cy]
  constructor
  · exact fun h => ⟨h.2.2.1, h.1, h.2.1, h.2.2.2⟩
  · exact fun h => ⟨h.2.1, h.2.2.1, h.1, h.2.2.2⟩
/-! order -/
theorem ap_tr {x y z u v w : Int} (hx : 0 < x) (hy : 0 < y) (hz : 0 < z) (e : y * w = z * u + x * v) :
    (0 < u → 0 ≤ v → 0 < w) ∧ (0 ≤ u → 0 < v → 0 < w) ∧ (u = 0 → v = 0 → w = 0) := by
  refine ⟨fun hu hv => ?_, fun hu hv => ?_, fun hu hv => ?_⟩
  · have h1 : 0 < z * u := Int.mul_pos hz hu
    have h2 : 0 ≤ x * v := Int.mul_nonneg (Int.le_of_lt hx) hv
    have h3 : 0 < y * w := by omega
    exact Int.pos_of_mul_pos_right h3 hy
  · have h1 : 0 ≤ z * u := Int.mul_nonneg (Int.le_of_lt hz) hu
    have h2 : 0 < x * v := Int.mul_pos hx hv
    have h3 : 0 < y * w := by omega
    exact Int.pos_of_mul_pos_right h3 hy
  · rw [hu, hv] at e
    rcases Int.mul_eq_zero.mp (show y * w = 0 by omega) with h | h
    · omega
    · exact h
theorem ap_k0 (A : Nat → Int) (P Q R : ap_P) : Q.2 * ap_g0 A P R = R.2 * ap_g0 A P Q + P.2 * ap_g0 A Q R := by
  unfold ap_g0; grind
theorem ap_ki (i : Nat) (P Q R : ap_P) : Q.2 * ap_gi i P R = R.2 * ap_gi i P Q + P.2 * ap_gi i Q R := by
  unfold ap_gi; grind
theorem ap_bt_tr {A : Nat → Int} {P Q R : ap_P} (hP : 0 < P.2) (hQ : 0 < Q.2) (hR : 0 < R.2) (h1 : ap_bt A P Q) (h2 : ap_bt A Q R) : ap_bt A P R := by
  have t0 := ap_tr hP hQ hR (ap_k0 A P Q R)
  have t1 := ap_tr hP hQ hR (ap_ki 0 P Q R)
  have t2 := ap_tr hP hQ hR (ap_ki 1 P Q R)
  have t3 := ap_tr hP hQ hR (ap_ki 2 P Q R)
  unfold ap_bt at *
  generalize ap_g0 A P Q = a0 at *
  generalize ap_g0 A Q R = b0 at *
  generalize ap_g0 A P R = c0 at *
  generalize ap_gi 0 P Q = a1 at *
  generalize ap_gi 0 Q R = b1 at *
  generalize ap_gi 0 P R = c1 at *
  generalize ap_gi 1 P Q = a2 at *
  generalize ap_gi 1 Q R = b2 at *
  generalize ap_gi 1 P R = c2 at *
  generalize ap_gi 2 P Q = a3 at *
  generalize ap_gi 2 Q R = b3 at *
  generalize ap_gi 2 P R = c3 at *
  obtain ⟨u0, v0, w0⟩ := t0
  obtain ⟨u1, v1, w1⟩ := t1
  obtain ⟨u2, v2, w2⟩ := t2
  obtain ⟨u3, v3, w3⟩ := t3
  rcases h1 with h1 | ⟨z1, h1⟩
  · rcases h2 with h2 | ⟨z2, h2⟩
    · exact Or.inl (u0 h1 (by omega))
    · exact Or.inl (u0 h1 (by omega))
  · rcases h2 with h2 | ⟨z2, h2⟩
    · exact Or.inl (v0 (by omega) h2)
    · refine Or.inr ⟨w0 z1 z2, ?_⟩
      rcases h1 with h1 | ⟨z1, h1⟩
      · rcases h2 with h2 | ⟨z2, h2⟩
        · exact Or.inl (u1 h1 (by omega))
        · exact Or.inl (u1 h1 (by omega))
      · rcases h2 with h2 | ⟨z2, h2⟩
        · exact Or.inl (v1 (by omega) h2)
        · refine Or.inr ⟨w1 z1 z2, ?_⟩
          rcases h1 with h1 | ⟨z1, h1⟩
          · rcases h2 with h2 | ⟨z2, h2⟩
            · exact Or.inl (u2 h1 (by omega))
            · exact Or.inl (u2 h1 (by omega))
          · rcases h2 with h2 | ⟨z2, h2⟩
            · exact Or.inl (v2 (by omega) h2)
            · exact Or.inr ⟨w2 z1 z2, u3 h1 (by omega)⟩
theorem ap_g0_sw (A : Nat → Int) (P Q : ap_P) : ap_g0 A Q P = - ap_g0 A P Q := by unfold ap_g0; omega
theorem ap_gi_sw (i : Nat) (P Q : ap_P) : ap_gi i Q P = - ap_gi i P Q := by unfold ap_gi; omega
theorem ap_bt_ir (A : Nat → Int) (P : ap_P) : ¬ ap_bt A P P := by
  have h0 := ap_g0_sw A P P
  have h1 := ap_gi_sw 0 P P
  have h2 := ap_gi_sw 1 P P
  have h3 := ap_gi_sw 2 P P
  unfold ap_bt; omega
theorem ap_bt_an {A : Nat → Int} {P Q : ap_P} (h : ¬ ap_bt A P Q) (h' : ¬ ap_bt A Q P) : ap_g0 A P Q = 0 ∧ ∀ i, i < 3 → ap_gi i P Q = 0 := by
  have h0 := ap_g0_sw A P Q
  have h1 := ap_gi_sw 0 P Q
  have h2 := ap_gi_sw 1 P Q
  have h3 := ap_gi_sw 2 P Q
  unfold ap_bt at h h'
  refine ⟨by omega, ap_lt3 (by omega) (by omega) (by omega)⟩
theorem ap_bt_g0 {A : Nat → Int} {P Q : ap_P} (h : ¬ ap_bt A P Q) : ap_g0 A P Q ≤ 0 := by
  unfold ap_bt at h; omega
theorem ap_br_tr {s : Int} {i : Nat} {P Q R : ap_P} (hP : 0 < P.2) (hQ : 0 < Q.2) (hR : 0 < R.2) (h1 : ap_br s i P Q) (h2 : ap_br s i Q R) : ap_br s i P R := by
  unfold ap_br at *
  exact (ap_tr (u := s * (P.1 i * Q.2 - Q.1 i * P.2)) (v := s * (Q.1 i * R.2 - R.1 i * Q.2)) hP hQ hR (by grind)).1 h1 (Int.le_of_lt h2)
theorem ap_br_ir (s : Int) (i : Nat) (P : ap_P) : ¬ ap_br s i P P := by
  unfold ap_br; rw [Int.sub_self, Int.mul_zero]; omega
/-! the first best of a set -/
def ap_inv (bt : ap_P → ap_P → Prop) (S : ap_P → Prop) (m : Nat) (k : ap_P) : Prop := (m = 0 → ∀ c, ¬ S c) ∧ (m ≠ 0 → S k ∧ ∀ c, S c → ¬ bt c k)
theorem ap_inv_cg {bt : ap_P → ap_P → Prop} {S S' : ap_P → Prop} {m : Nat} {k : ap_P} (h : ∀ c, S' c ↔ S c) (i : ap_inv bt S m k) : ap_inv bt S' m k :=
  ⟨fun z c hc => i.1 z c ((h c).mp hc), fun z => ⟨(h k).mpr (i.2 z).1, fun c hc => (i.2 z).2 c ((h c).mp hc)⟩⟩
theorem ap_inv_new {bt : ap_P → ap_P → Prop} {S S' : ap_P → Prop} {m m' : Nat} {k p : ap_P} (i : ap_inv bt S m k) (h : ∀ c, S' c ↔ S c ∨ c = p) (hm : m' ≠ 0)
    (hir : ¬ bt p p) (hT : ∀ c, S c → S k → bt c p → bt p k → bt c k) (hb : m = 0 ∨ bt p k) : ap_inv bt S' m' p := by
  refine ⟨fun z => absurd z hm, fun _ => ⟨(h p).mpr (Or.inr rfl), fun c hc => ?_⟩⟩
  rcases (h c).mp hc with hc | rfl
  · by_cases z : m = 0
    · exact absurd hc (i.1 z c)
    · intro hcp
      obtain ⟨hk, hall⟩ := i.2 z
      exact hall c hc (hT c hc hk hcp (hb.resolve_left z))
  · exact hir
theorem ap_inv_keep {bt : ap_P → ap_P → Prop} {S S' : ap_P → Prop} {m m' : Nat} {k p : ap_P} (i : ap_inv bt S m k) (h : ∀ c, S' c ↔ S c ∨ c = p) (hm : m ≠ 0) (hm' : m' ≠ 0)
    (hb : ¬ bt p k) : ap_inv bt S' m' k := by
  obtain ⟨hk, hall⟩ := i.2 hm
  refine ⟨fun z => absurd z hm', fun _ => ⟨(h k).mpr (Or.inl hk), fun c hc => ?_⟩⟩
  rcases (h c).mp hc with hc | rfl
  · exact hall c hc
  · exact hb
/-! lowest terms -/
theorem ap_low {T T' : Int} {b b' : Nat} (hb : 0 < b) (hb' : 0 < b') (e : T * (b' : Int) = T' * (b : Int)) :
    T.tdiv (Nat.gcd T.natAbs b : Nat) = T'.tdiv (Nat.gcd T'.natAbs b' : Nat) ∧ b / Nat.gcd T.natAbs b = b' / Nat.gcd T'.natAbs b' := by
  have en : T.natAbs * b' = T'.natAbs * b := by
    have := congrArg Int.natAbs e
    rw [Int.natAbs_mul, Int.natAbs_mul, Int.natAbs_natCast, Int.natAbs_natCast] at this
    exact this
  have eg : Nat.gcd T.natAbs b * b' = Nat.gcd T'.natAbs b' * b := by
    rw [← Nat.gcd_mul_right, ← Nat.gcd_mul_right, en, Nat.mul_comm b b']
  have g0 : 0 < Nat.gcd T.natAbs b := Nat.gcd_pos_of_pos_right _ hb
  have g0' : 0 < Nat.gcd T'.natAbs b' := Nat.gcd_pos_of_pos_right _ hb'
  have d1 : ((Nat.gcd T.natAbs b : Nat) : Int) ∣ T := Int.ofNat_dvd_left.mpr (Nat.gcd_dvd_left _ _)
  have d1' : ((Nat.gcd T'.natAbs b' : Nat) : Int) ∣ T' := Int.ofNat_dvd_left.mpr (Nat.gcd_dvd_left _ _)
  have d2 : Nat.gcd T.natAbs b ∣ b := Nat.gcd_dvd_right _ _
  have d2' : Nat.gcd T'.natAbs b' ∣ b' := Nat.gcd_dvd_right _ _
  generalize Nat.gcd T.natAbs b = g at *
  generalize Nat.gcd T'.natAbs b' = g' at *
  obtain ⟨s, hs⟩ := d1
  obtain ⟨s', hs'⟩ := d1'
  obtain ⟨t, ht⟩ := d2
  obtain ⟨t', ht'⟩ := d2'
  have egi : (g : Int) * (b' : Int) = (g' : Int) * (b : Int) := by
    exact_mod_cast eg
  refine ⟨?_, ?_⟩
  · rw [hs, hs', Int.mul_tdiv_cancel_left _ (by omega), Int.mul_tdiv_cancel_left _ (by omega)]
    rw [hs, hs'] at e
    have e2 : (g : Int) * (b' : Int) * s = (g : Int) * (b' : Int) * s' := by
      have a1 : (g : Int) * (b' : Int) * s = (g : Int) * s * (b' : Int) := by grind
      have a2 : (g : Int) * (b' : Int) * s' = (g' : Int) * s' * (b : Int) := by rw [egi]; grind
      rw [a1, a2, e]
    refine Int.eq_of_mul_eq_mul_left (a := (g : Int) * (b' : Int)) ?_ e2
    have : 0 < (g : Int) * (b' : Int) := Int.mul_pos (by omega) (by omega)
    omega
  · rw [ht, ht', Nat.mul_div_cancel_left _ g0, Nat.mul_div_cancel_left _ g0']
    rw [ht, ht'] at eg
    have e3 : g * g' * t' = g * g' * t := by
      have a1 : g * g' * t' = g * (g' * t') := by grind
      have a2 : g * g' * t = g' * (g * t) := by grind
      rw [a1, a2, eg]
    exact (Nat.eq_of_mul_eq_mul_left (Nat.mul_pos g0 g0') e3).symm
/-! sums -/
def ap_sm (f : Nat → Nat) : Nat → Nat
  | 0 => 0
  | n + 1 => ap_sm f n + f n
theorem ap_sm_cg {f g : Nat → Nat} {n : Nat} (h : ∀ i, i < n → f i = g i) : ap_sm f n = ap_sm g n := by
  induction n with
  | zero => rfl
  | succ n ih => show ap_sm f n + f n = ap_sm g n + g n; rw [ih (fun i hi => h i (by omega)), h n (by omega)]
theorem ap_sm_le {f : Nat → Nat} {c n : Nat} (h : ∀ i, f i ≤ c) : ap_sm f n ≤ n * c := by
  induction n with
  | zero => exact Nat.zero_le _
  | succ n ih => show ap_sm f n + f n ≤ _; rw [Nat.succ_mul]; exact Nat.add_le_add ih (h n)
theorem ap_sm_add (f g : Nat → Nat) (n : Nat) : ap_sm (fun i => f i + g i) n = ap_sm f n + ap_sm g n := by
  induction n with
  | zero => rfl
  | succ n ih => show ap_sm _ n + (f n + g n) = (ap_sm f n + f n) + (ap_sm g n + g n); rw [ih]; omega
theorem ap_sm_0 (n : Nat) : ap_sm (fun _ => 0) n = 0 := by
  induction n with
  | zero => rfl
  | succ n ih => show ap_sm _ n + 0 = 0; rw [ih]
theorem ap_sm_sw (f : Nat → Nat → Nat) (m n : Nat) : ap_sm (fun a => ap_sm (fun b => f a b) n) m = ap_sm (fun b => ap_sm (fun a => f a b) m) n := by
  induction m with
  | zero => exact (ap_sm_0 n).symm
  | succ m ih =>
    show ap_sm (fun a => ap_sm (fun b => f a b) n) m + ap_sm (fun b => f m b) n = ap_sm (fun b => ap_sm (fun a => f a b) m + f m b) n
    rw [ih, ap_sm_add]
theorem ap_sm_app (f : Nat → Nat) (m n : Nat) : ap_sm f (m + n) = ap_sm f m + ap_sm (fun i => f (m + i)) n := by
  induction n with
  | zero => rfl
  | succ n ih => show ap_sm f (m + n) + f (m + n) = ap_sm f m + (ap_sm (fun i => f (m + i)) n + f (m + n)); rw [ih]; omega
theorem ap_sm_mul (f : Nat → Nat) (m n : Nat) : ap_sm f (m * n) = ap_sm (fun j => ap_sm (fun i => f (j * n + i)) n) m := by
  induction m with
  | zero => rw [Nat.zero_mul]; rfl
  | succ m ih =>
    rw [Nat.succ_mul, ap_sm_app, ih]; rfl
theorem ap_sm_3 (f : Nat → Nat → Nat → Nat) : ap_sm (fun c => f (c % 21) (c / 21 % 21) (c / 441)) 9261 = ap_sm (fun a => ap_sm (fun b => ap_sm (fun c => f a b c) 21) 21) 21 := by
  have e1 : ap_sm (fun c => f (c % 21) (c / 21 % 21) (c / 441)) 9261 = ap_sm (fun z => ap_sm (fun y => ap_sm (fun x => f x y z) 21) 21) 21 := by
    rw [show (9261 : Nat) = 21 * 441 from rfl, ap_sm_mul]
    apply ap_sm_cg
    intro z hz
    rw [show (441 : Nat) = 21 * 21 from rfl, ap_sm_mul]
    apply ap_sm_cg
    intro y hy
    apply ap_sm_cg
    intro x hx
    have a1 : (z * (21 * 21) + (y * 21 + x)) % 21 = x := by omega
    have a2 : (z * (21 * 21) + (y * 21 + x)) / 21 % 21 = y := by omega
    have a3 : (z * (21 * 21) + (y * 21 + x)) / (21 * 21) = z := by omega
    rw [a1, a2, a3]
  rw [e1, ap_sm_sw]
  have e2 : ∀ y, ap_sm (fun z => ap_sm (fun x => f x y z) 21) 21 = ap_sm (fun x => ap_sm (fun z => f x y z) 21) 21 := fun y => ap_sm_sw (fun z x => f x y z) 21 21
  rw [ap_sm_cg (fun y _ => e2 y), ap_sm_sw]
end
section
/-! the component's walks -/
def ap_F (fa : Nat → Int32) (r i : Nat) : Int := (fa (3 * r + i)).toInt
def ap_B (bo : Nat → Int32) (r : Nat) : Int := (bo r).toInt
theorem ap_Fi (fa : Nat → Int32) (r i : Nat) : fa (3 * r + i) = ap_i (ap_F fa r i) := (ap_i_of _).symm
theorem ap_Bi (bo : Nat → Int32) (r : Nat) : bo r = ap_i (ap_B bo r) := (ap_i_of _).symm
theorem ax_m1 : ∀ i, i < 3 → (nI i + 1) - (nI i + 1) / 3 * 3 = nI ((i + 1) % 3) := ap_lt3 (by decide) (by decide) (by decide)
theorem ax_m2 : ∀ i, i < 3 → (nI i + 2) - (nI i + 2) / 3 * 3 = nI ((i + 2) % 3) := ap_lt3 (by decide) (by decide) (by decide)
section
variable {pB kB pm : Int32} {fa ki bo us go ai pt kt : Nat → Int32}
theorem ax_cross {post : Int32 → Prop} {p q i : Nat} (hp : p < 11) (hq : q < 11) (hi : i < 3) (h : post (ap_i (ap_cr (ap_F fa) p q i))) : wpX_cross post (pB, kB, pm, fa, ki, bo, us, go, ai, pt, kt) (nI p) (nI q) (nI i) := by
  have a1 : (i + 1) % 3 < 3 := Nat.mod_lt _ (by decide)
  have a2 : (i + 2) % 3 < 3 := Nat.mod_lt _ (by decide)
  refine ⟨by decide, nm_r (ax_m1 i hi) ⟨by decide, nm_r (ax_m2 i hi) ?_⟩⟩
  simp only [ap_3i]
  refine ⟨ap_in (by omega) (by decide), ap_in (by omega) (by decide), ap_in (by omega) (by decide), ap_in (by omega) (by decide), ?_⟩
  rw [ap_cl (by omega), ap_cl (by omega), ap_cl (by omega), ap_cl (by omega), ap_Fi fa p, ap_Fi fa p, ap_Fi fa q, ap_Fi fa q, ap_i_mul, ap_i_mul, ap_i_sub]
  exact h
theorem ax_pac6 {post : Int32 → SX → Prop} {p q r i n : Nat} {x : Int} (hp : p < 11) (hq : q < 11) (hr : r < 11) (hi : i < 3)
    (h : wX_placeAtCorner_6 post (nI p) (nI q) (nI r) pB kB pm fa ki bo us go ai pt kt n (ap_i (x + ap_F fa p i * ap_cr (ap_F fa) q r i)) (nI (i + 1))) :
    wX_placeAtCorner_6 post (nI p) (nI q) (nI r) pB kB pm fa ki bo us go ai pt kt (n + 1) (ap_i x) (nI i) := by
  refine br_f (ap_l3 i hi) ⟨?_, ax_cross hq hr hi ?_⟩
  · rw [ap_3i]; exact ap_in (by omega) (by decide)
  · refine nm_r ?_ (nm_r (nI_1 i) h)
    rw [ap_3i, ap_cl (by omega), ap_Fi fa, ap_i_mul, ap_i_add]
theorem ax_pac74 {post : Int32 → SX → Prop} {p q r i n : Nat} {s : Int} (hp : p < 11) (hq : q < 11) (hr : r < 11) (hi : i < 3)
    (h : wX_placeAtCorner_74 post (nI p) (nI q) (nI r) (ap_i s) pB kB pm n (nI (i + 1)) fa ki bo us go ai (upd pt i (ap_i (s * ap_tp (ap_F fa) (ap_B bo) p q r i))) kt) :
    wX_placeAtCorner_74 post (nI p) (nI q) (nI r) (ap_i s) pB kB pm (n + 1) (nI i) fa ki bo us go ai pt kt := by
  refine br_f (ap_l3 i hi) ⟨ap_in hp (by decide), ax_cross hq hr hi ⟨ap_in hq (by decide), ax_cross hr hp hi ⟨ap_in hr (by decide), ax_cross hp hq hi ?_⟩⟩⟩
  refine nm_r (e' := ap_i (ap_tp (ap_F fa) (ap_B bo) p q r i)) ?_ ⟨ap_in hi (by decide), nm_r ?_ (nm_r (nI_1 i) h)⟩
  · rw [ap_cl (by omega), ap_cl (by omega), ap_cl (by omega), ap_Bi bo p, ap_Bi bo q, ap_Bi bo r, ap_i_mul, ap_i_mul, ap_i_mul, ap_i_add, ap_i_add]
    rfl
  · rw [ap_cl (by omega), ap_i_mul]
theorem ax_pac60 {post : Int32 → SX → Prop} {p q r : Nat} {s d : Int} (hp : p < 11) (hq : q < 11) (hr : r < 11)
    (h : ∀ pt' : Nat → Int32, (∀ i, i < 3 → pt' i = ap_i (s * ap_tp (ap_F fa) (ap_B bo) p q r i)) → post 1 (ap_i (s * d), kB, pm, fa, ki, bo, us, go, ai, pt', kt)) :
    wX_placeAtCorner_60 post (nI p) (nI q) (nI r) (ap_i d) (ap_i s) pB kB pm fa ki bo us go ai pt kt := by
  refine nm_r (ap_i_mul s d) ⟨4, ?_⟩
  refine ax_pac74 (i := 0) hp hq hr (by decide) (ax_pac74 (i := 1) hp hq hr (by decide) (ax_pac74 (i := 2) hp hq hr (by decide) (br_t ap_g3 (h _ ?_))))
  exact ap_lt3 (by rw [pk_un (by decide), pk_un (by decide), pk_us]) (by rw [pk_un (by decide), pk_us]) (by rw [pk_us])
theorem ax_placeAtCorner {post : Int32 → SX → Prop} {p q r : Nat} (hF : ∀ r i, ap_b 7 (ap_F fa r i)) (hp : p < 11) (hq : q < 11) (hr : r < 11)
    (h0 : ap_dt (ap_F fa) p q r = 0 → post 0 (pB, kB, pm, fa, ki, bo, us, go, ai, pt, kt))
    (h1 : ap_dt (ap_F fa) p q r ≠ 0 → ∀ pt' : Nat → Int32, (∀ i, i < 3 → pt' i = ap_i ((ap_co (ap_F fa) (ap_B bo) p q r).1 i)) → post 1 (ap_i (ap_co (ap_F fa) (ap_B bo) p q r).2, kB, pm, fa, ki, bo, us, go, ai, pt', kt)) :
    wpX_placeAtCorner post (pB, kB, pm, fa, ki, bo, us, go, ai, pt, kt) (nI p) (nI q) (nI r) := by
  refine ⟨4, ?_⟩
  refine ax_pac6 (x := 0) (i := 0) hp hq hr (by decide) (ax_pac6 (i := 1) hp hq hr (by decide) (ax_pac6 (i := 2) hp hq hr (by decide) (br_t ap_g3 ?_)))
  have e : 0 + ap_F fa p 0 * ap_cr (ap_F fa) q r 0 + ap_F fa p 1 * ap_cr (ap_F fa) q r 1 + ap_F fa p 2 * ap_cr (ap_F fa) q r 2 = ap_dt (ap_F fa) p q r := by
    unfold ap_dt; omega
  rw [e]
  have hd := ap_b_le (ap_dt_b hF p q r) (show 2058 ≤ 2147483647 by decide)
  refine br_c (fun z => h0 ((ap_i_eq0 hd).mp z)) (fun z => ?_)
  have z' : ap_dt (ap_F fa) p q r ≠ 0 := fun y => z ((ap_i_eq0 hd).mpr y)
  have h1' := h1 z'
  unfold ap_co ap_sg at h1'
  refine br_c (fun y => ?_) (fun y => ?_)
  · rw [if_pos ((ap_i_0le hd).mp y)] at h1'
    exact ax_pac60 hp hq hr h1'
  · rw [if_neg (fun w => y ((ap_i_0le hd).mpr w))] at h1'
    exact ax_pac60 hp hq hr h1'
theorem ax_exP14 {post : Int32 → Prop} {r i n : Nat} {x : Int} {P : ap_P} (hr : r < 11) (hi : i < 3) (hpt : ∀ i, i < 3 → pt i = ap_i (P.1 i))
    (h : wX_excess__placeTops_14 post (nI r) pB kB pm fa ki bo us go ai pt kt n (ap_i (x + ap_F fa r i * P.1 i)) (nI (i + 1))) :
    wX_excess__placeTops_14 post (nI r) pB kB pm fa ki bo us go ai pt kt (n + 1) (ap_i x) (nI i) := by
  refine br_f (ap_l3 i hi) ⟨?_, ap_in hi (by decide), nm_r ?_ (nm_r (nI_1 i) h)⟩
  · rw [ap_3i]; exact ap_in (by omega) (by decide)
  · rw [ap_3i, ap_cl (by omega), ap_cl (by omega), ap_Fi fa, hpt i hi, ap_i_mul, ap_i_add]
theorem ax_exP {post : Int32 → Prop} {r : Nat} {P : ap_P} (hr : r < 11) (hpt : ∀ i, i < 3 → pt i = ap_i (P.1 i))
    (h : post (ap_i (ap_ex (ap_F fa) (ap_B bo) r P))) : wpX_excess__placeTops post (pB, kB, pm, fa, ki, bo, us, go, ai, pt, kt) (nI r) (ap_i P.2) := by
  refine ⟨ap_in hr (by decide), nm_r (e' := ap_i (-(ap_B bo r) * P.2)) ?_ ⟨4, ?_⟩⟩
  · rw [ap_cl (by omega), ap_Bi bo, ap_i_neg, ap_i_mul]
  · refine ax_exP14 (i := 0) hr (by decide) hpt (ax_exP14 (i := 1) hr (by decide) hpt (ax_exP14 (i := 2) hr (by decide) hpt (br_t ap_g3 ?_)))
    have e : -(ap_B bo r) * P.2 + ap_F fa r 0 * P.1 0 + ap_F fa r 1 * P.1 1 + ap_F fa r 2 * P.1 2 = ap_ex (ap_F fa) (ap_B bo) r P := by
      unfold ap_ex; rw [Int.neg_mul]; omega
    rw [e]; exact h
theorem ax_exK14 {post : Int32 → Prop} {r i n : Nat} {x : Int} {P : ap_P} (hr : r < 11) (hi : i < 3) (hkt : ∀ i, i < 3 → kt i = ap_i (P.1 i))
    (h : wX_excess__keptTops_14 post (nI r) pB kB pm fa ki bo us go ai pt kt n (ap_i (x + ap_F fa r i * P.1 i)) (nI (i + 1))) :
    wX_excess__keptTops_14 post (nI r) pB kB pm fa ki bo us go ai pt kt (n + 1) (ap_i x) (nI i) := by
  refine br_f (ap_l3 i hi) ⟨?_, ap_in hi (by decide), nm_r ?_ (nm_r (nI_1 i) h)⟩
  · rw [ap_3i]; exact ap_in (by omega) (by decide)
  · rw [ap_3i, ap_cl (by omega), ap_cl (by omega), ap_Fi fa, hkt i hi, ap_i_mul, ap_i_add]
theorem ax_exK {post : Int32 → Prop} {r : Nat} {P : ap_P} (hr : r < 11) (hkt : ∀ i, i < 3 → kt i = ap_i (P.1 i))
    (h : post (ap_i (ap_ex (ap_F fa) (ap_B bo) r P))) : wpX_excess__keptTops post (pB, kB, pm, fa, ki, bo, us, go, ai, pt, kt) (nI r) (ap_i P.2) := by
  refine ⟨ap_in hr (by decide), nm_r (e' := ap_i (-(ap_B bo r) * P.2)) ?_ ⟨4, ?_⟩⟩
  · rw [ap_cl (by omega), ap_Bi bo, ap_i_neg, ap_i_mul]
  · refine ax_exK14 (i := 0) hr (by decide) hkt (ax_exK14 (i := 1) hr (by decide) hkt (ax_exK14 (i := 2) hr (by decide) hkt (br_t ap_g3 ?_)))
    have e : -(ap_B bo r) * P.2 + ap_F fa r 0 * P.1 0 + ap_F fa r 1 * P.1 1 + ap_F fa r 2 * P.1 2 = ap_ex (ap_F fa) (ap_B bo) r P := by
      unfold ap_ex; rw [Int.neg_mul]; omega
    rw [e]; exact h
theorem ax_pma69 {post J2 : Int32 → Prop} {r : Nat} {x3 z0 : Int32} (hJ : x3 = 0 → z0 = 0 → J2 (nI (r + 1))) (hp : ¬ (x3 = 0 ∧ z0 = 0) → post 0) :
    wX_placeMeetsAll_69 post J2 (nI r) x3 z0 pB kB pm fa ki bo us go ai pt kt :=
  br_c (fun a => br_c (fun b => nm_r (nI_1 r) (hJ a b)) (fun b => hp (fun c => b c.2))) (fun a => hp (fun c => a c.1))
theorem ax_pma50 {post J2 : Int32 → Prop} {r : Nat} {z0 : Int32} {e : Int} (hr : r < 11) (he : ap_b 2147483647 e)
    (hJ : z0 = 0 → ¬ (e < 0 ∧ ¬ ki r = 0) → J2 (nI (r + 1))) (hp : (¬ z0 = 0 ∨ (e < 0 ∧ ¬ ki r = 0)) → post 0) :
    wX_placeMeetsAll_50 post J2 (nI r) (ap_i e) z0 pB kB pm fa ki bo us go ai pt kt := by
  refine br_c (fun a => ax_pma69 (fun b _ => hJ b ?_) (fun b => hp (Or.inl (fun c => b ⟨c, rfl⟩)))) (fun a => ⟨ap_in hr (by decide), ?_⟩)
  · rw [ap_i_0le he] at a; omega
  · rw [ap_cl (by omega)]
    rw [ap_i_0le he] at a
    refine br_c (fun b => ax_pma69 (fun c _ => hJ c (fun d => d.2 b)) (fun c => hp (Or.inl (fun d => c ⟨d, rfl⟩)))) (fun b => ?_)
    exact ax_pma69 (fun c d => absurd d (by decide)) (fun c => hp (Or.inr ⟨by omega, b⟩))
theorem ax_pma2 {post : Int32 → Prop} {P : ap_P} (hF : ∀ r i, ap_b 7 (ap_F fa r i)) (hB : ∀ r, ap_b 99 (ap_B bo r)) (hP : ap_pb P)
    (hpt : ∀ i, i < 3 → pt i = ap_i (P.1 i)) (h1 : ap_ok (ap_F fa) (ap_B bo) ki us P → post 1) (h0 : ¬ ap_ok (ap_F fa) (ap_B bo) ki us P → post 0) :
    ∀ d r, r + d = 11 → (∀ j, j < r → ¬ us j = 0 → ap_rk (ap_F fa) (ap_B bo) ki P j) → wX_placeMeetsAll_2 post (ap_i P.2) kB pm fa ki bo us go ai pt kt (d + 1) (nI r) := by
  intro d
  induction d with
  | zero =>
    intro r hr hj
    have : r = 11 := by omega
    subst this
    exact br_t ap_g11 (h1 hj)
  | succ d ih =>
    intro r hr hj
    have hr' : r < 11 := by omega
    refine br_f (ap_l11 r hr') ⟨ap_in hr' (by decide), ?_⟩
    rw [ap_cl (by omega)]
    refine br_c (fun z => nm_r (nI_1 r) (ih (r + 1) (by omega) (fun j hj' hu => ?_))) (fun z => ax_exP hr' hpt ?_)
    · rcases Nat.lt_or_ge j r with a | a
      · exact hj j a hu
      · have : j = r := by omega
        subst this; exact absurd z hu
    · have he := ap_b_le (ap_ex_b hF hB hP r) (show 814968 ≤ 2147483647 by decide)
      have gg : ap_rk (ap_F fa) (ap_B bo) ki P r → wX_placeMeetsAll_2 post (ap_i P.2) kB pm fa ki bo us go ai pt kt (d + 1) (nI (r + 1)) := by
        intro hk
        refine ih (r + 1) (by omega) (fun j hj' hu => ?_)
        rcases Nat.lt_or_ge j r with a | a
        · exact hj j a hu
        · have : j = r := by omega
          subst this; exact hk
      have stop : ¬ ap_rk (ap_F fa) (ap_B bo) ki P r → post 0 := fun hk => h0 (fun ho => hk (ho r hr' z))
      unfold ap_rk at gg stop
      refine br_c (fun a => ?_) (fun a => ⟨ap_in hr' (by decide), br_c (fun b => ?_) (fun b => ?_)⟩)
      · rw [ap_i_le0 he] at a
        exact ax_pma50 hr' he (fun _ c => gg (fun w => w.elim (fun y => by omega) c)) (fun c => stop (fun w => w (Or.inr (c.resolve_left (fun x => x rfl)))))
      · rw [ap_i_le0 he] at a
        exact ax_pma50 hr' he (fun _ c => gg (fun w => w.elim (fun y => y.2 b) c)) (fun c => stop (fun w => w (Or.inr (c.resolve_left (fun x => x rfl)))))
      · rw [ap_i_le0 he] at a
        exact ax_pma50 hr' he (fun c => absurd c (by decide)) (fun c => stop (fun w => w (Or.inl ⟨by omega, b⟩)))
theorem ax_placeMeetsAll {post : Int32 → Prop} {P : ap_P} (hF : ∀ r i, ap_b 7 (ap_F fa r i)) (hB : ∀ r, ap_b 99 (ap_B bo r)) (hP : ap_pb P)
    (hpt : ∀ i, i < 3 → pt i = ap_i (P.1 i)) (h1 : ap_ok (ap_F fa) (ap_B bo) ki us P → post 1) (h0 : ¬ ap_ok (ap_F fa) (ap_B bo) ki us P → post 0) :
    wpX_placeMeetsAll post (ap_i P.2, kB, pm, fa, ki, bo, us, go, ai, pt, kt) :=
  ⟨12, ax_pma2 hF hB hP hpt h1 h0 11 0 rfl (fun j hj => absurd hj (Nat.not_lt_zero j))⟩
theorem ax_aiP4 {post : Int32 → Prop} {i n : Nat} {x : Int} {A : Nat → Int} {P : ap_P} (hi : i < 3) (hai : ∀ i, i < 3 → ai i = ap_i (A i)) (hpt : ∀ i, i < 3 → pt i = ap_i (P.1 i))
    (h : wX_aimedAt__placeTops_4 post pB kB pm fa ki bo us go ai pt kt n (ap_i (x + A i * P.1 i)) (nI (i + 1))) :
    wX_aimedAt__placeTops_4 post pB kB pm fa ki bo us go ai pt kt (n + 1) (ap_i x) (nI i) := by
  refine br_f (ap_l3 i hi) ⟨ap_in hi (by decide), ap_in hi (by decide), nm_r ?_ (nm_r (nI_1 i) h)⟩
  rw [ap_cl (by omega), hai i hi, hpt i hi, ap_i_mul, ap_i_add]
theorem ax_aiP {post : Int32 → Prop} {A : Nat → Int} {P : ap_P} (hai : ∀ i, i < 3 → ai i = ap_i (A i)) (hpt : ∀ i, i < 3 → pt i = ap_i (P.1 i))
    (h : post (ap_i (ap_w A P))) : wpX_aimedAt__placeTops post (pB, kB, pm, fa, ki, bo, us, go, ai, pt, kt) := by
  refine ⟨4, ax_aiP4 (x := 0) (i := 0) (by decide) hai hpt (ax_aiP4 (i := 1) (by decide) hai hpt (ax_aiP4 (i := 2) (by decide) hai hpt (br_t ap_g3 ?_)))⟩
  have e : 0 + A 0 * P.1 0 + A 1 * P.1 1 + A 2 * P.1 2 = ap_w A P := by unfold ap_w; omega
  rw [e]; exact h
theorem ax_aiK4 {post : Int32 → Prop} {i n : Nat} {x : Int} {A : Nat → Int} {P : ap_P} (hi : i < 3) (hai : ∀ i, i < 3 → ai i = ap_i (A i)) (hkt : ∀ i, i < 3 → kt i = ap_i (P.1 i))
    (h : wX_aimedAt__keptTops_4 post pB kB pm fa ki bo us go ai pt kt n (ap_i (x + A i * P.1 i)) (nI (i + 1))) :
    wX_aimedAt__keptTops_4 post pB kB pm fa ki bo us go ai pt kt (n + 1) (ap_i x) (nI i) := by
  refine br_f (ap_l3 i hi) ⟨ap_in hi (by decide), ap_in hi (by decide), nm_r ?_ (nm_r (nI_1 i) h)⟩
  rw [ap_cl (by omega), hai i hi, hkt i hi, ap_i_mul, ap_i_add]
theorem ax_aiK {post : Int32 → Prop} {A : Nat → Int} {P : ap_P} (hai : ∀ i, i < 3 → ai i = ap_i (A i)) (hkt : ∀ i, i < 3 → kt i = ap_i (P.1 i))
    (h : post (ap_i (ap_w A P))) : wpX_aimedAt__keptTops post (pB, kB, pm, fa, ki, bo, us, go, ai, pt, kt) := by
  refine ⟨4, ax_aiK4 (x := 0) (i := 0) (by decide) hai hkt (ax_aiK4 (i := 1) (by decide) hai hkt (ax_aiK4 (i := 2) (by decide) hai hkt (br_t ap_g3 ?_)))⟩
  have e : 0 + A 0 * P.1 0 + A 1 * P.1 1 + A 2 * P.1 2 = ap_w A P := by unfold ap_w; omega
  rw [e]; exact h
end
end
section
/-! the component's search -/
section
variable {pB kB pm : Int32} {fa ki bo us go ai pt kt : Nat → Int32}
theorem ax_cd {post : Int64 → Prop} {a c x y : Int} (ha : ap_b 2147483647 a) (hc : ap_b 2147483647 c) (hx : ap_b 2147483647 x) (hy : ap_b 2147483647 y)
    (h : post (ap_l (a * y - c * x))) : wpX_crossDifference post (ap_i x, ap_i y, pm, fa, ki, bo, us, go, ai, pt, kt) (ap_i a) (ap_i c) := by
  show post ((ap_i a).toInt64 * (ap_i y).toInt64 - (ap_i c).toInt64 * (ap_i x).toInt64)
  rw [ap_i_l ha, ap_i_l hc, ap_i_l hx, ap_i_l hy, ap_l_mul, ap_l_mul, ap_l_sub]
  exact h
theorem ax_pib46 {post : Int32 → Prop} {P Q : ap_P} {i n : Nat} (hi : i < 3) (hP : ap_pb P) (hQ : ap_pb Q)
    (hpt : ∀ i, i < 3 → pt i = ap_i (P.1 i)) (hkt : ∀ i, i < 3 → kt i = ap_i (Q.1 i))
    (h1 : 0 < ap_gi i P Q → post 1) (h0 : ap_gi i P Q < 0 → post 0)
    (h : ap_gi i P Q = 0 → wX_placeIsBetter_46 post (ap_i P.2) (ap_i Q.2) pm fa ki bo us go ai pt kt n (nI (i + 1))) :
    wX_placeIsBetter_46 post (ap_i P.2) (ap_i Q.2) pm fa ki bo us go ai pt kt (n + 1) (nI i) := by
  refine br_f (ap_l3 i hi) ⟨ap_in hi (by decide), ap_in hi (by decide), ?_⟩
  rw [ap_cl (by omega), hpt i hi, hkt i hi]
  have k1 : 29106 ≤ 2147483647 := by decide
  have k2 : 2058 ≤ 2147483647 := by decide
  refine ax_cd (ap_b_le (hP.1 i) k1) (ap_b_le (hQ.1 i) k1) (ap_b_le (ap_pb_2 hP) k2) (ap_b_le (ap_pb_2 hQ) k2) ?_
  have e : P.1 i * Q.2 - Q.1 i * P.2 = - ap_gi i P Q := by unfold ap_gi; omega
  rw [e]
  have hb := ap_b_neg (ap_b_le (ap_gi_b hP hQ i) (show 119800296 ≤ 9000000000000000000 by decide))
  refine br_c (fun z => nm_r (nI_1 i) (h ?_)) (fun z => br_c (fun y => h0 ?_) (fun y => h1 ?_))
  · rw [ap_l_eq0 hb] at z; omega
  · rw [ap_l_eq0 hb] at z; rw [ap_l_0le hb] at y; omega
  · rw [ap_l_eq0 hb] at z; rw [ap_l_0le hb] at y; omega
theorem ax_placeIsBetter {post : Int32 → Prop} {A : Nat → Int} {P Q : ap_P} (hA : ∀ i, ap_b 7 (A i)) (hP : ap_pb P) (hQ : ap_pb Q)
    (hai : ∀ i, i < 3 → ai i = ap_i (A i)) (hpt : ∀ i, i < 3 → pt i = ap_i (P.1 i)) (hkt : ∀ i, i < 3 → kt i = ap_i (Q.1 i))
    (h1 : ap_bt A P Q → post 1) (h0 : ¬ ap_bt A P Q → post 0) : wpX_placeIsBetter post (ap_i P.2, ap_i Q.2, pm, fa, ki, bo, us, go, ai, pt, kt) := by
  unfold ap_bt at h1 h0
  refine ax_aiP hai hpt (ax_aiK hai hkt ?_)
  have k1 : 611226 ≤ 2147483647 := by decide
  have k2 : 2058 ≤ 2147483647 := by decide
  refine ax_cd (ap_b_le (ap_w_b hA hP) k1) (ap_b_le (ap_w_b hA hQ) k1) (ap_b_le (ap_pb_2 hP) k2) (ap_b_le (ap_pb_2 hQ) k2) ?_
  have hb := ap_b_le (ap_g0_b hA hP hQ) (show 2515806216 ≤ 9000000000000000000 by decide)
  have e : ap_w A P * Q.2 - ap_w A Q * P.2 = ap_g0 A P Q := rfl
  rw [e]
  refine br_c (fun z => ?_) (fun z => br_c (fun y => h0 ?_) (fun y => h1 ?_))
  · rw [ap_l_eq0 hb] at z
    refine ⟨4, ax_pib46 (i := 0) (by decide) hP hQ hpt hkt (fun a => h1 (by omega)) (fun a => h0 (by omega)) (fun a0 => ?_)⟩
    refine ax_pib46 (i := 1) (by decide) hP hQ hpt hkt (fun a => h1 (by omega)) (fun a => h0 (by omega)) (fun a1 => ?_)
    refine ax_pib46 (i := 2) (by decide) hP hQ hpt hkt (fun a => h1 (by omega)) (fun a => h0 (by omega)) (fun a2 => ?_)
    exact br_t ap_g3 (h0 (by omega))
  · rw [ap_l_eq0 hb] at z; rw [ap_l_le0 hb] at y; omega
  · rw [ap_l_eq0 hb] at z; rw [ap_l_le0 hb] at y; omega
theorem ax_kp2 {post : SX → Prop} {i n : Nat} (hi : i < 3) (h : wX_keepPlace_2 post pB kB pm n (nI (i + 1)) fa ki bo us go ai pt (upd kt i (pt i))) :
    wX_keepPlace_2 post pB kB pm (n + 1) (nI i) fa ki bo us go ai pt kt := by
  refine br_f (ap_l3 i hi) ⟨ap_in hi (by decide), ap_in hi (by decide), nm_r ?_ (nm_r (nI_1 i) h)⟩
  rw [ap_cl (by omega)]
theorem ax_keepPlace {post : SX → Prop} (h : ∀ kt' : Nat → Int32, (∀ i, i < 3 → kt' i = pt i) → post (pB, pB, pm, fa, ki, bo, us, go, ai, pt, kt')) : wpX_keepPlace post (pB, kB, pm, fa, ki, bo, us, go, ai, pt, kt) := by
  refine ⟨4, ax_kp2 (i := 0) (by decide) (ax_kp2 (i := 1) (by decide) (ax_kp2 (i := 2) (by decide) (br_t ap_g3 (h _ ?_))))⟩
  exact ap_lt3 (by rw [pk_un (by decide), pk_un (by decide), pk_us]) (by rw [pk_un (by decide), pk_us]) (by rw [pk_us])
theorem ax_consider {post : SX → Prop} {A : Nat → Int} {P Q : ap_P} {m : Nat} (hF : ∀ r i, ap_b 7 (ap_F fa r i)) (hB : ∀ r, ap_b 99 (ap_B bo r)) (hA : ∀ i, ap_b 7 (A i)) (hP : ap_pb P)
    (hai : ∀ i, i < 3 → ai i = ap_i (A i)) (hpt : ∀ i, i < 3 → pt i = ap_i (P.1 i)) (hm : m < 1000000)
    (hQ : m ≠ 0 → ap_pb Q ∧ (∀ i, i < 3 → kt i = ap_i (Q.1 i)) ∧ kB = ap_i Q.2)
    (h0 : ¬ ap_ok (ap_F fa) (ap_B bo) ki us P → post (ap_i P.2, kB, nI m, fa, ki, bo, us, go, ai, pt, kt))
    (h1 : ap_ok (ap_F fa) (ap_B bo) ki us P → (m = 0 ∨ ap_bt A P Q) → ∀ kt' : Nat → Int32, (∀ i, i < 3 → kt' i = ap_i (P.1 i)) → post (ap_i P.2, ap_i P.2, nI (m + 1), fa, ki, bo, us, go, ai, pt, kt'))
    (h2 : ap_ok (ap_F fa) (ap_B bo) ki us P → m ≠ 0 → ¬ ap_bt A P Q → post (ap_i P.2, kB, nI (m + 1), fa, ki, bo, us, go, ai, pt, kt)) :
    wpX_consider post (ap_i P.2, kB, nI m, fa, ki, bo, us, go, ai, pt, kt) := by
  have kk : ap_ok (ap_F fa) (ap_B bo) ki us P → (m = 0 ∨ ap_bt A P Q) → wX_consider_22 post (ap_i P.2) kB (nI m) fa ki bo us go ai pt kt := by
    intro ho hb
    refine ax_keepPlace (fun kt' hk => nm_r (nI_1 m) (h1 ho hb kt' (fun i hi => ?_)))
    rw [hk i hi, hpt i hi]
  refine ax_placeMeetsAll hF hB hP hpt (fun ho => br_f (by decide) ?_) (fun ho => br_t rfl (h0 ho))
  refine br_c (fun z => kk ho (Or.inl ?_)) (fun z => ?_)
  · rw [ap_i_n, ap_i_eq0 (ap_b_n (by omega))] at z; omega
  · have z' : m ≠ 0 := by intro y; subst y; exact z rfl
    obtain ⟨q1, q2, q3⟩ := hQ z'
    subst q3
    exact ax_placeIsBetter hA hP q1 hai hpt q2 (fun b => br_f (by decide) (kk ho (Or.inr b))) (fun b => br_t rfl (nm_r (nI_1 m) (h2 ho z' b)))
/-! all corners -/
def ap_S (F : Nat → Nat → Int) (B : Nat → Int) (K U : Nat → Int32) (p q r : Nat) (P : ap_P) : Prop :=
  ∃ p' q' r', p' < q' ∧ q' < r' ∧ r' < 11 ∧ (p' < p ∨ (p' = p ∧ (q' < q ∨ (q' = q ∧ r' < r)))) ∧ ap_gc F B K U p' q' r' ∧ P = ap_co F B p' q' r'
def ap_C (F : Nat → Nat → Int) (B : Nat → Int) (K U : Nat → Int32) (P : ap_P) : Prop :=
  ∃ p q r, p < q ∧ q < r ∧ r < 11 ∧ ap_gc F B K U p q r ∧ P = ap_co F B p q r
def ax_SI (A : Nat → Int) (fa ki bo us : Nat → Int32) (S : ap_P → Prop) (N : Nat) (kB pm : Int32) (kt : Nat → Int32) : Prop :=
  ∃ (m : Nat) (Q : ap_P), pm = nI m ∧ m ≤ N ∧ ap_inv (ap_bt A) S m Q ∧ (m ≠ 0 → ap_pb Q ∧ (∀ i, i < 3 → kt i = ap_i (Q.1 i)) ∧ kB = ap_i Q.2)
theorem ax_SI_cg {A : Nat → Int} {S S' : ap_P → Prop} {N N' : Nat} (h : ∀ c, S' c ↔ S c) (hN : N ≤ N') (i : ax_SI A fa ki bo us S N kB pm kt) : ax_SI A fa ki bo us S' N' kB pm kt := by
  obtain ⟨m, Q, h1, h2, h3, h4⟩ := i
  exact ⟨m, Q, h1, by omega, ap_inv_cg h h3, h4⟩
theorem ax_step {post : SX → Prop} {A : Nat → Int} {P : ap_P} {S S' : ap_P → Prop} {N : Nat} (hF : ∀ r i, ap_b 7 (ap_F fa r i)) (hB : ∀ r, ap_b 99 (ap_B bo r)) (hA : ∀ i, ap_b 7 (A i)) (hP : ap_pb P)
    (hai : ∀ i, i < 3 → ai i = ap_i (A i)) (hpt : ∀ i, i < 3 → pt i = ap_i (P.1 i)) (hN : N < 900000) (hS : ∀ c, S c → 0 < c.2)
    (i : ax_SI A fa ki bo us S N kB pm kt)
    (hS' : ∀ c, S' c ↔ S c ∨ (ap_ok (ap_F fa) (ap_B bo) ki us P ∧ c = P))
    (h : ∀ kB' pm' kt', ax_SI A fa ki bo us S' (N + 1) kB' pm' kt' → post (ap_i P.2, kB', pm', fa, ki, bo, us, go, ai, pt, kt')) :
    wpX_consider post (ap_i P.2, kB, pm, fa, ki, bo, us, go, ai, pt, kt) := by
  obtain ⟨m, Q, rfl, h2, h3, h4⟩ := i
  refine ax_consider (Q := Q) hF hB hA hP hai hpt (by omega) h4 (fun ho => h _ _ _ ?_) (fun ho hb kt' hk => h _ _ _ ?_) (fun ho z hb => h _ _ _ ?_)
  · exact ⟨m, Q, rfl, by omega, ap_inv_cg (fun c => (hS' c).trans ⟨fun x => x.resolve_right (fun y => ho y.1), Or.inl⟩) h3, h4⟩
  · refine ⟨m + 1, P, rfl, by omega, ap_inv_new h3 (fun c => (hS' c).trans ⟨fun x => x.imp id And.right, fun x => x.imp id (fun y => ⟨ho, y⟩)⟩) (by omega) (ap_bt_ir A P) ?_ hb, fun _ => ⟨hP, hk, rfl⟩⟩
    exact fun c hc hk x y => ap_bt_tr (hS c hc) hP.2.1 (hS Q hk) x y
  · refine ⟨m + 1, Q, rfl, by omega, ap_inv_keep h3 (fun c => (hS' c).trans ⟨fun x => x.imp id And.right, fun x => x.imp id (fun y => ⟨ho, y⟩)⟩) z (by omega) hb, fun _ => h4 z⟩
theorem ap_S_pos {F : Nat → Nat → Int} {B : Nat → Int} {K U : Nat → Int32} {p q r : Nat} {P : ap_P} (hF : ∀ r i, ap_b 7 (F r i)) (hB : ∀ r, ap_b 99 (B r)) (h : ap_S F B K U p q r P) : ap_pb P := by
  obtain ⟨p', q', r', _, _, _, _, h5, rfl⟩ := h
  exact ap_co_pb hF hB h5.2.2.2.1
theorem ap_S_no {F : Nat → Nat → Int} {B : Nat → Int} {K U : Nat → Int32} {p q r : Nat} (hg : ¬ ap_gc F B K U p q r) (c : ap_P) : ap_S F B K U p q (r + 1) c ↔ ap_S F B K U p q r c := by
  constructor
  · rintro ⟨p', q', r', h1, h2, h3, h4, h5, h6⟩
    refine ⟨p', q', r', h1, h2, h3, ?_, h5, h6⟩
    rcases Decidable.em (p' = p ∧ q' = q ∧ r' = r) with ⟨rfl, rfl, rfl⟩ | hn
    · exact absurd h5 hg
    · omega
  · rintro ⟨p', q', r', h1, h2, h3, h4, h5, h6⟩
    exact ⟨p', q', r', h1, h2, h3, by omega, h5, h6⟩
theorem ap_S_yes {F : Nat → Nat → Int} {B : Nat → Int} {K U : Nat → Int32} {p q r : Nat} (hpq : p < q) (hqr : q < r) (hr : r < 11) (hp : ¬ U p = 0) (hq : ¬ U q = 0) (hr' : ¬ U r = 0) (hd : ap_dt F p q r ≠ 0) (c : ap_P) :
    ap_S F B K U p q (r + 1) c ↔ ap_S F B K U p q r c ∨ (ap_ok F B K U (ap_co F B p q r) ∧ c = ap_co F B p q r) := by
  constructor
  · rintro ⟨p', q', r', h1, h2, h3, h4, h5, h6⟩
    rcases Decidable.em (p' = p ∧ q' = q ∧ r' = r) with ⟨rfl, rfl, rfl⟩ | hn
    · exact Or.inr ⟨h5.2.2.2.2, h6⟩
    · exact Or.inl ⟨p', q', r', h1, h2, h3, by omega, h5, h6⟩
  · rintro (⟨p', q', r', h1, h2, h3, h4, h5, h6⟩ | ⟨ho, rfl⟩)
    · exact ⟨p', q', r', h1, h2, h3, by omega, h5, h6⟩
    · exact ⟨p, q, r, hpq, hqr, hr, by omega, ⟨hp, hq, hr', hd, ho⟩, rfl⟩
theorem ax_sc27 {post : Int32 → SX → Prop} {J7 J17 : Int32 → Int32 → Int32 → Int32 → (Nat → Int32) → (Nat → Int32) → (Nat → Int32) → (Nat → Int32) → (Nat → Int32) → (Nat → Int32) → (Nat → Int32) → (Nat → Int32) → Prop} {A : Nat → Int} {p q : Nat}
    (hF : ∀ r i, ap_b 7 (ap_F fa r i)) (hB : ∀ r, ap_b 99 (ap_B bo r)) (hA : ∀ i, ap_b 7 (A i)) (hai : ∀ i, i < 3 → ai i = ap_i (A i)) (hpq : p < q) (hq : q < 11)
    (hJ : ∀ (pB kB pm : Int32) (pt kt : Nat → Int32), ax_SI A fa ki bo us (ap_S (ap_F fa) (ap_B bo) ki us p q 11) (121 * p + 11 * q + 11) kB pm kt → J17 (nI (q + 1)) pB kB pm fa ki bo us go ai pt kt) :
    ∀ (d r : Nat) (pB kB pm : Int32) (pt kt : Nat → Int32), r + d = 11 → q < r → ax_SI A fa ki bo us (ap_S (ap_F fa) (ap_B bo) ki us p q r) (121 * p + 11 * q + r) kB pm kt → wX_searchCorners_27 post J7 J17 (nI p) (nI q) (d + 1) (nI r) pB kB pm fa ki bo us go ai pt kt := by
  intro d
  induction d with
  | zero =>
    intro r pB kB pm pt kt hr hqr hi
    have : r = 11 := by omega
    subst this
    exact br_t ap_g11 (nm_r (nI_1 q) (hJ _ _ _ _ _ hi))
  | succ d ih =>
    intro r pB kB pm pt kt hr hqr hi
    have hr' : r < 11 := by omega
    have skip : ∀ (pB : Int32) (pt : Nat → Int32), ¬ ap_gc (ap_F fa) (ap_B bo) ki us p q r → wX_searchCorners_27 post J7 J17 (nI p) (nI q) (d + 1) (nI (r + 1)) pB kB pm fa ki bo us go ai pt kt :=
      fun pB pt hg => ih (r + 1) _ _ _ _ _ (by omega) (by omega) (ax_SI_cg (ap_S_no hg) (by omega) hi)
    refine br_f (ap_l11 r hr') ⟨ap_in (by omega) (by decide), ?_⟩
    rw [ap_cl (by omega)]
    refine br_c (fun z => nm_r (nI_1 r) (skip _ _ (fun g => g.1 z))) (fun z1 => ⟨ap_in (by omega) (by decide), ?_⟩)
    rw [ap_cl (by omega)]
    refine br_c (fun z => nm_r (nI_1 r) (skip _ _ (fun g => g.2.1 z))) (fun z2 => ⟨ap_in (by omega) (by decide), ?_⟩)
    rw [ap_cl (by omega)]
    refine br_c (fun z => nm_r (nI_1 r) (skip _ _ (fun g => g.2.2.1 z))) (fun z3 => ?_)
    refine ax_placeAtCorner hF (by omega) hq hr' (fun z => br_t rfl (nm_r (nI_1 r) (skip _ _ (fun g => g.2.2.2.1 z)))) (fun z pt' hpt => br_f (by decide) ?_)
    refine ax_step hF hB hA (ap_co_pb hF hB z) hai hpt (by omega) (fun c hc => (ap_S_pos hF hB hc).2.1) hi (ap_S_yes hpq hqr hr' z1 z2 z3 z) (fun kB' pm' kt' hi' => nm_r (nI_1 r) ?_)
    exact ih (r + 1) _ _ _ _ _ (by omega) (by omega) hi'
theorem ap_S_a {F : Nat → Nat → Int} {B : Nat → Int} {K U : Nat → Int32} {p q : Nat} (c : ap_P) : ap_S F B K U p q (q + 1) c ↔ ap_S F B K U p q 0 c := by
  constructor <;> rintro ⟨p', q', r', h1, h2, h3, h4, h5, h6⟩ <;> exact ⟨p', q', r', h1, h2, h3, by omega, h5, h6⟩
theorem ap_S_b {F : Nat → Nat → Int} {B : Nat → Int} {K U : Nat → Int32} {p q : Nat} (c : ap_P) : ap_S F B K U p (q + 1) 0 c ↔ ap_S F B K U p q 11 c := by
  constructor <;> rintro ⟨p', q', r', h1, h2, h3, h4, h5, h6⟩ <;> exact ⟨p', q', r', h1, h2, h3, by omega, h5, h6⟩
theorem ap_S_c {F : Nat → Nat → Int} {B : Nat → Int} {K U : Nat → Int32} {p : Nat} (c : ap_P) : ap_S F B K U (p + 1) 0 0 c ↔ ap_S F B K U p 11 0 c := by
  constructor <;> rintro ⟨p', q', r', h1, h2, h3, h4, h5, h6⟩ <;> exact ⟨p', q', r', h1, h2, h3, by omega, h5, h6⟩
theorem ap_S_d {F : Nat → Nat → Int} {B : Nat → Int} {K U : Nat → Int32} {p : Nat} (c : ap_P) : ap_S F B K U p (p + 1) 0 c ↔ ap_S F B K U p 0 0 c := by
  constructor <;> rintro ⟨p', q', r', h1, h2, h3, h4, h5, h6⟩ <;> exact ⟨p', q', r', h1, h2, h3, by omega, h5, h6⟩
theorem ap_S_e {F : Nat → Nat → Int} {B : Nat → Int} {K U : Nat → Int32} (c : ap_P) : ap_S F B K U 11 0 0 c ↔ ap_C F B K U c := by
  constructor
  · rintro ⟨p', q', r', h1, h2, h3, h4, h5, h6⟩; exact ⟨p', q', r', h1, h2, h3, h5, h6⟩
  · rintro ⟨p', q', r', h1, h2, h3, h5, h6⟩; exact ⟨p', q', r', h1, h2, h3, by omega, h5, h6⟩
theorem ax_sc17 {post : Int32 → SX → Prop} {J7 : Int32 → Int32 → Int32 → Int32 → (Nat → Int32) → (Nat → Int32) → (Nat → Int32) → (Nat → Int32) → (Nat → Int32) → (Nat → Int32) → (Nat → Int32) → (Nat → Int32) → Prop} {A : Nat → Int} {p : Nat}
    (hF : ∀ r i, ap_b 7 (ap_F fa r i)) (hB : ∀ r, ap_b 99 (ap_B bo r)) (hA : ∀ i, ap_b 7 (A i)) (hai : ∀ i, i < 3 → ai i = ap_i (A i)) (hp : p < 11)
    (hJ : ∀ (pB kB pm : Int32) (pt kt : Nat → Int32), ax_SI A fa ki bo us (ap_S (ap_F fa) (ap_B bo) ki us p 11 0) (121 * p + 11 * 11) kB pm kt → J7 (nI (p + 1)) pB kB pm fa ki bo us go ai pt kt) :
    ∀ (d q : Nat) (pB kB pm : Int32) (pt kt : Nat → Int32), q + d = 11 → p < q → ax_SI A fa ki bo us (ap_S (ap_F fa) (ap_B bo) ki us p q 0) (121 * p + 11 * q) kB pm kt → wX_searchCorners_17 post J7 (nI p) (d + 1) (nI q) pB kB pm fa ki bo us go ai pt kt := by
  intro d
  induction d with
  | zero =>
    intro q pB kB pm pt kt hq hpq hi
    have : q = 11 := by omega
    subst this
    exact br_t ap_g11 (nm_r (nI_1 p) (hJ _ _ _ _ _ hi))
  | succ d ih =>
    intro q pB kB pm pt kt hq hpq hi
    have hq' : q < 11 := by omega
    refine br_f (ap_l11 q hq') (nm_r (nI_1 q) ⟨11 - (q + 1) + 1, ?_⟩)
    refine ax_sc27 hF hB hA hai hpq hq' (fun pB kB pm pt kt hi' => ?_) (11 - (q + 1)) (q + 1) _ _ _ _ _ (by omega) (by omega) (ax_SI_cg ap_S_a (by omega) hi)
    exact ih (q + 1) _ _ _ _ _ (by omega) (by omega) (ax_SI_cg ap_S_b (by omega) hi')
theorem ax_sc7 {post : Int32 → SX → Prop} {A : Nat → Int}
    (hF : ∀ r i, ap_b 7 (ap_F fa r i)) (hB : ∀ r, ap_b 99 (ap_B bo r)) (hA : ∀ i, ap_b 7 (A i)) (hai : ∀ i, i < 3 → ai i = ap_i (A i))
    (h0 : ∀ (pB kB pm : Int32) (pt kt : Nat → Int32), (∀ c, ¬ ap_C (ap_F fa) (ap_B bo) ki us c) → post 0 (pB, kB, pm, fa, ki, bo, us, go, ai, pt, kt))
    (h1 : ∀ (pB pm : Int32) (pt kt : Nat → Int32) (Q : ap_P), ap_C (ap_F fa) (ap_B bo) ki us Q → (∀ c, ap_C (ap_F fa) (ap_B bo) ki us c → ¬ ap_bt A c Q) → ap_pb Q → (∀ i, i < 3 → kt i = ap_i (Q.1 i)) → post 1 (pB, ap_i Q.2, pm, fa, ki, bo, us, go, ai, pt, kt)) :
    ∀ (d p : Nat) (pB kB pm : Int32) (pt kt : Nat → Int32), p + d = 11 → ax_SI A fa ki bo us (ap_S (ap_F fa) (ap_B bo) ki us p 0 0) (121 * p) kB pm kt → wX_searchCorners_7 post (d + 1) (nI p) pB kB pm fa ki bo us go ai pt kt := by
  intro d
  induction d with
  | zero =>
    intro p pB kB pm pt kt hp hi
    have : p = 11 := by omega
    subst this
    refine br_t ap_g11 ?_
    obtain ⟨m, Q, rfl, h2, h3, h4⟩ := ax_SI_cg (fun c => (ap_S_e c).symm) (Nat.le_refl _) hi
    rw [ap_i_n, ap_i_le0 (ap_b_n (by omega))]
    refine br_c (fun z => h0 _ _ _ _ _ (h3.1 (by omega))) (fun z => ?_)
    obtain ⟨q1, q2, q3⟩ := h4 (by omega)
    obtain ⟨s1, s2⟩ := h3.2 (by omega)
    subst q3
    exact h1 _ _ _ _ Q s1 s2 q1 q2
  | succ d ih =>
    intro p pB kB pm pt kt hp hi
    have hp' : p < 11 := by omega
    refine br_f (ap_l11 p hp') (nm_r (nI_1 p) ⟨11 - (p + 1) + 1, ?_⟩)
    refine ax_sc17 hF hB hA hai hp' (fun pB kB pm pt kt hi' => ?_) (11 - (p + 1)) (p + 1) _ _ _ _ _ (by omega) (by omega) (ax_SI_cg ap_S_d (by omega) hi)
    exact ih (p + 1) _ _ _ _ _ (by omega) (ax_SI_cg ap_S_c (by omega) hi')
theorem ax_searchCorners {post : Int32 → SX → Prop} {A : Nat → Int}
    (hF : ∀ r i, ap_b 7 (ap_F fa r i)) (hB : ∀ r, ap_b 99 (ap_B bo r)) (hA : ∀ i, ap_b 7 (A i)) (hai : ∀ i, i < 3 → ai i = ap_i (A i))
    (h0 : ∀ (pB kB pm : Int32) (pt kt : Nat → Int32), (∀ c, ¬ ap_C (ap_F fa) (ap_B bo) ki us c) → post 0 (pB, kB, pm, fa, ki, bo, us, go, ai, pt, kt))
    (h1 : ∀ (pB pm : Int32) (pt kt : Nat → Int32) (Q : ap_P), ap_C (ap_F fa) (ap_B bo) ki us Q → (∀ c, ap_C (ap_F fa) (ap_B bo) ki us c → ¬ ap_bt A c Q) → ap_pb Q → (∀ i, i < 3 → kt i = ap_i (Q.1 i)) → post 1 (pB, ap_i Q.2, pm, fa, ki, bo, us, go, ai, pt, kt)) :
    wpX_searchCorners post (pB, kB, pm, fa, ki, bo, us, go, ai, pt, kt) := by
  refine ⟨12, ax_sc7 hF hB hA hai h0 h1 11 0 _ _ _ _ _ rfl ⟨0, (fun _ => 0, 0), rfl, Nat.zero_le _, ⟨fun _ c hc => ?_, fun z => absurd rfl z⟩, fun z => absurd rfl z⟩⟩
  obtain ⟨p', q', r', h1, h2, h3, h4, h5, h6⟩ := hc
  omega
end
end
section
/-! the component: aims, whole places, divisor -/
noncomputable def ap_id (p : Prop) : Nat := @ite Nat p (Classical.propDecidable p) 1 0
theorem ap_id_t {p : Prop} (h : p) : ap_id p = 1 := if_pos h
theorem ap_id_f {p : Prop} (h : ¬ p) : ap_id p = 0 := if_neg h
theorem ap_id_le (p : Prop) : ap_id p ≤ 1 := by
  by_cases h : p
  · rw [ap_id_t h]; exact Nat.le_refl 1
  · rw [ap_id_f h]; exact Nat.zero_le 1
def ap_wp (a b c : Nat) : ap_P := (fun i => if i = 0 then (a : Int) else if i = 1 then (b : Int) else (c : Int), 1)
theorem ap_wp_pb {a b c : Nat} (ha : a < 21) (hb : b < 21) (hc : c < 21) : ap_pb (ap_wp a b c) := by
  refine ⟨fun i => ?_, (show (0 : Int) < 1 by decide), (show (1 : Int) ≤ 2058 by decide)⟩
  show ap_b 29106 (if i = 0 then (a : Int) else if i = 1 then (b : Int) else (c : Int))
  unfold ap_b
  split
  · omega
  · split <;> omega
def ap_SW (F : Nat → Nat → Int) (B : Nat → Int) (K U : Nat → Int32) (a b c : Nat) (P : ap_P) : Prop :=
  ∃ a' b' c', a' < 21 ∧ b' < 21 ∧ c' < 21 ∧ (a' < a ∨ (a' = a ∧ (b' < b ∨ (b' = b ∧ c' < c)))) ∧ ap_ok F B K U (ap_wp a' b' c') ∧ P = ap_wp a' b' c'
def ap_W (F : Nat → Nat → Int) (B : Nat → Int) (K U : Nat → Int32) (P : ap_P) : Prop :=
  ∃ a b c, a < 21 ∧ b < 21 ∧ c < 21 ∧ ap_ok F B K U (ap_wp a b c) ∧ P = ap_wp a b c
noncomputable def ap_n3 (F : Nat → Nat → Int) (B : Nat → Int) (K U : Nat → Int32) (a b c : Nat) : Nat := ap_id (ap_ok F B K U (ap_wp a b c))
noncomputable def ap_n2 (F : Nat → Nat → Int) (B : Nat → Int) (K U : Nat → Int32) (a b : Nat) : Nat := ap_sm (ap_n3 F B K U a b) 21
noncomputable def ap_n1 (F : Nat → Nat → Int) (B : Nat → Int) (K U : Nat → Int32) (a : Nat) : Nat := ap_sm (ap_n2 F B K U a) 21
theorem ap_n2_le (F : Nat → Nat → Int) (B : Nat → Int) (K U : Nat → Int32) (a b : Nat) : ap_n2 F B K U a b ≤ 21 :=
  Nat.le_trans (ap_sm_le (c := 1) (fun _ => ap_id_le _)) (by decide)
theorem ap_n1_le (F : Nat → Nat → Int) (B : Nat → Int) (K U : Nat → Int32) (a : Nat) : ap_n1 F B K U a ≤ 441 :=
  Nat.le_trans (ap_sm_le (c := 21) (fun _ => ap_n2_le F B K U a _)) (by decide)
theorem ap_SW_pos {F : Nat → Nat → Int} {B : Nat → Int} {K U : Nat → Int32} {a b c : Nat} {P : ap_P} (h : ap_SW F B K U a b c P) : 0 < P.2 := by
  obtain ⟨a', b', c', h1, h2, h3, _, _, rfl⟩ := h
  exact (ap_wp_pb h1 h2 h3).2.1
theorem ap_SW_yes {F : Nat → Nat → Int} {B : Nat → Int} {K U : Nat → Int32} {a b c : Nat} (ha : a < 21) (hb : b < 21) (hc : c < 21) (P : ap_P) :
    ap_SW F B K U a b (c + 1) P ↔ ap_SW F B K U a b c P ∨ (ap_ok F B K U (ap_wp a b c) ∧ P = ap_wp a b c) := by
  constructor
  · rintro ⟨p', q', r', h1, h2, h3, h4, h5, h6⟩
    rcases Decidable.em (p' = a ∧ q' = b ∧ r' = c) with ⟨rfl, rfl, rfl⟩ | hn
    · exact Or.inr ⟨h5, h6⟩
    · exact Or.inl ⟨p', q', r', h1, h2, h3, by omega, h5, h6⟩
  · rintro (⟨p', q', r', h1, h2, h3, h4, h5, h6⟩ | ⟨ho, rfl⟩)
    · exact ⟨p', q', r', h1, h2, h3, by omega, h5, h6⟩
    · exact ⟨a, b, c, ha, hb, hc, by omega, ho, rfl⟩
theorem ap_SW_b {F : Nat → Nat → Int} {B : Nat → Int} {K U : Nat → Int32} {p q : Nat} (c : ap_P) : ap_SW F B K U p (q + 1) 0 c ↔ ap_SW F B K U p q 21 c := by
  constructor <;> rintro ⟨p', q', r', h1, h2, h3, h4, h5, h6⟩ <;> exact ⟨p', q', r', h1, h2, h3, by omega, h5, h6⟩
theorem ap_SW_c {F : Nat → Nat → Int} {B : Nat → Int} {K U : Nat → Int32} {p : Nat} (c : ap_P) : ap_SW F B K U (p + 1) 0 0 c ↔ ap_SW F B K U p 21 0 c := by
  constructor <;> rintro ⟨p', q', r', h1, h2, h3, h4, h5, h6⟩ <;> exact ⟨p', q', r', h1, h2, h3, by omega, h5, h6⟩
theorem ap_SW_e {F : Nat → Nat → Int} {B : Nat → Int} {K U : Nat → Int32} (c : ap_P) : ap_SW F B K U 21 0 0 c ↔ ap_W F B K U c := by
  constructor
  · rintro ⟨p', q', r', h1, h2, h3, h4, h5, h6⟩; exact ⟨p', q', r', h1, h2, h3, h5, h6⟩
  · rintro ⟨p', q', r', h1, h2, h3, h5, h6⟩; exact ⟨p', q', r', h1, h2, h3, by omega, h5, h6⟩
theorem ax_l20 (i : Nat) (h : i < 21) : ¬ (20 : Int32) < nI i := nI_nlt (b := i) (a := 20) (by omega) (by decide)
theorem ax_g20 : (20 : Int32) < nI 21 := by decide
def ax_WI (A : Nat → Int) (S : ap_P → Prop) (m : Nat) (kB pm : Int32) (kt : Nat → Int32) : Prop :=
  ∃ (Q : ap_P), pm = nI m ∧ ap_inv (ap_bt A) S m Q ∧ (m ≠ 0 → ap_pb Q ∧ (∀ i, i < 3 → kt i = ap_i (Q.1 i)) ∧ kB = ap_i Q.2)
section
variable {pB kB pm : Int32} {fa ki bo us go ai pt kt : Nat → Int32}
theorem ax_WI_cg {A : Nat → Int} {S S' : ap_P → Prop} {N N' : Nat} (h : ∀ c, S' c ↔ S c) (hN : N' = N) (i : ax_WI A S N kB pm kt) : ax_WI A S' N' kB pm kt := by
  subst hN
  obtain ⟨Q, h1, h3, h4⟩ := i
  exact ⟨Q, h1, ap_inv_cg h h3, h4⟩
theorem ax_wstep {post : SX → Prop} {A : Nat → Int} {P : ap_P} {S S' : ap_P → Prop} {N : Nat} (hF : ∀ r i, ap_b 7 (ap_F fa r i)) (hB : ∀ r, ap_b 99 (ap_B bo r)) (hA : ∀ i, ap_b 7 (A i)) (hP : ap_pb P)
    (hai : ∀ i, i < 3 → ai i = ap_i (A i)) (hpt : ∀ i, i < 3 → pt i = ap_i (P.1 i)) (hN : N < 900000) (hS : ∀ c, S c → 0 < c.2)
    (i : ax_WI A S N kB pm kt)
    (hS' : ∀ c, S' c ↔ S c ∨ (ap_ok (ap_F fa) (ap_B bo) ki us P ∧ c = P))
    (h : ∀ kB' pm' kt', ax_WI A S' (N + ap_id (ap_ok (ap_F fa) (ap_B bo) ki us P)) kB' pm' kt' → post (ap_i P.2, kB', pm', fa, ki, bo, us, go, ai, pt, kt')) :
    wpX_consider post (ap_i P.2, kB, pm, fa, ki, bo, us, go, ai, pt, kt) := by
  obtain ⟨Q, rfl, h3, h4⟩ := i
  refine ax_consider (Q := Q) hF hB hA hP hai hpt (by omega) h4 (fun ho => h _ _ _ ?_) (fun ho hb kt' hk => h _ _ _ ?_) (fun ho z hb => h _ _ _ ?_)
  · rw [ap_id_f ho]
    exact ⟨Q, rfl, ap_inv_cg (fun c => (hS' c).trans ⟨fun x => x.resolve_right (fun y => ho y.1), Or.inl⟩) h3, h4⟩
  · rw [ap_id_t ho]
    refine ⟨P, rfl, ap_inv_new h3 (fun c => (hS' c).trans ⟨fun x => x.imp id And.right, fun x => x.imp id (fun y => ⟨ho, y⟩)⟩) (by omega) (ap_bt_ir A P) ?_ hb, fun _ => ⟨hP, hk, rfl⟩⟩
    exact fun c hc hk x y => ap_bt_tr (hS c hc) hP.2.1 (hS Q hk) x y
  · rw [ap_id_t ho]
    refine ⟨Q, rfl, ap_inv_keep h3 (fun c => (hS' c).trans ⟨fun x => x.imp id And.right, fun x => x.imp id (fun y => ⟨ho, y⟩)⟩) z (by omega) hb, fun _ => h4 z⟩
theorem ax_sw28 {post : Int32 → SX → Prop} {J7 J17 : Int32 → Int32 → Int32 → Int32 → (Nat → Int32) → (Nat → Int32) → (Nat → Int32) → (Nat → Int32) → (Nat → Int32) → (Nat → Int32) → (Nat → Int32) → (Nat → Int32) → Prop} {A : Nat → Int} {p q M : Nat}
    (hF : ∀ r i, ap_b 7 (ap_F fa r i)) (hB : ∀ r, ap_b 99 (ap_B bo r)) (hA : ∀ i, ap_b 7 (A i)) (hai : ∀ i, i < 3 → ai i = ap_i (A i)) (hp : p < 21) (hq : q < 21) (hM : M < 10000)
    (hJ : ∀ (kB pm : Int32) (pt kt : Nat → Int32), ax_WI A (ap_SW (ap_F fa) (ap_B bo) ki us p q 21) (M + ap_n2 (ap_F fa) (ap_B bo) ki us p q) kB pm kt → J17 (nI (q + 1)) (ap_i 1) kB pm fa ki bo us go ai pt kt) :
    ∀ (d r : Nat) (kB pm : Int32) (pt kt : Nat → Int32), r + d = 21 → ax_WI A (ap_SW (ap_F fa) (ap_B bo) ki us p q r) (M + ap_sm (ap_n3 (ap_F fa) (ap_B bo) ki us p q) r) kB pm kt → wX_searchWholes_28 post J7 J17 (nI p) (nI q) (d + 1) (nI r) (ap_i 1) kB pm fa ki bo us go ai pt kt := by
  intro d
  induction d with
  | zero =>
    intro r kB pm pt kt hr hi
    have : r = 21 := by omega
    subst this
    exact br_t ax_g20 (nm_r (nI_1 q) (hJ _ _ _ _ hi))
  | succ d ih =>
    intro r kB pm pt kt hr hi
    have hr' : r < 21 := by omega
    have hc := Nat.le_trans (ap_sm_le (f := ap_n3 (ap_F fa) (ap_B bo) ki us p q) (c := 1) (n := r) (fun _ => ap_id_le _)) (show r * 1 ≤ 21 by omega)
    refine br_f (ax_l20 r hr') (nm_e (nm_e (nm_e ?_)))
    refine ax_wstep (P := ap_wp p q r) hF hB hA (ap_wp_pb hp hq hr') hai ?_ (by omega) (fun c hc => ap_SW_pos hc) hi (ap_SW_yes hp hq hr') (fun kB' pm' kt' hi' => nm_r (nI_1 r) ?_)
    · exact ap_lt3 ((pk_un (by decide)).trans ((pk_un (by decide)).trans (pk_us.trans (ap_i_n p)))) ((pk_un (by decide)).trans (pk_us.trans (ap_i_n q))) (pk_us.trans (ap_i_n r))
    · exact ih (r + 1) _ _ _ _ (by omega) (ax_WI_cg (fun _ => Iff.rfl) (by rw [Nat.add_assoc]; rfl) hi')
theorem ax_sw20 {post : Int32 → SX → Prop} {J7 : Int32 → Int32 → Int32 → Int32 → (Nat → Int32) → (Nat → Int32) → (Nat → Int32) → (Nat → Int32) → (Nat → Int32) → (Nat → Int32) → (Nat → Int32) → (Nat → Int32) → Prop} {A : Nat → Int} {p M : Nat}
    (hF : ∀ r i, ap_b 7 (ap_F fa r i)) (hB : ∀ r, ap_b 99 (ap_B bo r)) (hA : ∀ i, ap_b 7 (A i)) (hai : ∀ i, i < 3 → ai i = ap_i (A i)) (hp : p < 21) (hM : M < 9500)
    (hJ : ∀ (kB pm : Int32) (pt kt : Nat → Int32), ax_WI A (ap_SW (ap_F fa) (ap_B bo) ki us p 21 0) (M + ap_n1 (ap_F fa) (ap_B bo) ki us p) kB pm kt → J7 (nI (p + 1)) (ap_i 1) kB pm fa ki bo us go ai pt kt) :
    ∀ (d q : Nat) (kB pm : Int32) (pt kt : Nat → Int32), q + d = 21 → ax_WI A (ap_SW (ap_F fa) (ap_B bo) ki us p q 0) (M + ap_sm (ap_n2 (ap_F fa) (ap_B bo) ki us p) q) kB pm kt → wX_searchWholes_20 post J7 (nI p) (d + 1) (nI q) (ap_i 1) kB pm fa ki bo us go ai pt kt := by
  intro d
  induction d with
  | zero =>
    intro q kB pm pt kt hq hi
    have : q = 21 := by omega
    subst this
    exact br_t ax_g20 (nm_r (nI_1 p) (hJ _ _ _ _ hi))
  | succ d ih =>
    intro q kB pm pt kt hq hi
    have hq' : q < 21 := by omega
    have hc := Nat.le_trans (ap_sm_le (f := ap_n2 (ap_F fa) (ap_B bo) ki us p) (c := 21) (n := q) (fun _ => ap_n2_le _ _ _ _ _ _)) (show q * 21 ≤ 441 by omega)
    refine br_f (ax_l20 q hq') ⟨22, ?_⟩
    refine ax_sw28 hF hB hA hai hp hq' (M := M + ap_sm (ap_n2 (ap_F fa) (ap_B bo) ki us p) q) (by omega) (fun kB pm pt kt hi' => ?_) 21 0 _ _ _ _ rfl hi
    exact ih (q + 1) _ _ _ _ (by omega) (ax_WI_cg ap_SW_b (by rw [Nat.add_assoc]; rfl) hi')
theorem ax_sw12 {post : Int32 → SX → Prop} {A : Nat → Int}
    (hF : ∀ r i, ap_b 7 (ap_F fa r i)) (hB : ∀ r, ap_b 99 (ap_B bo r)) (hA : ∀ i, ap_b 7 (A i)) (hai : ∀ i, i < 3 → ai i = ap_i (A i))
    (h0 : ∀ (pB kB : Int32) (pt kt : Nat → Int32), (∀ c, ¬ ap_W (ap_F fa) (ap_B bo) ki us c) → post 0 (pB, kB, nI (ap_sm (ap_n1 (ap_F fa) (ap_B bo) ki us) 21), fa, ki, bo, us, go, ai, pt, kt))
    (h1 : ∀ (pB : Int32) (pt kt : Nat → Int32) (Q : ap_P), ap_W (ap_F fa) (ap_B bo) ki us Q → (∀ c, ap_W (ap_F fa) (ap_B bo) ki us c → ¬ ap_bt A c Q) → ap_pb Q → (∀ i, i < 3 → kt i = ap_i (Q.1 i)) → post 1 (pB, ap_i Q.2, nI (ap_sm (ap_n1 (ap_F fa) (ap_B bo) ki us) 21), fa, ki, bo, us, go, ai, pt, kt)) :
    ∀ (d p : Nat) (kB pm : Int32) (pt kt : Nat → Int32), p + d = 21 → ax_WI A (ap_SW (ap_F fa) (ap_B bo) ki us p 0 0) (ap_sm (ap_n1 (ap_F fa) (ap_B bo) ki us) p) kB pm kt → wX_searchWholes_12 post (d + 1) (nI p) (ap_i 1) kB pm fa ki bo us go ai pt kt := by
  intro d
  induction d with
  | zero =>
    intro p kB pm pt kt hp hi
    have : p = 21 := by omega
    subst this
    refine br_t ax_g20 ?_
    obtain ⟨Q, rfl, h3, h4⟩ := ax_WI_cg (fun c => (ap_SW_e c).symm) rfl hi
    have hc := Nat.le_trans (ap_sm_le (f := ap_n1 (ap_F fa) (ap_B bo) ki us) (c := 441) (n := 21) (fun _ => ap_n1_le _ _ _ _ _)) (show 21 * 441 ≤ 9261 by decide)
    generalize ap_sm (ap_n1 (ap_F fa) (ap_B bo) ki us) 21 = m at *
    have e : nI m ≤ 0 ↔ m = 0 := by rw [ap_i_n, ap_i_le0 (ap_b_n (by omega))]; omega
    refine br_c (fun z => h0 _ _ _ _ (h3.1 (e.mp z))) (fun z => ?_)
    have z' : m ≠ 0 := fun y => z (e.mpr y)
    obtain ⟨q1, q2, q3⟩ := h4 z'
    obtain ⟨s1, s2⟩ := h3.2 z'
    subst q3
    exact h1 _ _ _ Q s1 s2 q1 q2
  | succ d ih =>
    intro p kB pm pt kt hp hi
    have hp' : p < 21 := by omega
    have hc := Nat.le_trans (ap_sm_le (f := ap_n1 (ap_F fa) (ap_B bo) ki us) (c := 441) (n := p) (fun _ => ap_n1_le _ _ _ _ _)) (show p * 441 ≤ 9261 by omega)
    refine br_f (ax_l20 p hp') ⟨22, ?_⟩
    refine ax_sw20 hF hB hA hai hp' (M := ap_sm (ap_n1 (ap_F fa) (ap_B bo) ki us) p) (by omega) (fun kB pm pt kt hi' => ?_) 21 0 _ _ _ _ rfl hi
    exact ih (p + 1) _ _ _ _ (by omega) (ax_WI_cg ap_SW_c rfl hi')
theorem ax_searchWholes {post : Int32 → SX → Prop} {A : Nat → Int}
    (hF : ∀ r i, ap_b 7 (ap_F fa r i)) (hB : ∀ r, ap_b 99 (ap_B bo r)) (hA : ∀ i, ap_b 7 (A i)) (hai : ∀ i, i < 3 → ai i = ap_i (A i))
    (h0 : ∀ (pB kB : Int32) (pt kt : Nat → Int32), (∀ c, ¬ ap_W (ap_F fa) (ap_B bo) ki us c) → post 0 (pB, kB, nI (ap_sm (ap_n1 (ap_F fa) (ap_B bo) ki us) 21), fa, ki, bo, us, go, ai, pt, kt))
    (h1 : ∀ (pB : Int32) (pt kt : Nat → Int32) (Q : ap_P), ap_W (ap_F fa) (ap_B bo) ki us Q → (∀ c, ap_W (ap_F fa) (ap_B bo) ki us c → ¬ ap_bt A c Q) → ap_pb Q → (∀ i, i < 3 → kt i = ap_i (Q.1 i)) → post 1 (pB, ap_i Q.2, nI (ap_sm (ap_n1 (ap_F fa) (ap_B bo) ki us) 21), fa, ki, bo, us, go, ai, pt, kt)) :
    wpX_searchWholes post (pB, kB, pm, fa, ki, bo, us, go, ai, pt, kt) := by
  refine ⟨22, ax_sw12 hF hB hA hai h0 h1 21 0 _ _ _ _ rfl ⟨(fun _ => 0, 0), rfl, ⟨fun _ c hc => ?_, fun z => absurd rfl z⟩, fun z => absurd rfl z⟩⟩
  obtain ⟨p', q', r', h1, h2, h3, h4, h5, h6⟩ := hc
  omega
/-! aims -/
theorem ax_ag2 {post : SX → Prop} {i n : Nat} (hi : i < 3) (h : wX_aimAtGoal_2 post pB kB pm n (nI (i + 1)) fa ki bo us go (upd ai i (go i)) pt kt) :
    wX_aimAtGoal_2 post pB kB pm (n + 1) (nI i) fa ki bo us go ai pt kt := by
  refine br_f (ap_l3 i hi) ⟨ap_in hi (by decide), ap_in hi (by decide), nm_r ?_ (nm_r (nI_1 i) h)⟩
  rw [ap_cl (by omega)]
theorem ax_aimAtGoal {post : SX → Prop} (h : ∀ ai' : Nat → Int32, (∀ i, i < 3 → ai' i = go i) → post (pB, kB, pm, fa, ki, bo, us, go, ai', pt, kt)) : wpX_aimAtGoal post (pB, kB, pm, fa, ki, bo, us, go, ai, pt, kt) := by
  refine ⟨4, ax_ag2 (i := 0) (by decide) (ax_ag2 (i := 1) (by decide) (ax_ag2 (i := 2) (by decide) (br_t ap_g3 (h _ ?_))))⟩
  exact ap_lt3 (by rw [pk_un (by decide), pk_un (by decide), pk_us]) (by rw [pk_un (by decide), pk_us]) (by rw [pk_us])
def ap_G (go : Nat → Int32) (i : Nat) : Int := (go i).toInt
theorem ax_findBest {post : Int32 → SX → Prop}
    (hF : ∀ r i, ap_b 7 (ap_F fa r i)) (hB : ∀ r, ap_b 99 (ap_B bo r)) (hG : ∀ i, ap_b 7 (ap_G go i))
    (h0 : ∀ (pB kB pm : Int32) (ai pt kt : Nat → Int32), (∀ c, ¬ ap_C (ap_F fa) (ap_B bo) ki us c) → post 0 (pB, kB, pm, fa, ki, bo, us, go, ai, pt, kt))
    (h1 : ∀ (pB pm : Int32) (ai pt kt : Nat → Int32) (Q : ap_P), ap_C (ap_F fa) (ap_B bo) ki us Q → (∀ c, ap_C (ap_F fa) (ap_B bo) ki us c → ¬ ap_bt (ap_G go) c Q) → ap_pb Q → (∀ i, i < 3 → ai i = ap_i (ap_G go i)) → (∀ i, i < 3 → kt i = ap_i (Q.1 i)) → post 1 (pB, ap_i Q.2, pm, fa, ki, bo, us, go, ai, pt, kt)) :
    wpX_findBest post (pB, kB, pm, fa, ki, bo, us, go, ai, pt, kt) := by
  refine ax_aimAtGoal (fun ai' hai => ?_)
  have hai' : ∀ i, i < 3 → ai' i = ap_i (ap_G go i) := fun i hi => (hai i hi).trans (ap_i_of _).symm
  exact ax_searchCorners hF hB hG hai' (fun pB kB pm pt kt hc => ⟨rfl, h0 _ _ _ _ _ _ hc⟩) (fun pB pm pt kt Q q1 q2 q3 q4 => ⟨rfl, h1 _ _ _ _ _ Q q1 q2 q3 hai' q4⟩)
theorem ax_findWhole {post : Int32 → SX → Prop}
    (hF : ∀ r i, ap_b 7 (ap_F fa r i)) (hB : ∀ r, ap_b 99 (ap_B bo r)) (hG : ∀ i, ap_b 7 (ap_G go i))
    (h0 : ∀ (pB kB : Int32) (ai pt kt : Nat → Int32), (∀ c, ¬ ap_W (ap_F fa) (ap_B bo) ki us c) → post 0 (pB, kB, nI (ap_sm (ap_n1 (ap_F fa) (ap_B bo) ki us) 21), fa, ki, bo, us, go, ai, pt, kt))
    (h1 : ∀ (pB : Int32) (ai pt kt : Nat → Int32) (Q : ap_P), ap_W (ap_F fa) (ap_B bo) ki us Q → (∀ c, ap_W (ap_F fa) (ap_B bo) ki us c → ¬ ap_bt (ap_G go) c Q) → ap_pb Q → (∀ i, i < 3 → ai i = ap_i (ap_G go i)) → (∀ i, i < 3 → kt i = ap_i (Q.1 i)) → post 1 (pB, ap_i Q.2, nI (ap_sm (ap_n1 (ap_F fa) (ap_B bo) ki us) 21), fa, ki, bo, us, go, ai, pt, kt)) :
    wpX_findWhole post (pB, kB, pm, fa, ki, bo, us, go, ai, pt, kt) := by
  refine ax_aimAtGoal (fun ai' hai => ?_)
  have hai' : ∀ i, i < 3 → ai' i = ap_i (ap_G go i) := fun i hi => (hai i hi).trans (ap_i_of _).symm
  exact ax_searchWholes hF hB hG hai' (fun pB kB pt kt hc => ⟨rfl, h0 _ _ _ _ _ hc⟩) (fun pB pt kt Q q1 q2 q3 q4 => ⟨rfl, h1 _ _ _ _ Q q1 q2 q3 hai' q4⟩)
def ap_E (s : Int) (i j : Nat) : Int := if j = i then s else 0
theorem ax_fr2 {post : Int32 → SX → Prop} {i n : Nat} {x1 x2 : Int32} (hi : i < 3) (h : wX_findReach_2 post x1 x2 pB kB pm n (nI (i + 1)) fa ki bo us go (upd ai i 0) pt kt) :
    wX_findReach_2 post x1 x2 pB kB pm (n + 1) (nI i) fa ki bo us go ai pt kt := by
  refine br_f (ap_l3 i hi) ⟨ap_in hi (by decide), nm_r ?_ (nm_r (nI_1 i) h)⟩
  rw [ap_cl (by omega)]
theorem ax_fr35 {post : Int32 → SX → Prop} {i : Nat} {s : Int} (hs : s = 1 ∨ s = -1)
    (hF : ∀ r i, ap_b 7 (ap_F fa r i)) (hB : ∀ r, ap_b 99 (ap_B bo r)) (hi : i < 3) (hai : ∀ j, j < 3 → ai j = 0)
    (h0 : ∀ (pB kB pm : Int32) (ai pt kt : Nat → Int32), (∀ c, ¬ ap_C (ap_F fa) (ap_B bo) ki us c) → post 0 (pB, kB, pm, fa, ki, bo, us, go, ai, pt, kt))
    (h1 : ∀ (pB pm : Int32) (ai pt kt : Nat → Int32) (Q : ap_P), ap_C (ap_F fa) (ap_B bo) ki us Q → (∀ c, ap_C (ap_F fa) (ap_B bo) ki us c → ¬ ap_bt (ap_E s i) c Q) → ap_pb Q → (∀ i, i < 3 → kt i = ap_i (Q.1 i)) → post 1 (pB, ap_i Q.2, pm, fa, ki, bo, us, go, ai, pt, kt)) :
    wX_findReach_35 post (ap_i s) (nI i) pB kB pm fa ki bo us go ai pt kt := by
  refine ⟨ap_in hi (by decide), nm_e ?_⟩
  rw [ap_cl (by omega)]
  refine ax_searchCorners (A := ap_E s i) hF hB (fun j => ?_) (fun j hj => ?_) (fun pB kB pm pt kt hc => ⟨rfl, h0 _ _ _ _ _ _ hc⟩) (fun pB pm pt kt Q q1 q2 q3 q4 => ⟨rfl, h1 _ _ _ _ _ Q q1 q2 q3 q4⟩)
  · unfold ap_E ap_b; split
    · rcases hs with rfl | rfl <;> decide
    · decide
  · unfold ap_E
    by_cases e : j = i
    · subst e; rw [if_pos rfl, pk_us]
    · rw [if_neg e, pk_un e, hai j hj]; rfl
theorem ax_findReach {post : Int32 → SX → Prop} {i : Nat} {w : Int32} {s : Int} (hs : (w = 1 ∧ s = 1) ∨ (¬ w = 1 ∧ s = -1))
    (hF : ∀ r i, ap_b 7 (ap_F fa r i)) (hB : ∀ r, ap_b 99 (ap_B bo r)) (hi : i < 3)
    (h0 : ∀ (pB kB pm : Int32) (ai pt kt : Nat → Int32), (∀ c, ¬ ap_C (ap_F fa) (ap_B bo) ki us c) → post 0 (pB, kB, pm, fa, ki, bo, us, go, ai, pt, kt))
    (h1 : ∀ (pB pm : Int32) (ai pt kt : Nat → Int32) (Q : ap_P), ap_C (ap_F fa) (ap_B bo) ki us Q → (∀ c, ap_C (ap_F fa) (ap_B bo) ki us c → ¬ ap_bt (ap_E s i) c Q) → ap_pb Q → (∀ i, i < 3 → kt i = ap_i (Q.1 i)) → post 1 (pB, ap_i Q.2, pm, fa, ki, bo, us, go, ai, pt, kt)) :
    wpX_findReach post (pB, kB, pm, fa, ki, bo, us, go, ai, pt, kt) (nI i) w := by
  refine ⟨4, ax_fr2 (i := 0) (by decide) (ax_fr2 (i := 1) (by decide) (ax_fr2 (i := 2) (by decide) (br_t ap_g3 ?_)))⟩
  have hz : ∀ j, j < 3 → upd (upd (upd ai 0 0) 1 0) 2 0 j = 0 := ap_lt3 (by rw [pk_un (by decide), pk_un (by decide), pk_us]) (by rw [pk_un (by decide), pk_us]) (by rw [pk_us])
  rcases hs with ⟨h, rfl⟩ | ⟨h, rfl⟩
  · exact br_t h (ax_fr35 (Or.inl rfl) hF hB hi hz h0 h1)
  · exact br_f h (ax_fr35 (Or.inr rfl) hF hB hi hz h0 h1)
theorem ax_sw2 {post : Int32 → SX → Prop} {i n r : Nat} {s : Int} (hr : r < 11) (hi : i < 3) (h : wX_staysWithin_2 post (nI r) (ap_i s) pB kB pm n (nI (i + 1)) fa ki bo us go (upd ai i (ap_i (s * ap_F fa r i))) pt kt) :
    wX_staysWithin_2 post (nI r) (ap_i s) pB kB pm (n + 1) (nI i) fa ki bo us go ai pt kt := by
  refine br_f (ap_l3 i hi) ⟨?_, ap_in hi (by decide), nm_r ?_ (nm_r (nI_1 i) h)⟩
  · rw [ap_3i]; exact ap_in (by omega) (by decide)
  · rw [ap_3i, ap_cl (by omega), ap_cl (by omega), ap_Fi fa, ap_i_mul]
/-- staysWithin: 1 if and only if no corner breaks the row on that side -/
theorem ap_st {F : Nat → Nat → Int} {B : Nat → Int} {r : Nat} {s : Int} {c Q : ap_P} (hc : 0 < c.2) (hQ : 0 < Q.2) (h : ap_g0 (fun i => s * F r i) c Q ≤ 0) (h2 : s * ap_ex F B r Q ≤ 0) : s * ap_ex F B r c ≤ 0 := by
  have e : Q.2 * (s * ap_ex F B r c) = c.2 * (s * ap_ex F B r Q) + ap_g0 (fun i => s * F r i) c Q := by unfold ap_g0 ap_ex ap_w; grind
  have h3 : c.2 * (s * ap_ex F B r Q) ≤ 0 := by
    have := Int.mul_le_mul_of_nonneg_left h2 (Int.le_of_lt hc)
    rw [Int.mul_zero] at this; exact this
  apply Decidable.byContradiction
  intro hn
  have := Int.mul_pos hQ (show 0 < s * ap_ex F B r c by omega)
  omega
theorem ax_staysWithin {post : Int32 → SX → Prop} {r : Nat} {s : Int} (hs : s = 1 ∨ s = -1) (hr : r < 11)
    (hF : ∀ r i, ap_b 7 (ap_F fa r i)) (hB : ∀ r, ap_b 99 (ap_B bo r))
    (h1 : ∀ (pB kB pm : Int32) (ai pt kt : Nat → Int32), (∀ c, ap_C (ap_F fa) (ap_B bo) ki us c → s * ap_ex (ap_F fa) (ap_B bo) r c ≤ 0) → post 1 (pB, kB, pm, fa, ki, bo, us, go, ai, pt, kt))
    (h0 : ∀ (pB kB pm : Int32) (ai pt kt : Nat → Int32), (∃ c, ap_C (ap_F fa) (ap_B bo) ki us c ∧ ¬ s * ap_ex (ap_F fa) (ap_B bo) r c ≤ 0) → post 0 (pB, kB, pm, fa, ki, bo, us, go, ai, pt, kt)) :
    wpX_staysWithin post (pB, kB, pm, fa, ki, bo, us, go, ai, pt, kt) (nI r) (ap_i s) := by
  refine ⟨4, ax_sw2 (i := 0) hr (by decide) (ax_sw2 (i := 1) hr (by decide) (ax_sw2 (i := 2) hr (by decide) (br_t ap_g3 ?_)))⟩
  have hsb : ap_b 1 s := by rcases hs with rfl | rfl <;> (unfold ap_b; decide)
  refine ax_searchCorners (A := fun i => s * ap_F fa r i) hF hB (fun j => ap_b_le (ap_b_mul hsb (hF r j)) (by decide)) ?_ (fun pB kB pm pt kt hc => br_t rfl (h1 _ _ _ _ _ _ (fun c hc' => absurd hc' (hc c)))) (fun pB pm pt kt Q q1 q2 q3 q4 => br_f (by decide) ?_)
  · exact ap_lt3 (by rw [pk_un (by decide), pk_un (by decide), pk_us]) (by rw [pk_un (by decide), pk_us]) (by rw [pk_us])
  · refine ax_exK hr q4 ?_
    have he := ap_b_le (ap_b_mul hsb (ap_ex_b hF hB q3 r)) (show 1 * 814968 ≤ 2147483647 by decide)
    rw [ap_i_mul, ap_i_0lt he]
    refine br_c (fun z => h0 _ _ _ _ _ _ ⟨Q, q1, by omega⟩) (fun z => h1 _ _ _ _ _ _ (fun c hc => ?_))
    have hcp : ap_pb c := ap_S_pos hF hB ((ap_S_e c).mpr hc)
    exact ap_st hcp.2.1 q3.2.1 (ap_bt_g0 (q2 c hc)) (by omega)
end
/-! the divisor -/
theorem ax_cd43 {post : Int32 → Prop} {d : Nat} (h0 : 0 < d) (hd : d < 2 ^ 31) (h : post (nI d)) : wX_commonDivisor_43 post (nI d) :=
  br_t (nI_le (a := 1) h0 hd) h
theorem ax_l100 (i : Nat) (h : i < 100) : ¬ (100 : Int32) ≤ nI i := nI_ge (b := 100) h (by decide)
theorem ax_cd1 {post : Int32 → Prop} {d r t n : Nat} (hr : 0 < r) (hd : d < 2 ^ 31) (hr' : r < 2 ^ 31) (ht : t < 100) (h : wX_commonDivisor_16 post n (nI r) (nI (d % r)) (nI (t + 1))) :
    wX_commonDivisor_16 post (n + 1) (nI d) (nI r) (nI t) :=
  br_f (ax_l100 t ht) (br_f (nI_ne0 hr hr') ⟨nI_ne0 hr hr', nm_r (pk_rem hd hr hr') (nm_r (nI_1 t) h)⟩)
theorem ax_cd0 {post : Int32 → Prop} {d t n : Nat} (h0 : 0 < d) (hd : d < 2 ^ 31) (ht : t < 100) (h : post (nI d)) : wX_commonDivisor_16 post (n + 1) (nI d) (nI 0) (nI t) :=
  br_f (ax_l100 t ht) (br_t rfl (ax_cd43 h0 hd h))
theorem ax_cdL {post : Int32 → Prop} : ∀ (k d r t n : Nat), 0 < d → d < 2 ^ 31 → r < 2 ^ 31 → r < 2 ^ k → t + 2 * k < 98 → 2 * k < n → post (nI (Nat.gcd r d)) → wX_commonDivisor_16 post n (nI d) (nI r) (nI t) := by
  intro k
  induction k with
  | zero =>
    intro d r t n h0 hd hr hk ht hn h
    have : r = 0 := by omega
    subst this
    obtain ⟨n', rfl⟩ : ∃ n', n = n' + 1 := ⟨n - 1, by omega⟩
    rw [Nat.gcd_zero_left] at h
    exact ax_cd0 h0 hd (by omega) h
  | succ k ih =>
    intro d r t n h0 hd hr hk ht hn h
    obtain ⟨n', rfl⟩ : ∃ n', n = n' + 1 + 1 := ⟨n - 2, by omega⟩
    by_cases z : r = 0
    · subst z
      rw [Nat.gcd_zero_left] at h
      exact ax_cd0 h0 hd (by omega) h
    · have r0 : 0 < r := by omega
      rw [Nat.gcd_rec] at h
      refine ax_cd1 r0 hd hr (by omega) ?_
      have m1 : d % r < r := Nat.mod_lt _ r0
      generalize d % r = m at *
      by_cases y : m = 0
      · subst y
        rw [Nat.gcd_zero_left] at h
        exact ax_cd0 r0 hr (by omega) h
      · have m0 : 0 < m := by omega
        rw [Nat.gcd_rec] at h
        refine ax_cd1 m0 hr (by omega) (by omega) ?_
        have m2 : r % m < m := Nat.mod_lt _ m0
        have m3 : 2 * (r % m) < r := by
          have e := Nat.div_add_mod r m
          have f : 1 ≤ r / m := (Nat.one_le_div_iff m0).mpr (by omega)
          have g : m * 1 ≤ m * (r / m) := Nat.mul_le_mul_left m f
          omega
        rw [Nat.pow_succ] at hk
        exact ih m (r % m) (t + 1 + 1) n' m0 (by omega) (by omega) (by omega) (by omega) (by omega) h
theorem ax_commonDivisor {post : Int32 → Prop} {T : Int} {b : Nat} (hT : ap_b 1000000 T) (hb : 0 < b) (hb' : b < 2 ^ 31) (h : post (nI (Nat.gcd T.natAbs b))) : wpX_commonDivisor post (ap_i T) (nI b) := by
  have hT' : ap_b 2147483647 T := ap_b_le hT (by decide)
  have run : ∃ n16, wX_commonDivisor_16 post n16 (nI b) (nI T.natAbs) 0 := by
    unfold ap_b at hT
    exact ⟨41, ax_cdL 20 b T.natAbs 0 41 hb hb' (by omega) (by omega) (by decide) (by decide) h⟩
  refine br_c (fun z => ?_) (fun z => nm_r (e' := nI T.natAbs) ?_ run)
  · rw [ap_i_0le hT'] at z
    have e : ap_i T = nI T.natAbs := by rw [ap_i_n]; congr 1; omega
    rw [e]; exact run
  · rw [ap_i_0le hT'] at z
    rw [ap_i_neg, ap_i_n]; congr 1; omega
theorem ap_tdiv_i {T : Int} {g : Nat} (hT : ap_b 1000000 T) (h0 : 0 < g) (hg : g < 2 ^ 31) : ap_i T / nI g = ap_i (T.tdiv g) := by
  unfold ap_b at hT
  rw [ap_i_n]
  exact (Int32.ofInt_tdiv (by rw [Int32.toInt_minValue]; omega) (by rw [Int32.toInt_maxValue]; omega) (by rw [Int32.toInt_minValue]; omega) (by rw [Int32.toInt_maxValue]; omega)).symm
theorem ax_lowestTop {post : Int32 → Prop} {T : Int} {b : Nat} (hT : ap_b 1000000 T) (hb : 0 < b) (hb' : b < 2 ^ 31) (h : post (ap_i (T.tdiv (Nat.gcd T.natAbs b : Nat)))) : wpX_lowestTop post (ap_i T) (nI b) := by
  have g0 : 0 < Nat.gcd T.natAbs b := Nat.gcd_pos_of_pos_right _ hb
  have g1 : Nat.gcd T.natAbs b < 2 ^ 31 := Nat.lt_of_le_of_lt (Nat.gcd_le_right _ hb) hb'
  refine ax_commonDivisor hT hb hb' ⟨nI_ne0 g0 g1, ?_⟩
  rw [ap_tdiv_i hT g0 g1]; exact h
theorem ax_lowestBottom {post : Int32 → Prop} {T : Int} {b : Nat} (hT : ap_b 1000000 T) (hb : 0 < b) (hb' : b < 2 ^ 31) (h : post (nI (b / Nat.gcd T.natAbs b))) : wpX_lowestBottom post (ap_i T) (nI b) := by
  have g0 : 0 < Nat.gcd T.natAbs b := Nat.gcd_pos_of_pos_right _ hb
  have g1 : Nat.gcd T.natAbs b < 2 ^ 31 := Nat.lt_of_le_of_lt (Nat.gcd_le_right _ hb) hb'
  refine ax_commonDivisor hT hb hb' ⟨nI_ne0 g0 g1, ?_⟩
  rw [pk_div hb' g0 g1]; exact h
end
section
/-! the reference's walks -/
def ap_ro (a : Nat) : Nat := (a + 6) % 11
/-- the reference's planes are the rows of the picture -/
def ay_M (F : Nat → Nat → Int) (B : Nat → Int) (a c : Nat) : Int := if c = 3 then B (ap_ro a) else F (ap_ro a) c
def ay_Pl (F : Nat → Nat → Int) (B : Nat → Int) (pl : Nat → Int64) : Prop := ∀ a c, a < 11 → c < 4 → pl (4 * a + c) = ap_l (ay_M F B a c)
def ay_Ac (U : Nat → Int32) (sk : Int32) (th : Nat → Int32) : Prop := ∀ a, a < 11 → (¬ U (ap_ro a) = 0 ↔ (4 < a ∨ (¬ th a = 0 ∧ ¬ nI a = sk)))
section
variable {un : Int64} {fd : Int32} {bu : Int64} {sk : Int32} {th kd : Nat → Int32} {pl : Nat → Int64} {am : Nat → Int32} {ov bv : Nat → Int64}
theorem ay_at {post : Int64 → Prop} {F : Nat → Nat → Int} {B : Nat → Int} {a c : Nat} (hM : ay_Pl F B pl) (ha : a < 11) (hc : c < 4) (h : post (ap_l (ay_M F B a c))) : wpY_at post (un, fd, bu, sk, th, kd, pl, am, ov, bv) (nI a) (nI c) := by
  unfold wpY_at
  simp only [ap_4i]
  refine ⟨ap_in (by omega) (by decide), ?_⟩
  rw [ap_cl (by omega), hM a c ha hc]
  exact h
def ay_D (M : Nat → Nat → Int) (a b c p q r : Nat) : Int := M a p * (M b q * M c r - M b r * M c q) - M a q * (M b p * M c r - M b r * M c p) + M a r * (M b p * M c q - M b q * M c p)
theorem ay_det {post : Int64 → Prop} {F : Nat → Nat → Int} {B : Nat → Int} {a b c p q r : Nat} (hM : ay_Pl F B pl) (ha : a < 11) (hb : b < 11) (hc : c < 11) (hp : p < 4) (hq : q < 4) (hr : r < 4)
    (h : post (ap_l (ay_D (ay_M F B) a b c p q r))) : wpY_determinant post (un, fd, bu, sk, th, kd, pl, am, ov, bv) (nI a) (nI b) (nI c) (nI p) (nI q) (nI r) := by
  unfold wpY_determinant; dsimp only
  refine ay_at hM ha hp (ay_at hM hb hq (ay_at hM hc hr (ay_at hM hb hr (ay_at hM hc hq (nm_e ?_)))))
  refine ay_at hM ha hq (ay_at hM hb hp (ay_at hM hc hr (ay_at hM hb hr (ay_at hM hc hp (nm_e ?_)))))
  refine ay_at hM ha hr (ay_at hM hb hp (ay_at hM hc hq (ay_at hM hb hq (ay_at hM hc hp (nm_e ?_)))))
  simp only [ap_l_mul, ap_l_sub, ap_l_add]
  exact h
theorem ay_D_d (F : Nat → Nat → Int) (B : Nat → Int) (a b c : Nat) : ay_D (ay_M F B) a b c 0 1 2 = ap_dt F (ap_ro a) (ap_ro b) (ap_ro c) := by
  unfold ay_D ay_M ap_dt ap_cr
  simp only [Nat.reduceAdd, Nat.reduceMod, Nat.reduceEqDiff, if_false, if_true]; grind
theorem ay_D_0 (F : Nat → Nat → Int) (B : Nat → Int) (a b c : Nat) : ay_D (ay_M F B) a b c 3 1 2 = ap_tp F B (ap_ro a) (ap_ro b) (ap_ro c) 0 := by
  unfold ay_D ay_M ap_tp ap_cr
  simp only [Nat.reduceAdd, Nat.reduceMod, Nat.reduceEqDiff, if_false, if_true]; grind
theorem ay_D_1 (F : Nat → Nat → Int) (B : Nat → Int) (a b c : Nat) : ay_D (ay_M F B) a b c 0 3 2 = ap_tp F B (ap_ro a) (ap_ro b) (ap_ro c) 1 := by
  unfold ay_D ay_M ap_tp ap_cr
  simp only [Nat.reduceAdd, Nat.reduceMod, Nat.reduceEqDiff, if_false, if_true]; grind
theorem ay_D_2 (F : Nat → Nat → Int) (B : Nat → Int) (a b c : Nat) : ay_D (ay_M F B) a b c 0 1 3 = ap_tp F B (ap_ro a) (ap_ro b) (ap_ro c) 2 := by
  unfold ay_D ay_M ap_tp ap_cr
  simp only [Nat.reduceAdd, Nat.reduceMod, Nat.reduceEqDiff, if_false, if_true]; grind
theorem ay_meet35 {post : Int32 → SY → Prop} {F : Nat → Nat → Int} {B : Nat → Int} {a b c : Nat} {s d : Int} (hM : ay_Pl F B pl) (ha : a < 11) (hb : b < 11) (hc : c < 11)
    (h : ∀ ov' : Nat → Int64, (∀ i, i < 3 → ov' i = ap_l (s * ap_tp F B (ap_ro a) (ap_ro b) (ap_ro c) i)) → post 1 (ap_l (s * d), fd, bu, sk, th, kd, pl, am, ov', bv)) :
    wY_meet_35 post (nI a) (nI b) (nI c) (ap_l d) (ap_l s) un fd bu sk th kd pl am ov bv := by
  refine nm_r (ap_l_mul s d) ?_
  refine ay_det (p := 3) (q := 1) (r := 2) hM ha hb hc (by decide) (by decide) (by decide) (nm_e ?_)
  refine ay_det (p := 0) (q := 3) (r := 2) hM ha hb hc (by decide) (by decide) (by decide) (nm_e ?_)
  refine ay_det (p := 0) (q := 1) (r := 3) hM ha hb hc (by decide) (by decide) (by decide) (nm_e ?_)
  refine h _ (ap_lt3 ?_ ?_ ?_)
  · rw [pk_uLn (by decide), pk_uLn (by decide), pk_uLs, ap_l_mul, ay_D_0]
  · rw [pk_uLn (by decide), pk_uLs, ap_l_mul, ay_D_1]
  · rw [pk_uLs, ap_l_mul, ay_D_2]
theorem ay_meet {post : Int32 → SY → Prop} {F : Nat → Nat → Int} {B : Nat → Int} {a b c : Nat} (hM : ay_Pl F B pl) (hF : ∀ r i, ap_b 7 (F r i)) (ha : a < 11) (hb : b < 11) (hc : c < 11)
    (h0 : ap_dt F (ap_ro a) (ap_ro b) (ap_ro c) = 0 → post 0 (un, fd, bu, sk, th, kd, pl, am, ov, bv))
    (h1 : ap_dt F (ap_ro a) (ap_ro b) (ap_ro c) ≠ 0 → ∀ ov' : Nat → Int64, (∀ i, i < 3 → ov' i = ap_l ((ap_co F B (ap_ro a) (ap_ro b) (ap_ro c)).1 i)) → post 1 (ap_l (ap_co F B (ap_ro a) (ap_ro b) (ap_ro c)).2, fd, bu, sk, th, kd, pl, am, ov', bv)) :
    wpY_meet post (un, fd, bu, sk, th, kd, pl, am, ov, bv) (nI a) (nI b) (nI c) := by
  unfold wpY_meet; dsimp only
  refine ay_det (p := 0) (q := 1) (r := 2) hM ha hb hc (by decide) (by decide) (by decide) ?_
  rw [ay_D_d]
  have hd := ap_b_le (ap_dt_b hF (ap_ro a) (ap_ro b) (ap_ro c)) (show 2058 ≤ 9000000000000000000 by decide)
  refine br_c (fun z => h0 ((ap_l_eq0 hd).mp z)) (fun z => ?_)
  have z' : ap_dt F (ap_ro a) (ap_ro b) (ap_ro c) ≠ 0 := fun y => z ((ap_l_eq0 hd).mpr y)
  have h1' := h1 z'
  unfold ap_co ap_sg at h1'
  refine br_c (fun y => ?_) (fun y => ?_)
  · rw [if_pos ((ap_l_0le hd).mp y)] at h1'
    exact ay_meet35 hM ha hb hc h1'
  · rw [if_neg (fun w => y ((ap_l_0le hd).mpr w))] at h1'
    exact ay_meet35 hM ha hb hc h1'
theorem ay_left {post : Int64 → Prop} {F : Nat → Nat → Int} {B : Nat → Int} {a : Nat} {P : ap_P} (hM : ay_Pl F B pl) (ha : a < 11) (hov : ∀ i, i < 3 → ov i = ap_l (P.1 i))
    (h : post (ap_l (ap_ex F B (ap_ro a) P))) : wpY_left post (ap_l P.2, fd, bu, sk, th, kd, pl, am, ov, bv) (nI a) := by
  unfold wpY_left; dsimp only
  refine ay_at (c := 0) hM ha (by decide) (ay_at (c := 1) hM ha (by decide) (ay_at (c := 2) hM ha (by decide) (ay_at (c := 3) hM ha (by decide) ?_)))
  rw [hov 0 (by decide), hov 1 (by decide), hov 2 (by decide)]
  simp only [ap_l_mul, ap_l_sub, ap_l_add]
  exact h
theorem ay_meets {post : Int32 → Prop} {F : Nat → Nat → Int} {B : Nat → Int} {K : Nat → Int32} {a : Nat} {P : ap_P} (hM : ay_Pl F B pl) (hF : ∀ r i, ap_b 7 (F r i)) (hB : ∀ r, ap_b 99 (B r)) (hK : ∀ r, K r = 0 ∨ K r = 1 ∨ K r = 2)
    (hkd : ∀ k, k < 5 → kd k = K (ap_ro k)) (ha : a < 5) (hP : ap_pb P) (hov : ∀ i, i < 3 → ov i = ap_l (P.1 i))
    (h1 : ap_rk F B K P (ap_ro a) → post 1) (h0 : ¬ ap_rk F B K P (ap_ro a) → post 0) : wpY_meets post (ap_l P.2, fd, bu, sk, th, kd, pl, am, ov, bv) (nI a) := by
  unfold wpY_meets; dsimp only
  refine ay_left hM (show a < 11 by omega) hov ⟨ap_in ha (by decide), ?_⟩
  have he := ap_b_le (ap_ex_b hF hB hP (ap_ro a)) (show 814968 ≤ 9000000000000000000 by decide)
  unfold ap_rk at h1 h0
  generalize ap_ex F B (ap_ro a) P = e at *
  rw [ap_cl (by omega), hkd a ha]
  have k02 : ¬ (0 : Int32) = 2 := by decide
  have k12 : ¬ (1 : Int32) = 2 := by decide
  have k10 : ¬ (1 : Int32) = 0 := by decide
  have k20 : ¬ (2 : Int32) = 0 := by decide
  have k21 : ¬ (2 : Int32) = 1 := by decide
  rw [ap_l_0lt he, ap_l_eq0 he, ap_l_lt0 he]
  rcases hK (ap_ro a) with k | k | k
  · rw [k] at h1 h0 ⊢
    exact br_t rfl (br_c (fun y => h0 (fun w => w (Or.inl ⟨y, k02⟩))) (fun y => h1 (fun w => w.elim (fun v => y v.1) (fun v => v.2 rfl))))
  · rw [k] at h1 h0 ⊢
    refine br_f k10 ⟨ap_in ha (by decide), br_t rfl (br_c (fun y => h1 (fun w => w.elim (fun v => by omega) (fun v => by omega))) (fun y => h0 (fun w => ?_)))⟩
    rcases Int.lt_or_gt_of_ne y with v | v
    · exact w (Or.inr ⟨v, k10⟩)
    · exact w (Or.inl ⟨v, k12⟩)
  · rw [k] at h1 h0 ⊢
    exact br_f k20 ⟨ap_in ha (by decide), br_f k21 (br_c (fun y => h0 (fun w => w (Or.inr ⟨y, k20⟩))) (fun y => h1 (fun w => w.elim (fun v => v.2 rfl) (fun v => y v.1))))⟩
theorem ay_g4 {a : Nat} (h : a < 2000) : (4 : Int32) < nI a ↔ 4 < a := nI_ltI (a := 4) (by decide) (by omega)
theorem ay_active {post : Int32 → Prop} {U : Nat → Int32} {a : Nat} (hA : ay_Ac U sk th) (ha : a < 11) (h1 : ¬ U (ap_ro a) = 0 → post 1) (h0 : U (ap_ro a) = 0 → post 0) : wpY_active post (un, fd, bu, sk, th, kd, pl, am, ov, bv) (nI a) := by
  have e := hA a ha
  refine br_c (fun z => h1 (e.mpr (Or.inl ((ay_g4 (by omega)).mp z)))) (fun z => ?_)
  have z' : a < 5 := by
    have : ¬ 4 < a := fun y => z ((ay_g4 (by omega)).mpr y)
    omega
  refine ⟨ap_in z' (by decide), ?_⟩
  rw [ap_cl (by omega)]
  have n0 : ¬ (¬ th a = 0 ∧ ¬ nI a = sk) → U (ap_ro a) = 0 := fun hn => Decidable.byContradiction (fun hu => (e.mp hu).elim (fun y => by omega) hn)
  exact br_c (fun y => h0 (n0 (fun w => w.1 y))) (fun y => br_c (fun x => h0 (n0 (fun w => w.2 x))) (fun x => h1 (e.mpr (Or.inr ⟨y, x⟩))))
/-! inside -/
def ay_in1 (P : ap_P) (i : Nat) : Prop := 0 ≤ P.1 i ∧ P.1 i ≤ 20 * P.2
theorem ay_ins56 {post : Int32 → Prop} {F : Nat → Nat → Int} {B : Nat → Int} {K U : Nat → Int32} {P : ap_P} (hM : ay_Pl F B pl) (hF : ∀ r i, ap_b 7 (F r i)) (hB : ∀ r, ap_b 99 (B r)) (hK : ∀ r, K r = 0 ∨ K r = 1 ∨ K r = 2)
    (hkd : ∀ k, k < 5 → kd k = K (ap_ro k)) (hA : ay_Ac U sk th) (hP : ap_pb P) (hov : ∀ i, i < 3 → ov i = ap_l (P.1 i)) :
    ∀ (d k : Nat) (f : Int32), k + d = 5 → (f = 0 ∨ f = 1) →
      (f = 1 → (∀ j, k ≤ j → j < 5 → ¬ U (ap_ro j) = 0 → ap_rk F B K P (ap_ro j)) → post 1) → (f = 0 ∨ ¬ (∀ j, k ≤ j → j < 5 → ¬ U (ap_ro j) = 0 → ap_rk F B K P (ap_ro j)) → post 0) →
      wY_inside_56 post (ap_l P.2) fd bu sk th kd pl am ov bv (d + 1) f (nI k) := by
  intro d
  induction d with
  | zero =>
    intro k f hk hf h1 h0
    have : k = 5 := by omega
    subst this
    rcases hf with rfl | rfl
    · exact br_t ap_g5 ⟨rfl, h0 (Or.inl rfl)⟩
    · exact br_t ap_g5 ⟨rfl, h1 rfl (fun j a b => by omega)⟩
  | succ d ih =>
    intro k f hk hf h1 h0
    have hk' : k < 5 := by omega
    refine br_f (ap_l5 k hk') ?_
    rcases hf with rfl | rfl
    · exact br_t rfl (nm_r (nI_1 k) (ih (k + 1) 0 (by omega) (Or.inl rfl) (fun a => absurd a (by decide)) (fun _ => h0 (Or.inl rfl))))
    · refine br_f (by decide) ?_
      have good : (¬ U (ap_ro k) = 0 → ap_rk F B K P (ap_ro k)) → wY_inside_56 post (ap_l P.2) fd bu sk th kd pl am ov bv (d + 1) 1 (nI (k + 1)) := by
        intro hg
        refine ih (k + 1) 1 (by omega) (Or.inr rfl) (fun _ hall => h1 rfl (fun j a b hu => ?_)) (fun hn => h0 (Or.inr (fun hall => ?_)))
        · rcases Nat.eq_or_lt_of_le a with rfl | a
          · exact hg hu
          · exact hall j a b hu
        · rcases hn with hn | hn
          · exact absurd hn (by decide)
          · exact hn (fun j a b hu => hall j (by omega) b hu)
      refine ay_active hA (by omega) (fun hu => br_f (by decide) ?_) (fun hu => br_t rfl (nm_r (nI_1 k) (good (fun y => absurd hu y))))
      refine ay_meets hM hF hB hK hkd hk' hP hov (fun hr => br_f (by decide) (nm_r (nI_1 k) (good (fun _ => hr)))) (fun hr => br_t rfl (nm_r (nI_1 k) ?_))
      exact ih (k + 1) 0 (by omega) (Or.inl rfl) (fun a => absurd a (by decide)) (fun _ => h0 (Or.inr (fun hall => hr (hall k (Nat.le_refl k) hk' hu))))
theorem ay_ins4 {post : Int32 → Prop} {F : Nat → Nat → Int} {B : Nat → Int} {K U : Nat → Int32} {P : ap_P} (hM : ay_Pl F B pl) (hF : ∀ r i, ap_b 7 (F r i)) (hB : ∀ r, ap_b 99 (B r)) (hK : ∀ r, K r = 0 ∨ K r = 1 ∨ K r = 2)
    (hkd : ∀ k, k < 5 → kd k = K (ap_ro k)) (hA : ay_Ac U sk th) (hP : ap_pb P) (hov : ∀ i, i < 3 → ov i = ap_l (P.1 i)) :
    ∀ (d i : Nat) (f : Int32), i + d = 3 → (f = 0 ∨ f = 1) →
      (f = 1 → (∀ j, i ≤ j → j < 3 → ay_in1 P j) → (∀ j, j < 5 → ¬ U (ap_ro j) = 0 → ap_rk F B K P (ap_ro j)) → post 1) →
      (f = 0 ∨ ¬ ((∀ j, i ≤ j → j < 3 → ay_in1 P j) ∧ (∀ j, j < 5 → ¬ U (ap_ro j) = 0 → ap_rk F B K P (ap_ro j))) → post 0) →
      wY_inside_4 post (ap_l P.2) fd bu sk th kd pl am ov bv (d + 1) f (nI i) := by
  intro d
  induction d with
  | zero =>
    intro i f hi hf h1 h0
    have : i = 3 := by omega
    subst this
    refine br_t ap_g3 ⟨6, ay_ins56 hM hF hB hK hkd hA hP hov 5 0 f rfl hf (fun a b => h1 a (fun j _ _ => by omega) (fun j c => b j (Nat.zero_le j) c)) (fun a => h0 (a.imp id (fun b c => b (fun j _ d => c.2 j d))))⟩
  | succ d ih =>
    intro i f hi hf h1 h0
    have hi' : i < 3 := by omega
    refine br_f (ap_l3 i hi') ?_
    rcases hf with rfl | rfl
    · exact br_t rfl (nm_r (nI_1 i) (ih (i + 1) 0 (by omega) (Or.inl rfl) (fun a => absurd a (by decide)) (fun _ => h0 (Or.inl rfl))))
    · refine br_f (by decide) ⟨ap_in hi' (by decide), ?_⟩
      have bad : ¬ ay_in1 P i → wY_inside_4 post (ap_l P.2) fd bu sk th kd pl am ov bv (d + 1) 0 (nI (i + 1)) := fun hn =>
        ih (i + 1) 0 (by omega) (Or.inl rfl) (fun a => absurd a (by decide)) (fun _ => h0 (Or.inr (fun c => hn (c.1 i (Nat.le_refl i) hi'))))
      unfold ay_in1 at bad
      have b1 := ap_b_le (hP.1 i) (show 29106 ≤ 9000000000000000000 by decide)
      have b2 := ap_b_le (ap_b_mul (show ap_b 20 20 from by unfold ap_b; decide) (ap_pb_2 hP)) (show 20 * 2058 ≤ 9000000000000000000 by decide)
      rw [ap_cl (by omega), hov i hi', ap_l_20, ap_l_mul, ap_l_lt0 b1, ap_l_lt b2 b1]
      refine br_c (fun z => nm_r (nI_1 i) (bad (by omega))) (fun z => ⟨ap_in hi' (by decide), br_c (fun y => nm_r (nI_1 i) (bad (by omega))) (fun y => nm_r (nI_1 i) ?_)⟩)
      have gi : ay_in1 P i := ⟨by omega, by omega⟩
      refine ih (i + 1) 1 (by omega) (Or.inr rfl) (fun _ hall hall2 => h1 rfl (fun j a b => ?_) hall2) (fun hn => h0 (Or.inr (fun hall => ?_)))
      · rcases Nat.eq_or_lt_of_le a with rfl | a
        · exact gi
        · exact hall j a b
      · rcases hn with hn | hn
        · exact absurd hn (by decide)
        · exact hn ⟨fun j a b => hall.1 j (by omega) b, hall.2⟩
/-- the limits of the amounts, as rows -/
def ap_Lm (F : Nat → Nat → Int) (B : Nat → Int) (K U : Nat → Int32) : Prop :=
  ∀ i, i < 3 → (F i 0 = ap_E 1 i 0 ∧ F i 1 = ap_E 1 i 1 ∧ F i 2 = ap_E 1 i 2 ∧ B i = 0 ∧ K i = 2 ∧ ¬ U i = 0) ∧ (F (3 + i) 0 = ap_E 1 i 0 ∧ F (3 + i) 1 = ap_E 1 i 1 ∧ F (3 + i) 2 = ap_E 1 i 2 ∧ B (3 + i) = 20 ∧ K (3 + i) = 0 ∧ ¬ U (3 + i) = 0)
theorem ap_E3 (P : ap_P) : ∀ i, i < 3 → ap_E 1 i 0 * P.1 0 + ap_E 1 i 1 * P.1 1 + ap_E 1 i 2 * P.1 2 = P.1 i := by
  apply ap_lt3 <;> (unfold ap_E; simp)
theorem ap_ok_in {F : Nat → Nat → Int} {B : Nat → Int} {K U : Nat → Int32} {P : ap_P} (hL : ap_Lm F B K U) :
    ap_ok F B K U P ↔ ((∀ j, 0 ≤ j → j < 3 → ay_in1 P j) ∧ (∀ j, j < 5 → ¬ U (ap_ro j) = 0 → ap_rk F B K P (ap_ro j))) := by
  have lo : ∀ i, i < 3 → (ap_rk F B K P i ↔ 0 ≤ P.1 i) := by
    intro i hi
    obtain ⟨⟨f0, f1, f2, b, k, u⟩, _⟩ := hL i hi
    unfold ap_rk ap_ex
    rw [f0, f1, f2, b, k, ap_E3 P i hi, Int.zero_mul]
    have k2 : ¬ (2 : Int32) = 0 := by decide
    constructor
    · intro h
      apply Decidable.byContradiction
      intro hn
      exact h (Or.inr ⟨by omega, k2⟩)
    · intro h w
      exact w.elim (fun v => v.2 rfl) (fun v => by omega)
  have hi : ∀ i, i < 3 → (ap_rk F B K P (3 + i) ↔ P.1 i ≤ 20 * P.2) := by
    intro i hi
    obtain ⟨_, f0, f1, f2, b, k, u⟩ := hL i hi
    unfold ap_rk ap_ex
    rw [f0, f1, f2, b, k, ap_E3 P i hi]
    have k2 : ¬ (0 : Int32) = 2 := by decide
    constructor
    · intro h
      apply Decidable.byContradiction
      intro hn
      exact h (Or.inl ⟨by omega, k2⟩)
    · intro h w
      exact w.elim (fun v => by omega) (fun v => v.2 rfl)
  have ro : ∀ j, j < 5 → ap_ro j = 6 + j := by intro j hj; unfold ap_ro; omega
  constructor
  · intro h
    refine ⟨fun j _ hj => ⟨(lo j hj).mp (h j (by omega) (hL j hj).1.2.2.2.2.2), (hi j hj).mp (h (3 + j) (by omega) (hL j hj).2.2.2.2.2.2)⟩, fun j hj hu => h (ap_ro j) (by rw [ro j hj]; omega) hu⟩
  · intro h r hr hu
    rcases Nat.lt_or_ge r 3 with a | a
    · exact (lo r a).mpr (h.1 r (Nat.zero_le r) a).1
    · rcases Nat.lt_or_ge r 6 with b | b
      · have e : r = 3 + (r - 3) := by omega
        rw [e]
        exact (hi (r - 3) (by omega)).mpr (h.1 (r - 3) (Nat.zero_le _) (by omega)).2
      · have e : r = ap_ro (r - 6) := by rw [ro _ (by omega)]; omega
        rw [e] at hu ⊢
        exact h.2 (r - 6) (by omega) hu
theorem ay_inside {post : Int32 → Prop} {F : Nat → Nat → Int} {B : Nat → Int} {K U : Nat → Int32} {P : ap_P} (hM : ay_Pl F B pl) (hF : ∀ r i, ap_b 7 (F r i)) (hB : ∀ r, ap_b 99 (B r)) (hK : ∀ r, K r = 0 ∨ K r = 1 ∨ K r = 2)
    (hkd : ∀ k, k < 5 → kd k = K (ap_ro k)) (hA : ay_Ac U sk th) (hL : ap_Lm F B K U) (hP : ap_pb P) (hov : ∀ i, i < 3 → ov i = ap_l (P.1 i))
    (h1 : ap_ok F B K U P → post 1) (h0 : ¬ ap_ok F B K U P → post 0) : wpY_inside post (ap_l P.2, fd, bu, sk, th, kd, pl, am, ov, bv) := by
  rw [ap_ok_in hL] at h1 h0
  exact ⟨4, ay_ins4 hM hF hB hK hkd hA hP hov 3 0 1 rfl (Or.inr rfl) (fun _ a b => h1 ⟨a, b⟩) (fun a => h0 (a.resolve_left (by decide)))⟩
/-- all that the reference's searches take of the state -/
def ay_Co (F : Nat → Nat → Int) (B : Nat → Int) (K U : Nat → Int32) (sk : Int32) (th kd : Nat → Int32) (pl : Nat → Int64) : Prop :=
  (∀ r i, ap_b 7 (F r i)) ∧ (∀ r, ap_b 99 (B r)) ∧ (∀ r, K r = 0 ∨ K r = 1 ∨ K r = 2) ∧ ay_Pl F B pl ∧ (∀ k, k < 5 → kd k = K (ap_ro k)) ∧ ay_Ac U sk th ∧ ap_Lm F B K U
theorem ay_corner {post : Int32 → SY → Prop} {F : Nat → Nat → Int} {B : Nat → Int} {K U : Nat → Int32} {a b c : Nat} (hC : ay_Co F B K U sk th kd pl) (ha : a < 11) (hb : b < 11) (hc : c < 11)
    (h1 : a < b → b < c → ap_gc F B K U (ap_ro a) (ap_ro b) (ap_ro c) → ∀ ov' : Nat → Int64, (∀ i, i < 3 → ov' i = ap_l ((ap_co F B (ap_ro a) (ap_ro b) (ap_ro c)).1 i)) → post 1 (ap_l (ap_co F B (ap_ro a) (ap_ro b) (ap_ro c)).2, fd, bu, sk, th, kd, pl, am, ov', bv))
    (h0 : ¬ (a < b ∧ b < c ∧ ap_gc F B K U (ap_ro a) (ap_ro b) (ap_ro c)) → ∀ (un' : Int64) (ov' : Nat → Int64), post 0 (un', fd, bu, sk, th, kd, pl, am, ov', bv)) :
    wpY_corner post (un, fd, bu, sk, th, kd, pl, am, ov, bv) (nI (121 * a + 11 * b + c)) := by
  obtain ⟨hF, hB, hK, hM, hkd, hA, hL⟩ := hC
  have e1 : nI (121 * a + 11 * b + c) / 121 = nI a := by
    show _ / nI 121 = _
    rw [pk_div (by omega) (by decide) (by decide)]; congr 1; omega
  have e2 : nI (121 * a + 11 * b + c) / 11 - nI (121 * a + 11 * b + c) / 11 / 11 * 11 = nI b := by
    show nI (121 * a + 11 * b + c) / nI 11 - nI (121 * a + 11 * b + c) / nI 11 / nI 11 * nI 11 = _
    rw [pk_div (by omega) (by decide) (by decide), pk_rem (by omega) (by decide) (by decide)]; congr 1; omega
  have e3 : nI (121 * a + 11 * b + c) - nI (121 * a + 11 * b + c) / 11 * 11 = nI c := by
    show nI (121 * a + 11 * b + c) - nI (121 * a + 11 * b + c) / nI 11 * nI 11 = _
    rw [pk_rem (by omega) (by decide) (by decide)]; congr 1; omega
  refine ⟨by decide, nm_r e1 ⟨by decide, by decide, nm_r e2 ⟨by decide, nm_r e3 ?_⟩⟩⟩
  rw [nI_leI (by omega) (by omega), nI_leI (by omega) (by omega)]
  refine br_c (fun z => h0 (by omega) _ _) (fun z1 => br_c (fun z => h0 (by omega) _ _) (fun z2 => ?_))
  refine ay_active hA ha (fun u1 => br_f (by decide) ?_) (fun u1 => br_t rfl (h0 (fun w => w.2.2.1 u1) _ _))
  refine ay_active hA hb (fun u2 => br_f (by decide) ?_) (fun u2 => br_t rfl (h0 (fun w => w.2.2.2.1 u2) _ _))
  refine ay_active hA hc (fun u3 => br_f (by decide) ?_) (fun u3 => br_t rfl (h0 (fun w => w.2.2.2.2.1 u3) _ _))
  refine ay_meet hM hF ha hb hc (fun d => br_t rfl (h0 (fun w => w.2.2.2.2.2.1 d) _ _)) (fun d ov' hov => br_f (by decide) ?_)
  refine ay_inside hM hF hB hK hkd hA hL (ap_co_pb hF hB d) hov (fun ho => br_f (by decide) (h1 (by omega) (by omega) ⟨u1, u2, u3, d, ho⟩ ov' hov)) (fun ho => br_t rfl (h0 (fun w => ho w.2.2.2.2.2.2) _ _))
end
end
section
/-! the reference's searches -/
def ay_S (F : Nat → Nat → Int) (B : Nat → Int) (K U : Nat → Int32) (n : Nat) (P : ap_P) : Prop :=
  ∃ a b c, a < b ∧ b < c ∧ c < 11 ∧ 121 * a + 11 * b + c < n ∧ ap_gc F B K U (ap_ro a) (ap_ro b) (ap_ro c) ∧ P = ap_co F B (ap_ro a) (ap_ro b) (ap_ro c)
theorem ap_ro_lo {a : Nat} (h : a < 5) : ap_ro a = a + 6 := by unfold ap_ro; omega
theorem ap_ro_hi {a : Nat} (h : 5 ≤ a) (h' : a < 11) : ap_ro a = a - 5 := by unfold ap_ro; omega
theorem ay_S_e {F : Nat → Nat → Int} {B : Nat → Int} {K U : Nat → Int32} (P : ap_P) : ay_S F B K U 1331 P ↔ ap_C F B K U P := by
  constructor
  · rintro ⟨a, b, c, h1, h2, h3, h4, h5, h6⟩
    rcases Nat.lt_or_ge c 5 with z | z
    · rw [ap_ro_lo (by omega), ap_ro_lo (by omega), ap_ro_lo z] at h5 h6
      exact ⟨a + 6, b + 6, c + 6, by omega, by omega, by omega, h5, h6⟩
    · rcases Nat.lt_or_ge b 5 with y | y
      · rw [ap_ro_lo (by omega), ap_ro_lo y, ap_ro_hi z h3] at h5 h6
        rw [ap_gc_cy] at h5; rw [ap_co_cy] at h6
        exact ⟨c - 5, a + 6, b + 6, by omega, by omega, by omega, h5, h6⟩
      · rcases Nat.lt_or_ge a 5 with x | x
        · rw [ap_ro_lo x, ap_ro_hi y (by omega), ap_ro_hi z h3] at h5 h6
          rw [← ap_gc_cy] at h5; rw [← ap_co_cy] at h6
          exact ⟨b - 5, c - 5, a + 6, by omega, by omega, by omega, h5, h6⟩
        · rw [ap_ro_hi x (by omega), ap_ro_hi y (by omega), ap_ro_hi z h3] at h5 h6
          exact ⟨a - 5, b - 5, c - 5, by omega, by omega, by omega, h5, h6⟩
  · rintro ⟨p, q, r, h1, h2, h3, h5, h6⟩
    have lo : ∀ x, x < 6 → ap_ro (x + 5) = x := by intro x hx; unfold ap_ro; omega
    have hi : ∀ x, 6 ≤ x → x < 11 → ap_ro (x - 6) = x := by intro x hx hx'; unfold ap_ro; omega
    rcases Nat.lt_or_ge r 6 with z | z
    · refine ⟨p + 5, q + 5, r + 5, by omega, by omega, by omega, by omega, ?_, ?_⟩
      · rw [lo p (by omega), lo q (by omega), lo r z]; exact h5
      · rw [lo p (by omega), lo q (by omega), lo r z]; exact h6
    · rcases Nat.lt_or_ge q 6 with y | y
      · refine ⟨r - 6, p + 5, q + 5, by omega, by omega, by omega, by omega, ?_, ?_⟩
        · rw [lo p (by omega), lo q y, hi r z h3, ← ap_gc_cy]; exact h5
        · rw [lo p (by omega), lo q y, hi r z h3, ← ap_co_cy]; exact h6
      · rcases Nat.lt_or_ge p 6 with x | x
        · refine ⟨q - 6, r - 6, p + 5, by omega, by omega, by omega, by omega, ?_, ?_⟩
          · rw [lo p x, hi q y (by omega), hi r z h3, ap_gc_cy]; exact h5
          · rw [lo p x, hi q y (by omega), hi r z h3, ap_co_cy]; exact h6
        · refine ⟨p - 6, q - 6, r - 6, by omega, by omega, by omega, by omega, ?_, ?_⟩
          · rw [hi p x (by omega), hi q y (by omega), hi r z h3]; exact h5
          · rw [hi p x (by omega), hi q y (by omega), hi r z h3]; exact h6
theorem ay_S_pb {F : Nat → Nat → Int} {B : Nat → Int} {K U : Nat → Int32} {n : Nat} {P : ap_P} (hF : ∀ r i, ap_b 7 (F r i)) (hB : ∀ r, ap_b 99 (B r)) (h : ay_S F B K U n P) : ap_pb P := by
  obtain ⟨p', q', r', _, _, _, _, h5, rfl⟩ := h
  exact ap_co_pb hF hB h5.2.2.2.1
theorem ap_C_pb {F : Nat → Nat → Int} {B : Nat → Int} {K U : Nat → Int32} {P : ap_P} (hF : ∀ r i, ap_b 7 (F r i)) (hB : ∀ r, ap_b 99 (B r)) (h : ap_C F B K U P) : ap_pb P :=
  ay_S_pb hF hB ((ay_S_e P).mpr h)
theorem ay_S_no {F : Nat → Nat → Int} {B : Nat → Int} {K U : Nat → Int32} {a b c : Nat} (hb : b < 11) (hc : c < 11) (hg : ¬ (a < b ∧ b < c ∧ ap_gc F B K U (ap_ro a) (ap_ro b) (ap_ro c))) (P : ap_P) :
    ay_S F B K U (121 * a + 11 * b + c + 1) P ↔ ay_S F B K U (121 * a + 11 * b + c) P := by
  constructor
  · rintro ⟨p', q', r', h1, h2, h3, h4, h5, h6⟩
    refine ⟨p', q', r', h1, h2, h3, ?_, h5, h6⟩
    rcases Decidable.em (p' = a ∧ q' = b ∧ r' = c) with ⟨rfl, rfl, rfl⟩ | hn
    · exact absurd ⟨h1, h2, h5⟩ hg
    · omega
  · rintro ⟨p', q', r', h1, h2, h3, h4, h5, h6⟩
    exact ⟨p', q', r', h1, h2, h3, by omega, h5, h6⟩
theorem ay_S_yes {F : Nat → Nat → Int} {B : Nat → Int} {K U : Nat → Int32} {a b c : Nat} (hb : b < 11) (hc : c < 11) (h1 : a < b) (h2 : b < c) (hg : ap_gc F B K U (ap_ro a) (ap_ro b) (ap_ro c)) (P : ap_P) :
    ay_S F B K U (121 * a + 11 * b + c + 1) P ↔ ay_S F B K U (121 * a + 11 * b + c) P ∨ P = ap_co F B (ap_ro a) (ap_ro b) (ap_ro c) := by
  constructor
  · rintro ⟨p', q', r', g1, g2, g3, g4, g5, g6⟩
    rcases Decidable.em (p' = a ∧ q' = b ∧ r' = c) with ⟨rfl, rfl, rfl⟩ | hn
    · exact Or.inr g6
    · exact Or.inl ⟨p', q', r', g1, g2, g3, by omega, g5, g6⟩
  · rintro (⟨p', q', r', g1, g2, g3, g4, g5, g6⟩ | rfl)
    · exact ⟨p', q', r', g1, g2, g3, by omega, g5, g6⟩
    · exact ⟨a, b, c, h1, h2, hc, by omega, hg, rfl⟩
def ay_SI (bt : ap_P → ap_P → Prop) (S : ap_P → Prop) (fd : Int32) (bu : Int64) (bv : Nat → Int64) : Prop :=
  ∃ (m : Nat) (Q : ap_P), fd = nI m ∧ m ≤ 1 ∧ ap_inv bt S m Q ∧ (m ≠ 0 → ap_pb Q ∧ (∀ i, i < 3 → bv i = ap_l (Q.1 i)) ∧ bu = ap_l Q.2)
theorem ay_SI_cg {bt : ap_P → ap_P → Prop} {S S' : ap_P → Prop} {fd : Int32} {bu : Int64} {bv : Nat → Int64} (h : ∀ c, S' c ↔ S c) (i : ay_SI bt S fd bu bv) : ay_SI bt S' fd bu bv := by
  obtain ⟨m, Q, h1, h2, h3, h4⟩ := i
  exact ⟨m, Q, h1, h2, ap_inv_cg h h3, h4⟩
theorem ay_SI_0 {bt : ap_P → ap_P → Prop} {S : ap_P → Prop} {bu : Int64} {bv : Nat → Int64} (h : ∀ c, ¬ S c) : ay_SI bt S 0 bu bv :=
  ⟨0, (fun _ => 0, 0), rfl, Nat.zero_le _, ⟨fun _ => h, fun z => absurd rfl z⟩, fun z => absurd rfl z⟩
section
variable {un : Int64} {fd : Int32} {bu : Int64} {sk : Int32} {th kd : Nat → Int32} {pl : Nat → Int64} {am : Nat → Int32} {ov bv : Nat → Int64}
theorem ay_worth {post : Int64 → Prop} {P : ap_P} (hov : ∀ i, i < 3 → ov i = ap_l (P.1 i)) (h : post (ap_l (ap_w (ap_G am) P))) : wpY_worth post (un, fd, bu, sk, th, kd, pl, am, ov, bv) := by
  unfold wpY_worth; dsimp only
  rw [hov 0 (by decide), hov 1 (by decide), hov 2 (by decide), ap_x_l, ap_x_l, ap_x_l]
  simp only [ap_l_mul, ap_l_add]
  exact h
theorem ay_bestWorth {post : Int64 → Prop} {P : ap_P} (hbv : ∀ i, i < 3 → bv i = ap_l (P.1 i)) (h : post (ap_l (ap_w (ap_G am) P))) : wpY_bestWorth post (un, fd, bu, sk, th, kd, pl, am, ov, bv) := by
  unfold wpY_bestWorth; dsimp only
  rw [hbv 0 (by decide), hbv 1 (by decide), hbv 2 (by decide), ap_x_l, ap_x_l, ap_x_l]
  simp only [ap_l_mul, ap_l_add]
  exact h
theorem ay_k15 {post : SY → Prop} {i n : Nat} (hi : i < 3) (h : wY_keep_15 post un fd bu sk n (nI (i + 1)) th kd pl am ov (vp_updL bv i (ov i))) :
    wY_keep_15 post un fd bu sk (n + 1) (nI i) th kd pl am ov bv := by
  refine br_f (ap_l3 i hi) ⟨ap_in hi (by decide), ap_in hi (by decide), nm_r ?_ (nm_r (nI_1 i) h)⟩
  rw [ap_cl (by omega)]
theorem ay_keep {post : SY → Prop} (h : ∀ bv' : Nat → Int64, (∀ i, i < 3 → bv' i = ov i) → post (un, 1, un, sk, th, kd, pl, am, ov, bv')) : wpY_keep post (un, fd, bu, sk, th, kd, pl, am, ov, bv) := by
  refine ⟨4, ay_k15 (i := 0) (by decide) (ay_k15 (i := 1) (by decide) (ay_k15 (i := 2) (by decide) (br_t ap_g3 (h _ ?_))))⟩
  exact ap_lt3 (by rw [pk_uLn (by decide), pk_uLn (by decide), pk_uLs]) (by rw [pk_uLn (by decide), pk_uLs]) (by rw [pk_uLs])
theorem ay_b63 {post : Int32 → Prop} {g : Int} (hb : ap_b 9000000000000000000 g) (h1 : 0 < g → post 1) (h0 : ¬ 0 < g → post 0) : wY_better_63 post (ap_l g) un fd bu sk th kd pl am ov bv :=
  br_c (fun z => h0 (by rw [ap_l_le0 hb] at z; omega)) (fun z => h1 (by rw [ap_l_le0 hb] at z; omega))
theorem ay_b22 {post : Int32 → Prop} {P Q : ap_P} {i n : Nat} {g : Int} (hi : i < 3) (hb : ap_b 9000000000000000000 g) (hov : ∀ i, i < 3 → ov i = ap_l (P.1 i)) (hbv : ∀ i, i < 3 → bv i = ap_l (Q.1 i))
    (h1 : 0 < g → post 1) (h0 : g < 0 → post 0) (h : g = 0 → wY_better_22 post (ap_l P.2) fd (ap_l Q.2) sk th kd pl am ov bv n (ap_l (ap_gi i P Q)) (nI (i + 1))) :
    wY_better_22 post (ap_l P.2) fd (ap_l Q.2) sk th kd pl am ov bv (n + 1) (ap_l g) (nI i) := by
  refine br_f (ap_l3 i hi) (br_c (fun z => ⟨ap_in hi (by decide), ap_in hi (by decide), nm_r ?_ (nm_r (nI_1 i) (h ((ap_l_eq0 hb).mp z)))⟩) (fun z => ay_b63 hb h1 (fun y => h0 ?_)))
  · rw [ap_cl (by omega), hov i hi, hbv i hi, ap_l_mul, ap_l_mul, ap_l_sub]; rfl
  · rw [ap_l_eq0 hb] at z; omega
theorem ay_better {post : Int32 → Prop} {P Q : ap_P} (hA : ∀ i, ap_b 7 (ap_G am i)) (hP : ap_pb P) (hQ : ap_pb Q) (hov : ∀ i, i < 3 → ov i = ap_l (P.1 i)) (hbv : ∀ i, i < 3 → bv i = ap_l (Q.1 i))
    (h1 : ap_bt (ap_G am) P Q → post 1) (h0 : ¬ ap_bt (ap_G am) P Q → post 0) : wpY_better post (ap_l P.2, fd, ap_l Q.2, sk, th, kd, pl, am, ov, bv) := by
  unfold wpY_better; dsimp only
  unfold ap_bt at h1 h0
  refine ay_worth hov (ay_bestWorth hbv (nm_r (e' := ap_l (ap_g0 (ap_G am) P Q)) ?_ ⟨4, ?_⟩))
  · rw [ap_l_mul, ap_l_mul, ap_l_sub]; rfl
  · have hb := ap_b_le (ap_g0_b hA hP hQ) (show 2515806216 ≤ 9000000000000000000 by decide)
    have hi := fun i => ap_b_le (ap_gi_b hP hQ i) (show 119800296 ≤ 9000000000000000000 by decide)
    refine ay_b22 (i := 0) (by decide) hb hov hbv (fun a => h1 (by omega)) (fun a => h0 (by omega)) (fun a0 => ?_)
    refine ay_b22 (i := 1) (by decide) (hi 0) hov hbv (fun a => h1 (by omega)) (fun a => h0 (by omega)) (fun a1 => ?_)
    refine ay_b22 (i := 2) (by decide) (hi 1) hov hbv (fun a => h1 (by omega)) (fun a => h0 (by omega)) (fun a2 => ?_)
    exact br_t ap_g3 (ay_b63 (hi 2) (fun a => h1 (by omega)) (fun a => h0 (by omega)))
theorem ay_l1331 (n : Nat) (h : n < 1331) : ¬ (1331 : Int32) ≤ nI n := nI_ge (b := 1331) h (by decide)
theorem ay_g1331 : (1331 : Int32) ≤ nI 1331 := by decide
theorem ay_s7 {post : SY → Prop} {F : Nat → Nat → Int} {B : Nat → Int} {K U : Nat → Int32} (hC : ay_Co F B K U sk th kd pl) (hA : ∀ i, ap_b 7 (ap_G am i))
    (h : ∀ (un : Int64) (fd : Int32) (bu : Int64) (ov bv : Nat → Int64), ay_SI (ap_bt (ap_G am)) (ap_C F B K U) fd bu bv → post (un, fd, bu, sk, th, kd, pl, am, ov, bv)) :
    ∀ (d n : Nat) (un : Int64) (fd : Int32) (bu : Int64) (ov bv : Nat → Int64), n + d = 1331 → ay_SI (ap_bt (ap_G am)) (ay_S F B K U n) fd bu bv → wY_search_7 post (d + 1) (nI n) un fd bu sk th kd pl am ov bv := by
  intro d
  induction d with
  | zero =>
    intro n un fd bu ov bv hn hi
    have : n = 1331 := by omega
    subst this
    exact br_t ay_g1331 (h _ _ _ _ _ (ay_SI_cg (fun c => (ay_S_e c).symm) hi))
  | succ d ih =>
    intro n un fd bu ov bv hn hi
    have hn' : n < 1331 := by omega
    refine br_f (ay_l1331 n hn') ?_
    obtain ⟨a, b, c, ha, hb, hc, e⟩ : ∃ a b c, a < 11 ∧ b < 11 ∧ c < 11 ∧ n = 121 * a + 11 * b + c := ⟨n / 121, n / 11 % 11, n % 11, by omega, by omega, by omega, by omega⟩
    subst e
    have hCo := hC
    obtain ⟨hF, hB, _⟩ := hCo
    refine ay_corner hC ha hb hc (fun h1 h2 hg ov' hov => br_f (by decide) ?_) (fun hg un' ov' => br_t rfl (nm_r (nI_1 _) (ih _ _ _ _ _ _ (by omega) (ay_SI_cg (ay_S_no hb hc hg) hi))))
    have hP : ap_pb (ap_co F B (ap_ro a) (ap_ro b) (ap_ro c)) := ap_co_pb hF hB hg.2.2.2.1
    have hS := ay_S_yes (F := F) (B := B) (K := K) (U := U) hb hc h1 h2 hg
    obtain ⟨m, Q, rfl, m1, h3, h4⟩ := hi
    have kp : (m = 0 ∨ ap_bt (ap_G am) (ap_co F B (ap_ro a) (ap_ro b) (ap_ro c)) Q) → wY_search_36 post (wY_search_7 post (d + 1)) (nI (121 * a + 11 * b + c)) (ap_l (ap_co F B (ap_ro a) (ap_ro b) (ap_ro c)).2) (nI m) bu sk th kd pl am ov' bv := by
      intro hb'
      unfold wY_search_36
      refine ay_keep (fun bv' hbv => nm_r (nI_1 _) (ih _ _ _ _ _ _ (by omega) ⟨1, _, rfl, Nat.le_refl 1, ap_inv_new h3 hS (by decide) (ap_bt_ir _ _) ?_ hb', fun _ => ⟨hP, fun i hi => (hbv i hi).trans (hov i hi), rfl⟩⟩))
      exact fun c hc hk x y => ap_bt_tr (ay_S_pb hF hB hc).2.1 hP.2.1 (ay_S_pb hF hB hk).2.1 x y
    refine br_c (fun z => kp (Or.inl ?_)) (fun z => ?_)
    · rw [ap_i_n, ap_i_eq0 (ap_b_n (by omega))] at z; omega
    · have z' : m ≠ 0 := by intro y; subst y; exact z rfl
      obtain ⟨q1, q2, q3⟩ := h4 z'
      subst q3
      refine ay_better hA hP q1 hov q2 (fun b => br_f (by decide) (kp (Or.inr b))) (fun b => br_t rfl (nm_r (nI_1 _) (ih _ _ _ _ _ _ (by omega) ?_)))
      exact ⟨m, Q, rfl, m1, ap_inv_keep h3 hS z' z' b, h4⟩
theorem ay_SI_fin {post : SY → Prop} {bt : ap_P → ap_P → Prop} {S : ap_P → Prop} (i : ay_SI bt S fd bu bv)
    (h0 : (∀ c, ¬ S c) → fd = 0 → post (un, fd, bu, sk, th, kd, pl, am, ov, bv)) (h1 : ∀ Q, S Q → (∀ c, S c → ¬ bt c Q) → ap_pb Q → (∀ i, i < 3 → bv i = ap_l (Q.1 i)) → bu = ap_l Q.2 → fd = 1 → post (un, fd, bu, sk, th, kd, pl, am, ov, bv)) : post (un, fd, bu, sk, th, kd, pl, am, ov, bv) := by
  obtain ⟨m, Q, rfl, m1, h3, h4⟩ := i
  by_cases z : m = 0
  · subst z; exact h0 (h3.1 rfl) rfl
  · obtain ⟨q1, q2, q3⟩ := h4 z
    obtain ⟨s1, s2⟩ := h3.2 z
    have : m = 1 := by omega
    subst this
    exact h1 Q s1 s2 q1 q2 q3 rfl
theorem ay_search {post : SY → Prop} {F : Nat → Nat → Int} {B : Nat → Int} {K U : Nat → Int32} (hC : ay_Co F B K U sk th kd pl) (hA : ∀ i, ap_b 7 (ap_G am i))
    (h0 : ∀ (un : Int64) (bu : Int64) (ov bv : Nat → Int64), (∀ c, ¬ ap_C F B K U c) → post (un, 0, bu, sk, th, kd, pl, am, ov, bv))
    (h1 : ∀ (un : Int64) (ov bv : Nat → Int64) (Q : ap_P), ap_C F B K U Q → (∀ c, ap_C F B K U c → ¬ ap_bt (ap_G am) c Q) → ap_pb Q → (∀ i, i < 3 → bv i = ap_l (Q.1 i)) → post (un, 1, ap_l Q.2, sk, th, kd, pl, am, ov, bv)) :
    wpY_search post (un, fd, bu, sk, th, kd, pl, am, ov, bv) := by
  refine ⟨1332, ay_s7 hC hA (fun un fd bu ov bv hi => ay_SI_fin hi (fun a b => ?_) (fun Q a b c d e f => ?_)) 1331 0 _ _ _ _ _ rfl (ay_SI_0 (fun c hc => ?_))⟩
  · subst b; exact h0 _ _ _ _ a
  · subst e; subst f; exact h1 _ _ _ Q a b c d
  · obtain ⟨_, _, _, _, _, _, h4, _⟩ := hc; omega
/-! reach -/
theorem ay_r7 {post : SY → Prop} {F : Nat → Nat → Int} {B : Nat → Int} {K U : Nat → Int32} {j : Nat} {w : Int32} {s : Int} (hs : (w = 0 ∧ s = -1) ∨ (¬ w = 0 ∧ s = 1)) (hj : j < 3) (hC : ay_Co F B K U sk th kd pl)
    (h : ∀ (un : Int64) (fd : Int32) (bu : Int64) (ov bv : Nat → Int64), ay_SI (ap_br s j) (ap_C F B K U) fd bu bv → post (un, fd, bu, sk, th, kd, pl, am, ov, bv)) :
    ∀ (d n : Nat) (un : Int64) (fd : Int32) (bu : Int64) (ov bv : Nat → Int64), n + d = 1331 → ay_SI (ap_br s j) (ay_S F B K U n) fd bu bv → wY_reach_7 post (nI j) w (d + 1) (nI n) un fd bu sk th kd pl am ov bv := by
  intro d
  induction d with
  | zero =>
    intro n un fd bu ov bv hn hi
    have : n = 1331 := by omega
    subst this
    exact br_t ay_g1331 (h _ _ _ _ _ (ay_SI_cg (fun c => (ay_S_e c).symm) hi))
  | succ d ih =>
    intro n un fd bu ov bv hn hi
    have hn' : n < 1331 := by omega
    refine br_f (ay_l1331 n hn') ?_
    obtain ⟨a, b, c, ha, hb, hc, e⟩ : ∃ a b c, a < 11 ∧ b < 11 ∧ c < 11 ∧ n = 121 * a + 11 * b + c := ⟨n / 121, n / 11 % 11, n % 11, by omega, by omega, by omega, by omega⟩
    subst e
    have hCo := hC
    obtain ⟨hF, hB, _⟩ := hCo
    refine ay_corner hC ha hb hc (fun h1 h2 hg ov' hov => br_f (by decide) ?_) (fun hg un' ov' => br_t rfl (nm_r (nI_1 _) (ih _ _ _ _ _ _ (by omega) (ay_SI_cg (ay_S_no hb hc hg) hi))))
    have hP : ap_pb (ap_co F B (ap_ro a) (ap_ro b) (ap_ro c)) := ap_co_pb hF hB hg.2.2.2.1
    have hS := ay_S_yes (F := F) (B := B) (K := K) (U := U) hb hc h1 h2 hg
    obtain ⟨m, Q, rfl, m1, h3, h4⟩ := hi
    have kp : (m = 0 ∨ ap_br s j (ap_co F B (ap_ro a) (ap_ro b) (ap_ro c)) Q) → wY_reach_86 post (wY_reach_7 post (nI j) w (d + 1)) (nI j) w (nI (121 * a + 11 * b + c)) (ap_l (ap_co F B (ap_ro a) (ap_ro b) (ap_ro c)).2) (nI m) bu sk th kd pl am ov' bv := by
      intro hb'
      unfold wY_reach_86
      refine ay_keep (fun bv' hbv => nm_r (nI_1 _) (ih _ _ _ _ _ _ (by omega) ⟨1, _, rfl, Nat.le_refl 1, ap_inv_new h3 hS (by decide) (ap_br_ir _ _ _) ?_ hb', fun _ => ⟨hP, fun i hi => (hbv i hi).trans (hov i hi), rfl⟩⟩))
      exact fun c hc hk x y => ap_br_tr (ay_S_pb hF hB hc).2.1 hP.2.1 (ay_S_pb hF hB hk).2.1 x y
    have em : nI m = 0 ↔ m = 0 := by rw [ap_i_n, ap_i_eq0 (ap_b_n (by omega))]; omega
    refine br_c (fun z => ?_) (fun z => ⟨ap_in hj (by decide), ap_in hj (by decide), ?_⟩)
    · exact br_t z (kp (Or.inl (em.mp z)))
    · have z' : m ≠ 0 := fun y => z (em.mpr y)
      obtain ⟨q1, q2, q3⟩ := h4 z'
      subst q3
      have stay : ¬ ap_br s j (ap_co F B (ap_ro a) (ap_ro b) (ap_ro c)) Q → wY_reach_7 post (nI j) w (d + 1) (nI (121 * a + 11 * b + c + 1)) (ap_l (ap_co F B (ap_ro a) (ap_ro b) (ap_ro c)).2) (nI m) (ap_l Q.2) sk th kd pl am ov' bv :=
        fun hn => ih _ _ _ _ _ _ (by omega) ⟨m, Q, rfl, m1, ap_inv_keep h3 hS z' z' hn, h4⟩
      rw [ap_cl (by omega), hov j hj, q2 j hj, ap_l_mul, ap_l_mul, ap_l_sub]
      have hgb := ap_b_neg (ap_b_le (ap_gi_b hP q1 j) (show 119800296 ≤ 9000000000000000000 by decide))
      have e : (ap_co F B (ap_ro a) (ap_ro b) (ap_ro c)).1 j * Q.2 - Q.1 j * (ap_co F B (ap_ro a) (ap_ro b) (ap_ro c)).2 = - ap_gi j (ap_co F B (ap_ro a) (ap_ro b) (ap_ro c)) Q := by unfold ap_gi; omega
      unfold ap_br at kp stay
      rw [e] at kp stay ⊢
      generalize - ap_gi j (ap_co F B (ap_ro a) (ap_ro b) (ap_ro c)) Q = g at *
      refine br_f z ?_
      rcases hs with ⟨rfl, rfl⟩ | ⟨hw, rfl⟩
      · refine br_t rfl (br_c (fun y => nm_r (nI_1 _) (stay ?_)) (fun y => kp (Or.inr ?_)))
        · rw [ap_l_0le hgb] at y; omega
        · rw [ap_l_0le hgb] at y; omega
      · refine br_f hw (br_c (fun y => nm_r (nI_1 _) (stay ?_)) (fun y => kp (Or.inr ?_)))
        · rw [ap_l_le0 hgb] at y; omega
        · rw [ap_l_le0 hgb] at y; omega
theorem ay_reach {post : SY → Prop} {F : Nat → Nat → Int} {B : Nat → Int} {K U : Nat → Int32} {j : Nat} {w : Int32} {s : Int} (hs : (w = 0 ∧ s = -1) ∨ (¬ w = 0 ∧ s = 1)) (hj : j < 3) (hC : ay_Co F B K U sk th kd pl)
    (h0 : ∀ (un : Int64) (bu : Int64) (ov bv : Nat → Int64), (∀ c, ¬ ap_C F B K U c) → post (un, 0, bu, sk, th, kd, pl, am, ov, bv))
    (h1 : ∀ (un : Int64) (ov bv : Nat → Int64) (Q : ap_P), ap_C F B K U Q → (∀ c, ap_C F B K U c → ¬ ap_br s j c Q) → ap_pb Q → (∀ i, i < 3 → bv i = ap_l (Q.1 i)) → post (un, 1, ap_l Q.2, sk, th, kd, pl, am, ov, bv)) :
    wpY_reach post (un, fd, bu, sk, th, kd, pl, am, ov, bv) (nI j) w := by
  refine ⟨1332, ay_r7 hs hj hC (fun un fd bu ov bv hi => ay_SI_fin hi (fun a b => ?_) (fun Q a b c d e f => ?_)) 1331 0 _ _ _ _ _ rfl (ay_SI_0 (fun c hc => ?_))⟩
  · subst b; exact h0 _ _ _ _ a
  · subst e; subst f; exact h1 _ _ _ Q a b c d
  · obtain ⟨_, _, _, _, _, _, h4, _⟩ := hc; omega
/-! redundant -/
theorem ay_rd13 {post : Int32 → SY → Prop} {F : Nat → Nat → Int} {B : Nat → Int} {K U : Nat → Int32} {k : Nat} (hk : k < 5) (hC : ay_Co F B K U sk th kd pl)
    (h1 : ∀ (un : Int64) (ov : Nat → Int64), (∀ c, ap_C F B K U c → ap_rk F B K c (ap_ro k)) → post 1 (un, fd, bu, (-1), th, kd, pl, am, ov, bv))
    (h0 : ∀ (un : Int64) (ov : Nat → Int64), ¬ (∀ c, ap_C F B K U c → ap_rk F B K c (ap_ro k)) → post 0 (un, fd, bu, (-1), th, kd, pl, am, ov, bv)) :
    ∀ (d n : Nat) (f : Int32) (un : Int64) (ov : Nat → Int64), n + d = 1331 → ((f = 1 ∧ ∀ c, ay_S F B K U n c → ap_rk F B K c (ap_ro k)) ∨ (f = 0 ∧ ¬ (∀ c, ap_C F B K U c → ap_rk F B K c (ap_ro k)))) → wY_redundant_13 post (nI k) (d + 1) f (nI n) un fd bu sk th kd pl am ov bv := by
  intro d
  induction d with
  | zero =>
    intro n f un ov hn hi
    have : n = 1331 := by omega
    subst this
    rcases hi with ⟨rfl, hi⟩ | ⟨rfl, hi⟩
    · exact br_t ay_g1331 ⟨rfl, h1 _ _ (fun c hc => hi c ((ay_S_e c).mpr hc))⟩
    · exact br_t ay_g1331 ⟨rfl, h0 _ _ hi⟩
  | succ d ih =>
    intro n f un ov hn hi
    have hn' : n < 1331 := by omega
    refine br_f (ay_l1331 n hn') ?_
    rcases hi with ⟨rfl, hi⟩ | ⟨rfl, hi⟩
    · refine br_f (by decide) ?_
      obtain ⟨a, b, c, ha, hb, hc, e⟩ : ∃ a b c, a < 11 ∧ b < 11 ∧ c < 11 ∧ n = 121 * a + 11 * b + c := ⟨n / 121, n / 11 % 11, n % 11, by omega, by omega, by omega, by omega⟩
      subst e
      have hCo := hC
      obtain ⟨hF, hB, hK, hM, hkd, _⟩ := hCo
      refine ay_corner hC ha hb hc (fun g1 g2 hg ov' hov => br_f (by decide) ?_) (fun hg un' ov' => br_t rfl (nm_r (nI_1 _) (ih _ _ _ _ (by omega) (Or.inl ⟨rfl, fun c' hc' => hi c' ((ay_S_no hb hc hg c').mp hc')⟩))))
      have hP : ap_pb (ap_co F B (ap_ro a) (ap_ro b) (ap_ro c)) := ap_co_pb hF hB hg.2.2.2.1
      have hS := ay_S_yes (F := F) (B := B) (K := K) (U := U) hb hc g1 g2 hg
      refine ay_meets hM hF hB hK hkd hk hP hov (fun hr => br_f (by decide) (nm_r (nI_1 _) (ih _ _ _ _ (by omega) (Or.inl ⟨rfl, fun c' hc' => ?_⟩)))) (fun hr => br_t rfl (nm_r (nI_1 _) (ih _ _ _ _ (by omega) (Or.inr ⟨rfl, fun hall => hr (hall _ ?_)⟩))))
      · rcases (hS c').mp hc' with x | rfl
        · exact hi c' x
        · exact hr
      · exact (ay_S_e _).mp ⟨a, b, c, g1, g2, hc, by omega, hg, rfl⟩
    · exact br_t rfl ⟨rfl, h0 _ _ hi⟩
end
end
section
/-! the reference: whole places, divisor -/
def ay_q (n : Nat) : ap_P := ap_wp (n % 21) (n / 21 % 21) (n / 441)
theorem ay_q_pb {n : Nat} (h : n < 9261) : ap_pb (ay_q n) := ap_wp_pb (by omega) (by omega) (by omega)
def ay_SW (F : Nat → Nat → Int) (B : Nat → Int) (K U : Nat → Int32) (n : Nat) (P : ap_P) : Prop := ∃ j, j < n ∧ j < 9261 ∧ ap_ok F B K U (ay_q j) ∧ P = ay_q j
theorem ay_SW_e {F : Nat → Nat → Int} {B : Nat → Int} {K U : Nat → Int32} (P : ap_P) : ay_SW F B K U 9261 P ↔ ap_W F B K U P := by
  constructor
  · rintro ⟨j, _, h2, h3, h4⟩
    exact ⟨j % 21, j / 21 % 21, j / 441, by omega, by omega, by omega, h3, h4⟩
  · rintro ⟨a, b, c, ha, hb, hc, h3, h4⟩
    have e : ay_q (a + 21 * b + 441 * c) = ap_wp a b c := by
      unfold ay_q
      rw [show (a + 21 * b + 441 * c) % 21 = a by omega, show (a + 21 * b + 441 * c) / 21 % 21 = b by omega, show (a + 21 * b + 441 * c) / 441 = c by omega]
    exact ⟨a + 21 * b + 441 * c, by omega, by omega, by rw [e]; exact h3, by rw [e]; exact h4⟩
theorem ay_SW_no {F : Nat → Nat → Int} {B : Nat → Int} {K U : Nat → Int32} {n : Nat} (hg : ¬ ap_ok F B K U (ay_q n)) (P : ap_P) : ay_SW F B K U (n + 1) P ↔ ay_SW F B K U n P := by
  constructor
  · rintro ⟨j, h1, h2, h3, h4⟩
    refine ⟨j, ?_, h2, h3, h4⟩
    rcases Decidable.em (j = n) with rfl | hn
    · exact absurd h3 hg
    · omega
  · rintro ⟨j, h1, h2, h3, h4⟩
    exact ⟨j, by omega, h2, h3, h4⟩
theorem ay_SW_yes {F : Nat → Nat → Int} {B : Nat → Int} {K U : Nat → Int32} {n : Nat} (hn : n < 9261) (hg : ap_ok F B K U (ay_q n)) (P : ap_P) : ay_SW F B K U (n + 1) P ↔ ay_SW F B K U n P ∨ P = ay_q n := by
  constructor
  · rintro ⟨j, h1, h2, h3, h4⟩
    rcases Decidable.em (j = n) with rfl | hn
    · exact Or.inr h4
    · exact Or.inl ⟨j, by omega, h2, h3, h4⟩
  · rintro (⟨j, h1, h2, h3, h4⟩ | rfl)
    · exact ⟨j, by omega, h2, h3, h4⟩
    · exact ⟨n, by omega, hn, hg, rfl⟩
theorem ay_SW_pos {F : Nat → Nat → Int} {B : Nat → Int} {K U : Nat → Int32} {n : Nat} {P : ap_P} (h : ay_SW F B K U n P) : 0 < P.2 := by
  obtain ⟨j, h1, h2, h3, rfl⟩ := h
  exact (ay_q_pb h2).2.1
theorem ay_l9261 (n : Nat) (h : n < 9261) : ¬ (9261 : Int32) ≤ nI n := nI_ge (b := 9261) h (by decide)
theorem ay_g9261 : (9261 : Int32) ≤ nI 9261 := by decide
section
variable {un : Int64} {fd : Int32} {bu : Int64} {sk : Int32} {th kd : Nat → Int32} {pl : Nat → Int64} {am : Nat → Int32} {ov bv : Nat → Int64}
theorem ay_wholeAt {post : Int32 → SY → Prop} {F : Nat → Nat → Int} {B : Nat → Int} {K U : Nat → Int32} {n : Nat} (hC : ay_Co F B K U sk th kd pl) (hn : n < 9261)
    (h1 : ap_ok F B K U (ay_q n) → ∀ ov' : Nat → Int64, (∀ i, i < 3 → ov' i = ap_l ((ay_q n).1 i)) → post 1 (ap_l (ay_q n).2, fd, bu, sk, th, kd, pl, am, ov', bv))
    (h0 : ¬ ap_ok F B K U (ay_q n) → ∀ (un' : Int64) (ov' : Nat → Int64), post 0 (un', fd, bu, sk, th, kd, pl, am, ov', bv)) :
    wpY_wholeAt post (un, fd, bu, sk, th, kd, pl, am, ov, bv) (nI n) := by
  obtain ⟨hF, hB, hK, hM, hkd, hA, hL⟩ := hC
  have e1 : (nI n - nI n / 21 * 21).toInt64 = ap_l ((n % 21 : Nat) : Int) := by
    have : nI n - nI n / nI 21 * nI 21 = nI (n % 21) := pk_rem (by omega) (by decide) (by decide)
    rw [← ap_l_n, ← nI_l (by omega), ← this]; rfl
  have e2 : (nI n / 21 - nI n / 21 / 21 * 21).toInt64 = ap_l ((n / 21 % 21 : Nat) : Int) := by
    have : nI n / nI 21 - nI n / nI 21 / nI 21 * nI 21 = nI (n / 21 % 21) := by
      rw [pk_div (by omega) (by decide) (by decide), pk_rem (by omega) (by decide) (by decide)]
    rw [← ap_l_n, ← nI_l (by omega), ← this]; rfl
  have e3 : (nI n / 441).toInt64 = ap_l ((n / 441 : Nat) : Int) := by
    have : nI n / nI 441 = nI (n / 441) := pk_div (by omega) (by decide) (by decide)
    rw [← ap_l_n, ← nI_l (by omega), ← this]; rfl
  refine ⟨by decide, nm_e ⟨by decide, by decide, nm_e ⟨by decide, nm_e ?_⟩⟩⟩
  rw [e1, e2, e3]
  have hov : ∀ i, i < 3 → (vp_updL (vp_updL (vp_updL ov 0 (ap_l ((n % 21 : Nat) : Int))) 1 (ap_l ((n / 21 % 21 : Nat) : Int))) 2 (ap_l ((n / 441 : Nat) : Int))) i = ap_l ((ay_q n).1 i) := by
    refine ap_lt3 ?_ ?_ ?_
    · rw [pk_uLn (by decide), pk_uLn (by decide), pk_uLs]; rfl
    · rw [pk_uLn (by decide), pk_uLs]; rfl
    · rw [pk_uLs]; rfl
  exact ay_inside (P := ay_q n) hM hF hB hK hkd hA hL (ay_q_pb hn) hov (fun ho => ⟨rfl, h1 ho _ hov⟩) (fun ho => ⟨rfl, h0 ho _ _⟩)
theorem ay_sw7 {post : Int32 → SY → Prop} {F : Nat → Nat → Int} {B : Nat → Int} {K U : Nat → Int32} (hC : ay_Co F B K U sk th kd pl) (hA : ∀ i, ap_b 7 (ap_G am i))
    (h : ∀ (un : Int64) (fd : Int32) (bu : Int64) (ov bv : Nat → Int64), ay_SI (ap_bt (ap_G am)) (ap_W F B K U) fd bu bv → post fd (un, fd, bu, sk, th, kd, pl, am, ov, bv)) :
    ∀ (d n : Nat) (un : Int64) (fd : Int32) (bu : Int64) (ov bv : Nat → Int64), n + d = 9261 → ay_SI (ap_bt (ap_G am)) (ay_SW F B K U n) fd bu bv → wY_searchWhole_7 post (d + 1) (nI n) un fd bu sk th kd pl am ov bv := by
  intro d
  induction d with
  | zero =>
    intro n un fd bu ov bv hn hi
    have : n = 9261 := by omega
    subst this
    refine br_t ay_g9261 ⟨?_, h _ _ _ _ _ (ay_SI_cg (fun c => (ay_SW_e c).symm) hi)⟩
    obtain ⟨m, Q, rfl, m1, _⟩ := hi
    have : m = 0 ∨ m = 1 := by omega
    rcases this with rfl | rfl <;> rfl
  | succ d ih =>
    intro n un fd bu ov bv hn hi
    have hn' : n < 9261 := by omega
    refine br_f (ay_l9261 n hn') ?_
    refine ay_wholeAt hC hn' (fun hg ov' hov => br_f (by decide) ?_) (fun hg un' ov' => br_t rfl (nm_r (nI_1 _) (ih _ _ _ _ _ _ (by omega) (ay_SI_cg (ay_SW_no hg) hi))))
    have hP : ap_pb (ay_q n) := ay_q_pb hn'
    have hS := ay_SW_yes (F := F) (B := B) (K := K) (U := U) hn' hg
    obtain ⟨m, Q, rfl, m1, h3, h4⟩ := hi
    have kp : (m = 0 ∨ ap_bt (ap_G am) (ay_q n) Q) → wY_searchWhole_36 post (wY_searchWhole_7 post (d + 1)) (nI n) (ap_l (ay_q n).2) (nI m) bu sk th kd pl am ov' bv := by
      intro hb'
      unfold wY_searchWhole_36
      refine ay_keep (fun bv' hbv => nm_r (nI_1 _) (ih _ _ _ _ _ _ (by omega) ⟨1, _, rfl, Nat.le_refl 1, ap_inv_new h3 hS (by decide) (ap_bt_ir _ _) ?_ hb', fun _ => ⟨hP, fun i hi => (hbv i hi).trans (hov i hi), rfl⟩⟩))
      exact fun c hc hk x y => ap_bt_tr (ay_SW_pos hc) hP.2.1 (ay_SW_pos hk) x y
    refine br_c (fun z => kp (Or.inl ?_)) (fun z => ?_)
    · rw [ap_i_n, ap_i_eq0 (ap_b_n (by omega))] at z; omega
    · have z' : m ≠ 0 := by intro y; subst y; exact z rfl
      obtain ⟨q1, q2, q3⟩ := h4 z'
      subst q3
      refine ay_better hA hP q1 hov q2 (fun b => br_f (by decide) (kp (Or.inr b))) (fun b => br_t rfl (nm_r (nI_1 _) (ih _ _ _ _ _ _ (by omega) ?_)))
      exact ⟨m, Q, rfl, m1, ap_inv_keep h3 hS z' z' b, h4⟩
theorem ay_SI_fin2 {post : Int32 → SY → Prop} {bt : ap_P → ap_P → Prop} {S : ap_P → Prop} (i : ay_SI bt S fd bu bv)
    (h0 : (∀ c, ¬ S c) → fd = 0 → post fd (un, fd, bu, sk, th, kd, pl, am, ov, bv)) (h1 : ∀ Q, S Q → (∀ c, S c → ¬ bt c Q) → ap_pb Q → (∀ i, i < 3 → bv i = ap_l (Q.1 i)) → bu = ap_l Q.2 → fd = 1 → post fd (un, fd, bu, sk, th, kd, pl, am, ov, bv)) : post fd (un, fd, bu, sk, th, kd, pl, am, ov, bv) :=
  ay_SI_fin (post := fun s => post fd s) i h0 h1
theorem ay_searchWhole {post : Int32 → SY → Prop} {F : Nat → Nat → Int} {B : Nat → Int} {K U : Nat → Int32} (hC : ay_Co F B K U sk th kd pl) (hA : ∀ i, ap_b 7 (ap_G am i))
    (h0 : ∀ (un : Int64) (bu : Int64) (ov bv : Nat → Int64), (∀ c, ¬ ap_W F B K U c) → post 0 (un, 0, bu, sk, th, kd, pl, am, ov, bv))
    (h1 : ∀ (un : Int64) (ov bv : Nat → Int64) (Q : ap_P), ap_W F B K U Q → (∀ c, ap_W F B K U c → ¬ ap_bt (ap_G am) c Q) → ap_pb Q → (∀ i, i < 3 → bv i = ap_l (Q.1 i)) → post 1 (un, 1, ap_l Q.2, sk, th, kd, pl, am, ov, bv)) :
    wpY_searchWhole post (un, fd, bu, sk, th, kd, pl, am, ov, bv) := by
  refine ⟨9262, ay_sw7 hC hA (fun un fd bu ov bv hi => ay_SI_fin2 hi (fun a b => ?_) (fun Q a b c d e f => ?_)) 9261 0 _ _ _ _ _ rfl (ay_SI_0 (fun c hc => ?_))⟩
  · subst b; exact h0 _ _ _ _ a
  · subst e; subst f; exact h1 _ _ _ Q a b c d
  · obtain ⟨_, h4, _⟩ := hc; omega
theorem ay_w4 {post : Int32 → SY → Prop} {F : Nat → Nat → Int} {B : Nat → Int} {K U : Nat → Int32} (hC : ay_Co F B K U sk th kd pl)
    (h : ∀ (un : Int64) (ov : Nat → Int64), post (nI (ap_sm (fun j => ap_id (ap_ok F B K U (ay_q j))) 9261)) (un, fd, bu, sk, th, kd, pl, am, ov, bv)) :
    ∀ (d n : Nat) (un : Int64) (ov : Nat → Int64), n + d = 9261 → wY_wholes_4 post (d + 1) (nI (ap_sm (fun j => ap_id (ap_ok F B K U (ay_q j))) n)) (nI n) un fd bu sk th kd pl am ov bv := by
  intro d
  induction d with
  | zero =>
    intro n un ov hn
    have : n = 9261 := by omega
    subst this
    exact br_t ay_g9261 (h _ _)
  | succ d ih =>
    intro n un ov hn
    have hn' : n < 9261 := by omega
    refine br_f (ay_l9261 n hn') ?_
    have e : ap_sm (fun j => ap_id (ap_ok F B K U (ay_q j))) (n + 1) = ap_sm (fun j => ap_id (ap_ok F B K U (ay_q j))) n + ap_id (ap_ok F B K U (ay_q n)) := rfl
    refine ay_wholeAt hC hn' (fun hg ov' hov => br_f (by decide) (nm_r (nI_1 _) (nm_r (nI_1 _) ?_))) (fun hg un' ov' => br_t rfl (nm_r (nI_1 _) ?_))
    · rw [ap_id_t hg] at e
      have := ih (n + 1) (ap_l (ay_q n).2) ov' (by omega)
      rw [e] at this; exact this
    · rw [ap_id_f hg] at e
      have := ih (n + 1) un' ov' (by omega)
      rw [e] at this; exact this
theorem ay_wholes {post : Int32 → SY → Prop} {F : Nat → Nat → Int} {B : Nat → Int} {K U : Nat → Int32} (hC : ay_Co F B K U sk th kd pl)
    (h : ∀ (un : Int64) (ov : Nat → Int64), post (nI (ap_sm (ap_n1 F B K U) 21)) (un, fd, bu, sk, th, kd, pl, am, ov, bv)) : wpY_wholes post (un, fd, bu, sk, th, kd, pl, am, ov, bv) := by
  refine ⟨9262, ay_w4 hC (fun un ov => ?_) 9261 0 _ _ rfl⟩
  have e : ap_sm (fun j => ap_id (ap_ok F B K U (ay_q j))) 9261 = ap_sm (ap_n1 F B K U) 21 := ap_sm_3 (fun a b c => ap_n3 F B K U a b c)
  rw [e]; exact h un ov
/-! divisor -/
theorem ay_d17 {post : Int64 → Prop} : ∀ (n a b : Nat), a < 2 ^ 62 → b < 2 ^ 62 → 0 < Nat.gcd b a → b < n → post (lN (Nat.gcd b a)) → wY_divisor_17 post un fd bu sk th kd pl am ov bv n (lN a) (lN b) := by
  intro n
  induction n with
  | zero => intro a b _ _ _ h; omega
  | succ n ih =>
    intro a b ha hb hg hn h
    by_cases z : b = 0
    · subst z
      rw [Nat.gcd_zero_left] at h hg
      refine br_t rfl (br_f ?_ h)
      rw [ap_l_n, ap_l_le0 (ap_b_n (by omega))]; omega
    · have b0 : 0 < b := by omega
      have nb : ¬ lN b = 0 := by rw [ap_l_n, ap_l_eq0 (ap_b_n (by omega))]; omega
      have m1 : a % b < b := Nat.mod_lt _ b0
      rw [Nat.gcd_rec] at h hg
      exact br_f nb ⟨nb, nm_r (pk_lRem (by omega) b0 (by omega)) (ih b (a % b) hb (by omega) hg (by omega) h)⟩
theorem ay_divisor {post : Int64 → Prop} {T : Int} {b : Nat} (hT : ap_b 1000000 T) (hb : 0 < b) (hb' : b < 2 ^ 31) (h : post (lN (Nat.gcd T.natAbs b))) : wpY_divisor post (un, fd, bu, sk, th, kd, pl, am, ov, bv) (ap_l T) (lN b) := by
  have hT' : ap_b 9000000000000000000 T := ap_b_le hT (by decide)
  rw [Nat.gcd_comm] at h
  have run : ∃ n17, wY_divisor_17 post un fd bu sk th kd pl am ov bv n17 (lN T.natAbs) (lN b) := by
    unfold ap_b at hT
    exact ⟨b + 1, ay_d17 (b + 1) T.natAbs b (by omega) (by omega) (Nat.gcd_pos_of_pos_left _ hb) (by omega) h⟩
  refine br_c (fun z => ?_) (fun z => nm_r (e' := lN T.natAbs) ?_ run)
  · rw [ap_l_0le hT'] at z
    have e : ap_l T = lN T.natAbs := by rw [ap_l_n]; congr 1; omega
    rw [e]; exact run
  · rw [ap_l_0le hT'] at z
    rw [ap_l_neg, ap_l_n]; congr 1; omega
theorem ay_top {post : Int32 → Prop} {T : Int} {b : Nat} (hT : ap_b 1000000 T) (hb : 0 < b) (hb' : b < 2 ^ 31) (h : post (ap_i (T.tdiv (Nat.gcd T.natAbs b : Nat)))) : wpY_top post (un, fd, bu, sk, th, kd, pl, am, ov, bv) (ap_l T) (lN b) := by
  have g0 : 0 < Nat.gcd T.natAbs b := Nat.gcd_pos_of_pos_right _ hb
  have g1 : Nat.gcd T.natAbs b < 2 ^ 31 := Nat.lt_of_le_of_lt (Nat.gcd_le_right _ hb) hb'
  unfold wpY_top; dsimp only
  refine ay_divisor hT hb hb' ⟨?_, ?_⟩
  · rw [ap_l_n, ap_l_eq0 (ap_b_n (by omega))]; omega
  · have e : ap_l T / lN (Nat.gcd T.natAbs b) = ap_l (T.tdiv (Nat.gcd T.natAbs b : Nat)) := by
      unfold ap_b at hT
      rw [ap_l_n]
      exact (Int64.ofInt_tdiv (by rw [Int64.toInt_minValue]; omega) (by rw [Int64.toInt_maxValue]; omega) (by rw [Int64.toInt_minValue]; omega) (by rw [Int64.toInt_maxValue]; omega)).symm
    rw [e, ap_l_i]; exact h
theorem ay_bottom {post : Int32 → Prop} {T : Int} {b : Nat} (hT : ap_b 1000000 T) (hb : 0 < b) (hb' : b < 2 ^ 31) (h : post (nI (b / Nat.gcd T.natAbs b))) : wpY_bottom post (un, fd, bu, sk, th, kd, pl, am, ov, bv) (ap_l T) (lN b) := by
  have g0 : 0 < Nat.gcd T.natAbs b := Nat.gcd_pos_of_pos_right _ hb
  have g1 : Nat.gcd T.natAbs b < 2 ^ 31 := Nat.lt_of_le_of_lt (Nat.gcd_le_right _ hb) hb'
  unfold wpY_bottom; dsimp only
  refine ay_divisor hT hb hb' ⟨?_, ?_⟩
  · rw [ap_l_n, ap_l_eq0 (ap_b_n (by omega))]; omega
  · rw [pk_lDiv (by omega) g0 (by omega), lN_i]; exact h
end
end
section
/-! the relation, and the calls that change the rows -/
def ap_num (x : Int32) (i : Nat) : Int32 := if i = 0 then (x - x / 15 * 15) - 7 else if i = 1 then ((x / 15) - (x / 15) / 15 * 15) - 7 else (x / 225) - 7
theorem ap_i01 : ∀ i, i < 3 → (nI i = 0 ↔ i = 0) ∧ (nI i = 1 ↔ i = 1) := ap_lt3 (by decide) (by decide) (by decide)
theorem ap_num_b {m : Nat} (hm : m ≤ 3374) (i : Nat) : ap_b 7 (ap_num (nI m) i).toInt := by
  have s7 : (7 : Int32) = ap_i 7 := by decide
  have e : ∃ q : Nat, q ≤ 14 ∧ ap_num (nI m) i = nI q - 7 := by
    unfold ap_num
    split
    · exact ⟨m % 15, by omega, by rw [← pk_rem (a := m) (d := 15) (by omega) (by decide) (by decide)]; rfl⟩
    · split
      · refine ⟨m / 15 % 15, by omega, ?_⟩
        rw [← pk_rem (a := m / 15) (d := 15) (by omega) (by decide) (by decide), ← pk_div (a := m) (d := 15) (by omega) (by decide) (by decide)]; rfl
      · exact ⟨m / 225, by omega, by rw [← pk_div (a := m) (d := 225) (by omega) (by decide) (by decide)]; rfl⟩
  obtain ⟨q, hq, e⟩ := e
  rw [e, s7, ap_i_n, ap_i_sub, ap_i_t (by unfold ap_b; omega)]
  unfold ap_b; omega
theorem ax_numberAt {post : Int32 → Prop} {x : Int32} {i : Nat} (hi : i < 3) (h : post (ap_num x i)) : wpX_numberAt post x (nI i) := by
  obtain ⟨e0, e1⟩ := ap_i01 i hi
  unfold ap_num at h
  refine br_c (fun z => ⟨by decide, ?_⟩) (fun z => br_c (fun y => ⟨by decide, by decide, ?_⟩) (fun y => ⟨by decide, ?_⟩))
  · rw [if_pos (e0.mp z)] at h; exact h
  · rw [if_neg (fun w => z (e0.mpr w)), if_pos (e1.mp y)] at h; exact h
  · rw [if_neg (fun w => z (e0.mpr w)), if_neg (fun w => y (e1.mpr w))] at h; exact h
def ap_sf (fa : Nat → Int32) (r : Nat) (x : Int32) : Nat → Int32 := upd (upd (upd fa (3 * r + 0) (ap_num x 0)) (3 * r + 1) (ap_num x 1)) (3 * r + 2) (ap_num x 2)
def ap_spl (pl : Nat → Int64) (k : Nat) (x b : Int32) : Nat → Int64 := vp_updL (vp_updL (vp_updL (vp_updL pl (4 * k + 0) (ap_num x 0).toInt64) (4 * k + 1) (ap_num x 1).toInt64) (4 * k + 2) (ap_num x 2).toInt64) (4 * k + 3) b.toInt64
def ap_sg3 (go : Nat → Int32) (x : Int32) : Nat → Int32 := upd (upd (upd go 0 (ap_num x 0)) 1 (ap_num x 1)) 2 (ap_num x 2)
theorem ap_nb1 : vp_nar .boolean 1 = 1 := rfl
theorem ap_nb0 : vp_nar .boolean 0 = 0 := rfl
section
variable {pB kB pm : Int32} {fa ki bo us go ai pt kt : Nat → Int32}
theorem ax_sr3 {post : SX → Prop} {r i n : Nat} {x k b : Int32} (hr : r < 11) (hi : i < 3) (h : wX_setRow_3 post (nI r) x k b pB kB pm n (nI (i + 1)) (upd fa (3 * r + i) (ap_num x i)) ki bo us go ai pt kt) :
    wX_setRow_3 post (nI r) x k b pB kB pm (n + 1) (nI i) fa ki bo us go ai pt kt := by
  refine br_f (ap_l3 i hi) (ax_numberAt hi ⟨?_, nm_r ?_ (nm_r (nI_1 i) h)⟩)
  · rw [ap_3i]; exact ap_in (by omega) (by decide)
  · rw [ap_3i, ap_cl (by omega)]
theorem ax_setRow {post : SX → Prop} {r : Nat} {x k b : Int32} (hr : r < 11) (h : post (pB, kB, pm, ap_sf fa r x, upd ki r k, upd bo r b, upd us r 1, go, ai, pt, kt)) : wpX_setRow post (pB, kB, pm, fa, ki, bo, us, go, ai, pt, kt) (nI r) x k b := by
  refine ⟨4, ax_sr3 (i := 0) hr (by decide) (ax_sr3 (i := 1) hr (by decide) (ax_sr3 (i := 2) hr (by decide) (br_t ap_g3 ?_)))⟩
  refine ⟨ap_in hr (by decide), nm_r (by rw [ap_cl (by omega)]) ⟨ap_in hr (by decide), nm_r (by rw [ap_cl (by omega)]) ⟨ap_in hr (by decide), nm_r (by rw [ap_cl (by omega), ap_nb1]) h⟩⟩⟩
theorem ax_areNumbers {post : Int32 → Prop} {x : Int32} (h1 : ¬ x < 0 → ¬ 3374 < x → post 1) (h0 : (x < 0 ∨ 3374 < x) → post 0) : wpX_areNumbers post x :=
  br_c (fun z => h0 (Or.inl z)) (fun z => br_c (fun y => h0 (Or.inr y)) (fun y => h1 z y))
/-- a call of add that is refused -/
def ap_bad (x k b : Int32) : Prop := (x < 0 ∨ 3374 < x) ∨ k < 0 ∨ 2 < k ∨ b < (-99) ∨ 99 < b
theorem ax_add_bad {post : Int32 → SX → Prop} {x k b : Int32} (hb : ap_bad x k b) (h : post (-10000000) (pB, kB, pm, fa, ki, bo, us, go, ai, pt, kt)) : wpX_add post (pB, kB, pm, fa, ki, bo, us, go, ai, pt, kt) x k b := by
  unfold wpX_add; dsimp only
  refine ax_areNumbers (fun x1 x2 => br_f (by decide) (br_c (fun _ => h) (fun k0 => br_c (fun k2 => br_c (fun _ => h) (fun b0 => br_c (fun b1 => absurd hb ?_) (fun _ => h))) (fun _ => h)))) (fun _ => br_t rfl h)
  rintro ((y | y) | y | y | y | y)
  · exact x1 y
  · exact x2 y
  · exact k0 y
  · exact Int32.not_lt.mpr k2 y
  · exact b0 y
  · exact Int32.not_lt.mpr b1 y
theorem ax_add37n {post : Int32 → SX → Prop} {x k b : Int32} (hn : ∀ j, j < 5 → ¬ us (6 + j) = 0) (h : post (-20000000) (pB, kB, pm, fa, ki, bo, us, go, ai, pt, kt)) : ∀ d j, j + d = 5 → wX_add_37 post x k b pB kB pm fa ki bo us go ai pt kt (d + 1) (nI j) := by
  intro d
  induction d with
  | zero =>
    intro j hj
    have : j = 5 := by omega
    subst this
    exact br_t ap_g5 h
  | succ d ih =>
    intro j hj
    have hj' : j < 5 := by omega
    refine br_f (ap_l5 j hj') ?_
    rw [ap_6i, ap_cl (by omega)]
    exact ⟨ap_in (by omega) (by decide), br_f (hn j hj') (nm_r (nI_1 j) (ih (j + 1) (by omega)))⟩
theorem ax_add37f {post : Int32 → SX → Prop} {x k b : Int32} {s : Nat} (hs : s < 5) (h0 : us (6 + s) = 0) (hl : ∀ j, j < s → ¬ us (6 + j) = 0)
    (h : post (nI s) (pB, kB, pm, ap_sf fa (6 + s) x, upd ki (6 + s) k, upd bo (6 + s) b, upd us (6 + s) 1, go, ai, pt, kt)) : ∀ d j, j + d = s → wX_add_37 post x k b pB kB pm fa ki bo us go ai pt kt (d + 1) (nI j) := by
  intro d
  induction d with
  | zero =>
    intro j hj
    have : j = s := by omega
    subst this
    refine br_f (ap_l5 j hs) ?_
    rw [ap_6i, ap_cl (by omega)]
    exact ⟨ap_in (by omega) (by decide), br_t h0 (ax_setRow (by omega) h)⟩
  | succ d ih =>
    intro j hj
    refine br_f (ap_l5 j (by omega)) ?_
    rw [ap_6i, ap_cl (by omega)]
    exact ⟨ap_in (by omega) (by decide), br_f (hl j (by omega)) (nm_r (nI_1 j) (ih (j + 1) (by omega)))⟩
theorem ax_add_ok {post : Int32 → SX → Prop} {x k b : Int32} (hb : ¬ ap_bad x k b) (h : ∃ n37, wX_add_37 post x k b pB kB pm fa ki bo us go ai pt kt n37 0) : wpX_add post (pB, kB, pm, fa, ki, bo, us, go, ai, pt, kt) x k b := by
  unfold ap_bad at hb
  unfold wpX_add; dsimp only
  refine ax_areNumbers (fun x1 x2 => br_f (by decide) (br_f (fun y => hb (Or.inr (Or.inl y))) (br_t ?_ (br_f (fun y => hb (Or.inr (Or.inr (Or.inr (Or.inl y))))) (br_t ?_ h))))) (fun y => absurd (Or.inl y) hb)
  · exact Int32.not_lt.mp (fun y => hb (Or.inr (Or.inr (Or.inl y))))
  · exact Int32.not_lt.mp (fun y => hb (Or.inr (Or.inr (Or.inr (Or.inr y)))))
theorem ax_isCondition {post : Int32 → Prop} {x : Int32} (h1 : ∀ k, k < 5 → x = nI k → ¬ us (6 + k) = 0 → post 1) (h0 : (∀ k, k < 5 → x = nI k → us (6 + k) = 0) → post 0) : wpX_isCondition post (pB, kB, pm, fa, ki, bo, us, go, ai, pt, kt) x := by
  refine br_c (fun z => h0 (fun k hk e => ?_)) (fun z => br_c (fun y => h0 (fun k hk e => ?_)) (fun y => ?_))
  · subst e; exact absurd z (nI_pos (by omega))
  · subst e; exact absurd y (ap_l5 k hk)
  · obtain ⟨k, hk, rfl⟩ := nI_of z
    have hk5 : k < 5 := by
      rcases Nat.lt_or_ge k 5 with w | w
      · exact w
      · exact absurd (nI_le (a := 5) w hk) y
    rw [ap_6i, ap_cl (by omega)]
    refine ⟨ap_in (by omega) (by decide), br_c (fun w => h0 (fun k' hk' e => ?_)) (fun w => h1 k hk5 rfl w)⟩
    rw [nI_eq hk (by omega)] at e
    subst e; exact w
theorem ax_remove {post : Int32 → SX → Prop} {x : Int32} (h1 : ∀ k, k < 5 → x = nI k → ¬ us (6 + k) = 0 → post 1 (pB, kB, pm, fa, ki, bo, upd us (6 + k) 0, go, ai, pt, kt)) (h0 : (∀ k, k < 5 → x = nI k → us (6 + k) = 0) → post 0 (pB, kB, pm, fa, ki, bo, us, go, ai, pt, kt)) : wpX_remove post (pB, kB, pm, fa, ki, bo, us, go, ai, pt, kt) x := by
  unfold wpX_remove; dsimp only
  refine ax_isCondition (fun k hk e hu => br_f (by decide) ?_) (fun hn => br_t rfl (h0 hn))
  have h := h1 k hk e hu
  subst e
  rw [ap_6i, ap_cl (by omega)]
  exact ⟨ap_in (by omega) (by decide), nm_r (by rw [ap_nb0]) h⟩
theorem ax_g11 {post : Int32 → SX → Prop} {i n : Nat} {x : Int32} (hi : i < 3) (h : wX_goal_11 post x pB kB pm n (nI (i + 1)) fa ki bo us (upd go i (ap_num x i)) ai pt kt) :
    wX_goal_11 post x pB kB pm (n + 1) (nI i) fa ki bo us go ai pt kt := by
  refine br_f (ap_l3 i hi) (ax_numberAt hi ⟨ap_in hi (by decide), nm_r ?_ (nm_r (nI_1 i) h)⟩)
  rw [ap_cl (by omega)]
theorem ax_goal {post : Int32 → SX → Prop} {x : Int32} (h1 : ¬ x < 0 → ¬ 3374 < x → post 1 (pB, kB, pm, fa, ki, bo, us, ap_sg3 go x, ai, pt, kt)) (h0 : (x < 0 ∨ 3374 < x) → post 0 (pB, kB, pm, fa, ki, bo, us, go, ai, pt, kt)) : wpX_goal post (pB, kB, pm, fa, ki, bo, us, go, ai, pt, kt) x := by
  unfold wpX_goal; dsimp only
  refine ax_areNumbers (fun a b => br_f (by decide) ⟨4, ?_⟩) (fun a => br_t rfl (h0 a))
  exact ax_g11 (i := 0) (by decide) (ax_g11 (i := 1) (by decide) (ax_g11 (i := 2) (by decide) (br_t ap_g3 (h1 a b))))
end
section
variable {un : Int64} {fd : Int32} {bu : Int64} {sk : Int32} {th kd : Nat → Int32} {pl : Nat → Int64} {am : Nat → Int32} {ov bv : Nat → Int64}
theorem ay_factor {post : Int32 → Prop} {x : Int32} {i : Nat} (hi : i < 3) (h : post (ap_num x i)) : wpY_factor post (un, fd, bu, sk, th, kd, pl, am, ov, bv) x (nI i) := by
  obtain ⟨e0, e1⟩ := ap_i01 i hi
  unfold ap_num at h
  refine br_c (fun z => ⟨by decide, ?_⟩) (fun z => br_c (fun y => ⟨by decide, by decide, ?_⟩) (fun y => ⟨by decide, ?_⟩))
  · rw [if_pos (e0.mp z)] at h; exact h
  · rw [if_neg (fun w => z (e0.mpr w)), if_pos (e1.mp y)] at h; exact h
  · rw [if_neg (fun w => z (e0.mpr w)), if_neg (fun w => y (e1.mpr w))] at h; exact h
theorem ay_isTriple {post : Int32 → Prop} {x : Int32} (h1 : ¬ x < 0 → ¬ 3374 < x → post 1) (h0 : (x < 0 ∨ 3374 < x) → post 0) : wpY_isTriple post (un, fd, bu, sk, th, kd, pl, am, ov, bv) x :=
  br_c (fun z => h0 (Or.inl z)) (fun z => br_c (fun y => h0 (Or.inr y)) (fun y => h1 z y))
theorem ay_add_bad {post : Int32 → SY → Prop} {x k b : Int32} (hb : ap_bad x k b) (h : post (-10000000) (un, fd, bu, sk, th, kd, pl, am, ov, bv)) : wpY_add post (un, fd, bu, sk, th, kd, pl, am, ov, bv) x k b := by
  unfold wpY_add; dsimp only
  refine ay_isTriple (fun x1 x2 => br_f (by decide) (br_c (fun _ => h) (fun k0 => br_c (fun _ => h) (fun k2 => br_c (fun _ => h) (fun b0 => br_c (fun b1 => absurd hb ?_) (fun _ => h)))))) (fun _ => br_t rfl h)
  rintro ((y | y) | y | y | y | y)
  · exact x1 y
  · exact x2 y
  · exact k0 y
  · exact k2 y
  · exact b0 y
  · exact Int32.not_lt.mpr b1 y
theorem ay_a70 {post : Int32 → SY → Prop} {x b : Int32} {s i n : Nat} (hs : s < 5) (hi : i < 3) (h : wY_add_70 post x b (nI s) un fd bu sk n (nI (i + 1)) th kd (vp_updL pl (4 * s + i) (ap_num x i).toInt64) am ov bv) :
    wY_add_70 post x b (nI s) un fd bu sk (n + 1) (nI i) th kd pl am ov bv := by
  refine br_f (ap_l3 i hi) (ay_factor hi ⟨?_, nm_r ?_ (nm_r (nI_1 i) h)⟩)
  · rw [ap_4i]; exact ap_in (by omega) (by decide)
  · rw [ap_4i, ap_cl (by omega)]
theorem ay_add70 {post : Int32 → SY → Prop} {x b : Int32} {s : Nat} (hs : s < 5) (h : post (nI s) (un, fd, bu, sk, th, kd, ap_spl pl s x b, am, ov, bv)) : ∃ n70, wY_add_70 post x b (nI s) un fd bu sk n70 0 th kd pl am ov bv := by
  refine ⟨4, ay_a70 (i := 0) hs (by decide) (ay_a70 (i := 1) hs (by decide) (ay_a70 (i := 2) hs (by decide) (br_t ap_g3 ?_)))⟩
  have e : (4 * nI s) + 3 = nI (4 * s + 3) := ap_4i s 3
  rw [e, ap_cl (by omega)]
  exact ⟨ap_in (by omega) (by decide), nm_e h⟩
theorem ay_add35n {post : Int32 → SY → Prop} {x k b : Int32} (hn : ∀ j, j < 5 → ¬ th j = 0) (h : post (-20000000) (un, fd, bu, sk, th, kd, pl, am, ov, bv)) : ∀ d j, j + d = 5 → wY_add_35 post x k b un fd bu sk th kd pl am ov bv (d + 1) (nI j) := by
  intro d
  induction d with
  | zero =>
    intro j hj
    have : j = 5 := by omega
    subst this
    exact br_t ap_g5 h
  | succ d ih =>
    intro j hj
    have hj' : j < 5 := by omega
    refine br_f (ap_l5 j hj') ⟨ap_in hj' (by decide), ?_⟩
    rw [ap_cl (by omega)]
    exact br_f (hn j hj') (nm_r (nI_1 j) (ih (j + 1) (by omega)))
theorem ay_add35f {post : Int32 → SY → Prop} {x k b : Int32} {s : Nat} (hs : s < 5) (h0 : th s = 0) (hl : ∀ j, j < s → ¬ th j = 0)
    (h : post (nI s) (un, fd, bu, sk, upd th s 1, upd kd s k, ap_spl pl s x b, am, ov, bv)) : ∀ d j, j + d = s → wY_add_35 post x k b un fd bu sk th kd pl am ov bv (d + 1) (nI j) := by
  intro d
  induction d with
  | zero =>
    intro j hj
    have : j = s := by omega
    subst this
    refine br_f (ap_l5 j hs) ⟨ap_in hs (by decide), ?_⟩
    rw [ap_cl (by omega)]
    exact br_t h0 ⟨ap_in hs (by decide), nm_r (by rw [ap_nb1]) ⟨ap_in hs (by decide), nm_e (ay_add70 hs h)⟩⟩
  | succ d ih =>
    intro j hj
    refine br_f (ap_l5 j (by omega)) ⟨ap_in (by omega) (by decide), ?_⟩
    rw [ap_cl (by omega)]
    exact br_f (hl j (by omega)) (nm_r (nI_1 j) (ih (j + 1) (by omega)))
theorem ay_add_ok {post : Int32 → SY → Prop} {x k b : Int32} (hb : ¬ ap_bad x k b) (h : ∃ n35, wY_add_35 post x k b un fd bu sk th kd pl am ov bv n35 0) : wpY_add post (un, fd, bu, sk, th, kd, pl, am, ov, bv) x k b := by
  unfold ap_bad at hb
  unfold wpY_add; dsimp only
  refine ay_isTriple (fun x1 x2 => br_f (by decide) (br_f (fun y => hb (Or.inr (Or.inl y))) (br_f (fun y => hb (Or.inr (Or.inr (Or.inl y)))) (br_f (fun y => hb (Or.inr (Or.inr (Or.inr (Or.inl y))))) (br_t ?_ h))))) (fun y => absurd (Or.inl y) hb)
  exact Int32.not_lt.mp (fun y => hb (Or.inr (Or.inr (Or.inr (Or.inr y)))))
theorem ay_is {post : Int32 → Prop} {x : Int32} (h1 : ∀ k, k < 5 → x = nI k → ¬ th k = 0 → post 1) (h0 : (∀ k, k < 5 → x = nI k → th k = 0) → post 0) : wpY_is post (un, fd, bu, sk, th, kd, pl, am, ov, bv) x := by
  refine br_c (fun z => h0 (fun k hk e => ?_)) (fun z => br_c (fun y => h0 (fun k hk e => ?_)) (fun y => ?_))
  · subst e; exact absurd z (nI_pos (by omega))
  · subst e; exact absurd ((ay_g4 (by omega)).mp y) (by omega)
  · obtain ⟨k, hk, rfl⟩ := nI_of z
    have hk5 : k < 5 := by
      rcases Nat.lt_or_ge k 5 with w | w
      · exact w
      · exact absurd (nI_lt (a := 4) (by omega) hk) y
    refine ⟨ap_in hk5 (by decide), ?_⟩
    rw [ap_cl (by omega)]
    refine br_c (fun w => h0 (fun k' hk' e => ?_)) (fun w => h1 k hk5 rfl w)
    rw [nI_eq hk (by omega)] at e
    subst e; exact w
theorem ay_remove {post : Int32 → SY → Prop} {x : Int32} (h1 : ∀ k, k < 5 → x = nI k → ¬ th k = 0 → post 1 (un, fd, bu, sk, upd th k 0, kd, pl, am, ov, bv)) (h0 : (∀ k, k < 5 → x = nI k → th k = 0) → post 0 (un, fd, bu, sk, th, kd, pl, am, ov, bv)) : wpY_remove post (un, fd, bu, sk, th, kd, pl, am, ov, bv) x := by
  unfold wpY_remove; dsimp only
  refine ay_is (fun k hk e hu => br_f (by decide) ?_) (fun hn => br_t rfl (h0 hn))
  have h := h1 k hk e hu
  subst e
  refine ⟨ap_in hk (by decide), nm_r ?_ h⟩
  rw [ap_nb0, ap_cl (by omega)]
theorem ay_g33 {post : Int32 → SY → Prop} {x : Int32} (h1 : ¬ x < 0 → ¬ 3374 < x → post 1 (un, fd, bu, sk, th, kd, pl, am, ov, bv)) (h0 : (x < 0 ∨ 3374 < x) → post 0 (un, fd, bu, sk, th, kd, pl, am, ov, bv)) : wY_goal_33 post x un fd bu sk th kd pl am ov bv := by
  unfold wY_goal_33
  exact ay_isTriple (fun a b => ⟨rfl, h1 a b⟩) (fun a => ⟨rfl, h0 a⟩)
theorem ay_g2 {post : Int32 → SY → Prop} {i n : Nat} {x : Int32} (hi : i < 3) (hx : ¬ x < 0) (hx' : ¬ 3374 < x) (h : wY_goal_2 post x un fd bu sk n (nI (i + 1)) th kd pl (upd am i (ap_num x i)) ov bv) :
    wY_goal_2 post x un fd bu sk (n + 1) (nI i) th kd pl am ov bv := by
  refine br_f (ap_l3 i hi) (ay_isTriple (fun _ _ => br_f (by decide) (ay_factor hi ⟨ap_in hi (by decide), nm_r ?_ (nm_r (nI_1 i) h)⟩)) (fun a => a.elim (fun y => absurd y hx) (fun y => absurd y hx')))
  rw [ap_cl (by omega)]
theorem ay_goal {post : Int32 → SY → Prop} {x : Int32} (h1 : ¬ x < 0 → ¬ 3374 < x → post 1 (un, fd, bu, sk, th, kd, pl, ap_sg3 am x, ov, bv)) (h0 : (x < 0 ∨ 3374 < x) → post 0 (un, fd, bu, sk, th, kd, pl, am, ov, bv)) : wpY_goal post (un, fd, bu, sk, th, kd, pl, am, ov, bv) x := by
  by_cases hx : x < 0 ∨ 3374 < x
  · refine ⟨4, br_f (by decide) (ay_isTriple (fun a b => hx.elim (fun y => absurd y a) (fun y => absurd y b)) (fun a => br_t rfl (ay_g33 (fun a b => hx.elim (fun y => absurd y a) (fun y => absurd y b)) h0)))⟩
  · have a : ¬ x < 0 := fun y => hx (Or.inl y)
    have b : ¬ 3374 < x := fun y => hx (Or.inr y)
    exact ⟨4, ay_g2 (i := 0) (by decide) a b (ay_g2 (i := 1) (by decide) a b (ay_g2 (i := 2) (by decide) a b (br_t ap_g3 (ay_g33 h1 (fun y => absurd y hx)))))⟩
end
end
section
/-! the relation and the first owed statements -/
def ap_Rel (fa ki bo us go : Nat → Int32) (sk : Int32) (th kd : Nat → Int32) (pl : Nat → Int64) (am : Nat → Int32) : Prop :=
  ((∀ j, ap_b 7 (fa j).toInt) ∧ (∀ r, ap_b 99 (bo r).toInt) ∧ (∀ r, ki r = 0 ∨ ki r = 1 ∨ ki r = 2) ∧ (∀ i, ap_b 7 (go i).toInt) ∧ (∀ r, us r = 0 ∨ us r = 1) ∧ ap_Lm (ap_F fa) (ap_B bo) ki us) ∧
  (sk = -1 ∧ am = go ∧ (∀ k, k < 5 → th k = us (6 + k) ∧ kd k = ki (6 + k)) ∧ (∀ a, a < 11 → (∀ i, i < 3 → pl (4 * a + i) = (fa (3 * ap_ro a + i)).toInt64) ∧ pl (4 * a + 3) = (bo (ap_ro a)).toInt64))
/-- the rows, kinds, conditions in use and goal of the component are those of the reference -/
def i_Rel (k : Nat) (u : SX) (v : SY) : Prop := match u, v with
  | (pB, kB, pm, fa, ki, bo, us, go, ai, pt, kt), (un, fd, bu, sk, th, kd, pl, am, ov, bv) => ap_Rel fa ki bo us go sk th kd pl am
theorem i_up {k : Nat} {u : SX} {v : SY} (h : i_Rel k u v) : i_Rel (k + 4) u v := h
section
variable {fa ki bo us go : Nat → Int32} {sk : Int32} {th kd : Nat → Int32} {pl : Nat → Int64} {am : Nat → Int32}
theorem ap_Rel_F (h : ap_Rel fa ki bo us go sk th kd pl am) : ∀ r i, ap_b 7 (ap_F fa r i) := fun _ _ => h.1.1 _
theorem ap_Rel_B (h : ap_Rel fa ki bo us go sk th kd pl am) : ∀ r, ap_b 99 (ap_B bo r) := fun _ => h.1.2.1 _
theorem ap_Rel_G (h : ap_Rel fa ki bo us go sk th kd pl am) : ∀ i, ap_b 7 (ap_G go i) := fun _ => h.1.2.2.2.1 _
theorem ap_Rel_am (h : ap_Rel fa ki bo us go sk th kd pl am) : am = go := h.2.2.1
theorem ap_Rel_Pl (h : ap_Rel fa ki bo us go sk th kd pl am) : ay_Pl (ap_F fa) (ap_B bo) pl := by
  intro a c ha hc
  obtain ⟨h1, h2⟩ := h.2.2.2.2 a ha
  unfold ay_M
  by_cases z : c = 3
  · subst z; rw [if_pos rfl, h2, ap_x_l]; rfl
  · rw [if_neg z, h1 c (by omega), ap_x_l]; rfl
theorem ap_Rel_kd (h : ap_Rel fa ki bo us go sk th kd pl am) : ∀ k, k < 5 → kd k = ki (ap_ro k) := by
  intro k hk
  rw [ap_ro_lo hk, Nat.add_comm]; exact (h.2.2.2.1 k hk).2
theorem ap_Rel_Co (h : ap_Rel fa ki bo us go sk th kd pl am) : ay_Co (ap_F fa) (ap_B bo) ki us sk th kd pl := by
  refine ⟨ap_Rel_F h, ap_Rel_B h, h.1.2.2.1, ap_Rel_Pl h, ap_Rel_kd h, ?_, h.1.2.2.2.2.2⟩
  intro a ha
  rcases Nat.lt_or_ge a 5 with z | z
  · rw [ap_ro_lo z, Nat.add_comm, ← (h.2.2.2.1 a z).1, h.2.1]
    have e : ¬ nI a = -1 := by
      intro y
      have y' := nI_pos (n := a) (by omega)
      rw [y] at y'
      exact y' (by decide)
    constructor
    · exact fun w => Or.inr ⟨w, e⟩
    · exact fun w => w.elim (fun v => by omega) (fun v => v.1)
  · rw [ap_ro_hi z ha]
    refine ⟨fun _ => Or.inl (by omega), fun _ => ?_⟩
    rcases Nat.lt_or_ge (a - 5) 3 with y | y
    · exact (h.1.2.2.2.2.2 (a - 5) y).1.2.2.2.2.2
    · have := (h.1.2.2.2.2.2 (a - 5 - 3) (by omega)).2.2.2.2.2.2
      rw [show 3 + (a - 5 - 3) = a - 5 by omega] at this
      exact this
theorem ap_Lm_us {F : Nat → Nat → Int} {B : Nat → Int} {K U : Nat → Int32} {r : Nat} {x : Int32} (hr : 6 ≤ r) (h : ap_Lm F B K U) : ap_Lm F B K (upd U r x) := by
  intro i hi
  rw [pk_un (show i ≠ r by omega), pk_un (show 3 + i ≠ r by omega)]
  exact h i hi
theorem ap_Rel_CoR (h : ap_Rel fa ki bo us go sk th kd pl am) {k : Nat} (hk : k < 5) : ay_Co (ap_F fa) (ap_B bo) ki (upd us (6 + k) 0) (nI k) th kd pl := by
  obtain ⟨c1, c2, c3, c4, c5, c6, c7⟩ := ap_Rel_Co h
  refine ⟨c1, c2, c3, c4, c5, ?_, ap_Lm_us (by omega) c7⟩
  intro a ha
  rcases Nat.lt_or_ge a 5 with z | z
  · rw [ap_ro_lo z, nI_eq (by omega) (by omega)]
    by_cases e : a = k
    · subst e
      rw [Nat.add_comm, pk_us]
      exact ⟨fun w => absurd rfl w, fun w => w.elim (fun v => by omega) (fun v => absurd rfl v.2)⟩
    · rw [pk_un (by omega), Nat.add_comm, ← (h.2.2.2.1 a z).1]
      exact ⟨fun w => Or.inr ⟨w, e⟩, fun w => w.elim (fun v => by omega) (fun v => v.1)⟩
  · have := c6 a ha
    rw [ap_ro_hi z ha] at this ⊢
    rw [pk_un (by omega)]
    exact ⟨fun _ => Or.inl (by omega), fun _ => this.mpr (Or.inl (by omega))⟩
theorem ap_upd_p {p : Int32 → Prop} {f : Nat → Int32} {k : Nat} {x : Int32} (hf : ∀ j, p (f j)) (hx : p x) : ∀ j, p (upd f k x j) := by
  intro j
  by_cases e : j = k
  · subst e; rw [pk_us]; exact hx
  · rw [pk_un e]; exact hf j
theorem ap_sf_un {r j : Nat} {x : Int32} (h : j < 3 * r ∨ 3 * r + 2 < j) : ap_sf fa r x j = fa j := by
  unfold ap_sf
  rw [pk_un (by omega), pk_un (by omega), pk_un (by omega)]
theorem ap_sf_at {r : Nat} {x : Int32} : ∀ i, i < 3 → ap_sf fa r x (3 * r + i) = ap_num x i := by
  unfold ap_sf
  refine ap_lt3 ?_ ?_ ?_
  · rw [pk_un (by omega), pk_un (by omega), pk_us]
  · rw [pk_un (by omega), pk_us]
  · rw [pk_us]
theorem ap_spl_un {k j : Nat} {x b : Int32} (h : j < 4 * k ∨ 4 * k + 3 < j) : ap_spl pl k x b j = pl j := by
  unfold ap_spl
  rw [pk_uLn (by omega), pk_uLn (by omega), pk_uLn (by omega), pk_uLn (by omega)]
theorem ap_spl_at {k : Nat} {x b : Int32} : (∀ i, i < 3 → ap_spl pl k x b (4 * k + i) = (ap_num x i).toInt64) ∧ ap_spl pl k x b (4 * k + 3) = b.toInt64 := by
  unfold ap_spl
  refine ⟨ap_lt3 ?_ ?_ ?_, ?_⟩
  · rw [pk_uLn (by omega), pk_uLn (by omega), pk_uLn (by omega), pk_uLs]
  · rw [pk_uLn (by omega), pk_uLn (by omega), pk_uLs]
  · rw [pk_uLn (by omega), pk_uLs]
  · rw [pk_uLs]
theorem ap_Lm_sf {r : Nat} {x k b u : Int32} (hr : 6 ≤ r) (h : ap_Lm (ap_F fa) (ap_B bo) ki us) : ap_Lm (ap_F (ap_sf fa r x)) (ap_B (upd bo r b)) (upd ki r k) (upd us r u) := by
  intro i hi
  have := h i hi
  unfold ap_F ap_B at this ⊢
  rw [pk_un (show i ≠ r by omega), pk_un (show 3 + i ≠ r by omega), pk_un (show i ≠ r by omega), pk_un (show 3 + i ≠ r by omega), pk_un (show i ≠ r by omega), pk_un (show 3 + i ≠ r by omega)]
  rw [ap_sf_un (by omega), ap_sf_un (by omega), ap_sf_un (by omega), ap_sf_un (by omega), ap_sf_un (by omega), ap_sf_un (by omega)]
  exact this
theorem ap_Rel_add {k m : Nat} {v2 v3 : Int32} (h : ap_Rel fa ki bo us go sk th kd pl am) (hk : k < 5) (hm : m ≤ 3374) (h2 : v2 = 0 ∨ v2 = 1 ∨ v2 = 2) (h3 : ap_b 99 v3.toInt) :
    ap_Rel (ap_sf fa (6 + k) (nI m)) (upd ki (6 + k) v2) (upd bo (6 + k) v3) (upd us (6 + k) 1) go sk (upd th k 1) (upd kd k v2) (ap_spl pl k (nI m) v3) am := by
  obtain ⟨⟨r1, r2, r3, r4, r5, r6⟩, s1, s2, s3, s4⟩ := h
  refine ⟨⟨?_, ?_, ?_, r4, ?_, ap_Lm_sf (by omega) r6⟩, s1, s2, ?_, ?_⟩
  · unfold ap_sf
    exact ap_upd_p (p := fun x => ap_b 7 x.toInt) (ap_upd_p (p := fun x => ap_b 7 x.toInt) (ap_upd_p (p := fun x => ap_b 7 x.toInt) r1 (ap_num_b hm 0)) (ap_num_b hm 1)) (ap_num_b hm 2)
  · exact ap_upd_p (p := fun x => ap_b 99 x.toInt) r2 h3
  · exact ap_upd_p (p := fun x => x = 0 ∨ x = 1 ∨ x = 2) r3 h2
  · exact ap_upd_p (p := fun x => x = 0 ∨ x = 1) r5 (Or.inr rfl)
  · intro j hj
    obtain ⟨a, b⟩ := s3 j hj
    by_cases e : j = k
    · subst e; rw [pk_us, pk_us, pk_us, pk_us]; exact ⟨rfl, rfl⟩
    · rw [pk_un e, pk_un e, pk_un (by omega), pk_un (by omega)]; exact ⟨a, b⟩
  · intro a ha
    obtain ⟨p1, p2⟩ := s4 a ha
    by_cases e : a = k
    · subst e
      rw [ap_ro_lo hk, Nat.add_comm a 6, pk_us]
      refine ⟨fun i hi => ?_, ap_spl_at.2⟩
      rw [ap_sf_at i hi, ap_spl_at.1 i hi]
    · have er : ap_ro a ≠ 6 + k := by unfold ap_ro; omega
      rw [pk_un er, ap_spl_un (by omega)]
      refine ⟨fun i hi => ?_, p2⟩
      rw [ap_spl_un (by omega), ap_sf_un (by omega)]
      exact p1 i hi
theorem ap_Rel_us {k : Nat} {x : Int32} (h : ap_Rel fa ki bo us go sk th kd pl am) (hk : k < 5) (hx : x = 0 ∨ x = 1) :
    ap_Rel fa ki bo (upd us (6 + k) x) go sk (upd th k x) kd pl am := by
  obtain ⟨⟨r1, r2, r3, r4, r5, r6⟩, s1, s2, s3, s4⟩ := h
  refine ⟨⟨r1, r2, r3, r4, ap_upd_p (p := fun x => x = 0 ∨ x = 1) r5 hx, ap_Lm_us (by omega) r6⟩, s1, s2, ?_, s4⟩
  intro j hj
  obtain ⟨a, b⟩ := s3 j hj
  by_cases e : j = k
  · subst e; rw [pk_us, pk_us]; exact ⟨rfl, b⟩
  · rw [pk_un e, pk_un (by omega)]; exact ⟨a, b⟩
end
theorem ap_in3374 {x : Int32} (h : ¬ x < 0) (h' : ¬ 3374 < x) : ∃ m, m ≤ 3374 ∧ x = nI m := nI_of2 (M := 3374) (n := 3374) (by decide) h (Int32.not_lt.mp h')
theorem ap_012 {x : Int32} (h : ¬ x < 0) (h' : ¬ 2 < x) : x = 0 ∨ x = 1 ∨ x = 2 := by
  obtain ⟨j, hj, rfl⟩ := nI_of2 (M := 2) (n := 2) (by decide) h (Int32.not_lt.mp h')
  have : j = 0 ∨ j = 1 ∨ j = 2 := by omega
  rcases this with rfl | rfl | rfl
  · exact Or.inl rfl
  · exact Or.inr (Or.inl rfl)
  · exact Or.inr (Or.inr rfl)
theorem ap_99 {x : Int32} (h : ¬ x < (-99)) (h' : ¬ 99 < x) : ap_b 99 x.toInt := by
  rw [Int32.lt_iff_toInt_lt] at h h'
  have e1 : (-99 : Int32).toInt = -99 := by decide
  have e2 : (99 : Int32).toInt = 99 := by decide
  rw [e1] at h; rw [e2] at h'
  unfold ap_b; omega
theorem ap_free (p : Nat → Prop) : ∀ n, (∃ s, s < n ∧ p s ∧ ∀ j, j < s → ¬ p j) ∨ ∀ j, j < n → ¬ p j := by
  intro n
  induction n with
  | zero => exact Or.inr (fun j hj => absurd hj (Nat.not_lt_zero j))
  | succ n ih =>
    rcases ih with ⟨s, h1, h2, h3⟩ | ih
    · exact Or.inl ⟨s, by omega, h2, h3⟩
    · by_cases z : p n
      · exact Or.inl ⟨n, by omega, z, ih⟩
      · refine Or.inr (fun j hj => ?_)
        rcases Nat.lt_or_ge j n with a | a
        · exact ih j a
        · have : j = n := by omega
          subst this; exact z
theorem i_vc_add {k : Nat} {u : SX} {v : SY} (I : i_Rel k u v) (hk : k + 4 ≤ 2048) (v1 : Int32) (v2 : Int32) (v3 : Int32) : wpX_add (fun r u' => wpY_add (fun r' v' => r' = r ∧ i_Rel (k + 4) u' v') v v1 v2 v3) u v1 v2 v3 := by
  obtain ⟨pB, kB, pm, fa, ki, bo, us, go, ai, pt, kt⟩ := u
  obtain ⟨un, fd, bu, sk, th, kd, pl, am, ov, bv⟩ := v
  have R : ap_Rel fa ki bo us go sk th kd pl am := I
  by_cases hb : ap_bad v1 v2 v3
  · exact ax_add_bad hb (ay_add_bad hb ⟨rfl, R⟩)
  · have hbb := hb
    unfold ap_bad at hbb
    obtain ⟨m, hm, rfl⟩ := ap_in3374 (x := v1) (fun y => hbb (Or.inl (Or.inl y))) (fun y => hbb (Or.inl (Or.inr y)))
    have h2 := ap_012 (x := v2) (fun y => hbb (Or.inr (Or.inl y))) (fun y => hbb (Or.inr (Or.inr (Or.inl y))))
    have h3 := ap_99 (x := v3) (fun y => hbb (Or.inr (Or.inr (Or.inr (Or.inl y))))) (fun y => hbb (Or.inr (Or.inr (Or.inr (Or.inr y)))))
    have ht := R.2.2.2.1
    rcases ap_free (fun j => us (6 + j) = 0) 5 with ⟨s, hs, z, hl⟩ | hn
    · refine ax_add_ok hb ⟨s + 1, ax_add37f hs z hl ?_ s 0 (by omega)⟩
      refine ay_add_ok hb ⟨s + 1, ay_add35f hs ((ht s hs).1.trans z) (fun j hj y => hl j hj ((ht j (by omega)).1.symm.trans y)) ?_ s 0 (by omega)⟩
      exact ⟨rfl, ap_Rel_add R hs hm h2 h3⟩
    · refine ax_add_ok hb ⟨6, ax_add37n hn ?_ 5 0 rfl⟩
      exact ay_add_ok hb ⟨6, ay_add35n (fun j hj y => hn j hj ((ht j hj).1.symm.trans y)) ⟨rfl, R⟩ 5 0 rfl⟩
theorem i_vc_remove {k : Nat} {u : SX} {v : SY} (I : i_Rel k u v) (hk : k + 4 ≤ 2048) (v1 : Int32) : wpX_remove (fun r u' => wpY_remove (fun r' v' => r' = r ∧ i_Rel (k + 4) u' v') v v1) u v1 := by
  obtain ⟨pB, kB, pm, fa, ki, bo, us, go, ai, pt, kt⟩ := u
  obtain ⟨un, fd, bu, sk, th, kd, pl, am, ov, bv⟩ := v
  have R : ap_Rel fa ki bo us go sk th kd pl am := I
  have ht := R.2.2.2.1
  refine ax_remove (fun s hs e hu => ay_remove (fun s' hs' e' hu' => ?_) (fun hn => absurd ((ht s hs).1.symm.trans (hn s hs e)) hu)) (fun hn => ay_remove (fun s hs e hu => absurd ((ht s hs).1.trans (hn s hs e)) hu) (fun _ => ⟨rfl, R⟩))
  rw [e, nI_eq (by omega) (by omega)] at e'
  subst e'
  exact ⟨rfl, ap_Rel_us R hs (Or.inl rfl)⟩
noncomputable def ap_tb (z : Nat → Prop) : Nat → Nat → Int32 → Int32
  | 0, _, x => x
  | d + 1, j, x => ap_tb z d (j + 1) (@ite Int32 (z j) (Classical.propDecidable (z j)) (x ||| ((1 : Int32) <<< (nI j &&& 31))) x)
theorem ap_tb_t {z : Nat → Prop} {d j : Nat} {x : Int32} (h : z j) : ap_tb z (d + 1) j x = ap_tb z d (j + 1) (x ||| ((1 : Int32) <<< (nI j &&& 31))) := by
  show ap_tb z d (j + 1) _ = _
  rw [if_pos h]
theorem ap_tb_f {z : Nat → Prop} {d j : Nat} {x : Int32} (h : ¬ z j) : ap_tb z (d + 1) j x = ap_tb z d (j + 1) x := by
  show ap_tb z d (j + 1) _ = _
  rw [if_neg h]
theorem ap_tb_cg {z z' : Nat → Prop} : ∀ d j x, (∀ i, j ≤ i → i < j + d → (z i ↔ z' i)) → ap_tb z d j x = ap_tb z' d j x := by
  intro d
  induction d with
  | zero => intro j x h; rfl
  | succ d ih =>
    intro j x h
    have hj := h j (Nat.le_refl j) (by omega)
    by_cases y : z j
    · rw [ap_tb_t y, ap_tb_t (hj.mp y)]; exact ih _ _ (fun i a b => h i (by omega) (by omega))
    · rw [ap_tb_f y, ap_tb_f (fun w => y (hj.mpr w))]; exact ih _ _ (fun i a b => h i (by omega) (by omega))
section
variable {pB kB pm : Int32} {fa ki bo us go ai pt kt : Nat → Int32}
theorem ax_c4 {post : Int32 → Prop} : ∀ d j x, j + d = 5 → post (ap_tb (fun i => ¬ us (6 + i) = 0) d j x) → wX_conditions_4 post pB kB pm fa ki bo us go ai pt kt (d + 1) x (nI j) := by
  intro d
  induction d with
  | zero =>
    intro j x hj h
    have : j = 5 := by omega
    subst this
    exact br_t ap_g5 h
  | succ d ih =>
    intro j x hj h
    have hj' : j < 5 := by omega
    refine br_f (ap_l5 j hj') ?_
    rw [ap_6i, ap_cl (by omega)]
    refine ⟨ap_in (by omega) (by decide), br_c (fun z => nm_r (nI_1 j) (ih _ _ (by omega) ?_)) (fun z => nm_e (nm_r (nI_1 j) (ih _ _ (by omega) ?_)))⟩
    · rw [ap_tb_f (fun w => w z)] at h; exact h
    · rw [ap_tb_t z] at h; exact h
end
section
variable {un : Int64} {fd : Int32} {bu : Int64} {sk : Int32} {th kd : Nat → Int32} {pl : Nat → Int64} {am : Nat → Int32} {ov bv : Nat → Int64}
theorem ay_c4 {post : Int32 → Prop} : ∀ d j x, j + d = 5 → post (ap_tb (fun i => ¬ th i = 0) d j x) → wY_conditions_4 post un fd bu sk th kd pl am ov bv (d + 1) x (nI j) := by
  intro d
  induction d with
  | zero =>
    intro j x hj h
    have : j = 5 := by omega
    subst this
    exact br_t ap_g5 h
  | succ d ih =>
    intro j x hj h
    have hj' : j < 5 := by omega
    refine br_f (ap_l5 j hj') ⟨ap_in hj' (by decide), ?_⟩
    rw [ap_cl (by omega)]
    refine br_c (fun z => nm_r (nI_1 j) (ih _ _ (by omega) ?_)) (fun z => nm_e (nm_r (nI_1 j) (ih _ _ (by omega) ?_)))
    · rw [ap_tb_f (fun w => w z)] at h; exact h
    · rw [ap_tb_t z] at h; exact h
theorem ay_in49 {post : SY → Prop} {i n : Nat} (hi : i < 3) (h : wY_init_49 post un fd bu sk n (nI (i + 1)) th kd (vp_updL (vp_updL (vp_updL pl (20 + 5 * i) 1) (32 + 5 * i) 1) (35 + 4 * i) 20) am ov bv) :
    wY_init_49 post un fd bu sk (n + 1) (nI i) th kd pl am ov bv := by
  have e1 : (4 * (5 + nI i)) + nI i = nI (20 + 5 * i) := ap_lt3 (P := fun i => (4 * (5 + nI i)) + nI i = nI (20 + 5 * i)) (by decide) (by decide) (by decide) i hi
  have e2 : (4 * (8 + nI i)) + nI i = nI (32 + 5 * i) := ap_lt3 (P := fun i => (4 * (8 + nI i)) + nI i = nI (32 + 5 * i)) (by decide) (by decide) (by decide) i hi
  have e3 : (4 * (8 + nI i)) + 3 = nI (35 + 4 * i) := ap_lt3 (P := fun i => (4 * (8 + nI i)) + 3 = nI (35 + 4 * i)) (by decide) (by decide) (by decide) i hi
  refine br_f (ap_l3 i hi) ?_
  rw [e1, e2, e3, ap_cl (by omega), ap_cl (by omega), ap_cl (by omega)]
  exact ⟨ap_in (by omega) (by decide), nm_e ⟨ap_in (by omega) (by decide), nm_e ⟨ap_in (by omega) (by decide), nm_e (nm_r (nI_1 i) h)⟩⟩⟩
end
theorem i_vc_conditions {k : Nat} {u : SX} {v : SY} (I : i_Rel k u v) (hk : k + 4 ≤ 2048) : wpX_conditions (fun r => wpY_conditions (fun r' => r' = r ∧ i_Rel (k + 4) u v) v) u := by
  obtain ⟨pB, kB, pm, fa, ki, bo, us, go, ai, pt, kt⟩ := u
  obtain ⟨un, fd, bu, sk, th, kd, pl, am, ov, bv⟩ := v
  have R : ap_Rel fa ki bo us go sk th kd pl am := I
  have ht := R.2.2.2.1
  refine ⟨6, ax_c4 5 0 0 rfl ⟨6, ay_c4 5 0 0 rfl ⟨ap_tb_cg 5 0 0 (fun i _ hi => ?_), I⟩⟩⟩
  rw [(ht i (by omega)).1]
theorem i_vc_goal {k : Nat} {u : SX} {v : SY} (I : i_Rel k u v) (hk : k + 4 ≤ 2048) (v1 : Int32) : wpX_goal (fun r u' => wpY_goal (fun r' v' => r' = r ∧ i_Rel (k + 4) u' v') v v1) u v1 := by
  obtain ⟨pB, kB, pm, fa, ki, bo, us, go, ai, pt, kt⟩ := u
  obtain ⟨un, fd, bu, sk, th, kd, pl, am, ov, bv⟩ := v
  have R : ap_Rel fa ki bo us go sk th kd pl am := I
  refine ax_goal (fun a b => ay_goal (fun _ _ => ⟨rfl, ?_⟩) (fun y => y.elim (fun z => absurd z a) (fun z => absurd z b))) (fun y => ay_goal (fun a b => y.elim (fun z => absurd z a) (fun z => absurd z b)) (fun _ => ⟨rfl, R⟩))
  obtain ⟨m, hm, rfl⟩ := ap_in3374 a b
  obtain ⟨⟨r1, r2, r3, r4, r5, r6⟩, s1, s2, s3, s4⟩ := R
  subst s2
  refine ⟨⟨r1, r2, r3, ?_, r5, r6⟩, s1, rfl, s3, s4⟩
  unfold ap_sg3
  exact ap_upd_p (p := fun x => ap_b 7 x.toInt) (ap_upd_p (p := fun x => ap_b 7 x.toInt) (ap_upd_p (p := fun x => ap_b 7 x.toInt) r4 (ap_num_b hm 0)) (ap_num_b hm 1)) (ap_num_b hm 2)
theorem ap_sf_b {fa : Nat → Int32} {r m : Nat} (h : ∀ j, ap_b 7 (fa j).toInt) (hm : m ≤ 3374) : ∀ j, ap_b 7 (ap_sf fa r (nI m) j).toInt := by
  unfold ap_sf
  exact ap_upd_p (p := fun x => ap_b 7 x.toInt) (ap_upd_p (p := fun x => ap_b 7 x.toInt) (ap_upd_p (p := fun x => ap_b 7 x.toInt) h (ap_num_b hm 0)) (ap_num_b hm 1)) (ap_num_b hm 2)
theorem i_vc0 : wpX_init (fun u => wpY_init (fun v => i_Rel 0 u v)) := by
  unfold wpX_init
  refine ax_setRow (r := 0) (by decide) (ax_setRow (r := 1) (by decide) (ax_setRow (r := 2) (by decide) (ax_setRow (r := 3) (by decide) (ax_setRow (r := 4) (by decide) (ax_setRow (r := 5) (by decide) ?_)))))
  refine ⟨4, ay_in49 (i := 0) (by decide) (ay_in49 (i := 1) (by decide) (ay_in49 (i := 2) (by decide) (br_t ap_g3 ?_)))⟩
  refine ⟨⟨?_, ?_, ?_, ?_, ?_, ?_⟩, rfl, rfl, ?_, ?_⟩
  · exact ap_sf_b (m := 1912) (ap_sf_b (m := 1702) (ap_sf_b (m := 1688) (ap_sf_b (m := 1912) (ap_sf_b (m := 1702) (ap_sf_b (m := 1688) (fun _ => ap_b_0) (by decide)) (by decide)) (by decide)) (by decide)) (by decide)) (by decide)
  · have p20 : ap_b 99 (20 : Int32).toInt := by unfold ap_b; decide
    have p0 : ap_b 99 (0 : Int32).toInt := by unfold ap_b; decide
    exact ap_upd_p (p := fun x => ap_b 99 x.toInt) (ap_upd_p (p := fun x => ap_b 99 x.toInt) (ap_upd_p (p := fun x => ap_b 99 x.toInt) (ap_upd_p (p := fun x => ap_b 99 x.toInt) (ap_upd_p (p := fun x => ap_b 99 x.toInt) (ap_upd_p (p := fun x => ap_b 99 x.toInt) (fun _ => p0) p0) p0) p0) p20) p20) p20
  · have q0 : (0 : Int32) = 0 ∨ (0 : Int32) = 1 ∨ (0 : Int32) = 2 := Or.inl rfl
    have q2 : (2 : Int32) = 0 ∨ (2 : Int32) = 1 ∨ (2 : Int32) = 2 := Or.inr (Or.inr rfl)
    exact ap_upd_p (p := fun x => x = 0 ∨ x = 1 ∨ x = 2) (ap_upd_p (p := fun x => x = 0 ∨ x = 1 ∨ x = 2) (ap_upd_p (p := fun x => x = 0 ∨ x = 1 ∨ x = 2) (ap_upd_p (p := fun x => x = 0 ∨ x = 1 ∨ x = 2) (ap_upd_p (p := fun x => x = 0 ∨ x = 1 ∨ x = 2) (ap_upd_p (p := fun x => x = 0 ∨ x = 1 ∨ x = 2) (fun _ => q0) q2) q2) q2) q0) q0) q0
  · exact fun _ => ap_b_0
  · have q0 : (0 : Int32) = 0 ∨ (0 : Int32) = 1 := Or.inl rfl
    have q1 : (1 : Int32) = 0 ∨ (1 : Int32) = 1 := Or.inr rfl
    exact ap_upd_p (p := fun x => x = 0 ∨ x = 1) (ap_upd_p (p := fun x => x = 0 ∨ x = 1) (ap_upd_p (p := fun x => x = 0 ∨ x = 1) (ap_upd_p (p := fun x => x = 0 ∨ x = 1) (ap_upd_p (p := fun x => x = 0 ∨ x = 1) (ap_upd_p (p := fun x => x = 0 ∨ x = 1) (fun _ => q0) q1) q1) q1) q1) q1) q1
  · exact ap_lt3 (by decide +kernel) (by decide +kernel) (by decide +kernel)
  · decide +kernel
  · decide +kernel
end
section
/-! the owed statements of the searches -/
theorem ap_pb_i {Q : ap_P} (h : ap_pb Q) : ap_i Q.2 = nI Q.2.toNat := by
  rw [ap_i_n]; congr 1; have := h.2.1; omega
theorem ap_pb_l {Q : ap_P} (h : ap_pb Q) : ap_l Q.2 = lN Q.2.toNat := by
  rw [ap_l_n]; congr 1; have := h.2.1; omega
theorem ap_lowQ {T T' : Int} {Q Q' : ap_P} (h : ap_pb Q) (h' : ap_pb Q') (e : T * Q'.2 - T' * Q.2 = 0) :
    T.tdiv (Nat.gcd T.natAbs Q.2.toNat : Nat) = T'.tdiv (Nat.gcd T'.natAbs Q'.2.toNat : Nat) ∧ Q.2.toNat / Nat.gcd T.natAbs Q.2.toNat = Q'.2.toNat / Nat.gcd T'.natAbs Q'.2.toNat := by
  have p := h.2.1
  have p' := h'.2.1
  refine ap_low (by omega) (by omega) ?_
  rw [Int.toNat_of_nonneg (by omega), Int.toNat_of_nonneg (by omega)]
  omega
theorem ax_lowTop {post : Int32 → Prop} {T : Int} {Q : ap_P} (hT : ap_b 1000000 T) (h : ap_pb Q) (hp : post (ap_i (T.tdiv (Nat.gcd T.natAbs Q.2.toNat : Nat)))) : wpX_lowestTop post (ap_i T) (ap_i Q.2) := by
  have p := h.2
  rw [ap_pb_i h]; exact ax_lowestTop hT (by omega) (by omega) hp
theorem ax_lowBottom {post : Int32 → Prop} {T : Int} {Q : ap_P} (hT : ap_b 1000000 T) (h : ap_pb Q) (hp : post (nI (Q.2.toNat / Nat.gcd T.natAbs Q.2.toNat))) : wpX_lowestBottom post (ap_i T) (ap_i Q.2) := by
  have p := h.2
  rw [ap_pb_i h]; exact ax_lowestBottom hT (by omega) (by omega) hp
theorem ax_isEngine {post : Int32 → Prop} {x : Int32} (h1 : ¬ (x < 0 ∨ 2 < x) → post 1) (h0 : (x < 0 ∨ 2 < x) → post 0) : wpX_isEngine post x :=
  br_c (fun z => h0 (Or.inl z)) (fun z => br_c (fun y => h0 (Or.inr y)) (fun y => h1 (fun w => w.elim z y)))
theorem ap_am3 {x : Int32} (h : ¬ x < 0) (h' : ¬ 3 ≤ x) : ∃ i, i < 3 ∧ x = nI i := by
  obtain ⟨j, hj, rfl⟩ := nI_of h
  refine ⟨j, ?_, rfl⟩
  rcases Nat.lt_or_ge j 3 with w | w
  · exact w
  · exact absurd (nI_le (a := 3) w hj) h'
theorem ap_am2 {x : Int32} (h : ¬ x < 0) (h' : ¬ 2 < x) : ∃ i, i < 3 ∧ x = nI i := by
  obtain ⟨j, hj, rfl⟩ := nI_of h
  refine ⟨j, ?_, rfl⟩
  rcases Nat.lt_or_ge j 3 with w | w
  · exact w
  · exact absurd (nI_lt (a := 2) (by omega) hj) h'
theorem ax_isAmount {post : Int32 → Prop} {x : Int32} (h1 : (∃ i, i < 3 ∧ x = nI i) → post 1) (h0 : (∀ i, i < 3 → ¬ x = nI i) → post 0) : wpX_isAmount post x := by
  refine br_c (fun z => h0 (fun i hi e => ?_)) (fun z => br_c (fun y => h0 (fun i hi e => ?_)) (fun y => h1 (ap_am3 z y)))
  · subst e; exact nI_pos (by omega) z
  · subst e; exact ap_l3 i hi y
theorem ap_same {A : Nat → Int} {S : ap_P → Prop} {Q Q' : ap_P} (h1 : S Q) (h2 : ∀ c, S c → ¬ ap_bt A c Q) (h1' : S Q') (h2' : ∀ c, S c → ¬ ap_bt A c Q') : ap_g0 A Q Q' = 0 ∧ ∀ i, i < 3 → ap_gi i Q Q' = 0 :=
  ap_bt_an (h2' Q h1) (h2 Q' h1')
section
variable {un : Int64} {fd : Int32} {bu : Int64} {sk : Int32} {th kd : Nat → Int32} {pl : Nat → Int64} {am : Nat → Int32} {ov bv : Nat → Int64}
theorem ay_isEngine {post : Int32 → Prop} {x : Int32} (h1 : ¬ (x < 0 ∨ 2 < x) → post 1) (h0 : (x < 0 ∨ 2 < x) → post 0) : wpY_isEngine post (un, fd, bu, sk, th, kd, pl, am, ov, bv) x :=
  br_c (fun z => h0 (Or.inl z)) (fun z => br_c (fun y => h0 (Or.inr y)) (fun y => h1 (fun w => w.elim z y)))
theorem ay_amount {post : Int32 → Prop} {x : Int32} (h1 : (∃ i, i < 3 ∧ x = nI i) → post 1) (h0 : (∀ i, i < 3 → ¬ x = nI i) → post 0) : wpY_amount post (un, fd, bu, sk, th, kd, pl, am, ov, bv) x := by
  refine br_c (fun z => h0 (fun i hi e => ?_)) (fun z => br_c (fun y => h0 (fun i hi e => ?_)) (fun y => h1 (ap_am2 z y)))
  · subst e; exact nI_pos (by omega) z
  · subst e
    have y' : nI 2 < nI i := y
    rw [nI_ltI (by decide) (by omega)] at y'
    omega
theorem ay_lowTop {post : Int32 → Prop} {T : Int} {Q : ap_P} (hT : ap_b 1000000 T) (h : ap_pb Q) (hp : post (ap_i (T.tdiv (Nat.gcd T.natAbs Q.2.toNat : Nat)))) : wpY_top post (un, fd, bu, sk, th, kd, pl, am, ov, bv) (ap_l T) (ap_l Q.2) := by
  have p := h.2
  rw [ap_pb_l h]; exact ay_top hT (by omega) (by omega) hp
theorem ay_lowBottom {post : Int32 → Prop} {T : Int} {Q : ap_P} (hT : ap_b 1000000 T) (h : ap_pb Q) (hp : post (nI (Q.2.toNat / Nat.gcd T.natAbs Q.2.toNat))) : wpY_bottom post (un, fd, bu, sk, th, kd, pl, am, ov, bv) (ap_l T) (ap_l Q.2) := by
  have p := h.2
  rw [ap_pb_l h]; exact ay_bottom hT (by omega) (by omega) hp
end
theorem ap_n01 : ¬ (1 : Int32) = 0 := by decide
theorem i_vc_feasible {k : Nat} {u : SX} {v : SY} (I : i_Rel k u v) (hk : k + 4 ≤ 2048) (v1 : Int32) : wpX_feasible (fun r u' => wpY_feasible (fun r' v' => r' = r ∧ i_Rel (k + 4) u' v') v v1) u v1 := by
  obtain ⟨pB, kB, pm, fa, ki, bo, us, go, ai, pt, kt⟩ := u
  obtain ⟨un, fd, bu, sk, th, kd, pl, am, ov, bv⟩ := v
  have R : ap_Rel fa ki bo us go sk th kd pl am := I
  have eam := ap_Rel_am R
  subst eam
  have hF := ap_Rel_F R
  have hB := ap_Rel_B R
  have hG := ap_Rel_G R
  have hC := ap_Rel_Co R
  unfold wpX_feasible wpY_feasible; dsimp only
  refine ax_isEngine (fun he => br_f ap_n01 ?_) (fun he => br_t rfl ?_)
  · refine ax_findBest hF hB hG (fun pB kB pm ai pt kt hn => br_t rfl ?_) (fun pB pm ai pt kt Q q1 q2 q3 q4 q5 => br_f ap_n01 ?_)
    · exact ay_search hC hG (fun un bu ov bv _ => ay_isEngine (fun _ => br_f ap_n01 (br_t rfl ⟨rfl, R⟩)) (fun y => absurd y he)) (fun un ov bv Q' p1 p2 p3 p4 => absurd p1 (hn Q'))
    · exact ay_search hC hG (fun un bu ov bv hn => absurd q1 (hn Q)) (fun un ov bv Q' p1 p2 p3 p4 => ay_isEngine (fun _ => br_f ap_n01 (br_f ap_n01 ⟨rfl, R⟩)) (fun y => absurd y he))
  · exact ay_search hC hG (fun un bu ov bv _ => ay_isEngine (fun y => absurd he y) (fun _ => br_t rfl ⟨rfl, R⟩)) (fun un ov bv Q' p1 p2 p3 p4 => ay_isEngine (fun y => absurd he y) (fun _ => br_t rfl ⟨rfl, R⟩))
theorem ap_wT {A : Nat → Int} {Q : ap_P} (hA : ∀ i, ap_b 7 (A i)) (hQ : ap_pb Q) : ap_b 1000000 (ap_w A Q) := ap_b_le (ap_w_b hA hQ) (by decide)
theorem ap_tT {Q : ap_P} (hQ : ap_pb Q) (i : Nat) : ap_b 1000000 (Q.1 i) := ap_b_le (hQ.1 i) (by decide)
theorem ap_gi_e {i : Nat} {Q Q' : ap_P} (h : ap_gi i Q Q' = 0) : Q.1 i * Q'.2 - Q'.1 i * Q.2 = 0 := by unfold ap_gi at h; omega
theorem i_vc_bestTop {k : Nat} {u : SX} {v : SY} (I : i_Rel k u v) (hk : k + 4 ≤ 2048) (v1 : Int32) : wpX_bestTop (fun r u' => wpY_bestTop (fun r' v' => r' = r ∧ i_Rel (k + 4) u' v') v v1) u v1 := by
  obtain ⟨pB, kB, pm, fa, ki, bo, us, go, ai, pt, kt⟩ := u
  obtain ⟨un, fd, bu, sk, th, kd, pl, am, ov, bv⟩ := v
  have R : ap_Rel fa ki bo us go sk th kd pl am := I
  have eam := ap_Rel_am R
  subst eam
  have hF := ap_Rel_F R
  have hB := ap_Rel_B R
  have hG := ap_Rel_G R
  have hC := ap_Rel_Co R
  unfold wpX_bestTop wpY_bestTop; dsimp only
  refine ax_isEngine (fun he => br_f ap_n01 ?_) (fun he => br_t rfl ?_)
  · refine ax_findBest hF hB hG (fun pB kB pm ai pt kt hn => br_t rfl ?_) (fun pB pm ai pt kt Q q1 q2 q3 q4 q5 => br_f ap_n01 ?_)
    · exact ay_search hC hG (fun un bu ov bv _ => ay_isEngine (fun _ => br_f ap_n01 (br_t rfl ⟨rfl, R⟩)) (fun y => absurd y he)) (fun un ov bv Q' p1 p2 p3 p4 => absurd p1 (hn Q'))
    · refine ax_aiK q4 q5 (ax_lowTop (ap_wT hG q3) q3 ?_)
      refine ay_search hC hG (fun un bu ov bv hn => absurd q1 (hn Q)) (fun un ov bv Q' p1 p2 p3 p4 => ay_isEngine (fun _ => br_f ap_n01 (br_f ap_n01 ?_)) (fun y => absurd y he))
      refine ay_bestWorth p4 (ay_lowTop (ap_wT hG p3) p3 ⟨?_, R⟩)
      rw [(ap_lowQ q3 p3 (ap_same q1 q2 p1 p2).1).1]
  · exact ay_search hC hG (fun un bu ov bv _ => ay_isEngine (fun y => absurd he y) (fun _ => br_t rfl ⟨rfl, R⟩)) (fun un ov bv Q' p1 p2 p3 p4 => ay_isEngine (fun y => absurd he y) (fun _ => br_t rfl ⟨rfl, R⟩))
theorem i_vc_bestBottom {k : Nat} {u : SX} {v : SY} (I : i_Rel k u v) (hk : k + 4 ≤ 2048) (v1 : Int32) : wpX_bestBottom (fun r u' => wpY_bestBottom (fun r' v' => r' = r ∧ i_Rel (k + 4) u' v') v v1) u v1 := by
  obtain ⟨pB, kB, pm, fa, ki, bo, us, go, ai, pt, kt⟩ := u
  obtain ⟨un, fd, bu, sk, th, kd, pl, am, ov, bv⟩ := v
  have R : ap_Rel fa ki bo us go sk th kd pl am := I
  have eam := ap_Rel_am R
  subst eam
  have hF := ap_Rel_F R
  have hB := ap_Rel_B R
  have hG := ap_Rel_G R
  have hC := ap_Rel_Co R
  unfold wpX_bestBottom wpY_bestBottom; dsimp only
  refine ax_isEngine (fun he => br_f ap_n01 ?_) (fun he => br_t rfl ?_)
  · refine ax_findBest hF hB hG (fun pB kB pm ai pt kt hn => br_t rfl ?_) (fun pB pm ai pt kt Q q1 q2 q3 q4 q5 => br_f ap_n01 ?_)
    · exact ay_search hC hG (fun un bu ov bv _ => ay_isEngine (fun _ => br_f ap_n01 (br_t rfl ⟨rfl, R⟩)) (fun y => absurd y he)) (fun un ov bv Q' p1 p2 p3 p4 => absurd p1 (hn Q'))
    · refine ax_aiK q4 q5 (ax_lowBottom (ap_wT hG q3) q3 ?_)
      refine ay_search hC hG (fun un bu ov bv hn => absurd q1 (hn Q)) (fun un ov bv Q' p1 p2 p3 p4 => ay_isEngine (fun _ => br_f ap_n01 (br_f ap_n01 ?_)) (fun y => absurd y he))
      refine ay_bestWorth p4 (ay_lowBottom (ap_wT hG p3) p3 ⟨?_, R⟩)
      rw [(ap_lowQ q3 p3 (ap_same q1 q2 p1 p2).1).2]
  · exact ay_search hC hG (fun un bu ov bv _ => ay_isEngine (fun y => absurd he y) (fun _ => br_t rfl ⟨rfl, R⟩)) (fun un ov bv Q' p1 p2 p3 p4 => ay_isEngine (fun y => absurd he y) (fun _ => br_t rfl ⟨rfl, R⟩))
theorem i_vc_pointTop {k : Nat} {u : SX} {v : SY} (I : i_Rel k u v) (hk : k + 4 ≤ 2048) (v1 : Int32) : wpX_pointTop (fun r u' => wpY_pointTop (fun r' v' => r' = r ∧ i_Rel (k + 4) u' v') v v1) u v1 := by
  obtain ⟨pB, kB, pm, fa, ki, bo, us, go, ai, pt, kt⟩ := u
  obtain ⟨un, fd, bu, sk, th, kd, pl, am, ov, bv⟩ := v
  have R : ap_Rel fa ki bo us go sk th kd pl am := I
  have eam := ap_Rel_am R
  subst eam
  have hF := ap_Rel_F R
  have hB := ap_Rel_B R
  have hG := ap_Rel_G R
  have hC := ap_Rel_Co R
  unfold wpX_pointTop wpY_pointTop; dsimp only
  refine ax_isAmount (fun he => br_f ap_n01 ?_) (fun he => br_t rfl ?_)
  · obtain ⟨i, hi, rfl⟩ := he
    have hna : ∀ {p : Prop}, (∀ j, j < 3 → ¬ nI i = nI j) → p := fun y => absurd rfl (y i hi)
    refine ax_findBest hF hB hG (fun pB kB pm ai pt kt hn => br_t rfl ?_) (fun pB pm ai pt kt Q q1 q2 q3 q4 q5 => br_f ap_n01 ⟨ap_in hi (by decide), ?_⟩)
    · exact ay_search hC hG (fun un bu ov bv _ => ay_amount (fun _ => br_f ap_n01 (br_t rfl ⟨rfl, R⟩)) (fun y => hna y)) (fun un ov bv Q' p1 p2 p3 p4 => absurd p1 (hn Q'))
    · rw [ap_cl (by omega)]; dsimp only
      rw [q5 i hi]
      refine ax_lowTop (ap_tT q3 i) q3 ?_
      refine ay_search hC hG (fun un bu ov bv hn => absurd q1 (hn Q)) (fun un ov bv Q' p1 p2 p3 p4 => ay_amount (fun _ => br_f ap_n01 (br_f ap_n01 ⟨ap_in hi (by decide), ?_⟩)) (fun y => hna y))
      dsimp only
      rw [p4 i hi]
      refine ay_lowTop (ap_tT p3 i) p3 ⟨?_, R⟩
      rw [(ap_lowQ q3 p3 (ap_gi_e ((ap_same q1 q2 p1 p2).2 i hi))).1]
  · have hna : ∀ {p : Prop}, (∃ i, i < 3 ∧ v1 = nI i) → p := fun y => y.elim (fun i z => absurd z.2 (he i z.1))
    exact ay_search hC hG (fun un bu ov bv _ => ay_amount (fun y => hna y) (fun _ => br_t rfl ⟨rfl, R⟩)) (fun un ov bv Q' p1 p2 p3 p4 => ay_amount (fun y => hna y) (fun _ => br_t rfl ⟨rfl, R⟩))
theorem i_vc_pointBottom {k : Nat} {u : SX} {v : SY} (I : i_Rel k u v) (hk : k + 4 ≤ 2048) (v1 : Int32) : wpX_pointBottom (fun r u' => wpY_pointBottom (fun r' v' => r' = r ∧ i_Rel (k + 4) u' v') v v1) u v1 := by
  obtain ⟨pB, kB, pm, fa, ki, bo, us, go, ai, pt, kt⟩ := u
  obtain ⟨un, fd, bu, sk, th, kd, pl, am, ov, bv⟩ := v
  have R : ap_Rel fa ki bo us go sk th kd pl am := I
  have eam := ap_Rel_am R
  subst eam
  have hF := ap_Rel_F R
  have hB := ap_Rel_B R
  have hG := ap_Rel_G R
  have hC := ap_Rel_Co R
  unfold wpX_pointBottom wpY_pointBottom; dsimp only
  refine ax_isAmount (fun he => br_f ap_n01 ?_) (fun he => br_t rfl ?_)
  · obtain ⟨i, hi, rfl⟩ := he
    have hna : ∀ {p : Prop}, (∀ j, j < 3 → ¬ nI i = nI j) → p := fun y => absurd rfl (y i hi)
    refine ax_findBest hF hB hG (fun pB kB pm ai pt kt hn => br_t rfl ?_) (fun pB pm ai pt kt Q q1 q2 q3 q4 q5 => br_f ap_n01 ⟨ap_in hi (by decide), ?_⟩)
    · exact ay_search hC hG (fun un bu ov bv _ => ay_amount (fun _ => br_f ap_n01 (br_t rfl ⟨rfl, R⟩)) (fun y => hna y)) (fun un ov bv Q' p1 p2 p3 p4 => absurd p1 (hn Q'))
    · rw [ap_cl (by omega)]; dsimp only
      rw [q5 i hi]
      refine ax_lowBottom (ap_tT q3 i) q3 ?_
      refine ay_search hC hG (fun un bu ov bv hn => absurd q1 (hn Q)) (fun un ov bv Q' p1 p2 p3 p4 => ay_amount (fun _ => br_f ap_n01 (br_f ap_n01 ⟨ap_in hi (by decide), ?_⟩)) (fun y => hna y))
      dsimp only
      rw [p4 i hi]
      refine ay_lowBottom (ap_tT p3 i) p3 ⟨?_, R⟩
      rw [(ap_lowQ q3 p3 (ap_gi_e ((ap_same q1 q2 p1 p2).2 i hi))).2]
  · have hna : ∀ {p : Prop}, (∃ i, i < 3 ∧ v1 = nI i) → p := fun y => y.elim (fun i z => absurd z.2 (he i z.1))
    exact ay_search hC hG (fun un bu ov bv _ => ay_amount (fun y => hna y) (fun _ => br_t rfl ⟨rfl, R⟩)) (fun un ov bv Q' p1 p2 p3 p4 => ay_amount (fun y => hna y) (fun _ => br_t rfl ⟨rfl, R⟩))
/-! reach -/
theorem ap_wE {s : Int} {P : ap_P} : ∀ i, i < 3 → ap_w (ap_E s i) P = s * P.1 i := by
  apply ap_lt3 <;> (unfold ap_w ap_E; simp)
theorem ap_rsame {s : Int} {S : ap_P → Prop} {i : Nat} {Q Q' : ap_P} (hs : s = 1 ∨ s = -1) (hi : i < 3) (h1 : S Q) (h2 : ∀ c, S c → ¬ ap_bt (ap_E s i) c Q) (h1' : S Q') (h2' : ∀ c, S c → ¬ ap_br s i c Q') : Q.1 i * Q'.2 - Q'.1 i * Q.2 = 0 := by
  have a := ap_bt_g0 (h2 Q' h1')
  have b := h2' Q h1
  unfold ap_g0 at a
  rw [ap_wE i hi, ap_wE i hi] at a
  unfold ap_br at b
  rcases hs with rfl | rfl
  · rw [Int.one_mul, Int.one_mul] at a
    rw [Int.one_mul] at b
    omega
  · have e1 : (-1 : Int) * Q'.1 i * Q.2 = -(Q'.1 i * Q.2) := by grind
    have e2 : (-1 : Int) * Q.1 i * Q'.2 = -(Q.1 i * Q'.2) := by grind
    rw [e1, e2] at a
    rw [Int.neg_mul, Int.one_mul] at b
    omega
theorem ap_w01 {w : Int32} (h : ¬ w < 0) (h' : w ≤ 1) : w = 0 ∨ w = 1 := by
  obtain ⟨j, hj, rfl⟩ := nI_of2 (M := 1) (n := 1) (by decide) h h'
  have : j = 0 ∨ j = 1 := by omega
  rcases this with rfl | rfl
  · exact Or.inl rfl
  · exact Or.inr rfl
section
variable {pB kB pm : Int32} {fa ki bo us go ai pt kt : Nat → Int32}
theorem ax_reachTop_bad {post : Int32 → SX → Prop} {x w : Int32} (h : (∀ i, i < 3 → ¬ x = nI i) ∨ (¬ w = 0 ∧ ¬ w = 1)) (hp : post (-10000000) (pB, kB, pm, fa, ki, bo, us, go, ai, pt, kt)) : wpX_reachTop post (pB, kB, pm, fa, ki, bo, us, go, ai, pt, kt) x w := by
  unfold wpX_reachTop; dsimp only
  refine ax_isAmount (fun he => br_f ap_n01 (br_c (fun _ => hp) (fun z => br_c (fun y => ?_) (fun _ => hp)))) (fun he => br_t rfl hp)
  obtain ⟨i, hi, e⟩ := he
  have w01 := ap_w01 z y
  rcases h with h | h
  · exact absurd e (h i hi)
  · exact absurd w01 (fun v => v.elim h.1 h.2)
theorem ax_reachTop_run {post : Int32 → SX → Prop} {i : Nat} {w : Int32} {s : Int} (hw : w = 0 ∨ w = 1) (hs : (w = 1 ∧ s = 1) ∨ (¬ w = 1 ∧ s = -1))
    (hF : ∀ r i, ap_b 7 (ap_F fa r i)) (hB : ∀ r, ap_b 99 (ap_B bo r)) (hi : i < 3)
    (h0 : ∀ (pB kB pm : Int32) (ai pt kt : Nat → Int32), (∀ c, ¬ ap_C (ap_F fa) (ap_B bo) ki us c) → post (-30000000) (pB, kB, pm, fa, ki, bo, us, go, ai, pt, kt))
    (h1 : ∀ (pB kB pm : Int32) (ai pt kt : Nat → Int32) (Q : ap_P), ap_C (ap_F fa) (ap_B bo) ki us Q → (∀ c, ap_C (ap_F fa) (ap_B bo) ki us c → ¬ ap_bt (ap_E s i) c Q) → ap_pb Q → post (ap_i ((Q.1 i).tdiv (Nat.gcd (Q.1 i).natAbs Q.2.toNat : Nat))) (pB, kB, pm, fa, ki, bo, us, go, ai, pt, kt)) :
    wpX_reachTop post (pB, kB, pm, fa, ki, bo, us, go, ai, pt, kt) (nI i) w := by
  unfold wpX_reachTop; dsimp only
  have n0 : ¬ w < 0 := by rcases hw with rfl | rfl <;> decide
  have n1 : w ≤ 1 := by rcases hw with rfl | rfl <;> decide
  refine ax_isAmount (fun _ => br_f ap_n01 (br_f n0 (br_t n1 ?_))) (fun he => absurd rfl (he i hi))
  refine ax_findReach hs hF hB hi (fun pB kB pm ai pt kt hn => br_t rfl (h0 _ _ _ _ _ _ hn)) (fun pB pm ai pt kt Q q1 q2 q3 q5 => br_f ap_n01 ⟨ap_in hi (by decide), ?_⟩)
  rw [ap_cl (by omega)]; dsimp only
  rw [q5 i hi]
  exact ax_lowTop (ap_tT q3 i) q3 (h1 _ _ _ _ _ _ Q q1 q2 q3)
end
section
variable {un : Int64} {fd : Int32} {bu : Int64} {sk : Int32} {th kd : Nat → Int32} {pl : Nat → Int64} {am : Nat → Int32} {ov bv : Nat → Int64}
theorem ay_reachTop_bad {post : Int32 → SY → Prop} {x w : Int32} (h : (∀ i, i < 3 → ¬ x = nI i) ∨ (¬ w = 0 ∧ ¬ w = 1)) (hp : post (-10000000) (un, fd, bu, sk, th, kd, pl, am, ov, bv)) : wpY_reachTop post (un, fd, bu, sk, th, kd, pl, am, ov, bv) x w := by
  unfold wpY_reachTop; dsimp only
  refine ay_amount (fun he => br_f ap_n01 ?_) (fun he => br_t rfl hp)
  obtain ⟨i, hi, e⟩ := he
  rcases h with h | h
  · exact absurd e (h i hi)
  · exact br_f h.1 (br_f h.2 hp)
theorem ay_reachTop_run {post : Int32 → SY → Prop} {F : Nat → Nat → Int} {B : Nat → Int} {K U : Nat → Int32} {i : Nat} {w : Int32} {s : Int} (hw : w = 0 ∨ w = 1) (hs : (w = 0 ∧ s = -1) ∨ (¬ w = 0 ∧ s = 1)) (hi : i < 3) (hC : ay_Co F B K U sk th kd pl)
    (h0 : ∀ (un : Int64) (fd : Int32) (bu : Int64) (ov bv : Nat → Int64), (∀ c, ¬ ap_C F B K U c) → post (-30000000) (un, fd, bu, sk, th, kd, pl, am, ov, bv))
    (h1 : ∀ (un : Int64) (fd : Int32) (bu : Int64) (ov bv : Nat → Int64) (Q : ap_P), ap_C F B K U Q → (∀ c, ap_C F B K U c → ¬ ap_br s i c Q) → ap_pb Q → post (ap_i ((Q.1 i).tdiv (Nat.gcd (Q.1 i).natAbs Q.2.toNat : Nat))) (un, fd, bu, sk, th, kd, pl, am, ov, bv)) :
    wpY_reachTop post (un, fd, bu, sk, th, kd, pl, am, ov, bv) (nI i) w := by
  have run : wY_reachTop_20 post (nI i) w un fd bu sk th kd pl am ov bv := by
    unfold wY_reachTop_20
    refine ay_reach hs hi hC (fun un bu ov bv hn => br_t rfl (h0 _ _ _ _ _ hn)) (fun un ov bv Q q1 q2 q3 q4 => br_f ap_n01 ⟨ap_in hi (by decide), ?_⟩)
    rw [ap_cl (by omega), q4 i hi]
    exact ay_lowTop (ap_tT q3 i) q3 (h1 _ _ _ _ _ Q q1 q2 q3)
  unfold wpY_reachTop; dsimp only
  exact ay_amount (fun _ => br_f ap_n01 (br_c (fun _ => run) (fun z0 => br_c (fun _ => run) (fun z1 => absurd hw (fun v => v.elim z0 z1))))) (fun he => absurd rfl (he i hi))
end
theorem i_vc_reachTop {k : Nat} {u : SX} {v : SY} (I : i_Rel k u v) (hk : k + 4 ≤ 2048) (v1 : Int32) (v2 : Int32) : wpX_reachTop (fun r u' => wpY_reachTop (fun r' v' => r' = r ∧ i_Rel (k + 4) u' v') v v1 v2) u v1 v2 := by
  obtain ⟨pB, kB, pm, fa, ki, bo, us, go, ai, pt, kt⟩ := u
  obtain ⟨un, fd, bu, sk, th, kd, pl, am, ov, bv⟩ := v
  have R : ap_Rel fa ki bo us go sk th kd pl am := I
  have hF := ap_Rel_F R
  have hB := ap_Rel_B R
  have hC := ap_Rel_Co R
  by_cases hb : (∀ i, i < 3 → ¬ v1 = nI i) ∨ (¬ v2 = 0 ∧ ¬ v2 = 1)
  · exact ax_reachTop_bad hb (ay_reachTop_bad hb ⟨rfl, R⟩)
  · have hi : ∃ i, i < 3 ∧ v1 = nI i := Classical.byContradiction (fun hn => hb (Or.inl (fun i hi e => hn ⟨i, hi, e⟩)))
    obtain ⟨i, hi, rfl⟩ := hi
    have w01 : v2 = 0 ∨ v2 = 1 := Classical.byContradiction (fun hn => hb (Or.inr ⟨fun e => hn (Or.inl e), fun e => hn (Or.inr e)⟩))
    obtain ⟨s, hs, hsX, hsY⟩ : ∃ s : Int, (s = 1 ∨ s = -1) ∧ ((v2 = 1 ∧ s = 1) ∨ (¬ v2 = 1 ∧ s = -1)) ∧ ((v2 = 0 ∧ s = -1) ∨ (¬ v2 = 0 ∧ s = 1)) := by
      rcases w01 with rfl | rfl
      · exact ⟨-1, Or.inr rfl, Or.inr ⟨by decide, rfl⟩, Or.inl ⟨rfl, rfl⟩⟩
      · exact ⟨1, Or.inl rfl, Or.inl ⟨rfl, rfl⟩, Or.inr ⟨by decide, rfl⟩⟩
    refine ax_reachTop_run w01 hsX hF hB hi (fun pB kB pm ai pt kt hn => ?_) (fun pB kB pm ai pt kt Q q1 q2 q3 => ?_)
    · exact ay_reachTop_run w01 hsY hi hC (fun un fd bu ov bv _ => ⟨rfl, R⟩) (fun un fd bu ov bv Q' p1 p2 p3 => absurd p1 (hn Q'))
    · refine ay_reachTop_run w01 hsY hi hC (fun un fd bu ov bv hn => absurd q1 (hn Q)) (fun un fd bu ov bv Q' p1 p2 p3 => ⟨?_, R⟩)
      rw [(ap_lowQ q3 p3 (ap_rsame hs hi q1 q2 p1 p2)).1]
section
variable {pB kB pm : Int32} {fa ki bo us go ai pt kt : Nat → Int32}
theorem ax_reachBottom_bad {post : Int32 → SX → Prop} {x w : Int32} (h : (∀ i, i < 3 → ¬ x = nI i) ∨ (¬ w = 0 ∧ ¬ w = 1)) (hp : post (-10000000) (pB, kB, pm, fa, ki, bo, us, go, ai, pt, kt)) : wpX_reachBottom post (pB, kB, pm, fa, ki, bo, us, go, ai, pt, kt) x w := by
  unfold wpX_reachBottom; dsimp only
  refine ax_isAmount (fun he => br_f ap_n01 (br_c (fun _ => hp) (fun z => br_c (fun y => ?_) (fun _ => hp)))) (fun he => br_t rfl hp)
  obtain ⟨i, hi, e⟩ := he
  have w01 := ap_w01 z y
  rcases h with h | h
  · exact absurd e (h i hi)
  · exact absurd w01 (fun v => v.elim h.1 h.2)
theorem ax_reachBottom_run {post : Int32 → SX → Prop} {i : Nat} {w : Int32} {s : Int} (hw : w = 0 ∨ w = 1) (hs : (w = 1 ∧ s = 1) ∨ (¬ w = 1 ∧ s = -1))
    (hF : ∀ r i, ap_b 7 (ap_F fa r i)) (hB : ∀ r, ap_b 99 (ap_B bo r)) (hi : i < 3)
    (h0 : ∀ (pB kB pm : Int32) (ai pt kt : Nat → Int32), (∀ c, ¬ ap_C (ap_F fa) (ap_B bo) ki us c) → post (-30000000) (pB, kB, pm, fa, ki, bo, us, go, ai, pt, kt))
    (h1 : ∀ (pB kB pm : Int32) (ai pt kt : Nat → Int32) (Q : ap_P), ap_C (ap_F fa) (ap_B bo) ki us Q → (∀ c, ap_C (ap_F fa) (ap_B bo) ki us c → ¬ ap_bt (ap_E s i) c Q) → ap_pb Q → post (nI (Q.2.toNat / Nat.gcd (Q.1 i).natAbs Q.2.toNat)) (pB, kB, pm, fa, ki, bo, us, go, ai, pt, kt)) :
    wpX_reachBottom post (pB, kB, pm, fa, ki, bo, us, go, ai, pt, kt) (nI i) w := by
  unfold wpX_reachBottom; dsimp only
  have n0 : ¬ w < 0 := by rcases hw with rfl | rfl <;> decide
  have n1 : w ≤ 1 := by rcases hw with rfl | rfl <;> decide
  refine ax_isAmount (fun _ => br_f ap_n01 (br_f n0 (br_t n1 ?_))) (fun he => absurd rfl (he i hi))
  refine ax_findReach hs hF hB hi (fun pB kB pm ai pt kt hn => br_t rfl (h0 _ _ _ _ _ _ hn)) (fun pB pm ai pt kt Q q1 q2 q3 q5 => br_f ap_n01 ⟨ap_in hi (by decide), ?_⟩)
  rw [ap_cl (by omega)]; dsimp only
  rw [q5 i hi]
  exact ax_lowBottom (ap_tT q3 i) q3 (h1 _ _ _ _ _ _ Q q1 q2 q3)
end
section
variable {un : Int64} {fd : Int32} {bu : Int64} {sk : Int32} {th kd : Nat → Int32} {pl : Nat → Int64} {am : Nat → Int32} {ov bv : Nat → Int64}
theorem ay_reachBottom_bad {post : Int32 → SY → Prop} {x w : Int32} (h : (∀ i, i < 3 → ¬ x = nI i) ∨ (¬ w = 0 ∧ ¬ w = 1)) (hp : post (-10000000) (un, fd, bu, sk, th, kd, pl, am, ov, bv)) : wpY_reachBottom post (un, fd, bu, sk, th, kd, pl, am, ov, bv) x w := by
  unfold wpY_reachBottom; dsimp only
  refine ay_amount (fun he => br_f ap_n01 ?_) (fun he => br_t rfl hp)
  obtain ⟨i, hi, e⟩ := he
  rcases h with h | h
  · exact absurd e (h i hi)
  · exact br_f h.1 (br_f h.2 hp)
theorem ay_reachBottom_run {post : Int32 → SY → Prop} {F : Nat → Nat → Int} {B : Nat → Int} {K U : Nat → Int32} {i : Nat} {w : Int32} {s : Int} (hw : w = 0 ∨ w = 1) (hs : (w = 0 ∧ s = -1) ∨ (¬ w = 0 ∧ s = 1)) (hi : i < 3) (hC : ay_Co F B K U sk th kd pl)
    (h0 : ∀ (un : Int64) (fd : Int32) (bu : Int64) (ov bv : Nat → Int64), (∀ c, ¬ ap_C F B K U c) → post (-30000000) (un, fd, bu, sk, th, kd, pl, am, ov, bv))
    (h1 : ∀ (un : Int64) (fd : Int32) (bu : Int64) (ov bv : Nat → Int64) (Q : ap_P), ap_C F B K U Q → (∀ c, ap_C F B K U c → ¬ ap_br s i c Q) → ap_pb Q → post (nI (Q.2.toNat / Nat.gcd (Q.1 i).natAbs Q.2.toNat)) (un, fd, bu, sk, th, kd, pl, am, ov, bv)) :
    wpY_reachBottom post (un, fd, bu, sk, th, kd, pl, am, ov, bv) (nI i) w := by
  have run : wY_reachBottom_20 post (nI i) w un fd bu sk th kd pl am ov bv := by
    unfold wY_reachBottom_20
    refine ay_reach hs hi hC (fun un bu ov bv hn => br_t rfl (h0 _ _ _ _ _ hn)) (fun un ov bv Q q1 q2 q3 q4 => br_f ap_n01 ⟨ap_in hi (by decide), ?_⟩)
    rw [ap_cl (by omega), q4 i hi]
    exact ay_lowBottom (ap_tT q3 i) q3 (h1 _ _ _ _ _ Q q1 q2 q3)
  unfold wpY_reachBottom; dsimp only
  exact ay_amount (fun _ => br_f ap_n01 (br_c (fun _ => run) (fun z0 => br_c (fun _ => run) (fun z1 => absurd hw (fun v => v.elim z0 z1))))) (fun he => absurd rfl (he i hi))
end
theorem i_vc_reachBottom {k : Nat} {u : SX} {v : SY} (I : i_Rel k u v) (hk : k + 4 ≤ 2048) (v1 : Int32) (v2 : Int32) : wpX_reachBottom (fun r u' => wpY_reachBottom (fun r' v' => r' = r ∧ i_Rel (k + 4) u' v') v v1 v2) u v1 v2 := by
  obtain ⟨pB, kB, pm, fa, ki, bo, us, go, ai, pt, kt⟩ := u
  obtain ⟨un, fd, bu, sk, th, kd, pl, am, ov, bv⟩ := v
  have R : ap_Rel fa ki bo us go sk th kd pl am := I
  have hF := ap_Rel_F R
  have hB := ap_Rel_B R
  have hC := ap_Rel_Co R
  by_cases hb : (∀ i, i < 3 → ¬ v1 = nI i) ∨ (¬ v2 = 0 ∧ ¬ v2 = 1)
  · exact ax_reachBottom_bad hb (ay_reachBottom_bad hb ⟨rfl, R⟩)
  · have hi : ∃ i, i < 3 ∧ v1 = nI i := Classical.byContradiction (fun hn => hb (Or.inl (fun i hi e => hn ⟨i, hi, e⟩)))
    obtain ⟨i, hi, rfl⟩ := hi
    have w01 : v2 = 0 ∨ v2 = 1 := Classical.byContradiction (fun hn => hb (Or.inr ⟨fun e => hn (Or.inl e), fun e => hn (Or.inr e)⟩))
    obtain ⟨s, hs, hsX, hsY⟩ : ∃ s : Int, (s = 1 ∨ s = -1) ∧ ((v2 = 1 ∧ s = 1) ∨ (¬ v2 = 1 ∧ s = -1)) ∧ ((v2 = 0 ∧ s = -1) ∨ (¬ v2 = 0 ∧ s = 1)) := by
      rcases w01 with rfl | rfl
      · exact ⟨-1, Or.inr rfl, Or.inr ⟨by decide, rfl⟩, Or.inl ⟨rfl, rfl⟩⟩
      · exact ⟨1, Or.inl rfl, Or.inl ⟨rfl, rfl⟩, Or.inr ⟨by decide, rfl⟩⟩
    refine ax_reachBottom_run w01 hsX hF hB hi (fun pB kB pm ai pt kt hn => ?_) (fun pB kB pm ai pt kt Q q1 q2 q3 => ?_)
    · exact ay_reachBottom_run w01 hsY hi hC (fun un fd bu ov bv _ => ⟨rfl, R⟩) (fun un fd bu ov bv Q' p1 p2 p3 => absurd p1 (hn Q'))
    · refine ay_reachBottom_run w01 hsY hi hC (fun un fd bu ov bv hn => absurd q1 (hn Q)) (fun un fd bu ov bv Q' p1 p2 p3 => ⟨?_, R⟩)
      rw [(ap_lowQ q3 p3 (ap_rsame hs hi q1 q2 p1 p2)).2]
end
section
/-! the owed statements: tight, redundant, whole places -/
theorem ap_ex0 {F : Nat → Nat → Int} {B : Nat → Int} {r : Nat} {Q Q' : ap_P} (p : 0 < Q.2) (p' : 0 < Q'.2) (h : ∀ i, i < 3 → ap_gi i Q Q' = 0) : ap_ex F B r Q = 0 ↔ ap_ex F B r Q' = 0 := by
  have h0 := h 0 (by decide)
  have h1 := h 1 (by decide)
  have h2 := h 2 (by decide)
  have e : Q'.2 * ap_ex F B r Q = Q.2 * ap_ex F B r Q' := by
    unfold ap_gi at h0 h1 h2
    unfold ap_ex
    grind
  constructor
  · intro z
    rw [z, Int.mul_zero] at e
    rcases Int.mul_eq_zero.mp e.symm with y | y
    · omega
    · exact y
  · intro z
    rw [z, Int.mul_zero] at e
    rcases Int.mul_eq_zero.mp e with y | y
    · omega
    · exact y
section
variable {pB kB pm : Int32} {fa ki bo us go ai pt kt : Nat → Int32}
theorem ax_t14 {post : Int32 → SX → Prop} {Q : ap_P} (hF : ∀ r i, ap_b 7 (ap_F fa r i)) (hB : ∀ r, ap_b 99 (ap_B bo r)) (hQ : ap_pb Q) (hkt : ∀ i, i < 3 → kt i = ap_i (Q.1 i)) :
    ∀ d j x, j + d = 5 → post (ap_tb (fun i => ¬ us (6 + i) = 0 ∧ ap_ex (ap_F fa) (ap_B bo) (6 + i) Q = 0) d j x) (pB, ap_i Q.2, pm, fa, ki, bo, us, go, ai, pt, kt) → wX_tight_14 post pB (ap_i Q.2) pm fa ki bo us go ai pt kt (d + 1) x (nI j) := by
  intro d
  induction d with
  | zero =>
    intro j x hj h
    have : j = 5 := by omega
    subst this
    exact br_t ap_g5 h
  | succ d ih =>
    intro j x hj h
    have hj' : j < 5 := by omega
    refine br_f (ap_l5 j hj') (nm_r (ap_6i j) ⟨ap_in (by omega) (by decide), ?_⟩)
    rw [ap_cl (by omega)]
    have he := ap_b_le (ap_ex_b hF hB hQ (6 + j)) (show 814968 ≤ 2147483647 by decide)
    refine br_c (fun z => nm_r (nI_1 j) (ih _ _ (by omega) ?_)) (fun z => ax_exK (by omega) hkt (br_c (fun y => nm_e (nm_r (nI_1 j) (ih _ _ (by omega) ?_))) (fun y => nm_r (nI_1 j) (ih _ _ (by omega) ?_))))
    · rw [ap_tb_f (fun w => w.1 z)] at h; exact h
    · rw [ap_tb_t ⟨z, (ap_i_eq0 he).mp y⟩] at h; exact h
    · rw [ap_tb_f (fun w => y ((ap_i_eq0 he).mpr w.2))] at h; exact h
theorem ax_tight {post : Int32 → SX → Prop} (hF : ∀ r i, ap_b 7 (ap_F fa r i)) (hB : ∀ r, ap_b 99 (ap_B bo r)) (hG : ∀ i, ap_b 7 (ap_G go i))
    (h0 : ∀ (pB kB pm : Int32) (ai pt kt : Nat → Int32), (∀ c, ¬ ap_C (ap_F fa) (ap_B bo) ki us c) → post (-30000000) (pB, kB, pm, fa, ki, bo, us, go, ai, pt, kt))
    (h1 : ∀ (pB kB pm : Int32) (ai pt kt : Nat → Int32) (Q : ap_P), ap_C (ap_F fa) (ap_B bo) ki us Q → (∀ c, ap_C (ap_F fa) (ap_B bo) ki us c → ¬ ap_bt (ap_G go) c Q) → ap_pb Q → post (ap_tb (fun i => ¬ us (6 + i) = 0 ∧ ap_ex (ap_F fa) (ap_B bo) (6 + i) Q = 0) 5 0 0) (pB, kB, pm, fa, ki, bo, us, go, ai, pt, kt)) :
    wpX_tight post (pB, kB, pm, fa, ki, bo, us, go, ai, pt, kt) := by
  unfold wpX_tight; dsimp only
  refine ax_findBest hF hB hG (fun pB kB pm ai pt kt hn => br_t rfl (h0 _ _ _ _ _ _ hn)) (fun pB pm ai pt kt Q q1 q2 q3 q4 q5 => br_f ap_n01 ⟨6, ?_⟩)
  exact ax_t14 hF hB q3 q5 5 0 0 rfl (h1 _ _ _ _ _ _ Q q1 q2 q3)
/-! redundant -/
theorem ax_rd70 {post : Int32 → SX → Prop} {r : Nat} {a b : Prop} {x3 z0 : Int32} (hr : r < 11) (h3 : ¬ x3 = 0 ↔ a) (hz : ¬ z0 = 0 ↔ b)
    (h1 : a ∧ b → post 1 (pB, kB, pm, fa, ki, bo, upd us r 1, go, ai, pt, kt)) (h0 : ¬ (a ∧ b) → post 0 (pB, kB, pm, fa, ki, bo, upd us r 1, go, ai, pt, kt)) : wX_redundant_70 post (nI r) x3 z0 pB kB pm fa ki bo us go ai pt kt := by
  refine ⟨ap_in hr (by decide), nm_r (by rw [ap_cl (by omega), ap_nb1]) ?_⟩
  exact br_c (fun z => h0 (fun w => h3.mpr w.1 z)) (fun z => br_c (fun y => h0 (fun w => hz.mpr w.2 y)) (fun y => h1 ⟨h3.mp z, hz.mp y⟩))
theorem ax_rd46 {post : Int32 → SX → Prop} {r : Nat} {a : Prop} {z0 : Int32} (hr : r < 11) (hF : ∀ r i, ap_b 7 (ap_F fa r i)) (hB : ∀ r, ap_b 99 (ap_B bo r)) (hz : ¬ z0 = 0 ↔ a)
    (h1 : ∀ (pB kB pm : Int32) (ai pt kt : Nat → Int32), a ∧ (ki r = 0 ∨ ∀ c, ap_C (ap_F fa) (ap_B bo) ki us c → (-1) * ap_ex (ap_F fa) (ap_B bo) r c ≤ 0) → post 1 (pB, kB, pm, fa, ki, bo, upd us r 1, go, ai, pt, kt))
    (h0 : ∀ (pB kB pm : Int32) (ai pt kt : Nat → Int32), ¬ (a ∧ (ki r = 0 ∨ ∀ c, ap_C (ap_F fa) (ap_B bo) ki us c → (-1) * ap_ex (ap_F fa) (ap_B bo) r c ≤ 0)) → post 0 (pB, kB, pm, fa, ki, bo, upd us r 1, go, ai, pt, kt)) :
    wX_redundant_46 post (nI r) z0 pB kB pm fa ki bo us go ai pt kt := by
  refine ⟨ap_in hr (by decide), ?_⟩
  rw [ap_cl (by omega)]
  refine br_c (fun z => ax_rd70 (b := ki r = 0 ∨ ∀ c, ap_C (ap_F fa) (ap_B bo) ki us c → (-1) * ap_ex (ap_F fa) (ap_B bo) r c ≤ 0) hr hz ⟨fun _ => Or.inl z, fun _ => ap_n01⟩ (h1 _ _ _ _ _ _) (h0 _ _ _ _ _ _)) (fun z => ?_)
  refine ax_staysWithin (s := -1) (Or.inr rfl) hr hF hB (fun pB kB pm ai pt kt hall => br_f ap_n01 ?_) (fun pB kB pm ai pt kt hex => br_t rfl ?_)
  · exact ax_rd70 (b := ki r = 0 ∨ ∀ c, ap_C (ap_F fa) (ap_B bo) ki us c → (-1) * ap_ex (ap_F fa) (ap_B bo) r c ≤ 0) hr hz ⟨fun _ => Or.inr hall, fun _ => ap_n01⟩ (h1 _ _ _ _ _ _) (h0 _ _ _ _ _ _)
  · refine ax_rd70 (b := ki r = 0 ∨ ∀ c, ap_C (ap_F fa) (ap_B bo) ki us c → (-1) * ap_ex (ap_F fa) (ap_B bo) r c ≤ 0) hr hz ⟨fun w => absurd rfl w, fun w => ?_⟩ (h1 _ _ _ _ _ _) (h0 _ _ _ _ _ _)
    obtain ⟨c, c1, c2⟩ := hex
    exact absurd w (fun v => v.elim z (fun y => c2 (y c c1)))
theorem ax_rd {post : Int32 → SX → Prop} {s : Nat} (hs : s < 5) (hu : ¬ us (6 + s) = 0) (hF : ∀ r i, ap_b 7 (ap_F fa r i)) (hB : ∀ r, ap_b 99 (ap_B bo r))
    (h1 : ∀ (pB kB pm : Int32) (ai pt kt : Nat → Int32), (∀ c, ap_C (ap_F fa) (ap_B bo) ki (upd us (6 + s) 0) c → ap_rk (ap_F fa) (ap_B bo) ki c (6 + s)) → post 1 (pB, kB, pm, fa, ki, bo, upd (upd us (6 + s) 0) (6 + s) 1, go, ai, pt, kt))
    (h0 : ∀ (pB kB pm : Int32) (ai pt kt : Nat → Int32), ¬ (∀ c, ap_C (ap_F fa) (ap_B bo) ki (upd us (6 + s) 0) c → ap_rk (ap_F fa) (ap_B bo) ki c (6 + s)) → post 0 (pB, kB, pm, fa, ki, bo, upd (upd us (6 + s) 0) (6 + s) 1, go, ai, pt, kt)) :
    wpX_redundant post (pB, kB, pm, fa, ki, bo, us, go, ai, pt, kt) (nI s) := by
  have key : ((ki (6 + s) = 2 ∨ ∀ c, ap_C (ap_F fa) (ap_B bo) ki (upd us (6 + s) 0) c → 1 * ap_ex (ap_F fa) (ap_B bo) (6 + s) c ≤ 0) ∧ (ki (6 + s) = 0 ∨ ∀ c, ap_C (ap_F fa) (ap_B bo) ki (upd us (6 + s) 0) c → (-1) * ap_ex (ap_F fa) (ap_B bo) (6 + s) c ≤ 0)) ↔ (∀ c, ap_C (ap_F fa) (ap_B bo) ki (upd us (6 + s) 0) c → ap_rk (ap_F fa) (ap_B bo) ki c (6 + s)) := by
    constructor
    · rintro ⟨ha, hb⟩ c hc w
      rcases w with ⟨w1, w2⟩ | ⟨w1, w2⟩
      · rcases ha with ha | ha
        · exact w2 ha
        · have := ha c hc; omega
      · rcases hb with hb | hb
        · exact w2 hb
        · have := hb c hc; omega
    · intro hall
      refine ⟨?_, ?_⟩
      · by_cases z : ki (6 + s) = 2
        · exact Or.inl z
        · refine Or.inr (fun c hc => ?_)
          have := hall c hc
          unfold ap_rk at this
          apply Decidable.byContradiction
          intro hn
          exact this (Or.inl ⟨by omega, z⟩)
      · by_cases z : ki (6 + s) = 0
        · exact Or.inl z
        · refine Or.inr (fun c hc => ?_)
          have := hall c hc
          unfold ap_rk at this
          apply Decidable.byContradiction
          intro hn
          exact this (Or.inr ⟨by omega, z⟩)
  rw [← key] at h1 h0
  unfold wpX_redundant; dsimp only
  refine ax_isCondition (fun s' hs' e hu' => br_f ap_n01 (nm_r (ap_6i s) ⟨ap_in (by omega) (by decide), nm_r (by rw [ap_cl (by omega), ap_nb0]) ⟨ap_in (by omega) (by decide), ?_⟩⟩)) (fun hn => absurd (hn s hs rfl) hu)
  rw [ap_cl (by omega)]
  refine br_c (fun z => ?_) (fun z => ?_)
  · unfold wX_redundant_41
    exact ax_rd46 (a := ki (6 + s) = 2 ∨ ∀ c, ap_C (ap_F fa) (ap_B bo) ki (upd us (6 + s) 0) c → 1 * ap_ex (ap_F fa) (ap_B bo) (6 + s) c ≤ 0) (by omega) hF hB ⟨fun _ => Or.inl z, fun _ => ap_n01⟩ h1 h0
  · refine ax_staysWithin (s := 1) (Or.inl rfl) (by omega) hF hB (fun pB kB pm ai pt kt hall => br_f ap_n01 ?_) (fun pB kB pm ai pt kt hex => br_t rfl ?_)
    · unfold wX_redundant_41
      exact ax_rd46 (a := ki (6 + s) = 2 ∨ ∀ c, ap_C (ap_F fa) (ap_B bo) ki (upd us (6 + s) 0) c → 1 * ap_ex (ap_F fa) (ap_B bo) (6 + s) c ≤ 0) (by omega) hF hB ⟨fun _ => Or.inr hall, fun _ => ap_n01⟩ h1 h0
    · refine ax_rd46 (a := ki (6 + s) = 2 ∨ ∀ c, ap_C (ap_F fa) (ap_B bo) ki (upd us (6 + s) 0) c → 1 * ap_ex (ap_F fa) (ap_B bo) (6 + s) c ≤ 0) (by omega) hF hB ⟨fun w => absurd rfl w, fun w => ?_⟩ h1 h0
      obtain ⟨c, c1, c2⟩ := hex
      exact absurd w (fun v => v.elim z (fun y => c2 (y c c1)))
theorem ax_rd_no {post : Int32 → SX → Prop} {x : Int32} (hn : ∀ k, k < 5 → x = nI k → us (6 + k) = 0) (h : post 0 (pB, kB, pm, fa, ki, bo, us, go, ai, pt, kt)) : wpX_redundant post (pB, kB, pm, fa, ki, bo, us, go, ai, pt, kt) x := by
  unfold wpX_redundant; dsimp only
  exact ax_isCondition (fun s hs e hu => absurd (hn s hs e) hu) (fun _ => br_t rfl h)
end
section
variable {un : Int64} {fd : Int32} {bu : Int64} {sk : Int32} {th kd : Nat → Int32} {pl : Nat → Int64} {am : Nat → Int32} {ov bv : Nat → Int64}
theorem ay_t41 {post : Int32 → SY → Prop} {F : Nat → Nat → Int} {B : Nat → Int} {Q : ap_P} (hM : ay_Pl F B pl) (hF : ∀ r i, ap_b 7 (F r i)) (hB : ∀ r, ap_b 99 (B r)) (hQ : ap_pb Q) (hov : ∀ i, i < 3 → ov i = ap_l (Q.1 i)) :
    ∀ d j x, j + d = 5 → post (ap_tb (fun i => ¬ th i = 0 ∧ ap_ex F B (ap_ro i) Q = 0) d j x) (ap_l Q.2, 1, bu, sk, th, kd, pl, am, ov, bv) → wY_tight_41 post (ap_l Q.2) 1 bu sk th kd pl am ov bv (d + 1) x (nI j) := by
  intro d
  induction d with
  | zero =>
    intro j x hj h
    have : j = 5 := by omega
    subst this
    exact br_t ap_g5 (br_f ap_n01 h)
  | succ d ih =>
    intro j x hj h
    have hj' : j < 5 := by omega
    refine br_f (ap_l5 j hj') (br_f ap_n01 ⟨ap_in hj' (by decide), ?_⟩)
    rw [ap_cl (by omega)]
    have he := ap_b_le (ap_ex_b hF hB hQ (ap_ro j)) (show 814968 ≤ 9000000000000000000 by decide)
    refine br_c (fun z => nm_r (nI_1 j) (ih _ _ (by omega) ?_)) (fun z => ay_left hM (by omega) hov (br_c (fun y => nm_e (nm_r (nI_1 j) (ih _ _ (by omega) ?_))) (fun y => nm_r (nI_1 j) (ih _ _ (by omega) ?_))))
    · rw [ap_tb_f (fun w => w.1 z)] at h; exact h
    · rw [ap_tb_t ⟨z, (ap_l_eq0 he).mp y⟩] at h; exact h
    · rw [ap_tb_f (fun w => y ((ap_l_eq0 he).mpr w.2))] at h; exact h
theorem ay_t16 {post : Int32 → SY → Prop} {x : Int32} {i n : Nat} (hi : i < 3) (h : wY_tight_16 post x un fd bu sk n (nI (i + 1)) th kd pl am (vp_updL ov i (bv i)) bv) : wY_tight_16 post x un fd bu sk (n + 1) (nI i) th kd pl am ov bv := by
  refine br_f (ap_l3 i hi) ⟨ap_in hi (by decide), ap_in hi (by decide), nm_r ?_ (nm_r (nI_1 i) h)⟩
  rw [ap_cl (by omega)]
theorem ay_tight {post : Int32 → SY → Prop} {F : Nat → Nat → Int} {B : Nat → Int} {K U : Nat → Int32} (hC : ay_Co F B K U sk th kd pl) (hA : ∀ i, ap_b 7 (ap_G am i))
    (h0 : ∀ (un : Int64) (fd : Int32) (bu : Int64) (ov bv : Nat → Int64), (∀ c, ¬ ap_C F B K U c) → post (-30000000) (un, fd, bu, sk, th, kd, pl, am, ov, bv))
    (h1 : ∀ (un : Int64) (fd : Int32) (bu : Int64) (ov bv : Nat → Int64) (Q : ap_P), ap_C F B K U Q → (∀ c, ap_C F B K U c → ¬ ap_bt (ap_G am) c Q) → ap_pb Q → post (ap_tb (fun i => ¬ th i = 0 ∧ ap_ex F B (ap_ro i) Q = 0) 5 0 0) (un, fd, bu, sk, th, kd, pl, am, ov, bv)) :
    wpY_tight post (un, fd, bu, sk, th, kd, pl, am, ov, bv) := by
  have hCo := hC
  obtain ⟨hF, hB, _, hM, _⟩ := hCo
  unfold wpY_tight; dsimp only
  refine ay_search hC hA (fun un bu ov bv hn => ⟨4, ?_⟩) (fun un ov bv Q q1 q2 q3 q4 => ⟨4, ?_⟩)
  · refine ay_t16 (i := 0) (by decide) (ay_t16 (i := 1) (by decide) (ay_t16 (i := 2) (by decide) (br_t ap_g3 ⟨1, br_f (by decide) (br_t rfl (br_t rfl (h0 _ _ _ _ _ hn)))⟩)))
  · refine ay_t16 (i := 0) (by decide) (ay_t16 (i := 1) (by decide) (ay_t16 (i := 2) (by decide) (br_t ap_g3 ⟨6, ay_t41 hM hF hB q3 ?_ 5 0 0 rfl (h1 _ _ _ _ _ Q q1 q2 q3)⟩)))
    refine ap_lt3 ?_ ?_ ?_
    · rw [pk_uLn (by decide), pk_uLn (by decide), pk_uLs]; exact q4 0 (by decide)
    · rw [pk_uLn (by decide), pk_uLs]; exact q4 1 (by decide)
    · rw [pk_uLs]; exact q4 2 (by decide)
theorem ay_rd {post : Int32 → SY → Prop} {F : Nat → Nat → Int} {B : Nat → Int} {K U : Nat → Int32} {s : Nat} (hs : s < 5) (hu : ¬ th s = 0) (hC : ay_Co F B K U (nI s) th kd pl)
    (h1 : ∀ (un : Int64) (ov : Nat → Int64), (∀ c, ap_C F B K U c → ap_rk F B K c (ap_ro s)) → post 1 (un, fd, bu, (-1), th, kd, pl, am, ov, bv))
    (h0 : ∀ (un : Int64) (ov : Nat → Int64), ¬ (∀ c, ap_C F B K U c → ap_rk F B K c (ap_ro s)) → post 0 (un, fd, bu, (-1), th, kd, pl, am, ov, bv)) : wpY_redundant post (un, fd, bu, sk, th, kd, pl, am, ov, bv) (nI s) := by
  unfold wpY_redundant; dsimp only
  refine ay_is (fun s' _ _ _ => ⟨1332, ay_rd13 (sk := nI s) hs hC h1 h0 1331 0 1 _ _ rfl (Or.inl ⟨rfl, fun c hc => ?_⟩)⟩) (fun hn => absurd (hn s hs rfl) hu)
  obtain ⟨_, _, _, _, _, _, h4, _⟩ := hc; omega
theorem ay_rd_no {post : Int32 → SY → Prop} {x : Int32} (hn : ∀ k, k < 5 → x = nI k → th k = 0) (h : post 0 (un, fd, bu, (-1), th, kd, pl, am, ov, bv)) : wpY_redundant post (un, fd, bu, sk, th, kd, pl, am, ov, bv) x := by
  unfold wpY_redundant; dsimp only
  exact ay_is (fun s hs e hu => absurd (hn s hs e) hu) (fun _ => ⟨1, br_f (by decide) (br_t rfl ⟨rfl, h⟩)⟩)
end
theorem i_vc_tight {k : Nat} {u : SX} {v : SY} (I : i_Rel k u v) (hk : k + 4 ≤ 2048) : wpX_tight (fun r u' => wpY_tight (fun r' v' => r' = r ∧ i_Rel (k + 4) u' v') v) u := by
  obtain ⟨pB, kB, pm, fa, ki, bo, us, go, ai, pt, kt⟩ := u
  obtain ⟨un, fd, bu, sk, th, kd, pl, am, ov, bv⟩ := v
  have R : ap_Rel fa ki bo us go sk th kd pl am := I
  have eam := ap_Rel_am R
  subst eam
  have hF := ap_Rel_F R
  have hB := ap_Rel_B R
  have hG := ap_Rel_G R
  have hC := ap_Rel_Co R
  have ht := R.2.2.2.1
  refine ax_tight hF hB hG (fun pB kB pm ai pt kt hn => ?_) (fun pB kB pm ai pt kt Q q1 q2 q3 => ?_)
  · exact ay_tight hC hG (fun un fd bu ov bv _ => ⟨rfl, R⟩) (fun un fd bu ov bv Q' p1 p2 p3 => absurd p1 (hn Q'))
  · refine ay_tight hC hG (fun un fd bu ov bv hn => absurd q1 (hn Q)) (fun un fd bu ov bv Q' p1 p2 p3 => ⟨ap_tb_cg 5 0 0 (fun i _ hi => ?_), R⟩)
    have hs := (ap_same q1 q2 p1 p2).2
    rw [(ht i (by omega)).1, ap_ro_lo (by omega), Nat.add_comm i 6, ap_ex0 q3.2.1 p3.2.1 hs]
theorem i_vc_redundant {k : Nat} {u : SX} {v : SY} (I : i_Rel k u v) (hk : k + 4 ≤ 2048) (v1 : Int32) : wpX_redundant (fun r u' => wpY_redundant (fun r' v' => r' = r ∧ i_Rel (k + 4) u' v') v v1) u v1 := by
  obtain ⟨pB, kB, pm, fa, ki, bo, us, go, ai, pt, kt⟩ := u
  obtain ⟨un, fd, bu, sk, th, kd, pl, am, ov, bv⟩ := v
  have R : ap_Rel fa ki bo us go sk th kd pl am := I
  have esk : sk = -1 := R.2.1
  subst esk
  have hF := ap_Rel_F R
  have hB := ap_Rel_B R
  have ht := R.2.2.2.1
  by_cases hn : ∀ s, s < 5 → v1 = nI s → us (6 + s) = 0
  · exact ax_rd_no hn (ay_rd_no (fun s hs e => (ht s hs).1.trans (hn s hs e)) ⟨rfl, R⟩)
  · have hex : ∃ s, s < 5 ∧ v1 = nI s ∧ ¬ us (6 + s) = 0 := Classical.byContradiction (fun h => hn (fun s hs e => Classical.byContradiction (fun hu => h ⟨s, hs, e, hu⟩)))
    obtain ⟨s, hs, rfl, hu⟩ := hex
    have hu1 : us (6 + s) = 1 := (R.1.2.2.2.2.1 (6 + s)).resolve_left hu
    have hth : ¬ th s = 0 := fun y => hu ((ht s hs).1.symm.trans y)
    have ro : ap_ro s = 6 + s := by rw [ap_ro_lo hs, Nat.add_comm]
    have hC := ap_Rel_CoR R hs
    have R' : ap_Rel fa ki bo (upd (upd us (6 + s) 0) (6 + s) 1) go (-1) th kd pl am := by
      have e : upd (upd us (6 + s) 0) (6 + s) 1 = us := by
        funext j
        by_cases z : j = 6 + s
        · subst z; rw [pk_us, hu1]
        · rw [pk_un z, pk_un z]
      rw [e]; exact R
    refine ax_rd hs hu hF hB (fun pB kB pm ai pt kt hall => ?_) (fun pB kB pm ai pt kt hall => ?_)
    · exact ay_rd hs hth hC (fun un ov _ => ⟨rfl, R'⟩) (fun un ov h => absurd (by rw [ro]; exact hall) h)
    · exact ay_rd hs hth hC (fun un ov h => absurd (by rw [ro] at h; exact h) hall) (fun un ov _ => ⟨rfl, R'⟩)
theorem ap_W1 {F : Nat → Nat → Int} {B : Nat → Int} {K U : Nat → Int32} {P : ap_P} (h : ap_W F B K U P) : P.2 = 1 := by
  obtain ⟨_, _, _, _, _, _, _, rfl⟩ := h; rfl
theorem i_vc_whole {k : Nat} {u : SX} {v : SY} (I : i_Rel k u v) (hk : k + 4 ≤ 2048) : wpX_whole (fun r u' => wpY_whole (fun r' v' => r' = r ∧ i_Rel (k + 4) u' v') v) u := by
  obtain ⟨pB, kB, pm, fa, ki, bo, us, go, ai, pt, kt⟩ := u
  obtain ⟨un, fd, bu, sk, th, kd, pl, am, ov, bv⟩ := v
  have R : ap_Rel fa ki bo us go sk th kd pl am := I
  have eam := ap_Rel_am R
  subst eam
  have hF := ap_Rel_F R
  have hB := ap_Rel_B R
  have hG := ap_Rel_G R
  have hC := ap_Rel_Co R
  unfold wpX_whole wpY_whole; dsimp only
  refine ax_findWhole hF hB hG (fun pB kB ai pt kt hn => br_t rfl ?_) (fun pB ai pt kt Q q1 q2 q3 q4 q5 => br_f ap_n01 (ax_aiK q4 q5 ?_))
  · exact ay_searchWhole hC hG (fun un bu ov bv _ => br_t rfl ⟨rfl, R⟩) (fun un ov bv Q' p1 p2 p3 p4 => absurd p1 (hn Q'))
  · refine ay_searchWhole hC hG (fun un bu ov bv hn => absurd q1 (hn Q)) (fun un ov bv Q' p1 p2 p3 p4 => br_f ap_n01 (ay_bestWorth p4 ⟨?_, R⟩))
    have h := (ap_same q1 q2 p1 p2).1
    unfold ap_g0 at h
    rw [ap_W1 q1, ap_W1 p1] at h
    rw [ap_l_i]
    dsimp only
    congr 1
    omega
theorem i_vc_wholePoint {k : Nat} {u : SX} {v : SY} (I : i_Rel k u v) (hk : k + 4 ≤ 2048) : wpX_wholePoint (fun r u' => wpY_wholePoint (fun r' v' => r' = r ∧ i_Rel (k + 4) u' v') v) u := by
  obtain ⟨pB, kB, pm, fa, ki, bo, us, go, ai, pt, kt⟩ := u
  obtain ⟨un, fd, bu, sk, th, kd, pl, am, ov, bv⟩ := v
  have R : ap_Rel fa ki bo us go sk th kd pl am := I
  have eam := ap_Rel_am R
  subst eam
  have hF := ap_Rel_F R
  have hB := ap_Rel_B R
  have hG := ap_Rel_G R
  have hC := ap_Rel_Co R
  unfold wpX_wholePoint wpY_wholePoint; dsimp only
  refine ax_findWhole hF hB hG (fun pB kB ai pt kt hn => br_t rfl ?_) (fun pB ai pt kt Q q1 q2 q3 q4 q5 => br_f ap_n01 ?_)
  · exact ay_searchWhole hC hG (fun un bu ov bv _ => br_t rfl ⟨rfl, R⟩) (fun un ov bv Q' p1 p2 p3 p4 => absurd p1 (hn Q'))
  · refine ay_searchWhole hC hG (fun un bu ov bv hn => absurd q1 (hn Q)) (fun un ov bv Q' p1 p2 p3 p4 => br_f ap_n01 ⟨?_, R⟩)
    have h := (ap_same q1 q2 p1 p2).2
    have e : ∀ i, i < 3 → Q'.1 i = Q.1 i := by
      intro i hi
      have := h i hi
      unfold ap_gi at this
      rw [ap_W1 q1, ap_W1 p1] at this
      omega
    dsimp only
    rw [p4 0 (by decide), p4 1 (by decide), p4 2 (by decide), q5 0 (by decide), q5 1 (by decide), q5 2 (by decide), e 0 (by decide), e 1 (by decide), e 2 (by decide)]
    have l21 : (21 : Int64) = ap_l 21 := by decide
    have l441 : (441 : Int64) = ap_l 441 := by decide
    have i21 : (21 : Int32) = ap_i 21 := by decide
    rw [l21, l441, i21]
    simp only [ap_l_mul, ap_l_add, ap_i_mul, ap_i_add, ap_l_i]
    congr 1
    omega
theorem i_vc_wholes {k : Nat} {u : SX} {v : SY} (I : i_Rel k u v) (hk : k + 4 ≤ 2048) : wpX_wholes (fun r u' => wpY_wholes (fun r' v' => r' = r ∧ i_Rel (k + 4) u' v') v) u := by
  obtain ⟨pB, kB, pm, fa, ki, bo, us, go, ai, pt, kt⟩ := u
  obtain ⟨un, fd, bu, sk, th, kd, pl, am, ov, bv⟩ := v
  have R : ap_Rel fa ki bo us go sk th kd pl am := I
  have hF := ap_Rel_F R
  have hB := ap_Rel_B R
  have hG := ap_Rel_G R
  have hC := ap_Rel_Co R
  unfold wpX_wholes; dsimp only
  refine ax_findWhole hF hB hG (fun pB kB ai pt kt hn => ?_) (fun pB ai pt kt Q q1 q2 q3 q4 q5 => ?_)
  · exact ay_wholes hC (fun un ov => ⟨rfl, R⟩)
  · exact ay_wholes hC (fun un ov => ⟨rfl, R⟩)
end
