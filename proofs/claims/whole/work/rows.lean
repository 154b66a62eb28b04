section
theorem pk_us {f : Nat → Int32} {k : Nat} {x : Int32} : upd f k x k = x := if_pos rfl
theorem pk_un {f : Nat → Int32} {k j : Nat} {x : Int32} (h : j ≠ k) : upd f k x j = f j := if_neg h
theorem pk_uLs {f : Nat → Int64} {k : Nat} {x : Int64} : vp_updL f k x k = x := if_pos rfl
theorem pk_uLn {f : Nat → Int64} {k j : Nat} {x : Int64} (h : j ≠ k) : vp_updL f k x j = f j := if_neg h
theorem pk_sub {a b : Nat} (h : b ≤ a) : nI a - nI b = nI (a - b) := by
  obtain ⟨c, rfl⟩ : ∃ c, a = c + b := ⟨a - b, by omega⟩
  rw [← nI_add, Int32.add_sub_cancel, Nat.add_sub_cancel]
theorem pk_m1 (n : Nat) : nI (n + 1) + (-1) = nI n := by
  rw [← nI_1, Int32.add_assoc, show (1 : Int32) + (-1) = 0 from rfl, Int32.add_zero]
theorem pk_mul (a b : Nat) : nI a * nI b = nI (a * b) := (Int32.ofNat_mul a b).symm
theorem pk_div {a d : Nat} (ha : a < 2 ^ 31) (h0 : 0 < d) (hd : d < 2 ^ 31) : nI a / nI d = nI (a / d) := by
  apply Int32.toInt_inj.mp
  rw [lg_idiv_nonneg (by rw [nI_toInt ha]; omega) (by rw [nI_toInt hd]; omega), nI_toInt ha, nI_toInt hd, nI_toInt (Nat.lt_of_le_of_lt (Nat.div_le_self a d) ha)]
  first | rfl | exact (Int.natCast_ediv _ _).symm
theorem pk_rem {a d : Nat} (ha : a < 2 ^ 31) (h0 : 0 < d) (hd : d < 2 ^ 31) : nI a - nI a / nI d * nI d = nI (a % d) := by
  rw [pk_div ha h0 hd, pk_mul, pk_sub (Nat.div_mul_le_self a d)]
  exact congrArg nI (by have := Nat.div_add_mod' a d; omega)
theorem pk_lT {n : Nat} (h : n < 2 ^ 63) : (lN n).toInt = (n : Int) := lg_ofNat_toInt h
theorem pk_lLT {a b : Nat} (ha : a < 2 ^ 63) (hb : b < 2 ^ 63) : lN a < lN b ↔ a < b := by
  rw [Int64.lt_iff_toInt_lt, pk_lT ha, pk_lT hb]; omega
theorem pk_lLE {a b : Nat} (ha : a < 2 ^ 63) (hb : b < 2 ^ 63) : lN a ≤ lN b ↔ a ≤ b := by
  rw [Int64.le_iff_toInt_le, pk_lT ha, pk_lT hb]; omega
theorem pk_lEQ {a b : Nat} (ha : a < 2 ^ 63) (hb : b < 2 ^ 63) : lN a = lN b ↔ a = b := by
  rw [← Int64.toInt_inj, pk_lT ha, pk_lT hb]; omega
theorem pk_lDiv {a b : Nat} (ha : a < 2 ^ 63) (h0 : 0 < b) (hb : b < 2 ^ 63) : lN a / lN b = lN (a / b) := by
  apply Int64.toInt_inj.mp
  rw [lg_ldiv_nonneg (by rw [pk_lT ha]; omega) (by rw [pk_lT hb]; omega), pk_lT ha, pk_lT hb, pk_lT (Nat.lt_of_le_of_lt (Nat.div_le_self a b) ha)]
  rfl
theorem pk_lRem {a b : Nat} (ha : a < 2 ^ 63) (h0 : 0 < b) (hb : b < 2 ^ 63) : lN a - lN a / lN b * lN b = lN (a % b) := by
  rw [pk_lDiv ha h0 hb, lN_mul, lN_sub (Nat.div_mul_le_self a b)]
  exact congrArg lN (by have := Nat.div_add_mod' a b; omega)
end
section
/-! numbers: Int32 and Int64 as the images of Int -/
def ap_i (a : Int) : Int32 := Int32.ofInt a
def ap_l (a : Int) : Int64 := Int64.ofInt a
def ap_b (n : Nat) (a : Int) : Prop := a.natAbs ≤ n
theorem ap_i_add (a b : Int) : ap_i a + ap_i b = ap_i (a + b) := (Int32.ofInt_add a b).symm
theorem ap_i_sub (a b : Int) : ap_i a - ap_i b = ap_i (a - b) := (Int32.ofInt_sub a b).symm
theorem ap_i_mul (a b : Int) : ap_i a * ap_i b = ap_i (a * b) := (Int32.ofInt_mul a b).symm
theorem ap_i_neg (a : Int) : -ap_i a = ap_i (-a) := (Int32.ofInt_neg a).symm
theorem ap_l_add (a b : Int) : ap_l a + ap_l b = ap_l (a + b) := (Int64.ofInt_add a b).symm
theorem ap_l_sub (a b : Int) : ap_l a - ap_l b = ap_l (a - b) := (Int64.ofInt_sub a b).symm
theorem ap_l_mul (a b : Int) : ap_l a * ap_l b = ap_l (a * b) := (Int64.ofInt_mul a b).symm
theorem ap_l_neg (a : Int) : -ap_l a = ap_l (-a) := (Int64.ofInt_neg a).symm
theorem ap_i_of (x : Int32) : ap_i x.toInt = x := Int32.ofInt_toInt x
theorem ap_i_n (n : Nat) : nI n = ap_i (n : Int) := Int32.ofInt_eq_ofNat.symm
theorem ap_l_n (n : Nat) : lN n = ap_l (n : Int) := Int64.ofInt_eq_ofNat.symm
theorem ap_i_0 : (0 : Int32) = ap_i 0 := by decide
theorem ap_i_1 : (1 : Int32) = ap_i 1 := by decide
theorem ap_i_m1 : (-1 : Int32) = ap_i (-1) := by decide
theorem ap_i_20 : (20 : Int32) = ap_i 20 := by decide
theorem ap_l_0 : (0 : Int64) = ap_l 0 := by decide
theorem ap_l_1 : (1 : Int64) = ap_l 1 := by decide
theorem ap_l_m1 : (-1 : Int64) = ap_l (-1) := by decide
theorem ap_l_20 : (20 : Int64) = ap_l 20 := by decide
theorem ap_i_t {a : Int} (h : ap_b 2147483647 a) : (ap_i a).toInt = a :=
  Int32.toInt_ofInt_of_le (by unfold ap_b at h; omega) (by unfold ap_b at h; omega)
theorem ap_l_t {a : Int} (h : ap_b 9000000000000000000 a) : (ap_l a).toInt = a :=
  Int64.toInt_ofInt_of_le (by unfold ap_b at h; omega) (by unfold ap_b at h; omega)
theorem ap_i_le {a b : Int} (ha : ap_b 2147483647 a) (hb : ap_b 2147483647 b) : ap_i a ≤ ap_i b ↔ a ≤ b := by
  rw [Int32.le_iff_toInt_le, ap_i_t ha, ap_i_t hb]
theorem ap_i_lt {a b : Int} (ha : ap_b 2147483647 a) (hb : ap_b 2147483647 b) : ap_i a < ap_i b ↔ a < b := by
  rw [Int32.lt_iff_toInt_lt, ap_i_t ha, ap_i_t hb]
theorem ap_i_eq {a b : Int} (ha : ap_b 2147483647 a) (hb : ap_b 2147483647 b) : ap_i a = ap_i b ↔ a = b := by
  rw [← Int32.toInt_inj, ap_i_t ha, ap_i_t hb]
theorem ap_l_le {a b : Int} (ha : ap_b 9000000000000000000 a) (hb : ap_b 9000000000000000000 b) : ap_l a ≤ ap_l b ↔ a ≤ b := by
  rw [Int64.le_iff_toInt_le, ap_l_t ha, ap_l_t hb]
theorem ap_l_lt {a b : Int} (ha : ap_b 9000000000000000000 a) (hb : ap_b 9000000000000000000 b) : ap_l a < ap_l b ↔ a < b := by
  rw [Int64.lt_iff_toInt_lt, ap_l_t ha, ap_l_t hb]
theorem ap_l_eq {a b : Int} (ha : ap_b 9000000000000000000 a) (hb : ap_b 9000000000000000000 b) : ap_l a = ap_l b ↔ a = b := by
  rw [← Int64.toInt_inj, ap_l_t ha, ap_l_t hb]
theorem ap_b_0 {n : Nat} : ap_b n 0 := Nat.zero_le n
theorem ap_i_le0 {a : Int} (ha : ap_b 2147483647 a) : ap_i a ≤ 0 ↔ a ≤ 0 := by rw [ap_i_0, ap_i_le ha ap_b_0]
theorem ap_i_0le {a : Int} (ha : ap_b 2147483647 a) : 0 ≤ ap_i a ↔ 0 ≤ a := by rw [ap_i_0, ap_i_le ap_b_0 ha]
theorem ap_i_lt0 {a : Int} (ha : ap_b 2147483647 a) : ap_i a < 0 ↔ a < 0 := by rw [ap_i_0, ap_i_lt ha ap_b_0]
theorem ap_i_0lt {a : Int} (ha : ap_b 2147483647 a) : 0 < ap_i a ↔ 0 < a := by rw [ap_i_0, ap_i_lt ap_b_0 ha]
theorem ap_i_eq0 {a : Int} (ha : ap_b 2147483647 a) : ap_i a = 0 ↔ a = 0 := by rw [ap_i_0, ap_i_eq ha ap_b_0]
theorem ap_l_le0 {a : Int} (ha : ap_b 9000000000000000000 a) : ap_l a ≤ 0 ↔ a ≤ 0 := by rw [ap_l_0, ap_l_le ha ap_b_0]
theorem ap_l_0le {a : Int} (ha : ap_b 9000000000000000000 a) : 0 ≤ ap_l a ↔ 0 ≤ a := by rw [ap_l_0, ap_l_le ap_b_0 ha]
theorem ap_l_lt0 {a : Int} (ha : ap_b 9000000000000000000 a) : ap_l a < 0 ↔ a < 0 := by rw [ap_l_0, ap_l_lt ha ap_b_0]
theorem ap_l_0lt {a : Int} (ha : ap_b 9000000000000000000 a) : 0 < ap_l a ↔ 0 < a := by rw [ap_l_0, ap_l_lt ap_b_0 ha]
theorem ap_l_eq0 {a : Int} (ha : ap_b 9000000000000000000 a) : ap_l a = 0 ↔ a = 0 := by rw [ap_l_0, ap_l_eq ha ap_b_0]
theorem ap_i_l {a : Int} (h : ap_b 2147483647 a) : (ap_i a).toInt64 = ap_l a :=
  Int32.toInt64_ofInt (by rw [Int32.toInt_minValue]; unfold ap_b at h; omega) (by rw [Int32.toInt_maxValue]; unfold ap_b at h; omega)
theorem ap_l_i (a : Int) : (ap_l a).toInt32 = ap_i a := Int64.toInt32_ofInt
theorem ap_x_l (x : Int32) : x.toInt64 = ap_l x.toInt := by
  apply Int64.toInt_inj.mp
  rw [Int32.toInt_toInt64]
  have h1 := Int32.toInt_lt x
  have h2 := Int32.le_toInt x
  rw [ap_l_t (by unfold ap_b; omega)]
theorem ap_b_mul {m n : Nat} {a b : Int} (ha : ap_b m a) (hb : ap_b n b) : ap_b (m * n) (a * b) := by
  unfold ap_b at *; rw [Int.natAbs_mul]; exact Nat.mul_le_mul ha hb
theorem ap_b_add {m n : Nat} {a b : Int} (ha : ap_b m a) (hb : ap_b n b) : ap_b (m + n) (a + b) := by
  unfold ap_b at *; omega
theorem ap_b_sub {m n : Nat} {a b : Int} (ha : ap_b m a) (hb : ap_b n b) : ap_b (m + n) (a - b) := by
  unfold ap_b at *; omega
theorem ap_b_neg {m : Nat} {a : Int} (ha : ap_b m a) : ap_b m (-a) := by unfold ap_b at *; omega
theorem ap_b_le {m n : Nat} {a : Int} (ha : ap_b m a) (h : m ≤ n) : ap_b n a := Nat.le_trans ha h
theorem ap_b_n {m n : Nat} (h : m ≤ n) : ap_b n (m : Int) := by unfold ap_b; omega
/-! indices -/
theorem ap_3i (r i : Nat) : (3 : Int32) * nI r + nI i = nI (3 * r + i) := by
  have h : (3 : Int32) = nI 3 := by decide
  rw [h]; unfold nI; rw [← Int32.ofNat_mul, ← Int32.ofNat_add]
theorem ap_4i (r i : Nat) : (4 : Int32) * nI r + nI i = nI (4 * r + i) := by
  have h : (4 : Int32) = nI 4 := by decide
  rw [h]; unfold nI; rw [← Int32.ofNat_mul, ← Int32.ofNat_add]
theorem ap_6i (k : Nat) : (6 : Int32) + nI k = nI (6 + k) := by
  have h : (6 : Int32) = nI 6 := by decide
  rw [h, nI_add]
theorem ap_l3 (i : Nat) (h : i < 3) : ¬ (3 : Int32) ≤ nI i := nI_ge (b := 3) h (by decide)
theorem ap_g3 : (3 : Int32) ≤ nI 3 := by decide
theorem ap_l5 (i : Nat) (h : i < 5) : ¬ (5 : Int32) ≤ nI i := nI_ge (b := 5) h (by decide)
theorem ap_g5 : (5 : Int32) ≤ nI 5 := by decide
theorem ap_l11 (i : Nat) (h : i < 11) : ¬ (11 : Int32) ≤ nI i := nI_ge (b := 11) h (by decide)
theorem ap_g11 : (11 : Int32) ≤ nI 11 := by decide
theorem ap_in {n N : Nat} (h : n < N) (hN : N < 2000000000) : vp_in (nI n) N := vp_in_nI h (by omega)
theorem ap_cl {n : Nat} (h : n < 2000000000) : (nI n).toNatClampNeg = n := nI_clamp (by omega)
theorem ap_us {f : Nat → Int32} {k : Nat} {x : Int32} : upd f k x k = x := if_pos rfl
theorem ap_un {f : Nat → Int32} {k j : Nat} {x : Int32} (h : j ≠ k) : upd f k x j = f j := if_neg h
theorem ap_uLs {f : Nat → Int64} {k : Nat} {x : Int64} : vp_updL f k x k = x := if_pos rfl
theorem ap_uLn {f : Nat → Int64} {k j : Nat} {x : Int64} (h : j ≠ k) : vp_updL f k x j = f j := if_neg h
theorem ap_lt3 {P : Nat → Prop} (h0 : P 0) (h1 : P 1) (h2 : P 2) : ∀ i, i < 3 → P i := by
  intro i hi
  match i, hi with
  | 0, _ => exact h0
  | 1, _ => exact h1
  | 2, _ => exact h2
end
section
/-! the pure picture: rows F, B; a place is three tops over one bottom -/
abbrev ap_P : Type := (Nat → Int) × Int
def ap_cr (F : Nat → Nat → Int) (q r i : Nat) : Int := F q ((i + 1) % 3) * F r ((i + 2) % 3) - F q ((i + 2) % 3) * F r ((i + 1) % 3)
def ap_dt (F : Nat → Nat → Int) (p q r : Nat) : Int := F p 0 * ap_cr F q r 0 + F p 1 * ap_cr F q r 1 + F p 2 * ap_cr F q r 2
def ap_tp (F : Nat → Nat → Int) (B : Nat → Int) (p q r i : Nat) : Int := B p * ap_cr F q r i + B q * ap_cr F r p i + B r * ap_cr F p q i
def ap_sg (d : Int) : Int := if 0 ≤ d then 1 else -1
def ap_co (F : Nat → Nat → Int) (B : Nat → Int) (p q r : Nat) : ap_P := (fun i => ap_sg (ap_dt F p q r) * ap_tp F B p q r i, ap_sg (ap_dt F p q r) * ap_dt F p q r)
def ap_ex (F : Nat → Nat → Int) (B : Nat → Int) (r : Nat) (P : ap_P) : Int := F r 0 * P.1 0 + F r 1 * P.1 1 + F r 2 * P.1 2 - B r * P.2
def ap_w (A : Nat → Int) (P : ap_P) : Int := A 0 * P.1 0 + A 1 * P.1 1 + A 2 * P.1 2
def ap_rk (F : Nat → Nat → Int) (B : Nat → Int) (K : Nat → Int32) (P : ap_P) (r : Nat) : Prop := ¬ ((0 < ap_ex F B r P ∧ ¬ K r = 2) ∨ (ap_ex F B r P < 0 ∧ ¬ K r = 0))
def ap_ok (F : Nat → Nat → Int) (B : Nat → Int) (K U : Nat → Int32) (P : ap_P) : Prop := ∀ r, r < 11 → ¬ U r = 0 → ap_rk F B K P r
def ap_gc (F : Nat → Nat → Int) (B : Nat → Int) (K U : Nat → Int32) (p q r : Nat) : Prop := ¬ U p = 0 ∧ ¬ U q = 0 ∧ ¬ U r = 0 ∧ ap_dt F p q r ≠ 0 ∧ ap_ok F B K U (ap_co F B p q r)
/-- bounds of a place -/
def ap_pb (P : ap_P) : Prop := (∀ i, ap_b 29106 (P.1 i)) ∧ 0 < P.2 ∧ P.2 ≤ 2058
def ap_g0 (A : Nat → Int) (P Q : ap_P) : Int := ap_w A P * Q.2 - ap_w A Q * P.2
def ap_gi (i : Nat) (P Q : ap_P) : Int := Q.1 i * P.2 - P.1 i * Q.2
def ap_bt (A : Nat → Int) (P Q : ap_P) : Prop := 0 < ap_g0 A P Q ∨ (ap_g0 A P Q = 0 ∧ (0 < ap_gi 0 P Q ∨ (ap_gi 0 P Q = 0 ∧ (0 < ap_gi 1 P Q ∨ (ap_gi 1 P Q = 0 ∧ 0 < ap_gi 2 P Q)))))
def ap_br (s : Int) (i : Nat) (P Q : ap_P) : Prop := 0 < s * (P.1 i * Q.2 - Q.1 i * P.2)
theorem ap_cr_b {F : Nat → Nat → Int} (hF : ∀ r i, ap_b 7 (F r i)) (q r i : Nat) : ap_b 98 (ap_cr F q r i) :=
  ap_b_le (ap_b_sub (ap_b_mul (hF _ _) (hF _ _)) (ap_b_mul (hF _ _) (hF _ _))) (by decide)
theorem ap_dt_b {F : Nat → Nat → Int} (hF : ∀ r i, ap_b 7 (F r i)) (p q r : Nat) : ap_b 2058 (ap_dt F p q r) :=
  ap_b_le (ap_b_add (ap_b_add (ap_b_mul (hF _ _) (ap_cr_b hF _ _ _)) (ap_b_mul (hF _ _) (ap_cr_b hF _ _ _))) (ap_b_mul (hF _ _) (ap_cr_b hF _ _ _))) (by decide)
theorem ap_tp_b {F : Nat → Nat → Int} {B : Nat → Int} (hF : ∀ r i, ap_b 7 (F r i)) (hB : ∀ r, ap_b 99 (B r)) (p q r i : Nat) : ap_b 29106 (ap_tp F B p q r i) :=
  ap_b_le (ap_b_add (ap_b_add (ap_b_mul (hB _) (ap_cr_b hF _ _ _)) (ap_b_mul (hB _) (ap_cr_b hF _ _ _))) (ap_b_mul (hB _) (ap_cr_b hF _ _ _))) (by decide)
theorem ap_sg_b (d : Int) : ap_b 1 (ap_sg d) := by unfold ap_b ap_sg; split <;> decide
theorem ap_sg_d (d : Int) : ap_sg d * d = (d.natAbs : Int) := by unfold ap_sg; split <;> omega
theorem ap_co_pb {F : Nat → Nat → Int} {B : Nat → Int} (hF : ∀ r i, ap_b 7 (F r i)) (hB : ∀ r, ap_b 99 (B r)) {p q r : Nat} (hd : ap_dt F p q r ≠ 0) : ap_pb (ap_co F B p q r) := by
  refine ⟨fun i => ap_b_le (ap_b_mul (ap_sg_b _) (ap_tp_b hF hB p q r i)) (by decide), ?_, ?_⟩
  · show 0 < ap_sg (ap_dt F p q r) * ap_dt F p q r
    rw [ap_sg_d]; omega
  · show ap_sg (ap_dt F p q r) * ap_dt F p q r ≤ 2058
    have h := ap_dt_b hF p q r
    unfold ap_b at h
    rw [ap_sg_d]; omega
theorem ap_pb_2 {P : ap_P} (h : ap_pb P) : ap_b 2058 P.2 := by unfold ap_b; have := h.2; omega
theorem ap_w_b {A : Nat → Int} {P : ap_P} (hA : ∀ i, ap_b 7 (A i)) (hP : ap_pb P) : ap_b 611226 (ap_w A P) :=
  ap_b_le (ap_b_add (ap_b_add (ap_b_mul (hA _) (hP.1 _)) (ap_b_mul (hA _) (hP.1 _))) (ap_b_mul (hA _) (hP.1 _))) (by decide)
theorem ap_ex_b {F : Nat → Nat → Int} {B : Nat → Int} (hF : ∀ r i, ap_b 7 (F r i)) (hB : ∀ r, ap_b 99 (B r)) {P : ap_P} (hP : ap_pb P) (r : Nat) : ap_b 814968 (ap_ex F B r P) :=
  ap_b_le (ap_b_sub (ap_w_b (A := F r) (hF r) hP) (ap_b_mul (hB r) (ap_pb_2 hP))) (by decide)
theorem ap_g0_b {A : Nat → Int} {P Q : ap_P} (hA : ∀ i, ap_b 7 (A i)) (hP : ap_pb P) (hQ : ap_pb Q) : ap_b 2515806216 (ap_g0 A P Q) :=
  ap_b_le (ap_b_sub (ap_b_mul (ap_w_b hA hP) (ap_pb_2 hQ)) (ap_b_mul (ap_w_b hA hQ) (ap_pb_2 hP))) (by decide)
theorem ap_gi_b {P Q : ap_P} (hP : ap_pb P) (hQ : ap_pb Q) (i : Nat) : ap_b 119800296 (ap_gi i P Q) :=
  ap_b_le (ap_b_sub (ap_b_mul (hQ.1 i) (ap_pb_2 hP)) (ap_b_mul (hP.1 i) (ap_pb_2 hQ))) (by decide)
/-! cyclic rows -/
theorem ap_dt_cy (F : Nat → Nat → Int) (p q r : Nat) : ap_dt F q r p = ap_dt F p q r := by
  unfold ap_dt ap_cr; simp only [Nat.reduceAdd, Nat.reduceMod]; grind
theorem ap_tp_cy (F : Nat → Nat → Int) (B : Nat → Int) (p q r i : Nat) : ap_tp F B q r p i = ap_tp F B p q r i := by
  unfold ap_tp; omega
theorem ap_co_cy (F : Nat → Nat → Int) (B : Nat → Int) (p q r : Nat) : ap_co F B q r p = ap_co F B p q r := by
  unfold ap_co; rw [ap_dt_cy]
  congr 1
  funext i
  rw [ap_tp_cy]
theorem ap_gc_cy {F : Nat → Nat → Int} {B : Nat → Int} {K U : Nat → Int32} {p q r : Nat} : ap_gc F B K U q r p ↔ ap_gc F B K U p q r := by
  unfold ap_gc; rw [ap_dt_cy, ap_co_cy]
  constructor
  · exact fun h => ⟨h.2.2.1, h.1, h.2.1, h.2.2.2⟩
  · exact fun h => ⟨h.2.1, h.2.2.1, h.1, h.2.2.2⟩
/-! order -/
theorem ap_tr {x y z u v w : Int} (hx : 0 < x) (hy : 0 < y) (hz : 0 < z) (e : y * w = z * u + x * v) :
    (0 < u → 0 ≤ v → 0 < w) ∧ (0 ≤ u → 0 < v → 0 < w) ∧ (u = 0 → v = 0 → w = 0) := by
  refine ⟨fun hu hv => ?_, fun hu hv => ?_, fun hu hv => ?_⟩
  · have h1 : 0 < z * u := Int.mul_pos hz hu
    have h2 : 0 ≤ x * v := Int.mul_nonneg (Int.le_of_lt hx) hv
    have h3 : 0 < y * w := by omega
    exact Int.pos_of_mul_pos_right h3 hy
  · have h1 : 0 ≤ z * u := Int.mul_nonneg (Int.le_of_lt hz) hu
    have h2 : 0 < x * v := Int.mul_pos hx hv
    have h3 : 0 < y * w := by omega
    exact Int.pos_of_mul_pos_right h3 hy
  · rw [hu, hv] at e
    rcases Int.mul_eq_zero.mp (show y * w = 0 by omega) with h | h
    · omega
    · exact h
theorem ap_k0 (A : Nat → Int) (P Q R : ap_P) : Q.2 * ap_g0 A P R = R.2 * ap_g0 A P Q + P.2 * ap_g0 A Q R := by
  unfold ap_g0; grind
theorem ap_ki (i : Nat) (P Q R : ap_P) : Q.2 * ap_gi i P R = R.2 * ap_gi i P Q + P.2 * ap_gi i Q R := by
  unfold ap_gi; grind
theorem ap_bt_tr {A : Nat → Int} {P Q R : ap_P} (hP : 0 < P.2) (hQ : 0 < Q.2) (hR : 0 < R.2) (h1 : ap_bt A P Q) (h2 : ap_bt A Q R) : ap_bt A P R := by
  have t0 := ap_tr hP hQ hR (ap_k0 A P Q R)
  have t1 := ap_tr hP hQ hR (ap_ki 0 P Q R)
  have t2 := ap_tr hP hQ hR (ap_ki 1 P Q R)
  have t3 := ap_tr hP hQ hR (ap_ki 2 P Q R)
  unfold ap_bt at *
  generalize ap_g0 A P Q = a0 at *
  generalize ap_g0 A Q R = b0 at *
  generalize ap_g0 A P R = c0 at *
  generalize ap_gi 0 P Q = a1 at *
  generalize ap_gi 0 Q R = b1 at *
  generalize ap_gi 0 P R = c1 at *
  generalize ap_gi 1 P Q = a2 at *
  generalize ap_gi 1 Q R = b2 at *
  generalize ap_gi 1 P R = c2 at *
  generalize ap_gi 2 P Q = a3 at *
  generalize ap_gi 2 Q R = b3 at *
  generalize ap_gi 2 P R = c3 at *
  obtain ⟨u0, v0, w0⟩ := t0
  obtain ⟨u1, v1, w1⟩ := t1
  obtain ⟨u2, v2, w2⟩ := t2
  obtain ⟨u3, v3, w3⟩ := t3
  rcases h1 with h1 | ⟨z1, h1⟩
  · rcases h2 with h2 | ⟨z2, h2⟩
    · exact Or.inl (u0 h1 (by omega))
    · exact Or.inl (u0 h1 (by omega))
  · rcases h2 with h2 | ⟨z2, h2⟩
    · exact Or.inl (v0 (by omega) h2)
    · refine Or.inr ⟨w0 z1 z2, ?_⟩
      rcases h1 with h1 | ⟨z1, h1⟩
      · rcases h2 with h2 | ⟨z2, h2⟩
        · exact Or.inl (u1 h1 (by omega))
        · exact Or.inl (u1 h1 (by omega))
      · rcases h2 with h2 | ⟨z2, h2⟩
        · exact Or.inl (v1 (by omega) h2)
        · refine Or.inr ⟨w1 z1 z2, ?_⟩
          rcases h1 with h1 | ⟨z1, h1⟩
          · rcases h2 with h2 | ⟨z2, h2⟩
            · exact Or.inl (u2 h1 (by omega))
            · exact Or.inl (u2 h1 (by omega))
          · rcases h2 with h2 | ⟨z2, h2⟩
            · exact Or.inl (v2 (by omega) h2)
            · exact Or.inr ⟨w2 z1 z2, u3 h1 (by omega)⟩
theorem ap_g0_sw (A : Nat → Int) (P Q : ap_P) : ap_g0 A Q P = - ap_g0 A P Q := by unfold ap_g0; omega
theorem ap_gi_sw (i : Nat) (P Q : ap_P) : ap_gi i Q P = - ap_gi i P Q := by unfold ap_gi; omega
theorem ap_bt_ir (A : Nat → Int) (P : ap_P) : ¬ ap_bt A P P := by
  have h0 := ap_g0_sw A P P
  have h1 := ap_gi_sw 0 P P
  have h2 := ap_gi_sw 1 P P
  have h3 := ap_gi_sw 2 P P
  unfold ap_bt; omega
theorem ap_bt_an {A : Nat → Int} {P Q : ap_P} (h : ¬ ap_bt A P Q) (h' : ¬ ap_bt A Q P) : ap_g0 A P Q = 0 ∧ ∀ i, i < 3 → ap_gi i P Q = 0 := by
  have h0 := ap_g0_sw A P Q
  have h1 := ap_gi_sw 0 P Q
  have h2 := ap_gi_sw 1 P Q
  have h3 := ap_gi_sw 2 P Q
  unfold ap_bt at h h'
  refine ⟨by omega, ap_lt3 (by omega) (by omega) (by omega)⟩
theorem ap_bt_g0 {A : Nat → Int} {P Q : ap_P} (h : ¬ ap_bt A P Q) : ap_g0 A P Q ≤ 0 := by
  unfold ap_bt at h; omega
theorem ap_br_tr {s : Int} {i : Nat} {P Q R : ap_P} (hP : 0 < P.2) (hQ : 0 < Q.2) (hR : 0 < R.2) (h1 : ap_br s i P Q) (h2 : ap_br s i Q R) : ap_br s i P R := by
  unfold ap_br at *
  exact (ap_tr (u := s * (P.1 i * Q.2 - Q.1 i * P.2)) (v := s * (Q.1 i * R.2 - R.1 i * Q.2)) hP hQ hR (by grind)).1 h1 (Int.le_of_lt h2)
theorem ap_br_ir (s : Int) (i : Nat) (P : ap_P) : ¬ ap_br s i P P := by
  unfold ap_br; rw [Int.sub_self, Int.mul_zero]; omega
/-! the first best of a set -/
def ap_inv (bt : ap_P → ap_P → Prop) (S : ap_P → Prop) (m : Nat) (k : ap_P) : Prop := (m = 0 → ∀ c, ¬ S c) ∧ (m ≠ 0 → S k ∧ ∀ c, S c → ¬ bt c k)
theorem ap_inv_cg {bt : ap_P → ap_P → Prop} {S S' : ap_P → Prop} {m : Nat} {k : ap_P} (h : ∀ c, S' c ↔ S c) (i : ap_inv bt S m k) : ap_inv bt S' m k :=
  ⟨fun z c hc => i.1 z c ((h c).mp hc), fun z => ⟨(h k).mpr (i.2 z).1, fun c hc => (i.2 z).2 c ((h c).mp hc)⟩⟩
theorem ap_inv_new {bt : ap_P → ap_P → Prop} {S S' : ap_P → Prop} {m m' : Nat} {k p : ap_P} (i : ap_inv bt S m k) (h : ∀ c, S' c ↔ S c ∨ c = p) (hm : m' ≠ 0)
    (hir : ¬ bt p p) (hT : ∀ c, S c → S k → bt c p → bt p k → bt c k) (hb : m = 0 ∨ bt p k) : ap_inv bt S' m' p := by
  refine ⟨fun z => absurd z hm, fun _ => ⟨(h p).mpr (Or.inr rfl), fun c hc => ?_⟩⟩
  rcases (h c).mp hc with hc | rfl
  · by_cases z : m = 0
    · exact absurd hc (i.1 z c)
    · intro hcp
      obtain ⟨hk, hall⟩ := i.2 z
      exact hall c hc (hT c hc hk hcp (hb.resolve_left z))
  · exact hir
theorem ap_inv_keep {bt : ap_P → ap_P → Prop} {S S' : ap_P → Prop} {m m' : Nat} {k p : ap_P} (i : ap_inv bt S m k) (h : ∀ c, S' c ↔ S c ∨ c = p) (hm : m ≠ 0) (hm' : m' ≠ 0)
    (hb : ¬ bt p k) : ap_inv bt S' m' k := by
  obtain ⟨hk, hall⟩ := i.2 hm
  refine ⟨fun z => absurd z hm', fun _ => ⟨(h k).mpr (Or.inl hk), fun c hc => ?_⟩⟩
  rcases (h c).mp hc with hc | rfl
  · exact hall c hc
  · exact hb
/-! lowest terms -/
theorem ap_low {T T' : Int} {b b' : Nat} (hb : 0 < b) (hb' : 0 < b') (e : T * (b' : Int) = T' * (b : Int)) :
    T.tdiv (Nat.gcd T.natAbs b : Nat) = T'.tdiv (Nat.gcd T'.natAbs b' : Nat) ∧ b / Nat.gcd T.natAbs b = b' / Nat.gcd T'.natAbs b' := by
  have en : T.natAbs * b' = T'.natAbs * b := by
    have := congrArg Int.natAbs e
    rw [Int.natAbs_mul, Int.natAbs_mul, Int.natAbs_natCast, Int.natAbs_natCast] at this
    exact this
  have eg : Nat.gcd T.natAbs b * b' = Nat.gcd T'.natAbs b' * b := by
    rw [← Nat.gcd_mul_right, ← Nat.gcd_mul_right, en, Nat.mul_comm b b']
  have g0 : 0 < Nat.gcd T.natAbs b := Nat.gcd_pos_of_pos_right _ hb
  have g0' : 0 < Nat.gcd T'.natAbs b' := Nat.gcd_pos_of_pos_right _ hb'
  have d1 : ((Nat.gcd T.natAbs b : Nat) : Int) ∣ T := Int.ofNat_dvd_left.mpr (Nat.gcd_dvd_left _ _)
  have d1' : ((Nat.gcd T'.natAbs b' : Nat) : Int) ∣ T' := Int.ofNat_dvd_left.mpr (Nat.gcd_dvd_left _ _)
  have d2 : Nat.gcd T.natAbs b ∣ b := Nat.gcd_dvd_right _ _
  have d2' : Nat.gcd T'.natAbs b' ∣ b' := Nat.gcd_dvd_right _ _
  generalize Nat.gcd T.natAbs b = g at *
  generalize Nat.gcd T'.natAbs b' = g' at *
  obtain ⟨s, hs⟩ := d1
  obtain ⟨s', hs'⟩ := d1'
  obtain ⟨t, ht⟩ := d2
  obtain ⟨t', ht'⟩ := d2'
  have egi : (g : Int) * (b' : Int) = (g' : Int) * (b : Int) := by
    exact_mod_cast eg
  refine ⟨?_, ?_⟩
  · rw [hs, hs', Int.mul_tdiv_cancel_left _ (by omega), Int.mul_tdiv_cancel_left _ (by omega)]
    rw [hs, hs'] at e
    have e2 : (g : Int) * (b' : Int) * s = (g : Int) * (b' : Int) * s' := by
      have a1 : (g : Int) * (b' : Int) * s = (g : Int) * s * (b' : Int) := by grind
      have a2 : (g : Int) * (b' : Int) * s' = (g' : Int) * s' * (b : Int) := by rw [egi]; grind
      rw [a1, a2, e]
    refine Int.eq_of_mul_eq_mul_left (a := (g : Int) * (b' : Int)) ?_ e2
    have : 0 < (g : Int) * (b' : Int) := Int.mul_pos (by omega) (by omega)
    omega
  · rw [ht, ht', Nat.mul_div_cancel_left _ g0, Nat.mul_div_cancel_left _ g0']
    rw [ht, ht'] at eg
    have e3 : g * g' * t' = g * g' * t := by
      have a1 : g * g' * t' = g * (g' * t') := by grind
      have a2 : g * g' * t = g' * (g * t) := by grind
      rw [a1, a2, eg]
    exact (Nat.eq_of_mul_eq_mul_left (Nat.mul_pos g0 g0') e3).symm
/-! sums -/
def ap_sm (f : Nat → Nat) : Nat → Nat
  | 0 => 0
  | n + 1 => ap_sm f n + f n
theorem ap_sm_cg {f g : Nat → Nat} {n : Nat} (h : ∀ i, i < n → f i = g i) : ap_sm f n = ap_sm g n := by
  induction n with
  | zero => rfl
  | succ n ih => show ap_sm f n + f n = ap_sm g n + g n; rw [ih (fun i hi => h i (by omega)), h n (by omega)]
theorem ap_sm_le {f : Nat → Nat} {c n : Nat} (h : ∀ i, f i ≤ c) : ap_sm f n ≤ n * c := by
  induction n with
  | zero => exact Nat.zero_le _
  | succ n ih => show ap_sm f n + f n ≤ _; rw [Nat.succ_mul]; exact Nat.add_le_add ih (h n)
theorem ap_sm_add (f g : Nat → Nat) (n : Nat) : ap_sm (fun i => f i + g i) n = ap_sm f n + ap_sm g n := by
  induction n with
  | zero => rfl
  | succ n ih => show ap_sm _ n + (f n + g n) = (ap_sm f n + f n) + (ap_sm g n + g n); rw [ih]; omega
theorem ap_sm_0 (n : Nat) : ap_sm (fun _ => 0) n = 0 := by
  induction n with
  | zero => rfl
  | succ n ih => show ap_sm _ n + 0 = 0; rw [ih]
theorem ap_sm_sw (f : Nat → Nat → Nat) (m n : Nat) : ap_sm (fun a => ap_sm (fun b => f a b) n) m = ap_sm (fun b => ap_sm (fun a => f a b) m) n := by
  induction m with
  | zero => exact (ap_sm_0 n).symm
  | succ m ih =>
    show ap_sm (fun a => ap_sm (fun b => f a b) n) m + ap_sm (fun b => f m b) n = ap_sm (fun b => ap_sm (fun a => f a b) m + f m b) n
    rw [ih, ap_sm_add]
theorem ap_sm_app (f : Nat → Nat) (m n : Nat) : ap_sm f (m + n) = ap_sm f m + ap_sm (fun i => f (m + i)) n := by
  induction n with
  | zero => rfl
  | succ n ih => show ap_sm f (m + n) + f (m + n) = ap_sm f m + (ap_sm (fun i => f (m + i)) n + f (m + n)); rw [ih]; omega
theorem ap_sm_mul (f : Nat → Nat) (m n : Nat) : ap_sm f (m * n) = ap_sm (fun j => ap_sm (fun i => f (j * n + i)) n) m := by
  induction m with
  | zero => rw [Nat.zero_mul]; rfl
  | succ m ih =>
    rw [Nat.succ_mul, ap_sm_app, ih]; rfl
theorem ap_sm_3 (f : Nat → Nat → Nat → Nat) : ap_sm (fun c => f (c % 21) (c / 21 % 21) (c / 441)) 9261 = ap_sm (fun a => ap_sm (fun b => ap_sm (fun c => f a b c) 21) 21) 21 := by
  have e1 : ap_sm (fun c => f (c % 21) (c / 21 % 21) (c / 441)) 9261 = ap_sm (fun z => ap_sm (fun y => ap_sm (fun x => f x y z) 21) 21) 21 := by
    rw [show (9261 : Nat) = 21 * 441 from rfl, ap_sm_mul]
    apply ap_sm_cg
    intro z hz
    rw [show (441 : Nat) = 21 * 21 from rfl, ap_sm_mul]
    apply ap_sm_cg
    intro y hy
    apply ap_sm_cg
    intro x hx
    have a1 : (z * (21 * 21) + (y * 21 + x)) % 21 = x := by omega
    have a2 : (z * (21 * 21) + (y * 21 + x)) / 21 % 21 = y := by omega
    have a3 : (z * (21 * 21) + (y * 21 + x)) / (21 * 21) = z := by omega
    rw [a1, a2, a3]
  rw [e1, ap_sm_sw]
  have e2 : ∀ y, ap_sm (fun z => ap_sm (fun x => f x y z) 21) 21 = ap_sm (fun x => ap_sm (fun z => f x y z) 21) 21 := fun y => ap_sm_sw (fun z x => f x y z) 21 21
  rw [ap_sm_cg (fun y _ => e2 y), ap_sm_sw]
end
section
/-! the component's walks -/
def ap_F (fa : Nat → Int32) (r i : Nat) : Int := (fa (3 * r + i)).toInt
def ap_B (bo : Nat → Int32) (r : Nat) : Int := (bo r).toInt
theorem ap_Fi (fa : Nat → Int32) (r i : Nat) : fa (3 * r + i) = ap_i (ap_F fa r i) := (ap_i_of _).symm
theorem ap_Bi (bo : Nat → Int32) (r : Nat) : bo r = ap_i (ap_B bo r) := (ap_i_of _).symm
theorem ax_m1 : ∀ i, i < 3 → (nI i + 1) - (nI i + 1) / 3 * 3 = nI ((i + 1) % 3) := ap_lt3 (by decide) (by decide) (by decide)
theorem ax_m2 : ∀ i, i < 3 → (nI i + 2) - (nI i + 2) / 3 * 3 = nI ((i + 2) % 3) := ap_lt3 (by decide) (by decide) (by decide)
section
variable {pB kB pm : Int32} {fa ki bo us go ai pt kt : Nat → Int32}
theorem ax_cross {post : Int32 → Prop} {p q i : Nat} (hp : p < 11) (hq : q < 11) (hi : i < 3) (h : post (ap_i (ap_cr (ap_F fa) p q i))) : wpX_cross post (pB, kB, pm, fa, ki, bo, us, go, ai, pt, kt) (nI p) (nI q) (nI i) := by
  have a1 : (i + 1) % 3 < 3 := Nat.mod_lt _ (by decide)
  have a2 : (i + 2) % 3 < 3 := Nat.mod_lt _ (by decide)
  refine ⟨by decide, nm_r (ax_m1 i hi) ⟨by decide, nm_r (ax_m2 i hi) ?_⟩⟩
  simp only [ap_3i]
  refine ⟨ap_in (by omega) (by decide), ap_in (by omega) (by decide), ap_in (by omega) (by decide), ap_in (by omega) (by decide), ?_⟩
  rw [ap_cl (by omega), ap_cl (by omega), ap_cl (by omega), ap_cl (by omega), ap_Fi fa p, ap_Fi fa p, ap_Fi fa q, ap_Fi fa q, ap_i_mul, ap_i_mul, ap_i_sub]
  exact h
theorem ax_pac6 {post : Int32 → SX → Prop} {p q r i n : Nat} {x : Int} (hp : p < 11) (hq : q < 11) (hr : r < 11) (hi : i < 3)
    (h : wX_placeAtCorner_6 post (nI p) (nI q) (nI r) pB kB pm fa ki bo us go ai pt kt n (ap_i (x + ap_F fa p i * ap_cr (ap_F fa) q r i)) (nI (i + 1))) :
    wX_placeAtCorner_6 post (nI p) (nI q) (nI r) pB kB pm fa ki bo us go ai pt kt (n + 1) (ap_i x) (nI i) := by
  refine br_f (ap_l3 i hi) ⟨?_, ax_cross hq hr hi ?_⟩
  · rw [ap_3i]; exact ap_in (by omega) (by decide)
  · refine nm_r ?_ (nm_r (nI_1 i) h)
    rw [ap_3i, ap_cl (by omega), ap_Fi fa, ap_i_mul, ap_i_add]
theorem ax_pac74 {post : Int32 → SX → Prop} {p q r i n : Nat} {s : Int} (hp : p < 11) (hq : q < 11) (hr : r < 11) (hi : i < 3)
    (h : wX_placeAtCorner_74 post (nI p) (nI q) (nI r) (ap_i s) pB kB pm n (nI (i + 1)) fa ki bo us go ai (upd pt i (ap_i (s * ap_tp (ap_F fa) (ap_B bo) p q r i))) kt) :
    wX_placeAtCorner_74 post (nI p) (nI q) (nI r) (ap_i s) pB kB pm (n + 1) (nI i) fa ki bo us go ai pt kt := by
  refine br_f (ap_l3 i hi) ⟨ap_in hp (by decide), ax_cross hq hr hi ⟨ap_in hq (by decide), ax_cross hr hp hi ⟨ap_in hr (by decide), ax_cross hp hq hi ?_⟩⟩⟩
  refine nm_r (e' := ap_i (ap_tp (ap_F fa) (ap_B bo) p q r i)) ?_ ⟨ap_in hi (by decide), nm_r ?_ (nm_r (nI_1 i) h)⟩
  · rw [ap_cl (by omega), ap_cl (by omega), ap_cl (by omega), ap_Bi bo p, ap_Bi bo q, ap_Bi bo r, ap_i_mul, ap_i_mul, ap_i_mul, ap_i_add, ap_i_add]
    rfl
  · rw [ap_cl (by omega), ap_i_mul]
theorem ax_pac60 {post : Int32 → SX → Prop} {p q r : Nat} {s d : Int} (hp : p < 11) (hq : q < 11) (hr : r < 11)
    (h : ∀ pt' : Nat → Int32, (∀ i, i < 3 → pt' i = ap_i (s * ap_tp (ap_F fa) (ap_B bo) p q r i)) → post 1 (ap_i (s * d), kB, pm, fa, ki, bo, us, go, ai, pt', kt)) :
    wX_placeAtCorner_60 post (nI p) (nI q) (nI r) (ap_i d) (ap_i s) pB kB pm fa ki bo us go ai pt kt := by
  refine nm_r (ap_i_mul s d) ⟨4, ?_⟩
  refine ax_pac74 (i := 0) hp hq hr (by decide) (ax_pac74 (i := 1) hp hq hr (by decide) (ax_pac74 (i := 2) hp hq hr (by decide) (br_t ap_g3 (h _ ?_))))
  exact ap_lt3 (by rw [pk_un (by decide), pk_un (by decide), pk_us]) (by rw [pk_un (by decide), pk_us]) (by rw [pk_us])
theorem ax_placeAtCorner {post : Int32 → SX → Prop} {p q r : Nat} (hF : ∀ r i, ap_b 7 (ap_F fa r i)) (hp : p < 11) (hq : q < 11) (hr : r < 11)
    (h0 : ap_dt (ap_F fa) p q r = 0 → post 0 (pB, kB, pm, fa, ki, bo, us, go, ai, pt, kt))
    (h1 : ap_dt (ap_F fa) p q r ≠ 0 → ∀ pt' : Nat → Int32, (∀ i, i < 3 → pt' i = ap_i ((ap_co (ap_F fa) (ap_B bo) p q r).1 i)) → post 1 (ap_i (ap_co (ap_F fa) (ap_B bo) p q r).2, kB, pm, fa, ki, bo, us, go, ai, pt', kt)) :
    wpX_placeAtCorner post (pB, kB, pm, fa, ki, bo, us, go, ai, pt, kt) (nI p) (nI q) (nI r) := by
  refine ⟨4, ?_⟩
  refine ax_pac6 (x := 0) (i := 0) hp hq hr (by decide) (ax_pac6 (i := 1) hp hq hr (by decide) (ax_pac6 (i := 2) hp hq hr (by decide) (br_t ap_g3 ?_)))
  have e : 0 + ap_F fa p 0 * ap_cr (ap_F fa) q r 0 + ap_F fa p 1 * ap_cr (ap_F fa) q r 1 + ap_F fa p 2 * ap_cr (ap_F fa) q r 2 = ap_dt (ap_F fa) p q r := by
    unfold ap_dt; omega
  rw [e]
  have hd := ap_b_le (ap_dt_b hF p q r) (show 2058 ≤ 2147483647 by decide)
  refine br_c (fun z => h0 ((ap_i_eq0 hd).mp z)) (fun z => ?_)
  have z' : ap_dt (ap_F fa) p q r ≠ 0 := fun y => z ((ap_i_eq0 hd).mpr y)
  have h1' := h1 z'
  unfold ap_co ap_sg at h1'
  refine br_c (fun y => ?_) (fun y => ?_)
  · rw [if_pos ((ap_i_0le hd).mp y)] at h1'
    exact ax_pac60 hp hq hr h1'
  · rw [if_neg (fun w => y ((ap_i_0le hd).mpr w))] at h1'
    exact ax_pac60 hp hq hr h1'
theorem ax_exP14 {post : Int32 → Prop} {r i n : Nat} {x : Int} {P : ap_P} (hr : r < 11) (hi : i < 3) (hpt : ∀ i, i < 3 → pt i = ap_i (P.1 i))
    (h : wX_excess__placeTops_14 post (nI r) pB kB pm fa ki bo us go ai pt kt n (ap_i (x + ap_F fa r i * P.1 i)) (nI (i + 1))) :
    wX_excess__placeTops_14 post (nI r) pB kB pm fa ki bo us go ai pt kt (n + 1) (ap_i x) (nI i) := by
  refine br_f (ap_l3 i hi) ⟨?_, ap_in hi (by decide), nm_r ?_ (nm_r (nI_1 i) h)⟩
  · rw [ap_3i]; exact ap_in (by omega) (by decide)
  · rw [ap_3i, ap_cl (by omega), ap_cl (by omega), ap_Fi fa, hpt i hi, ap_i_mul, ap_i_add]
theorem ax_exP {post : Int32 → Prop} {r : Nat} {P : ap_P} (hr : r < 11) (hpt : ∀ i, i < 3 → pt i = ap_i (P.1 i))
    (h : post (ap_i (ap_ex (ap_F fa) (ap_B bo) r P))) : wpX_excess__placeTops post (pB, kB, pm, fa, ki, bo, us, go, ai, pt, kt) (nI r) (ap_i P.2) := by
  refine ⟨ap_in hr (by decide), nm_r (e' := ap_i (-(ap_B bo r) * P.2)) ?_ ⟨4, ?_⟩⟩
  · rw [ap_cl (by omega), ap_Bi bo, ap_i_neg, ap_i_mul]
  · refine ax_exP14 (i := 0) hr (by decide) hpt (ax_exP14 (i := 1) hr (by decide) hpt (ax_exP14 (i := 2) hr (by decide) hpt (br_t ap_g3 ?_)))
    have e : -(ap_B bo r) * P.2 + ap_F fa r 0 * P.1 0 + ap_F fa r 1 * P.1 1 + ap_F fa r 2 * P.1 2 = ap_ex (ap_F fa) (ap_B bo) r P := by
      unfold ap_ex; rw [Int.neg_mul]; omega
    rw [e]; exact h
theorem ax_exK14 {post : Int32 → Prop} {r i n : Nat} {x : Int} {P : ap_P} (hr : r < 11) (hi : i < 3) (hkt : ∀ i, i < 3 → kt i = ap_i (P.1 i))
    (h : wX_excess__keptTops_14 post (nI r) pB kB pm fa ki bo us go ai pt kt n (ap_i (x + ap_F fa r i * P.1 i)) (nI (i + 1))) :
    wX_excess__keptTops_14 post (nI r) pB kB pm fa ki bo us go ai pt kt (n + 1) (ap_i x) (nI i) := by
  refine br_f (ap_l3 i hi) ⟨?_, ap_in hi (by decide), nm_r ?_ (nm_r (nI_1 i) h)⟩
  · rw [ap_3i]; exact ap_in (by omega) (by decide)
  · rw [ap_3i, ap_cl (by omega), ap_cl (by omega), ap_Fi fa, hkt i hi, ap_i_mul, ap_i_add]
theorem ax_exK {post : Int32 → Prop} {r : Nat} {P : ap_P} (hr : r < 11) (hkt : ∀ i, i < 3 → kt i = ap_i (P.1 i))
    (h : post (ap_i (ap_ex (ap_F fa) (ap_B bo) r P))) : wpX_excess__keptTops post (pB, kB, pm, fa, ki, bo, us, go, ai, pt, kt) (nI r) (ap_i P.2) := by
  refine ⟨ap_in hr (by decide), nm_r (e' := ap_i (-(ap_B bo r) * P.2)) ?_ ⟨4, ?_⟩⟩
  · rw [ap_cl (by omega), ap_Bi bo, ap_i_neg, ap_i_mul]
  · refine ax_exK14 (i := 0) hr (by decide) hkt (ax_exK14 (i := 1) hr (by decide) hkt (ax_exK14 (i := 2) hr (by decide) hkt (br_t ap_g3 ?_)))
    have e : -(ap_B bo r) * P.2 + ap_F fa r 0 * P.1 0 + ap_F fa r 1 * P.1 1 + ap_F fa r 2 * P.1 2 = ap_ex (ap_F fa) (ap_B bo) r P := by
      unfold ap_ex; rw [Int.neg_mul]; omega
    rw [e]; exact h
theorem ax_pma69 {post J2 : Int32 → Prop} {r : Nat} {x3 z0 : Int32} (hJ : x3 = 0 → z0 = 0 → J2 (nI (r + 1))) (hp : ¬ (x3 = 0 ∧ z0 = 0) → post 0) :
    wX_placeMeetsAll_69 post J2 (nI r) x3 z0 pB kB pm fa ki bo us go ai pt kt :=
  br_c (fun a => br_c (fun b => nm_r (nI_1 r) (hJ a b)) (fun b => hp (fun c => b c.2))) (fun a => hp (fun c => a c.1))
theorem ax_pma50 {post J2 : Int32 → Prop} {r : Nat} {z0 : Int32} {e : Int} (hr : r < 11) (he : ap_b 2147483647 e)
    (hJ : z0 = 0 → ¬ (e < 0 ∧ ¬ ki r = 0) → J2 (nI (r + 1))) (hp : (¬ z0 = 0 ∨ (e < 0 ∧ ¬ ki r = 0)) → post 0) :
    wX_placeMeetsAll_50 post J2 (nI r) (ap_i e) z0 pB kB pm fa ki bo us go ai pt kt := by
  refine br_c (fun a => ax_pma69 (fun b _ => hJ b ?_) (fun b => hp (Or.inl (fun c => b ⟨c, rfl⟩)))) (fun a => ⟨ap_in hr (by decide), ?_⟩)
  · rw [ap_i_0le he] at a; omega
  · rw [ap_cl (by omega)]
    rw [ap_i_0le he] at a
    refine br_c (fun b => ax_pma69 (fun c _ => hJ c (fun d => d.2 b)) (fun c => hp (Or.inl (fun d => c ⟨d, rfl⟩)))) (fun b => ?_)
    exact ax_pma69 (fun c d => absurd d (by decide)) (fun c => hp (Or.inr ⟨by omega, b⟩))
theorem ax_pma2 {post : Int32 → Prop} {P : ap_P} (hF : ∀ r i, ap_b 7 (ap_F fa r i)) (hB : ∀ r, ap_b 99 (ap_B bo r)) (hP : ap_pb P)
    (hpt : ∀ i, i < 3 → pt i = ap_i (P.1 i)) (h1 : ap_ok (ap_F fa) (ap_B bo) ki us P → post 1) (h0 : ¬ ap_ok (ap_F fa) (ap_B bo) ki us P → post 0) :
    ∀ d r, r + d = 11 → (∀ j, j < r → ¬ us j = 0 → ap_rk (ap_F fa) (ap_B bo) ki P j) → wX_placeMeetsAll_2 post (ap_i P.2) kB pm fa ki bo us go ai pt kt (d + 1) (nI r) := by
  intro d
  induction d with
  | zero =>
    intro r hr hj
    have : r = 11 := by omega
    subst this
    exact br_t ap_g11 (h1 hj)
  | succ d ih =>
    intro r hr hj
    have hr' : r < 11 := by omega
    refine br_f (ap_l11 r hr') ⟨ap_in hr' (by decide), ?_⟩
    rw [ap_cl (by omega)]
    refine br_c (fun z => nm_r (nI_1 r) (ih (r + 1) (by omega) (fun j hj' hu => ?_))) (fun z => ax_exP hr' hpt ?_)
    · rcases Nat.lt_or_ge j r with a | a
      · exact hj j a hu
      · have : j = r := by omega
        subst this; exact absurd z hu
    · have he := ap_b_le (ap_ex_b hF hB hP r) (show 814968 ≤ 2147483647 by decide)
      have gg : ap_rk (ap_F fa) (ap_B bo) ki P r → wX_placeMeetsAll_2 post (ap_i P.2) kB pm fa ki bo us go ai pt kt (d + 1) (nI (r + 1)) := by
        intro hk
        refine ih (r + 1) (by omega) (fun j hj' hu => ?_)
        rcases Nat.lt_or_ge j r with a | a
        · exact hj j a hu
        · have : j = r := by omega
          subst this; exact hk
      have stop : ¬ ap_rk (ap_F fa) (ap_B bo) ki P r → post 0 := fun hk => h0 (fun ho => hk (ho r hr' z))
      unfold ap_rk at gg stop
      refine br_c (fun a => ?_) (fun a => ⟨ap_in hr' (by decide), br_c (fun b => ?_) (fun b => ?_)⟩)
      · rw [ap_i_le0 he] at a
        exact ax_pma50 hr' he (fun _ c => gg (fun w => w.elim (fun y => by omega) c)) (fun c => stop (fun w => w (Or.inr (c.resolve_left (fun x => x rfl)))))
      · rw [ap_i_le0 he] at a
        exact ax_pma50 hr' he (fun _ c => gg (fun w => w.elim (fun y => y.2 b) c)) (fun c => stop (fun w => w (Or.inr (c.resolve_left (fun x => x rfl)))))
      · rw [ap_i_le0 he] at a
        exact ax_pma50 hr' he (fun c => absurd c (by decide)) (fun c => stop (fun w => w (Or.inl ⟨by omega, b⟩)))
theorem ax_placeMeetsAll {post : Int32 → Prop} {P : ap_P} (hF : ∀ r i, ap_b 7 (ap_F fa r i)) (hB : ∀ r, ap_b 99 (ap_B bo r)) (hP : ap_pb P)
    (hpt : ∀ i, i < 3 → pt i = ap_i (P.1 i)) (h1 : ap_ok (ap_F fa) (ap_B bo) ki us P → post 1) (h0 : ¬ ap_ok (ap_F fa) (ap_B bo) ki us P → post 0) :
    wpX_placeMeetsAll post (ap_i P.2, kB, pm, fa, ki, bo, us, go, ai, pt, kt) :=
  ⟨12, ax_pma2 hF hB hP hpt h1 h0 11 0 rfl (fun j hj => absurd hj (Nat.not_lt_zero j))⟩
theorem ax_aiP4 {post : Int32 → Prop} {i n : Nat} {x : Int} {A : Nat → Int} {P : ap_P} (hi : i < 3) (hai : ∀ i, i < 3 → ai i = ap_i (A i)) (hpt : ∀ i, i < 3 → pt i = ap_i (P.1 i))
    (h : wX_aimedAt__placeTops_4 post pB kB pm fa ki bo us go ai pt kt n (ap_i (x + A i * P.1 i)) (nI (i + 1))) :
    wX_aimedAt__placeTops_4 post pB kB pm fa ki bo us go ai pt kt (n + 1) (ap_i x) (nI i) := by
  refine br_f (ap_l3 i hi) ⟨ap_in hi (by decide), ap_in hi (by decide), nm_r ?_ (nm_r (nI_1 i) h)⟩
  rw [ap_cl (by omega), hai i hi, hpt i hi, ap_i_mul, ap_i_add]
theorem ax_aiP {post : Int32 → Prop} {A : Nat → Int} {P : ap_P} (hai : ∀ i, i < 3 → ai i = ap_i (A i)) (hpt : ∀ i, i < 3 → pt i = ap_i (P.1 i))
    (h : post (ap_i (ap_w A P))) : wpX_aimedAt__placeTops post (pB, kB, pm, fa, ki, bo, us, go, ai, pt, kt) := by
  refine ⟨4, ax_aiP4 (x := 0) (i := 0) (by decide) hai hpt (ax_aiP4 (i := 1) (by decide) hai hpt (ax_aiP4 (i := 2) (by decide) hai hpt (br_t ap_g3 ?_)))⟩
  have e : 0 + A 0 * P.1 0 + A 1 * P.1 1 + A 2 * P.1 2 = ap_w A P := by unfold ap_w; omega
  rw [e]; exact h
theorem ax_aiK4 {post : Int32 → Prop} {i n : Nat} {x : Int} {A : Nat → Int} {P : ap_P} (hi : i < 3) (hai : ∀ i, i < 3 → ai i = ap_i (A i)) (hkt : ∀ i, i < 3 → kt i = ap_i (P.1 i))
    (h : wX_aimedAt__keptTops_4 post pB kB pm fa ki bo us go ai pt kt n (ap_i (x + A i * P.1 i)) (nI (i + 1))) :
    wX_aimedAt__keptTops_4 post pB kB pm fa ki bo us go ai pt kt (n + 1) (ap_i x) (nI i) := by
  refine br_f (ap_l3 i hi) ⟨ap_in hi (by decide), ap_in hi (by decide), nm_r ?_ (nm_r (nI_1 i) h)⟩
  rw [ap_cl (by omega), hai i hi, hkt i hi, ap_i_mul, ap_i_add]
theorem ax_aiK {post : Int32 → Prop} {A : Nat → Int} {P : ap_P} (hai : ∀ i, i < 3 → ai i = ap_i (A i)) (hkt : ∀ i, i < 3 → kt i = ap_i (P.1 i))
    (h : post (ap_i (ap_w A P))) : wpX_aimedAt__keptTops post (pB, kB, pm, fa, ki, bo, us, go, ai, pt, kt) := by
  refine ⟨4, ax_aiK4 (x := 0) (i := 0) (by decide) hai hkt (ax_aiK4 (i := 1) (by decide) hai hkt (ax_aiK4 (i := 2) (by decide) hai hkt (br_t ap_g3 ?_)))⟩
  have e : 0 + A 0 * P.1 0 + A 1 * P.1 1 + A 2 * P.1 2 = ap_w A P := by unfold ap_w; omega
  rw [e]; exact h
end
end
section
/-! the component's search -/
section
variable {pB kB pm : Int32} {fa ki bo us go ai pt kt : Nat → Int32}
theorem ax_cd {post : Int64 → Prop} {a c x y : Int} (ha : ap_b 2147483647 a) (hc : ap_b 2147483647 c) (hx : ap_b 2147483647 x) (hy : ap_b 2147483647 y)
    (h : post (ap_l (a * y - c * x))) : wpX_crossDifference post (ap_i x, ap_i y, pm, fa, ki, bo, us, go, ai, pt, kt) (ap_i a) (ap_i c) := by
  show post ((ap_i a).toInt64 * (ap_i y).toInt64 - (ap_i c).toInt64 * (ap_i x).toInt64)
  rw [ap_i_l ha, ap_i_l hc, ap_i_l hx, ap_i_l hy, ap_l_mul, ap_l_mul, ap_l_sub]
  exact h
theorem ax_pib46 {post : Int32 → Prop} {P Q : ap_P} {i n : Nat} (hi : i < 3) (hP : ap_pb P) (hQ : ap_pb Q)
    (hpt : ∀ i, i < 3 → pt i = ap_i (P.1 i)) (hkt : ∀ i, i < 3 → kt i = ap_i (Q.1 i))
    (h1 : 0 < ap_gi i P Q → post 1) (h0 : ap_gi i P Q < 0 → post 0)
    (h : ap_gi i P Q = 0 → wX_placeIsBetter_46 post (ap_i P.2) (ap_i Q.2) pm fa ki bo us go ai pt kt n (nI (i + 1))) :
    wX_placeIsBetter_46 post (ap_i P.2) (ap_i Q.2) pm fa ki bo us go ai pt kt (n + 1) (nI i) := by
  refine br_f (ap_l3 i hi) ⟨ap_in hi (by decide), ap_in hi (by decide), ?_⟩
  rw [ap_cl (by omega), hpt i hi, hkt i hi]
  have k1 : 29106 ≤ 2147483647 := by decide
  have k2 : 2058 ≤ 2147483647 := by decide
  refine ax_cd (ap_b_le (hP.1 i) k1) (ap_b_le (hQ.1 i) k1) (ap_b_le (ap_pb_2 hP) k2) (ap_b_le (ap_pb_2 hQ) k2) ?_
  have e : P.1 i * Q.2 - Q.1 i * P.2 = - ap_gi i P Q := by unfold ap_gi; omega
  rw [e]
  have hb := ap_b_neg (ap_b_le (ap_gi_b hP hQ i) (show 119800296 ≤ 9000000000000000000 by decide))
  refine br_c (fun z => nm_r (nI_1 i) (h ?_)) (fun z => br_c (fun y => h0 ?_) (fun y => h1 ?_))
  · rw [ap_l_eq0 hb] at z; omega
  · rw [ap_l_eq0 hb] at z; rw [ap_l_0le hb] at y; omega
  · rw [ap_l_eq0 hb] at z; rw [ap_l_0le hb] at y; omega
theorem ax_placeIsBetter {post : Int32 → Prop} {A : Nat → Int} {P Q : ap_P} (hA : ∀ i, ap_b 7 (A i)) (hP : ap_pb P) (hQ : ap_pb Q)
    (hai : ∀ i, i < 3 → ai i = ap_i (A i)) (hpt : ∀ i, i < 3 → pt i = ap_i (P.1 i)) (hkt : ∀ i, i < 3 → kt i = ap_i (Q.1 i))
    (h1 : ap_bt A P Q → post 1) (h0 : ¬ ap_bt A P Q → post 0) : wpX_placeIsBetter post (ap_i P.2, ap_i Q.2, pm, fa, ki, bo, us, go, ai, pt, kt) := by
  unfold ap_bt at h1 h0
  refine ax_aiP hai hpt (ax_aiK hai hkt ?_)
  have k1 : 611226 ≤ 2147483647 := by decide
  have k2 : 2058 ≤ 2147483647 := by decide
  refine ax_cd (ap_b_le (ap_w_b hA hP) k1) (ap_b_le (ap_w_b hA hQ) k1) (ap_b_le (ap_pb_2 hP) k2) (ap_b_le (ap_pb_2 hQ) k2) ?_
  have hb := ap_b_le (ap_g0_b hA hP hQ) (show 2515806216 ≤ 9000000000000000000 by decide)
  have e : ap_w A P * Q.2 - ap_w A Q * P.2 = ap_g0 A P Q := rfl
  rw [e]
  refine br_c (fun z => ?_) (fun z => br_c (fun y => h0 ?_) (fun y => h1 ?_))
  · rw [ap_l_eq0 hb] at z
    refine ⟨4, ax_pib46 (i := 0) (by decide) hP hQ hpt hkt (fun a => h1 (by omega)) (fun a => h0 (by omega)) (fun a0 => ?_)⟩
    refine ax_pib46 (i := 1) (by decide) hP hQ hpt hkt (fun a => h1 (by omega)) (fun a => h0 (by omega)) (fun a1 => ?_)
    refine ax_pib46 (i := 2) (by decide) hP hQ hpt hkt (fun a => h1 (by omega)) (fun a => h0 (by omega)) (fun a2 => ?_)
    exact br_t ap_g3 (h0 (by omega))
  · rw [ap_l_eq0 hb] at z; rw [ap_l_le0 hb] at y; omega
  · rw [ap_l_eq0 hb] at z; rw [ap_l_le0 hb] at y; omega
theorem ax_kp2 {post : SX → Prop} {i n : Nat} (hi : i < 3) (h : wX_keepPlace_2 post pB kB pm n (nI (i + 1)) fa ki bo us go ai pt (upd kt i (pt i))) :
    wX_keepPlace_2 post pB kB pm (n + 1) (nI i) fa ki bo us go ai pt kt := by
  refine br_f (ap_l3 i hi) ⟨ap_in hi (by decide), ap_in hi (by decide), nm_r ?_ (nm_r (nI_1 i) h)⟩
  rw [ap_cl (by omega)]
theorem ax_keepPlace {post : SX → Prop} (h : ∀ kt' : Nat → Int32, (∀ i, i < 3 → kt' i = pt i) → post (pB, pB, pm, fa, ki, bo, us, go, ai, pt, kt')) : wpX_keepPlace post (pB, kB, pm, fa, ki, bo, us, go, ai, pt, kt) := by
  refine ⟨4, ax_kp2 (i := 0) (by decide) (ax_kp2 (i := 1) (by decide) (ax_kp2 (i := 2) (by decide) (br_t ap_g3 (h _ ?_))))⟩
  exact ap_lt3 (by rw [pk_un (by decide), pk_un (by decide), pk_us]) (by rw [pk_un (by decide), pk_us]) (by rw [pk_us])
theorem ax_consider {post : SX → Prop} {A : Nat → Int} {P Q : ap_P} {m : Nat} (hF : ∀ r i, ap_b 7 (ap_F fa r i)) (hB : ∀ r, ap_b 99 (ap_B bo r)) (hA : ∀ i, ap_b 7 (A i)) (hP : ap_pb P)
    (hai : ∀ i, i < 3 → ai i = ap_i (A i)) (hpt : ∀ i, i < 3 → pt i = ap_i (P.1 i)) (hm : m < 1000000)
    (hQ : m ≠ 0 → ap_pb Q ∧ (∀ i, i < 3 → kt i = ap_i (Q.1 i)) ∧ kB = ap_i Q.2)
    (h0 : ¬ ap_ok (ap_F fa) (ap_B bo) ki us P → post (ap_i P.2, kB, nI m, fa, ki, bo, us, go, ai, pt, kt))
    (h1 : ap_ok (ap_F fa) (ap_B bo) ki us P → (m = 0 ∨ ap_bt A P Q) → ∀ kt' : Nat → Int32, (∀ i, i < 3 → kt' i = ap_i (P.1 i)) → post (ap_i P.2, ap_i P.2, nI (m + 1), fa, ki, bo, us, go, ai, pt, kt'))
    (h2 : ap_ok (ap_F fa) (ap_B bo) ki us P → m ≠ 0 → ¬ ap_bt A P Q → post (ap_i P.2, kB, nI (m + 1), fa, ki, bo, us, go, ai, pt, kt)) :
    wpX_consider post (ap_i P.2, kB, nI m, fa, ki, bo, us, go, ai, pt, kt) := by
  have kk : ap_ok (ap_F fa) (ap_B bo) ki us P → (m = 0 ∨ ap_bt A P Q) → wX_consider_22 post (ap_i P.2) kB (nI m) fa ki bo us go ai pt kt := by
    intro ho hb
    refine ax_keepPlace (fun kt' hk => nm_r (nI_1 m) (h1 ho hb kt' (fun i hi => ?_)))
    rw [hk i hi, hpt i hi]
  refine ax_placeMeetsAll hF hB hP hpt (fun ho => br_f (by decide) ?_) (fun ho => br_t rfl (h0 ho))
  refine br_c (fun z => kk ho (Or.inl ?_)) (fun z => ?_)
  · rw [ap_i_n, ap_i_eq0 (ap_b_n (by omega))] at z; omega
  · have z' : m ≠ 0 := by intro y; subst y; exact z rfl
    obtain ⟨q1, q2, q3⟩ := hQ z'
    subst q3
    exact ax_placeIsBetter hA hP q1 hai hpt q2 (fun b => br_f (by decide) (kk ho (Or.inr b))) (fun b => br_t rfl (nm_r (nI_1 m) (h2 ho z' b)))
/-! all corners -/
def ap_S (F : Nat → Nat → Int) (B : Nat → Int) (K U : Nat → Int32) (p q r : Nat) (P : ap_P) : Prop :=
  ∃ p' q' r', p' < q' ∧ q' < r' ∧ r' < 11 ∧ (p' < p ∨ (p' = p ∧ (q' < q ∨ (q' = q ∧ r' < r)))) ∧ ap_gc F B K U p' q' r' ∧ P = ap_co F B p' q' r'
def ap_C (F : Nat → Nat → Int) (B : Nat → Int) (K U : Nat → Int32) (P : ap_P) : Prop :=
  ∃ p q r, p < q ∧ q < r ∧ r < 11 ∧ ap_gc F B K U p q r ∧ P = ap_co F B p q r
def ax_SI (A : Nat → Int) (fa ki bo us : Nat → Int32) (S : ap_P → Prop) (N : Nat) (kB pm : Int32) (kt : Nat → Int32) : Prop :=
  ∃ (m : Nat) (Q : ap_P), pm = nI m ∧ m ≤ N ∧ ap_inv (ap_bt A) S m Q ∧ (m ≠ 0 → ap_pb Q ∧ (∀ i, i < 3 → kt i = ap_i (Q.1 i)) ∧ kB = ap_i Q.2)
theorem ax_SI_cg {A : Nat → Int} {S S' : ap_P → Prop} {N N' : Nat} (h : ∀ c, S' c ↔ S c) (hN : N ≤ N') (i : ax_SI A fa ki bo us S N kB pm kt) : ax_SI A fa ki bo us S' N' kB pm kt := by
  obtain ⟨m, Q, h1, h2, h3, h4⟩ := i
  exact ⟨m, Q, h1, by omega, ap_inv_cg h h3, h4⟩
theorem ax_step {post : SX → Prop} {A : Nat → Int} {P : ap_P} {S S' : ap_P → Prop} {N : Nat} (hF : ∀ r i, ap_b 7 (ap_F fa r i)) (hB : ∀ r, ap_b 99 (ap_B bo r)) (hA : ∀ i, ap_b 7 (A i)) (hP : ap_pb P)
    (hai : ∀ i, i < 3 → ai i = ap_i (A i)) (hpt : ∀ i, i < 3 → pt i = ap_i (P.1 i)) (hN : N < 900000) (hS : ∀ c, S c → 0 < c.2)
    (i : ax_SI A fa ki bo us S N kB pm kt)
    (hS' : ∀ c, S' c ↔ S c ∨ (ap_ok (ap_F fa) (ap_B bo) ki us P ∧ c = P))
    (h : ∀ kB' pm' kt', ax_SI A fa ki bo us S' (N + 1) kB' pm' kt' → post (ap_i P.2, kB', pm', fa, ki, bo, us, go, ai, pt, kt')) :
    wpX_consider post (ap_i P.2, kB, pm, fa, ki, bo, us, go, ai, pt, kt) := by
  obtain ⟨m, Q, rfl, h2, h3, h4⟩ := i
  refine ax_consider (Q := Q) hF hB hA hP hai hpt (by omega) h4 (fun ho => h _ _ _ ?_) (fun ho hb kt' hk => h _ _ _ ?_) (fun ho z hb => h _ _ _ ?_)
  · exact ⟨m, Q, rfl, by omega, ap_inv_cg (fun c => (hS' c).trans ⟨fun x => x.resolve_right (fun y => ho y.1), Or.inl⟩) h3, h4⟩
  · refine ⟨m + 1, P, rfl, by omega, ap_inv_new h3 (fun c => (hS' c).trans ⟨fun x => x.imp id And.right, fun x => x.imp id (fun y => ⟨ho, y⟩)⟩) (by omega) (ap_bt_ir A P) ?_ hb, fun _ => ⟨hP, hk, rfl⟩⟩
    exact fun c hc hk x y => ap_bt_tr (hS c hc) hP.2.1 (hS Q hk) x y
  · refine ⟨m + 1, Q, rfl, by omega, ap_inv_keep h3 (fun c => (hS' c).trans ⟨fun x => x.imp id And.right, fun x => x.imp id (fun y => ⟨ho, y⟩)⟩) z (by omega) hb, fun _ => h4 z⟩
theorem ap_S_pos {F : Nat → Nat → Int} {B : Nat → Int} {K U : Nat → Int32} {p q r : Nat} {P : ap_P} (hF : ∀ r i, ap_b 7 (F r i)) (hB : ∀ r, ap_b 99 (B r)) (h : ap_S F B K U p q r P) : ap_pb P := by
  obtain ⟨p', q', r', _, _, _, _, h5, rfl⟩ := h
  exact ap_co_pb hF hB h5.2.2.2.1
theorem ap_S_no {F : Nat → Nat → Int} {B : Nat → Int} {K U : Nat → Int32} {p q r : Nat} (hg : ¬ ap_gc F B K U p q r) (c : ap_P) : ap_S F B K U p q (r + 1) c ↔ ap_S F B K U p q r c := by
  constructor
  · rintro ⟨p', q', r', h1, h2, h3, h4, h5, h6⟩
    refine ⟨p', q', r', h1, h2, h3, ?_, h5, h6⟩
    rcases Decidable.em (p' = p ∧ q' = q ∧ r' = r) with ⟨rfl, rfl, rfl⟩ | hn
    · exact absurd h5 hg
    · omega
  · rintro ⟨p', q', r', h1, h2, h3, h4, h5, h6⟩
    exact ⟨p', q', r', h1, h2, h3, by omega, h5, h6⟩
theorem ap_S_yes {F : Nat → Nat → Int} {B : Nat → Int} {K U : Nat → Int32} {p q r : Nat} (hpq : p < q) (hqr : q < r) (hr : r < 11) (hp : ¬ U p = 0) (hq : ¬ U q = 0) (hr' : ¬ U r = 0) (hd : ap_dt F p q r ≠ 0) (c : ap_P) :
    ap_S F B K U p q (r + 1) c ↔ ap_S F B K U p q r c ∨ (ap_ok F B K U (ap_co F B p q r) ∧ c = ap_co F B p q r) := by
  constructor
  · rintro ⟨p', q', r', h1, h2, h3, h4, h5, h6⟩
    rcases Decidable.em (p' = p ∧ q' = q ∧ r' = r) with ⟨rfl, rfl, rfl⟩ | hn
    · exact Or.inr ⟨h5.2.2.2.2, h6⟩
    · exact Or.inl ⟨p', q', r', h1, h2, h3, by omega, h5, h6⟩
  · rintro (⟨p', q', r', h1, h2, h3, h4, h5, h6⟩ | ⟨ho, rfl⟩)
    · exact ⟨p', q', r', h1, h2, h3, by omega, h5, h6⟩
    · exact ⟨p, q, r, hpq, hqr, hr, by omega, ⟨hp, hq, hr', hd, ho⟩, rfl⟩
theorem ax_sc27 {post : Int32 → SX → Prop} {J7 J17 : Int32 → Int32 → Int32 → Int32 → (Nat → Int32) → (Nat → Int32) → (Nat → Int32) → (Nat → Int32) → (Nat → Int32) → (Nat → Int32) → (Nat → Int32) → (Nat → Int32) → Prop} {A : Nat → Int} {p q : Nat}
    (hF : ∀ r i, ap_b 7 (ap_F fa r i)) (hB : ∀ r, ap_b 99 (ap_B bo r)) (hA : ∀ i, ap_b 7 (A i)) (hai : ∀ i, i < 3 → ai i = ap_i (A i)) (hpq : p < q) (hq : q < 11)
    (hJ : ∀ (pB kB pm : Int32) (pt kt : Nat → Int32), ax_SI A fa ki bo us (ap_S (ap_F fa) (ap_B bo) ki us p q 11) (121 * p + 11 * q + 11) kB pm kt → J17 (nI (q + 1)) pB kB pm fa ki bo us go ai pt kt) :
    ∀ (d r : Nat) (pB kB pm : Int32) (pt kt : Nat → Int32), r + d = 11 → q < r → ax_SI A fa ki bo us (ap_S (ap_F fa) (ap_B bo) ki us p q r) (121 * p + 11 * q + r) kB pm kt → wX_searchCorners_27 post J7 J17 (nI p) (nI q) (d + 1) (nI r) pB kB pm fa ki bo us go ai pt kt := by
  intro d
  induction d with
  | zero =>
    intro r pB kB pm pt kt hr hqr hi
    have : r = 11 := by omega
    subst this
    exact br_t ap_g11 (nm_r (nI_1 q) (hJ _ _ _ _ _ hi))
  | succ d ih =>
    intro r pB kB pm pt kt hr hqr hi
    have hr' : r < 11 := by omega
    have skip : ∀ (pB : Int32) (pt : Nat → Int32), ¬ ap_gc (ap_F fa) (ap_B bo) ki us p q r → wX_searchCorners_27 post J7 J17 (nI p) (nI q) (d + 1) (nI (r + 1)) pB kB pm fa ki bo us go ai pt kt :=
      fun pB pt hg => ih (r + 1) _ _ _ _ _ (by omega) (by omega) (ax_SI_cg (ap_S_no hg) (by omega) hi)
    refine br_f (ap_l11 r hr') ⟨ap_in (by omega) (by decide), ?_⟩
    rw [ap_cl (by omega)]
    refine br_c (fun z => nm_r (nI_1 r) (skip _ _ (fun g => g.1 z))) (fun z1 => ⟨ap_in (by omega) (by decide), ?_⟩)
    rw [ap_cl (by omega)]
    refine br_c (fun z => nm_r (nI_1 r) (skip _ _ (fun g => g.2.1 z))) (fun z2 => ⟨ap_in (by omega) (by decide), ?_⟩)
    rw [ap_cl (by omega)]
    refine br_c (fun z => nm_r (nI_1 r) (skip _ _ (fun g => g.2.2.1 z))) (fun z3 => ?_)
    refine ax_placeAtCorner hF (by omega) hq hr' (fun z => br_t rfl (nm_r (nI_1 r) (skip _ _ (fun g => g.2.2.2.1 z)))) (fun z pt' hpt => br_f (by decide) ?_)
    refine ax_step hF hB hA (ap_co_pb hF hB z) hai hpt (by omega) (fun c hc => (ap_S_pos hF hB hc).2.1) hi (ap_S_yes hpq hqr hr' z1 z2 z3 z) (fun kB' pm' kt' hi' => nm_r (nI_1 r) ?_)
    exact ih (r + 1) _ _ _ _ _ (by omega) (by omega) hi'
theorem ap_S_a {F : Nat → Nat → Int} {B : Nat → Int} {K U : Nat → Int32} {p q : Nat} (c : ap_P) : ap_S F B K U p q (q + 1) c ↔ ap_S F B K U p q 0 c := by
  constructor <;> rintro ⟨p', q', r', h1, h2, h3, h4, h5, h6⟩ <;> exact ⟨p', q', r', h1, h2, h3, by omega, h5, h6⟩
theorem ap_S_b {F : Nat → Nat → Int} {B : Nat → Int} {K U : Nat → Int32} {p q : Nat} (c : ap_P) : ap_S F B K U p (q + 1) 0 c ↔ ap_S F B K U p q 11 c := by
  constructor <;> rintro ⟨p', q', r', h1, h2, h3, h4, h5, h6⟩ <;> exact ⟨p', q', r', h1, h2, h3, by omega, h5, h6⟩
theorem ap_S_c {F : Nat → Nat → Int} {B : Nat → Int} {K U : Nat → Int32} {p : Nat} (c : ap_P) : ap_S F B K U (p + 1) 0 0 c ↔ ap_S F B K U p 11 0 c := by
  constructor <;> rintro ⟨p', q', r', h1, h2, h3, h4, h5, h6⟩ <;> exact ⟨p', q', r', h1, h2, h3, by omega, h5, h6⟩
theorem ap_S_d {F : Nat → Nat → Int} {B : Nat → Int} {K U : Nat → Int32} {p : Nat} (c : ap_P) : ap_S F B K U p (p + 1) 0 c ↔ ap_S F B K U p 0 0 c := by
  constructor <;> rintro ⟨p', q', r', h1, h2, h3, h4, h5, h6⟩ <;> exact ⟨p', q', r', h1, h2, h3, by omega, h5, h6⟩
theorem ap_S_e {F : Nat → Nat → Int} {B : Nat → Int} {K U : Nat → Int32} (c : ap_P) : ap_S F B K U 11 0 0 c ↔ ap_C F B K U c := by
  constructor
  · rintro ⟨p', q', r', h1, h2, h3, h4, h5, h6⟩; exact ⟨p', q', r', h1, h2, h3, h5, h6⟩
  · rintro ⟨p', q', r', h1, h2, h3, h5, h6⟩; exact ⟨p', q', r', h1, h2, h3, by omega, h5, h6⟩
theorem ax_sc17 {post : Int32 → SX → Prop} {J7 : Int32 → Int32 → Int32 → Int32 → (Nat → Int32) → (Nat → Int32) → (Nat → Int32) → (Nat → Int32) → (Nat → Int32) → (Nat → Int32) → (Nat → Int32) → (Nat → Int32) → Prop} {A : Nat → Int} {p : Nat}
    (hF : ∀ r i, ap_b 7 (ap_F fa r i)) (hB : ∀ r, ap_b 99 (ap_B bo r)) (hA : ∀ i, ap_b 7 (A i)) (hai : ∀ i, i < 3 → ai i = ap_i (A i)) (hp : p < 11)
    (hJ : ∀ (pB kB pm : Int32) (pt kt : Nat → Int32), ax_SI A fa ki bo us (ap_S (ap_F fa) (ap_B bo) ki us p 11 0) (121 * p + 11 * 11) kB pm kt → J7 (nI (p + 1)) pB kB pm fa ki bo us go ai pt kt) :
    ∀ (d q : Nat) (pB kB pm : Int32) (pt kt : Nat → Int32), q + d = 11 → p < q → ax_SI A fa ki bo us (ap_S (ap_F fa) (ap_B bo) ki us p q 0) (121 * p + 11 * q) kB pm kt → wX_searchCorners_17 post J7 (nI p) (d + 1) (nI q) pB kB pm fa ki bo us go ai pt kt := by
  intro d
  induction d with
  | zero =>
    intro q pB kB pm pt kt hq hpq hi
    have : q = 11 := by omega
    subst this
    exact br_t ap_g11 (nm_r (nI_1 p) (hJ _ _ _ _ _ hi))
  | succ d ih =>
    intro q pB kB pm pt kt hq hpq hi
    have hq' : q < 11 := by omega
    refine br_f (ap_l11 q hq') (nm_r (nI_1 q) ⟨11 - (q + 1) + 1, ?_⟩)
    refine ax_sc27 hF hB hA hai hpq hq' (fun pB kB pm pt kt hi' => ?_) (11 - (q + 1)) (q + 1) _ _ _ _ _ (by omega) (by omega) (ax_SI_cg ap_S_a (by omega) hi)
    exact ih (q + 1) _ _ _ _ _ (by omega) (by omega) (ax_SI_cg ap_S_b (by omega) hi')
theorem ax_sc7 {post : Int32 → SX → Prop} {A : Nat → Int}
    (hF : ∀ r i, ap_b 7 (ap_F fa r i)) (hB : ∀ r, ap_b 99 (ap_B bo r)) (hA : ∀ i, ap_b 7 (A i)) (hai : ∀ i, i < 3 → ai i = ap_i (A i))
    (h0 : ∀ (pB kB pm : Int32) (pt kt : Nat → Int32), (∀ c, ¬ ap_C (ap_F fa) (ap_B bo) ki us c) → post 0 (pB, kB, pm, fa, ki, bo, us, go, ai, pt, kt))
    (h1 : ∀ (pB pm : Int32) (pt kt : Nat → Int32) (Q : ap_P), ap_C (ap_F fa) (ap_B bo) ki us Q → (∀ c, ap_C (ap_F fa) (ap_B bo) ki us c → ¬ ap_bt A c Q) → ap_pb Q → (∀ i, i < 3 → kt i = ap_i (Q.1 i)) → post 1 (pB, ap_i Q.2, pm, fa, ki, bo, us, go, ai, pt, kt)) :
    ∀ (d p : Nat) (pB kB pm : Int32) (pt kt : Nat → Int32), p + d = 11 → ax_SI A fa ki bo us (ap_S (ap_F fa) (ap_B bo) ki us p 0 0) (121 * p) kB pm kt → wX_searchCorners_7 post (d + 1) (nI p) pB kB pm fa ki bo us go ai pt kt := by
  intro d
  induction d with
  | zero =>
    intro p pB kB pm pt kt hp hi
    have : p = 11 := by omega
    subst this
    refine br_t ap_g11 ?_
    obtain ⟨m, Q, rfl, h2, h3, h4⟩ := ax_SI_cg (fun c => (ap_S_e c).symm) (Nat.le_refl _) hi
    rw [ap_i_n, ap_i_le0 (ap_b_n (by omega))]
    refine br_c (fun z => h0 _ _ _ _ _ (h3.1 (by omega))) (fun z => ?_)
    obtain ⟨q1, q2, q3⟩ := h4 (by omega)
    obtain ⟨s1, s2⟩ := h3.2 (by omega)
    subst q3
    exact h1 _ _ _ _ Q s1 s2 q1 q2
  | succ d ih =>
    intro p pB kB pm pt kt hp hi
    have hp' : p < 11 := by omega
    refine br_f (ap_l11 p hp') (nm_r (nI_1 p) ⟨11 - (p + 1) + 1, ?_⟩)
    refine ax_sc17 hF hB hA hai hp' (fun pB kB pm pt kt hi' => ?_) (11 - (p + 1)) (p + 1) _ _ _ _ _ (by omega) (by omega) (ax_SI_cg ap_S_d (by omega) hi)
    exact ih (p + 1) _ _ _ _ _ (by omega) (ax_SI_cg ap_S_c (by omega) hi')
theorem ax_searchCorners {post : Int32 → SX → Prop} {A : Nat → Int}
    (hF : ∀ r i, ap_b 7 (ap_F fa r i)) (hB : ∀ r, ap_b 99 (ap_B bo r)) (hA : ∀ i, ap_b 7 (A i)) (hai : ∀ i, i < 3 → ai i = ap_i (A i))
    (h0 : ∀ (pB kB pm : Int32) (pt kt : Nat → Int32), (∀ c, ¬ ap_C (ap_F fa) (ap_B bo) ki us c) → post 0 (pB, kB, pm, fa, ki, bo, us, go, ai, pt, kt))
    (h1 : ∀ (pB pm : Int32) (pt kt : Nat → Int32) (Q : ap_P), ap_C (ap_F fa) (ap_B bo) ki us Q → (∀ c, ap_C (ap_F fa) (ap_B bo) ki us c → ¬ ap_bt A c Q) → ap_pb Q → (∀ i, i < 3 → kt i = ap_i (Q.1 i)) → post 1 (pB, ap_i Q.2, pm, fa, ki, bo, us, go, ai, pt, kt)) :
    wpX_searchCorners post (pB, kB, pm, fa, ki, bo, us, go, ai, pt, kt) := by
  refine ⟨12, ax_sc7 hF hB hA hai h0 h1 11 0 _ _ _ _ _ rfl ⟨0, (fun _ => 0, 0), rfl, Nat.zero_le _, ⟨fun _ c hc => ?_, fun z => absurd rfl z⟩, fun z => absurd rfl z⟩⟩
  obtain ⟨p', q', r', h1, h2, h3, h4, h5, h6⟩ := hc
  omega
end
end
