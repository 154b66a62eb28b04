/-! the pure picture: rows F, B; a place is three tops over one bottom -/
abbrev ap_P : Type := (Nat → Int) × Int
def ap_cr (F : Nat → Nat → Int) (q r i : Nat) : Int := F q ((i + 1) % 3) * F r ((i + 2) % 3) - F q ((i + 2) % 3) * F r ((i + 1) % 3)
def ap_dt (F : Nat → Nat → Int) (p q r : Nat) : Int := F p 0 * ap_cr F q r 0 + F p 1 * ap_cr F q r 1 + F p 2 * ap_cr F q r 2
def ap_tp (F : Nat → Nat → Int) (B : Nat → Int) (p q r i : Nat) : Int := B p * ap_cr F q r i + B q * ap_cr F r p i + B r * ap_cr F p q i
def ap_sg (d : Int) : Int := if 0 ≤ d then 1 else -1
def ap_co (F : Nat → Nat → Int) (B : Nat → Int) (p q r : Nat) : ap_P := (fun i => ap_sg (ap_dt F p q r) * ap_tp F B p q r i, ap_sg (ap_dt F p q r) * ap_dt F p q r)
def ap_ex (F : Nat → Nat → Int) (B : Nat → Int) (r : Nat) (P : ap_P) : Int := F r 0 * P.1 0 + F r 1 * P.1 1 + F r 2 * P.1 2 - B r * P.2
def ap_w (A : Nat → Int) (P : ap_P) : Int := A 0 * P.1 0 + A 1 * P.1 1 + A 2 * P.1 2
def ap_rk (F : Nat → Nat → Int) (B : Nat → Int) (K : Nat → Int32) (P : ap_P) (r : Nat) : Prop := ¬ ((0 < ap_ex F B r P ∧ ¬ K r = 2) ∨ (ap_ex F B r P < 0 ∧ ¬ K r = 0))
def ap_ok (F : Nat → Nat → Int) (B : Nat → Int) (K U : Nat → Int32) (P : ap_P) : Prop := ∀ r, r < 11 → ¬ U r = 0 → ap_rk F B K P r
def ap_gc (F : Nat → Nat → Int) (B : Nat → Int) (K U : Nat → Int32) (p q r : Nat) : Prop := ¬ U p = 0 ∧ ¬ U q = 0 ∧ ¬ U r = 0 ∧ ap_dt F p q r ≠ 0 ∧ ap_ok F B K U (ap_co F B p q r)
/-- bounds of a place -/
def ap_pb (P : ap_P) : Prop := (∀ i, ap_b 29106 (P.1 i)) ∧ 0 < P.2 ∧ P.2 ≤ 2058
def ap_g0 (A : Nat → Int) (P Q : ap_P) : Int := ap_w A P * Q.2 - ap_w A Q * P.2
def ap_gi (i : Nat) (P Q : ap_P) : Int := Q.1 i * P.2 - P.1 i * Q.2
def ap_bt (A : Nat → Int) (P Q : ap_P) : Prop := 0 < ap_g0 A P Q ∨ (ap_g0 A P Q = 0 ∧ (0 < ap_gi 0 P Q ∨ (ap_gi 0 P Q = 0 ∧ (0 < ap_gi 1 P Q ∨ (ap_gi 1 P Q = 0 ∧ 0 < ap_gi 2 P Q)))))
def ap_br (s : Int) (i : Nat) (P Q : ap_P) : Prop := 0 < s * (P.1 i * Q.2 - Q.1 i * P.2)
theorem ap_cr_b {F : Nat → Nat → Int} (hF : ∀ r i, ap_b 7 (F r i)) (q r i : Nat) : ap_b 98 (ap_cr F q r i) :=
  ap_b_le (ap_b_sub (ap_b_mul (hF _ _) (hF _ _)) (ap_b_mul (hF _ _) (hF _ _))) (by decide)
theorem ap_dt_b {F : Nat → Nat → Int} (hF : ∀ r i, ap_b 7 (F r i)) (p q r : Nat) : ap_b 2058 (ap_dt F p q r) :=
  ap_b_le (ap_b_add (ap_b_add (ap_b_mul (hF _ _) (ap_cr_b hF _ _ _)) (ap_b_mul (hF _ _) (ap_cr_b hF _ _ _))) (ap_b_mul (hF _ _) (ap_cr_b hF _ _ _))) (by decide)
theorem ap_tp_b {F : Nat → Nat → Int} {B : Nat → Int} (hF : ∀ r i, ap_b 7 (F r i)) (hB : ∀ r, ap_b 99 (B r)) (p q r i : Nat) : ap_b 29106 (ap_tp F B p q r i) :=
  ap_b_le (ap_b_add (ap_b_add (ap_b_mul (hB _) (ap_cr_b hF _ _ _)) (ap_b_mul (hB _) (ap_cr_b hF _ _ _))) (ap_b_mul (hB _) (ap_cr_b hF _ _ _))) (by decide)
theorem ap_sg_b (d : Int) : ap_b 1 (ap_sg d) := by unfold ap_b ap_sg; split <;> decide
theorem ap_sg_d (d : Int) : ap_sg d * d = (d.natAbs : Int) := by unfold ap_sg; split <;> omega
theorem ap_co_pb {F : Nat → Nat → Int} {B : Nat → Int} (hF : ∀ r i, ap_b 7 (F r i)) (hB : ∀ r, ap_b 99 (B r)) {p q r : Nat} (hd : ap_dt F p q r ≠ 0) : ap_pb (ap_co F B p q r) := by
  refine ⟨fun i => ap_b_le (ap_b_mul (ap_sg_b _) (ap_tp_b hF hB p q r i)) (by decide), ?_, ?_⟩
  · show 0 < ap_sg (ap_dt F p q r) * ap_dt F p q r
    rw [ap_sg_d]; omega
  · show ap_sg (ap_dt F p q r) * ap_dt F p q r ≤ 2058
    have h := ap_dt_b hF p q r
    unfold ap_b at h
    rw [ap_sg_d]; omega
theorem ap_pb_2 {P : ap_P} (h : ap_pb P) : ap_b 2058 P.2 := by unfold ap_b; have := h.2; omega
theorem ap_w_b {A : Nat → Int} {P : ap_P} (hA : ∀ i, ap_b 7 (A i)) (hP : ap_pb P) : ap_b 611226 (ap_w A P) :=
  ap_b_le (ap_b_add (ap_b_add (ap_b_mul (hA _) (hP.1 _)) (ap_b_mul (hA _) (hP.1 _))) (ap_b_mul (hA _) (hP.1 _))) (by decide)
theorem ap_ex_b {F : Nat → Nat → Int} {B : Nat → Int} (hF : ∀ r i, ap_b 7 (F r i)) (hB : ∀ r, ap_b 99 (B r)) {P : ap_P} (hP : ap_pb P) (r : Nat) : ap_b 814968 (ap_ex F B r P) :=
  ap_b_le (ap_b_sub (ap_w_b (A := F r) (hF r) hP) (ap_b_mul (hB r) (ap_pb_2 hP))) (by decide)
theorem ap_g0_b {A : Nat → Int} {P Q : ap_P} (hA : ∀ i, ap_b 7 (A i)) (hP : ap_pb P) (hQ : ap_pb Q) : ap_b 2515806216 (ap_g0 A P Q) :=
  ap_b_le (ap_b_sub (ap_b_mul (ap_w_b hA hP) (ap_pb_2 hQ)) (ap_b_mul (ap_w_b hA hQ) (ap_pb_2 hP))) (by decide)
theorem ap_gi_b {P Q : ap_P} (hP : ap_pb P) (hQ : ap_pb Q) (i : Nat) : ap_b 119800296 (ap_gi i P Q) :=
  ap_b_le (ap_b_sub (ap_b_mul (hQ.1 i) (ap_pb_2 hP)) (ap_b_mul (hP.1 i) (ap_pb_2 hQ))) (by decide)
/-! cyclic rows -/
theorem ap_dt_cy (F : Nat → Nat → Int) (p q r : Nat) : ap_dt F q r p = ap_dt F p q r := by
  unfold ap_dt ap_cr; simp only [Nat.reduceAdd, Nat.reduceMod]; grind
theorem ap_tp_cy (F : Nat → Nat → Int) (B : Nat → Int) (p q r i : Nat) : ap_tp F B q r p i = ap_tp F B p q r i := by
  unfold ap_tp; omega
theorem ap_co_cy (F : Nat → Nat → Int) (B : Nat → Int) (p q r : Nat) : ap_co F B q r p = ap_co F B p q r := by
  unfold ap_co; rw [ap_dt_cy]
  congr 1
  funext i
  rw [ap_tp_cy]
theorem ap_gc_cy {F : Nat → Nat → Int} {B : Nat → Int} {K U : Nat → Int32} {p q r : Nat} : ap_gc F B K U q r p ↔ ap_gc F B K U p q r := by
  unfold ap_gc; rw [ap_dt_cy, ap_co_cy]
  constructor
  · exact fun h => ⟨h.2.2.1, h.1, h.2.1, h.2.2.2⟩
  · exact fun h => ⟨h.2.1, h.2.2.1, h.1, h.2.2.2⟩
/-! order -/
theorem ap_tr {x y z u v w : Int} (hx : 0 < x) (hy : 0 < y) (hz : 0 < z) (e : y * w = z * u + x * v) :
    (0 < u → 0 ≤ v → 0 < w) ∧ (0 ≤ u → 0 < v → 0 < w) ∧ (u = 0 → v = 0 → w = 0) := by
  refine ⟨fun hu hv => ?_, fun hu hv => ?_, fun hu hv => ?_⟩
  · have h1 : 0 < z * u := Int.mul_pos hz hu
    have h2 : 0 ≤ x * v := Int.mul_nonneg (Int.le_of_lt hx) hv
    have h3 : 0 < y * w := by omega
    exact Int.pos_of_mul_pos_right h3 hy
  · have h1 : 0 ≤ z * u := Int.mul_nonneg (Int.le_of_lt hz) hu
    have h2 : 0 < x * v := Int.mul_pos hx hv
    have h3 : 0 < y * w := by omega
    exact Int.pos_of_mul_pos_right h3 hy
  · rw [hu, hv] at e
    rcases Int.mul_eq_zero.mp (show y * w = 0 by omega) with h | h
    · omega
    · exact h
theorem ap_k0 (A : Nat → Int) (P Q R : ap_P) : Q.2 * ap_g0 A P R = R.2 * ap_g0 A P Q + P.2 * ap_g0 A Q R := by
  unfold ap_g0; grind
theorem ap_ki (i : Nat) (P Q R : ap_P) : Q.2 * ap_gi i P R = R.2 * ap_gi i P Q + P.2 * ap_gi i Q R := by
  unfold ap_gi; grind
theorem ap_bt_tr {A : Nat → Int} {P Q R : ap_P} (hP : 0 < P.2) (hQ : 0 < Q.2) (hR : 0 < R.2) (h1 : ap_bt A P Q) (h2 : ap_bt A Q R) : ap_bt A P R := by
  have t0 := ap_tr hP hQ hR (ap_k0 A P Q R)
  have t1 := ap_tr hP hQ hR (ap_ki 0 P Q R)
  have t2 := ap_tr hP hQ hR (ap_ki 1 P Q R)
  have t3 := ap_tr hP hQ hR (ap_ki 2 P Q R)
  unfold ap_bt at *
  generalize ap_g0 A P Q = a0 at *
  generalize ap_g0 A Q R = b0 at *
  generalize ap_g0 A P R = c0 at *
  generalize ap_gi 0 P Q = a1 at *
  generalize ap_gi 0 Q R = b1 at *
  generalize ap_gi 0 P R = c1 at *
  generalize ap_gi 1 P Q = a2 at *
  generalize ap_gi 1 Q R = b2 at *
  generalize ap_gi 1 P R = c2 at *
  generalize ap_gi 2 P Q = a3 at *
  generalize ap_gi 2 Q R = b3 at *
  generalize ap_gi 2 P R = c3 at *
  obtain ⟨u0, v0, w0⟩ := t0
  obtain ⟨u1, v1, w1⟩ := t1
  obtain ⟨u2, v2, w2⟩ := t2
  obtain ⟨u3, v3, w3⟩ := t3
  rcases h1 with h1 | ⟨z1, h1⟩
  · rcases h2 with h2 | ⟨z2, h2⟩
    · exact Or.inl (u0 h1 (by omega))
    · exact Or.inl (u0 h1 (by omega))
  · rcases h2 with h2 | ⟨z2, h2⟩
    · exact Or.inl (v0 (by omega) h2)
    · refine Or.inr ⟨w0 z1 z2, ?_⟩
      rcases h1 with h1 | ⟨z1, h1⟩
      · rcases h2 with h2 | ⟨z2, h2⟩
        · exact Or.inl (u1 h1 (by omega))
        · exact Or.inl (u1 h1 (by omega))
      · rcases h2 with h2 | ⟨z2, h2⟩
        · exact Or.inl (v1 (by omega) h2)
        · refine Or.inr ⟨w1 z1 z2, ?_⟩
          rcases h1 with h1 | ⟨z1, h1⟩
          · rcases h2 with h2 | ⟨z2, h2⟩
            · exact Or.inl (u2 h1 (by omega))
            · exact Or.inl (u2 h1 (by omega))
          · rcases h2 with h2 | ⟨z2, h2⟩
            · exact Or.inl (v2 (by omega) h2)
            · exact Or.inr ⟨w2 z1 z2, u3 h1 (by omega)⟩
theorem ap_g0_sw (A : Nat → Int) (P Q : ap_P) : ap_g0 A Q P = - ap_g0 A P Q := by unfold ap_g0; omega
theorem ap_gi_sw (i : Nat) (P Q : ap_P) : ap_gi i Q P = - ap_gi i P Q := by unfold ap_gi; omega
theorem ap_bt_ir (A : Nat → Int) (P : ap_P) : ¬ ap_bt A P P := by
  have h0 := ap_g0_sw A P P
  have h1 := ap_gi_sw 0 P P
  have h2 := ap_gi_sw 1 P P
  have h3 := ap_gi_sw 2 P P
  unfold ap_bt; omega
theorem ap_bt_an {A : Nat → Int} {P Q : ap_P} (h : ¬ ap_bt A P Q) (h' : ¬ ap_bt A Q P) : ap_g0 A P Q = 0 ∧ ∀ i, i < 3 → ap_gi i P Q = 0 := by
  have h0 := ap_g0_sw A P Q
  have h1 := ap_gi_sw 0 P Q
  have h2 := ap_gi_sw 1 P Q
  have h3 := ap_gi_sw 2 P Q
  unfold ap_bt at h h'
  refine ⟨by omega, ap_lt3 (by omega) (by omega) (by omega)⟩
theorem ap_bt_g0 {A : Nat → Int} {P Q : ap_P} (h : ¬ ap_bt A P Q) : ap_g0 A P Q ≤ 0 := by
  unfold ap_bt at h; omega
theorem ap_br_tr {s : Int} {i : Nat} {P Q R : ap_P} (hP : 0 < P.2) (hQ : 0 < Q.2) (hR : 0 < R.2) (h1 : ap_br s i P Q) (h2 : ap_br s i Q R) : ap_br s i P R := by
  unfold ap_br at *
  exact (ap_tr (u := s * (P.1 i * Q.2 - Q.1 i * P.2)) (v := s * (Q.1 i * R.2 - R.1 i * Q.2)) hP hQ hR (by grind)).1 h1 (Int.le_of_lt h2)
theorem ap_br_ir (s : Int) (i : Nat) (P : ap_P) : ¬ ap_br s i P P := by
  unfold ap_br; rw [Int.sub_self, Int.mul_zero]; omega
/-! the first best of a set -/
def ap_inv (bt : ap_P → ap_P → Prop) (S : ap_P → Prop) (m : Nat) (k : ap_P) : Prop := (m = 0 → ∀ c, ¬ S c) ∧ (m ≠ 0 → S k ∧ ∀ c, S c → ¬ bt c k)
theorem ap_inv_cg {bt : ap_P → ap_P → Prop} {S S' : ap_P → Prop} {m : Nat} {k : ap_P} (h : ∀ c, S' c ↔ S c) (i : ap_inv bt S m k) : ap_inv bt S' m k :=
  ⟨fun z c hc => i.1 z c ((h c).mp hc), fun z => ⟨(h k).mpr (i.2 z).1, fun c hc => (i.2 z).2 c ((h c).mp hc)⟩⟩
theorem ap_inv_new {bt : ap_P → ap_P → Prop} {S S' : ap_P → Prop} {m m' : Nat} {k p : ap_P} (i : ap_inv bt S m k) (h : ∀ c, S' c ↔ S c ∨ c = p) (hm : m' ≠ 0)
    (hir : ¬ bt p p) (hT : ∀ c, S c → S k → bt c p → bt p k → bt c k) (hb : m = 0 ∨ bt p k) : ap_inv bt S' m' p := by
  refine ⟨fun z => absurd z hm, fun _ => ⟨(h p).mpr (Or.inr rfl), fun c hc => ?_⟩⟩
  rcases (h c).mp hc with hc | rfl
  · by_cases z : m = 0
    · exact absurd hc (i.1 z c)
    · intro hcp
      obtain ⟨hk, hall⟩ := i.2 z
      exact hall c hc (hT c hc hk hcp (hb.resolve_left z))
  · exact hir
theorem ap_inv_keep {bt : ap_P → ap_P → Prop} {S S' : ap_P → Prop} {m m' : Nat} {k p : ap_P} (i : ap_inv bt S m k) (h : ∀ c, S' c ↔ S c ∨ c = p) (hm : m ≠ 0) (hm' : m' ≠ 0)
    (hb : ¬ bt p k) : ap_inv bt S' m' k := by
  obtain ⟨hk, hall⟩ := i.2 hm
  refine ⟨fun z => absurd z hm', fun _ => ⟨(h k).mpr (Or.inl hk), fun c hc => ?_⟩⟩
  rcases (h c).mp hc with hc | rfl
  · exact hall c hc
  · exact hb
/-! lowest terms -/
theorem ap_low {T T' : Int} {b b' : Nat} (hb : 0 < b) (hb' : 0 < b') (e : T * (b' : Int) = T' * (b : Int)) :
    T.tdiv (Nat.gcd T.natAbs b : Nat) = T'.tdiv (Nat.gcd T'.natAbs b' : Nat) ∧ b / Nat.gcd T.natAbs b = b' / Nat.gcd T'.natAbs b' := by
  have en : T.natAbs * b' = T'.natAbs * b := by
    have := congrArg Int.natAbs e
    rw [Int.natAbs_mul, Int.natAbs_mul, Int.natAbs_natCast, Int.natAbs_natCast] at this
    exact this
  have eg : Nat.gcd T.natAbs b * b' = Nat.gcd T'.natAbs b' * b := by
    rw [← Nat.gcd_mul_right, ← Nat.gcd_mul_right, en, Nat.mul_comm b b']
  have g0 : 0 < Nat.gcd T.natAbs b := Nat.gcd_pos_of_pos_right _ hb
  have g0' : 0 < Nat.gcd T'.natAbs b' := Nat.gcd_pos_of_pos_right _ hb'
  have d1 : ((Nat.gcd T.natAbs b : Nat) : Int) ∣ T := Int.ofNat_dvd_left.mpr (Nat.gcd_dvd_left _ _)
  have d1' : ((Nat.gcd T'.natAbs b' : Nat) : Int) ∣ T' := Int.ofNat_dvd_left.mpr (Nat.gcd_dvd_left _ _)
  have d2 : Nat.gcd T.natAbs b ∣ b := Nat.gcd_dvd_right _ _
  have d2' : Nat.gcd T'.natAbs b' ∣ b' := Nat.gcd_dvd_right _ _
  generalize Nat.gcd T.natAbs b = g at *
  generalize Nat.gcd T'.natAbs b' = g' at *
  obtain ⟨s, hs⟩ := d1
  obtain ⟨s', hs'⟩ := d1'
  obtain ⟨t, ht⟩ := d2
  obtain ⟨t', ht'⟩ := d2'
  have egi : (g : Int) * (b' : Int) = (g' : Int) * (b : Int) := by
    exact_mod_cast eg
  refine ⟨?_, ?_⟩
  · rw [hs, hs', Int.mul_tdiv_cancel_left _ (by omega), Int.mul_tdiv_cancel_left _ (by omega)]
    rw [hs, hs'] at e
    have e2 : (g : Int) * (b' : Int) * s = (g : Int) * (b' : Int) * s' := by
      have a1 : (g : Int) * (b' : Int) * s = (g : Int) * s * (b' : Int) := by grind
      have a2 : (g : Int) * (b' : Int) * s' = (g' : Int) * s' * (b : Int) := by rw [egi]; grind
      rw [a1, a2, e]
    refine Int.eq_of_mul_eq_mul_left (a := (g : Int) * (b' : Int)) ?_ e2
    have : 0 < (g : Int) * (b' : Int) := Int.mul_pos (by omega) (by omega)
    omega
  · rw [ht, ht', Nat.mul_div_cancel_left _ g0, Nat.mul_div_cancel_left _ g0']
    rw [ht, ht'] at eg
    have e3 : g * g' * t' = g * g' * t := by
      have a1 : g * g' * t' = g * (g' * t') := by grind
      have a2 : g * g' * t = g' * (g * t) := by grind
      rw [a1, a2, eg]
    exact (Nat.eq_of_mul_eq_mul_left (Nat.mul_pos g0 g0') e3).symm
/-! sums -/
def ap_sm (f : Nat → Nat) : Nat → Nat
  | 0 => 0
  | n + 1 => ap_sm f n + f n
theorem ap_sm_cg {f g : Nat → Nat} {n : Nat} (h : ∀ i, i < n → f i = g i) : ap_sm f n = ap_sm g n := by
  induction n with
  | zero => rfl
  | succ n ih => show ap_sm f n + f n = ap_sm g n + g n; rw [ih (fun i hi => h i (by omega)), h n (by omega)]
theorem ap_sm_le {f : Nat → Nat} {c n : Nat} (h : ∀ i, f i ≤ c) : ap_sm f n ≤ n * c := by
  induction n with
  | zero => exact Nat.zero_le _
  | succ n ih => show ap_sm f n + f n ≤ _; rw [Nat.succ_mul]; exact Nat.add_le_add ih (h n)
theorem ap_sm_add (f g : Nat → Nat) (n : Nat) : ap_sm (fun i => f i + g i) n = ap_sm f n + ap_sm g n := by
  induction n with
  | zero => rfl
  | succ n ih => show ap_sm _ n + (f n + g n) = (ap_sm f n + f n) + (ap_sm g n + g n); rw [ih]; omega
theorem ap_sm_0 (n : Nat) : ap_sm (fun _ => 0) n = 0 := by
  induction n with
  | zero => rfl
  | succ n ih => show ap_sm _ n + 0 = 0; rw [ih]
theorem ap_sm_sw (f : Nat → Nat → Nat) (m n : Nat) : ap_sm (fun a => ap_sm (fun b => f a b) n) m = ap_sm (fun b => ap_sm (fun a => f a b) m) n := by
  induction m with
  | zero => exact (ap_sm_0 n).symm
  | succ m ih =>
    show ap_sm (fun a => ap_sm (fun b => f a b) n) m + ap_sm (fun b => f m b) n = ap_sm (fun b => ap_sm (fun a => f a b) m + f m b) n
    rw [ih, ap_sm_add]
theorem ap_sm_app (f : Nat → Nat) (m n : Nat) : ap_sm f (m + n) = ap_sm f m + ap_sm (fun i => f (m + i)) n := by
  induction n with
  | zero => rfl
  | succ n ih => show ap_sm f (m + n) + f (m + n) = ap_sm f m + (ap_sm (fun i => f (m + i)) n + f (m + n)); rw [ih]; omega
theorem ap_sm_mul (f : Nat → Nat) (m n : Nat) : ap_sm f (m * n) = ap_sm (fun j => ap_sm (fun i => f (j * n + i)) n) m := by
  induction m with
  | zero => rw [Nat.zero_mul]; rfl
  | succ m ih =>
    rw [Nat.succ_mul, ap_sm_app, ih]; rfl
theorem ap_sm_3 (f : Nat → Nat → Nat → Nat) : ap_sm (fun c => f (c % 21) (c / 21 % 21) (c / 441)) 9261 = ap_sm (fun a => ap_sm (fun b => ap_sm (fun c => f a b c) 21) 21) 21 := by
  have e1 : ap_sm (fun c => f (c % 21) (c / 21 % 21) (c / 441)) 9261 = ap_sm (fun z => ap_sm (fun y => ap_sm (fun x => f x y z) 21) 21) 21 := by
    rw [show (9261 : Nat) = 21 * 441 from rfl, ap_sm_mul]
    apply ap_sm_cg
    intro z hz
    rw [show (441 : Nat) = 21 * 21 from rfl, ap_sm_mul]
    apply ap_sm_cg
    intro y hy
    apply ap_sm_cg
    intro x hx
    have a1 : (z * (21 * 21) + (y * 21 + x)) % 21 = x := by omega
    have a2 : (z * (21 * 21) + (y * 21 + x)) / 21 % 21 = y := by omega
    have a3 : (z * (21 * 21) + (y * 21 + x)) / (21 * 21) = z := by omega
    rw [a1, a2, a3]
  rw [e1, ap_sm_sw]
  have e2 : ∀ y, ap_sm (fun z => ap_sm (fun x => f x y z) 21) 21 = ap_sm (fun x => ap_sm (fun z => f x y z) 21) 21 := fun y => ap_sm_sw (fun z x => f x y z) 21 21
  rw [ap_sm_cg (fun y _ => e2 y), ap_sm_sw]
