/-! the component's search -/
section
variable {pB kB pm : Int32} {fa ki bo us go ai pt kt : Nat → Int32}
theorem ax_cd {post : Int64 → Prop} {a c x y : Int} (ha : ap_b 2147483647 a) (hc : ap_b 2147483647 c) (hx : ap_b 2147483647 x) (hy : ap_b 2147483647 y)
    (h : post (ap_l (a * y - c * x))) : wpX_crossDifference post (ap_i x, ap_i y, pm, fa, ki, bo, us, go, ai, pt, kt) (ap_i a) (ap_i c) := by
  show post ((ap_i a).toInt64 * (ap_i y).toInt64 - (ap_i c).toInt64 * (ap_i x).toInt64)
  rw [ap_i_l ha, ap_i_l hc, ap_i_l hx, ap_i_l hy, ap_l_mul, ap_l_mul, ap_l_sub]
  exact h
theorem ax_pib46 {post : Int32 → Prop} {P Q : ap_P} {i n : Nat} (hi : i < 3) (hP : ap_pb P) (hQ : ap_pb Q)
    (hpt : ∀ i, i < 3 → pt i = ap_i (P.1 i)) (hkt : ∀ i, i < 3 → kt i = ap_i (Q.1 i))
    (h1 : 0 < ap_gi i P Q → post 1) (h0 : ap_gi i P Q < 0 → post 0)
    (h : ap_gi i P Q = 0 → wX_placeIsBetter_46 post (ap_i P.2) (ap_i Q.2) pm fa ki bo us go ai pt kt n (nI (i + 1))) :
    wX_placeIsBetter_46 post (ap_i P.2) (ap_i Q.2) pm fa ki bo us go ai pt kt (n + 1) (nI i) := by
  refine br_f (ap_l3 i hi) ⟨ap_in hi (by decide), ap_in hi (by decide), ?_⟩
  rw [ap_cl (by omega), hpt i hi, hkt i hi]
  have k1 : 29106 ≤ 2147483647 := by decide
  have k2 : 2058 ≤ 2147483647 := by decide
  refine ax_cd (ap_b_le (hP.1 i) k1) (ap_b_le (hQ.1 i) k1) (ap_b_le (ap_pb_2 hP) k2) (ap_b_le (ap_pb_2 hQ) k2) ?_
  have e : P.1 i * Q.2 - Q.1 i * P.2 = - ap_gi i P Q := by unfold ap_gi; omega
  rw [e]
  have hb := ap_b_neg (ap_b_le (ap_gi_b hP hQ i) (show 119800296 ≤ 9000000000000000000 by decide))
  refine br_c (fun z => nm_r (nI_1 i) (h ?_)) (fun z => br_c (fun y => h0 ?_) (fun y => h1 ?_))
  · rw [ap_l_eq0 hb] at z; omega
  · rw [ap_l_eq0 hb] at z; rw [ap_l_0le hb] at y; omega
  · rw [ap_l_eq0 hb] at z; rw [ap_l_0le hb] at y; omega
theorem ax_placeIsBetter {post : Int32 → Prop} {A : Nat → Int} {P Q : ap_P} (hA : ∀ i, ap_b 7 (A i)) (hP : ap_pb P) (hQ : ap_pb Q)
    (hai : ∀ i, i < 3 → ai i = ap_i (A i)) (hpt : ∀ i, i < 3 → pt i = ap_i (P.1 i)) (hkt : ∀ i, i < 3 → kt i = ap_i (Q.1 i))
    (h1 : ap_bt A P Q → post 1) (h0 : ¬ ap_bt A P Q → post 0) : wpX_placeIsBetter post (ap_i P.2, ap_i Q.2, pm, fa, ki, bo, us, go, ai, pt, kt) := by
  unfold ap_bt at h1 h0
  refine ax_aiP hai hpt (ax_aiK hai hkt ?_)
  have k1 : 611226 ≤ 2147483647 := by decide
  have k2 : 2058 ≤ 2147483647 := by decide
  refine ax_cd (ap_b_le (ap_w_b hA hP) k1) (ap_b_le (ap_w_b hA hQ) k1) (ap_b_le (ap_pb_2 hP) k2) (ap_b_le (ap_pb_2 hQ) k2) ?_
  have hb := ap_b_le (ap_g0_b hA hP hQ) (show 2515806216 ≤ 9000000000000000000 by decide)
  have e : ap_w A P * Q.2 - ap_w A Q * P.2 = ap_g0 A P Q := rfl
  rw [e]
  refine br_c (fun z => ?_) (fun z => br_c (fun y => h0 ?_) (fun y => h1 ?_))
  · rw [ap_l_eq0 hb] at z
    refine ⟨4, ax_pib46 (i := 0) (by decide) hP hQ hpt hkt (fun a => h1 (by omega)) (fun a => h0 (by omega)) (fun a0 => ?_)⟩
    refine ax_pib46 (i := 1) (by decide) hP hQ hpt hkt (fun a => h1 (by omega)) (fun a => h0 (by omega)) (fun a1 => ?_)
    refine ax_pib46 (i := 2) (by decide) hP hQ hpt hkt (fun a => h1 (by omega)) (fun a => h0 (by omega)) (fun a2 => ?_)
    exact br_t ap_g3 (h0 (by omega))
  · rw [ap_l_eq0 hb] at z; rw [ap_l_le0 hb] at y; omega
  · rw [ap_l_eq0 hb] at z; rw [ap_l_le0 hb] at y; omega
theorem ax_kp2 {post : SX → Prop} {i n : Nat} (hi : i < 3) (h : wX_keepPlace_2 post pB kB pm n (nI (i + 1)) fa ki bo us go ai pt (upd kt i (pt i))) :
    wX_keepPlace_2 post pB kB pm (n + 1) (nI i) fa ki bo us go ai pt kt := by
  refine br_f (ap_l3 i hi) ⟨ap_in hi (by decide), ap_in hi (by decide), nm_r ?_ (nm_r (nI_1 i) h)⟩
  rw [ap_cl (by omega)]
theorem ax_keepPlace {post : SX → Prop} (h : ∀ kt' : Nat → Int32, (∀ i, i < 3 → kt' i = pt i) → post (pB, pB, pm, fa, ki, bo, us, go, ai, pt, kt')) : wpX_keepPlace post (pB, kB, pm, fa, ki, bo, us, go, ai, pt, kt) := by
  refine ⟨4, ax_kp2 (i := 0) (by decide) (ax_kp2 (i := 1) (by decide) (ax_kp2 (i := 2) (by decide) (br_t ap_g3 (h _ ?_))))⟩
  exact ap_lt3 (by rw [pk_un (by decide), pk_un (by decide), pk_us]) (by rw [pk_un (by decide), pk_us]) (by rw [pk_us])
theorem ax_consider {post : SX → Prop} {A : Nat → Int} {P Q : ap_P} {m : Nat} (hF : ∀ r i, ap_b 7 (ap_F fa r i)) (hB : ∀ r, ap_b 99 (ap_B bo r)) (hA : ∀ i, ap_b 7 (A i)) (hP : ap_pb P)
    (hai : ∀ i, i < 3 → ai i = ap_i (A i)) (hpt : ∀ i, i < 3 → pt i = ap_i (P.1 i)) (hm : m < 1000000)
    (hQ : m ≠ 0 → ap_pb Q ∧ (∀ i, i < 3 → kt i = ap_i (Q.1 i)) ∧ kB = ap_i Q.2)
    (h0 : ¬ ap_ok (ap_F fa) (ap_B bo) ki us P → post (ap_i P.2, kB, nI m, fa, ki, bo, us, go, ai, pt, kt))
    (h1 : ap_ok (ap_F fa) (ap_B bo) ki us P → (m = 0 ∨ ap_bt A P Q) → ∀ kt' : Nat → Int32, (∀ i, i < 3 → kt' i = ap_i (P.1 i)) → post (ap_i P.2, ap_i P.2, nI (m + 1), fa, ki, bo, us, go, ai, pt, kt'))
    (h2 : ap_ok (ap_F fa) (ap_B bo) ki us P → m ≠ 0 → ¬ ap_bt A P Q → post (ap_i P.2, kB, nI (m + 1), fa, ki, bo, us, go, ai, pt, kt)) :
    wpX_consider post (ap_i P.2, kB, nI m, fa, ki, bo, us, go, ai, pt, kt) := by
  have kk : ap_ok (ap_F fa) (ap_B bo) ki us P → (m = 0 ∨ ap_bt A P Q) → wX_consider_22 post (ap_i P.2) kB (nI m) fa ki bo us go ai pt kt := by
    intro ho hb
    refine ax_keepPlace (fun kt' hk => nm_r (nI_1 m) (h1 ho hb kt' (fun i hi => ?_)))
    rw [hk i hi, hpt i hi]
  refine ax_placeMeetsAll hF hB hP hpt (fun ho => br_f (by decide) ?_) (fun ho => br_t rfl (h0 ho))
  refine br_c (fun z => kk ho (Or.inl ?_)) (fun z => ?_)
  · rw [ap_i_n, ap_i_eq0 (ap_b_n (by omega))] at z; omega
  · have z' : m ≠ 0 := by intro y; subst y; exact z rfl
    obtain ⟨q1, q2, q3⟩ := hQ z'
    subst q3
    exact ax_placeIsBetter hA hP q1 hai hpt q2 (fun b => br_f (by decide) (kk ho (Or.inr b))) (fun b => br_t rfl (nm_r (nI_1 m) (h2 ho z' b)))
/-! all corners -/
def ap_S (F : Nat → Nat → Int) (B : Nat → Int) (K U : Nat → Int32) (p q r : Nat) (P : ap_P) : Prop :=
  ∃ p' q' r', p' < q' ∧ q' < r' ∧ r' < 11 ∧ (p' < p ∨ (p' = p ∧ (q' < q ∨ (q' = q ∧ r' < r)))) ∧ ap_gc F B K U p' q' r' ∧ P = ap_co F B p' q' r'
def ap_C (F : Nat → Nat → Int) (B : Nat → Int) (K U : Nat → Int32) (P : ap_P) : Prop :=
  ∃ p q r, p < q ∧ q < r ∧ r < 11 ∧ ap_gc F B K U p q r ∧ P = ap_co F B p q r
def ax_SI (A : Nat → Int) (fa ki bo us : Nat → Int32) (S : ap_P → Prop) (N : Nat) (kB pm : Int32) (kt : Nat → Int32) : Prop :=
  ∃ (m : Nat) (Q : ap_P), pm = nI m ∧ m ≤ N ∧ ap_inv (ap_bt A) S m Q ∧ (m ≠ 0 → ap_pb Q ∧ (∀ i, i < 3 → kt i = ap_i (Q.1 i)) ∧ kB = ap_i Q.2)
theorem ax_SI_cg {A : Nat → Int} {S S' : ap_P → Prop} {N N' : Nat} (h : ∀ c, S' c ↔ S c) (hN : N ≤ N') (i : ax_SI A fa ki bo us S N kB pm kt) : ax_SI A fa ki bo us S' N' kB pm kt := by
  obtain ⟨m, Q, h1, h2, h3, h4⟩ := i
  exact ⟨m, Q, h1, by omega, ap_inv_cg h h3, h4⟩
theorem ax_step {post : SX → Prop} {A : Nat → Int} {P : ap_P} {S S' : ap_P → Prop} {N : Nat} (hF : ∀ r i, ap_b 7 (ap_F fa r i)) (hB : ∀ r, ap_b 99 (ap_B bo r)) (hA : ∀ i, ap_b 7 (A i)) (hP : ap_pb P)
    (hai : ∀ i, i < 3 → ai i = ap_i (A i)) (hpt : ∀ i, i < 3 → pt i = ap_i (P.1 i)) (hN : N < 900000) (hS : ∀ c, S c → 0 < c.2)
    (i : ax_SI A fa ki bo us S N kB pm kt)
    (hS' : ∀ c, S' c ↔ S c ∨ (ap_ok (ap_F fa) (ap_B bo) ki us P ∧ c = P))
    (h : ∀ kB' pm' kt', ax_SI A fa ki bo us S' (N + 1) kB' pm' kt' → post (ap_i P.2, kB', pm', fa, ki, bo, us, go, ai, pt, kt')) :
    wpX_consider post (ap_i P.2, kB, pm, fa, ki, bo, us, go, ai, pt, kt) := by
  obtain ⟨m, Q, rfl, h2, h3, h4⟩ := i
  refine ax_consider (Q := Q) hF hB hA hP hai hpt (by omega) h4 (fun ho => h _ _ _ ?_) (fun ho hb kt' hk => h _ _ _ ?_) (fun ho z hb => h _ _ _ ?_)
  · exact ⟨m, Q, rfl, by omega, ap_inv_cg (fun c => (hS' c).trans ⟨fun x => x.resolve_right (fun y => ho y.1), Or.inl⟩) h3, h4⟩
  · refine ⟨m + 1, P, rfl, by omega, ap_inv_new h3 (fun c => (hS' c).trans ⟨fun x => x.imp id And.right, fun x => x.imp id (fun y => ⟨ho, y⟩)⟩) (by omega) (ap_bt_ir A P) ?_ hb, fun _ => ⟨hP, hk, rfl⟩⟩
    exact fun c hc hk x y => ap_bt_tr (hS c hc) hP.2.1 (hS Q hk) x y
  · refine ⟨m + 1, Q, rfl, by omega, ap_inv_keep h3 (fun c => (hS' c).trans ⟨fun x => x.imp id And.right, fun x => x.imp id (fun y => ⟨ho, y⟩)⟩) z (by omega) hb, fun _ => h4 z⟩
theorem ap_S_pos {F : Nat → Nat → Int} {B : Nat → Int} {K U : Nat → Int32} {p q r : Nat} {P : ap_P} (hF : ∀ r i, ap_b 7 (F r i)) (hB : ∀ r, ap_b 99 (B r)) (h : ap_S F B K U p q r P) : ap_pb P := by
  obtain ⟨p', q', r', _, _, _, _, h5, rfl⟩ := h
  exact ap_co_pb hF hB h5.2.2.2.1
theorem ap_S_no {F : Nat → Nat → Int} {B : Nat → Int} {K U : Nat → Int32} {p q r : Nat} (hg : ¬ ap_gc F B K U p q r) (c : ap_P) : ap_S F B K U p q (r + 1) c ↔ ap_S F B K U p q r c := by
  constructor
  · rintro ⟨p', q', r', h1, h2, h3, h4, h5, h6⟩
    refine ⟨p', q', r', h1, h2, h3, ?_, h5, h6⟩
    rcases Decidable.em (p' = p ∧ q' = q ∧ r' = r) with ⟨rfl, rfl, rfl⟩ | hn
    · exact absurd h5 hg
    · omega
  · rintro ⟨p', q', r', h1, h2, h3, h4, h5, h6⟩
    exact ⟨p', q', r', h1, h2, h3, by omega, h5, h6⟩
theorem ap_S_yes {F : Nat → Nat → Int} {B : Nat → Int} {K U : Nat → Int32} {p q r : Nat} (hpq : p < q) (hqr : q < r) (hr : r < 11) (hp : ¬ U p = 0) (hq : ¬ U q = 0) (hr' : ¬ U r = 0) (hd : ap_dt F p q r ≠ 0) (c : ap_P) :
    ap_S F B K U p q (r + 1) c ↔ ap_S F B K U p q r c ∨ (ap_ok F B K U (ap_co F B p q r) ∧ c = ap_co F B p q r) := by
  constructor
  · rintro ⟨p', q', r', h1, h2, h3, h4, h5, h6⟩
    rcases Decidable.em (p' = p ∧ q' = q ∧ r' = r) with ⟨rfl, rfl, rfl⟩ | hn
    · exact Or.inr ⟨h5.2.2.2.2, h6⟩
    · exact Or.inl ⟨p', q', r', h1, h2, h3, by omega, h5, h6⟩
  · rintro (⟨p', q', r', h1, h2, h3, h4, h5, h6⟩ | ⟨ho, rfl⟩)
    · exact ⟨p', q', r', h1, h2, h3, by omega, h5, h6⟩
    · exact ⟨p, q, r, hpq, hqr, hr, by omega, ⟨hp, hq, hr', hd, ho⟩, rfl⟩
theorem ax_sc27 {post : Int32 → SX → Prop} {J7 J17 : Int32 → Int32 → Int32 → Int32 → (Nat → Int32) → (Nat → Int32) → (Nat → Int32) → (Nat → Int32) → (Nat → Int32) → (Nat → Int32) → (Nat → Int32) → (Nat → Int32) → Prop} {A : Nat → Int} {p q : Nat}
    (hF : ∀ r i, ap_b 7 (ap_F fa r i)) (hB : ∀ r, ap_b 99 (ap_B bo r)) (hA : ∀ i, ap_b 7 (A i)) (hai : ∀ i, i < 3 → ai i = ap_i (A i)) (hpq : p < q) (hq : q < 11)
    (hJ : ∀ (pB kB pm : Int32) (pt kt : Nat → Int32), ax_SI A fa ki bo us (ap_S (ap_F fa) (ap_B bo) ki us p q 11) (121 * p + 11 * q + 11) kB pm kt → J17 (nI (q + 1)) pB kB pm fa ki bo us go ai pt kt) :
    ∀ (d r : Nat) (pB kB pm : Int32) (pt kt : Nat → Int32), r + d = 11 → q < r → ax_SI A fa ki bo us (ap_S (ap_F fa) (ap_B bo) ki us p q r) (121 * p + 11 * q + r) kB pm kt → wX_searchCorners_27 post J7 J17 (nI p) (nI q) (d + 1) (nI r) pB kB pm fa ki bo us go ai pt kt := by
  intro d
  induction d with
  | zero =>
    intro r pB kB pm pt kt hr hqr hi
    have : r = 11 := by omega
    subst this
    exact br_t ap_g11 (nm_r (nI_1 q) (hJ _ _ _ _ _ hi))
  | succ d ih =>
    intro r pB kB pm pt kt hr hqr hi
    have hr' : r < 11 := by omega
    have skip : ∀ (pB : Int32) (pt : Nat → Int32), ¬ ap_gc (ap_F fa) (ap_B bo) ki us p q r → wX_searchCorners_27 post J7 J17 (nI p) (nI q) (d + 1) (nI (r + 1)) pB kB pm fa ki bo us go ai pt kt :=
      fun pB pt hg => ih (r + 1) _ _ _ _ _ (by omega) (by omega) (ax_SI_cg (ap_S_no hg) (by omega) hi)
    refine br_f (ap_l11 r hr') ⟨ap_in (by omega) (by decide), ?_⟩
    rw [ap_cl (by omega)]
    refine br_c (fun z => nm_r (nI_1 r) (skip _ _ (fun g => g.1 z))) (fun z1 => ⟨ap_in (by omega) (by decide), ?_⟩)
    rw [ap_cl (by omega)]
    refine br_c (fun z => nm_r (nI_1 r) (skip _ _ (fun g => g.2.1 z))) (fun z2 => ⟨ap_in (by omega) (by decide), ?_⟩)
    rw [ap_cl (by omega)]
    refine br_c (fun z => nm_r (nI_1 r) (skip _ _ (fun g => g.2.2.1 z))) (fun z3 => ?_)
    refine ax_placeAtCorner hF (by omega) hq hr' (fun z => br_t rfl (nm_r (nI_1 r) (skip _ _ (fun g => g.2.2.2.1 z)))) (fun z pt' hpt => br_f (by decide) ?_)
    refine ax_step hF hB hA (ap_co_pb hF hB z) hai hpt (by omega) (fun c hc => (ap_S_pos hF hB hc).2.1) hi (ap_S_yes hpq hqr hr' z1 z2 z3 z) (fun kB' pm' kt' hi' => nm_r (nI_1 r) ?_)
    exact ih (r + 1) _ _ _ _ _ (by omega) (by omega) hi'
theorem ap_S_a {F : Nat → Nat → Int} {B : Nat → Int} {K U : Nat → Int32} {p q : Nat} (c : ap_P) : ap_S F B K U p q (q + 1) c ↔ ap_S F B K U p q 0 c := by
  constructor <;> rintro ⟨p', q', r', h1, h2, h3, h4, h5, h6⟩ <;> exact ⟨p', q', r', h1, h2, h3, by omega, h5, h6⟩
theorem ap_S_b {F : Nat → Nat → Int} {B : Nat → Int} {K U : Nat → Int32} {p q : Nat} (c : ap_P) : ap_S F B K U p (q + 1) 0 c ↔ ap_S F B K U p q 11 c := by
  constructor <;> rintro ⟨p', q', r', h1, h2, h3, h4, h5, h6⟩ <;> exact ⟨p', q', r', h1, h2, h3, by omega, h5, h6⟩
theorem ap_S_c {F : Nat → Nat → Int} {B : Nat → Int} {K U : Nat → Int32} {p : Nat} (c : ap_P) : ap_S F B K U (p + 1) 0 0 c ↔ ap_S F B K U p 11 0 c := by
  constructor <;> rintro ⟨p', q', r', h1, h2, h3, h4, h5, h6⟩ <;> exact ⟨p', q', r', h1, h2, h3, by omega, h5, h6⟩
theorem ap_S_d {F : Nat → Nat → Int} {B : Nat → Int} {K U : Nat → Int32} {p : Nat} (c : ap_P) : ap_S F B K U p (p + 1) 0 c ↔ ap_S F B K U p 0 0 c := by
  constructor <;> rintro ⟨p', q', r', h1, h2, h3, h4, h5, h6⟩ <;> exact ⟨p', q', r', h1, h2, h3, by omega, h5, h6⟩
theorem ap_S_e {F : Nat → Nat → Int} {B : Nat → Int} {K U : Nat → Int32} (c : ap_P) : ap_S F B K U 11 0 0 c ↔ ap_C F B K U c := by
  constructor
  · rintro ⟨p', q', r', h1, h2, h3, h4, h5, h6⟩; exact ⟨p', q', r', h1, h2, h3, h5, h6⟩
  · rintro ⟨p', q', r', h1, h2, h3, h5, h6⟩; exact ⟨p', q', r', h1, h2, h3, by omega, h5, h6⟩
theorem ax_sc17 {post : Int32 → SX → Prop} {J7 : Int32 → Int32 → Int32 → Int32 → (Nat → Int32) → (Nat → Int32) → (Nat → Int32) → (Nat → Int32) → (Nat → Int32) → (Nat → Int32) → (Nat → Int32) → (Nat → Int32) → Prop} {A : Nat → Int} {p : Nat}
    (hF : ∀ r i, ap_b 7 (ap_F fa r i)) (hB : ∀ r, ap_b 99 (ap_B bo r)) (hA : ∀ i, ap_b 7 (A i)) (hai : ∀ i, i < 3 → ai i = ap_i (A i)) (hp : p < 11)
    (hJ : ∀ (pB kB pm : Int32) (pt kt : Nat → Int32), ax_SI A fa ki bo us (ap_S (ap_F fa) (ap_B bo) ki us p 11 0) (121 * p + 11 * 11) kB pm kt → J7 (nI (p + 1)) pB kB pm fa ki bo us go ai pt kt) :
    ∀ (d q : Nat) (pB kB pm : Int32) (pt kt : Nat → Int32), q + d = 11 → p < q → ax_SI A fa ki bo us (ap_S (ap_F fa) (ap_B bo) ki us p q 0) (121 * p + 11 * q) kB pm kt → wX_searchCorners_17 post J7 (nI p) (d + 1) (nI q) pB kB pm fa ki bo us go ai pt kt := by
  intro d
  induction d with
  | zero =>
    intro q pB kB pm pt kt hq hpq hi
    have : q = 11 := by omega
    subst this
    exact br_t ap_g11 (nm_r (nI_1 p) (hJ _ _ _ _ _ hi))
  | succ d ih =>
    intro q pB kB pm pt kt hq hpq hi
    have hq' : q < 11 := by omega
    refine br_f (ap_l11 q hq') (nm_r (nI_1 q) ⟨11 - (q + 1) + 1, ?_⟩)
    refine ax_sc27 hF hB hA hai hpq hq' (fun pB kB pm pt kt hi' => ?_) (11 - (q + 1)) (q + 1) _ _ _ _ _ (by omega) (by omega) (ax_SI_cg ap_S_a (by omega) hi)
    exact ih (q + 1) _ _ _ _ _ (by omega) (by omega) (ax_SI_cg ap_S_b (by omega) hi')
theorem ax_sc7 {post : Int32 → SX → Prop} {A : Nat → Int}
    (hF : ∀ r i, ap_b 7 (ap_F fa r i)) (hB : ∀ r, ap_b 99 (ap_B bo r)) (hA : ∀ i, ap_b 7 (A i)) (hai : ∀ i, i < 3 → ai i = ap_i (A i))
    (h0 : ∀ (pB kB pm : Int32) (pt kt : Nat → Int32), (∀ c, ¬ ap_C (ap_F fa) (ap_B bo) ki us c) → post 0 (pB, kB, pm, fa, ki, bo, us, go, ai, pt, kt))
    (h1 : ∀ (pB pm : Int32) (pt kt : Nat → Int32) (Q : ap_P), ap_C (ap_F fa) (ap_B bo) ki us Q → (∀ c, ap_C (ap_F fa) (ap_B bo) ki us c → ¬ ap_bt A c Q) → ap_pb Q → (∀ i, i < 3 → kt i = ap_i (Q.1 i)) → post 1 (pB, ap_i Q.2, pm, fa, ki, bo, us, go, ai, pt, kt)) :
    ∀ (d p : Nat) (pB kB pm : Int32) (pt kt : Nat → Int32), p + d = 11 → ax_SI A fa ki bo us (ap_S (ap_F fa) (ap_B bo) ki us p 0 0) (121 * p) kB pm kt → wX_searchCorners_7 post (d + 1) (nI p) pB kB pm fa ki bo us go ai pt kt := by
  intro d
  induction d with
  | zero =>
    intro p pB kB pm pt kt hp hi
    have : p = 11 := by omega
    subst this
    refine br_t ap_g11 ?_
    obtain ⟨m, Q, rfl, h2, h3, h4⟩ := ax_SI_cg (fun c => (ap_S_e c).symm) (Nat.le_refl _) hi
    rw [ap_i_n, ap_i_le0 (ap_b_n (by omega))]
    refine br_c (fun z => h0 _ _ _ _ _ (h3.1 (by omega))) (fun z => ?_)
    obtain ⟨q1, q2, q3⟩ := h4 (by omega)
    obtain ⟨s1, s2⟩ := h3.2 (by omega)
    subst q3
    exact h1 _ _ _ _ Q s1 s2 q1 q2
  | succ d ih =>
    intro p pB kB pm pt kt hp hi
    have hp' : p < 11 := by omega
    refine br_f (ap_l11 p hp') (nm_r (nI_1 p) ⟨11 - (p + 1) + 1, ?_⟩)
    refine ax_sc17 hF hB hA hai hp' (fun pB kB pm pt kt hi' => ?_) (11 - (p + 1)) (p + 1) _ _ _ _ _ (by omega) (by omega) (ax_SI_cg ap_S_d (by omega) hi)
    exact ih (p + 1) _ _ _ _ _ (by omega) (ax_SI_cg ap_S_c (by omega) hi')
theorem ax_searchCorners {post : Int32 → SX → Prop} {A : Nat → Int}
    (hF : ∀ r i, ap_b 7 (ap_F fa r i)) (hB : ∀ r, ap_b 99 (ap_B bo r)) (hA : ∀ i, ap_b 7 (A i)) (hai : ∀ i, i < 3 → ai i = ap_i (A i))
    (h0 : ∀ (pB kB pm : Int32) (pt kt : Nat → Int32), (∀ c, ¬ ap_C (ap_F fa) (ap_B bo) ki us c) → post 0 (pB, kB, pm, fa, ki, bo, us, go, ai, pt, kt))
    (h1 : ∀ (pB pm : Int32) (pt kt : Nat → Int32) (Q : ap_P), ap_C (ap_F fa) (ap_B bo) ki us Q → (∀ c, ap_C (ap_F fa) (ap_B bo) ki us c → ¬ ap_bt A c Q) → ap_pb Q → (∀ i, i < 3 → kt i = ap_i (Q.1 i)) → post 1 (pB, ap_i Q.2, pm, fa, ki, bo, us, go, ai, pt, kt)) :
    wpX_searchCorners post (pB, kB, pm, fa, ki, bo, us, go, ai, pt, kt) := by
  refine ⟨12, ax_sc7 hF hB hA hai h0 h1 11 0 _ _ _ _ _ rfl ⟨0, (fun _ => 0, 0), rfl, Nat.zero_le _, ⟨fun _ c hc => ?_, fun z => absurd rfl z⟩, fun z => absurd rfl z⟩⟩
  obtain ⟨p', q', r', h1, h2, h3, h4, h5, h6⟩ := hc
  omega
end
