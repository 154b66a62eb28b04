/-! the reference's walks -/
def ap_ro (a : Nat) : Nat := (a + 6) % 11
/-- the reference's planes are the rows of the picture -/
def ay_M (F : Nat → Nat → Int) (B : Nat → Int) (a c : Nat) : Int := if c = 3 then B (ap_ro a) else F (ap_ro a) c
def ay_Pl (F : Nat → Nat → Int) (B : Nat → Int) (pl : Nat → Int64) : Prop := ∀ a c, a < 11 → c < 4 → pl (4 * a + c) = ap_l (ay_M F B a c)
def ay_Ac (U : Nat → Int32) (sk : Int32) (th : Nat → Int32) : Prop := ∀ a, a < 11 → (¬ U (ap_ro a) = 0 ↔ (4 < a ∨ (¬ th a = 0 ∧ ¬ nI a = sk)))
section
variable {un : Int64} {fd : Int32} {bu : Int64} {sk : Int32} {th kd : Nat → Int32} {pl : Nat → Int64} {am : Nat → Int32} {ov bv : Nat → Int64}
theorem ay_at {post : Int64 → Prop} {F : Nat → Nat → Int} {B : Nat → Int} {a c : Nat} (hM : ay_Pl F B pl) (ha : a < 11) (hc : c < 4) (h : post (ap_l (ay_M F B a c))) : wpY_at post (un, fd, bu, sk, th, kd, pl, am, ov, bv) (nI a) (nI c) := by
  unfold wpY_at
  simp only [ap_4i]
  refine ⟨ap_in (by omega) (by decide), ?_⟩
  rw [ap_cl (by omega), hM a c ha hc]
  exact h
def ay_D (M : Nat → Nat → Int) (a b c p q r : Nat) : Int := M a p * (M b q * M c r - M b r * M c q) - M a q * (M b p * M c r - M b r * M c p) + M a r * (M b p * M c q - M b q * M c p)
theorem ay_det {post : Int64 → Prop} {F : Nat → Nat → Int} {B : Nat → Int} {a b c p q r : Nat} (hM : ay_Pl F B pl) (ha : a < 11) (hb : b < 11) (hc : c < 11) (hp : p < 4) (hq : q < 4) (hr : r < 4)
    (h : post (ap_l (ay_D (ay_M F B) a b c p q r))) : wpY_determinant post (un, fd, bu, sk, th, kd, pl, am, ov, bv) (nI a) (nI b) (nI c) (nI p) (nI q) (nI r) := by
  unfold wpY_determinant; dsimp only
  refine ay_at hM ha hp (ay_at hM hb hq (ay_at hM hc hr (ay_at hM hb hr (ay_at hM hc hq (nm_e ?_)))))
  refine ay_at hM ha hq (ay_at hM hb hp (ay_at hM hc hr (ay_at hM hb hr (ay_at hM hc hp (nm_e ?_)))))
  refine ay_at hM ha hr (ay_at hM hb hp (ay_at hM hc hq (ay_at hM hb hq (ay_at hM hc hp (nm_e ?_)))))
  simp only [ap_l_mul, ap_l_sub, ap_l_add]
  exact h
theorem ay_D_d (F : Nat → Nat → Int) (B : Nat → Int) (a b c : Nat) : ay_D (ay_M F B) a b c 0 1 2 = ap_dt F (ap_ro a) (ap_ro b) (ap_ro c) := by
  unfold ay_D ay_M ap_dt ap_cr
  simp only [Nat.reduceAdd, Nat.reduceMod, Nat.reduceEqDiff, if_false, if_true]; grind
theorem ay_D_0 (F : Nat → Nat → Int) (B : Nat → Int) (a b c : Nat) : ay_D (ay_M F B) a b c 3 1 2 = ap_tp F B (ap_ro a) (ap_ro b) (ap_ro c) 0 := by
  unfold ay_D ay_M ap_tp ap_cr
  simp only [Nat.reduceAdd, Nat.reduceMod, Nat.reduceEqDiff, if_false, if_true]; grind
theorem ay_D_1 (F : Nat → Nat → Int) (B : Nat → Int) (a b c : Nat) : ay_D (ay_M F B) a b c 0 3 2 = ap_tp F B (ap_ro a) (ap_ro b) (ap_ro c) 1 := by
  unfold ay_D ay_M ap_tp ap_cr
  simp only [Nat.reduceAdd, Nat.reduceMod, Nat.reduceEqDiff, if_false, if_true]; grind
theorem ay_D_2 (F : Nat → Nat → Int) (B : Nat → Int) (a b c : Nat) : ay_D (ay_M F B) a b c 0 1 3 = ap_tp F B (ap_ro a) (ap_ro b) (ap_ro c) 2 := by
  unfold ay_D ay_M ap_tp ap_cr
  simp only [Nat.reduceAdd, Nat.reduceMod, Nat.reduceEqDiff, if_false, if_true]; grind
theorem ay_meet35 {post : Int32 → SY → Prop} {F : Nat → Nat → Int} {B : Nat → Int} {a b c : Nat} {s d : Int} (hM : ay_Pl F B pl) (ha : a < 11) (hb : b < 11) (hc : c < 11)
    (h : ∀ ov' : Nat → Int64, (∀ i, i < 3 → ov' i = ap_l (s * ap_tp F B (ap_ro a) (ap_ro b) (ap_ro c) i)) → post 1 (ap_l (s * d), fd, bu, sk, th, kd, pl, am, ov', bv)) :
    wY_meet_35 post (nI a) (nI b) (nI c) (ap_l d) (ap_l s) un fd bu sk th kd pl am ov bv := by
  refine nm_r (ap_l_mul s d) ?_
  refine ay_det (p := 3) (q := 1) (r := 2) hM ha hb hc (by decide) (by decide) (by decide) (nm_e ?_)
  refine ay_det (p := 0) (q := 3) (r := 2) hM ha hb hc (by decide) (by decide) (by decide) (nm_e ?_)
  refine ay_det (p := 0) (q := 1) (r := 3) hM ha hb hc (by decide) (by decide) (by decide) (nm_e ?_)
  refine h _ (ap_lt3 ?_ ?_ ?_)
  · rw [pk_uLn (by decide), pk_uLn (by decide), pk_uLs, ap_l_mul, ay_D_0]
  · rw [pk_uLn (by decide), pk_uLs, ap_l_mul, ay_D_1]
  · rw [pk_uLs, ap_l_mul, ay_D_2]
theorem ay_meet {post : Int32 → SY → Prop} {F : Nat → Nat → Int} {B : Nat → Int} {a b c : Nat} (hM : ay_Pl F B pl) (hF : ∀ r i, ap_b 7 (F r i)) (ha : a < 11) (hb : b < 11) (hc : c < 11)
    (h0 : ap_dt F (ap_ro a) (ap_ro b) (ap_ro c) = 0 → post 0 (un, fd, bu, sk, th, kd, pl, am, ov, bv))
    (h1 : ap_dt F (ap_ro a) (ap_ro b) (ap_ro c) ≠ 0 → ∀ ov' : Nat → Int64, (∀ i, i < 3 → ov' i = ap_l ((ap_co F B (ap_ro a) (ap_ro b) (ap_ro c)).1 i)) → post 1 (ap_l (ap_co F B (ap_ro a) (ap_ro b) (ap_ro c)).2, fd, bu, sk, th, kd, pl, am, ov', bv)) :
    wpY_meet post (un, fd, bu, sk, th, kd, pl, am, ov, bv) (nI a) (nI b) (nI c) := by
  unfold wpY_meet; dsimp only
  refine ay_det (p := 0) (q := 1) (r := 2) hM ha hb hc (by decide) (by decide) (by decide) ?_
  rw [ay_D_d]
  have hd := ap_b_le (ap_dt_b hF (ap_ro a) (ap_ro b) (ap_ro c)) (show 2058 ≤ 9000000000000000000 by decide)
  refine br_c (fun z => h0 ((ap_l_eq0 hd).mp z)) (fun z => ?_)
  have z' : ap_dt F (ap_ro a) (ap_ro b) (ap_ro c) ≠ 0 := fun y => z ((ap_l_eq0 hd).mpr y)
  have h1' := h1 z'
  unfold ap_co ap_sg at h1'
  refine br_c (fun y => ?_) (fun y => ?_)
  · rw [if_pos ((ap_l_0le hd).mp y)] at h1'
    exact ay_meet35 hM ha hb hc h1'
  · rw [if_neg (fun w => y ((ap_l_0le hd).mpr w))] at h1'
    exact ay_meet35 hM ha hb hc h1'
theorem ay_left {post : Int64 → Prop} {F : Nat → Nat → Int} {B : Nat → Int} {a : Nat} {P : ap_P} (hM : ay_Pl F B pl) (ha : a < 11) (hov : ∀ i, i < 3 → ov i = ap_l (P.1 i))
    (h : post (ap_l (ap_ex F B (ap_ro a) P))) : wpY_left post (ap_l P.2, fd, bu, sk, th, kd, pl, am, ov, bv) (nI a) := by
  unfold wpY_left; dsimp only
  refine ay_at (c := 0) hM ha (by decide) (ay_at (c := 1) hM ha (by decide) (ay_at (c := 2) hM ha (by decide) (ay_at (c := 3) hM ha (by decide) ?_)))
  rw [hov 0 (by decide), hov 1 (by decide), hov 2 (by decide)]
  simp only [ap_l_mul, ap_l_sub, ap_l_add]
  exact h
theorem ay_meets {post : Int32 → Prop} {F : Nat → Nat → Int} {B : Nat → Int} {K : Nat → Int32} {a : Nat} {P : ap_P} (hM : ay_Pl F B pl) (hF : ∀ r i, ap_b 7 (F r i)) (hB : ∀ r, ap_b 99 (B r)) (hK : ∀ r, K r = 0 ∨ K r = 1 ∨ K r = 2)
    (hkd : ∀ k, k < 5 → kd k = K (ap_ro k)) (ha : a < 5) (hP : ap_pb P) (hov : ∀ i, i < 3 → ov i = ap_l (P.1 i))
    (h1 : ap_rk F B K P (ap_ro a) → post 1) (h0 : ¬ ap_rk F B K P (ap_ro a) → post 0) : wpY_meets post (ap_l P.2, fd, bu, sk, th, kd, pl, am, ov, bv) (nI a) := by
  unfold wpY_meets; dsimp only
  refine ay_left hM (show a < 11 by omega) hov ⟨ap_in ha (by decide), ?_⟩
  have he := ap_b_le (ap_ex_b hF hB hP (ap_ro a)) (show 814968 ≤ 9000000000000000000 by decide)
  unfold ap_rk at h1 h0
  generalize ap_ex F B (ap_ro a) P = e at *
  rw [ap_cl (by omega), hkd a ha]
  have k02 : ¬ (0 : Int32) = 2 := by decide
  have k12 : ¬ (1 : Int32) = 2 := by decide
  have k10 : ¬ (1 : Int32) = 0 := by decide
  have k20 : ¬ (2 : Int32) = 0 := by decide
  have k21 : ¬ (2 : Int32) = 1 := by decide
  rw [ap_l_0lt he, ap_l_eq0 he, ap_l_lt0 he]
  rcases hK (ap_ro a) with k | k | k
  · rw [k] at h1 h0 ⊢
    exact br_t rfl (br_c (fun y => h0 (fun w => w (Or.inl ⟨y, k02⟩))) (fun y => h1 (fun w => w.elim (fun v => y v.1) (fun v => v.2 rfl))))
  · rw [k] at h1 h0 ⊢
    refine br_f k10 ⟨ap_in ha (by decide), br_t rfl (br_c (fun y => h1 (fun w => w.elim (fun v => by omega) (fun v => by omega))) (fun y => h0 (fun w => ?_)))⟩
    rcases Int.lt_or_gt_of_ne y with v | v
    · exact w (Or.inr ⟨v, k10⟩)
    · exact w (Or.inl ⟨v, k12⟩)
  · rw [k] at h1 h0 ⊢
    exact br_f k20 ⟨ap_in ha (by decide), br_f k21 (br_c (fun y => h0 (fun w => w (Or.inr ⟨y, k20⟩))) (fun y => h1 (fun w => w.elim (fun v => v.2 rfl) (fun v => y v.1))))⟩
theorem ay_g4 {a : Nat} (h : a < 2000) : (4 : Int32) < nI a ↔ 4 < a := nI_ltI (a := 4) (by decide) (by omega)
theorem ay_active {post : Int32 → Prop} {U : Nat → Int32} {a : Nat} (hA : ay_Ac U sk th) (ha : a < 11) (h1 : ¬ U (ap_ro a) = 0 → post 1) (h0 : U (ap_ro a) = 0 → post 0) : wpY_active post (un, fd, bu, sk, th, kd, pl, am, ov, bv) (nI a) := by
  have e := hA a ha
  refine br_c (fun z => h1 (e.mpr (Or.inl ((ay_g4 (by omega)).mp z)))) (fun z => ?_)
  have z' : a < 5 := by
    have : ¬ 4 < a := fun y => z ((ay_g4 (by omega)).mpr y)
    omega
  refine ⟨ap_in z' (by decide), ?_⟩
  rw [ap_cl (by omega)]
  have n0 : ¬ (¬ th a = 0 ∧ ¬ nI a = sk) → U (ap_ro a) = 0 := fun hn => Decidable.byContradiction (fun hu => (e.mp hu).elim (fun y => by omega) hn)
  exact br_c (fun y => h0 (n0 (fun w => w.1 y))) (fun y => br_c (fun x => h0 (n0 (fun w => w.2 x))) (fun x => h1 (e.mpr (Or.inr ⟨y, x⟩))))
/-! inside -/
def ay_in1 (P : ap_P) (i : Nat) : Prop := 0 ≤ P.1 i ∧ P.1 i ≤ 20 * P.2
theorem ay_ins56 {post : Int32 → Prop} {F : Nat → Nat → Int} {B : Nat → Int} {K U : Nat → Int32} {P : ap_P} (hM : ay_Pl F B pl) (hF : ∀ r i, ap_b 7 (F r i)) (hB : ∀ r, ap_b 99 (B r)) (hK : ∀ r, K r = 0 ∨ K r = 1 ∨ K r = 2)
    (hkd : ∀ k, k < 5 → kd k = K (ap_ro k)) (hA : ay_Ac U sk th) (hP : ap_pb P) (hov : ∀ i, i < 3 → ov i = ap_l (P.1 i)) :
    ∀ (d k : Nat) (f : Int32), k + d = 5 → (f = 0 ∨ f = 1) →
      (f = 1 → (∀ j, k ≤ j → j < 5 → ¬ U (ap_ro j) = 0 → ap_rk F B K P (ap_ro j)) → post 1) → (f = 0 ∨ ¬ (∀ j, k ≤ j → j < 5 → ¬ U (ap_ro j) = 0 → ap_rk F B K P (ap_ro j)) → post 0) →
      wY_inside_56 post (ap_l P.2) fd bu sk th kd pl am ov bv (d + 1) f (nI k) := by
  intro d
  induction d with
  | zero =>
    intro k f hk hf h1 h0
    have : k = 5 := by omega
    subst this
    rcases hf with rfl | rfl
    · exact br_t ap_g5 ⟨rfl, h0 (Or.inl rfl)⟩
    · exact br_t ap_g5 ⟨rfl, h1 rfl (fun j a b => by omega)⟩
  | succ d ih =>
    intro k f hk hf h1 h0
    have hk' : k < 5 := by omega
    refine br_f (ap_l5 k hk') ?_
    rcases hf with rfl | rfl
    · exact br_t rfl (nm_r (nI_1 k) (ih (k + 1) 0 (by omega) (Or.inl rfl) (fun a => absurd a (by decide)) (fun _ => h0 (Or.inl rfl))))
    · refine br_f (by decide) ?_
      have good : (¬ U (ap_ro k) = 0 → ap_rk F B K P (ap_ro k)) → wY_inside_56 post (ap_l P.2) fd bu sk th kd pl am ov bv (d + 1) 1 (nI (k + 1)) := by
        intro hg
        refine ih (k + 1) 1 (by omega) (Or.inr rfl) (fun _ hall => h1 rfl (fun j a b hu => ?_)) (fun hn => h0 (Or.inr (fun hall => ?_)))
        · rcases Nat.eq_or_lt_of_le a with rfl | a
          · exact hg hu
          · exact hall j a b hu
        · rcases hn with hn | hn
          · exact absurd hn (by decide)
          · exact hn (fun j a b hu => hall j (by omega) b hu)
      refine ay_active hA (by omega) (fun hu => br_f (by decide) ?_) (fun hu => br_t rfl (nm_r (nI_1 k) (good (fun y => absurd hu y))))
      refine ay_meets hM hF hB hK hkd hk' hP hov (fun hr => br_f (by decide) (nm_r (nI_1 k) (good (fun _ => hr)))) (fun hr => br_t rfl (nm_r (nI_1 k) ?_))
      exact ih (k + 1) 0 (by omega) (Or.inl rfl) (fun a => absurd a (by decide)) (fun _ => h0 (Or.inr (fun hall => hr (hall k (Nat.le_refl k) hk' hu))))
theorem ay_ins4 {post : Int32 → Prop} {F : Nat → Nat → Int} {B : Nat → Int} {K U : Nat → Int32} {P : ap_P} (hM : ay_Pl F B pl) (hF : ∀ r i, ap_b 7 (F r i)) (hB : ∀ r, ap_b 99 (B r)) (hK : ∀ r, K r = 0 ∨ K r = 1 ∨ K r = 2)
    (hkd : ∀ k, k < 5 → kd k = K (ap_ro k)) (hA : ay_Ac U sk th) (hP : ap_pb P) (hov : ∀ i, i < 3 → ov i = ap_l (P.1 i)) :
    ∀ (d i : Nat) (f : Int32), i + d = 3 → (f = 0 ∨ f = 1) →
      (f = 1 → (∀ j, i ≤ j → j < 3 → ay_in1 P j) → (∀ j, j < 5 → ¬ U (ap_ro j) = 0 → ap_rk F B K P (ap_ro j)) → post 1) →
      (f = 0 ∨ ¬ ((∀ j, i ≤ j → j < 3 → ay_in1 P j) ∧ (∀ j, j < 5 → ¬ U (ap_ro j) = 0 → ap_rk F B K P (ap_ro j))) → post 0) →
      wY_inside_4 post (ap_l P.2) fd bu sk th kd pl am ov bv (d + 1) f (nI i) := by
  intro d
  induction d with
  | zero =>
    intro i f hi hf h1 h0
    have : i = 3 := by omega
    subst this
    refine br_t ap_g3 ⟨6, ay_ins56 hM hF hB hK hkd hA hP hov 5 0 f rfl hf (fun a b => h1 a (fun j _ _ => by omega) (fun j c => b j (Nat.zero_le j) c)) (fun a => h0 (a.imp id (fun b c => b (fun j _ d => c.2 j d))))⟩
  | succ d ih =>
    intro i f hi hf h1 h0
    have hi' : i < 3 := by omega
    refine br_f (ap_l3 i hi') ?_
    rcases hf with rfl | rfl
    · exact br_t rfl (nm_r (nI_1 i) (ih (i + 1) 0 (by omega) (Or.inl rfl) (fun a => absurd a (by decide)) (fun _ => h0 (Or.inl rfl))))
    · refine br_f (by decide) ⟨ap_in hi' (by decide), ?_⟩
      have bad : ¬ ay_in1 P i → wY_inside_4 post (ap_l P.2) fd bu sk th kd pl am ov bv (d + 1) 0 (nI (i + 1)) := fun hn =>
        ih (i + 1) 0 (by omega) (Or.inl rfl) (fun a => absurd a (by decide)) (fun _ => h0 (Or.inr (fun c => hn (c.1 i (Nat.le_refl i) hi'))))
      unfold ay_in1 at bad
      have b1 := ap_b_le (hP.1 i) (show 29106 ≤ 9000000000000000000 by decide)
      have b2 := ap_b_le (ap_b_mul (show ap_b 20 20 from by unfold ap_b; decide) (ap_pb_2 hP)) (show 20 * 2058 ≤ 9000000000000000000 by decide)
      rw [ap_cl (by omega), hov i hi', ap_l_20, ap_l_mul, ap_l_lt0 b1, ap_l_lt b2 b1]
      refine br_c (fun z => nm_r (nI_1 i) (bad (by omega))) (fun z => ⟨ap_in hi' (by decide), br_c (fun y => nm_r (nI_1 i) (bad (by omega))) (fun y => nm_r (nI_1 i) ?_)⟩)
      have gi : ay_in1 P i := ⟨by omega, by omega⟩
      refine ih (i + 1) 1 (by omega) (Or.inr rfl) (fun _ hall hall2 => h1 rfl (fun j a b => ?_) hall2) (fun hn => h0 (Or.inr (fun hall => ?_)))
      · rcases Nat.eq_or_lt_of_le a with rfl | a
        · exact gi
        · exact hall j a b
      · rcases hn with hn | hn
        · exact absurd hn (by decide)
        · exact hn ⟨fun j a b => hall.1 j (by omega) b, hall.2⟩
/-- the limits of the amounts, as rows -/
def ap_Lm (F : Nat → Nat → Int) (B : Nat → Int) (K U : Nat → Int32) : Prop :=
  ∀ i, i < 3 → (F i 0 = ap_E 1 i 0 ∧ F i 1 = ap_E 1 i 1 ∧ F i 2 = ap_E 1 i 2 ∧ B i = 0 ∧ K i = 2 ∧ ¬ U i = 0) ∧ (F (3 + i) 0 = ap_E 1 i 0 ∧ F (3 + i) 1 = ap_E 1 i 1 ∧ F (3 + i) 2 = ap_E 1 i 2 ∧ B (3 + i) = 20 ∧ K (3 + i) = 0 ∧ ¬ U (3 + i) = 0)
theorem ap_E3 (P : ap_P) : ∀ i, i < 3 → ap_E 1 i 0 * P.1 0 + ap_E 1 i 1 * P.1 1 + ap_E 1 i 2 * P.1 2 = P.1 i := by
  apply ap_lt3 <;> (unfold ap_E; simp)
theorem ap_ok_in {F : Nat → Nat → Int} {B : Nat → Int} {K U : Nat → Int32} {P : ap_P} (hL : ap_Lm F B K U) :
    ap_ok F B K U P ↔ ((∀ j, 0 ≤ j → j < 3 → ay_in1 P j) ∧ (∀ j, j < 5 → ¬ U (ap_ro j) = 0 → ap_rk F B K P (ap_ro j))) := by
  have lo : ∀ i, i < 3 → (ap_rk F B K P i ↔ 0 ≤ P.1 i) := by
    intro i hi
    obtain ⟨⟨f0, f1, f2, b, k, u⟩, _⟩ := hL i hi
    unfold ap_rk ap_ex
    rw [f0, f1, f2, b, k, ap_E3 P i hi, Int.zero_mul]
    have k2 : ¬ (2 : Int32) = 0 := by decide
    constructor
    · intro h
      apply Decidable.byContradiction
      intro hn
      exact h (Or.inr ⟨by omega, k2⟩)
    · intro h w
      exact w.elim (fun v => v.2 rfl) (fun v => by omega)
  have hi : ∀ i, i < 3 → (ap_rk F B K P (3 + i) ↔ P.1 i ≤ 20 * P.2) := by
    intro i hi
    obtain ⟨_, f0, f1, f2, b, k, u⟩ := hL i hi
    unfold ap_rk ap_ex
    rw [f0, f1, f2, b, k, ap_E3 P i hi]
    have k2 : ¬ (0 : Int32) = 2 := by decide
    constructor
    · intro h
      apply Decidable.byContradiction
      intro hn
      exact h (Or.inl ⟨by omega, k2⟩)
    · intro h w
      exact w.elim (fun v => by omega) (fun v => v.2 rfl)
  have ro : ∀ j, j < 5 → ap_ro j = 6 + j := by intro j hj; unfold ap_ro; omega
  constructor
  · intro h
    refine ⟨fun j _ hj => ⟨(lo j hj).mp (h j (by omega) (hL j hj).1.2.2.2.2.2), (hi j hj).mp (h (3 + j) (by omega) (hL j hj).2.2.2.2.2.2)⟩, fun j hj hu => h (ap_ro j) (by rw [ro j hj]; omega) hu⟩
  · intro h r hr hu
    rcases Nat.lt_or_ge r 3 with a | a
    · exact (lo r a).mpr (h.1 r (Nat.zero_le r) a).1
    · rcases Nat.lt_or_ge r 6 with b | b
      · have e : r = 3 + (r - 3) := by omega
        rw [e]
        exact (hi (r - 3) (by omega)).mpr (h.1 (r - 3) (Nat.zero_le _) (by omega)).2
      · have e : r = ap_ro (r - 6) := by rw [ro _ (by omega)]; omega
        rw [e] at hu ⊢
        exact h.2 (r - 6) (by omega) hu
theorem ay_inside {post : Int32 → Prop} {F : Nat → Nat → Int} {B : Nat → Int} {K U : Nat → Int32} {P : ap_P} (hM : ay_Pl F B pl) (hF : ∀ r i, ap_b 7 (F r i)) (hB : ∀ r, ap_b 99 (B r)) (hK : ∀ r, K r = 0 ∨ K r = 1 ∨ K r = 2)
    (hkd : ∀ k, k < 5 → kd k = K (ap_ro k)) (hA : ay_Ac U sk th) (hL : ap_Lm F B K U) (hP : ap_pb P) (hov : ∀ i, i < 3 → ov i = ap_l (P.1 i))
    (h1 : ap_ok F B K U P → post 1) (h0 : ¬ ap_ok F B K U P → post 0) : wpY_inside post (ap_l P.2, fd, bu, sk, th, kd, pl, am, ov, bv) := by
  rw [ap_ok_in hL] at h1 h0
  exact ⟨4, ay_ins4 hM hF hB hK hkd hA hP hov 3 0 1 rfl (Or.inr rfl) (fun _ a b => h1 ⟨a, b⟩) (fun a => h0 (a.resolve_left (by decide)))⟩
/-- all that the reference's searches take of the state -/
def ay_Co (F : Nat → Nat → Int) (B : Nat → Int) (K U : Nat → Int32) (sk : Int32) (th kd : Nat → Int32) (pl : Nat → Int64) : Prop :=
  (∀ r i, ap_b 7 (F r i)) ∧ (∀ r, ap_b 99 (B r)) ∧ (∀ r, K r = 0 ∨ K r = 1 ∨ K r = 2) ∧ ay_Pl F B pl ∧ (∀ k, k < 5 → kd k = K (ap_ro k)) ∧ ay_Ac U sk th ∧ ap_Lm F B K U
theorem ay_corner {post : Int32 → SY → Prop} {F : Nat → Nat → Int} {B : Nat → Int} {K U : Nat → Int32} {a b c : Nat} (hC : ay_Co F B K U sk th kd pl) (ha : a < 11) (hb : b < 11) (hc : c < 11)
    (h1 : a < b → b < c → ap_gc F B K U (ap_ro a) (ap_ro b) (ap_ro c) → ∀ ov' : Nat → Int64, (∀ i, i < 3 → ov' i = ap_l ((ap_co F B (ap_ro a) (ap_ro b) (ap_ro c)).1 i)) → post 1 (ap_l (ap_co F B (ap_ro a) (ap_ro b) (ap_ro c)).2, fd, bu, sk, th, kd, pl, am, ov', bv))
    (h0 : ¬ (a < b ∧ b < c ∧ ap_gc F B K U (ap_ro a) (ap_ro b) (ap_ro c)) → ∀ (un' : Int64) (ov' : Nat → Int64), post 0 (un', fd, bu, sk, th, kd, pl, am, ov', bv)) :
    wpY_corner post (un, fd, bu, sk, th, kd, pl, am, ov, bv) (nI (121 * a + 11 * b + c)) := by
  obtain ⟨hF, hB, hK, hM, hkd, hA, hL⟩ := hC
  have e1 : nI (121 * a + 11 * b + c) / 121 = nI a := by
    show _ / nI 121 = _
    rw [pk_div (by omega) (by decide) (by decide)]; congr 1; omega
  have e2 : nI (121 * a + 11 * b + c) / 11 - nI (121 * a + 11 * b + c) / 11 / 11 * 11 = nI b := by
    show nI (121 * a + 11 * b + c) / nI 11 - nI (121 * a + 11 * b + c) / nI 11 / nI 11 * nI 11 = _
    rw [pk_div (by omega) (by decide) (by decide), pk_rem (by omega) (by decide) (by decide)]; congr 1; omega
  have e3 : nI (121 * a + 11 * b + c) - nI (121 * a + 11 * b + c) / 11 * 11 = nI c := by
    show nI (121 * a + 11 * b + c) - nI (121 * a + 11 * b + c) / nI 11 * nI 11 = _
    rw [pk_rem (by omega) (by decide) (by decide)]; congr 1; omega
  refine ⟨by decide, nm_r e1 ⟨by decide, by decide, nm_r e2 ⟨by decide, nm_r e3 ?_⟩⟩⟩
  rw [nI_leI (by omega) (by omega), nI_leI (by omega) (by omega)]
  refine br_c (fun z => h0 (by omega) _ _) (fun z1 => br_c (fun z => h0 (by omega) _ _) (fun z2 => ?_))
  refine ay_active hA ha (fun u1 => br_f (by decide) ?_) (fun u1 => br_t rfl (h0 (fun w => w.2.2.1 u1) _ _))
  refine ay_active hA hb (fun u2 => br_f (by decide) ?_) (fun u2 => br_t rfl (h0 (fun w => w.2.2.2.1 u2) _ _))
  refine ay_active hA hc (fun u3 => br_f (by decide) ?_) (fun u3 => br_t rfl (h0 (fun w => w.2.2.2.2.1 u3) _ _))
  refine ay_meet hM hF ha hb hc (fun d => br_t rfl (h0 (fun w => w.2.2.2.2.2.1 d) _ _)) (fun d ov' hov => br_f (by decide) ?_)
  refine ay_inside hM hF hB hK hkd hA hL (ap_co_pb hF hB d) hov (fun ho => br_f (by decide) (h1 (by omega) (by omega) ⟨u1, u2, u3, d, ho⟩ ov' hov)) (fun ho => br_t rfl (h0 (fun w => ho w.2.2.2.2.2.2) _ _))
end
