/-! the relation and the first owed statements -/
def ap_Rel (fa ki bo us go : Nat → Int32) (sk : Int32) (th kd : Nat → Int32) (pl : Nat → Int64) (am : Nat → Int32) : Prop :=
  ((∀ j, ap_b 7 (fa j).toInt) ∧ (∀ r, ap_b 99 (bo r).toInt) ∧ (∀ r, ki r = 0 ∨ ki r = 1 ∨ ki r = 2) ∧ (∀ i, ap_b 7 (go i).toInt) ∧ (∀ r, us r = 0 ∨ us r = 1) ∧ ap_Lm (ap_F fa) (ap_B bo) ki us) ∧
  (sk = -1 ∧ am = go ∧ (∀ k, k < 5 → th k = us (6 + k) ∧ kd k = ki (6 + k)) ∧ (∀ a, a < 11 → (∀ i, i < 3 → pl (4 * a + i) = (fa (3 * ap_ro a + i)).toInt64) ∧ pl (4 * a + 3) = (bo (ap_ro a)).toInt64))
/-- the rows, kinds, conditions in use and goal of the component are those of the reference -/
def i_Rel (k : Nat) (u : SX) (v : SY) : Prop := match u, v with
  | (pB, kB, pm, fa, ki, bo, us, go, ai, pt, kt), (un, fd, bu, sk, th, kd, pl, am, ov, bv) => ap_Rel fa ki bo us go sk th kd pl am
theorem i_up {k : Nat} {u : SX} {v : SY} (h : i_Rel k u v) : i_Rel (k + 4) u v := h
section
variable {fa ki bo us go : Nat → Int32} {sk : Int32} {th kd : Nat → Int32} {pl : Nat → Int64} {am : Nat → Int32}
theorem ap_Rel_F (h : ap_Rel fa ki bo us go sk th kd pl am) : ∀ r i, ap_b 7 (ap_F fa r i) := fun _ _ => h.1.1 _
theorem ap_Rel_B (h : ap_Rel fa ki bo us go sk th kd pl am) : ∀ r, ap_b 99 (ap_B bo r) := fun _ => h.1.2.1 _
theorem ap_Rel_G (h : ap_Rel fa ki bo us go sk th kd pl am) : ∀ i, ap_b 7 (ap_G go i) := fun _ => h.1.2.2.2.1 _
theorem ap_Rel_am (h : ap_Rel fa ki bo us go sk th kd pl am) : am = go := h.2.2.1
theorem ap_Rel_Pl (h : ap_Rel fa ki bo us go sk th kd pl am) : ay_Pl (ap_F fa) (ap_B bo) pl := by
  intro a c ha hc
  obtain ⟨h1, h2⟩ := h.2.2.2.2 a ha
  unfold ay_M
  by_cases z : c = 3
  · subst z; rw [if_pos rfl, h2, ap_x_l]; rfl
  · rw [if_neg z, h1 c (by omega), ap_x_l]; rfl
theorem ap_Rel_kd (h : ap_Rel fa ki bo us go sk th kd pl am) : ∀ k, k < 5 → kd k = ki (ap_ro k) := by
  intro k hk
  rw [ap_ro_lo hk, Nat.add_comm]; exact (h.2.2.2.1 k hk).2
theorem ap_Rel_Co (h : ap_Rel fa ki bo us go sk th kd pl am) : ay_Co (ap_F fa) (ap_B bo) ki us sk th kd pl := by
  refine ⟨ap_Rel_F h, ap_Rel_B h, h.1.2.2.1, ap_Rel_Pl h, ap_Rel_kd h, ?_, h.1.2.2.2.2.2⟩
  intro a ha
  rcases Nat.lt_or_ge a 5 with z | z
  · rw [ap_ro_lo z, Nat.add_comm, ← (h.2.2.2.1 a z).1, h.2.1]
    have e : ¬ nI a = -1 := by
      intro y
      have y' := nI_pos (n := a) (by omega)
      rw [y] at y'
      exact y' (by decide)
    constructor
    · exact fun w => Or.inr ⟨w, e⟩
    · exact fun w => w.elim (fun v => by omega) (fun v => v.1)
  · rw [ap_ro_hi z ha]
    refine ⟨fun _ => Or.inl (by omega), fun _ => ?_⟩
    rcases Nat.lt_or_ge (a - 5) 3 with y | y
    · exact (h.1.2.2.2.2.2 (a - 5) y).1.2.2.2.2.2
    · have := (h.1.2.2.2.2.2 (a - 5 - 3) (by omega)).2.2.2.2.2.2
      rw [show 3 + (a - 5 - 3) = a - 5 by omega] at this
      exact this
theorem ap_Lm_us {F : Nat → Nat → Int} {B : Nat → Int} {K U : Nat → Int32} {r : Nat} {x : Int32} (hr : 6 ≤ r) (h : ap_Lm F B K U) : ap_Lm F B K (upd U r x) := by
  intro i hi
  rw [pk_un (show i ≠ r by omega), pk_un (show 3 + i ≠ r by omega)]
  exact h i hi
theorem ap_Rel_CoR (h : ap_Rel fa ki bo us go sk th kd pl am) {k : Nat} (hk : k < 5) : ay_Co (ap_F fa) (ap_B bo) ki (upd us (6 + k) 0) (nI k) th kd pl := by
  obtain ⟨c1, c2, c3, c4, c5, c6, c7⟩ := ap_Rel_Co h
  refine ⟨c1, c2, c3, c4, c5, ?_, ap_Lm_us (by omega) c7⟩
  intro a ha
  rcases Nat.lt_or_ge a 5 with z | z
  · rw [ap_ro_lo z, nI_eq (by omega) (by omega)]
    by_cases e : a = k
    · subst e
      rw [Nat.add_comm, pk_us]
      exact ⟨fun w => absurd rfl w, fun w => w.elim (fun v => by omega) (fun v => absurd rfl v.2)⟩
    · rw [pk_un (by omega), Nat.add_comm, ← (h.2.2.2.1 a z).1]
      exact ⟨fun w => Or.inr ⟨w, e⟩, fun w => w.elim (fun v => by omega) (fun v => v.1)⟩
  · have := c6 a ha
    rw [ap_ro_hi z ha] at this ⊢
    rw [pk_un (by omega)]
    exact ⟨fun _ => Or.inl (by omega), fun _ => this.mpr (Or.inl (by omega))⟩
theorem ap_upd_p {p : Int32 → Prop} {f : Nat → Int32} {k : Nat} {x : Int32} (hf : ∀ j, p (f j)) (hx : p x) : ∀ j, p (upd f k x j) := by
  intro j
  by_cases e : j = k
  · subst e; rw [pk_us]; exact hx
  · rw [pk_un e]; exact hf j
theorem ap_sf_un {r j : Nat} {x : Int32} (h : j < 3 * r ∨ 3 * r + 2 < j) : ap_sf fa r x j = fa j := by
  unfold ap_sf
  rw [pk_un (by omega), pk_un (by omega), pk_un (by omega)]
theorem ap_sf_at {r : Nat} {x : Int32} : ∀ i, i < 3 → ap_sf fa r x (3 * r + i) = ap_num x i := by
  unfold ap_sf
  refine ap_lt3 ?_ ?_ ?_
  · rw [pk_un (by omega), pk_un (by omega), pk_us]
  · rw [pk_un (by omega), pk_us]
  · rw [pk_us]
theorem ap_spl_un {k j : Nat} {x b : Int32} (h : j < 4 * k ∨ 4 * k + 3 < j) : ap_spl pl k x b j = pl j := by
  unfold ap_spl
  rw [pk_uLn (by omega), pk_uLn (by omega), pk_uLn (by omega), pk_uLn (by omega)]
theorem ap_spl_at {k : Nat} {x b : Int32} : (∀ i, i < 3 → ap_spl pl k x b (4 * k + i) = (ap_num x i).toInt64) ∧ ap_spl pl k x b (4 * k + 3) = b.toInt64 := by
  unfold ap_spl
  refine ⟨ap_lt3 ?_ ?_ ?_, ?_⟩
  · rw [pk_uLn (by omega), pk_uLn (by omega), pk_uLn (by omega), pk_uLs]
  · rw [pk_uLn (by omega), pk_uLn (by omega), pk_uLs]
  · rw [pk_uLn (by omega), pk_uLs]
  · rw [pk_uLs]
theorem ap_Lm_sf {r : Nat} {x k b u : Int32} (hr : 6 ≤ r) (h : ap_Lm (ap_F fa) (ap_B bo) ki us) : ap_Lm (ap_F (ap_sf fa r x)) (ap_B (upd bo r b)) (upd ki r k) (upd us r u) := by
  intro i hi
  have := h i hi
  unfold ap_F ap_B at this ⊢
  rw [pk_un (show i ≠ r by omega), pk_un (show 3 + i ≠ r by omega), pk_un (show i ≠ r by omega), pk_un (show 3 + i ≠ r by omega), pk_un (show i ≠ r by omega), pk_un (show 3 + i ≠ r by omega)]
  rw [ap_sf_un (by omega), ap_sf_un (by omega), ap_sf_un (by omega), ap_sf_un (by omega), ap_sf_un (by omega), ap_sf_un (by omega)]
  exact this
theorem ap_Rel_add {k m : Nat} {v2 v3 : Int32} (h : ap_Rel fa ki bo us go sk th kd pl am) (hk : k < 5) (hm : m ≤ 3374) (h2 : v2 = 0 ∨ v2 = 1 ∨ v2 = 2) (h3 : ap_b 99 v3.toInt) :
    ap_Rel (ap_sf fa (6 + k) (nI m)) (upd ki (6 + k) v2) (upd bo (6 + k) v3) (upd us (6 + k) 1) go sk (upd th k 1) (upd kd k v2) (ap_spl pl k (nI m) v3) am := by
  obtain ⟨⟨r1, r2, r3, r4, r5, r6⟩, s1, s2, s3, s4⟩ := h
  refine ⟨⟨?_, ?_, ?_, r4, ?_, ap_Lm_sf (by omega) r6⟩, s1, s2, ?_, ?_⟩
  · unfold ap_sf
    exact ap_upd_p (p := fun x => ap_b 7 x.toInt) (ap_upd_p (p := fun x => ap_b 7 x.toInt) (ap_upd_p (p := fun x => ap_b 7 x.toInt) r1 (ap_num_b hm 0)) (ap_num_b hm 1)) (ap_num_b hm 2)
  · exact ap_upd_p (p := fun x => ap_b 99 x.toInt) r2 h3
  · exact ap_upd_p (p := fun x => x = 0 ∨ x = 1 ∨ x = 2) r3 h2
  · exact ap_upd_p (p := fun x => x = 0 ∨ x = 1) r5 (Or.inr rfl)
  · intro j hj
    obtain ⟨a, b⟩ := s3 j hj
    by_cases e : j = k
    · subst e; rw [pk_us, pk_us, pk_us, pk_us]; exact ⟨rfl, rfl⟩
    · rw [pk_un e, pk_un e, pk_un (by omega), pk_un (by omega)]; exact ⟨a, b⟩
  · intro a ha
    obtain ⟨p1, p2⟩ := s4 a ha
    by_cases e : a = k
    · subst e
      rw [ap_ro_lo hk, Nat.add_comm a 6, pk_us]
      refine ⟨fun i hi => ?_, ap_spl_at.2⟩
      rw [ap_sf_at i hi, ap_spl_at.1 i hi]
    · have er : ap_ro a ≠ 6 + k := by unfold ap_ro; omega
      rw [pk_un er, ap_spl_un (by omega)]
      refine ⟨fun i hi => ?_, p2⟩
      rw [ap_spl_un (by omega), ap_sf_un (by omega)]
      exact p1 i hi
theorem ap_Rel_us {k : Nat} {x : Int32} (h : ap_Rel fa ki bo us go sk th kd pl am) (hk : k < 5) (hx : x = 0 ∨ x = 1) :
    ap_Rel fa ki bo (upd us (6 + k) x) go sk (upd th k x) kd pl am := by
  obtain ⟨⟨r1, r2, r3, r4, r5, r6⟩, s1, s2, s3, s4⟩ := h
  refine ⟨⟨r1, r2, r3, r4, ap_upd_p (p := fun x => x = 0 ∨ x = 1) r5 hx, ap_Lm_us (by omega) r6⟩, s1, s2, ?_, s4⟩
  intro j hj
  obtain ⟨a, b⟩ := s3 j hj
  by_cases e : j = k
  · subst e; rw [pk_us, pk_us]; exact ⟨rfl, b⟩
  · rw [pk_un e, pk_un (by omega)]; exact ⟨a, b⟩
end
theorem ap_in3374 {x : Int32} (h : ¬ x < 0) (h' : ¬ 3374 < x) : ∃ m, m ≤ 3374 ∧ x = nI m := nI_of2 (M := 3374) (n := 3374) (by decide) h (Int32.not_lt.mp h')
theorem ap_012 {x : Int32} (h : ¬ x < 0) (h' : ¬ 2 < x) : x = 0 ∨ x = 1 ∨ x = 2 := by
  obtain ⟨j, hj, rfl⟩ := nI_of2 (M := 2) (n := 2) (by decide) h (Int32.not_lt.mp h')
  have : j = 0 ∨ j = 1 ∨ j = 2 := by omega
  rcases this with rfl | rfl | rfl
  · exact Or.inl rfl
  · exact Or.inr (Or.inl rfl)
  · exact Or.inr (Or.inr rfl)
theorem ap_99 {x : Int32} (h : ¬ x < (-99)) (h' : ¬ 99 < x) : ap_b 99 x.toInt := by
  rw [Int32.lt_iff_toInt_lt] at h h'
  have e1 : (-99 : Int32).toInt = -99 := by decide
  have e2 : (99 : Int32).toInt = 99 := by decide
  rw [e1] at h; rw [e2] at h'
  unfold ap_b; omega
theorem ap_free (p : Nat → Prop) : ∀ n, (∃ s, s < n ∧ p s ∧ ∀ j, j < s → ¬ p j) ∨ ∀ j, j < n → ¬ p j := by
  intro n
  induction n with
  | zero => exact Or.inr (fun j hj => absurd hj (Nat.not_lt_zero j))
  | succ n ih =>
    rcases ih with ⟨s, h1, h2, h3⟩ | ih
    · exact Or.inl ⟨s, by omega, h2, h3⟩
    · by_cases z : p n
      · exact Or.inl ⟨n, by omega, z, ih⟩
      · refine Or.inr (fun j hj => ?_)
        rcases Nat.lt_or_ge j n with a | a
        · exact ih j a
        · have : j = n := by omega
          subst this; exact z
theorem i_vc_add {k : Nat} {u : SX} {v : SY} (I : i_Rel k u v) (hk : k + 4 ≤ 2048) (v1 : Int32) (v2 : Int32) (v3 : Int32) : wpX_add (fun r u' => wpY_add (fun r' v' => r' = r ∧ i_Rel (k + 4) u' v') v v1 v2 v3) u v1 v2 v3 := by
  obtain ⟨pB, kB, pm, fa, ki, bo, us, go, ai, pt, kt⟩ := u
  obtain ⟨un, fd, bu, sk, th, kd, pl, am, ov, bv⟩ := v
  have R : ap_Rel fa ki bo us go sk th kd pl am := I
  by_cases hb : ap_bad v1 v2 v3
  · exact ax_add_bad hb (ay_add_bad hb ⟨rfl, R⟩)
  · have hbb := hb
    unfold ap_bad at hbb
    obtain ⟨m, hm, rfl⟩ := ap_in3374 (x := v1) (fun y => hbb (Or.inl (Or.inl y))) (fun y => hbb (Or.inl (Or.inr y)))
    have h2 := ap_012 (x := v2) (fun y => hbb (Or.inr (Or.inl y))) (fun y => hbb (Or.inr (Or.inr (Or.inl y))))
    have h3 := ap_99 (x := v3) (fun y => hbb (Or.inr (Or.inr (Or.inr (Or.inl y))))) (fun y => hbb (Or.inr (Or.inr (Or.inr (Or.inr y)))))
    have ht := R.2.2.2.1
    rcases ap_free (fun j => us (6 + j) = 0) 5 with ⟨s, hs, z, hl⟩ | hn
    · refine ax_add_ok hb ⟨s + 1, ax_add37f hs z hl ?_ s 0 (by omega)⟩
      refine ay_add_ok hb ⟨s + 1, ay_add35f hs ((ht s hs).1.trans z) (fun j hj y => hl j hj ((ht j (by omega)).1.symm.trans y)) ?_ s 0 (by omega)⟩
      exact ⟨rfl, ap_Rel_add R hs hm h2 h3⟩
    · refine ax_add_ok hb ⟨6, ax_add37n hn ?_ 5 0 rfl⟩
      exact ay_add_ok hb ⟨6, ay_add35n (fun j hj y => hn j hj ((ht j hj).1.symm.trans y)) ⟨rfl, R⟩ 5 0 rfl⟩
theorem i_vc_remove {k : Nat} {u : SX} {v : SY} (I : i_Rel k u v) (hk : k + 4 ≤ 2048) (v1 : Int32) : wpX_remove (fun r u' => wpY_remove (fun r' v' => r' = r ∧ i_Rel (k + 4) u' v') v v1) u v1 := by
  obtain ⟨pB, kB, pm, fa, ki, bo, us, go, ai, pt, kt⟩ := u
  obtain ⟨un, fd, bu, sk, th, kd, pl, am, ov, bv⟩ := v
  have R : ap_Rel fa ki bo us go sk th kd pl am := I
  have ht := R.2.2.2.1
  refine ax_remove (fun s hs e hu => ay_remove (fun s' hs' e' hu' => ?_) (fun hn => absurd ((ht s hs).1.symm.trans (hn s hs e)) hu)) (fun hn => ay_remove (fun s hs e hu => absurd ((ht s hs).1.trans (hn s hs e)) hu) (fun _ => ⟨rfl, R⟩))
  rw [e, nI_eq (by omega) (by omega)] at e'
  subst e'
  exact ⟨rfl, ap_Rel_us R hs (Or.inl rfl)⟩
noncomputable def ap_tb (z : Nat → Prop) : Nat → Nat → Int32 → Int32
  | 0, _, x => x
  | d + 1, j, x => ap_tb z d (j + 1) (@ite Int32 (z j) (Classical.propDecidable (z j)) (x ||| ((1 : Int32) <<< (nI j &&& 31))) x)
theorem ap_tb_t {z : Nat → Prop} {d j : Nat} {x : Int32} (h : z j) : ap_tb z (d + 1) j x = ap_tb z d (j + 1) (x ||| ((1 : Int32) <<< (nI j &&& 31))) := by
  show ap_tb z d (j + 1) _ = _
  rw [if_pos h]
theorem ap_tb_f {z : Nat → Prop} {d j : Nat} {x : Int32} (h : ¬ z j) : ap_tb z (d + 1) j x = ap_tb z d (j + 1) x := by
  show ap_tb z d (j + 1) _ = _
  rw [if_neg h]
theorem ap_tb_cg {z z' : Nat → Prop} : ∀ d j x, (∀ i, j ≤ i → i < j + d → (z i ↔ z' i)) → ap_tb z d j x = ap_tb z' d j x := by
  intro d
  induction d with
  | zero => intro j x h; rfl
  | succ d ih =>
    intro j x h
    have hj := h j (Nat.le_refl j) (by omega)
    by_cases y : z j
    · rw [ap_tb_t y, ap_tb_t (hj.mp y)]; exact ih _ _ (fun i a b => h i (by omega) (by omega))
    · rw [ap_tb_f y, ap_tb_f (fun w => y (hj.mpr w))]; exact ih _ _ (fun i a b => h i (by omega) (by omega))
section
variable {pB kB pm : Int32} {fa ki bo us go ai pt kt : Nat → Int32}
theorem ax_c4 {post : Int32 → Prop} : ∀ d j x, j + d = 5 → post (ap_tb (fun i => ¬ us (6 + i) = 0) d j x) → wX_conditions_4 post pB kB pm fa ki bo us go ai pt kt (d + 1) x (nI j) := by
  intro d
  induction d with
  | zero =>
    intro j x hj h
    have : j = 5 := by omega
    subst this
    exact br_t ap_g5 h
  | succ d ih =>
    intro j x hj h
    have hj' : j < 5 := by omega
    refine br_f (ap_l5 j hj') ?_
    rw [ap_6i, ap_cl (by omega)]
    refine ⟨ap_in (by omega) (by decide), br_c (fun z => nm_r (nI_1 j) (ih _ _ (by omega) ?_)) (fun z => nm_e (nm_r (nI_1 j) (ih _ _ (by omega) ?_)))⟩
    · rw [ap_tb_f (fun w => w z)] at h; exact h
    · rw [ap_tb_t z] at h; exact h
end
section
variable {un : Int64} {fd : Int32} {bu : Int64} {sk : Int32} {th kd : Nat → Int32} {pl : Nat → Int64} {am : Nat → Int32} {ov bv : Nat → Int64}
theorem ay_c4 {post : Int32 → Prop} : ∀ d j x, j + d = 5 → post (ap_tb (fun i => ¬ th i = 0) d j x) → wY_conditions_4 post un fd bu sk th kd pl am ov bv (d + 1) x (nI j) := by
  intro d
  induction d with
  | zero =>
    intro j x hj h
    have : j = 5 := by omega
    subst this
    exact br_t ap_g5 h
  | succ d ih =>
    intro j x hj h
    have hj' : j < 5 := by omega
    refine br_f (ap_l5 j hj') ⟨ap_in hj' (by decide), ?_⟩
    rw [ap_cl (by omega)]
    refine br_c (fun z => nm_r (nI_1 j) (ih _ _ (by omega) ?_)) (fun z => nm_e (nm_r (nI_1 j) (ih _ _ (by omega) ?_)))
    · rw [ap_tb_f (fun w => w z)] at h; exact h
    · rw [ap_tb_t z] at h; exact h
theorem ay_in49 {post : SY → Prop} {i n : Nat} (hi : i < 3) (h : wY_init_49 post un fd bu sk n (nI (i + 1)) th kd (vp_updL (vp_updL (vp_updL pl (20 + 5 * i) 1) (32 + 5 * i) 1) (35 + 4 * i) 20) am ov bv) :
    wY_init_49 post un fd bu sk (n + 1) (nI i) th kd pl am ov bv := by
  have e1 : (4 * (5 + nI i)) + nI i = nI (20 + 5 * i) := ap_lt3 (P := fun i => (4 * (5 + nI i)) + nI i = nI (20 + 5 * i)) (by decide) (by decide) (by decide) i hi
  have e2 : (4 * (8 + nI i)) + nI i = nI (32 + 5 * i) := ap_lt3 (P := fun i => (4 * (8 + nI i)) + nI i = nI (32 + 5 * i)) (by decide) (by decide) (by decide) i hi
  have e3 : (4 * (8 + nI i)) + 3 = nI (35 + 4 * i) := ap_lt3 (P := fun i => (4 * (8 + nI i)) + 3 = nI (35 + 4 * i)) (by decide) (by decide) (by decide) i hi
  refine br_f (ap_l3 i hi) ?_
  rw [e1, e2, e3, ap_cl (by omega), ap_cl (by omega), ap_cl (by omega)]
  exact ⟨ap_in (by omega) (by decide), nm_e ⟨ap_in (by omega) (by decide), nm_e ⟨ap_in (by omega) (by decide), nm_e (nm_r (nI_1 i) h)⟩⟩⟩
end
theorem i_vc_conditions {k : Nat} {u : SX} {v : SY} (I : i_Rel k u v) (hk : k + 4 ≤ 2048) : wpX_conditions (fun r => wpY_conditions (fun r' => r' = r ∧ i_Rel (k + 4) u v) v) u := by
  obtain ⟨pB, kB, pm, fa, ki, bo, us, go, ai, pt, kt⟩ := u
  obtain ⟨un, fd, bu, sk, th, kd, pl, am, ov, bv⟩ := v
  have R : ap_Rel fa ki bo us go sk th kd pl am := I
  have ht := R.2.2.2.1
  refine ⟨6, ax_c4 5 0 0 rfl ⟨6, ay_c4 5 0 0 rfl ⟨ap_tb_cg 5 0 0 (fun i _ hi => ?_), I⟩⟩⟩
  rw [(ht i (by omega)).1]
theorem i_vc_goal {k : Nat} {u : SX} {v : SY} (I : i_Rel k u v) (hk : k + 4 ≤ 2048) (v1 : Int32) : wpX_goal (fun r u' => wpY_goal (fun r' v' => r' = r ∧ i_Rel (k + 4) u' v') v v1) u v1 := by
  obtain ⟨pB, kB, pm, fa, ki, bo, us, go, ai, pt, kt⟩ := u
  obtain ⟨un, fd, bu, sk, th, kd, pl, am, ov, bv⟩ := v
  have R : ap_Rel fa ki bo us go sk th kd pl am := I
  refine ax_goal (fun a b => ay_goal (fun _ _ => ⟨rfl, ?_⟩) (fun y => y.elim (fun z => absurd z a) (fun z => absurd z b))) (fun y => ay_goal (fun a b => y.elim (fun z => absurd z a) (fun z => absurd z b)) (fun _ => ⟨rfl, R⟩))
  obtain ⟨m, hm, rfl⟩ := ap_in3374 a b
  obtain ⟨⟨r1, r2, r3, r4, r5, r6⟩, s1, s2, s3, s4⟩ := R
  subst s2
  refine ⟨⟨r1, r2, r3, ?_, r5, r6⟩, s1, rfl, s3, s4⟩
  unfold ap_sg3
  exact ap_upd_p (p := fun x => ap_b 7 x.toInt) (ap_upd_p (p := fun x => ap_b 7 x.toInt) (ap_upd_p (p := fun x => ap_b 7 x.toInt) r4 (ap_num_b hm 0)) (ap_num_b hm 1)) (ap_num_b hm 2)
theorem ap_sf_b {fa : Nat → Int32} {r m : Nat} (h : ∀ j, ap_b 7 (fa j).toInt) (hm : m ≤ 3374) : ∀ j, ap_b 7 (ap_sf fa r (nI m) j).toInt := by
  unfold ap_sf
  exact ap_upd_p (p := fun x => ap_b 7 x.toInt) (ap_upd_p (p := fun x => ap_b 7 x.toInt) (ap_upd_p (p := fun x => ap_b 7 x.toInt) h (ap_num_b hm 0)) (ap_num_b hm 1)) (ap_num_b hm 2)
theorem i_vc0 : wpX_init (fun u => wpY_init (fun v => i_Rel 0 u v)) := by
  unfold wpX_init
  refine ax_setRow (r := 0) (by decide) (ax_setRow (r := 1) (by decide) (ax_setRow (r := 2) (by decide) (ax_setRow (r := 3) (by decide) (ax_setRow (r := 4) (by decide) (ax_setRow (r := 5) (by decide) ?_)))))
  refine ⟨4, ay_in49 (i := 0) (by decide) (ay_in49 (i := 1) (by decide) (ay_in49 (i := 2) (by decide) (br_t ap_g3 ?_)))⟩
  refine ⟨⟨?_, ?_, ?_, ?_, ?_, ?_⟩, rfl, rfl, ?_, ?_⟩
  · exact ap_sf_b (m := 1912) (ap_sf_b (m := 1702) (ap_sf_b (m := 1688) (ap_sf_b (m := 1912) (ap_sf_b (m := 1702) (ap_sf_b (m := 1688) (fun _ => ap_b_0) (by decide)) (by decide)) (by decide)) (by decide)) (by decide)) (by decide)
  · have p20 : ap_b 99 (20 : Int32).toInt := by unfold ap_b; decide
    have p0 : ap_b 99 (0 : Int32).toInt := by unfold ap_b; decide
    exact ap_upd_p (p := fun x => ap_b 99 x.toInt) (ap_upd_p (p := fun x => ap_b 99 x.toInt) (ap_upd_p (p := fun x => ap_b 99 x.toInt) (ap_upd_p (p := fun x => ap_b 99 x.toInt) (ap_upd_p (p := fun x => ap_b 99 x.toInt) (ap_upd_p (p := fun x => ap_b 99 x.toInt) (fun _ => p0) p0) p0) p0) p20) p20) p20
  · have q0 : (0 : Int32) = 0 ∨ (0 : Int32) = 1 ∨ (0 : Int32) = 2 := Or.inl rfl
    have q2 : (2 : Int32) = 0 ∨ (2 : Int32) = 1 ∨ (2 : Int32) = 2 := Or.inr (Or.inr rfl)
    exact ap_upd_p (p := fun x => x = 0 ∨ x = 1 ∨ x = 2) (ap_upd_p (p := fun x => x = 0 ∨ x = 1 ∨ x = 2) (ap_upd_p (p := fun x => x = 0 ∨ x = 1 ∨ x = 2) (ap_upd_p (p := fun x => x = 0 ∨ x = 1 ∨ x = 2) (ap_upd_p (p := fun x => x = 0 ∨ x = 1 ∨ x = 2) (ap_upd_p (p := fun x => x = 0 ∨ x = 1 ∨ x = 2) (fun _ => q0) q2) q2) q2) q0) q0) q0
  · exact fun _ => ap_b_0
  · have q0 : (0 : Int32) = 0 ∨ (0 : Int32) = 1 := Or.inl rfl
    have q1 : (1 : Int32) = 0 ∨ (1 : Int32) = 1 := Or.inr rfl
    exact ap_upd_p (p := fun x => x = 0 ∨ x = 1) (ap_upd_p (p := fun x => x = 0 ∨ x = 1) (ap_upd_p (p := fun x => x = 0 ∨ x = 1) (ap_upd_p (p := fun x => x = 0 ∨ x = 1) (ap_upd_p (p := fun x => x = 0 ∨ x = 1) (ap_upd_p (p := fun x => x = 0 ∨ x = 1) (fun _ => q0) q1) q1) q1) q1) q1) q1
  · exact ap_lt3 (by decide +kernel) (by decide +kernel) (by decide +kernel)
  · decide +kernel
  · decide +kernel
