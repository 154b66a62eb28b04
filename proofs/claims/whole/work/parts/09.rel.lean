/-! the relation, and the calls that change the rows -/
def ap_num (x : Int32) (i : Nat) : Int32 := if i = 0 then (x - x / 15 * 15) - 7 else if i = 1 then ((x / 15) - (x / 15) / 15 * 15) - 7 else (x / 225) - 7
theorem ap_i01 : ∀ i, i < 3 → (nI i = 0 ↔ i = 0) ∧ (nI i = 1 ↔ i = 1) := ap_lt3 (by decide) (by decide) (by decide)
theorem ap_num_b {m : Nat} (hm : m ≤ 3374) (i : Nat) : ap_b 7 (ap_num (nI m) i).toInt := by
  have s7 : (7 : Int32) = ap_i 7 := by decide
  have e : ∃ q : Nat, q ≤ 14 ∧ ap_num (nI m) i = nI q - 7 := by
    unfold ap_num
    split
    · exact ⟨m % 15, by omega, by rw [← pk_rem (a := m) (d := 15) (by omega) (by decide) (by decide)]; rfl⟩
    · split
      · refine ⟨m / 15 % 15, by omega, ?_⟩
        rw [← pk_rem (a := m / 15) (d := 15) (by omega) (by decide) (by decide), ← pk_div (a := m) (d := 15) (by omega) (by decide) (by decide)]; rfl
      · exact ⟨m / 225, by omega, by rw [← pk_div (a := m) (d := 225) (by omega) (by decide) (by decide)]; rfl⟩
  obtain ⟨q, hq, e⟩ := e
  rw [e, s7, ap_i_n, ap_i_sub, ap_i_t (by unfold ap_b; omega)]
  unfold ap_b; omega
theorem ax_numberAt {post : Int32 → Prop} {x : Int32} {i : Nat} (hi : i < 3) (h : post (ap_num x i)) : wpX_numberAt post x (nI i) := by
  obtain ⟨e0, e1⟩ := ap_i01 i hi
  unfold ap_num at h
  refine br_c (fun z => ⟨by decide, ?_⟩) (fun z => br_c (fun y => ⟨by decide, by decide, ?_⟩) (fun y => ⟨by decide, ?_⟩))
  · rw [if_pos (e0.mp z)] at h; exact h
  · rw [if_neg (fun w => z (e0.mpr w)), if_pos (e1.mp y)] at h; exact h
  · rw [if_neg (fun w => z (e0.mpr w)), if_neg (fun w => y (e1.mpr w))] at h; exact h
def ap_sf (fa : Nat → Int32) (r : Nat) (x : Int32) : Nat → Int32 := upd (upd (upd fa (3 * r + 0) (ap_num x 0)) (3 * r + 1) (ap_num x 1)) (3 * r + 2) (ap_num x 2)
def ap_spl (pl : Nat → Int64) (k : Nat) (x b : Int32) : Nat → Int64 := vp_updL (vp_updL (vp_updL (vp_updL pl (4 * k + 0) (ap_num x 0).toInt64) (4 * k + 1) (ap_num x 1).toInt64) (4 * k + 2) (ap_num x 2).toInt64) (4 * k + 3) b.toInt64
def ap_sg3 (go : Nat → Int32) (x : Int32) : Nat → Int32 := upd (upd (upd go 0 (ap_num x 0)) 1 (ap_num x 1)) 2 (ap_num x 2)
theorem ap_nb1 : vp_nar .boolean 1 = 1 := rfl
theorem ap_nb0 : vp_nar .boolean 0 = 0 := rfl
section
variable {pB kB pm : Int32} {fa ki bo us go ai pt kt : Nat → Int32}
theorem ax_sr3 {post : SX → Prop} {r i n : Nat} {x k b : Int32} (hr : r < 11) (hi : i < 3) (h : wX_setRow_3 post (nI r) x k b pB kB pm n (nI (i + 1)) (upd fa (3 * r + i) (ap_num x i)) ki bo us go ai pt kt) :
    wX_setRow_3 post (nI r) x k b pB kB pm (n + 1) (nI i) fa ki bo us go ai pt kt := by
  refine br_f (ap_l3 i hi) (ax_numberAt hi ⟨?_, nm_r ?_ (nm_r (nI_1 i) h)⟩)
  · rw [ap_3i]; exact ap_in (by omega) (by decide)
  · rw [ap_3i, ap_cl (by omega)]
theorem ax_setRow {post : SX → Prop} {r : Nat} {x k b : Int32} (hr : r < 11) (h : post (pB, kB, pm, ap_sf fa r x, upd ki r k, upd bo r b, upd us r 1, go, ai, pt, kt)) : wpX_setRow post (pB, kB, pm, fa, ki, bo, us, go, ai, pt, kt) (nI r) x k b := by
  refine ⟨4, ax_sr3 (i := 0) hr (by decide) (ax_sr3 (i := 1) hr (by decide) (ax_sr3 (i := 2) hr (by decide) (br_t ap_g3 ?_)))⟩
  refine ⟨ap_in hr (by decide), nm_r (by rw [ap_cl (by omega)]) ⟨ap_in hr (by decide), nm_r (by rw [ap_cl (by omega)]) ⟨ap_in hr (by decide), nm_r (by rw [ap_cl (by omega), ap_nb1]) h⟩⟩⟩
theorem ax_areNumbers {post : Int32 → Prop} {x : Int32} (h1 : ¬ x < 0 → ¬ 3374 < x → post 1) (h0 : (x < 0 ∨ 3374 < x) → post 0) : wpX_areNumbers post x :=
  br_c (fun z => h0 (Or.inl z)) (fun z => br_c (fun y => h0 (Or.inr y)) (fun y => h1 z y))
/-- a call of add that is refused -/
def ap_bad (x k b : Int32) : Prop := (x < 0 ∨ 3374 < x) ∨ k < 0 ∨ 2 < k ∨ b < (-99) ∨ 99 < b
theorem ax_add_bad {post : Int32 → SX → Prop} {x k b : Int32} (hb : ap_bad x k b) (h : post (-10000000) (pB, kB, pm, fa, ki, bo, us, go, ai, pt, kt)) : wpX_add post (pB, kB, pm, fa, ki, bo, us, go, ai, pt, kt) x k b := by
  unfold wpX_add; dsimp only
  refine ax_areNumbers (fun x1 x2 => br_f (by decide) (br_c (fun _ => h) (fun k0 => br_c (fun k2 => br_c (fun _ => h) (fun b0 => br_c (fun b1 => absurd hb ?_) (fun _ => h))) (fun _ => h)))) (fun _ => br_t rfl h)
  rintro ((y | y) | y | y | y | y)
  · exact x1 y
  · exact x2 y
  · exact k0 y
  · exact Int32.not_lt.mpr k2 y
  · exact b0 y
  · exact Int32.not_lt.mpr b1 y
theorem ax_add37n {post : Int32 → SX → Prop} {x k b : Int32} (hn : ∀ j, j < 5 → ¬ us (6 + j) = 0) (h : post (-20000000) (pB, kB, pm, fa, ki, bo, us, go, ai, pt, kt)) : ∀ d j, j + d = 5 → wX_add_37 post x k b pB kB pm fa ki bo us go ai pt kt (d + 1) (nI j) := by
  intro d
  induction d with
  | zero =>
    intro j hj
    have : j = 5 := by omega
    subst this
    exact br_t ap_g5 h
  | succ d ih =>
    intro j hj
    have hj' : j < 5 := by omega
    refine br_f (ap_l5 j hj') ?_
    rw [ap_6i, ap_cl (by omega)]
    exact ⟨ap_in (by omega) (by decide), br_f (hn j hj') (nm_r (nI_1 j) (ih (j + 1) (by omega)))⟩
theorem ax_add37f {post : Int32 → SX → Prop} {x k b : Int32} {s : Nat} (hs : s < 5) (h0 : us (6 + s) = 0) (hl : ∀ j, j < s → ¬ us (6 + j) = 0)
    (h : post (nI s) (pB, kB, pm, ap_sf fa (6 + s) x, upd ki (6 + s) k, upd bo (6 + s) b, upd us (6 + s) 1, go, ai, pt, kt)) : ∀ d j, j + d = s → wX_add_37 post x k b pB kB pm fa ki bo us go ai pt kt (d + 1) (nI j) := by
  intro d
  induction d with
  | zero =>
    intro j hj
    have : j = s := by omega
    subst this
    refine br_f (ap_l5 j hs) ?_
    rw [ap_6i, ap_cl (by omega)]
    exact ⟨ap_in (by omega) (by decide), br_t h0 (ax_setRow (by omega) h)⟩
  | succ d ih =>
    intro j hj
    refine br_f (ap_l5 j (by omega)) ?_
    rw [ap_6i, ap_cl (by omega)]
    exact ⟨ap_in (by omega) (by decide), br_f (hl j (by omega)) (nm_r (nI_1 j) (ih (j + 1) (by omega)))⟩
theorem ax_add_ok {post : Int32 → SX → Prop} {x k b : Int32} (hb : ¬ ap_bad x k b) (h : ∃ n37, wX_add_37 post x k b pB kB pm fa ki bo us go ai pt kt n37 0) : wpX_add post (pB, kB, pm, fa, ki, bo, us, go, ai, pt, kt) x k b := by
  unfold ap_bad at hb
  unfold wpX_add; dsimp only
  refine ax_areNumbers (fun x1 x2 => br_f (by decide) (br_f (fun y => hb (Or.inr (Or.inl y))) (br_t ?_ (br_f (fun y => hb (Or.inr (Or.inr (Or.inr (Or.inl y))))) (br_t ?_ h))))) (fun y => absurd (Or.inl y) hb)
  · exact Int32.not_lt.mp (fun y => hb (Or.inr (Or.inr (Or.inl y))))
  · exact Int32.not_lt.mp (fun y => hb (Or.inr (Or.inr (Or.inr (Or.inr y)))))
theorem ax_isCondition {post : Int32 → Prop} {x : Int32} (h1 : ∀ k, k < 5 → x = nI k → ¬ us (6 + k) = 0 → post 1) (h0 : (∀ k, k < 5 → x = nI k → us (6 + k) = 0) → post 0) : wpX_isCondition post (pB, kB, pm, fa, ki, bo, us, go, ai, pt, kt) x := by
  refine br_c (fun z => h0 (fun k hk e => ?_)) (fun z => br_c (fun y => h0 (fun k hk e => ?_)) (fun y => ?_))
  · subst e; exact absurd z (nI_pos (by omega))
  · subst e; exact absurd y (ap_l5 k hk)
  · obtain ⟨k, hk, rfl⟩ := nI_of z
    have hk5 : k < 5 := by
      rcases Nat.lt_or_ge k 5 with w | w
      · exact w
      · exact absurd (nI_le (a := 5) w hk) y
    rw [ap_6i, ap_cl (by omega)]
    refine ⟨ap_in (by omega) (by decide), br_c (fun w => h0 (fun k' hk' e => ?_)) (fun w => h1 k hk5 rfl w)⟩
    rw [nI_eq hk (by omega)] at e
    subst e; exact w
theorem ax_remove {post : Int32 → SX → Prop} {x : Int32} (h1 : ∀ k, k < 5 → x = nI k → ¬ us (6 + k) = 0 → post 1 (pB, kB, pm, fa, ki, bo, upd us (6 + k) 0, go, ai, pt, kt)) (h0 : (∀ k, k < 5 → x = nI k → us (6 + k) = 0) → post 0 (pB, kB, pm, fa, ki, bo, us, go, ai, pt, kt)) : wpX_remove post (pB, kB, pm, fa, ki, bo, us, go, ai, pt, kt) x := by
  unfold wpX_remove; dsimp only
  refine ax_isCondition (fun k hk e hu => br_f (by decide) ?_) (fun hn => br_t rfl (h0 hn))
  have h := h1 k hk e hu
  subst e
  rw [ap_6i, ap_cl (by omega)]
  exact ⟨ap_in (by omega) (by decide), nm_r (by rw [ap_nb0]) h⟩
theorem ax_g11 {post : Int32 → SX → Prop} {i n : Nat} {x : Int32} (hi : i < 3) (h : wX_goal_11 post x pB kB pm n (nI (i + 1)) fa ki bo us (upd go i (ap_num x i)) ai pt kt) :
    wX_goal_11 post x pB kB pm (n + 1) (nI i) fa ki bo us go ai pt kt := by
  refine br_f (ap_l3 i hi) (ax_numberAt hi ⟨ap_in hi (by decide), nm_r ?_ (nm_r (nI_1 i) h)⟩)
  rw [ap_cl (by omega)]
theorem ax_goal {post : Int32 → SX → Prop} {x : Int32} (h1 : ¬ x < 0 → ¬ 3374 < x → post 1 (pB, kB, pm, fa, ki, bo, us, ap_sg3 go x, ai, pt, kt)) (h0 : (x < 0 ∨ 3374 < x) → post 0 (pB, kB, pm, fa, ki, bo, us, go, ai, pt, kt)) : wpX_goal post (pB, kB, pm, fa, ki, bo, us, go, ai, pt, kt) x := by
  unfold wpX_goal; dsimp only
  refine ax_areNumbers (fun a b => br_f (by decide) ⟨4, ?_⟩) (fun a => br_t rfl (h0 a))
  exact ax_g11 (i := 0) (by decide) (ax_g11 (i := 1) (by decide) (ax_g11 (i := 2) (by decide) (br_t ap_g3 (h1 a b))))
end
section
variable {un : Int64} {fd : Int32} {bu : Int64} {sk : Int32} {th kd : Nat → Int32} {pl : Nat → Int64} {am : Nat → Int32} {ov bv : Nat → Int64}
theorem ay_factor {post : Int32 → Prop} {x : Int32} {i : Nat} (hi : i < 3) (h : post (ap_num x i)) : wpY_factor post (un, fd, bu, sk, th, kd, pl, am, ov, bv) x (nI i) := by
  obtain ⟨e0, e1⟩ := ap_i01 i hi
  unfold ap_num at h
  refine br_c (fun z => ⟨by decide, ?_⟩) (fun z => br_c (fun y => ⟨by decide, by decide, ?_⟩) (fun y => ⟨by decide, ?_⟩))
  · rw [if_pos (e0.mp z)] at h; exact h
  · rw [if_neg (fun w => z (e0.mpr w)), if_pos (e1.mp y)] at h; exact h
  · rw [if_neg (fun w => z (e0.mpr w)), if_neg (fun w => y (e1.mpr w))] at h; exact h
theorem ay_isTriple {post : Int32 → Prop} {x : Int32} (h1 : ¬ x < 0 → ¬ 3374 < x → post 1) (h0 : (x < 0 ∨ 3374 < x) → post 0) : wpY_isTriple post (un, fd, bu, sk, th, kd, pl, am, ov, bv) x :=
  br_c (fun z => h0 (Or.inl z)) (fun z => br_c (fun y => h0 (Or.inr y)) (fun y => h1 z y))
theorem ay_add_bad {post : Int32 → SY → Prop} {x k b : Int32} (hb : ap_bad x k b) (h : post (-10000000) (un, fd, bu, sk, th, kd, pl, am, ov, bv)) : wpY_add post (un, fd, bu, sk, th, kd, pl, am, ov, bv) x k b := by
  unfold wpY_add; dsimp only
  refine ay_isTriple (fun x1 x2 => br_f (by decide) (br_c (fun _ => h) (fun k0 => br_c (fun _ => h) (fun k2 => br_c (fun _ => h) (fun b0 => br_c (fun b1 => absurd hb ?_) (fun _ => h)))))) (fun _ => br_t rfl h)
  rintro ((y | y) | y | y | y | y)
  · exact x1 y
  · exact x2 y
  · exact k0 y
  · exact k2 y
  · exact b0 y
  · exact Int32.not_lt.mpr b1 y
theorem ay_a70 {post : Int32 → SY → Prop} {x b : Int32} {s i n : Nat} (hs : s < 5) (hi : i < 3) (h : wY_add_70 post x b (nI s) un fd bu sk n (nI (i + 1)) th kd (vp_updL pl (4 * s + i) (ap_num x i).toInt64) am ov bv) :
    wY_add_70 post x b (nI s) un fd bu sk (n + 1) (nI i) th kd pl am ov bv := by
  refine br_f (ap_l3 i hi) (ay_factor hi ⟨?_, nm_r ?_ (nm_r (nI_1 i) h)⟩)
  · rw [ap_4i]; exact ap_in (by omega) (by decide)
  · rw [ap_4i, ap_cl (by omega)]
theorem ay_add70 {post : Int32 → SY → Prop} {x b : Int32} {s : Nat} (hs : s < 5) (h : post (nI s) (un, fd, bu, sk, th, kd, ap_spl pl s x b, am, ov, bv)) : ∃ n70, wY_add_70 post x b (nI s) un fd bu sk n70 0 th kd pl am ov bv := by
  refine ⟨4, ay_a70 (i := 0) hs (by decide) (ay_a70 (i := 1) hs (by decide) (ay_a70 (i := 2) hs (by decide) (br_t ap_g3 ?_)))⟩
  have e : (4 * nI s) + 3 = nI (4 * s + 3) := ap_4i s 3
  rw [e, ap_cl (by omega)]
  exact ⟨ap_in (by omega) (by decide), nm_e h⟩
theorem ay_add35n {post : Int32 → SY → Prop} {x k b : Int32} (hn : ∀ j, j < 5 → ¬ th j = 0) (h : post (-20000000) (un, fd, bu, sk, th, kd, pl, am, ov, bv)) : ∀ d j, j + d = 5 → wY_add_35 post x k b un fd bu sk th kd pl am ov bv (d + 1) (nI j) := by
  intro d
  induction d with
  | zero =>
    intro j hj
    have : j = 5 := by omega
    subst this
    exact br_t ap_g5 h
  | succ d ih =>
    intro j hj
    have hj' : j < 5 := by omega
    refine br_f (ap_l5 j hj') ⟨ap_in hj' (by decide), ?_⟩
    rw [ap_cl (by omega)]
    exact br_f (hn j hj') (nm_r (nI_1 j) (ih (j + 1) (by omega)))
theorem ay_add35f {post : Int32 → SY → Prop} {x k b : Int32} {s : Nat} (hs : s < 5) (h0 : th s = 0) (hl : ∀ j, j < s → ¬ th j = 0)
    (h : post (nI s) (un, fd, bu, sk, upd th s 1, upd kd s k, ap_spl pl s x b, am, ov, bv)) : ∀ d j, j + d = s → wY_add_35 post x k b un fd bu sk th kd pl am ov bv (d + 1) (nI j) := by
  intro d
  induction d with
  | zero =>
    intro j hj
    have : j = s := by omega
    subst this
    refine br_f (ap_l5 j hs) ⟨ap_in hs (by decide), ?_⟩
    rw [ap_cl (by omega)]
    exact br_t h0 ⟨ap_in hs (by decide), nm_r (by rw [ap_nb1]) ⟨ap_in hs (by decide), nm_e (ay_add70 hs h)⟩⟩
  | succ d ih =>
    intro j hj
    refine br_f (ap_l5 j (by omega)) ⟨ap_in (by omega) (by decide), ?_⟩
    rw [ap_cl (by omega)]
    exact br_f (hl j (by omega)) (nm_r (nI_1 j) (ih (j + 1) (by omega)))
theorem ay_add_ok {post : Int32 → SY → Prop} {x k b : Int32} (hb : ¬ ap_bad x k b) (h : ∃ n35, wY_add_35 post x k b un fd bu sk th kd pl am ov bv n35 0) : wpY_add post (un, fd, bu, sk, th, kd, pl, am, ov, bv) x k b := by
  unfold ap_bad at hb
  unfold wpY_add; dsimp only
  refine ay_isTriple (fun x1 x2 => br_f (by decide) (br_f (fun y => hb (Or.inr (Or.inl y))) (br_f (fun y => hb (Or.inr (Or.inr (Or.inl y)))) (br_f (fun y => hb (Or.inr (Or.inr (Or.inr (Or.inl y))))) (br_t ?_ h))))) (fun y => absurd (Or.inl y) hb)
  exact Int32.not_lt.mp (fun y => hb (Or.inr (Or.inr (Or.inr (Or.inr y)))))
theorem ay_is {post : Int32 → Prop} {x : Int32} (h1 : ∀ k, k < 5 → x = nI k → ¬ th k = 0 → post 1) (h0 : (∀ k, k < 5 → x = nI k → th k = 0) → post 0) : wpY_is post (un, fd, bu, sk, th, kd, pl, am, ov, bv) x := by
  refine br_c (fun z => h0 (fun k hk e => ?_)) (fun z => br_c (fun y => h0 (fun k hk e => ?_)) (fun y => ?_))
  · subst e; exact absurd z (nI_pos (by omega))
  · subst e; exact absurd ((ay_g4 (by omega)).mp y) (by omega)
  · obtain ⟨k, hk, rfl⟩ := nI_of z
    have hk5 : k < 5 := by
      rcases Nat.lt_or_ge k 5 with w | w
      · exact w
      · exact absurd (nI_lt (a := 4) (by omega) hk) y
    refine ⟨ap_in hk5 (by decide), ?_⟩
    rw [ap_cl (by omega)]
    refine br_c (fun w => h0 (fun k' hk' e => ?_)) (fun w => h1 k hk5 rfl w)
    rw [nI_eq hk (by omega)] at e
    subst e; exact w
theorem ay_remove {post : Int32 → SY → Prop} {x : Int32} (h1 : ∀ k, k < 5 → x = nI k → ¬ th k = 0 → post 1 (un, fd, bu, sk, upd th k 0, kd, pl, am, ov, bv)) (h0 : (∀ k, k < 5 → x = nI k → th k = 0) → post 0 (un, fd, bu, sk, th, kd, pl, am, ov, bv)) : wpY_remove post (un, fd, bu, sk, th, kd, pl, am, ov, bv) x := by
  unfold wpY_remove; dsimp only
  refine ay_is (fun k hk e hu => br_f (by decide) ?_) (fun hn => br_t rfl (h0 hn))
  have h := h1 k hk e hu
  subst e
  refine ⟨ap_in hk (by decide), nm_r ?_ h⟩
  rw [ap_nb0, ap_cl (by omega)]
theorem ay_g33 {post : Int32 → SY → Prop} {x : Int32} (h1 : ¬ x < 0 → ¬ 3374 < x → post 1 (un, fd, bu, sk, th, kd, pl, am, ov, bv)) (h0 : (x < 0 ∨ 3374 < x) → post 0 (un, fd, bu, sk, th, kd, pl, am, ov, bv)) : wY_goal_33 post x un fd bu sk th kd pl am ov bv := by
  unfold wY_goal_33
  exact ay_isTriple (fun a b => ⟨rfl, h1 a b⟩) (fun a => ⟨rfl, h0 a⟩)
theorem ay_g2 {post : Int32 → SY → Prop} {i n : Nat} {x : Int32} (hi : i < 3) (hx : ¬ x < 0) (hx' : ¬ 3374 < x) (h : wY_goal_2 post x un fd bu sk n (nI (i + 1)) th kd pl (upd am i (ap_num x i)) ov bv) :
    wY_goal_2 post x un fd bu sk (n + 1) (nI i) th kd pl am ov bv := by
  refine br_f (ap_l3 i hi) (ay_isTriple (fun _ _ => br_f (by decide) (ay_factor hi ⟨ap_in hi (by decide), nm_r ?_ (nm_r (nI_1 i) h)⟩)) (fun a => a.elim (fun y => absurd y hx) (fun y => absurd y hx')))
  rw [ap_cl (by omega)]
theorem ay_goal {post : Int32 → SY → Prop} {x : Int32} (h1 : ¬ x < 0 → ¬ 3374 < x → post 1 (un, fd, bu, sk, th, kd, pl, ap_sg3 am x, ov, bv)) (h0 : (x < 0 ∨ 3374 < x) → post 0 (un, fd, bu, sk, th, kd, pl, am, ov, bv)) : wpY_goal post (un, fd, bu, sk, th, kd, pl, am, ov, bv) x := by
  by_cases hx : x < 0 ∨ 3374 < x
  · refine ⟨4, br_f (by decide) (ay_isTriple (fun a b => hx.elim (fun y => absurd y a) (fun y => absurd y b)) (fun a => br_t rfl (ay_g33 (fun a b => hx.elim (fun y => absurd y a) (fun y => absurd y b)) h0)))⟩
  · have a : ¬ x < 0 := fun y => hx (Or.inl y)
    have b : ¬ 3374 < x := fun y => hx (Or.inr y)
    exact ⟨4, ay_g2 (i := 0) (by decide) a b (ay_g2 (i := 1) (by decide) a b (ay_g2 (i := 2) (by decide) a b (br_t ap_g3 (ay_g33 h1 (fun y => absurd y hx)))))⟩
end
