/-! the owed statements: tight, redundant, whole places -/
theorem ap_ex0 {F : Nat → Nat → Int} {B : Nat → Int} {r : Nat} {Q Q' : ap_P} (p : 0 < Q.2) (p' : 0 < Q'.2) (h : ∀ i, i < 3 → ap_gi i Q Q' = 0) : ap_ex F B r Q = 0 ↔ ap_ex F B r Q' = 0 := by
  have h0 := h 0 (by decide)
  have h1 := h 1 (by decide)
  have h2 := h 2 (by decide)
  have e : Q'.2 * ap_ex F B r Q = Q.2 * ap_ex F B r Q' := by
    unfold ap_gi at h0 h1 h2
    unfold ap_ex
    grind
  constructor
  · intro z
    rw [z, Int.mul_zero] at e
    rcases Int.mul_eq_zero.mp e.symm with y | y
    · omega
    · exact y
  · intro z
    rw [z, Int.mul_zero] at e
    rcases Int.mul_eq_zero.mp e with y | y
    · omega
    · exact y
section
variable {pB kB pm : Int32} {fa ki bo us go ai pt kt : Nat → Int32}
theorem ax_t14 {post : Int32 → SX → Prop} {Q : ap_P} (hF : ∀ r i, ap_b 7 (ap_F fa r i)) (hB : ∀ r, ap_b 99 (ap_B bo r)) (hQ : ap_pb Q) (hkt : ∀ i, i < 3 → kt i = ap_i (Q.1 i)) :
    ∀ d j x, j + d = 5 → post (ap_tb (fun i => ¬ us (6 + i) = 0 ∧ ap_ex (ap_F fa) (ap_B bo) (6 + i) Q = 0) d j x) (pB, ap_i Q.2, pm, fa, ki, bo, us, go, ai, pt, kt) → wX_tight_14 post pB (ap_i Q.2) pm fa ki bo us go ai pt kt (d + 1) x (nI j) := by
  intro d
  induction d with
  | zero =>
    intro j x hj h
    have : j = 5 := by omega
    subst this
    exact br_t ap_g5 h
  | succ d ih =>
    intro j x hj h
    have hj' : j < 5 := by omega
    refine br_f (ap_l5 j hj') (nm_r (ap_6i j) ⟨ap_in (by omega) (by decide), ?_⟩)
    rw [ap_cl (by omega)]
    have he := ap_b_le (ap_ex_b hF hB hQ (6 + j)) (show 814968 ≤ 2147483647 by decide)
    refine br_c (fun z => nm_r (nI_1 j) (ih _ _ (by omega) ?_)) (fun z => ax_exK (by omega) hkt (br_c (fun y => nm_e (nm_r (nI_1 j) (ih _ _ (by omega) ?_))) (fun y => nm_r (nI_1 j) (ih _ _ (by omega) ?_))))
    · rw [ap_tb_f (fun w => w.1 z)] at h; exact h
    · rw [ap_tb_t ⟨z, (ap_i_eq0 he).mp y⟩] at h; exact h
    · rw [ap_tb_f (fun w => y ((ap_i_eq0 he).mpr w.2))] at h; exact h
theorem ax_tight {post : Int32 → SX → Prop} (hF : ∀ r i, ap_b 7 (ap_F fa r i)) (hB : ∀ r, ap_b 99 (ap_B bo r)) (hG : ∀ i, ap_b 7 (ap_G go i))
    (h0 : ∀ (pB kB pm : Int32) (ai pt kt : Nat → Int32), (∀ c, ¬ ap_C (ap_F fa) (ap_B bo) ki us c) → post (-30000000) (pB, kB, pm, fa, ki, bo, us, go, ai, pt, kt))
    (h1 : ∀ (pB kB pm : Int32) (ai pt kt : Nat → Int32) (Q : ap_P), ap_C (ap_F fa) (ap_B bo) ki us Q → (∀ c, ap_C (ap_F fa) (ap_B bo) ki us c → ¬ ap_bt (ap_G go) c Q) → ap_pb Q → post (ap_tb (fun i => ¬ us (6 + i) = 0 ∧ ap_ex (ap_F fa) (ap_B bo) (6 + i) Q = 0) 5 0 0) (pB, kB, pm, fa, ki, bo, us, go, ai, pt, kt)) :
    wpX_tight post (pB, kB, pm, fa, ki, bo, us, go, ai, pt, kt) := by
  unfold wpX_tight; dsimp only
  refine ax_findBest hF hB hG (fun pB kB pm ai pt kt hn => br_t rfl (h0 _ _ _ _ _ _ hn)) (fun pB pm ai pt kt Q q1 q2 q3 q4 q5 => br_f ap_n01 ⟨6, ?_⟩)
  exact ax_t14 hF hB q3 q5 5 0 0 rfl (h1 _ _ _ _ _ _ Q q1 q2 q3)
/-! redundant -/
theorem ax_rd70 {post : Int32 → SX → Prop} {r : Nat} {a b : Prop} {x3 z0 : Int32} (hr : r < 11) (h3 : ¬ x3 = 0 ↔ a) (hz : ¬ z0 = 0 ↔ b)
    (h1 : a ∧ b → post 1 (pB, kB, pm, fa, ki, bo, upd us r 1, go, ai, pt, kt)) (h0 : ¬ (a ∧ b) → post 0 (pB, kB, pm, fa, ki, bo, upd us r 1, go, ai, pt, kt)) : wX_redundant_70 post (nI r) x3 z0 pB kB pm fa ki bo us go ai pt kt := by
  refine ⟨ap_in hr (by decide), nm_r (by rw [ap_cl (by omega), ap_nb1]) ?_⟩
  exact br_c (fun z => h0 (fun w => h3.mpr w.1 z)) (fun z => br_c (fun y => h0 (fun w => hz.mpr w.2 y)) (fun y => h1 ⟨h3.mp z, hz.mp y⟩))
theorem ax_rd46 {post : Int32 → SX → Prop} {r : Nat} {a : Prop} {z0 : Int32} (hr : r < 11) (hF : ∀ r i, ap_b 7 (ap_F fa r i)) (hB : ∀ r, ap_b 99 (ap_B bo r)) (hz : ¬ z0 = 0 ↔ a)
    (h1 : ∀ (pB kB pm : Int32) (ai pt kt : Nat → Int32), a ∧ (ki r = 0 ∨ ∀ c, ap_C (ap_F fa) (ap_B bo) ki us c → (-1) * ap_ex (ap_F fa) (ap_B bo) r c ≤ 0) → post 1 (pB, kB, pm, fa, ki, bo, upd us r 1, go, ai, pt, kt))
    (h0 : ∀ (pB kB pm : Int32) (ai pt kt : Nat → Int32), ¬ (a ∧ (ki r = 0 ∨ ∀ c, ap_C (ap_F fa) (ap_B bo) ki us c → (-1) * ap_ex (ap_F fa) (ap_B bo) r c ≤ 0)) → post 0 (pB, kB, pm, fa, ki, bo, upd us r 1, go, ai, pt, kt)) :
    wX_redundant_46 post (nI r) z0 pB kB pm fa ki bo us go ai pt kt := by
  refine ⟨ap_in hr (by decide), ?_⟩
  rw [ap_cl (by omega)]
  refine br_c (fun z => ax_rd70 (b := ki r = 0 ∨ ∀ c, ap_C (ap_F fa) (ap_B bo) ki us c → (-1) * ap_ex (ap_F fa) (ap_B bo) r c ≤ 0) hr hz ⟨fun _ => Or.inl z, fun _ => ap_n01⟩ (h1 _ _ _ _ _ _) (h0 _ _ _ _ _ _)) (fun z => ?_)
  refine ax_staysWithin (s := -1) (Or.inr rfl) hr hF hB (fun pB kB pm ai pt kt hall => br_f ap_n01 ?_) (fun pB kB pm ai pt kt hex => br_t rfl ?_)
  · exact ax_rd70 (b := ki r = 0 ∨ ∀ c, ap_C (ap_F fa) (ap_B bo) ki us c → (-1) * ap_ex (ap_F fa) (ap_B bo) r c ≤ 0) hr hz ⟨fun _ => Or.inr hall, fun _ => ap_n01⟩ (h1 _ _ _ _ _ _) (h0 _ _ _ _ _ _)
  · refine ax_rd70 (b := ki r = 0 ∨ ∀ c, ap_C (ap_F fa) (ap_B bo) ki us c → (-1) * ap_ex (ap_F fa) (ap_B bo) r c ≤ 0) hr hz ⟨fun w => absurd rfl w, fun w => ?_⟩ (h1 _ _ _ _ _ _) (h0 _ _ _ _ _ _)
    obtain ⟨c, c1, c2⟩ := hex
    exact absurd w (fun v => v.elim z (fun y => c2 (y c c1)))
theorem ax_rd {post : Int32 → SX → Prop} {s : Nat} (hs : s < 5) (hu : ¬ us (6 + s) = 0) (hF : ∀ r i, ap_b 7 (ap_F fa r i)) (hB : ∀ r, ap_b 99 (ap_B bo r))
    (h1 : ∀ (pB kB pm : Int32) (ai pt kt : Nat → Int32), (∀ c, ap_C (ap_F fa) (ap_B bo) ki (upd us (6 + s) 0) c → ap_rk (ap_F fa) (ap_B bo) ki c (6 + s)) → post 1 (pB, kB, pm, fa, ki, bo, upd (upd us (6 + s) 0) (6 + s) 1, go, ai, pt, kt))
    (h0 : ∀ (pB kB pm : Int32) (ai pt kt : Nat → Int32), ¬ (∀ c, ap_C (ap_F fa) (ap_B bo) ki (upd us (6 + s) 0) c → ap_rk (ap_F fa) (ap_B bo) ki c (6 + s)) → post 0 (pB, kB, pm, fa, ki, bo, upd (upd us (6 + s) 0) (6 + s) 1, go, ai, pt, kt)) :
    wpX_redundant post (pB, kB, pm, fa, ki, bo, us, go, ai, pt, kt) (nI s) := by
  have key : ((ki (6 + s) = 2 ∨ ∀ c, ap_C (ap_F fa) (ap_B bo) ki (upd us (6 + s) 0) c → 1 * ap_ex (ap_F fa) (ap_B bo) (6 + s) c ≤ 0) ∧ (ki (6 + s) = 0 ∨ ∀ c, ap_C (ap_F fa) (ap_B bo) ki (upd us (6 + s) 0) c → (-1) * ap_ex (ap_F fa) (ap_B bo) (6 + s) c ≤ 0)) ↔ (∀ c, ap_C (ap_F fa) (ap_B bo) ki (upd us (6 + s) 0) c → ap_rk (ap_F fa) (ap_B bo) ki c (6 + s)) := by
    constructor
    · rintro ⟨ha, hb⟩ c hc w
      rcases w with ⟨w1, w2⟩ | ⟨w1, w2⟩
      · rcases ha with ha | ha
        · exact w2 ha
        · have := ha c hc; omega
      · rcases hb with hb | hb
        · exact w2 hb
        · have := hb c hc; omega
    · intro hall
      refine ⟨?_, ?_⟩
      · by_cases z : ki (6 + s) = 2
        · exact Or.inl z
        · refine Or.inr (fun c hc => ?_)
          have := hall c hc
          unfold ap_rk at this
          apply Decidable.byContradiction
          intro hn
          exact this (Or.inl ⟨by omega, z⟩)
      · by_cases z : ki (6 + s) = 0
        · exact Or.inl z
        · refine Or.inr (fun c hc => ?_)
          have := hall c hc
          unfold ap_rk at this
          apply Decidable.byContradiction
          intro hn
          exact this (Or.inr ⟨by omega, z⟩)
  rw [← key] at h1 h0
  unfold wpX_redundant; dsimp only
  refine ax_isCondition (fun s' hs' e hu' => br_f ap_n01 (nm_r (ap_6i s) ⟨ap_in (by omega) (by decide), nm_r (by rw [ap_cl (by omega), ap_nb0]) ⟨ap_in (by omega) (by decide), ?_⟩⟩)) (fun hn => absurd (hn s hs rfl) hu)
  rw [ap_cl (by omega)]
  refine br_c (fun z => ?_) (fun z => ?_)
  · unfold wX_redundant_41
    exact ax_rd46 (a := ki (6 + s) = 2 ∨ ∀ c, ap_C (ap_F fa) (ap_B bo) ki (upd us (6 + s) 0) c → 1 * ap_ex (ap_F fa) (ap_B bo) (6 + s) c ≤ 0) (by omega) hF hB ⟨fun _ => Or.inl z, fun _ => ap_n01⟩ h1 h0
  · refine ax_staysWithin (s := 1) (Or.inl rfl) (by omega) hF hB (fun pB kB pm ai pt kt hall => br_f ap_n01 ?_) (fun pB kB pm ai pt kt hex => br_t rfl ?_)
    · unfold wX_redundant_41
      exact ax_rd46 (a := ki (6 + s) = 2 ∨ ∀ c, ap_C (ap_F fa) (ap_B bo) ki (upd us (6 + s) 0) c → 1 * ap_ex (ap_F fa) (ap_B bo) (6 + s) c ≤ 0) (by omega) hF hB ⟨fun _ => Or.inr hall, fun _ => ap_n01⟩ h1 h0
    · refine ax_rd46 (a := ki (6 + s) = 2 ∨ ∀ c, ap_C (ap_F fa) (ap_B bo) ki (upd us (6 + s) 0) c → 1 * ap_ex (ap_F fa) (ap_B bo) (6 + s) c ≤ 0) (by omega) hF hB ⟨fun w => absurd rfl w, fun w => ?_⟩ h1 h0
      obtain ⟨c, c1, c2⟩ := hex
      exact absurd w (fun v => v.elim z (fun y => c2 (y c c1)))
theorem ax_rd_no {post : Int32 → SX → Prop} {x : Int32} (hn : ∀ k, k < 5 → x = nI k → us (6 + k) = 0) (h : post 0 (pB, kB, pm, fa, ki, bo, us, go, ai, pt, kt)) : wpX_redundant post (pB, kB, pm, fa, ki, bo, us, go, ai, pt, kt) x := by
  unfold wpX_redundant; dsimp only
  exact ax_isCondition (fun s hs e hu => absurd (hn s hs e) hu) (fun _ => br_t rfl h)
end
section
variable {un : Int64} {fd : Int32} {bu : Int64} {sk : Int32} {th kd : Nat → Int32} {pl : Nat → Int64} {am : Nat → Int32} {ov bv : Nat → Int64}
theorem ay_t41 {post : Int32 → SY → Prop} {F : Nat → Nat → Int} {B : Nat → Int} {Q : ap_P} (hM : ay_Pl F B pl) (hF : ∀ r i, ap_b 7 (F r i)) (hB : ∀ r, ap_b 99 (B r)) (hQ : ap_pb Q) (hov : ∀ i, i < 3 → ov i = ap_l (Q.1 i)) :
    ∀ d j x, j + d = 5 → post (ap_tb (fun i => ¬ th i = 0 ∧ ap_ex F B (ap_ro i) Q = 0) d j x) (ap_l Q.2, 1, bu, sk, th, kd, pl, am, ov, bv) → wY_tight_41 post (ap_l Q.2) 1 bu sk th kd pl am ov bv (d + 1) x (nI j) := by
  intro d
  induction d with
  | zero =>
    intro j x hj h
    have : j = 5 := by omega
    subst this
    exact br_t ap_g5 (br_f ap_n01 h)
  | succ d ih =>
    intro j x hj h
    have hj' : j < 5 := by omega
    refine br_f (ap_l5 j hj') (br_f ap_n01 ⟨ap_in hj' (by decide), ?_⟩)
    rw [ap_cl (by omega)]
    have he := ap_b_le (ap_ex_b hF hB hQ (ap_ro j)) (show 814968 ≤ 9000000000000000000 by decide)
    refine br_c (fun z => nm_r (nI_1 j) (ih _ _ (by omega) ?_)) (fun z => ay_left hM (by omega) hov (br_c (fun y => nm_e (nm_r (nI_1 j) (ih _ _ (by omega) ?_))) (fun y => nm_r (nI_1 j) (ih _ _ (by omega) ?_))))
    · rw [ap_tb_f (fun w => w.1 z)] at h; exact h
    · rw [ap_tb_t ⟨z, (ap_l_eq0 he).mp y⟩] at h; exact h
    · rw [ap_tb_f (fun w => y ((ap_l_eq0 he).mpr w.2))] at h; exact h
theorem ay_t16 {post : Int32 → SY → Prop} {x : Int32} {i n : Nat} (hi : i < 3) (h : wY_tight_16 post x un fd bu sk n (nI (i + 1)) th kd pl am (vp_updL ov i (bv i)) bv) : wY_tight_16 post x un fd bu sk (n + 1) (nI i) th kd pl am ov bv := by
  refine br_f (ap_l3 i hi) ⟨ap_in hi (by decide), ap_in hi (by decide), nm_r ?_ (nm_r (nI_1 i) h)⟩
  rw [ap_cl (by omega)]
theorem ay_tight {post : Int32 → SY → Prop} {F : Nat → Nat → Int} {B : Nat → Int} {K U : Nat → Int32} (hC : ay_Co F B K U sk th kd pl) (hA : ∀ i, ap_b 7 (ap_G am i))
    (h0 : ∀ (un : Int64) (fd : Int32) (bu : Int64) (ov bv : Nat → Int64), (∀ c, ¬ ap_C F B K U c) → post (-30000000) (un, fd, bu, sk, th, kd, pl, am, ov, bv))
    (h1 : ∀ (un : Int64) (fd : Int32) (bu : Int64) (ov bv : Nat → Int64) (Q : ap_P), ap_C F B K U Q → (∀ c, ap_C F B K U c → ¬ ap_bt (ap_G am) c Q) → ap_pb Q → post (ap_tb (fun i => ¬ th i = 0 ∧ ap_ex F B (ap_ro i) Q = 0) 5 0 0) (un, fd, bu, sk, th, kd, pl, am, ov, bv)) :
    wpY_tight post (un, fd, bu, sk, th, kd, pl, am, ov, bv) := by
  have hCo := hC
  obtain ⟨hF, hB, _, hM, _⟩ := hCo
  unfold wpY_tight; dsimp only
  refine ay_search hC hA (fun un bu ov bv hn => ⟨4, ?_⟩) (fun un ov bv Q q1 q2 q3 q4 => ⟨4, ?_⟩)
  · refine ay_t16 (i := 0) (by decide) (ay_t16 (i := 1) (by decide) (ay_t16 (i := 2) (by decide) (br_t ap_g3 ⟨1, br_f (by decide) (br_t rfl (br_t rfl (h0 _ _ _ _ _ hn)))⟩)))
  · refine ay_t16 (i := 0) (by decide) (ay_t16 (i := 1) (by decide) (ay_t16 (i := 2) (by decide) (br_t ap_g3 ⟨6, ay_t41 hM hF hB q3 ?_ 5 0 0 rfl (h1 _ _ _ _ _ Q q1 q2 q3)⟩)))
    refine ap_lt3 ?_ ?_ ?_
    · rw [pk_uLn (by decide), pk_uLn (by decide), pk_uLs]; exact q4 0 (by decide)
    · rw [pk_uLn (by decide), pk_uLs]; exact q4 1 (by decide)
    · rw [pk_uLs]; exact q4 2 (by decide)
theorem ay_rd {post : Int32 → SY → Prop} {F : Nat → Nat → Int} {B : Nat → Int} {K U : Nat → Int32} {s : Nat} (hs : s < 5) (hu : ¬ th s = 0) (hC : ay_Co F B K U (nI s) th kd pl)
    (h1 : ∀ (un : Int64) (ov : Nat → Int64), (∀ c, ap_C F B K U c → ap_rk F B K c (ap_ro s)) → post 1 (un, fd, bu, (-1), th, kd, pl, am, ov, bv))
    (h0 : ∀ (un : Int64) (ov : Nat → Int64), ¬ (∀ c, ap_C F B K U c → ap_rk F B K c (ap_ro s)) → post 0 (un, fd, bu, (-1), th, kd, pl, am, ov, bv)) : wpY_redundant post (un, fd, bu, sk, th, kd, pl, am, ov, bv) (nI s) := by
  unfold wpY_redundant; dsimp only
  refine ay_is (fun s' _ _ _ => ⟨1332, ay_rd13 (sk := nI s) hs hC h1 h0 1331 0 1 _ _ rfl (Or.inl ⟨rfl, fun c hc => ?_⟩)⟩) (fun hn => absurd (hn s hs rfl) hu)
  obtain ⟨_, _, _, _, _, _, h4, _⟩ := hc; omega
theorem ay_rd_no {post : Int32 → SY → Prop} {x : Int32} (hn : ∀ k, k < 5 → x = nI k → th k = 0) (h : post 0 (un, fd, bu, (-1), th, kd, pl, am, ov, bv)) : wpY_redundant post (un, fd, bu, sk, th, kd, pl, am, ov, bv) x := by
  unfold wpY_redundant; dsimp only
  exact ay_is (fun s hs e hu => absurd (hn s hs e) hu) (fun _ => ⟨1, br_f (by decide) (br_t rfl ⟨rfl, h⟩)⟩)
end
theorem i_vc_tight {k : Nat} {u : SX} {v : SY} (I : i_Rel k u v) (hk : k + 4 ≤ 2048) : wpX_tight (fun r u' => wpY_tight (fun r' v' => r' = r ∧ i_Rel (k + 4) u' v') v) u := by
  obtain ⟨pB, kB, pm, fa, ki, bo, us, go, ai, pt, kt⟩ := u
  obtain ⟨un, fd, bu, sk, th, kd, pl, am, ov, bv⟩ := v
  have R : ap_Rel fa ki bo us go sk th kd pl am := I
  have eam := ap_Rel_am R
  subst eam
  have hF := ap_Rel_F R
  have hB := ap_Rel_B R
  have hG := ap_Rel_G R
  have hC := ap_Rel_Co R
  have ht := R.2.2.2.1
  refine ax_tight hF hB hG (fun pB kB pm ai pt kt hn => ?_) (fun pB kB pm ai pt kt Q q1 q2 q3 => ?_)
  · exact ay_tight hC hG (fun un fd bu ov bv _ => ⟨rfl, R⟩) (fun un fd bu ov bv Q' p1 p2 p3 => absurd p1 (hn Q'))
  · refine ay_tight hC hG (fun un fd bu ov bv hn => absurd q1 (hn Q)) (fun un fd bu ov bv Q' p1 p2 p3 => ⟨ap_tb_cg 5 0 0 (fun i _ hi => ?_), R⟩)
    have hs := (ap_same q1 q2 p1 p2).2
    rw [(ht i (by omega)).1, ap_ro_lo (by omega), Nat.add_comm i 6, ap_ex0 q3.2.1 p3.2.1 hs]
theorem i_vc_redundant {k : Nat} {u : SX} {v : SY} (I : i_Rel k u v) (hk : k + 4 ≤ 2048) (v1 : Int32) : wpX_redundant (fun r u' => wpY_redundant (fun r' v' => r' = r ∧ i_Rel (k + 4) u' v') v v1) u v1 := by
  obtain ⟨pB, kB, pm, fa, ki, bo, us, go, ai, pt, kt⟩ := u
  obtain ⟨un, fd, bu, sk, th, kd, pl, am, ov, bv⟩ := v
  have R : ap_Rel fa ki bo us go sk th kd pl am := I
  have esk : sk = -1 := R.2.1
  subst esk
  have hF := ap_Rel_F R
  have hB := ap_Rel_B R
  have ht := R.2.2.2.1
  by_cases hn : ∀ s, s < 5 → v1 = nI s → us (6 + s) = 0
  · exact ax_rd_no hn (ay_rd_no (fun s hs e => (ht s hs).1.trans (hn s hs e)) ⟨rfl, R⟩)
  · have hex : ∃ s, s < 5 ∧ v1 = nI s ∧ ¬ us (6 + s) = 0 := Classical.byContradiction (fun h => hn (fun s hs e => Classical.byContradiction (fun hu => h ⟨s, hs, e, hu⟩)))
    obtain ⟨s, hs, rfl, hu⟩ := hex
    have hu1 : us (6 + s) = 1 := (R.1.2.2.2.2.1 (6 + s)).resolve_left hu
    have hth : ¬ th s = 0 := fun y => hu ((ht s hs).1.symm.trans y)
    have ro : ap_ro s = 6 + s := by rw [ap_ro_lo hs, Nat.add_comm]
    have hC := ap_Rel_CoR R hs
    have R' : ap_Rel fa ki bo (upd (upd us (6 + s) 0) (6 + s) 1) go (-1) th kd pl am := by
      have e : upd (upd us (6 + s) 0) (6 + s) 1 = us := by
        funext j
        by_cases z : j = 6 + s
        · subst z; rw [pk_us, hu1]
        · rw [pk_un z, pk_un z]
      rw [e]; exact R
    refine ax_rd hs hu hF hB (fun pB kB pm ai pt kt hall => ?_) (fun pB kB pm ai pt kt hall => ?_)
    · exact ay_rd hs hth hC (fun un ov _ => ⟨rfl, R'⟩) (fun un ov h => absurd (by rw [ro]; exact hall) h)
    · exact ay_rd hs hth hC (fun un ov h => absurd (by rw [ro] at h; exact h) hall) (fun un ov _ => ⟨rfl, R'⟩)
theorem ap_W1 {F : Nat → Nat → Int} {B : Nat → Int} {K U : Nat → Int32} {P : ap_P} (h : ap_W F B K U P) : P.2 = 1 := by
  obtain ⟨_, _, _, _, _, _, _, rfl⟩ := h; rfl
theorem i_vc_whole {k : Nat} {u : SX} {v : SY} (I : i_Rel k u v) (hk : k + 4 ≤ 2048) : wpX_whole (fun r u' => wpY_whole (fun r' v' => r' = r ∧ i_Rel (k + 4) u' v') v) u := by
  obtain ⟨pB, kB, pm, fa, ki, bo, us, go, ai, pt, kt⟩ := u
  obtain ⟨un, fd, bu, sk, th, kd, pl, am, ov, bv⟩ := v
  have R : ap_Rel fa ki bo us go sk th kd pl am := I
  have eam := ap_Rel_am R
  subst eam
  have hF := ap_Rel_F R
  have hB := ap_Rel_B R
  have hG := ap_Rel_G R
  have hC := ap_Rel_Co R
  unfold wpX_whole wpY_whole; dsimp only
  refine ax_findWhole hF hB hG (fun pB kB ai pt kt hn => br_t rfl ?_) (fun pB ai pt kt Q q1 q2 q3 q4 q5 => br_f ap_n01 (ax_aiK q4 q5 ?_))
  · exact ay_searchWhole hC hG (fun un bu ov bv _ => br_t rfl ⟨rfl, R⟩) (fun un ov bv Q' p1 p2 p3 p4 => absurd p1 (hn Q'))
  · refine ay_searchWhole hC hG (fun un bu ov bv hn => absurd q1 (hn Q)) (fun un ov bv Q' p1 p2 p3 p4 => br_f ap_n01 (ay_bestWorth p4 ⟨?_, R⟩))
    have h := (ap_same q1 q2 p1 p2).1
    unfold ap_g0 at h
    rw [ap_W1 q1, ap_W1 p1] at h
    rw [ap_l_i]
    dsimp only
    congr 1
    omega
theorem i_vc_wholePoint {k : Nat} {u : SX} {v : SY} (I : i_Rel k u v) (hk : k + 4 ≤ 2048) : wpX_wholePoint (fun r u' => wpY_wholePoint (fun r' v' => r' = r ∧ i_Rel (k + 4) u' v') v) u := by
  obtain ⟨pB, kB, pm, fa, ki, bo, us, go, ai, pt, kt⟩ := u
  obtain ⟨un, fd, bu, sk, th, kd, pl, am, ov, bv⟩ := v
  have R : ap_Rel fa ki bo us go sk th kd pl am := I
  have eam := ap_Rel_am R
  subst eam
  have hF := ap_Rel_F R
  have hB := ap_Rel_B R
  have hG := ap_Rel_G R
  have hC := ap_Rel_Co R
  unfold wpX_wholePoint wpY_wholePoint; dsimp only
  refine ax_findWhole hF hB hG (fun pB kB ai pt kt hn => br_t rfl ?_) (fun pB ai pt kt Q q1 q2 q3 q4 q5 => br_f ap_n01 ?_)
  · exact ay_searchWhole hC hG (fun un bu ov bv _ => br_t rfl ⟨rfl, R⟩) (fun un ov bv Q' p1 p2 p3 p4 => absurd p1 (hn Q'))
  · refine ay_searchWhole hC hG (fun un bu ov bv hn => absurd q1 (hn Q)) (fun un ov bv Q' p1 p2 p3 p4 => br_f ap_n01 ⟨?_, R⟩)
    have h := (ap_same q1 q2 p1 p2).2
    have e : ∀ i, i < 3 → Q'.1 i = Q.1 i := by
      intro i hi
      have := h i hi
      unfold ap_gi at this
      rw [ap_W1 q1, ap_W1 p1] at this
      omega
    dsimp only
    rw [p4 0 (by decide), p4 1 (by decide), p4 2 (by decide), q5 0 (by decide), q5 1 (by decide), q5 2 (by decide), e 0 (by decide), e 1 (by decide), e 2 (by decide)]
    have l21 : (21 : Int64) = ap_l 21 := by decide
    have l441 : (441 : Int64) = ap_l 441 := by decide
    have i21 : (21 : Int32) = ap_i 21 := by decide
    rw [l21, l441, i21]
    simp only [ap_l_mul, ap_l_add, ap_i_mul, ap_i_add, ap_l_i]
    congr 1
    omega
theorem i_vc_wholes {k : Nat} {u : SX} {v : SY} (I : i_Rel k u v) (hk : k + 4 ≤ 2048) : wpX_wholes (fun r u' => wpY_wholes (fun r' v' => r' = r ∧ i_Rel (k + 4) u' v') v) u := by
  obtain ⟨pB, kB, pm, fa, ki, bo, us, go, ai, pt, kt⟩ := u
  obtain ⟨un, fd, bu, sk, th, kd, pl, am, ov, bv⟩ := v
  have R : ap_Rel fa ki bo us go sk th kd pl am := I
  have hF := ap_Rel_F R
  have hB := ap_Rel_B R
  have hG := ap_Rel_G R
  have hC := ap_Rel_Co R
  unfold wpX_wholes; dsimp only
  refine ax_findWhole hF hB hG (fun pB kB ai pt kt hn => ?_) (fun pB ai pt kt Q q1 q2 q3 q4 q5 => ?_)
  · exact ay_wholes hC (fun un ov => ⟨rfl, R⟩)
  · exact ay_wholes hC (fun un ov => ⟨rfl, R⟩)
