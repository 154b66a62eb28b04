/-! the owed statements of the searches -/
theorem ap_pb_i {Q : ap_P} (h : ap_pb Q) : ap_i Q.2 = nI Q.2.toNat := by
  rw [ap_i_n]; congr 1; have := h.2.1; omega
theorem ap_pb_l {Q : ap_P} (h : ap_pb Q) : ap_l Q.2 = lN Q.2.toNat := by
  rw [ap_l_n]; congr 1; have := h.2.1; omega
theorem ap_lowQ {T T' : Int} {Q Q' : ap_P} (h : ap_pb Q) (h' : ap_pb Q') (e : T * Q'.2 - T' * Q.2 = 0) :
    T.tdiv (Nat.gcd T.natAbs Q.2.toNat : Nat) = T'.tdiv (Nat.gcd T'.natAbs Q'.2.toNat : Nat) ∧ Q.2.toNat / Nat.gcd T.natAbs Q.2.toNat = Q'.2.toNat / Nat.gcd T'.natAbs Q'.2.toNat := by
  have p := h.2.1
  have p' := h'.2.1
  refine ap_low (by omega) (by omega) ?_
  rw [Int.toNat_of_nonneg (by omega), Int.toNat_of_nonneg (by omega)]
  omega
theorem ax_lowTop {post : Int32 → Prop} {T : Int} {Q : ap_P} (hT : ap_b 1000000 T) (h : ap_pb Q) (hp : post (ap_i (T.tdiv (Nat.gcd T.natAbs Q.2.toNat : Nat)))) : wpX_lowestTop post (ap_i T) (ap_i Q.2) := by
  have p := h.2
  rw [ap_pb_i h]; exact ax_lowestTop hT (by omega) (by omega) hp
theorem ax_lowBottom {post : Int32 → Prop} {T : Int} {Q : ap_P} (hT : ap_b 1000000 T) (h : ap_pb Q) (hp : post (nI (Q.2.toNat / Nat.gcd T.natAbs Q.2.toNat))) : wpX_lowestBottom post (ap_i T) (ap_i Q.2) := by
  have p := h.2
  rw [ap_pb_i h]; exact ax_lowestBottom hT (by omega) (by omega) hp
theorem ax_isEngine {post : Int32 → Prop} {x : Int32} (h1 : ¬ (x < 0 ∨ 2 < x) → post 1) (h0 : (x < 0 ∨ 2 < x) → post 0) : wpX_isEngine post x :=
  br_c (fun z => h0 (Or.inl z)) (fun z => br_c (fun y => h0 (Or.inr y)) (fun y => h1 (fun w => w.elim z y)))
theorem ap_am3 {x : Int32} (h : ¬ x < 0) (h' : ¬ 3 ≤ x) : ∃ i, i < 3 ∧ x = nI i := by
  obtain ⟨j, hj, rfl⟩ := nI_of h
  refine ⟨j, ?_, rfl⟩
  rcases Nat.lt_or_ge j 3 with w | w
  · exact w
  · exact absurd (nI_le (a := 3) w hj) h'
theorem ap_am2 {x : Int32} (h : ¬ x < 0) (h' : ¬ 2 < x) : ∃ i, i < 3 ∧ x = nI i := by
  obtain ⟨j, hj, rfl⟩ := nI_of h
  refine ⟨j, ?_, rfl⟩
  rcases Nat.lt_or_ge j 3 with w | w
  · exact w
  · exact absurd (nI_lt (a := 2) (by omega) hj) h'
theorem ax_isAmount {post : Int32 → Prop} {x : Int32} (h1 : (∃ i, i < 3 ∧ x = nI i) → post 1) (h0 : (∀ i, i < 3 → ¬ x = nI i) → post 0) : wpX_isAmount post x := by
  refine br_c (fun z => h0 (fun i hi e => ?_)) (fun z => br_c (fun y => h0 (fun i hi e => ?_)) (fun y => h1 (ap_am3 z y)))
  · subst e; exact nI_pos (by omega) z
  · subst e; exact ap_l3 i hi y
theorem ap_same {A : Nat → Int} {S : ap_P → Prop} {Q Q' : ap_P} (h1 : S Q) (h2 : ∀ c, S c → ¬ ap_bt A c Q) (h1' : S Q') (h2' : ∀ c, S c → ¬ ap_bt A c Q') : ap_g0 A Q Q' = 0 ∧ ∀ i, i < 3 → ap_gi i Q Q' = 0 :=
  ap_bt_an (h2' Q h1) (h2 Q' h1')
section
variable {un : Int64} {fd : Int32} {bu : Int64} {sk : Int32} {th kd : Nat → Int32} {pl : Nat → Int64} {am : Nat → Int32} {ov bv : Nat → Int64}
theorem ay_isEngine {post : Int32 → Prop} {x : Int32} (h1 : ¬ (x < 0 ∨ 2 < x) → post 1) (h0 : (x < 0 ∨ 2 < x) → post 0) : wpY_isEngine post (un, fd, bu, sk, th, kd, pl, am, ov, bv) x :=
  br_c (fun z => h0 (Or.inl z)) (fun z => br_c (fun y => h0 (Or.inr y)) (fun y => h1 (fun w => w.elim z y)))
theorem ay_amount {post : Int32 → Prop} {x : Int32} (h1 : (∃ i, i < 3 ∧ x = nI i) → post 1) (h0 : (∀ i, i < 3 → ¬ x = nI i) → post 0) : wpY_amount post (un, fd, bu, sk, th, kd, pl, am, ov, bv) x := by
  refine br_c (fun z => h0 (fun i hi e => ?_)) (fun z => br_c (fun y => h0 (fun i hi e => ?_)) (fun y => h1 (ap_am2 z y)))
  · subst e; exact nI_pos (by omega) z
  · subst e
    have y' : nI 2 < nI i := y
    rw [nI_ltI (by decide) (by omega)] at y'
    omega
theorem ay_lowTop {post : Int32 → Prop} {T : Int} {Q : ap_P} (hT : ap_b 1000000 T) (h : ap_pb Q) (hp : post (ap_i (T.tdiv (Nat.gcd T.natAbs Q.2.toNat : Nat)))) : wpY_top post (un, fd, bu, sk, th, kd, pl, am, ov, bv) (ap_l T) (ap_l Q.2) := by
  have p := h.2
  rw [ap_pb_l h]; exact ay_top hT (by omega) (by omega) hp
theorem ay_lowBottom {post : Int32 → Prop} {T : Int} {Q : ap_P} (hT : ap_b 1000000 T) (h : ap_pb Q) (hp : post (nI (Q.2.toNat / Nat.gcd T.natAbs Q.2.toNat))) : wpY_bottom post (un, fd, bu, sk, th, kd, pl, am, ov, bv) (ap_l T) (ap_l Q.2) := by
  have p := h.2
  rw [ap_pb_l h]; exact ay_bottom hT (by omega) (by omega) hp
end
theorem ap_n01 : ¬ (1 : Int32) = 0 := by decide
theorem i_vc_feasible {k : Nat} {u : SX} {v : SY} (I : i_Rel k u v) (hk : k + 4 ≤ 2048) (v1 : Int32) : wpX_feasible (fun r u' => wpY_feasible (fun r' v' => r' = r ∧ i_Rel (k + 4) u' v') v v1) u v1 := by
  obtain ⟨pB, kB, pm, fa, ki, bo, us, go, ai, pt, kt⟩ := u
  obtain ⟨un, fd, bu, sk, th, kd, pl, am, ov, bv⟩ := v
  have R : ap_Rel fa ki bo us go sk th kd pl am := I
  have eam := ap_Rel_am R
  subst eam
  have hF := ap_Rel_F R
  have hB := ap_Rel_B R
  have hG := ap_Rel_G R
  have hC := ap_Rel_Co R
  unfold wpX_feasible wpY_feasible; dsimp only
  refine ax_isEngine (fun he => br_f ap_n01 ?_) (fun he => br_t rfl ?_)
  · refine ax_findBest hF hB hG (fun pB kB pm ai pt kt hn => br_t rfl ?_) (fun pB pm ai pt kt Q q1 q2 q3 q4 q5 => br_f ap_n01 ?_)
    · exact ay_search hC hG (fun un bu ov bv _ => ay_isEngine (fun _ => br_f ap_n01 (br_t rfl ⟨rfl, R⟩)) (fun y => absurd y he)) (fun un ov bv Q' p1 p2 p3 p4 => absurd p1 (hn Q'))
    · exact ay_search hC hG (fun un bu ov bv hn => absurd q1 (hn Q)) (fun un ov bv Q' p1 p2 p3 p4 => ay_isEngine (fun _ => br_f ap_n01 (br_f ap_n01 ⟨rfl, R⟩)) (fun y => absurd y he))
  · exact ay_search hC hG (fun un bu ov bv _ => ay_isEngine (fun y => absurd he y) (fun _ => br_t rfl ⟨rfl, R⟩)) (fun un ov bv Q' p1 p2 p3 p4 => ay_isEngine (fun y => absurd he y) (fun _ => br_t rfl ⟨rfl, R⟩))
theorem ap_wT {A : Nat → Int} {Q : ap_P} (hA : ∀ i, ap_b 7 (A i)) (hQ : ap_pb Q) : ap_b 1000000 (ap_w A Q) := ap_b_le (ap_w_b hA hQ) (by decide)
theorem ap_tT {Q : ap_P} (hQ : ap_pb Q) (i : Nat) : ap_b 1000000 (Q.1 i) := ap_b_le (hQ.1 i) (by decide)
theorem ap_gi_e {i : Nat} {Q Q' : ap_P} (h : ap_gi i Q Q' = 0) : Q.1 i * Q'.2 - Q'.1 i * Q.2 = 0 := by unfold ap_gi at h; omega
theorem i_vc_bestTop {k : Nat} {u : SX} {v : SY} (I : i_Rel k u v) (hk : k + 4 ≤ 2048) (v1 : Int32) : wpX_bestTop (fun r u' => wpY_bestTop (fun r' v' => r' = r ∧ i_Rel (k + 4) u' v') v v1) u v1 := by
  obtain ⟨pB, kB, pm, fa, ki, bo, us, go, ai, pt, kt⟩ := u
  obtain ⟨un, fd, bu, sk, th, kd, pl, am, ov, bv⟩ := v
  have R : ap_Rel fa ki bo us go sk th kd pl am := I
  have eam := ap_Rel_am R
  subst eam
  have hF := ap_Rel_F R
  have hB := ap_Rel_B R
  have hG := ap_Rel_G R
  have hC := ap_Rel_Co R
  unfold wpX_bestTop wpY_bestTop; dsimp only
  refine ax_isEngine (fun he => br_f ap_n01 ?_) (fun he => br_t rfl ?_)
  · refine ax_findBest hF hB hG (fun pB kB pm ai pt kt hn => br_t rfl ?_) (fun pB pm ai pt kt Q q1 q2 q3 q4 q5 => br_f ap_n01 ?_)
    · exact ay_search hC hG (fun un bu ov bv _ => ay_isEngine (fun _ => br_f ap_n01 (br_t rfl ⟨rfl, R⟩)) (fun y => absurd y he)) (fun un ov bv Q' p1 p2 p3 p4 => absurd p1 (hn Q'))
    · refine ax_aiK q4 q5 (ax_lowTop (ap_wT hG q3) q3 ?_)
      refine ay_search hC hG (fun un bu ov bv hn => absurd q1 (hn Q)) (fun un ov bv Q' p1 p2 p3 p4 => ay_isEngine (fun _ => br_f ap_n01 (br_f ap_n01 ?_)) (fun y => absurd y he))
      refine ay_bestWorth p4 (ay_lowTop (ap_wT hG p3) p3 ⟨?_, R⟩)
      rw [(ap_lowQ q3 p3 (ap_same q1 q2 p1 p2).1).1]
  · exact ay_search hC hG (fun un bu ov bv _ => ay_isEngine (fun y => absurd he y) (fun _ => br_t rfl ⟨rfl, R⟩)) (fun un ov bv Q' p1 p2 p3 p4 => ay_isEngine (fun y => absurd he y) (fun _ => br_t rfl ⟨rfl, R⟩))
theorem i_vc_bestBottom {k : Nat} {u : SX} {v : SY} (I : i_Rel k u v) (hk : k + 4 ≤ 2048) (v1 : Int32) : wpX_bestBottom (fun r u' => wpY_bestBottom (fun r' v' => r' = r ∧ i_Rel (k + 4) u' v') v v1) u v1 := by
  obtain ⟨pB, kB, pm, fa, ki, bo, us, go, ai, pt, kt⟩ := u
  obtain ⟨un, fd, bu, sk, th, kd, pl, am, ov, bv⟩ := v
  have R : ap_Rel fa ki bo us go sk th kd pl am := I
  have eam := ap_Rel_am R
  subst eam
  have hF := ap_Rel_F R
  have hB := ap_Rel_B R
  have hG := ap_Rel_G R
  have hC := ap_Rel_Co R
  unfold wpX_bestBottom wpY_bestBottom; dsimp only
  refine ax_isEngine (fun he => br_f ap_n01 ?_) (fun he => br_t rfl ?_)
  · refine ax_findBest hF hB hG (fun pB kB pm ai pt kt hn => br_t rfl ?_) (fun pB pm ai pt kt Q q1 q2 q3 q4 q5 => br_f ap_n01 ?_)
    · exact ay_search hC hG (fun un bu ov bv _ => ay_isEngine (fun _ => br_f ap_n01 (br_t rfl ⟨rfl, R⟩)) (fun y => absurd y he)) (fun un ov bv Q' p1 p2 p3 p4 => absurd p1 (hn Q'))
    · refine ax_aiK q4 q5 (ax_lowBottom (ap_wT hG q3) q3 ?_)
      refine ay_search hC hG (fun un bu ov bv hn => absurd q1 (hn Q)) (fun un ov bv Q' p1 p2 p3 p4 => ay_isEngine (fun _ => br_f ap_n01 (br_f ap_n01 ?_)) (fun y => absurd y he))
      refine ay_bestWorth p4 (ay_lowBottom (ap_wT hG p3) p3 ⟨?_, R⟩)
      rw [(ap_lowQ q3 p3 (ap_same q1 q2 p1 p2).1).2]
  · exact ay_search hC hG (fun un bu ov bv _ => ay_isEngine (fun y => absurd he y) (fun _ => br_t rfl ⟨rfl, R⟩)) (fun un ov bv Q' p1 p2 p3 p4 => ay_isEngine (fun y => absurd he y) (fun _ => br_t rfl ⟨rfl, R⟩))
theorem i_vc_pointTop {k : Nat} {u : SX} {v : SY} (I : i_Rel k u v) (hk : k + 4 ≤ 2048) (v1 : Int32) : wpX_pointTop (fun r u' => wpY_pointTop (fun r' v' => r' = r ∧ i_Rel (k + 4) u' v') v v1) u v1 := by
  obtain ⟨pB, kB, pm, fa, ki, bo, us, go, ai, pt, kt⟩ := u
  obtain ⟨un, fd, bu, sk, th, kd, pl, am, ov, bv⟩ := v
  have R : ap_Rel fa ki bo us go sk th kd pl am := I
  have eam := ap_Rel_am R
  subst eam
  have hF := ap_Rel_F R
  have hB := ap_Rel_B R
  have hG := ap_Rel_G R
  have hC := ap_Rel_Co R
  unfold wpX_pointTop wpY_pointTop; dsimp only
  refine ax_isAmount (fun he => br_f ap_n01 ?_) (fun he => br_t rfl ?_)
  · obtain ⟨i, hi, rfl⟩ := he
    have hna : ∀ {p : Prop}, (∀ j, j < 3 → ¬ nI i = nI j) → p := fun y => absurd rfl (y i hi)
    refine ax_findBest hF hB hG (fun pB kB pm ai pt kt hn => br_t rfl ?_) (fun pB pm ai pt kt Q q1 q2 q3 q4 q5 => br_f ap_n01 ⟨ap_in hi (by decide), ?_⟩)
    · exact ay_search hC hG (fun un bu ov bv _ => ay_amount (fun _ => br_f ap_n01 (br_t rfl ⟨rfl, R⟩)) (fun y => hna y)) (fun un ov bv Q' p1 p2 p3 p4 => absurd p1 (hn Q'))
    · rw [ap_cl (by omega)]; dsimp only
      rw [q5 i hi]
      refine ax_lowTop (ap_tT q3 i) q3 ?_
      refine ay_search hC hG (fun un bu ov bv hn => absurd q1 (hn Q)) (fun un ov bv Q' p1 p2 p3 p4 => ay_amount (fun _ => br_f ap_n01 (br_f ap_n01 ⟨ap_in hi (by decide), ?_⟩)) (fun y => hna y))
      dsimp only
      rw [p4 i hi]
      refine ay_lowTop (ap_tT p3 i) p3 ⟨?_, R⟩
      rw [(ap_lowQ q3 p3 (ap_gi_e ((ap_same q1 q2 p1 p2).2 i hi))).1]
  · have hna : ∀ {p : Prop}, (∃ i, i < 3 ∧ v1 = nI i) → p := fun y => y.elim (fun i z => absurd z.2 (he i z.1))
    exact ay_search hC hG (fun un bu ov bv _ => ay_amount (fun y => hna y) (fun _ => br_t rfl ⟨rfl, R⟩)) (fun un ov bv Q' p1 p2 p3 p4 => ay_amount (fun y => hna y) (fun _ => br_t rfl ⟨rfl, R⟩))
theorem i_vc_pointBottom {k : Nat} {u : SX} {v : SY} (I : i_Rel k u v) (hk : k + 4 ≤ 2048) (v1 : Int32) : wpX_pointBottom (fun r u' => wpY_pointBottom (fun r' v' => r' = r ∧ i_Rel (k + 4) u' v') v v1) u v1 := by
  obtain ⟨pB, kB, pm, fa, ki, bo, us, go, ai, pt, kt⟩ := u
  obtain ⟨un, fd, bu, sk, th, kd, pl, am, ov, bv⟩ := v
  have R : ap_Rel fa ki bo us go sk th kd pl am := I
  have eam := ap_Rel_am R
  subst eam
  have hF := ap_Rel_F R
  have hB := ap_Rel_B R
  have hG := ap_Rel_G R
  have hC := ap_Rel_Co R
  unfold wpX_pointBottom wpY_pointBottom; dsimp only
  refine ax_isAmount (fun he => br_f ap_n01 ?_) (fun he => br_t rfl ?_)
  · obtain ⟨i, hi, rfl⟩ := he
    have hna : ∀ {p : Prop}, (∀ j, j < 3 → ¬ nI i = nI j) → p := fun y => absurd rfl (y i hi)
    refine ax_findBest hF hB hG (fun pB kB pm ai pt kt hn => br_t rfl ?_) (fun pB pm ai pt kt Q q1 q2 q3 q4 q5 => br_f ap_n01 ⟨ap_in hi (by decide), ?_⟩)
    · exact ay_search hC hG (fun un bu ov bv _ => ay_amount (fun _ => br_f ap_n01 (br_t rfl ⟨rfl, R⟩)) (fun y => hna y)) (fun un ov bv Q' p1 p2 p3 p4 => absurd p1 (hn Q'))
    · rw [ap_cl (by omega)]; dsimp only
      rw [q5 i hi]
      refine ax_lowBottom (ap_tT q3 i) q3 ?_
      refine ay_search hC hG (fun un bu ov bv hn => absurd q1 (hn Q)) (fun un ov bv Q' p1 p2 p3 p4 => ay_amount (fun _ => br_f ap_n01 (br_f ap_n01 ⟨ap_in hi (by decide), ?_⟩)) (fun y => hna y))
      dsimp only
      rw [p4 i hi]
      refine ay_lowBottom (ap_tT p3 i) p3 ⟨?_, R⟩
      rw [(ap_lowQ q3 p3 (ap_gi_e ((ap_same q1 q2 p1 p2).2 i hi))).2]
  · have hna : ∀ {p : Prop}, (∃ i, i < 3 ∧ v1 = nI i) → p := fun y => y.elim (fun i z => absurd z.2 (he i z.1))
    exact ay_search hC hG (fun un bu ov bv _ => ay_amount (fun y => hna y) (fun _ => br_t rfl ⟨rfl, R⟩)) (fun un ov bv Q' p1 p2 p3 p4 => ay_amount (fun y => hna y) (fun _ => br_t rfl ⟨rfl, R⟩))
/-! reach -/
theorem ap_wE {s : Int} {P : ap_P} : ∀ i, i < 3 → ap_w (ap_E s i) P = s * P.1 i := by
  apply ap_lt3 <;> (unfold ap_w ap_E; simp)
theorem ap_rsame {s : Int} {S : ap_P → Prop} {i : Nat} {Q Q' : ap_P} (hs : s = 1 ∨ s = -1) (hi : i < 3) (h1 : S Q) (h2 : ∀ c, S c → ¬ ap_bt (ap_E s i) c Q) (h1' : S Q') (h2' : ∀ c, S c → ¬ ap_br s i c Q') : Q.1 i * Q'.2 - Q'.1 i * Q.2 = 0 := by
  have a := ap_bt_g0 (h2 Q' h1')
  have b := h2' Q h1
  unfold ap_g0 at a
  rw [ap_wE i hi, ap_wE i hi] at a
  unfold ap_br at b
  rcases hs with rfl | rfl
  · rw [Int.one_mul, Int.one_mul] at a
    rw [Int.one_mul] at b
    omega
  · have e1 : (-1 : Int) * Q'.1 i * Q.2 = -(Q'.1 i * Q.2) := by grind
    have e2 : (-1 : Int) * Q.1 i * Q'.2 = -(Q.1 i * Q'.2) := by grind
    rw [e1, e2] at a
    rw [Int.neg_mul, Int.one_mul] at b
    omega
theorem ap_w01 {w : Int32} (h : ¬ w < 0) (h' : w ≤ 1) : w = 0 ∨ w = 1 := by
  obtain ⟨j, hj, rfl⟩ := nI_of2 (M := 1) (n := 1) (by decide) h h'
  have : j = 0 ∨ j = 1 := by omega
  rcases this with rfl | rfl
  · exact Or.inl rfl
  · exact Or.inr rfl
section
variable {pB kB pm : Int32} {fa ki bo us go ai pt kt : Nat → Int32}
theorem ax_reachTop_bad {post : Int32 → SX → Prop} {x w : Int32} (h : (∀ i, i < 3 → ¬ x = nI i) ∨ (¬ w = 0 ∧ ¬ w = 1)) (hp : post (-10000000) (pB, kB, pm, fa, ki, bo, us, go, ai, pt, kt)) : wpX_reachTop post (pB, kB, pm, fa, ki, bo, us, go, ai, pt, kt) x w := by
  unfold wpX_reachTop; dsimp only
  refine ax_isAmount (fun he => br_f ap_n01 (br_c (fun _ => hp) (fun z => br_c (fun y => ?_) (fun _ => hp)))) (fun he => br_t rfl hp)
  obtain ⟨i, hi, e⟩ := he
  have w01 := ap_w01 z y
  rcases h with h | h
  · exact absurd e (h i hi)
  · exact absurd w01 (fun v => v.elim h.1 h.2)
theorem ax_reachTop_run {post : Int32 → SX → Prop} {i : Nat} {w : Int32} {s : Int} (hw : w = 0 ∨ w = 1) (hs : (w = 1 ∧ s = 1) ∨ (¬ w = 1 ∧ s = -1))
    (hF : ∀ r i, ap_b 7 (ap_F fa r i)) (hB : ∀ r, ap_b 99 (ap_B bo r)) (hi : i < 3)
    (h0 : ∀ (pB kB pm : Int32) (ai pt kt : Nat → Int32), (∀ c, ¬ ap_C (ap_F fa) (ap_B bo) ki us c) → post (-30000000) (pB, kB, pm, fa, ki, bo, us, go, ai, pt, kt))
    (h1 : ∀ (pB kB pm : Int32) (ai pt kt : Nat → Int32) (Q : ap_P), ap_C (ap_F fa) (ap_B bo) ki us Q → (∀ c, ap_C (ap_F fa) (ap_B bo) ki us c → ¬ ap_bt (ap_E s i) c Q) → ap_pb Q → post (ap_i ((Q.1 i).tdiv (Nat.gcd (Q.1 i).natAbs Q.2.toNat : Nat))) (pB, kB, pm, fa, ki, bo, us, go, ai, pt, kt)) :
    wpX_reachTop post (pB, kB, pm, fa, ki, bo, us, go, ai, pt, kt) (nI i) w := by
  unfold wpX_reachTop; dsimp only
  have n0 : ¬ w < 0 := by rcases hw with rfl | rfl <;> decide
  have n1 : w ≤ 1 := by rcases hw with rfl | rfl <;> decide
  refine ax_isAmount (fun _ => br_f ap_n01 (br_f n0 (br_t n1 ?_))) (fun he => absurd rfl (he i hi))
  refine ax_findReach hs hF hB hi (fun pB kB pm ai pt kt hn => br_t rfl (h0 _ _ _ _ _ _ hn)) (fun pB pm ai pt kt Q q1 q2 q3 q5 => br_f ap_n01 ⟨ap_in hi (by decide), ?_⟩)
  rw [ap_cl (by omega)]; dsimp only
  rw [q5 i hi]
  exact ax_lowTop (ap_tT q3 i) q3 (h1 _ _ _ _ _ _ Q q1 q2 q3)
end
section
variable {un : Int64} {fd : Int32} {bu : Int64} {sk : Int32} {th kd : Nat → Int32} {pl : Nat → Int64} {am : Nat → Int32} {ov bv : Nat → Int64}
theorem ay_reachTop_bad {post : Int32 → SY → Prop} {x w : Int32} (h : (∀ i, i < 3 → ¬ x = nI i) ∨ (¬ w = 0 ∧ ¬ w = 1)) (hp : post (-10000000) (un, fd, bu, sk, th, kd, pl, am, ov, bv)) : wpY_reachTop post (un, fd, bu, sk, th, kd, pl, am, ov, bv) x w := by
  unfold wpY_reachTop; dsimp only
  refine ay_amount (fun he => br_f ap_n01 ?_) (fun he => br_t rfl hp)
  obtain ⟨i, hi, e⟩ := he
  rcases h with h | h
  · exact absurd e (h i hi)
  · exact br_f h.1 (br_f h.2 hp)
theorem ay_reachTop_run {post : Int32 → SY → Prop} {F : Nat → Nat → Int} {B : Nat → Int} {K U : Nat → Int32} {i : Nat} {w : Int32} {s : Int} (hw : w = 0 ∨ w = 1) (hs : (w = 0 ∧ s = -1) ∨ (¬ w = 0 ∧ s = 1)) (hi : i < 3) (hC : ay_Co F B K U sk th kd pl)
    (h0 : ∀ (un : Int64) (fd : Int32) (bu : Int64) (ov bv : Nat → Int64), (∀ c, ¬ ap_C F B K U c) → post (-30000000) (un, fd, bu, sk, th, kd, pl, am, ov, bv))
    (h1 : ∀ (un : Int64) (fd : Int32) (bu : Int64) (ov bv : Nat → Int64) (Q : ap_P), ap_C F B K U Q → (∀ c, ap_C F B K U c → ¬ ap_br s i c Q) → ap_pb Q → post (ap_i ((Q.1 i).tdiv (Nat.gcd (Q.1 i).natAbs Q.2.toNat : Nat))) (un, fd, bu, sk, th, kd, pl, am, ov, bv)) :
    wpY_reachTop post (un, fd, bu, sk, th, kd, pl, am, ov, bv) (nI i) w := by
  have run : wY_reachTop_20 post (nI i) w un fd bu sk th kd pl am ov bv := by
    unfold wY_reachTop_20
    refine ay_reach hs hi hC (fun un bu ov bv hn => br_t rfl (h0 _ _ _ _ _ hn)) (fun un ov bv Q q1 q2 q3 q4 => br_f ap_n01 ⟨ap_in hi (by decide), ?_⟩)
    rw [ap_cl (by omega), q4 i hi]
    exact ay_lowTop (ap_tT q3 i) q3 (h1 _ _ _ _ _ Q q1 q2 q3)
  unfold wpY_reachTop; dsimp only
  exact ay_amount (fun _ => br_f ap_n01 (br_c (fun _ => run) (fun z0 => br_c (fun _ => run) (fun z1 => absurd hw (fun v => v.elim z0 z1))))) (fun he => absurd rfl (he i hi))
end
theorem i_vc_reachTop {k : Nat} {u : SX} {v : SY} (I : i_Rel k u v) (hk : k + 4 ≤ 2048) (v1 : Int32) (v2 : Int32) : wpX_reachTop (fun r u' => wpY_reachTop (fun r' v' => r' = r ∧ i_Rel (k + 4) u' v') v v1 v2) u v1 v2 := by
  obtain ⟨pB, kB, pm, fa, ki, bo, us, go, ai, pt, kt⟩ := u
  obtain ⟨un, fd, bu, sk, th, kd, pl, am, ov, bv⟩ := v
  have R : ap_Rel fa ki bo us go sk th kd pl am := I
  have hF := ap_Rel_F R
  have hB := ap_Rel_B R
  have hC := ap_Rel_Co R
  by_cases hb : (∀ i, i < 3 → ¬ v1 = nI i) ∨ (¬ v2 = 0 ∧ ¬ v2 = 1)
  · exact ax_reachTop_bad hb (ay_reachTop_bad hb ⟨rfl, R⟩)
  · have hi : ∃ i, i < 3 ∧ v1 = nI i := Classical.byContradiction (fun hn => hb (Or.inl (fun i hi e => hn ⟨i, hi, e⟩)))
    obtain ⟨i, hi, rfl⟩ := hi
    have w01 : v2 = 0 ∨ v2 = 1 := Classical.byContradiction (fun hn => hb (Or.inr ⟨fun e => hn (Or.inl e), fun e => hn (Or.inr e)⟩))
    obtain ⟨s, hs, hsX, hsY⟩ : ∃ s : Int, (s = 1 ∨ s = -1) ∧ ((v2 = 1 ∧ s = 1) ∨ (¬ v2 = 1 ∧ s = -1)) ∧ ((v2 = 0 ∧ s = -1) ∨ (¬ v2 = 0 ∧ s = 1)) := by
      rcases w01 with rfl | rfl
      · exact ⟨-1, Or.inr rfl, Or.inr ⟨by decide, rfl⟩, Or.inl ⟨rfl, rfl⟩⟩
      · exact ⟨1, Or.inl rfl, Or.inl ⟨rfl, rfl⟩, Or.inr ⟨by decide, rfl⟩⟩
    refine ax_reachTop_run w01 hsX hF hB hi (fun pB kB pm ai pt kt hn => ?_) (fun pB kB pm ai pt kt Q q1 q2 q3 => ?_)
    · exact ay_reachTop_run w01 hsY hi hC (fun un fd bu ov bv _ => ⟨rfl, R⟩) (fun un fd bu ov bv Q' p1 p2 p3 => absurd p1 (hn Q'))
    · refine ay_reachTop_run w01 hsY hi hC (fun un fd bu ov bv hn => absurd q1 (hn Q)) (fun un fd bu ov bv Q' p1 p2 p3 => ⟨?_, R⟩)
      rw [(ap_lowQ q3 p3 (ap_rsame hs hi q1 q2 p1 p2)).1]
section
variable {pB kB pm : Int32} {fa ki bo us go ai pt kt : Nat → Int32}
theorem ax_reachBottom_bad {post : Int32 → SX → Prop} {x w : Int32} (h : (∀ i, i < 3 → ¬ x = nI i) ∨ (¬ w = 0 ∧ ¬ w = 1)) (hp : post (-10000000) (pB, kB, pm, fa, ki, bo, us, go, ai, pt, kt)) : wpX_reachBottom post (pB, kB, pm, fa, ki, bo, us, go, ai, pt, kt) x w := by
  unfold wpX_reachBottom; dsimp only
  refine ax_isAmount (fun he => br_f ap_n01 (br_c (fun _ => hp) (fun z => br_c (fun y => ?_) (fun _ => hp)))) (fun he => br_t rfl hp)
  obtain ⟨i, hi, e⟩ := he
  have w01 := ap_w01 z y
  rcases h with h | h
  · exact absurd e (h i hi)
  · exact absurd w01 (fun v => v.elim h.1 h.2)
theorem ax_reachBottom_run {post : Int32 → SX → Prop} {i : Nat} {w : Int32} {s : Int} (hw : w = 0 ∨ w = 1) (hs : (w = 1 ∧ s = 1) ∨ (¬ w = 1 ∧ s = -1))
    (hF : ∀ r i, ap_b 7 (ap_F fa r i)) (hB : ∀ r, ap_b 99 (ap_B bo r)) (hi : i < 3)
    (h0 : ∀ (pB kB pm : Int32) (ai pt kt : Nat → Int32), (∀ c, ¬ ap_C (ap_F fa) (ap_B bo) ki us c) → post (-30000000) (pB, kB, pm, fa, ki, bo, us, go, ai, pt, kt))
    (h1 : ∀ (pB kB pm : Int32) (ai pt kt : Nat → Int32) (Q : ap_P), ap_C (ap_F fa) (ap_B bo) ki us Q → (∀ c, ap_C (ap_F fa) (ap_B bo) ki us c → ¬ ap_bt (ap_E s i) c Q) → ap_pb Q → post (nI (Q.2.toNat / Nat.gcd (Q.1 i).natAbs Q.2.toNat)) (pB, kB, pm, fa, ki, bo, us, go, ai, pt, kt)) :
    wpX_reachBottom post (pB, kB, pm, fa, ki, bo, us, go, ai, pt, kt) (nI i) w := by
  unfold wpX_reachBottom; dsimp only
  have n0 : ¬ w < 0 := by rcases hw with rfl | rfl <;> decide
  have n1 : w ≤ 1 := by rcases hw with rfl | rfl <;> decide
  refine ax_isAmount (fun _ => br_f ap_n01 (br_f n0 (br_t n1 ?_))) (fun he => absurd rfl (he i hi))
  refine ax_findReach hs hF hB hi (fun pB kB pm ai pt kt hn => br_t rfl (h0 _ _ _ _ _ _ hn)) (fun pB pm ai pt kt Q q1 q2 q3 q5 => br_f ap_n01 ⟨ap_in hi (by decide), ?_⟩)
  rw [ap_cl (by omega)]; dsimp only
  rw [q5 i hi]
  exact ax_lowBottom (ap_tT q3 i) q3 (h1 _ _ _ _ _ _ Q q1 q2 q3)
end
section
variable {un : Int64} {fd : Int32} {bu : Int64} {sk : Int32} {th kd : Nat → Int32} {pl : Nat → Int64} {am : Nat → Int32} {ov bv : Nat → Int64}
theorem ay_reachBottom_bad {post : Int32 → SY → Prop} {x w : Int32} (h : (∀ i, i < 3 → ¬ x = nI i) ∨ (¬ w = 0 ∧ ¬ w = 1)) (hp : post (-10000000) (un, fd, bu, sk, th, kd, pl, am, ov, bv)) : wpY_reachBottom post (un, fd, bu, sk, th, kd, pl, am, ov, bv) x w := by
  unfold wpY_reachBottom; dsimp only
  refine ay_amount (fun he => br_f ap_n01 ?_) (fun he => br_t rfl hp)
  obtain ⟨i, hi, e⟩ := he
  rcases h with h | h
  · exact absurd e (h i hi)
  · exact br_f h.1 (br_f h.2 hp)
theorem ay_reachBottom_run {post : Int32 → SY → Prop} {F : Nat → Nat → Int} {B : Nat → Int} {K U : Nat → Int32} {i : Nat} {w : Int32} {s : Int} (hw : w = 0 ∨ w = 1) (hs : (w = 0 ∧ s = -1) ∨ (¬ w = 0 ∧ s = 1)) (hi : i < 3) (hC : ay_Co F B K U sk th kd pl)
    (h0 : ∀ (un : Int64) (fd : Int32) (bu : Int64) (ov bv : Nat → Int64), (∀ c, ¬ ap_C F B K U c) → post (-30000000) (un, fd, bu, sk, th, kd, pl, am, ov, bv))
    (h1 : ∀ (un : Int64) (fd : Int32) (bu : Int64) (ov bv : Nat → Int64) (Q : ap_P), ap_C F B K U Q → (∀ c, ap_C F B K U c → ¬ ap_br s i c Q) → ap_pb Q → post (nI (Q.2.toNat / Nat.gcd (Q.1 i).natAbs Q.2.toNat)) (un, fd, bu, sk, th, kd, pl, am, ov, bv)) :
    wpY_reachBottom post (un, fd, bu, sk, th, kd, pl, am, ov, bv) (nI i) w := by
  have run : wY_reachBottom_20 post (nI i) w un fd bu sk th kd pl am ov bv := by
    unfold wY_reachBottom_20
    refine ay_reach hs hi hC (fun un bu ov bv hn => br_t rfl (h0 _ _ _ _ _ hn)) (fun un ov bv Q q1 q2 q3 q4 => br_f ap_n01 ⟨ap_in hi (by decide), ?_⟩)
    rw [ap_cl (by omega), q4 i hi]
    exact ay_lowBottom (ap_tT q3 i) q3 (h1 _ _ _ _ _ Q q1 q2 q3)
  unfold wpY_reachBottom; dsimp only
  exact ay_amount (fun _ => br_f ap_n01 (br_c (fun _ => run) (fun z0 => br_c (fun _ => run) (fun z1 => absurd hw (fun v => v.elim z0 z1))))) (fun he => absurd rfl (he i hi))
end
theorem i_vc_reachBottom {k : Nat} {u : SX} {v : SY} (I : i_Rel k u v) (hk : k + 4 ≤ 2048) (v1 : Int32) (v2 : Int32) : wpX_reachBottom (fun r u' => wpY_reachBottom (fun r' v' => r' = r ∧ i_Rel (k + 4) u' v') v v1 v2) u v1 v2 := by
  obtain ⟨pB, kB, pm, fa, ki, bo, us, go, ai, pt, kt⟩ := u
  obtain ⟨un, fd, bu, sk, th, kd, pl, am, ov, bv⟩ := v
  have R : ap_Rel fa ki bo us go sk th kd pl am := I
  have hF := ap_Rel_F R
  have hB := ap_Rel_B R
  have hC := ap_Rel_Co R
  by_cases hb : (∀ i, i < 3 → ¬ v1 = nI i) ∨ (¬ v2 = 0 ∧ ¬ v2 = 1)
  · exact ax_reachBottom_bad hb (ay_reachBottom_bad hb ⟨rfl, R⟩)
  · have hi : ∃ i, i < 3 ∧ v1 = nI i := Classical.byContradiction (fun hn => hb (Or.inl (fun i hi e => hn ⟨i, hi, e⟩)))
    obtain ⟨i, hi, rfl⟩ := hi
    have w01 : v2 = 0 ∨ v2 = 1 := Classical.byContradiction (fun hn => hb (Or.inr ⟨fun e => hn (Or.inl e), fun e => hn (Or.inr e)⟩))
    obtain ⟨s, hs, hsX, hsY⟩ : ∃ s : Int, (s = 1 ∨ s = -1) ∧ ((v2 = 1 ∧ s = 1) ∨ (¬ v2 = 1 ∧ s = -1)) ∧ ((v2 = 0 ∧ s = -1) ∨ (¬ v2 = 0 ∧ s = 1)) := by
      rcases w01 with rfl | rfl
      · exact ⟨-1, Or.inr rfl, Or.inr ⟨by decide, rfl⟩, Or.inl ⟨rfl, rfl⟩⟩
      · exact ⟨1, Or.inl rfl, Or.inl ⟨rfl, rfl⟩, Or.inr ⟨by decide, rfl⟩⟩
    refine ax_reachBottom_run w01 hsX hF hB hi (fun pB kB pm ai pt kt hn => ?_) (fun pB kB pm ai pt kt Q q1 q2 q3 => ?_)
    · exact ay_reachBottom_run w01 hsY hi hC (fun un fd bu ov bv _ => ⟨rfl, R⟩) (fun un fd bu ov bv Q' p1 p2 p3 => absurd p1 (hn Q'))
    · refine ay_reachBottom_run w01 hsY hi hC (fun un fd bu ov bv hn => absurd q1 (hn Q)) (fun un fd bu ov bv Q' p1 p2 p3 => ⟨?_, R⟩)
      rw [(ap_lowQ q3 p3 (ap_rsame hs hi q1 q2 p1 p2)).2]
