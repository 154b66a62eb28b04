/-! the reference's searches -/
def ay_S (F : Nat → Nat → Int) (B : Nat → Int) (K U : Nat → Int32) (n : Nat) (P : ap_P) : Prop :=
  ∃ a b c, a < b ∧ b < c ∧ c < 11 ∧ 121 * a + 11 * b + c < n ∧ ap_gc F B K U (ap_ro a) (ap_ro b) (ap_ro c) ∧ P = ap_co F B (ap_ro a) (ap_ro b) (ap_ro c)
theorem ap_ro_lo {a : Nat} (h : a < 5) : ap_ro a = a + 6 := by unfold ap_ro; omega
theorem ap_ro_hi {a : Nat} (h : 5 ≤ a) (h' : a < 11) : ap_ro a = a - 5 := by unfold ap_ro; omega
theorem ay_S_e {F : Nat → Nat → Int} {B : Nat → Int} {K U : Nat → Int32} (P : ap_P) : ay_S F B K U 1331 P ↔ ap_C F B K U P := by
  constructor
  · rintro ⟨a, b, c, h1, h2, h3, h4, h5, h6⟩
    rcases Nat.lt_or_ge c 5 with z | z
    · rw [ap_ro_lo (by omega), ap_ro_lo (by omega), ap_ro_lo z] at h5 h6
      exact ⟨a + 6, b + 6, c + 6, by omega, by omega, by omega, h5, h6⟩
    · rcases Nat.lt_or_ge b 5 with y | y
      · rw [ap_ro_lo (by omega), ap_ro_lo y, ap_ro_hi z h3] at h5 h6
        rw [ap_gc_cy] at h5; rw [ap_co_cy] at h6
        exact ⟨c - 5, a + 6, b + 6, by omega, by omega, by omega, h5, h6⟩
      · rcases Nat.lt_or_ge a 5 with x | x
        · rw [ap_ro_lo x, ap_ro_hi y (by omega), ap_ro_hi z h3] at h5 h6
          rw [← ap_gc_cy] at h5; rw [← ap_co_cy] at h6
          exact ⟨b - 5, c - 5, a + 6, by omega, by omega, by omega, h5, h6⟩
        · rw [ap_ro_hi x (by omega), ap_ro_hi y (by omega), ap_ro_hi z h3] at h5 h6
          exact ⟨a - 5, b - 5, c - 5, by omega, by omega, by omega, h5, h6⟩
  · rintro ⟨p, q, r, h1, h2, h3, h5, h6⟩
    have lo : ∀ x, x < 6 → ap_ro (x + 5) = x := by intro x hx; unfold ap_ro; omega
    have hi : ∀ x, 6 ≤ x → x < 11 → ap_ro (x - 6) = x := by intro x hx hx'; unfold ap_ro; omega
    rcases Nat.lt_or_ge r 6 with z | z
    · refine ⟨p + 5, q + 5, r + 5, by omega, by omega, by omega, by omega, ?_, ?_⟩
      · rw [lo p (by omega), lo q (by omega), lo r z]; exact h5
      · rw [lo p (by omega), lo q (by omega), lo r z]; exact h6
    · rcases Nat.lt_or_ge q 6 with y | y
      · refine ⟨r - 6, p + 5, q + 5, by omega, by omega, by omega, by omega, ?_, ?_⟩
        · rw [lo p (by omega), lo q y, hi r z h3, ← ap_gc_cy]; exact h5
        · rw [lo p (by omega), lo q y, hi r z h3, ← ap_co_cy]; exact h6
      · rcases Nat.lt_or_ge p 6 with x | x
        · refine ⟨q - 6, r - 6, p + 5, by omega, by omega, by omega, by omega, ?_, ?_⟩
          · rw [lo p x, hi q y (by omega), hi r z h3, ap_gc_cy]; exact h5
          · rw [lo p x, hi q y (by omega), hi r z h3, ap_co_cy]; exact h6
        · refine ⟨p - 6, q - 6, r - 6, by omega, by omega, by omega, by omega, ?_, ?_⟩
          · rw [hi p x (by omega), hi q y (by omega), hi r z h3]; exact h5
          · rw [hi p x (by omega), hi q y (by omega), hi r z h3]; exact h6
theorem ay_S_pb {F : Nat → Nat → Int} {B : Nat → Int} {K U : Nat → Int32} {n : Nat} {P : ap_P} (hF : ∀ r i, ap_b 7 (F r i)) (hB : ∀ r, ap_b 99 (B r)) (h : ay_S F B K U n P) : ap_pb P := by
  obtain ⟨p', q', r', _, _, _, _, h5, rfl⟩ := h
  exact ap_co_pb hF hB h5.2.2.2.1
theorem ap_C_pb {F : Nat → Nat → Int} {B : Nat → Int} {K U : Nat → Int32} {P : ap_P} (hF : ∀ r i, ap_b 7 (F r i)) (hB : ∀ r, ap_b 99 (B r)) (h : ap_C F B K U P) : ap_pb P :=
  ay_S_pb hF hB ((ay_S_e P).mpr h)
theorem ay_S_no {F : Nat → Nat → Int} {B : Nat → Int} {K U : Nat → Int32} {a b c : Nat} (hb : b < 11) (hc : c < 11) (hg : ¬ (a < b ∧ b < c ∧ ap_gc F B K U (ap_ro a) (ap_ro b) (ap_ro c))) (P : ap_P) :
    ay_S F B K U (121 * a + 11 * b + c + 1) P ↔ ay_S F B K U (121 * a + 11 * b + c) P := by
  constructor
  · rintro ⟨p', q', r', h1, h2, h3, h4, h5, h6⟩
    refine ⟨p', q', r', h1, h2, h3, ?_, h5, h6⟩
    rcases Decidable.em (p' = a ∧ q' = b ∧ r' = c) with ⟨rfl, rfl, rfl⟩ | hn
    · exact absurd ⟨h1, h2, h5⟩ hg
    · omega
  · rintro ⟨p', q', r', h1, h2, h3, h4, h5, h6⟩
    exact ⟨p', q', r', h1, h2, h3, by omega, h5, h6⟩
theorem ay_S_yes {F : Nat → Nat → Int} {B : Nat → Int} {K U : Nat → Int32} {a b c : Nat} (hb : b < 11) (hc : c < 11) (h1 : a < b) (h2 : b < c) (hg : ap_gc F B K U (ap_ro a) (ap_ro b) (ap_ro c)) (P : ap_P) :
    ay_S F B K U (121 * a + 11 * b + c + 1) P ↔ ay_S F B K U (121 * a + 11 * b + c) P ∨ P = ap_co F B (ap_ro a) (ap_ro b) (ap_ro c) := by
  constructor
  · rintro ⟨p', q', r', g1, g2, g3, g4, g5, g6⟩
    rcases Decidable.em (p' = a ∧ q' = b ∧ r' = c) with ⟨rfl, rfl, rfl⟩ | hn
    · exact Or.inr g6
    · exact Or.inl ⟨p', q', r', g1, g2, g3, by omega, g5, g6⟩
  · rintro (⟨p', q', r', g1, g2, g3, g4, g5, g6⟩ | rfl)
    · exact ⟨p', q', r', g1, g2, g3, by omega, g5, g6⟩
    · exact ⟨a, b, c, h1, h2, hc, by omega, hg, rfl⟩
def ay_SI (bt : ap_P → ap_P → Prop) (S : ap_P → Prop) (fd : Int32) (bu : Int64) (bv : Nat → Int64) : Prop :=
  ∃ (m : Nat) (Q : ap_P), fd = nI m ∧ m ≤ 1 ∧ ap_inv bt S m Q ∧ (m ≠ 0 → ap_pb Q ∧ (∀ i, i < 3 → bv i = ap_l (Q.1 i)) ∧ bu = ap_l Q.2)
theorem ay_SI_cg {bt : ap_P → ap_P → Prop} {S S' : ap_P → Prop} {fd : Int32} {bu : Int64} {bv : Nat → Int64} (h : ∀ c, S' c ↔ S c) (i : ay_SI bt S fd bu bv) : ay_SI bt S' fd bu bv := by
  obtain ⟨m, Q, h1, h2, h3, h4⟩ := i
  exact ⟨m, Q, h1, h2, ap_inv_cg h h3, h4⟩
theorem ay_SI_0 {bt : ap_P → ap_P → Prop} {S : ap_P → Prop} {bu : Int64} {bv : Nat → Int64} (h : ∀ c, ¬ S c) : ay_SI bt S 0 bu bv :=
  ⟨0, (fun _ => 0, 0), rfl, Nat.zero_le _, ⟨fun _ => h, fun z => absurd rfl z⟩, fun z => absurd rfl z⟩
section
variable {un : Int64} {fd : Int32} {bu : Int64} {sk : Int32} {th kd : Nat → Int32} {pl : Nat → Int64} {am : Nat → Int32} {ov bv : Nat → Int64}
theorem ay_worth {post : Int64 → Prop} {P : ap_P} (hov : ∀ i, i < 3 → ov i = ap_l (P.1 i)) (h : post (ap_l (ap_w (ap_G am) P))) : wpY_worth post (un, fd, bu, sk, th, kd, pl, am, ov, bv) := by
  unfold wpY_worth; dsimp only
  rw [hov 0 (by decide), hov 1 (by decide), hov 2 (by decide), ap_x_l, ap_x_l, ap_x_l]
  simp only [ap_l_mul, ap_l_add]
  exact h
theorem ay_bestWorth {post : Int64 → Prop} {P : ap_P} (hbv : ∀ i, i < 3 → bv i = ap_l (P.1 i)) (h : post (ap_l (ap_w (ap_G am) P))) : wpY_bestWorth post (un, fd, bu, sk, th, kd, pl, am, ov, bv) := by
  unfold wpY_bestWorth; dsimp only
  rw [hbv 0 (by decide), hbv 1 (by decide), hbv 2 (by decide), ap_x_l, ap_x_l, ap_x_l]
  simp only [ap_l_mul, ap_l_add]
  exact h
theorem ay_k15 {post : SY → Prop} {i n : Nat} (hi : i < 3) (h : wY_keep_15 post un fd bu sk n (nI (i + 1)) th kd pl am ov (vp_updL bv i (ov i))) :
    wY_keep_15 post un fd bu sk (n + 1) (nI i) th kd pl am ov bv := by
  refine br_f (ap_l3 i hi) ⟨ap_in hi (by decide), ap_in hi (by decide), nm_r ?_ (nm_r (nI_1 i) h)⟩
  rw [ap_cl (by omega)]
theorem ay_keep {post : SY → Prop} (h : ∀ bv' : Nat → Int64, (∀ i, i < 3 → bv' i = ov i) → post (un, 1, un, sk, th, kd, pl, am, ov, bv')) : wpY_keep post (un, fd, bu, sk, th, kd, pl, am, ov, bv) := by
  refine ⟨4, ay_k15 (i := 0) (by decide) (ay_k15 (i := 1) (by decide) (ay_k15 (i := 2) (by decide) (br_t ap_g3 (h _ ?_))))⟩
  exact ap_lt3 (by rw [pk_uLn (by decide), pk_uLn (by decide), pk_uLs]) (by rw [pk_uLn (by decide), pk_uLs]) (by rw [pk_uLs])
theorem ay_b63 {post : Int32 → Prop} {g : Int} (hb : ap_b 9000000000000000000 g) (h1 : 0 < g → post 1) (h0 : ¬ 0 < g → post 0) : wY_better_63 post (ap_l g) un fd bu sk th kd pl am ov bv :=
  br_c (fun z => h0 (by rw [ap_l_le0 hb] at z; omega)) (fun z => h1 (by rw [ap_l_le0 hb] at z; omega))
theorem ay_b22 {post : Int32 → Prop} {P Q : ap_P} {i n : Nat} {g : Int} (hi : i < 3) (hb : ap_b 9000000000000000000 g) (hov : ∀ i, i < 3 → ov i = ap_l (P.1 i)) (hbv : ∀ i, i < 3 → bv i = ap_l (Q.1 i))
    (h1 : 0 < g → post 1) (h0 : g < 0 → post 0) (h : g = 0 → wY_better_22 post (ap_l P.2) fd (ap_l Q.2) sk th kd pl am ov bv n (ap_l (ap_gi i P Q)) (nI (i + 1))) :
    wY_better_22 post (ap_l P.2) fd (ap_l Q.2) sk th kd pl am ov bv (n + 1) (ap_l g) (nI i) := by
  refine br_f (ap_l3 i hi) (br_c (fun z => ⟨ap_in hi (by decide), ap_in hi (by decide), nm_r ?_ (nm_r (nI_1 i) (h ((ap_l_eq0 hb).mp z)))⟩) (fun z => ay_b63 hb h1 (fun y => h0 ?_)))
  · rw [ap_cl (by omega), hov i hi, hbv i hi, ap_l_mul, ap_l_mul, ap_l_sub]; rfl
  · rw [ap_l_eq0 hb] at z; omega
theorem ay_better {post : Int32 → Prop} {P Q : ap_P} (hA : ∀ i, ap_b 7 (ap_G am i)) (hP : ap_pb P) (hQ : ap_pb Q) (hov : ∀ i, i < 3 → ov i = ap_l (P.1 i)) (hbv : ∀ i, i < 3 → bv i = ap_l (Q.1 i))
    (h1 : ap_bt (ap_G am) P Q → post 1) (h0 : ¬ ap_bt (ap_G am) P Q → post 0) : wpY_better post (ap_l P.2, fd, ap_l Q.2, sk, th, kd, pl, am, ov, bv) := by
  unfold wpY_better; dsimp only
  unfold ap_bt at h1 h0
  refine ay_worth hov (ay_bestWorth hbv (nm_r (e' := ap_l (ap_g0 (ap_G am) P Q)) ?_ ⟨4, ?_⟩))
  · rw [ap_l_mul, ap_l_mul, ap_l_sub]; rfl
  · have hb := ap_b_le (ap_g0_b hA hP hQ) (show 2515806216 ≤ 9000000000000000000 by decide)
    have hi := fun i => ap_b_le (ap_gi_b hP hQ i) (show 119800296 ≤ 9000000000000000000 by decide)
    refine ay_b22 (i := 0) (by decide) hb hov hbv (fun a => h1 (by omega)) (fun a => h0 (by omega)) (fun a0 => ?_)
    refine ay_b22 (i := 1) (by decide) (hi 0) hov hbv (fun a => h1 (by omega)) (fun a => h0 (by omega)) (fun a1 => ?_)
    refine ay_b22 (i := 2) (by decide) (hi 1) hov hbv (fun a => h1 (by omega)) (fun a => h0 (by omega)) (fun a2 => ?_)
    exact br_t ap_g3 (ay_b63 (hi 2) (fun a => h1 (by omega)) (fun a => h0 (by omega)))
theorem ay_l1331 (n : Nat) (h : n < 1331) : ¬ (1331 : Int32) ≤ nI n := nI_ge (b := 1331) h (by decide)
theorem ay_g1331 : (1331 : Int32) ≤ nI 1331 := by decide
theorem ay_s7 {post : SY → Prop} {F : Nat → Nat → Int} {B : Nat → Int} {K U : Nat → Int32} (hC : ay_Co F B K U sk th kd pl) (hA : ∀ i, ap_b 7 (ap_G am i))
    (h : ∀ (un : Int64) (fd : Int32) (bu : Int64) (ov bv : Nat → Int64), ay_SI (ap_bt (ap_G am)) (ap_C F B K U) fd bu bv → post (un, fd, bu, sk, th, kd, pl, am, ov, bv)) :
    ∀ (d n : Nat) (un : Int64) (fd : Int32) (bu : Int64) (ov bv : Nat → Int64), n + d = 1331 → ay_SI (ap_bt (ap_G am)) (ay_S F B K U n) fd bu bv → wY_search_7 post (d + 1) (nI n) un fd bu sk th kd pl am ov bv := by
  intro d
  induction d with
  | zero =>
    intro n un fd bu ov bv hn hi
    have : n = 1331 := by omega
    subst this
    exact br_t ay_g1331 (h _ _ _ _ _ (ay_SI_cg (fun c => (ay_S_e c).symm) hi))
  | succ d ih =>
    intro n un fd bu ov bv hn hi
    have hn' : n < 1331 := by omega
    refine br_f (ay_l1331 n hn') ?_
    obtain ⟨a, b, c, ha, hb, hc, e⟩ : ∃ a b c, a < 11 ∧ b < 11 ∧ c < 11 ∧ n = 121 * a + 11 * b + c := ⟨n / 121, n / 11 % 11, n % 11, by omega, by omega, by omega, by omega⟩
    subst e
    have hCo := hC
    obtain ⟨hF, hB, _⟩ := hCo
    refine ay_corner hC ha hb hc (fun h1 h2 hg ov' hov => br_f (by decide) ?_) (fun hg un' ov' => br_t rfl (nm_r (nI_1 _) (ih _ _ _ _ _ _ (by omega) (ay_SI_cg (ay_S_no hb hc hg) hi))))
    have hP : ap_pb (ap_co F B (ap_ro a) (ap_ro b) (ap_ro c)) := ap_co_pb hF hB hg.2.2.2.1
    have hS := ay_S_yes (F := F) (B := B) (K := K) (U := U) hb hc h1 h2 hg
    obtain ⟨m, Q, rfl, m1, h3, h4⟩ := hi
    have kp : (m = 0 ∨ ap_bt (ap_G am) (ap_co F B (ap_ro a) (ap_ro b) (ap_ro c)) Q) → wY_search_36 post (wY_search_7 post (d + 1)) (nI (121 * a + 11 * b + c)) (ap_l (ap_co F B (ap_ro a) (ap_ro b) (ap_ro c)).2) (nI m) bu sk th kd pl am ov' bv := by
      intro hb'
      unfold wY_search_36
      refine ay_keep (fun bv' hbv => nm_r (nI_1 _) (ih _ _ _ _ _ _ (by omega) ⟨1, _, rfl, Nat.le_refl 1, ap_inv_new h3 hS (by decide) (ap_bt_ir _ _) ?_ hb', fun _ => ⟨hP, fun i hi => (hbv i hi).trans (hov i hi), rfl⟩⟩))
      exact fun c hc hk x y => ap_bt_tr (ay_S_pb hF hB hc).2.1 hP.2.1 (ay_S_pb hF hB hk).2.1 x y
    refine br_c (fun z => kp (Or.inl ?_)) (fun z => ?_)
    · rw [ap_i_n, ap_i_eq0 (ap_b_n (by omega))] at z; omega
    · have z' : m ≠ 0 := by intro y; subst y; exact z rfl
      obtain ⟨q1, q2, q3⟩ := h4 z'
      subst q3
      refine ay_better hA hP q1 hov q2 (fun b => br_f (by decide) (kp (Or.inr b))) (fun b => br_t rfl (nm_r (nI_1 _) (ih _ _ _ _ _ _ (by omega) ?_)))
      exact ⟨m, Q, rfl, m1, ap_inv_keep h3 hS z' z' b, h4⟩
theorem ay_SI_fin {post : SY → Prop} {bt : ap_P → ap_P → Prop} {S : ap_P → Prop} (i : ay_SI bt S fd bu bv)
    (h0 : (∀ c, ¬ S c) → fd = 0 → post (un, fd, bu, sk, th, kd, pl, am, ov, bv)) (h1 : ∀ Q, S Q → (∀ c, S c → ¬ bt c Q) → ap_pb Q → (∀ i, i < 3 → bv i = ap_l (Q.1 i)) → bu = ap_l Q.2 → fd = 1 → post (un, fd, bu, sk, th, kd, pl, am, ov, bv)) : post (un, fd, bu, sk, th, kd, pl, am, ov, bv) := by
  obtain ⟨m, Q, rfl, m1, h3, h4⟩ := i
  by_cases z : m = 0
  · subst z; exact h0 (h3.1 rfl) rfl
  · obtain ⟨q1, q2, q3⟩ := h4 z
    obtain ⟨s1, s2⟩ := h3.2 z
    have : m = 1 := by omega
    subst this
    exact h1 Q s1 s2 q1 q2 q3 rfl
theorem ay_search {post : SY → Prop} {F : Nat → Nat → Int} {B : Nat → Int} {K U : Nat → Int32} (hC : ay_Co F B K U sk th kd pl) (hA : ∀ i, ap_b 7 (ap_G am i))
    (h0 : ∀ (un : Int64) (bu : Int64) (ov bv : Nat → Int64), (∀ c, ¬ ap_C F B K U c) → post (un, 0, bu, sk, th, kd, pl, am, ov, bv))
    (h1 : ∀ (un : Int64) (ov bv : Nat → Int64) (Q : ap_P), ap_C F B K U Q → (∀ c, ap_C F B K U c → ¬ ap_bt (ap_G am) c Q) → ap_pb Q → (∀ i, i < 3 → bv i = ap_l (Q.1 i)) → post (un, 1, ap_l Q.2, sk, th, kd, pl, am, ov, bv)) :
    wpY_search post (un, fd, bu, sk, th, kd, pl, am, ov, bv) := by
  refine ⟨1332, ay_s7 hC hA (fun un fd bu ov bv hi => ay_SI_fin hi (fun a b => ?_) (fun Q a b c d e f => ?_)) 1331 0 _ _ _ _ _ rfl (ay_SI_0 (fun c hc => ?_))⟩
  · subst b; exact h0 _ _ _ _ a
  · subst e; subst f; exact h1 _ _ _ Q a b c d
  · obtain ⟨_, _, _, _, _, _, h4, _⟩ := hc; omega
/-! reach -/
theorem ay_r7 {post : SY → Prop} {F : Nat → Nat → Int} {B : Nat → Int} {K U : Nat → Int32} {j : Nat} {w : Int32} {s : Int} (hs : (w = 0 ∧ s = -1) ∨ (¬ w = 0 ∧ s = 1)) (hj : j < 3) (hC : ay_Co F B K U sk th kd pl)
    (h : ∀ (un : Int64) (fd : Int32) (bu : Int64) (ov bv : Nat → Int64), ay_SI (ap_br s j) (ap_C F B K U) fd bu bv → post (un, fd, bu, sk, th, kd, pl, am, ov, bv)) :
    ∀ (d n : Nat) (un : Int64) (fd : Int32) (bu : Int64) (ov bv : Nat → Int64), n + d = 1331 → ay_SI (ap_br s j) (ay_S F B K U n) fd bu bv → wY_reach_7 post (nI j) w (d + 1) (nI n) un fd bu sk th kd pl am ov bv := by
  intro d
  induction d with
  | zero =>
    intro n un fd bu ov bv hn hi
    have : n = 1331 := by omega
    subst this
    exact br_t ay_g1331 (h _ _ _ _ _ (ay_SI_cg (fun c => (ay_S_e c).symm) hi))
  | succ d ih =>
    intro n un fd bu ov bv hn hi
    have hn' : n < 1331 := by omega
    refine br_f (ay_l1331 n hn') ?_
    obtain ⟨a, b, c, ha, hb, hc, e⟩ : ∃ a b c, a < 11 ∧ b < 11 ∧ c < 11 ∧ n = 121 * a + 11 * b + c := ⟨n / 121, n / 11 % 11, n % 11, by omega, by omega, by omega, by omega⟩
    subst e
    have hCo := hC
    obtain ⟨hF, hB, _⟩ := hCo
    refine ay_corner hC ha hb hc (fun h1 h2 hg ov' hov => br_f (by decide) ?_) (fun hg un' ov' => br_t rfl (nm_r (nI_1 _) (ih _ _ _ _ _ _ (by omega) (ay_SI_cg (ay_S_no hb hc hg) hi))))
    have hP : ap_pb (ap_co F B (ap_ro a) (ap_ro b) (ap_ro c)) := ap_co_pb hF hB hg.2.2.2.1
    have hS := ay_S_yes (F := F) (B := B) (K := K) (U := U) hb hc h1 h2 hg
    obtain ⟨m, Q, rfl, m1, h3, h4⟩ := hi
    have kp : (m = 0 ∨ ap_br s j (ap_co F B (ap_ro a) (ap_ro b) (ap_ro c)) Q) → wY_reach_86 post (wY_reach_7 post (nI j) w (d + 1)) (nI j) w (nI (121 * a + 11 * b + c)) (ap_l (ap_co F B (ap_ro a) (ap_ro b) (ap_ro c)).2) (nI m) bu sk th kd pl am ov' bv := by
      intro hb'
      unfold wY_reach_86
      refine ay_keep (fun bv' hbv => nm_r (nI_1 _) (ih _ _ _ _ _ _ (by omega) ⟨1, _, rfl, Nat.le_refl 1, ap_inv_new h3 hS (by decide) (ap_br_ir _ _ _) ?_ hb', fun _ => ⟨hP, fun i hi => (hbv i hi).trans (hov i hi), rfl⟩⟩))
      exact fun c hc hk x y => ap_br_tr (ay_S_pb hF hB hc).2.1 hP.2.1 (ay_S_pb hF hB hk).2.1 x y
    have em : nI m = 0 ↔ m = 0 := by rw [ap_i_n, ap_i_eq0 (ap_b_n (by omega))]; omega
    refine br_c (fun z => ?_) (fun z => ⟨ap_in hj (by decide), ap_in hj (by decide), ?_⟩)
    · exact br_t z (kp (Or.inl (em.mp z)))
    · have z' : m ≠ 0 := fun y => z (em.mpr y)
      obtain ⟨q1, q2, q3⟩ := h4 z'
      subst q3
      have stay : ¬ ap_br s j (ap_co F B (ap_ro a) (ap_ro b) (ap_ro c)) Q → wY_reach_7 post (nI j) w (d + 1) (nI (121 * a + 11 * b + c + 1)) (ap_l (ap_co F B (ap_ro a) (ap_ro b) (ap_ro c)).2) (nI m) (ap_l Q.2) sk th kd pl am ov' bv :=
        fun hn => ih _ _ _ _ _ _ (by omega) ⟨m, Q, rfl, m1, ap_inv_keep h3 hS z' z' hn, h4⟩
      rw [ap_cl (by omega), hov j hj, q2 j hj, ap_l_mul, ap_l_mul, ap_l_sub]
      have hgb := ap_b_neg (ap_b_le (ap_gi_b hP q1 j) (show 119800296 ≤ 9000000000000000000 by decide))
      have e : (ap_co F B (ap_ro a) (ap_ro b) (ap_ro c)).1 j * Q.2 - Q.1 j * (ap_co F B (ap_ro a) (ap_ro b) (ap_ro c)).2 = - ap_gi j (ap_co F B (ap_ro a) (ap_ro b) (ap_ro c)) Q := by unfold ap_gi; omega
      unfold ap_br at kp stay
      rw [e] at kp stay ⊢
      generalize - ap_gi j (ap_co F B (ap_ro a) (ap_ro b) (ap_ro c)) Q = g at *
      refine br_f z ?_
      rcases hs with ⟨rfl, rfl⟩ | ⟨hw, rfl⟩
      · refine br_t rfl (br_c (fun y => nm_r (nI_1 _) (stay ?_)) (fun y => kp (Or.inr ?_)))
        · rw [ap_l_0le hgb] at y; omega
        · rw [ap_l_0le hgb] at y; omega
      · refine br_f hw (br_c (fun y => nm_r (nI_1 _) (stay ?_)) (fun y => kp (Or.inr ?_)))
        · rw [ap_l_le0 hgb] at y; omega
        · rw [ap_l_le0 hgb] at y; omega
theorem ay_reach {post : SY → Prop} {F : Nat → Nat → Int} {B : Nat → Int} {K U : Nat → Int32} {j : Nat} {w : Int32} {s : Int} (hs : (w = 0 ∧ s = -1) ∨ (¬ w = 0 ∧ s = 1)) (hj : j < 3) (hC : ay_Co F B K U sk th kd pl)
    (h0 : ∀ (un : Int64) (bu : Int64) (ov bv : Nat → Int64), (∀ c, ¬ ap_C F B K U c) → post (un, 0, bu, sk, th, kd, pl, am, ov, bv))
    (h1 : ∀ (un : Int64) (ov bv : Nat → Int64) (Q : ap_P), ap_C F B K U Q → (∀ c, ap_C F B K U c → ¬ ap_br s j c Q) → ap_pb Q → (∀ i, i < 3 → bv i = ap_l (Q.1 i)) → post (un, 1, ap_l Q.2, sk, th, kd, pl, am, ov, bv)) :
    wpY_reach post (un, fd, bu, sk, th, kd, pl, am, ov, bv) (nI j) w := by
  refine ⟨1332, ay_r7 hs hj hC (fun un fd bu ov bv hi => ay_SI_fin hi (fun a b => ?_) (fun Q a b c d e f => ?_)) 1331 0 _ _ _ _ _ rfl (ay_SI_0 (fun c hc => ?_))⟩
  · subst b; exact h0 _ _ _ _ a
  · subst e; subst f; exact h1 _ _ _ Q a b c d
  · obtain ⟨_, _, _, _, _, _, h4, _⟩ := hc; omega
/-! redundant -/
theorem ay_rd13 {post : Int32 → SY → Prop} {F : Nat → Nat → Int} {B : Nat → Int} {K U : Nat → Int32} {k : Nat} (hk : k < 5) (hC : ay_Co F B K U sk th kd pl)
    (h1 : ∀ (un : Int64) (ov : Nat → Int64), (∀ c, ap_C F B K U c → ap_rk F B K c (ap_ro k)) → post 1 (un, fd, bu, (-1), th, kd, pl, am, ov, bv))
    (h0 : ∀ (un : Int64) (ov : Nat → Int64), ¬ (∀ c, ap_C F B K U c → ap_rk F B K c (ap_ro k)) → post 0 (un, fd, bu, (-1), th, kd, pl, am, ov, bv)) :
    ∀ (d n : Nat) (f : Int32) (un : Int64) (ov : Nat → Int64), n + d = 1331 → ((f = 1 ∧ ∀ c, ay_S F B K U n c → ap_rk F B K c (ap_ro k)) ∨ (f = 0 ∧ ¬ (∀ c, ap_C F B K U c → ap_rk F B K c (ap_ro k)))) → wY_redundant_13 post (nI k) (d + 1) f (nI n) un fd bu sk th kd pl am ov bv := by
  intro d
  induction d with
  | zero =>
    intro n f un ov hn hi
    have : n = 1331 := by omega
    subst this
    rcases hi with ⟨rfl, hi⟩ | ⟨rfl, hi⟩
    · exact br_t ay_g1331 ⟨rfl, h1 _ _ (fun c hc => hi c ((ay_S_e c).mpr hc))⟩
    · exact br_t ay_g1331 ⟨rfl, h0 _ _ hi⟩
  | succ d ih =>
    intro n f un ov hn hi
    have hn' : n < 1331 := by omega
    refine br_f (ay_l1331 n hn') ?_
    rcases hi with ⟨rfl, hi⟩ | ⟨rfl, hi⟩
    · refine br_f (by decide) ?_
      obtain ⟨a, b, c, ha, hb, hc, e⟩ : ∃ a b c, a < 11 ∧ b < 11 ∧ c < 11 ∧ n = 121 * a + 11 * b + c := ⟨n / 121, n / 11 % 11, n % 11, by omega, by omega, by omega, by omega⟩
      subst e
      have hCo := hC
      obtain ⟨hF, hB, hK, hM, hkd, _⟩ := hCo
      refine ay_corner hC ha hb hc (fun g1 g2 hg ov' hov => br_f (by decide) ?_) (fun hg un' ov' => br_t rfl (nm_r (nI_1 _) (ih _ _ _ _ (by omega) (Or.inl ⟨rfl, fun c' hc' => hi c' ((ay_S_no hb hc hg c').mp hc')⟩))))
      have hP : ap_pb (ap_co F B (ap_ro a) (ap_ro b) (ap_ro c)) := ap_co_pb hF hB hg.2.2.2.1
      have hS := ay_S_yes (F := F) (B := B) (K := K) (U := U) hb hc g1 g2 hg
      refine ay_meets hM hF hB hK hkd hk hP hov (fun hr => br_f (by decide) (nm_r (nI_1 _) (ih _ _ _ _ (by omega) (Or.inl ⟨rfl, fun c' hc' => ?_⟩)))) (fun hr => br_t rfl (nm_r (nI_1 _) (ih _ _ _ _ (by omega) (Or.inr ⟨rfl, fun hall => hr (hall _ ?_)⟩))))
      · rcases (hS c').mp hc' with x | rfl
        · exact hi c' x
        · exact hr
      · exact (ay_S_e _).mp ⟨a, b, c, g1, g2, hc, by omega, hg, rfl⟩
    · exact br_t rfl ⟨rfl, h0 _ _ hi⟩
end
