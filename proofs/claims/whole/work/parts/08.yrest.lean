/-! the reference: whole places, divisor -/
def ay_q (n : Nat) : ap_P := ap_wp (n % 21) (n / 21 % 21) (n / 441)
theorem ay_q_pb {n : Nat} (h : n < 9261) : ap_pb (ay_q n) := ap_wp_pb (by omega) (by omega) (by omega)
def ay_SW (F : Nat → Nat → Int) (B : Nat → Int) (K U : Nat → Int32) (n : Nat) (P : ap_P) : Prop := ∃ j, j < n ∧ j < 9261 ∧ ap_ok F B K U (ay_q j) ∧ P = ay_q j
theorem ay_SW_e {F : Nat → Nat → Int} {B : Nat → Int} {K U : Nat → Int32} (P : ap_P) : ay_SW F B K U 9261 P ↔ ap_W F B K U P := by
  constructor
  · rintro ⟨j, _, h2, h3, h4⟩
    exact ⟨j % 21, j / 21 % 21, j / 441, by omega, by omega, by omega, h3, h4⟩
  · rintro ⟨a, b, c, ha, hb, hc, h3, h4⟩
    have e : ay_q (a + 21 * b + 441 * c) = ap_wp a b c := by
      unfold ay_q
      rw [show (a + 21 * b + 441 * c) % 21 = a by omega, show (a + 21 * b + 441 * c) / 21 % 21 = b by omega, show (a + 21 * b + 441 * c) / 441 = c by omega]
    exact ⟨a + 21 * b + 441 * c, by omega, by omega, by rw [e]; exact h3, by rw [e]; exact h4⟩
theorem ay_SW_no {F : Nat → Nat → Int} {B : Nat → Int} {K U : Nat → Int32} {n : Nat} (hg : ¬ ap_ok F B K U (ay_q n)) (P : ap_P) : ay_SW F B K U (n + 1) P ↔ ay_SW F B K U n P := by
  constructor
  · rintro ⟨j, h1, h2, h3, h4⟩
    refine ⟨j, ?_, h2, h3, h4⟩
    rcases Decidable.em (j = n) with rfl | hn
    · exact absurd h3 hg
    · omega
  · rintro ⟨j, h1, h2, h3, h4⟩
    exact ⟨j, by omega, h2, h3, h4⟩
theorem ay_SW_yes {F : Nat → Nat → Int} {B : Nat → Int} {K U : Nat → Int32} {n : Nat} (hn : n < 9261) (hg : ap_ok F B K U (ay_q n)) (P : ap_P) : ay_SW F B K U (n + 1) P ↔ ay_SW F B K U n P ∨ P = ay_q n := by
  constructor
  · rintro ⟨j, h1, h2, h3, h4⟩
    rcases Decidable.em (j = n) with rfl | hn
    · exact Or.inr h4
    · exact Or.inl ⟨j, by omega, h2, h3, h4⟩
  · rintro (⟨j, h1, h2, h3, h4⟩ | rfl)
    · exact ⟨j, by omega, h2, h3, h4⟩
    · exact ⟨n, by omega, hn, hg, rfl⟩
theorem ay_SW_pos {F : Nat → Nat → Int} {B : Nat → Int} {K U : Nat → Int32} {n : Nat} {P : ap_P} (h : ay_SW F B K U n P) : 0 < P.2 := by
  obtain ⟨j, h1, h2, h3, rfl⟩ := h
  exact (ay_q_pb h2).2.1
theorem ay_l9261 (n : Nat) (h : n < 9261) : ¬ (9261 : Int32) ≤ nI n := nI_ge (b := 9261) h (by decide)
theorem ay_g9261 : (9261 : Int32) ≤ nI 9261 := by decide
section
variable {un : Int64} {fd : Int32} {bu : Int64} {sk : Int32} {th kd : Nat → Int32} {pl : Nat → Int64} {am : Nat → Int32} {ov bv : Nat → Int64}
theorem ay_wholeAt {post : Int32 → SY → Prop} {F : Nat → Nat → Int} {B : Nat → Int} {K U : Nat → Int32} {n : Nat} (hC : ay_Co F B K U sk th kd pl) (hn : n < 9261)
    (h1 : ap_ok F B K U (ay_q n) → ∀ ov' : Nat → Int64, (∀ i, i < 3 → ov' i = ap_l ((ay_q n).1 i)) → post 1 (ap_l (ay_q n).2, fd, bu, sk, th, kd, pl, am, ov', bv))
    (h0 : ¬ ap_ok F B K U (ay_q n) → ∀ (un' : Int64) (ov' : Nat → Int64), post 0 (un', fd, bu, sk, th, kd, pl, am, ov', bv)) :
    wpY_wholeAt post (un, fd, bu, sk, th, kd, pl, am, ov, bv) (nI n) := by
  obtain ⟨hF, hB, hK, hM, hkd, hA, hL⟩ := hC
  have e1 : (nI n - nI n / 21 * 21).toInt64 = ap_l ((n % 21 : Nat) : Int) := by
    have : nI n - nI n / nI 21 * nI 21 = nI (n % 21) := pk_rem (by omega) (by decide) (by decide)
    rw [← ap_l_n, ← nI_l (by omega), ← this]; rfl
  have e2 : (nI n / 21 - nI n / 21 / 21 * 21).toInt64 = ap_l ((n / 21 % 21 : Nat) : Int) := by
    have : nI n / nI 21 - nI n / nI 21 / nI 21 * nI 21 = nI (n / 21 % 21) := by
      rw [pk_div (by omega) (by decide) (by decide), pk_rem (by omega) (by decide) (by decide)]
    rw [← ap_l_n, ← nI_l (by omega), ← this]; rfl
  have e3 : (nI n / 441).toInt64 = ap_l ((n / 441 : Nat) : Int) := by
    have : nI n / nI 441 = nI (n / 441) := pk_div (by omega) (by decide) (by decide)
    rw [← ap_l_n, ← nI_l (by omega), ← this]; rfl
  refine ⟨by decide, nm_e ⟨by decide, by decide, nm_e ⟨by decide, nm_e ?_⟩⟩⟩
  rw [e1, e2, e3]
  have hov : ∀ i, i < 3 → (vp_updL (vp_updL (vp_updL ov 0 (ap_l ((n % 21 : Nat) : Int))) 1 (ap_l ((n / 21 % 21 : Nat) : Int))) 2 (ap_l ((n / 441 : Nat) : Int))) i = ap_l ((ay_q n).1 i) := by
    refine ap_lt3 ?_ ?_ ?_
    · rw [pk_uLn (by decide), pk_uLn (by decide), pk_uLs]; rfl
    · rw [pk_uLn (by decide), pk_uLs]; rfl
    · rw [pk_uLs]; rfl
  exact ay_inside (P := ay_q n) hM hF hB hK hkd hA hL (ay_q_pb hn) hov (fun ho => ⟨rfl, h1 ho _ hov⟩) (fun ho => ⟨rfl, h0 ho _ _⟩)
theorem ay_sw7 {post : Int32 → SY → Prop} {F : Nat → Nat → Int} {B : Nat → Int} {K U : Nat → Int32} (hC : ay_Co F B K U sk th kd pl) (hA : ∀ i, ap_b 7 (ap_G am i))
    (h : ∀ (un : Int64) (fd : Int32) (bu : Int64) (ov bv : Nat → Int64), ay_SI (ap_bt (ap_G am)) (ap_W F B K U) fd bu bv → post fd (un, fd, bu, sk, th, kd, pl, am, ov, bv)) :
    ∀ (d n : Nat) (un : Int64) (fd : Int32) (bu : Int64) (ov bv : Nat → Int64), n + d = 9261 → ay_SI (ap_bt (ap_G am)) (ay_SW F B K U n) fd bu bv → wY_searchWhole_7 post (d + 1) (nI n) un fd bu sk th kd pl am ov bv := by
  intro d
  induction d with
  | zero =>
    intro n un fd bu ov bv hn hi
    have : n = 9261 := by omega
    subst this
    refine br_t ay_g9261 ⟨?_, h _ _ _ _ _ (ay_SI_cg (fun c => (ay_SW_e c).symm) hi)⟩
    obtain ⟨m, Q, rfl, m1, _⟩ := hi
    have : m = 0 ∨ m = 1 := by omega
    rcases this with rfl | rfl <;> rfl
  | succ d ih =>
    intro n un fd bu ov bv hn hi
    have hn' : n < 9261 := by omega
    refine br_f (ay_l9261 n hn') ?_
    refine ay_wholeAt hC hn' (fun hg ov' hov => br_f (by decide) ?_) (fun hg un' ov' => br_t rfl (nm_r (nI_1 _) (ih _ _ _ _ _ _ (by omega) (ay_SI_cg (ay_SW_no hg) hi))))
    have hP : ap_pb (ay_q n) := ay_q_pb hn'
    have hS := ay_SW_yes (F := F) (B := B) (K := K) (U := U) hn' hg
    obtain ⟨m, Q, rfl, m1, h3, h4⟩ := hi
    have kp : (m = 0 ∨ ap_bt (ap_G am) (ay_q n) Q) → wY_searchWhole_36 post (wY_searchWhole_7 post (d + 1)) (nI n) (ap_l (ay_q n).2) (nI m) bu sk th kd pl am ov' bv := by
      intro hb'
      unfold wY_searchWhole_36
      refine ay_keep (fun bv' hbv => nm_r (nI_1 _) (ih _ _ _ _ _ _ (by omega) ⟨1, _, rfl, Nat.le_refl 1, ap_inv_new h3 hS (by decide) (ap_bt_ir _ _) ?_ hb', fun _ => ⟨hP, fun i hi => (hbv i hi).trans (hov i hi), rfl⟩⟩))
      exact fun c hc hk x y => ap_bt_tr (ay_SW_pos hc) hP.2.1 (ay_SW_pos hk) x y
    refine br_c (fun z => kp (Or.inl ?_)) (fun z => ?_)
    · rw [ap_i_n, ap_i_eq0 (ap_b_n (by omega))] at z; omega
    · have z' : m ≠ 0 := by intro y; subst y; exact z rfl
      obtain ⟨q1, q2, q3⟩ := h4 z'
      subst q3
      refine ay_better hA hP q1 hov q2 (fun b => br_f (by decide) (kp (Or.inr b))) (fun b => br_t rfl (nm_r (nI_1 _) (ih _ _ _ _ _ _ (by omega) ?_)))
      exact ⟨m, Q, rfl, m1, ap_inv_keep h3 hS z' z' b, h4⟩
theorem ay_SI_fin2 {post : Int32 → SY → Prop} {bt : ap_P → ap_P → Prop} {S : ap_P → Prop} (i : ay_SI bt S fd bu bv)
    (h0 : (∀ c, ¬ S c) → fd = 0 → post fd (un, fd, bu, sk, th, kd, pl, am, ov, bv)) (h1 : ∀ Q, S Q → (∀ c, S c → ¬ bt c Q) → ap_pb Q → (∀ i, i < 3 → bv i = ap_l (Q.1 i)) → bu = ap_l Q.2 → fd = 1 → post fd (un, fd, bu, sk, th, kd, pl, am, ov, bv)) : post fd (un, fd, bu, sk, th, kd, pl, am, ov, bv) :=
  ay_SI_fin (post := fun s => post fd s) i h0 h1
theorem ay_searchWhole {post : Int32 → SY → Prop} {F : Nat → Nat → Int} {B : Nat → Int} {K U : Nat → Int32} (hC : ay_Co F B K U sk th kd pl) (hA : ∀ i, ap_b 7 (ap_G am i))
    (h0 : ∀ (un : Int64) (bu : Int64) (ov bv : Nat → Int64), (∀ c, ¬ ap_W F B K U c) → post 0 (un, 0, bu, sk, th, kd, pl, am, ov, bv))
    (h1 : ∀ (un : Int64) (ov bv : Nat → Int64) (Q : ap_P), ap_W F B K U Q → (∀ c, ap_W F B K U c → ¬ ap_bt (ap_G am) c Q) → ap_pb Q → (∀ i, i < 3 → bv i = ap_l (Q.1 i)) → post 1 (un, 1, ap_l Q.2, sk, th, kd, pl, am, ov, bv)) :
    wpY_searchWhole post (un, fd, bu, sk, th, kd, pl, am, ov, bv) := by
  refine ⟨9262, ay_sw7 hC hA (fun un fd bu ov bv hi => ay_SI_fin2 hi (fun a b => ?_) (fun Q a b c d e f => ?_)) 9261 0 _ _ _ _ _ rfl (ay_SI_0 (fun c hc => ?_))⟩
  · subst b; exact h0 _ _ _ _ a
  · subst e; subst f; exact h1 _ _ _ Q a b c d
  · obtain ⟨_, h4, _⟩ := hc; omega
theorem ay_w4 {post : Int32 → SY → Prop} {F : Nat → Nat → Int} {B : Nat → Int} {K U : Nat → Int32} (hC : ay_Co F B K U sk th kd pl)
    (h : ∀ (un : Int64) (ov : Nat → Int64), post (nI (ap_sm (fun j => ap_id (ap_ok F B K U (ay_q j))) 9261)) (un, fd, bu, sk, th, kd, pl, am, ov, bv)) :
    ∀ (d n : Nat) (un : Int64) (ov : Nat → Int64), n + d = 9261 → wY_wholes_4 post (d + 1) (nI (ap_sm (fun j => ap_id (ap_ok F B K U (ay_q j))) n)) (nI n) un fd bu sk th kd pl am ov bv := by
  intro d
  induction d with
  | zero =>
    intro n un ov hn
    have : n = 9261 := by omega
    subst this
    exact br_t ay_g9261 (h _ _)
  | succ d ih =>
    intro n un ov hn
    have hn' : n < 9261 := by omega
    refine br_f (ay_l9261 n hn') ?_
    have e : ap_sm (fun j => ap_id (ap_ok F B K U (ay_q j))) (n + 1) = ap_sm (fun j => ap_id (ap_ok F B K U (ay_q j))) n + ap_id (ap_ok F B K U (ay_q n)) := rfl
    refine ay_wholeAt hC hn' (fun hg ov' hov => br_f (by decide) (nm_r (nI_1 _) (nm_r (nI_1 _) ?_))) (fun hg un' ov' => br_t rfl (nm_r (nI_1 _) ?_))
    · rw [ap_id_t hg] at e
      have := ih (n + 1) (ap_l (ay_q n).2) ov' (by omega)
      rw [e] at this; exact this
    · rw [ap_id_f hg] at e
      have := ih (n + 1) un' ov' (by omega)
      rw [e] at this; exact this
theorem ay_wholes {post : Int32 → SY → Prop} {F : Nat → Nat → Int} {B : Nat → Int} {K U : Nat → Int32} (hC : ay_Co F B K U sk th kd pl)
    (h : ∀ (un : Int64) (ov : Nat → Int64), post (nI (ap_sm (ap_n1 F B K U) 21)) (un, fd, bu, sk, th, kd, pl, am, ov, bv)) : wpY_wholes post (un, fd, bu, sk, th, kd, pl, am, ov, bv) := by
  refine ⟨9262, ay_w4 hC (fun un ov => ?_) 9261 0 _ _ rfl⟩
  have e : ap_sm (fun j => ap_id (ap_ok F B K U (ay_q j))) 9261 = ap_sm (ap_n1 F B K U) 21 := ap_sm_3 (fun a b c => ap_n3 F B K U a b c)
  rw [e]; exact h un ov
/-! divisor -/
theorem ay_d17 {post : Int64 → Prop} : ∀ (n a b : Nat), a < 2 ^ 62 → b < 2 ^ 62 → 0 < Nat.gcd b a → b < n → post (lN (Nat.gcd b a)) → wY_divisor_17 post un fd bu sk th kd pl am ov bv n (lN a) (lN b) := by
  intro n
  induction n with
  | zero => intro a b _ _ _ h; omega
  | succ n ih =>
    intro a b ha hb hg hn h
    by_cases z : b = 0
    · subst z
      rw [Nat.gcd_zero_left] at h hg
      refine br_t rfl (br_f ?_ h)
      rw [ap_l_n, ap_l_le0 (ap_b_n (by omega))]; omega
    · have b0 : 0 < b := by omega
      have nb : ¬ lN b = 0 := by rw [ap_l_n, ap_l_eq0 (ap_b_n (by omega))]; omega
      have m1 : a % b < b := Nat.mod_lt _ b0
      rw [Nat.gcd_rec] at h hg
      exact br_f nb ⟨nb, nm_r (pk_lRem (by omega) b0 (by omega)) (ih b (a % b) hb (by omega) hg (by omega) h)⟩
theorem ay_divisor {post : Int64 → Prop} {T : Int} {b : Nat} (hT : ap_b 1000000 T) (hb : 0 < b) (hb' : b < 2 ^ 31) (h : post (lN (Nat.gcd T.natAbs b))) : wpY_divisor post (un, fd, bu, sk, th, kd, pl, am, ov, bv) (ap_l T) (lN b) := by
  have hT' : ap_b 9000000000000000000 T := ap_b_le hT (by decide)
  rw [Nat.gcd_comm] at h
  have run : ∃ n17, wY_divisor_17 post un fd bu sk th kd pl am ov bv n17 (lN T.natAbs) (lN b) := by
    unfold ap_b at hT
    exact ⟨b + 1, ay_d17 (b + 1) T.natAbs b (by omega) (by omega) (Nat.gcd_pos_of_pos_left _ hb) (by omega) h⟩
  refine br_c (fun z => ?_) (fun z => nm_r (e' := lN T.natAbs) ?_ run)
  · rw [ap_l_0le hT'] at z
    have e : ap_l T = lN T.natAbs := by rw [ap_l_n]; congr 1; omega
    rw [e]; exact run
  · rw [ap_l_0le hT'] at z
    rw [ap_l_neg, ap_l_n]; congr 1; omega
theorem ay_top {post : Int32 → Prop} {T : Int} {b : Nat} (hT : ap_b 1000000 T) (hb : 0 < b) (hb' : b < 2 ^ 31) (h : post (ap_i (T.tdiv (Nat.gcd T.natAbs b : Nat)))) : wpY_top post (un, fd, bu, sk, th, kd, pl, am, ov, bv) (ap_l T) (lN b) := by
  have g0 : 0 < Nat.gcd T.natAbs b := Nat.gcd_pos_of_pos_right _ hb
  have g1 : Nat.gcd T.natAbs b < 2 ^ 31 := Nat.lt_of_le_of_lt (Nat.gcd_le_right _ hb) hb'
  unfold wpY_top; dsimp only
  refine ay_divisor hT hb hb' ⟨?_, ?_⟩
  · rw [ap_l_n, ap_l_eq0 (ap_b_n (by omega))]; omega
  · have e : ap_l T / lN (Nat.gcd T.natAbs b) = ap_l (T.tdiv (Nat.gcd T.natAbs b : Nat)) := by
      unfold ap_b at hT
      rw [ap_l_n]
      exact (Int64.ofInt_tdiv (by rw [Int64.toInt_minValue]; omega) (by rw [Int64.toInt_maxValue]; omega) (by rw [Int64.toInt_minValue]; omega) (by rw [Int64.toInt_maxValue]; omega)).symm
    rw [e, ap_l_i]; exact h
theorem ay_bottom {post : Int32 → Prop} {T : Int} {b : Nat} (hT : ap_b 1000000 T) (hb : 0 < b) (hb' : b < 2 ^ 31) (h : post (nI (b / Nat.gcd T.natAbs b))) : wpY_bottom post (un, fd, bu, sk, th, kd, pl, am, ov, bv) (ap_l T) (lN b) := by
  have g0 : 0 < Nat.gcd T.natAbs b := Nat.gcd_pos_of_pos_right _ hb
  have g1 : Nat.gcd T.natAbs b < 2 ^ 31 := Nat.lt_of_le_of_lt (Nat.gcd_le_right _ hb) hb'
  unfold wpY_bottom; dsimp only
  refine ay_divisor hT hb hb' ⟨?_, ?_⟩
  · rw [ap_l_n, ap_l_eq0 (ap_b_n (by omega))]; omega
  · rw [pk_lDiv (by omega) g0 (by omega), lN_i]; exact h
end
