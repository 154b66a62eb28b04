/-! the component: aims, whole places, divisor -/
noncomputable def ap_id (p : Prop) : Nat := @ite Nat p (Classical.propDecidable p) 1 0
theorem ap_id_t {p : Prop} (h : p) : ap_id p = 1 := if_pos h
theorem ap_id_f {p : Prop} (h : ¬ p) : ap_id p = 0 := if_neg h
theorem ap_id_le (p : Prop) : ap_id p ≤ 1 := by
  by_cases h : p
  · rw [ap_id_t h]; exact Nat.le_refl 1
  · rw [ap_id_f h]; exact Nat.zero_le 1
def ap_wp (a b c : Nat) : ap_P := (fun i => if i = 0 then (a : Int) else if i = 1 then (b : Int) else (c : Int), 1)
theorem ap_wp_pb {a b c : Nat} (ha : a < 21) (hb : b < 21) (hc : c < 21) : ap_pb (ap_wp a b c) := by
  refine ⟨fun i => ?_, (show (0 : Int) < 1 by decide), (show (1 : Int) ≤ 2058 by decide)⟩
  show ap_b 29106 (if i = 0 then (a : Int) else if i = 1 then (b : Int) else (c : Int))
  unfold ap_b
  split
  · omega
  · split <;> omega
def ap_SW (F : Nat → Nat → Int) (B : Nat → Int) (K U : Nat → Int32) (a b c : Nat) (P : ap_P) : Prop :=
  ∃ a' b' c', a' < 21 ∧ b' < 21 ∧ c' < 21 ∧ (a' < a ∨ (a' = a ∧ (b' < b ∨ (b' = b ∧ c' < c)))) ∧ ap_ok F B K U (ap_wp a' b' c') ∧ P = ap_wp a' b' c'
def ap_W (F : Nat → Nat → Int) (B : Nat → Int) (K U : Nat → Int32) (P : ap_P) : Prop :=
  ∃ a b c, a < 21 ∧ b < 21 ∧ c < 21 ∧ ap_ok F B K U (ap_wp a b c) ∧ P = ap_wp a b c
noncomputable def ap_n3 (F : Nat → Nat → Int) (B : Nat → Int) (K U : Nat → Int32) (a b c : Nat) : Nat := ap_id (ap_ok F B K U (ap_wp a b c))
noncomputable def ap_n2 (F : Nat → Nat → Int) (B : Nat → Int) (K U : Nat → Int32) (a b : Nat) : Nat := ap_sm (ap_n3 F B K U a b) 21
noncomputable def ap_n1 (F : Nat → Nat → Int) (B : Nat → Int) (K U : Nat → Int32) (a : Nat) : Nat := ap_sm (ap_n2 F B K U a) 21
theorem ap_n2_le (F : Nat → Nat → Int) (B : Nat → Int) (K U : Nat → Int32) (a b : Nat) : ap_n2 F B K U a b ≤ 21 :=
  Nat.le_trans (ap_sm_le (c := 1) (fun _ => ap_id_le _)) (by decide)
theorem ap_n1_le (F : Nat → Nat → Int) (B : Nat → Int) (K U : Nat → Int32) (a : Nat) : ap_n1 F B K U a ≤ 441 :=
  Nat.le_trans (ap_sm_le (c := 21) (fun _ => ap_n2_le F B K U a _)) (by decide)
theorem ap_SW_pos {F : Nat → Nat → Int} {B : Nat → Int} {K U : Nat → Int32} {a b c : Nat} {P : ap_P} (h : ap_SW F B K U a b c P) : 0 < P.2 := by
  obtain ⟨a', b', c', h1, h2, h3, _, _, rfl⟩ := h
  exact (ap_wp_pb h1 h2 h3).2.1
theorem ap_SW_yes {F : Nat → Nat → Int} {B : Nat → Int} {K U : Nat → Int32} {a b c : Nat} (ha : a < 21) (hb : b < 21) (hc : c < 21) (P : ap_P) :
    ap_SW F B K U a b (c + 1) P ↔ ap_SW F B K U a b c P ∨ (ap_ok F B K U (ap_wp a b c) ∧ P = ap_wp a b c) := by
  constructor
  · rintro ⟨p', q', r', h1, h2, h3, h4, h5, h6⟩
    rcases Decidable.em (p' = a ∧ q' = b ∧ r' = c) with ⟨rfl, rfl, rfl⟩ | hn
    · exact Or.inr ⟨h5, h6⟩
    · exact Or.inl ⟨p', q', r', h1, h2, h3, by omega, h5, h6⟩
  · rintro (⟨p', q', r', h1, h2, h3, h4, h5, h6⟩ | ⟨ho, rfl⟩)
    · exact ⟨p', q', r', h1, h2, h3, by omega, h5, h6⟩
    · exact ⟨a, b, c, ha, hb, hc, by omega, ho, rfl⟩
theorem ap_SW_b {F : Nat → Nat → Int} {B : Nat → Int} {K U : Nat → Int32} {p q : Nat} (c : ap_P) : ap_SW F B K U p (q + 1) 0 c ↔ ap_SW F B K U p q 21 c := by
  constructor <;> rintro ⟨p', q', r', h1, h2, h3, h4, h5, h6⟩ <;> exact ⟨p', q', r', h1, h2, h3, by omega, h5, h6⟩
theorem ap_SW_c {F : Nat → Nat → Int} {B : Nat → Int} {K U : Nat → Int32} {p : Nat} (c : ap_P) : ap_SW F B K U (p + 1) 0 0 c ↔ ap_SW F B K U p 21 0 c := by
  constructor <;> rintro ⟨p', q', r', h1, h2, h3, h4, h5, h6⟩ <;> exact ⟨p', q', r', h1, h2, h3, by omega, h5, h6⟩
theorem ap_SW_e {F : Nat → Nat → Int} {B : Nat → Int} {K U : Nat → Int32} (c : ap_P) : ap_SW F B K U 21 0 0 c ↔ ap_W F B K U c := by
  constructor
  · rintro ⟨p', q', r', h1, h2, h3, h4, h5, h6⟩; exact ⟨p', q', r', h1, h2, h3, h5, h6⟩
  · rintro ⟨p', q', r', h1, h2, h3, h5, h6⟩; exact ⟨p', q', r', h1, h2, h3, by omega, h5, h6⟩
theorem ax_l20 (i : Nat) (h : i < 21) : ¬ (20 : Int32) < nI i := nI_nlt (b := i) (a := 20) (by omega) (by decide)
theorem ax_g20 : (20 : Int32) < nI 21 := by decide
def ax_WI (A : Nat → Int) (S : ap_P → Prop) (m : Nat) (kB pm : Int32) (kt : Nat → Int32) : Prop :=
  ∃ (Q : ap_P), pm = nI m ∧ ap_inv (ap_bt A) S m Q ∧ (m ≠ 0 → ap_pb Q ∧ (∀ i, i < 3 → kt i = ap_i (Q.1 i)) ∧ kB = ap_i Q.2)
section
variable {pB kB pm : Int32} {fa ki bo us go ai pt kt : Nat → Int32}
theorem ax_WI_cg {A : Nat → Int} {S S' : ap_P → Prop} {N N' : Nat} (h : ∀ c, S' c ↔ S c) (hN : N' = N) (i : ax_WI A S N kB pm kt) : ax_WI A S' N' kB pm kt := by
  subst hN
  obtain ⟨Q, h1, h3, h4⟩ := i
  exact ⟨Q, h1, ap_inv_cg h h3, h4⟩
theorem ax_wstep {post : SX → Prop} {A : Nat → Int} {P : ap_P} {S S' : ap_P → Prop} {N : Nat} (hF : ∀ r i, ap_b 7 (ap_F fa r i)) (hB : ∀ r, ap_b 99 (ap_B bo r)) (hA : ∀ i, ap_b 7 (A i)) (hP : ap_pb P)
    (hai : ∀ i, i < 3 → ai i = ap_i (A i)) (hpt : ∀ i, i < 3 → pt i = ap_i (P.1 i)) (hN : N < 900000) (hS : ∀ c, S c → 0 < c.2)
    (i : ax_WI A S N kB pm kt)
    (hS' : ∀ c, S' c ↔ S c ∨ (ap_ok (ap_F fa) (ap_B bo) ki us P ∧ c = P))
    (h : ∀ kB' pm' kt', ax_WI A S' (N + ap_id (ap_ok (ap_F fa) (ap_B bo) ki us P)) kB' pm' kt' → post (ap_i P.2, kB', pm', fa, ki, bo, us, go, ai, pt, kt')) :
    wpX_consider post (ap_i P.2, kB, pm, fa, ki, bo, us, go, ai, pt, kt) := by
  obtain ⟨Q, rfl, h3, h4⟩ := i
  refine ax_consider (Q := Q) hF hB hA hP hai hpt (by omega) h4 (fun ho => h _ _ _ ?_) (fun ho hb kt' hk => h _ _ _ ?_) (fun ho z hb => h _ _ _ ?_)
  · rw [ap_id_f ho]
    exact ⟨Q, rfl, ap_inv_cg (fun c => (hS' c).trans ⟨fun x => x.resolve_right (fun y => ho y.1), Or.inl⟩) h3, h4⟩
  · rw [ap_id_t ho]
    refine ⟨P, rfl, ap_inv_new h3 (fun c => (hS' c).trans ⟨fun x => x.imp id And.right, fun x => x.imp id (fun y => ⟨ho, y⟩)⟩) (by omega) (ap_bt_ir A P) ?_ hb, fun _ => ⟨hP, hk, rfl⟩⟩
    exact fun c hc hk x y => ap_bt_tr (hS c hc) hP.2.1 (hS Q hk) x y
  · rw [ap_id_t ho]
    refine ⟨Q, rfl, ap_inv_keep h3 (fun c => (hS' c).trans ⟨fun x => x.imp id And.right, fun x => x.imp id (fun y => ⟨ho, y⟩)⟩) z (by omega) hb, fun _ => h4 z⟩
theorem ax_sw28 {post : Int32 → SX → Prop} {J7 J17 : Int32 → Int32 → Int32 → Int32 → (Nat → Int32) → (Nat → Int32) → (Nat → Int32) → (Nat → Int32) → (Nat → Int32) → (Nat → Int32) → (Nat → Int32) → (Nat → Int32) → Prop} {A : Nat → Int} {p q M : Nat}
    (hF : ∀ r i, ap_b 7 (ap_F fa r i)) (hB : ∀ r, ap_b 99 (ap_B bo r)) (hA : ∀ i, ap_b 7 (A i)) (hai : ∀ i, i < 3 → ai i = ap_i (A i)) (hp : p < 21) (hq : q < 21) (hM : M < 10000)
    (hJ : ∀ (kB pm : Int32) (pt kt : Nat → Int32), ax_WI A (ap_SW (ap_F fa) (ap_B bo) ki us p q 21) (M + ap_n2 (ap_F fa) (ap_B bo) ki us p q) kB pm kt → J17 (nI (q + 1)) (ap_i 1) kB pm fa ki bo us go ai pt kt) :
    ∀ (d r : Nat) (kB pm : Int32) (pt kt : Nat → Int32), r + d = 21 → ax_WI A (ap_SW (ap_F fa) (ap_B bo) ki us p q r) (M + ap_sm (ap_n3 (ap_F fa) (ap_B bo) ki us p q) r) kB pm kt → wX_searchWholes_28 post J7 J17 (nI p) (nI q) (d + 1) (nI r) (ap_i 1) kB pm fa ki bo us go ai pt kt := by
  intro d
  induction d with
  | zero =>
    intro r kB pm pt kt hr hi
    have : r = 21 := by omega
    subst this
    exact br_t ax_g20 (nm_r (nI_1 q) (hJ _ _ _ _ hi))
  | succ d ih =>
    intro r kB pm pt kt hr hi
    have hr' : r < 21 := by omega
    have hc := Nat.le_trans (ap_sm_le (f := ap_n3 (ap_F fa) (ap_B bo) ki us p q) (c := 1) (n := r) (fun _ => ap_id_le _)) (show r * 1 ≤ 21 by omega)
    refine br_f (ax_l20 r hr') (nm_e (nm_e (nm_e ?_)))
    refine ax_wstep (P := ap_wp p q r) hF hB hA (ap_wp_pb hp hq hr') hai ?_ (by omega) (fun c hc => ap_SW_pos hc) hi (ap_SW_yes hp hq hr') (fun kB' pm' kt' hi' => nm_r (nI_1 r) ?_)
    · exact ap_lt3 ((pk_un (by decide)).trans ((pk_un (by decide)).trans (pk_us.trans (ap_i_n p)))) ((pk_un (by decide)).trans (pk_us.trans (ap_i_n q))) (pk_us.trans (ap_i_n r))
    · exact ih (r + 1) _ _ _ _ (by omega) (ax_WI_cg (fun _ => Iff.rfl) (by rw [Nat.add_assoc]; rfl) hi')
theorem ax_sw20 {post : Int32 → SX → Prop} {J7 : Int32 → Int32 → Int32 → Int32 → (Nat → Int32) → (Nat → Int32) → (Nat → Int32) → (Nat → Int32) → (Nat → Int32) → (Nat → Int32) → (Nat → Int32) → (Nat → Int32) → Prop} {A : Nat → Int} {p M : Nat}
    (hF : ∀ r i, ap_b 7 (ap_F fa r i)) (hB : ∀ r, ap_b 99 (ap_B bo r)) (hA : ∀ i, ap_b 7 (A i)) (hai : ∀ i, i < 3 → ai i = ap_i (A i)) (hp : p < 21) (hM : M < 9500)
    (hJ : ∀ (kB pm : Int32) (pt kt : Nat → Int32), ax_WI A (ap_SW (ap_F fa) (ap_B bo) ki us p 21 0) (M + ap_n1 (ap_F fa) (ap_B bo) ki us p) kB pm kt → J7 (nI (p + 1)) (ap_i 1) kB pm fa ki bo us go ai pt kt) :
    ∀ (d q : Nat) (kB pm : Int32) (pt kt : Nat → Int32), q + d = 21 → ax_WI A (ap_SW (ap_F fa) (ap_B bo) ki us p q 0) (M + ap_sm (ap_n2 (ap_F fa) (ap_B bo) ki us p) q) kB pm kt → wX_searchWholes_20 post J7 (nI p) (d + 1) (nI q) (ap_i 1) kB pm fa ki bo us go ai pt kt := by
  intro d
  induction d with
  | zero =>
    intro q kB pm pt kt hq hi
    have : q = 21 := by omega
    subst this
    exact br_t ax_g20 (nm_r (nI_1 p) (hJ _ _ _ _ hi))
  | succ d ih =>
    intro q kB pm pt kt hq hi
    have hq' : q < 21 := by omega
    have hc := Nat.le_trans (ap_sm_le (f := ap_n2 (ap_F fa) (ap_B bo) ki us p) (c := 21) (n := q) (fun _ => ap_n2_le _ _ _ _ _ _)) (show q * 21 ≤ 441 by omega)
    refine br_f (ax_l20 q hq') ⟨22, ?_⟩
    refine ax_sw28 hF hB hA hai hp hq' (M := M + ap_sm (ap_n2 (ap_F fa) (ap_B bo) ki us p) q) (by omega) (fun kB pm pt kt hi' => ?_) 21 0 _ _ _ _ rfl hi
    exact ih (q + 1) _ _ _ _ (by omega) (ax_WI_cg ap_SW_b (by rw [Nat.add_assoc]; rfl) hi')
theorem ax_sw12 {post : Int32 → SX → Prop} {A : Nat → Int}
    (hF : ∀ r i, ap_b 7 (ap_F fa r i)) (hB : ∀ r, ap_b 99 (ap_B bo r)) (hA : ∀ i, ap_b 7 (A i)) (hai : ∀ i, i < 3 → ai i = ap_i (A i))
    (h0 : ∀ (pB kB : Int32) (pt kt : Nat → Int32), (∀ c, ¬ ap_W (ap_F fa) (ap_B bo) ki us c) → post 0 (pB, kB, nI (ap_sm (ap_n1 (ap_F fa) (ap_B bo) ki us) 21), fa, ki, bo, us, go, ai, pt, kt))
    (h1 : ∀ (pB : Int32) (pt kt : Nat → Int32) (Q : ap_P), ap_W (ap_F fa) (ap_B bo) ki us Q → (∀ c, ap_W (ap_F fa) (ap_B bo) ki us c → ¬ ap_bt A c Q) → ap_pb Q → (∀ i, i < 3 → kt i = ap_i (Q.1 i)) → post 1 (pB, ap_i Q.2, nI (ap_sm (ap_n1 (ap_F fa) (ap_B bo) ki us) 21), fa, ki, bo, us, go, ai, pt, kt)) :
    ∀ (d p : Nat) (kB pm : Int32) (pt kt : Nat → Int32), p + d = 21 → ax_WI A (ap_SW (ap_F fa) (ap_B bo) ki us p 0 0) (ap_sm (ap_n1 (ap_F fa) (ap_B bo) ki us) p) kB pm kt → wX_searchWholes_12 post (d + 1) (nI p) (ap_i 1) kB pm fa ki bo us go ai pt kt := by
  intro d
  induction d with
  | zero =>
    intro p kB pm pt kt hp hi
    have : p = 21 := by omega
    subst this
    refine br_t ax_g20 ?_
    obtain ⟨Q, rfl, h3, h4⟩ := ax_WI_cg (fun c => (ap_SW_e c).symm) rfl hi
    have hc := Nat.le_trans (ap_sm_le (f := ap_n1 (ap_F fa) (ap_B bo) ki us) (c := 441) (n := 21) (fun _ => ap_n1_le _ _ _ _ _)) (show 21 * 441 ≤ 9261 by decide)
    generalize ap_sm (ap_n1 (ap_F fa) (ap_B bo) ki us) 21 = m at *
    have e : nI m ≤ 0 ↔ m = 0 := by rw [ap_i_n, ap_i_le0 (ap_b_n (by omega))]; omega
    refine br_c (fun z => h0 _ _ _ _ (h3.1 (e.mp z))) (fun z => ?_)
    have z' : m ≠ 0 := fun y => z (e.mpr y)
    obtain ⟨q1, q2, q3⟩ := h4 z'
    obtain ⟨s1, s2⟩ := h3.2 z'
    subst q3
    exact h1 _ _ _ Q s1 s2 q1 q2
  | succ d ih =>
    intro p kB pm pt kt hp hi
    have hp' : p < 21 := by omega
    have hc := Nat.le_trans (ap_sm_le (f := ap_n1 (ap_F fa) (ap_B bo) ki us) (c := 441) (n := p) (fun _ => ap_n1_le _ _ _ _ _)) (show p * 441 ≤ 9261 by omega)
    refine br_f (ax_l20 p hp') ⟨22, ?_⟩
    refine ax_sw20 hF hB hA hai hp' (M := ap_sm (ap_n1 (ap_F fa) (ap_B bo) ki us) p) (by omega) (fun kB pm pt kt hi' => ?_) 21 0 _ _ _ _ rfl hi
    exact ih (p + 1) _ _ _ _ (by omega) (ax_WI_cg ap_SW_c rfl hi')
theorem ax_searchWholes {post : Int32 → SX → Prop} {A : Nat → Int}
    (hF : ∀ r i, ap_b 7 (ap_F fa r i)) (hB : ∀ r, ap_b 99 (ap_B bo r)) (hA : ∀ i, ap_b 7 (A i)) (hai : ∀ i, i < 3 → ai i = ap_i (A i))
    (h0 : ∀ (pB kB : Int32) (pt kt : Nat → Int32), (∀ c, ¬ ap_W (ap_F fa) (ap_B bo) ki us c) → post 0 (pB, kB, nI (ap_sm (ap_n1 (ap_F fa) (ap_B bo) ki us) 21), fa, ki, bo, us, go, ai, pt, kt))
    (h1 : ∀ (pB : Int32) (pt kt : Nat → Int32) (Q : ap_P), ap_W (ap_F fa) (ap_B bo) ki us Q → (∀ c, ap_W (ap_F fa) (ap_B bo) ki us c → ¬ ap_bt A c Q) → ap_pb Q → (∀ i, i < 3 → kt i = ap_i (Q.1 i)) → post 1 (pB, ap_i Q.2, nI (ap_sm (ap_n1 (ap_F fa) (ap_B bo) ki us) 21), fa, ki, bo, us, go, ai, pt, kt)) :
    wpX_searchWholes post (pB, kB, pm, fa, ki, bo, us, go, ai, pt, kt) := by
  refine ⟨22, ax_sw12 hF hB hA hai h0 h1 21 0 _ _ _ _ rfl ⟨(fun _ => 0, 0), rfl, ⟨fun _ c hc => ?_, fun z => absurd rfl z⟩, fun z => absurd rfl z⟩⟩
  obtain ⟨p', q', r', h1, h2, h3, h4, h5, h6⟩ := hc
  omega
/-! aims -/
theorem ax_ag2 {post : SX → Prop} {i n : Nat} (hi : i < 3) (h : wX_aimAtGoal_2 post pB kB pm n (nI (i + 1)) fa ki bo us go (upd ai i (go i)) pt kt) :
    wX_aimAtGoal_2 post pB kB pm (n + 1) (nI i) fa ki bo us go ai pt kt := by
  refine br_f (ap_l3 i hi) ⟨ap_in hi (by decide), ap_in hi (by decide), nm_r ?_ (nm_r (nI_1 i) h)⟩
  rw [ap_cl (by omega)]
theorem ax_aimAtGoal {post : SX → Prop} (h : ∀ ai' : Nat → Int32, (∀ i, i < 3 → ai' i = go i) → post (pB, kB, pm, fa, ki, bo, us, go, ai', pt, kt)) : wpX_aimAtGoal post (pB, kB, pm, fa, ki, bo, us, go, ai, pt, kt) := by
  refine ⟨4, ax_ag2 (i := 0) (by decide) (ax_ag2 (i := 1) (by decide) (ax_ag2 (i := 2) (by decide) (br_t ap_g3 (h _ ?_))))⟩
  exact ap_lt3 (by rw [pk_un (by decide), pk_un (by decide), pk_us]) (by rw [pk_un (by decide), pk_us]) (by rw [pk_us])
def ap_G (go : Nat → Int32) (i : Nat) : Int := (go i).toInt
theorem ax_findBest {post : Int32 → SX → Prop}
    (hF : ∀ r i, ap_b 7 (ap_F fa r i)) (hB : ∀ r, ap_b 99 (ap_B bo r)) (hG : ∀ i, ap_b 7 (ap_G go i))
    (h0 : ∀ (pB kB pm : Int32) (ai pt kt : Nat → Int32), (∀ c, ¬ ap_C (ap_F fa) (ap_B bo) ki us c) → post 0 (pB, kB, pm, fa, ki, bo, us, go, ai, pt, kt))
    (h1 : ∀ (pB pm : Int32) (ai pt kt : Nat → Int32) (Q : ap_P), ap_C (ap_F fa) (ap_B bo) ki us Q → (∀ c, ap_C (ap_F fa) (ap_B bo) ki us c → ¬ ap_bt (ap_G go) c Q) → ap_pb Q → (∀ i, i < 3 → ai i = ap_i (ap_G go i)) → (∀ i, i < 3 → kt i = ap_i (Q.1 i)) → post 1 (pB, ap_i Q.2, pm, fa, ki, bo, us, go, ai, pt, kt)) :
    wpX_findBest post (pB, kB, pm, fa, ki, bo, us, go, ai, pt, kt) := by
  refine ax_aimAtGoal (fun ai' hai => ?_)
  have hai' : ∀ i, i < 3 → ai' i = ap_i (ap_G go i) := fun i hi => (hai i hi).trans (ap_i_of _).symm
  exact ax_searchCorners hF hB hG hai' (fun pB kB pm pt kt hc => ⟨rfl, h0 _ _ _ _ _ _ hc⟩) (fun pB pm pt kt Q q1 q2 q3 q4 => ⟨rfl, h1 _ _ _ _ _ Q q1 q2 q3 hai' q4⟩)
theorem ax_findWhole {post : Int32 → SX → Prop}
    (hF : ∀ r i, ap_b 7 (ap_F fa r i)) (hB : ∀ r, ap_b 99 (ap_B bo r)) (hG : ∀ i, ap_b 7 (ap_G go i))
    (h0 : ∀ (pB kB : Int32) (ai pt kt : Nat → Int32), (∀ c, ¬ ap_W (ap_F fa) (ap_B bo) ki us c) → post 0 (pB, kB, nI (ap_sm (ap_n1 (ap_F fa) (ap_B bo) ki us) 21), fa, ki, bo, us, go, ai, pt, kt))
    (h1 : ∀ (pB : Int32) (ai pt kt : Nat → Int32) (Q : ap_P), ap_W (ap_F fa) (ap_B bo) ki us Q → (∀ c, ap_W (ap_F fa) (ap_B bo) ki us c → ¬ ap_bt (ap_G go) c Q) → ap_pb Q → (∀ i, i < 3 → ai i = ap_i (ap_G go i)) → (∀ i, i < 3 → kt i = ap_i (Q.1 i)) → post 1 (pB, ap_i Q.2, nI (ap_sm (ap_n1 (ap_F fa) (ap_B bo) ki us) 21), fa, ki, bo, us, go, ai, pt, kt)) :
    wpX_findWhole post (pB, kB, pm, fa, ki, bo, us, go, ai, pt, kt) := by
  refine ax_aimAtGoal (fun ai' hai => ?_)
  have hai' : ∀ i, i < 3 → ai' i = ap_i (ap_G go i) := fun i hi => (hai i hi).trans (ap_i_of _).symm
  exact ax_searchWholes hF hB hG hai' (fun pB kB pt kt hc => ⟨rfl, h0 _ _ _ _ _ hc⟩) (fun pB pt kt Q q1 q2 q3 q4 => ⟨rfl, h1 _ _ _ _ Q q1 q2 q3 hai' q4⟩)
def ap_E (s : Int) (i j : Nat) : Int := if j = i then s else 0
theorem ax_fr2 {post : Int32 → SX → Prop} {i n : Nat} {x1 x2 : Int32} (hi : i < 3) (h : wX_findReach_2 post x1 x2 pB kB pm n (nI (i + 1)) fa ki bo us go (upd ai i 0) pt kt) :
    wX_findReach_2 post x1 x2 pB kB pm (n + 1) (nI i) fa ki bo us go ai pt kt := by
  refine br_f (ap_l3 i hi) ⟨ap_in hi (by decide), nm_r ?_ (nm_r (nI_1 i) h)⟩
  rw [ap_cl (by omega)]
theorem ax_fr35 {post : Int32 → SX → Prop} {i : Nat} {s : Int} (hs : s = 1 ∨ s = -1)
    (hF : ∀ r i, ap_b 7 (ap_F fa r i)) (hB : ∀ r, ap_b 99 (ap_B bo r)) (hi : i < 3) (hai : ∀ j, j < 3 → ai j = 0)
    (h0 : ∀ (pB kB pm : Int32) (ai pt kt : Nat → Int32), (∀ c, ¬ ap_C (ap_F fa) (ap_B bo) ki us c) → post 0 (pB, kB, pm, fa, ki, bo, us, go, ai, pt, kt))
    (h1 : ∀ (pB pm : Int32) (ai pt kt : Nat → Int32) (Q : ap_P), ap_C (ap_F fa) (ap_B bo) ki us Q → (∀ c, ap_C (ap_F fa) (ap_B bo) ki us c → ¬ ap_bt (ap_E s i) c Q) → ap_pb Q → (∀ i, i < 3 → kt i = ap_i (Q.1 i)) → post 1 (pB, ap_i Q.2, pm, fa, ki, bo, us, go, ai, pt, kt)) :
    wX_findReach_35 post (ap_i s) (nI i) pB kB pm fa ki bo us go ai pt kt := by
  refine ⟨ap_in hi (by decide), nm_e ?_⟩
  rw [ap_cl (by omega)]
  refine ax_searchCorners (A := ap_E s i) hF hB (fun j => ?_) (fun j hj => ?_) (fun pB kB pm pt kt hc => ⟨rfl, h0 _ _ _ _ _ _ hc⟩) (fun pB pm pt kt Q q1 q2 q3 q4 => ⟨rfl, h1 _ _ _ _ _ Q q1 q2 q3 q4⟩)
  · unfold ap_E ap_b; split
    · rcases hs with rfl | rfl <;> decide
    · decide
  · unfold ap_E
    by_cases e : j = i
    · subst e; rw [if_pos rfl, pk_us]
    · rw [if_neg e, pk_un e, hai j hj]; rfl
theorem ax_findReach {post : Int32 → SX → Prop} {i : Nat} {w : Int32} {s : Int} (hs : (w = 1 ∧ s = 1) ∨ (¬ w = 1 ∧ s = -1))
    (hF : ∀ r i, ap_b 7 (ap_F fa r i)) (hB : ∀ r, ap_b 99 (ap_B bo r)) (hi : i < 3)
    (h0 : ∀ (pB kB pm : Int32) (ai pt kt : Nat → Int32), (∀ c, ¬ ap_C (ap_F fa) (ap_B bo) ki us c) → post 0 (pB, kB, pm, fa, ki, bo, us, go, ai, pt, kt))
    (h1 : ∀ (pB pm : Int32) (ai pt kt : Nat → Int32) (Q : ap_P), ap_C (ap_F fa) (ap_B bo) ki us Q → (∀ c, ap_C (ap_F fa) (ap_B bo) ki us c → ¬ ap_bt (ap_E s i) c Q) → ap_pb Q → (∀ i, i < 3 → kt i = ap_i (Q.1 i)) → post 1 (pB, ap_i Q.2, pm, fa, ki, bo, us, go, ai, pt, kt)) :
    wpX_findReach post (pB, kB, pm, fa, ki, bo, us, go, ai, pt, kt) (nI i) w := by
  refine ⟨4, ax_fr2 (i := 0) (by decide) (ax_fr2 (i := 1) (by decide) (ax_fr2 (i := 2) (by decide) (br_t ap_g3 ?_)))⟩
  have hz : ∀ j, j < 3 → upd (upd (upd ai 0 0) 1 0) 2 0 j = 0 := ap_lt3 (by rw [pk_un (by decide), pk_un (by decide), pk_us]) (by rw [pk_un (by decide), pk_us]) (by rw [pk_us])
  rcases hs with ⟨h, rfl⟩ | ⟨h, rfl⟩
  · exact br_t h (ax_fr35 (Or.inl rfl) hF hB hi hz h0 h1)
  · exact br_f h (ax_fr35 (Or.inr rfl) hF hB hi hz h0 h1)
theorem ax_sw2 {post : Int32 → SX → Prop} {i n r : Nat} {s : Int} (hr : r < 11) (hi : i < 3) (h : wX_staysWithin_2 post (nI r) (ap_i s) pB kB pm n (nI (i + 1)) fa ki bo us go (upd ai i (ap_i (s * ap_F fa r i))) pt kt) :
    wX_staysWithin_2 post (nI r) (ap_i s) pB kB pm (n + 1) (nI i) fa ki bo us go ai pt kt := by
  refine br_f (ap_l3 i hi) ⟨?_, ap_in hi (by decide), nm_r ?_ (nm_r (nI_1 i) h)⟩
  · rw [ap_3i]; exact ap_in (by omega) (by decide)
  · rw [ap_3i, ap_cl (by omega), ap_cl (by omega), ap_Fi fa, ap_i_mul]
/-- staysWithin: 1 if and only if no corner breaks the row on that side -/
theorem ap_st {F : Nat → Nat → Int} {B : Nat → Int} {r : Nat} {s : Int} {c Q : ap_P} (hc : 0 < c.2) (hQ : 0 < Q.2) (h : ap_g0 (fun i => s * F r i) c Q ≤ 0) (h2 : s * ap_ex F B r Q ≤ 0) : s * ap_ex F B r c ≤ 0 := by
  have e : Q.2 * (s * ap_ex F B r c) = c.2 * (s * ap_ex F B r Q) + ap_g0 (fun i => s * F r i) c Q := by unfold ap_g0 ap_ex ap_w; grind
  have h3 : c.2 * (s * ap_ex F B r Q) ≤ 0 := by
    have := Int.mul_le_mul_of_nonneg_left h2 (Int.le_of_lt hc)
    rw [Int.mul_zero] at this; exact this
  apply Decidable.byContradiction
  intro hn
  have := Int.mul_pos hQ (show 0 < s * ap_ex F B r c by omega)
  omega
theorem ax_staysWithin {post : Int32 → SX → Prop} {r : Nat} {s : Int} (hs : s = 1 ∨ s = -1) (hr : r < 11)
    (hF : ∀ r i, ap_b 7 (ap_F fa r i)) (hB : ∀ r, ap_b 99 (ap_B bo r))
    (h1 : ∀ (pB kB pm : Int32) (ai pt kt : Nat → Int32), (∀ c, ap_C (ap_F fa) (ap_B bo) ki us c → s * ap_ex (ap_F fa) (ap_B bo) r c ≤ 0) → post 1 (pB, kB, pm, fa, ki, bo, us, go, ai, pt, kt))
    (h0 : ∀ (pB kB pm : Int32) (ai pt kt : Nat → Int32), (∃ c, ap_C (ap_F fa) (ap_B bo) ki us c ∧ ¬ s * ap_ex (ap_F fa) (ap_B bo) r c ≤ 0) → post 0 (pB, kB, pm, fa, ki, bo, us, go, ai, pt, kt)) :
    wpX_staysWithin post (pB, kB, pm, fa, ki, bo, us, go, ai, pt, kt) (nI r) (ap_i s) := by
  refine ⟨4, ax_sw2 (i := 0) hr (by decide) (ax_sw2 (i := 1) hr (by decide) (ax_sw2 (i := 2) hr (by decide) (br_t ap_g3 ?_)))⟩
  have hsb : ap_b 1 s := by rcases hs with rfl | rfl <;> (unfold ap_b; decide)
  refine ax_searchCorners (A := fun i => s * ap_F fa r i) hF hB (fun j => ap_b_le (ap_b_mul hsb (hF r j)) (by decide)) ?_ (fun pB kB pm pt kt hc => br_t rfl (h1 _ _ _ _ _ _ (fun c hc' => absurd hc' (hc c)))) (fun pB pm pt kt Q q1 q2 q3 q4 => br_f (by decide) ?_)
  · exact ap_lt3 (by rw [pk_un (by decide), pk_un (by decide), pk_us]) (by rw [pk_un (by decide), pk_us]) (by rw [pk_us])
  · refine ax_exK hr q4 ?_
    have he := ap_b_le (ap_b_mul hsb (ap_ex_b hF hB q3 r)) (show 1 * 814968 ≤ 2147483647 by decide)
    rw [ap_i_mul, ap_i_0lt he]
    refine br_c (fun z => h0 _ _ _ _ _ _ ⟨Q, q1, by omega⟩) (fun z => h1 _ _ _ _ _ _ (fun c hc => ?_))
    have hcp : ap_pb c := ap_S_pos hF hB ((ap_S_e c).mpr hc)
    exact ap_st hcp.2.1 q3.2.1 (ap_bt_g0 (q2 c hc)) (by omega)
end
/-! the divisor -/
theorem ax_cd43 {post : Int32 → Prop} {d : Nat} (h0 : 0 < d) (hd : d < 2 ^ 31) (h : post (nI d)) : wX_commonDivisor_43 post (nI d) :=
  br_t (nI_le (a := 1) h0 hd) h
theorem ax_l100 (i : Nat) (h : i < 100) : ¬ (100 : Int32) ≤ nI i := nI_ge (b := 100) h (by decide)
theorem ax_cd1 {post : Int32 → Prop} {d r t n : Nat} (hr : 0 < r) (hd : d < 2 ^ 31) (hr' : r < 2 ^ 31) (ht : t < 100) (h : wX_commonDivisor_16 post n (nI r) (nI (d % r)) (nI (t + 1))) :
    wX_commonDivisor_16 post (n + 1) (nI d) (nI r) (nI t) :=
  br_f (ax_l100 t ht) (br_f (nI_ne0 hr hr') ⟨nI_ne0 hr hr', nm_r (pk_rem hd hr hr') (nm_r (nI_1 t) h)⟩)
theorem ax_cd0 {post : Int32 → Prop} {d t n : Nat} (h0 : 0 < d) (hd : d < 2 ^ 31) (ht : t < 100) (h : post (nI d)) : wX_commonDivisor_16 post (n + 1) (nI d) (nI 0) (nI t) :=
  br_f (ax_l100 t ht) (br_t rfl (ax_cd43 h0 hd h))
theorem ax_cdL {post : Int32 → Prop} : ∀ (k d r t n : Nat), 0 < d → d < 2 ^ 31 → r < 2 ^ 31 → r < 2 ^ k → t + 2 * k < 98 → 2 * k < n → post (nI (Nat.gcd r d)) → wX_commonDivisor_16 post n (nI d) (nI r) (nI t) := by
  intro k
  induction k with
  | zero =>
    intro d r t n h0 hd hr hk ht hn h
    have : r = 0 := by omega
    subst this
    obtain ⟨n', rfl⟩ : ∃ n', n = n' + 1 := ⟨n - 1, by omega⟩
    rw [Nat.gcd_zero_left] at h
    exact ax_cd0 h0 hd (by omega) h
  | succ k ih =>
    intro d r t n h0 hd hr hk ht hn h
    obtain ⟨n', rfl⟩ : ∃ n', n = n' + 1 + 1 := ⟨n - 2, by omega⟩
    by_cases z : r = 0
    · subst z
      rw [Nat.gcd_zero_left] at h
      exact ax_cd0 h0 hd (by omega) h
    · have r0 : 0 < r := by omega
      rw [Nat.gcd_rec] at h
      refine ax_cd1 r0 hd hr (by omega) ?_
      have m1 : d % r < r := Nat.mod_lt _ r0
      generalize d % r = m at *
      by_cases y : m = 0
      · subst y
        rw [Nat.gcd_zero_left] at h
        exact ax_cd0 r0 hr (by omega) h
      · have m0 : 0 < m := by omega
        rw [Nat.gcd_rec] at h
        refine ax_cd1 m0 hr (by omega) (by omega) ?_
        have m2 : r % m < m := Nat.mod_lt _ m0
        have m3 : 2 * (r % m) < r := by
          have e := Nat.div_add_mod r m
          have f : 1 ≤ r / m := (Nat.one_le_div_iff m0).mpr (by omega)
          have g : m * 1 ≤ m * (r / m) := Nat.mul_le_mul_left m f
          omega
        rw [Nat.pow_succ] at hk
        exact ih m (r % m) (t + 1 + 1) n' m0 (by omega) (by omega) (by omega) (by omega) (by omega) h
theorem ax_commonDivisor {post : Int32 → Prop} {T : Int} {b : Nat} (hT : ap_b 1000000 T) (hb : 0 < b) (hb' : b < 2 ^ 31) (h : post (nI (Nat.gcd T.natAbs b))) : wpX_commonDivisor post (ap_i T) (nI b) := by
  have hT' : ap_b 2147483647 T := ap_b_le hT (by decide)
  have run : ∃ n16, wX_commonDivisor_16 post n16 (nI b) (nI T.natAbs) 0 := by
    unfold ap_b at hT
    exact ⟨41, ax_cdL 20 b T.natAbs 0 41 hb hb' (by omega) (by omega) (by decide) (by decide) h⟩
  refine br_c (fun z => ?_) (fun z => nm_r (e' := nI T.natAbs) ?_ run)
  · rw [ap_i_0le hT'] at z
    have e : ap_i T = nI T.natAbs := by rw [ap_i_n]; congr 1; omega
    rw [e]; exact run
  · rw [ap_i_0le hT'] at z
    rw [ap_i_neg, ap_i_n]; congr 1; omega
theorem ap_tdiv_i {T : Int} {g : Nat} (hT : ap_b 1000000 T) (h0 : 0 < g) (hg : g < 2 ^ 31) : ap_i T / nI g = ap_i (T.tdiv g) := by
  unfold ap_b at hT
  rw [ap_i_n]
  exact (Int32.ofInt_tdiv (by rw [Int32.toInt_minValue]; omega) (by rw [Int32.toInt_maxValue]; omega) (by rw [Int32.toInt_minValue]; omega) (by rw [Int32.toInt_maxValue]; omega)).symm
theorem ax_lowestTop {post : Int32 → Prop} {T : Int} {b : Nat} (hT : ap_b 1000000 T) (hb : 0 < b) (hb' : b < 2 ^ 31) (h : post (ap_i (T.tdiv (Nat.gcd T.natAbs b : Nat)))) : wpX_lowestTop post (ap_i T) (nI b) := by
  have g0 : 0 < Nat.gcd T.natAbs b := Nat.gcd_pos_of_pos_right _ hb
  have g1 : Nat.gcd T.natAbs b < 2 ^ 31 := Nat.lt_of_le_of_lt (Nat.gcd_le_right _ hb) hb'
  refine ax_commonDivisor hT hb hb' ⟨nI_ne0 g0 g1, ?_⟩
  rw [ap_tdiv_i hT g0 g1]; exact h
theorem ax_lowestBottom {post : Int32 → Prop} {T : Int} {b : Nat} (hT : ap_b 1000000 T) (hb : 0 < b) (hb' : b < 2 ^ 31) (h : post (nI (b / Nat.gcd T.natAbs b))) : wpX_lowestBottom post (ap_i T) (nI b) := by
  have g0 : 0 < Nat.gcd T.natAbs b := Nat.gcd_pos_of_pos_right _ hb
  have g1 : Nat.gcd T.natAbs b < 2 ^ 31 := Nat.lt_of_le_of_lt (Nat.gcd_le_right _ hb) hb'
  refine ax_commonDivisor hT hb hb' ⟨nI_ne0 g0 g1, ?_⟩
  rw [pk_div hb' g0 g1]; exact h
