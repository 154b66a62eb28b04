/-! the component's walks -/
def ap_F (fa : Nat → Int32) (r i : Nat) : Int := (fa (3 * r + i)).toInt
def ap_B (bo : Nat → Int32) (r : Nat) : Int := (bo r).toInt
theorem ap_Fi (fa : Nat → Int32) (r i : Nat) : fa (3 * r + i) = ap_i (ap_F fa r i) := (ap_i_of _).symm
theorem ap_Bi (bo : Nat → Int32) (r : Nat) : bo r = ap_i (ap_B bo r) := (ap_i_of _).symm
theorem ax_m1 : ∀ i, i < 3 → (nI i + 1) - (nI i + 1) / 3 * 3 = nI ((i + 1) % 3) := ap_lt3 (by decide) (by decide) (by decide)
theorem ax_m2 : ∀ i, i < 3 → (nI i + 2) - (nI i + 2) / 3 * 3 = nI ((i + 2) % 3) := ap_lt3 (by decide) (by decide) (by decide)
section
variable {pB kB pm : Int32} {fa ki bo us go ai pt kt : Nat → Int32}
theorem ax_cross {post : Int32 → Prop} {p q i : Nat} (hp : p < 11) (hq : q < 11) (hi : i < 3) (h : post (ap_i (ap_cr (ap_F fa) p q i))) : wpX_cross post (pB, kB, pm, fa, ki, bo, us, go, ai, pt, kt) (nI p) (nI q) (nI i) := by
  have a1 : (i + 1) % 3 < 3 := Nat.mod_lt _ (by decide)
  have a2 : (i + 2) % 3 < 3 := Nat.mod_lt _ (by decide)
  refine ⟨by decide, nm_r (ax_m1 i hi) ⟨by decide, nm_r (ax_m2 i hi) ?_⟩⟩
  simp only [ap_3i]
  refine ⟨ap_in (by omega) (by decide), ap_in (by omega) (by decide), ap_in (by omega) (by decide), ap_in (by omega) (by decide), ?_⟩
  rw [ap_cl (by omega), ap_cl (by omega), ap_cl (by omega), ap_cl (by omega), ap_Fi fa p, ap_Fi fa p, ap_Fi fa q, ap_Fi fa q, ap_i_mul, ap_i_mul, ap_i_sub]
  exact h
theorem ax_pac6 {post : Int32 → SX → Prop} {p q r i n : Nat} {x : Int} (hp : p < 11) (hq : q < 11) (hr : r < 11) (hi : i < 3)
    (h : wX_placeAtCorner_6 post (nI p) (nI q) (nI r) pB kB pm fa ki bo us go ai pt kt n (ap_i (x + ap_F fa p i * ap_cr (ap_F fa) q r i)) (nI (i + 1))) :
    wX_placeAtCorner_6 post (nI p) (nI q) (nI r) pB kB pm fa ki bo us go ai pt kt (n + 1) (ap_i x) (nI i) := by
  refine br_f (ap_l3 i hi) ⟨?_, ax_cross hq hr hi ?_⟩
  · rw [ap_3i]; exact ap_in (by omega) (by decide)
  · refine nm_r ?_ (nm_r (nI_1 i) h)
    rw [ap_3i, ap_cl (by omega), ap_Fi fa, ap_i_mul, ap_i_add]
theorem ax_pac74 {post : Int32 → SX → Prop} {p q r i n : Nat} {s : Int} (hp : p < 11) (hq : q < 11) (hr : r < 11) (hi : i < 3)
    (h : wX_placeAtCorner_74 post (nI p) (nI q) (nI r) (ap_i s) pB kB pm n (nI (i + 1)) fa ki bo us go ai (upd pt i (ap_i (s * ap_tp (ap_F fa) (ap_B bo) p q r i))) kt) :
    wX_placeAtCorner_74 post (nI p) (nI q) (nI r) (ap_i s) pB kB pm (n + 1) (nI i) fa ki bo us go ai pt kt := by
  refine br_f (ap_l3 i hi) ⟨ap_in hp (by decide), ax_cross hq hr hi ⟨ap_in hq (by decide), ax_cross hr hp hi ⟨ap_in hr (by decide), ax_cross hp hq hi ?_⟩⟩⟩
  refine nm_r (e' := ap_i (ap_tp (ap_F fa) (ap_B bo) p q r i)) ?_ ⟨ap_in hi (by decide), nm_r ?_ (nm_r (nI_1 i) h)⟩
  · rw [ap_cl (by omega), ap_cl (by omega), ap_cl (by omega), ap_Bi bo p, ap_Bi bo q, ap_Bi bo r, ap_i_mul, ap_i_mul, ap_i_mul, ap_i_add, ap_i_add]
    rfl
  · rw [ap_cl (by omega), ap_i_mul]
theorem ax_pac60 {post : Int32 → SX → Prop} {p q r : Nat} {s d : Int} (hp : p < 11) (hq : q < 11) (hr : r < 11)
    (h : ∀ pt' : Nat → Int32, (∀ i, i < 3 → pt' i = ap_i (s * ap_tp (ap_F fa) (ap_B bo) p q r i)) → post 1 (ap_i (s * d), kB, pm, fa, ki, bo, us, go, ai, pt', kt)) :
    wX_placeAtCorner_60 post (nI p) (nI q) (nI r) (ap_i d) (ap_i s) pB kB pm fa ki bo us go ai pt kt := by
  refine nm_r (ap_i_mul s d) ⟨4, ?_⟩
  refine ax_pac74 (i := 0) hp hq hr (by decide) (ax_pac74 (i := 1) hp hq hr (by decide) (ax_pac74 (i := 2) hp hq hr (by decide) (br_t ap_g3 (h _ ?_))))
  exact ap_lt3 (by rw [pk_un (by decide), pk_un (by decide), pk_us]) (by rw [pk_un (by decide), pk_us]) (by rw [pk_us])
theorem ax_placeAtCorner {post : Int32 → SX → Prop} {p q r : Nat} (hF : ∀ r i, ap_b 7 (ap_F fa r i)) (hp : p < 11) (hq : q < 11) (hr : r < 11)
    (h0 : ap_dt (ap_F fa) p q r = 0 → post 0 (pB, kB, pm, fa, ki, bo, us, go, ai, pt, kt))
    (h1 : ap_dt (ap_F fa) p q r ≠ 0 → ∀ pt' : Nat → Int32, (∀ i, i < 3 → pt' i = ap_i ((ap_co (ap_F fa) (ap_B bo) p q r).1 i)) → post 1 (ap_i (ap_co (ap_F fa) (ap_B bo) p q r).2, kB, pm, fa, ki, bo, us, go, ai, pt', kt)) :
    wpX_placeAtCorner post (pB, kB, pm, fa, ki, bo, us, go, ai, pt, kt) (nI p) (nI q) (nI r) := by
  refine ⟨4, ?_⟩
  refine ax_pac6 (x := 0) (i := 0) hp hq hr (by decide) (ax_pac6 (i := 1) hp hq hr (by decide) (ax_pac6 (i := 2) hp hq hr (by decide) (br_t ap_g3 ?_)))
  have e : 0 + ap_F fa p 0 * ap_cr (ap_F fa) q r 0 + ap_F fa p 1 * ap_cr (ap_F fa) q r 1 + ap_F fa p 2 * ap_cr (ap_F fa) q r 2 = ap_dt (ap_F fa) p q r := by
    unfold ap_dt; omega
  rw [e]
  have hd := ap_b_le (ap_dt_b hF p q r) (show 2058 ≤ 2147483647 by decide)
  refine br_c (fun z => h0 ((ap_i_eq0 hd).mp z)) (fun z => ?_)
  have z' : ap_dt (ap_F fa) p q r ≠ 0 := fun y => z ((ap_i_eq0 hd).mpr y)
  have h1' := h1 z'
  unfold ap_co ap_sg at h1'
  refine br_c (fun y => ?_) (fun y => ?_)
  · rw [if_pos ((ap_i_0le hd).mp y)] at h1'
    exact ax_pac60 hp hq hr h1'
  · rw [if_neg (fun w => y ((ap_i_0le hd).mpr w))] at h1'
    exact ax_pac60 hp hq hr h1'
theorem ax_exP14 {post : Int32 → Prop} {r i n : Nat} {x : Int} {P : ap_P} (hr : r < 11) (hi : i < 3) (hpt : ∀ i, i < 3 → pt i = ap_i (P.1 i))
    (h : wX_excess__placeTops_14 post (nI r) pB kB pm fa ki bo us go ai pt kt n (ap_i (x + ap_F fa r i * P.1 i)) (nI (i + 1))) :
    wX_excess__placeTops_14 post (nI r) pB kB pm fa ki bo us go ai pt kt (n + 1) (ap_i x) (nI i) := by
  refine br_f (ap_l3 i hi) ⟨?_, ap_in hi (by decide), nm_r ?_ (nm_r (nI_1 i) h)⟩
  · rw [ap_3i]; exact ap_in (by omega) (by decide)
  · rw [ap_3i, ap_cl (by omega), ap_cl (by omega), ap_Fi fa, hpt i hi, ap_i_mul, ap_i_add]
theorem ax_exP {post : Int32 → Prop} {r : Nat} {P : ap_P} (hr : r < 11) (hpt : ∀ i, i < 3 → pt i = ap_i (P.1 i))
    (h : post (ap_i (ap_ex (ap_F fa) (ap_B bo) r P))) : wpX_excess__placeTops post (pB, kB, pm, fa, ki, bo, us, go, ai, pt, kt) (nI r) (ap_i P.2) := by
  refine ⟨ap_in hr (by decide), nm_r (e' := ap_i (-(ap_B bo r) * P.2)) ?_ ⟨4, ?_⟩⟩
  · rw [ap_cl (by omega), ap_Bi bo, ap_i_neg, ap_i_mul]
  · refine ax_exP14 (i := 0) hr (by decide) hpt (ax_exP14 (i := 1) hr (by decide) hpt (ax_exP14 (i := 2) hr (by decide) hpt (br_t ap_g3 ?_)))
    have e : -(ap_B bo r) * P.2 + ap_F fa r 0 * P.1 0 + ap_F fa r 1 * P.1 1 + ap_F fa r 2 * P.1 2 = ap_ex (ap_F fa) (ap_B bo) r P := by
      unfold ap_ex; rw [Int.neg_mul]; omega
    rw [e]; exact h
theorem ax_exK14 {post : Int32 → Prop} {r i n : Nat} {x : Int} {P : ap_P} (hr : r < 11) (hi : i < 3) (hkt : ∀ i, i < 3 → kt i = ap_i (P.1 i))
    (h : wX_excess__keptTops_14 post (nI r) pB kB pm fa ki bo us go ai pt kt n (ap_i (x + ap_F fa r i * P.1 i)) (nI (i + 1))) :
    wX_excess__keptTops_14 post (nI r) pB kB pm fa ki bo us go ai pt kt (n + 1) (ap_i x) (nI i) := by
  refine br_f (ap_l3 i hi) ⟨?_, ap_in hi (by decide), nm_r ?_ (nm_r (nI_1 i) h)⟩
  · rw [ap_3i]; exact ap_in (by omega) (by decide)
  · rw [ap_3i, ap_cl (by omega), ap_cl (by omega), ap_Fi fa, hkt i hi, ap_i_mul, ap_i_add]
theorem ax_exK {post : Int32 → Prop} {r : Nat} {P : ap_P} (hr : r < 11) (hkt : ∀ i, i < 3 → kt i = ap_i (P.1 i))
    (h : post (ap_i (ap_ex (ap_F fa) (ap_B bo) r P))) : wpX_excess__keptTops post (pB, kB, pm, fa, ki, bo, us, go, ai, pt, kt) (nI r) (ap_i P.2) := by
  refine ⟨ap_in hr (by decide), nm_r (e' := ap_i (-(ap_B bo r) * P.2)) ?_ ⟨4, ?_⟩⟩
  · rw [ap_cl (by omega), ap_Bi bo, ap_i_neg, ap_i_mul]
  · refine ax_exK14 (i := 0) hr (by decide) hkt (ax_exK14 (i := 1) hr (by decide) hkt (ax_exK14 (i := 2) hr (by decide) hkt (br_t ap_g3 ?_)))
    have e : -(ap_B bo r) * P.2 + ap_F fa r 0 * P.1 0 + ap_F fa r 1 * P.1 1 + ap_F fa r 2 * P.1 2 = ap_ex (ap_F fa) (ap_B bo) r P := by
      unfold ap_ex; rw [Int.neg_mul]; omega
    rw [e]; exact h
theorem ax_pma69 {post J2 : Int32 → Prop} {r : Nat} {x3 z0 : Int32} (hJ : x3 = 0 → z0 = 0 → J2 (nI (r + 1))) (hp : ¬ (x3 = 0 ∧ z0 = 0) → post 0) :
    wX_placeMeetsAll_69 post J2 (nI r) x3 z0 pB kB pm fa ki bo us go ai pt kt :=
  br_c (fun a => br_c (fun b => nm_r (nI_1 r) (hJ a b)) (fun b => hp (fun c => b c.2))) (fun a => hp (fun c => a c.1))
theorem ax_pma50 {post J2 : Int32 → Prop} {r : Nat} {z0 : Int32} {e : Int} (hr : r < 11) (he : ap_b 2147483647 e)
    (hJ : z0 = 0 → ¬ (e < 0 ∧ ¬ ki r = 0) → J2 (nI (r + 1))) (hp : (¬ z0 = 0 ∨ (e < 0 ∧ ¬ ki r = 0)) → post 0) :
    wX_placeMeetsAll_50 post J2 (nI r) (ap_i e) z0 pB kB pm fa ki bo us go ai pt kt := by
  refine br_c (fun a => ax_pma69 (fun b _ => hJ b ?_) (fun b => hp (Or.inl (fun c => b ⟨c, rfl⟩)))) (fun a => ⟨ap_in hr (by decide), ?_⟩)
  · rw [ap_i_0le he] at a; omega
  · rw [ap_cl (by omega)]
    rw [ap_i_0le he] at a
    refine br_c (fun b => ax_pma69 (fun c _ => hJ c (fun d => d.2 b)) (fun c => hp (Or.inl (fun d => c ⟨d, rfl⟩)))) (fun b => ?_)
    exact ax_pma69 (fun c d => absurd d (by decide)) (fun c => hp (Or.inr ⟨by omega, b⟩))
theorem ax_pma2 {post : Int32 → Prop} {P : ap_P} (hF : ∀ r i, ap_b 7 (ap_F fa r i)) (hB : ∀ r, ap_b 99 (ap_B bo r)) (hP : ap_pb P)
    (hpt : ∀ i, i < 3 → pt i = ap_i (P.1 i)) (h1 : ap_ok (ap_F fa) (ap_B bo) ki us P → post 1) (h0 : ¬ ap_ok (ap_F fa) (ap_B bo) ki us P → post 0) :
    ∀ d r, r + d = 11 → (∀ j, j < r → ¬ us j = 0 → ap_rk (ap_F fa) (ap_B bo) ki P j) → wX_placeMeetsAll_2 post (ap_i P.2) kB pm fa ki bo us go ai pt kt (d + 1) (nI r) := by
  intro d
  induction d with
  | zero =>
    intro r hr hj
    have : r = 11 := by omega
    subst this
    exact br_t ap_g11 (h1 hj)
  | succ d ih =>
    intro r hr hj
    have hr' : r < 11 := by omega
    refine br_f (ap_l11 r hr') ⟨ap_in hr' (by decide), ?_⟩
    rw [ap_cl (by omega)]
    refine br_c (fun z => nm_r (nI_1 r) (ih (r + 1) (by omega) (fun j hj' hu => ?_))) (fun z => ax_exP hr' hpt ?_)
    · rcases Nat.lt_or_ge j r with a | a
      · exact hj j a hu
      · have : j = r := by omega
        subst this; exact absurd z hu
    · have he := ap_b_le (ap_ex_b hF hB hP r) (show 814968 ≤ 2147483647 by decide)
      have gg : ap_rk (ap_F fa) (ap_B bo) ki P r → wX_placeMeetsAll_2 post (ap_i P.2) kB pm fa ki bo us go ai pt kt (d + 1) (nI (r + 1)) := by
        intro hk
        refine ih (r + 1) (by omega) (fun j hj' hu => ?_)
        rcases Nat.lt_or_ge j r with a | a
        · exact hj j a hu
        · have : j = r := by omega
          subst this; exact hk
      have stop : ¬ ap_rk (ap_F fa) (ap_B bo) ki P r → post 0 := fun hk => h0 (fun ho => hk (ho r hr' z))
      unfold ap_rk at gg stop
      refine br_c (fun a => ?_) (fun a => ⟨ap_in hr' (by decide), br_c (fun b => ?_) (fun b => ?_)⟩)
      · rw [ap_i_le0 he] at a
        exact ax_pma50 hr' he (fun _ c => gg (fun w => w.elim (fun y => by omega) c)) (fun c => stop (fun w => w (Or.inr (c.resolve_left (fun x => x rfl)))))
      · rw [ap_i_le0 he] at a
        exact ax_pma50 hr' he (fun _ c => gg (fun w => w.elim (fun y => y.2 b) c)) (fun c => stop (fun w => w (Or.inr (c.resolve_left (fun x => x rfl)))))
      · rw [ap_i_le0 he] at a
        exact ax_pma50 hr' he (fun c => absurd c (by decide)) (fun c => stop (fun w => w (Or.inl ⟨by omega, b⟩)))
theorem ax_placeMeetsAll {post : Int32 → Prop} {P : ap_P} (hF : ∀ r i, ap_b 7 (ap_F fa r i)) (hB : ∀ r, ap_b 99 (ap_B bo r)) (hP : ap_pb P)
    (hpt : ∀ i, i < 3 → pt i = ap_i (P.1 i)) (h1 : ap_ok (ap_F fa) (ap_B bo) ki us P → post 1) (h0 : ¬ ap_ok (ap_F fa) (ap_B bo) ki us P → post 0) :
    wpX_placeMeetsAll post (ap_i P.2, kB, pm, fa, ki, bo, us, go, ai, pt, kt) :=
  ⟨12, ax_pma2 hF hB hP hpt h1 h0 11 0 rfl (fun j hj => absurd hj (Nat.not_lt_zero j))⟩
theorem ax_aiP4 {post : Int32 → Prop} {i n : Nat} {x : Int} {A : Nat → Int} {P : ap_P} (hi : i < 3) (hai : ∀ i, i < 3 → ai i = ap_i (A i)) (hpt : ∀ i, i < 3 → pt i = ap_i (P.1 i))
    (h : wX_aimedAt__placeTops_4 post pB kB pm fa ki bo us go ai pt kt n (ap_i (x + A i * P.1 i)) (nI (i + 1))) :
    wX_aimedAt__placeTops_4 post pB kB pm fa ki bo us go ai pt kt (n + 1) (ap_i x) (nI i) := by
  refine br_f (ap_l3 i hi) ⟨ap_in hi (by decide), ap_in hi (by decide), nm_r ?_ (nm_r (nI_1 i) h)⟩
  rw [ap_cl (by omega), hai i hi, hpt i hi, ap_i_mul, ap_i_add]
theorem ax_aiP {post : Int32 → Prop} {A : Nat → Int} {P : ap_P} (hai : ∀ i, i < 3 → ai i = ap_i (A i)) (hpt : ∀ i, i < 3 → pt i = ap_i (P.1 i))
    (h : post (ap_i (ap_w A P))) : wpX_aimedAt__placeTops post (pB, kB, pm, fa, ki, bo, us, go, ai, pt, kt) := by
  refine ⟨4, ax_aiP4 (x := 0) (i := 0) (by decide) hai hpt (ax_aiP4 (i := 1) (by decide) hai hpt (ax_aiP4 (i := 2) (by decide) hai hpt (br_t ap_g3 ?_)))⟩
  have e : 0 + A 0 * P.1 0 + A 1 * P.1 1 + A 2 * P.1 2 = ap_w A P := by unfold ap_w; omega
  rw [e]; exact h
theorem ax_aiK4 {post : Int32 → Prop} {i n : Nat} {x : Int} {A : Nat → Int} {P : ap_P} (hi : i < 3) (hai : ∀ i, i < 3 → ai i = ap_i (A i)) (hkt : ∀ i, i < 3 → kt i = ap_i (P.1 i))
    (h : wX_aimedAt__keptTops_4 post pB kB pm fa ki bo us go ai pt kt n (ap_i (x + A i * P.1 i)) (nI (i + 1))) :
    wX_aimedAt__keptTops_4 post pB kB pm fa ki bo us go ai pt kt (n + 1) (ap_i x) (nI i) := by
  refine br_f (ap_l3 i hi) ⟨ap_in hi (by decide), ap_in hi (by decide), nm_r ?_ (nm_r (nI_1 i) h)⟩
  rw [ap_cl (by omega), hai i hi, hkt i hi, ap_i_mul, ap_i_add]
theorem ax_aiK {post : Int32 → Prop} {A : Nat → Int} {P : ap_P} (hai : ∀ i, i < 3 → ai i = ap_i (A i)) (hkt : ∀ i, i < 3 → kt i = ap_i (P.1 i))
    (h : post (ap_i (ap_w A P))) : wpX_aimedAt__keptTops post (pB, kB, pm, fa, ki, bo, us, go, ai, pt, kt) := by
  refine ⟨4, ax_aiK4 (x := 0) (i := 0) (by decide) hai hkt (ax_aiK4 (i := 1) (by decide) hai hkt (ax_aiK4 (i := 2) (by decide) hai hkt (br_t ap_g3 ?_)))⟩
  have e : 0 + A 0 * P.1 0 + A 1 * P.1 1 + A 2 * P.1 2 = ap_w A P := by unfold ap_w; omega
  rw [e]; exact h
end
