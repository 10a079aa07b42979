/-! ===== the methods that only read ===== -/
theorem i_vc_holds {k : Nat} {u : SX} {v : SY} (I : i_Rel k u v) (hk : k + 4 ≤ 2048) (v1 : Int32) (v2 : Int32) (v3 : Int32) : wpX_holds (fun r => wpY_holds (fun r' => r' = r ∧ i_Rel (k + 4) u v) v v1 v2 v3) u v1 v2 v3 := by
  have I' := i_up I
  obtain ⟨n, R, P, Fc, T, B, fa, he, hb, sh, hd, fb, sb, dp, lv, ys, yh, ya, yb, yf, yw, yo, yl, yd, rfl, rfl, G⟩ := I
  obtain ⟨hn, hR, hX, hY, h5, hP, H1, H1', H2, H2', H3⟩ := G
  unfold wpX_holds
  dsimp only
  rcases dd_tri v1 v2 v3 with h | ⟨r, x, y, hr, hx, hy, rfl, rfl, rfl⟩
  · refine dd_hch0 h ⟨rfl, ?_⟩
    unfold wpY_holds
    dsimp only
    exact dd_it0 h (br_t rfl ⟨rfl, I'⟩)
  · refine dd_hch1 hr hx hy H2 ⟨dd_bI_n _, ?_⟩
    unfold wpY_holds
    dsimp only
    refine dd_it1 hr hx hy (br_f dd_o1 ?_)
    rw [dd_at, nI_clamp (n := 36 * r + 6 * x + y) (by omega), dd_YHb H2' (show 36 * r + 6 * x + y < 216 by omega)]
    refine ⟨dd_v216 (by omega), br_c (fun z => ⟨z.symm, I'⟩) (fun z => ⟨?_, I'⟩)⟩
    rw [dd_bI_0] at z
    rw [dd_ts z]; rfl
theorem i_vc_isFact {k : Nat} {u : SX} {v : SY} (I : i_Rel k u v) (hk : k + 4 ≤ 2048) (v1 : Int32) (v2 : Int32) (v3 : Int32) : wpX_isFact (fun r => wpY_isFact (fun r' => r' = r ∧ i_Rel (k + 4) u v) v v1 v2 v3) u v1 v2 v3 := by
  have I' := i_up I
  obtain ⟨n, R, P, Fc, T, B, fa, he, hb, sh, hd, fb, sb, dp, lv, ys, yh, ya, yb, yf, yw, yo, yl, yd, rfl, rfl, G⟩ := I
  obtain ⟨hn, hR, hX, hY, h5, hP, H1, H1', H2, H2', H3⟩ := G
  unfold wpX_isFact
  dsimp only
  rcases dd_tri v1 v2 v3 with h | ⟨r, x, y, hr, hx, hy, rfl, rfl, rfl⟩
  · refine dd_hcf0 h ⟨rfl, ?_⟩
    unfold wpY_isFact
    dsimp only
    exact dd_it0 h (br_t rfl ⟨rfl, I'⟩)
  · refine dd_hcf1 hr hx hy H1 ⟨dd_bI_n _, ?_⟩
    unfold wpY_isFact
    dsimp only
    refine dd_it1 hr hx hy (br_f dd_o1 ?_)
    rw [dd_at, nI_clamp (n := 36 * r + 6 * x + y) (by omega), dd_YHb H1' (show 36 * r + 6 * x + y < 216 by omega)]
    refine ⟨dd_v216 (by omega), br_c (fun z => ⟨z.symm, I'⟩) (fun z => ⟨?_, I'⟩)⟩
    rw [dd_bI_0] at z
    rw [dd_ts z]; rfl
section
variable {rc gc lc yn : Int32} {fa he hb sh hd fb sb dp lv ys yh ya yb yf yw yo yl yd : Nat → Int32}
theorem dd_xc13 {post : Int32 → Prop} {T : Nat → Bool} {r : Nat} (hr : r < 6) (H : dd_XH he T) (K : post (nI (dd_cnt (fun i => T (36 * r + i)) 36))) :
    ∀ k x, x + k = 6 → wX_count_13 post (nI r) rc gc lc fa he hb sh hd fb sb dp lv (k + 1) (nI (dd_cnt (fun i => T (36 * r + i)) (6 * x))) (nI x) := by
  intro k
  induction k with
  | zero =>
    intro x hx
    have e : x = 6 := by omega
    subst e
    exact br_t dd_t6 K
  | succ k ih =>
    intro x hx
    refine br_f (dd_g6 (by omega)) ?_
    rw [dd_i6, nI_clamp (n := 6 * r + x) (by omega)]
    refine ⟨dd_v36 (by omega), dd_xs (f := fun i => T (36 * r + (6 * x + i))) (fun i hi => ?_) (nm_r (e' := nI (dd_cnt (fun i => T (36 * r + i)) (6 * (x + 1)))) ?_ (nm_r (nI_1 x) (ih (x + 1) (by omega))))⟩
    · rw [H _ (by omega) i (by omega), decide_eq_true hi, Bool.true_and]
      have e0 : 6 * (6 * r + x) + i = 36 * r + (6 * x + i) := by omega
      rw [e0]
    · rw [nI_add, dd_cnt6]
theorem dd_yc14 {post : Int32 → Prop} {T : Nat → Bool} {r : Nat} (hr : r < 6) (H : dd_YH yw T) (K : post (nI (dd_cnt (fun i => T (36 * r + i)) 36))) :
    ∀ k c, c + k = 36 → wY_count_14 post (nI r) yn ys yh ya yb yf yw yo yl yd (k + 1) (nI (dd_cnt (fun i => T (36 * r + i)) c)) (nI c) := by
  intro k
  induction k with
  | zero =>
    intro c hc
    have e : c = 36 := by omega
    subst e
    exact br_t (nI_le (a := 36) (Nat.le_refl _) (by decide)) K
  | succ k ih =>
    intro c hc
    have ih := ih (c + 1) (by omega)
    have es : dd_cnt (fun i => T (36 * r + i)) (c + 1) = dd_cnt (fun i => T (36 * r + i)) c + (if T (36 * r + c) = true then 1 else 0) := rfl
    refine br_f (nI_ge (b := 36) (by omega) (by decide)) ?_
    rw [dd_i36, nI_add, nI_clamp (n := 36 * r + c) (by omega), dd_YHb H (show 36 * r + c < 216 by omega)]
    refine ⟨dd_v216 (by omega), br_c (fun z => ?_) (fun z => ?_)⟩
    · rw [es, dd_bI_0.mp z, if_neg (by decide), Nat.add_zero] at ih
      exact nm_r (nI_1 c) ih
    · rw [dd_bI_0] at z
      rw [es, dd_ts z, if_pos rfl] at ih
      exact nm_r (nI_1 _) (nm_r (nI_1 c) ih)
theorem dd_yga {post : Int32 → Prop} {T B : Nat → Bool} (H : dd_YH yw T) (H0 : dd_YH yo B) (K : post (nI (dd_cnt (fun k => T k && !B k) 216))) :
    ∀ k c, c + k = 216 → wY_gained_4 post yn ys yh ya yb yf yw yo yl yd (k + 1) (nI (dd_cnt (fun k => T k && !B k) c)) (nI c) := by
  intro k
  induction k with
  | zero =>
    intro c hc
    have e : c = 216 := by omega
    subst e
    exact br_t (nI_le (a := 216) (Nat.le_refl _) (by decide)) K
  | succ k ih =>
    intro c hc
    have ih := ih (c + 1) (by omega)
    have c216 : c < 216 := by omega
    have es : dd_cnt (fun k => T k && !B k) (c + 1) = dd_cnt (fun k => T k && !B k) c + (if (T c && !B c) = true then 1 else 0) := rfl
    have v := dd_v216 c216
    refine br_f (nI_ge (b := 216) (by omega) (by decide)) ?_
    rw [nI_clamp (n := c) (by omega), dd_YHb H c216, dd_YHb H0 c216]
    refine ⟨v, br_c (fun z => ?_) (fun z => ⟨v, br_c (fun y => ?_) (fun y => ?_)⟩)⟩
    · rw [es, dd_bI_0.mp z, Bool.false_and, if_neg (by decide), Nat.add_zero] at ih
      exact nm_r (nI_1 c) ih
    · rw [dd_bI_0] at z
      rw [es, dd_ts z, dd_bI_0.mp y, if_pos (by decide)] at ih
      exact nm_r (nI_1 _) (nm_r (nI_1 c) ih)
    · rw [dd_bI_0] at z y
      rw [es, dd_ts z, dd_ts y, if_neg (by decide), Nat.add_zero] at ih
      exact nm_r (nI_1 c) ih
theorem dd_ylo {post : Int32 → Prop} {T B : Nat → Bool} (H : dd_YH yw T) (H0 : dd_YH yo B) (K : post (nI (dd_cnt (fun k => B k && !T k) 216))) :
    ∀ k c, c + k = 216 → wY_lost_4 post yn ys yh ya yb yf yw yo yl yd (k + 1) (nI (dd_cnt (fun k => B k && !T k) c)) (nI c) := by
  intro k
  induction k with
  | zero =>
    intro c hc
    have e : c = 216 := by omega
    subst e
    exact br_t (nI_le (a := 216) (Nat.le_refl _) (by decide)) K
  | succ k ih =>
    intro c hc
    have ih := ih (c + 1) (by omega)
    have c216 : c < 216 := by omega
    have es : dd_cnt (fun k => B k && !T k) (c + 1) = dd_cnt (fun k => B k && !T k) c + (if (B c && !T c) = true then 1 else 0) := rfl
    have v := dd_v216 c216
    refine br_f (nI_ge (b := 216) (by omega) (by decide)) ?_
    rw [nI_clamp (n := c) (by omega), dd_YHb H c216, dd_YHb H0 c216]
    refine ⟨v, br_c (fun z => ?_) (fun z => ⟨v, br_c (fun y => ?_) (fun y => ?_)⟩)⟩
    · rw [es, dd_bI_0.mp z, Bool.false_and, if_neg (by decide), Nat.add_zero] at ih
      exact nm_r (nI_1 c) ih
    · rw [dd_bI_0] at z
      rw [es, dd_ts z, dd_bI_0.mp y, if_pos (by decide)] at ih
      exact nm_r (nI_1 _) (nm_r (nI_1 c) ih)
    · rw [dd_bI_0] at z y
      rw [es, dd_ts z, dd_ts y, if_neg (by decide), Nat.add_zero] at ih
      exact nm_r (nI_1 c) ih
theorem dd_yf23 {post : Int32 → Prop} {T : Nat → Bool} {r x : Nat} (hr : r < 6) (hx : x < 6) (H : dd_YH yw T) (K : ∀ v, dd_RB v (fun i => T (36 * r + 6 * x + i)) → post v) :
    ∀ k y v, y + k = 6 → (∀ i, i < 32 → bt v i = (decide (i < y) && T (36 * r + 6 * x + i))) → wY_from_23 post (nI r) (nI x) yn ys yh ya yb yf yw yo yl yd (k + 1) v (nI y) := by
  intro k
  induction k with
  | zero =>
    intro y v hy G
    have e : y = 6 := by omega
    subst e
    exact br_t dd_t6 (K v G)
  | succ k ih =>
    intro y v hy G
    refine br_f (dd_g6 (by omega)) ?_
    rw [dd_at, nI_clamp (n := 36 * r + 6 * x + y) (by omega), dd_YHb H (show 36 * r + 6 * x + y < 216 by omega)]
    refine ⟨dd_v216 (by omega), br_c (fun z => nm_r (nI_1 y) (ih (y + 1) v (by omega) (fun i hi => ?_))) (fun z => nm_e (nm_r (nI_1 y) (ih (y + 1) _ (by omega) (fun i hi => ?_))))⟩
    · rw [G i hi]
      by_cases e : i = y
      · subst e
        rw [dd_bI_0.mp z, Bool.and_false, Bool.and_false]
      · have : decide (i < y) = decide (i < y + 1) := decide_eq_decide.mpr (by omega)
        rw [this]
    · rw [dd_vor v (by omega) hi, G i hi]
      rw [dd_bI_0] at z
      by_cases e : i = y
      · subst e
        rw [if_pos rfl, dd_ts z, decide_eq_true (Nat.lt_succ_self i)]; rfl
      · have : decide (i < y) = decide (i < y + 1) := decide_eq_decide.mpr (by omega)
        rw [if_neg e, this]
end
theorem i_vc_count {k : Nat} {u : SX} {v : SY} (I : i_Rel k u v) (hk : k + 4 ≤ 2048) (v1 : Int32) : wpX_count (fun r => wpY_count (fun r' => r' = r ∧ i_Rel (k + 4) u v) v v1) u v1 := by
  have I' := i_up I
  obtain ⟨n, R, P, Fc, T, B, fa, he, hb, sh, hd, fb, sb, dp, lv, ys, yh, ya, yb, yf, yw, yo, yl, yd, rfl, rfl, G⟩ := I
  obtain ⟨hn, hR, hX, hY, h5, hP, H1, H1', H2, H2', H3⟩ := G
  unfold wpX_count
  dsimp only
  rcases dd_rng v1 with h | ⟨r, hr, rfl⟩
  · refine dd_ir0 h (br_t rfl ?_)
    unfold wpY_count
    dsimp only
    exact dd_in0 h (br_t rfl ⟨rfl, I'⟩)
  · refine dd_ir1 hr (br_f dd_o1 ⟨7, dd_xc13 hr H2 ?_ 6 0 rfl⟩)
    unfold wpY_count
    dsimp only
    exact dd_in1 hr (br_f dd_o1 ⟨37, dd_yc14 hr H2' ⟨rfl, I'⟩ 36 0 rfl⟩)
theorem i_vc_gained {k : Nat} {u : SX} {v : SY} (I : i_Rel k u v) (hk : k + 4 ≤ 2048) : wpX_gained (fun r => wpY_gained (fun r' => r' = r ∧ i_Rel (k + 4) u v) v) u := by
  have I' := i_up I
  obtain ⟨n, R, P, Fc, T, B, fa, he, hb, sh, hd, fb, sb, dp, lv, ys, yh, ya, yb, yf, yw, yo, yl, yd, rfl, rfl, G⟩ := I
  obtain ⟨hn, hR, hX, hY, h5, hP, H1, H1', H2, H2', H3⟩ := G
  unfold wpX_gained wpY_gained
  dsimp only
  exact ⟨217, dd_yga H2' H3 ⟨rfl, I'⟩ 216 0 rfl⟩
theorem i_vc_lost {k : Nat} {u : SX} {v : SY} (I : i_Rel k u v) (hk : k + 4 ≤ 2048) : wpX_lost (fun r => wpY_lost (fun r' => r' = r ∧ i_Rel (k + 4) u v) v) u := by
  have I' := i_up I
  obtain ⟨n, R, P, Fc, T, B, fa, he, hb, sh, hd, fb, sb, dp, lv, ys, yh, ya, yb, yf, yw, yo, yl, yd, rfl, rfl, G⟩ := I
  obtain ⟨hn, hR, hX, hY, h5, hP, H1, H1', H2, H2', H3⟩ := G
  unfold wpX_lost wpY_lost
  dsimp only
  exact ⟨217, dd_ylo H2' H3 ⟨rfl, I'⟩ 216 0 rfl⟩
theorem i_vc_from {k : Nat} {u : SX} {v : SY} (I : i_Rel k u v) (hk : k + 4 ≤ 2048) (v1 : Int32) (v2 : Int32) : wpX_from (fun r => wpY_from (fun r' => r' = r ∧ i_Rel (k + 4) u v) v v1 v2) u v1 v2 := by
  have I' := i_up I
  obtain ⟨n, R, P, Fc, T, B, fa, he, hb, sh, hd, fb, sb, dp, lv, ys, yh, ya, yb, yf, yw, yo, yl, yd, rfl, rfl, G⟩ := I
  obtain ⟨hn, hR, hX, hY, h5, hP, H1, H1', H2, H2', H3⟩ := G
  unfold wpX_from wpY_from
  dsimp only
  rcases dd_rng v1 with h | ⟨r, hr, rfl⟩
  · exact dd_ir0 h (br_t rfl (dd_in0 h (br_t rfl ⟨rfl, I'⟩)))
  rcases dd_rng v2 with h | ⟨x, hx, rfl⟩
  · exact dd_ir1 hr (br_f dd_o1 (dd_ir0 h (br_t rfl (dd_in1 hr (br_f dd_o1 (dd_in0 h (br_t rfl ⟨rfl, I'⟩)))))))
  refine dd_ir1 hr (br_f dd_o1 (dd_ir1 hx (br_f dd_o1 ?_)))
  rw [dd_i6, nI_clamp (n := 6 * r + x) (by omega)]
  refine ⟨dd_v36 (by omega), dd_in1 hr (br_f dd_o1 (dd_in1 hx (br_f dd_o1 ⟨7, dd_yf23 hr hx H2' (fun w hw => ⟨b_ext (fun i hi => ?_), I'⟩) 6 0 0 rfl (fun i _ => ?_)⟩)))⟩
  · rw [b_0, decide_eq_false (Nat.not_lt_zero i), Bool.false_and]
  · rw [hw i hi, H2 _ (by omega) i hi]
    have e0 : 6 * (6 * r + x) + i = 36 * r + 6 * x + i := by omega
    rw [e0]
