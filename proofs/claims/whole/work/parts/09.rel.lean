/-! ===== the relation ===== -/
def dd_G (n : Nat) (R P : Nat → Nat) (Fc T B : Nat → Bool) (fa he sh hd fb sb ys yh ya yb yf yw yo : Nat → Int32) : Prop :=
  n ≤ 8 ∧ (∀ i, i < n → R i < 1080) ∧ dd_XR R n sh hd fb sb ∧ dd_YR R n ys yh ya yb ∧ (∀ r, P r ≤ 5) ∧ dd_Cl R n P ∧ dd_XH fa Fc ∧ dd_YH yf Fc ∧ dd_XH he T ∧ dd_YH yw T ∧ dd_YH yo B
def i_Rel (k : Nat) (u : SX) (v : SY) : Prop :=
  ∃ (n : Nat) (R P : Nat → Nat) (Fc T B : Nat → Bool) (fa he hb sh hd fb sb dp lv ys yh ya yb yf yw yo yl yd : Nat → Int32),
    u = (nI n, nI (dd_cnt (fun k => T k && !B k) 216), nI (dd_cnt (fun k => B k && !T k) 216), fa, he, hb, sh, hd, fb, sb, dp, lv) ∧ v = (nI n, ys, yh, ya, yb, yf, yw, yo, yl, yd) ∧
    dd_G n R P Fc T B fa he sh hd fb sb ys yh ya yb yf yw yo
theorem i_up {k : Nat} {u : SX} {v : SY} (h : i_Rel k u v) : i_Rel (k + 4) u v := h
theorem dd_z0 : nI (dd_cnt (fun k => (fun _ : Nat => false) k && !(fun _ : Nat => false) k) 216) = 0 := by
  rw [show dd_cnt (fun k => (fun _ : Nat => false) k && !(fun _ : Nat => false) k) 216 = 0 from dd_cnt_F 216]
  rfl
theorem i_vc0 : wpX_init (fun u => wpY_init (fun v => i_Rel 0 u v)) := by
  refine ⟨0, fun _ => 0, fun _ => 0, fun _ => false, fun _ => false, fun _ => false, fun _ => 0, fun _ => 0, fun _ => 0, fun _ => 0, fun _ => 0, fun _ => 0, fun _ => 0, fun _ => 0, fun _ => 0, fun _ => 0, fun _ => 0, fun _ => 0, fun _ => 0, fun _ => 0, fun _ => 0, fun _ => 0, fun _ => 0, fun _ => 0, ?_, rfl, ?_⟩
  · rw [dd_z0]; rfl
  · exact ⟨by omega, fun i h => absurd h (Nat.not_lt_zero _), fun i h => absurd h (Nat.not_lt_zero _), fun i h => absurd h (Nat.not_lt_zero _), fun _ => Nat.zero_le _, fun i h => absurd h (Nat.not_lt_zero _), dd_XH_0, dd_YH_0, dd_XH_0, dd_YH_0, dd_YH_0⟩
/-! ===== after a change: both sides have settled ===== -/
section
variable {gc lc yn : Int32} {fa he hb sh hd fb sb dp lv ys yh ya yb yf yw yo yl yd : Nat → Int32}
theorem dd_both {k n : Nat} {R P : Nat → Nat} {Fc T : Nat → Bool} {postX : SX → Prop} (hn : n ≤ 8) (hR : ∀ i, i < n → R i < 1080) (hX : dd_XR R n sh hd fb sb) (hY : dd_YR R n ys yh ya yb) (h5 : ∀ r, P r ≤ 5) (hP : dd_Cl R n P)
    (H1 : dd_XH fa Fc) (H1' : dd_YH yf Fc) (H2 : dd_XH he T) (H2' : dd_YH yw T)
    (K : ∀ g l h' b' lv', (∀ postY : SY → Prop, (∀ w o yl', i_Rel k (nI n, g, l, fa, h', b', sh, hd, fb, sb, dp, lv') (nI n, ys, yh, ya, yb, yf, w, o, yl', yd) → postY (nI n, ys, yh, ya, yb, yf, w, o, yl', yd)) → wpY_settle postY (nI n, ys, yh, ya, yb, yf, yw, yo, yl, yd)) → postX (nI n, g, l, fa, h', b', sh, hd, fb, sb, dp, lv')) :
    wpX_update postX (nI n, gc, lc, fa, he, hb, sh, hd, fb, sb, dp, lv) := by
  obtain ⟨F, hF⟩ := dd_Lf_ex hP
  refine dd_xup hn hR hX hP h5 hF H1 H2 (fun h' b' l' T' A1 A2 => K _ _ h' b' l' (fun postY KY => ?_))
  refine dd_yst hn hR hY hP h5 hF H1' H2' (fun w o yl' T'' B1 B2 B3 => KY w o yl' ?_)
  exact ⟨n, R, P, Fc, T', T, _, _, _, _, _, _, _, _, _, _, _, _, _, _, _, _, _, _, rfl, rfl, hn, hR, hX, hY, h5, hP, H1, H1', A1, dd_YH_e B1 (dd_FA_u 6 _ _ B3 A2), B2⟩
end
/-! ===== ranges ===== -/
def dd_bad (v : Int32) : Prop := v < 0 ∨ (6 : Int32) ≤ v
theorem dd_bad5 {v : Int32} (h : (6 : Int32) ≤ v) : (5 : Int32) < v := by
  rw [Int32.lt_iff_toInt_lt]
  rw [Int32.le_iff_toInt_le] at h
  have a : (6 : Int32).toInt = 6 := rfl
  have b : (5 : Int32).toInt = 5 := rfl
  omega
theorem dd_rng (v : Int32) : dd_bad v ∨ ∃ j : Nat, j < 6 ∧ v = nI j := by
  rcases pk_ix v (n := 6) (by omega) with h | h | h
  · exact Or.inl (Or.inl h)
  · exact Or.inl (Or.inr h)
  · exact Or.inr h
theorem dd_o1 : ¬ (1 : Int32) = 0 := by decide
theorem dd_ir0 {post : Int32 → Prop} {v : Int32} (h : dd_bad v) (K : post 0) : wpX_inRange post v := by
  by_cases z : v < 0
  · exact br_t z K
  · rcases h with h | h
    · exact absurd h z
    · exact br_f z (br_t h K)
theorem dd_ir1 {post : Int32 → Prop} {j : Nat} (h : j < 6) (K : post 1) : wpX_inRange post (nI j) :=
  br_f (nI_pos (by omega)) (br_f (dd_g6 h) K)
theorem dd_irb {post : Int32 → Prop} {v : Int32} (K0 : post 0) (K1 : post 1) : wpX_inRange post v := by
  rcases dd_rng v with h | ⟨j, hj, rfl⟩
  · exact dd_ir0 h K0
  · exact dd_ir1 hj K1
theorem dd_3b {A B : Prop} {p1 p2 p3 : Int32} (h : dd_bad p1 ∨ dd_bad p2 ∨ dd_bad p3) (a : A) :
    wpX_inRange (fun r_1 => (((r_1 = 0 → A) ∧ (¬ r_1 = 0 → (wpX_inRange (fun r_3 => (((r_3 = 0 → A) ∧ (¬ r_3 = 0 → (wpX_inRange (fun r_5 => (((r_5 = 0 → A) ∧ (¬ r_5 = 0 → B)))) p3))))) p2))))) p1 := by
  rcases h with h | h | h
  · exact dd_ir0 h (br_t rfl a)
  · exact dd_irb (br_t rfl a) (br_f dd_o1 (dd_ir0 h (br_t rfl a)))
  · exact dd_irb (br_t rfl a) (br_f dd_o1 (dd_irb (br_t rfl a) (br_f dd_o1 (dd_ir0 h (br_t rfl a)))))
theorem dd_3g {A B : Prop} {r x y : Nat} (hr : r < 6) (hx : x < 6) (hy : y < 6) (b : B) :
    wpX_inRange (fun r_1 => (((r_1 = 0 → A) ∧ (¬ r_1 = 0 → (wpX_inRange (fun r_3 => (((r_3 = 0 → A) ∧ (¬ r_3 = 0 → (wpX_inRange (fun r_5 => (((r_5 = 0 → A) ∧ (¬ r_5 = 0 → B)))) (nI y)))))) (nI x)))))) (nI r) :=
  dd_ir1 hr (br_f dd_o1 (dd_ir1 hx (br_f dd_o1 (dd_ir1 hy (br_f dd_o1 b)))))
theorem dd_tri (v1 v2 v3 : Int32) : (dd_bad v1 ∨ dd_bad v2 ∨ dd_bad v3) ∨ ∃ r x y : Nat, r < 6 ∧ x < 6 ∧ y < 6 ∧ v1 = nI r ∧ v2 = nI x ∧ v3 = nI y := by
  rcases dd_rng v1 with h | ⟨r, hr, e1⟩
  · exact Or.inl (Or.inl h)
  rcases dd_rng v2 with h | ⟨x, hx, e2⟩
  · exact Or.inl (Or.inr (Or.inl h))
  rcases dd_rng v3 with h | ⟨y, hy, e3⟩
  · exact Or.inl (Or.inr (Or.inr h))
  exact Or.inr ⟨r, x, y, hr, hx, hy, e1, e2, e3⟩
section
variable {rc gc lc yn : Int32} {fa he hb sh hd fb sb dp lv ys yh ya yb yf yw yo yl yd : Nat → Int32}
theorem dd_in0 {post : Int32 → Prop} {v : Int32} (h : dd_bad v) (K : post 0) : wpY_isNumber post (yn, ys, yh, ya, yb, yf, yw, yo, yl, yd) v := by
  by_cases z : v < 0
  · exact br_t z K
  · rcases h with h | h
    · exact absurd h z
    · exact br_f z (br_t (dd_bad5 h) K)
theorem dd_in1 {post : Int32 → Prop} {j : Nat} (h : j < 6) (K : post 1) : wpY_isNumber post (yn, ys, yh, ya, yb, yf, yw, yo, yl, yd) (nI j) :=
  br_f (nI_pos (by omega)) (br_f (nI_nlt (a := 5) (b := j) (by omega) (by omega)) K)
theorem dd_inb {post : Int32 → Prop} {v : Int32} (K0 : post 0) (K1 : post 1) : wpY_isNumber post (yn, ys, yh, ya, yb, yf, yw, yo, yl, yd) v := by
  rcases dd_rng v with h | ⟨j, hj, rfl⟩
  · exact dd_in0 h K0
  · exact dd_in1 hj K1
theorem dd_it0 {post : Int32 → Prop} {p1 p2 p3 : Int32} (h : dd_bad p1 ∨ dd_bad p2 ∨ dd_bad p3) (K : post 0) : wpY_isTriple post (yn, ys, yh, ya, yb, yf, yw, yo, yl, yd) p1 p2 p3 := by
  unfold wpY_isTriple
  dsimp only
  rcases h with h | h | h
  · exact dd_in0 h (br_t rfl K)
  · exact dd_inb (br_t rfl K) (br_f dd_o1 (dd_in0 h (br_t rfl K)))
  · exact dd_inb (br_t rfl K) (br_f dd_o1 (dd_inb (br_t rfl K) (br_f dd_o1 (dd_in0 h (br_t rfl K)))))
theorem dd_it1 {post : Int32 → Prop} {r x y : Nat} (hr : r < 6) (hx : x < 6) (hy : y < 6) (K : post 1) : wpY_isTriple post (yn, ys, yh, ya, yb, yf, yw, yo, yl, yd) (nI r) (nI x) (nI y) := by
  unfold wpY_isTriple
  dsimp only
  exact dd_in1 hr (br_f dd_o1 (dd_in1 hx (br_f dd_o1 (dd_in1 hy (br_f dd_o1 K)))))
theorem dd_hcf0 {post : Int32 → Prop} {p1 p2 p3 : Int32} (h : dd_bad p1 ∨ dd_bad p2 ∨ dd_bad p3) (K : post 0) : wpX_hasCouple__facts post (rc, gc, lc, fa, he, hb, sh, hd, fb, sb, dp, lv) p1 p2 p3 := by
  unfold wpX_hasCouple__facts
  dsimp only
  exact dd_3b h K
theorem dd_hch0 {post : Int32 → Prop} {p1 p2 p3 : Int32} (h : dd_bad p1 ∨ dd_bad p2 ∨ dd_bad p3) (K : post 0) : wpX_hasCouple__held post (rc, gc, lc, fa, he, hb, sh, hd, fb, sb, dp, lv) p1 p2 p3 := by
  unfold wpX_hasCouple__held
  dsimp only
  exact dd_3b h K
theorem dd_hcb {A B : Prop} {T : Nat → Bool} {h : Nat → Int32} {r x y : Nat} {post : Int32 → Prop} (hr : r < 6) (hx : x < 6) (hy : y < 6) (H : dd_XH h T) (K : post (dd_bI (T (36 * r + 6 * x + y)))) :
    vp_in ((6 * nI r) + nI x) 36 ∧ ((((((h ((6 * nI r) + nI x).toNatClampNeg) >>> (nI y &&& 31)) &&& 1) = 1 → (post 1)) ∧ (¬ (((h ((6 * nI r) + nI x).toNatClampNeg) >>> (nI y &&& 31)) &&& 1) = 1 → (post 0)))) := by
  rw [dd_i6, nI_clamp (n := 6 * r + x) (by omega)]
  have hb := dd_bit1 (h (6 * r + x)) (show y < 32 by omega)
  have e0 : 6 * (6 * r + x) + y = 36 * r + 6 * x + y := by omega
  rw [H _ (by omega) y (by omega), decide_eq_true hy, Bool.true_and, e0] at hb
  refine ⟨dd_v36 (by omega), br_c (fun z => ?_) (fun z => ?_)⟩
  · rw [hb.mp z] at K; exact K
  · rw [Bool.eq_false_iff.mpr (fun w => z (hb.mpr w))] at K; exact K
theorem dd_hcf1 {post : Int32 → Prop} {T : Nat → Bool} {r x y : Nat} (hr : r < 6) (hx : x < 6) (hy : y < 6) (H : dd_XH fa T) (K : post (dd_bI (T (36 * r + 6 * x + y)))) : wpX_hasCouple__facts post (rc, gc, lc, fa, he, hb, sh, hd, fb, sb, dp, lv) (nI r) (nI x) (nI y) := by
  unfold wpX_hasCouple__facts
  dsimp only
  exact dd_3g hr hx hy (dd_hcb (A := True) (B := True) hr hx hy H K)
theorem dd_hch1 {post : Int32 → Prop} {T : Nat → Bool} {r x y : Nat} (hr : r < 6) (hx : x < 6) (hy : y < 6) (H : dd_XH he T) (K : post (dd_bI (T (36 * r + 6 * x + y)))) : wpX_hasCouple__held post (rc, gc, lc, fa, he, hb, sh, hd, fb, sb, dp, lv) (nI r) (nI x) (nI y) := by
  unfold wpX_hasCouple__held
  dsimp only
  exact dd_3g hr hx hy (dd_hcb (A := True) (B := True) hr hx hy H K)
theorem dd_at (r x y : Nat) : ((36 : Int32) * nI r) + (6 * nI x) + nI y = nI (36 * r + 6 * x + y) := by
  rw [dd_i36, dd_m6, nI_add, nI_add]
end
/-! ===== facts that change ===== -/
theorem dd_XH_set {h : Nat → Int32} {T : Nat → Bool} {r x y : Nat} {b : Bool} {v : Int32} (H : dd_XH h T) (hr : r < 6) (hx : x < 6) (hy : y < 6) (hv : ∀ i, i < 32 → bt v i = if i = y then b else bt (h (6 * r + x)) i) :
    dd_XH (upd h (6 * r + x) v) (dd_set T (36 * r + 6 * x + y) b) := by
  intro row hrow i hi
  unfold upd dd_set
  by_cases e : row = 6 * r + x
  · rw [if_pos e, hv i hi]
    by_cases z : i = y
    · rw [if_pos z, if_pos (by omega), decide_eq_true (by omega), Bool.true_and]
    · rw [if_neg z, H _ (by omega) i hi]
      by_cases i6 : i < 6
      · rw [if_neg (by omega), e]
      · rw [decide_eq_false i6, Bool.false_and, Bool.false_and]
  · rw [if_neg e, H row hrow i hi]
    by_cases i6 : i < 6
    · rw [if_neg (by omega)]
    · rw [decide_eq_false i6, Bool.false_and, Bool.false_and]
theorem dd_vor (w : Int32) {y i : Nat} (hy : y < 6) (hi : i < 32) : bt (w ||| ((1 : Int32) <<< (nI y &&& 31))) i = if i = y then true else bt w i := by
  rw [b_or, dd_pow (by omega) hi]
  by_cases z : i = y
  · rw [if_pos z, decide_eq_true z, Bool.or_true]
  · rw [if_neg z, decide_eq_false z, Bool.or_false]
theorem dd_vand (w : Int32) {y i : Nat} (hy : y < 6) (hi : i < 32) : bt (w &&& (((1 : Int32) <<< (nI y &&& 31)) ^^^ (-1))) i = if i = y then false else bt w i := by
  rw [b_and, b_xor, dd_pow (by omega) hi, b_m1 i hi]
  by_cases z : i = y
  · rw [if_pos z, decide_eq_true z]; simp
  · rw [if_neg z, decide_eq_false z]; simp
