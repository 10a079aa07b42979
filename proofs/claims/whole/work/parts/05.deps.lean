/-! ===== both sides' pictures, small rows ===== -/
abbrev dd_J9 : Type := (Nat → Int32) → (Nat → Int32) → (Nat → Int32) → (Nat → Int32) → (Nat → Int32) → (Nat → Int32) → (Nat → Int32) → (Nat → Int32) → (Nat → Int32) → Prop
def dd_XR (R : Nat → Nat) (n : Nat) (sh hd fb sb : Nat → Int32) : Prop := ∀ i, i < n → sh i = nI (dd_s (R i)) ∧ hd i = nI (dd_h (R i)) ∧ fb i = nI (dd_a (R i)) ∧ sb i = nI (dd_e (R i))
def dd_YR (R : Nat → Nat) (n : Nat) (ys yh ya yb : Nat → Int32) : Prop := ∀ i, i < n → ys i = nI (dd_s (R i)) ∧ yh i = nI (dd_h (R i)) ∧ ya i = nI (dd_a (R i)) ∧ yb i = nI (dd_b (R i))
theorem dd_s5 {c : Nat} (h : c < 1080) : dd_s c < 5 := by unfold dd_s; omega
theorem dd_g6 {j : Nat} (h : j < 6) : ¬ (6 : Int32) ≤ nI j := nI_ge (b := 6) h (by decide)
theorem dd_t6 : (6 : Int32) ≤ nI 6 := nI_le (a := 6) (Nat.le_refl _) (by decide)
theorem dd_v6 {j : Nat} (h : j < 6) : vp_in (nI j) 6 := vp_in_nI h (by decide)
theorem dd_v8 {j : Nat} (h : j < 8) : vp_in (nI j) 8 := vp_in_nI h (by decide)
theorem dd_v9 {j : Nat} (h : j < 9) : vp_in (nI j) 9 := vp_in_nI h (by decide)
theorem dd_v36 {j : Nat} (h : j < 36) : vp_in (nI j) 36 := vp_in_nI h (by decide)
theorem dd_v216 {j : Nat} (h : j < 216) : vp_in (nI j) 216 := vp_in_nI h (by decide)
theorem dd_e2 {c : Nat} (h : ¬ dd_s c < 2) : dd_e c = dd_b c := by unfold dd_e; rw [if_neg h]
theorem dd_e1 {c : Nat} (h : dd_s c < 2) : dd_e c = dd_a c := by unfold dd_e; rw [if_pos h]
/-! ===== dependences: six rows of bits hold N ===== -/
def dd_DP (d : Nat → Int32) (N : Nat → Nat → Bool) : Prop := ∀ r, r < 6 → ∀ i, i < 32 → bt (d r) i = (decide (i < 6) && N r i)
theorem dd_DP_0 {d : Nat → Int32} {R : Nat → Nat} (h : ∀ r, r < 6 → d r = 0) : dd_DP d (dd_n0 R 0) := by
  intro r hr i hi
  rw [h r hr, b_0]
  show false = (decide (i < 6) && false)
  rw [Bool.and_false]
theorem dd_n0_s (R : Nat → Nat) (i r t : Nat) : dd_n0 R (i + 1) r t = (dd_n0 R i r t || (decide (dd_h (R i) = r) && (decide (dd_a (R i) = t) || decide (dd_e (R i) = t)))) := rfl
theorem dd_DP_r {d : Nat → Int32} {R : Nat → Nat} {i : Nat} (H : dd_DP d (dd_n0 R i)) {v : Int32} (hv : ∀ k, k < 32 → bt v k = (bt (d (dd_h (R i))) k || (decide (k = dd_a (R i)) || decide (k = dd_e (R i))))) : dd_DP (upd d (dd_h (R i)) v) (dd_n0 R (i + 1)) := by
  intro r hr k hk
  unfold upd
  rw [dd_n0_s]
  by_cases e : r = dd_h (R i)
  · rw [if_pos e, hv k hk, H _ (dd_h6 _) k hk, ← e, decide_eq_true (rfl : r = r), Bool.true_and]
    have ha := dd_a6 (R i)
    have hb := dd_e6 (R i)
    by_cases z : k < 6
    · rw [decide_eq_true z, Bool.true_and, Bool.true_and]
      have e1 : decide (k = dd_a (R i)) = decide (dd_a (R i) = k) := decide_eq_decide.mpr ⟨Eq.symm, Eq.symm⟩
      have e2 : decide (k = dd_e (R i)) = decide (dd_e (R i) = k) := decide_eq_decide.mpr ⟨Eq.symm, Eq.symm⟩
      rw [e1, e2]
    · rw [decide_eq_false z, Bool.false_and, Bool.false_and, decide_eq_false (by omega), decide_eq_false (by omega)]
      rfl
  · have q : decide (dd_h (R i) = r) = false := decide_eq_false (fun z => e z.symm)
    rw [if_neg e, H r hr k hk, q, Bool.false_and, Bool.or_false]
def dd_nj (R : Nat → Nat) (n m j r t : Nat) : Bool := if r < j then dd_nw R n (m + 1) r t else dd_nw R n m r t
theorem dd_nw_s (R : Nat → Nat) (n m r t : Nat) : dd_nw R n (m + 1) r t = (dd_nw R n m r t || (dd_nw R n m r m && dd_nw R n m m t)) := rfl
theorem dd_nj_m (R : Nat → Nat) (n m j t : Nat) : dd_nj R n m j m t = dd_nw R n m m t := by
  unfold dd_nj
  split
  · rw [dd_nw_s]
    cases dd_nw R n m m t <;> simp
  · rfl
theorem dd_nj_o {R : Nat → Nat} {n m j r t : Nat} (h : r ≠ j) : dd_nj R n m (j + 1) r t = dd_nj R n m j r t := by
  unfold dd_nj
  by_cases z : r < j
  · rw [if_pos z, if_pos (by omega)]
  · rw [if_neg z, if_neg (by omega)]
theorem dd_nj_s {R : Nat → Nat} {n m j t : Nat} : dd_nj R n m (j + 1) j t = (dd_nw R n m j t || (dd_nw R n m j m && dd_nw R n m m t)) := by
  unfold dd_nj
  rw [if_pos (by omega)]
  rfl
theorem dd_nj_j {R : Nat → Nat} {n m j t : Nat} : dd_nj R n m j j t = dd_nw R n m j t := by
  unfold dd_nj
  rw [if_neg (by omega)]
theorem dd_DP_j {d : Nat → Int32} {R : Nat → Nat} {n m : Nat} (H : dd_DP d (dd_nw R n m)) : dd_DP d (dd_nj R n m 0) := by
  intro r hr i hi
  rw [H r hr i hi]
  unfold dd_nj
  rw [if_neg (by omega)]
theorem dd_DP_6 {d : Nat → Int32} {R : Nat → Nat} {n m : Nat} (H : dd_DP d (dd_nj R n m 6)) : dd_DP d (dd_nw R n (m + 1)) := by
  intro r hr i hi
  rw [H r hr i hi]
  unfold dd_nj
  rw [if_pos hr]
theorem dd_DP_w1 {d : Nat → Int32} {R : Nat → Nat} {n m j : Nat} (hm : m < 6) (hj : j < 6) (H : dd_DP d (dd_nj R n m j)) (hb : bt (d j) m = true) : dd_DP (upd d j (d j ||| d m)) (dd_nj R n m (j + 1)) := by
  have q : dd_nw R n m j m = true := by
    rw [H j hj m (by omega), dd_nj_j, decide_eq_true hm, Bool.true_and] at hb
    exact hb
  intro r hr i hi
  unfold upd
  by_cases e : r = j
  · subst e
    rw [if_pos rfl, b_or, H r hr i hi, H m hm i hi, dd_nj_m, dd_nj_s, dd_nj_j, q, Bool.true_and]
    cases decide (i < 6) <;> rfl
  · rw [if_neg e, H r hr i hi, dd_nj_o e]
theorem dd_DP_w0 {d : Nat → Int32} {R : Nat → Nat} {n m j : Nat} (hm : m < 6) (hj : j < 6) (H : dd_DP d (dd_nj R n m j)) (hb : ¬ bt (d j) m = true) : dd_DP d (dd_nj R n m (j + 1)) := by
  have q : dd_nw R n m j m = false := by
    rw [H j hj m (by omega), dd_nj_j, decide_eq_true hm, Bool.true_and] at hb
    exact Bool.eq_false_iff.mpr hb
  intro r hr i hi
  by_cases e : r = j
  · subst e
    rw [H r hr i hi, dd_nj_s, dd_nj_j, q, Bool.false_and, Bool.or_false]
  · rw [H r hr i hi, dd_nj_o e]
section
variable {rc gc lc : Int32} {fa he hb sh hd fb sb dp lv : Nat → Int32}
theorem dd_x78 {post : SX → Prop} {J : Int32 → dd_J9} {R : Nat → Nat} {n m : Nat} (hm : m < 6) (K : ∀ d, dd_DP d (dd_nw R n (m + 1)) → J (nI (m + 1)) fa he hb sh hd fb sb d lv) :
    ∀ k j d, j + k = 6 → dd_DP d (dd_nj R n m j) → wX_findDependences_78 post J (nI m) rc gc lc (k + 1) (nI j) fa he hb sh hd fb sb d lv := by
  intro k
  induction k with
  | zero =>
    intro j d hj H
    have e : j = 6 := by omega
    subst e
    exact br_t dd_t6 (nm_r (nI_1 m) (K d (dd_DP_6 H)))
  | succ k ih =>
    intro j d hj H
    have hj6 : j < 6 := by omega
    refine br_f (dd_g6 hj6) ⟨dd_v6 hj6, ?_⟩
    rw [nI_clamp (n := j) (by omega)]
    refine br_c (fun z => ⟨dd_v6 hj6, dd_v6 hm, dd_v6 hj6, ?_⟩) (fun z => ?_)
    · rw [nI_clamp (n := m) (by omega)]
      exact nm_e (nm_r (nI_1 j) (ih (j + 1) _ (by omega) (dd_DP_w1 hm hj6 H ((dd_bit1 _ (by omega)).mp z))))
    · exact nm_r (nI_1 j) (ih (j + 1) _ (by omega) (dd_DP_w0 hm hj6 H (fun y => z ((dd_bit1 _ (by omega)).mpr y))))
theorem dd_x70 {post : SX → Prop} {R : Nat → Nat} {n : Nat} (K : ∀ d, dd_DP d (dd_nw R n 6) → post (rc, gc, lc, fa, he, hb, sh, hd, fb, sb, d, lv)) :
    ∀ k m d, m + k = 6 → dd_DP d (dd_nw R n m) → wX_findDependences_70 post rc gc lc (k + 1) (nI m) fa he hb sh hd fb sb d lv := by
  intro k
  induction k with
  | zero =>
    intro m d hm H
    have e : m = 6 := by omega
    subst e
    exact br_t dd_t6 (K d H)
  | succ k ih =>
    intro m d hm H
    exact br_f (dd_g6 (by omega)) ⟨7, dd_x78 (by omega) (fun d' H' => ih (m + 1) d' (by omega) H') 6 0 d rfl (dd_DP_j H)⟩
theorem dd_x23 {post : SX → Prop} {R : Nat → Nat} {n : Nat} (hn : n ≤ 8) (hX : dd_XR R n sh hd fb sb) (K : ∀ d, dd_DP d (dd_nw R n 6) → post (nI n, gc, lc, fa, he, hb, sh, hd, fb, sb, d, lv)) :
    ∀ k i d, i + k = n → dd_DP d (dd_n0 R i) → wX_findDependences_23 post (nI n) gc lc (k + 1) (nI i) fa he hb sh hd fb sb d lv := by
  intro k
  induction k with
  | zero =>
    intro i d hi H
    have e : i = n := by omega
    subst e
    exact br_t (nI_le (Nat.le_refl _) (by omega)) ⟨7, dd_x70 K 6 0 d rfl H⟩
  | succ k ih =>
    intro i d hi H
    have h6 := dd_h6 (R i)
    have a6 := dd_a6 (R i)
    have e6 := dd_e6 (R i)
    obtain ⟨e1, e2, e3, e4⟩ := hX i (by omega)
    refine br_f (nI_ge (by omega) (by omega)) ?_
    rw [nI_clamp (n := i) (by omega), e2, e3, e4, nI_clamp (n := dd_h (R i)) (by omega)]
    refine ⟨dd_v8 (by omega), dd_v6 h6, dd_v8 (by omega), dd_v8 (by omega), dd_v6 h6, nm_e (nm_r (nI_1 i) (ih (i + 1) _ (by omega) (dd_DP_r H (fun k hk => ?_))))⟩
    rw [b_or, b_or, dd_pow (by omega) hk, dd_pow (by omega) hk]
theorem dd_x2 {post : SX → Prop} {R : Nat → Nat} {n : Nat} (hn : n ≤ 8) (hX : dd_XR R n sh hd fb sb) (K : ∀ d, dd_DP d (dd_nw R n 6) → post (nI n, gc, lc, fa, he, hb, sh, hd, fb, sb, d, lv)) :
    ∀ k j d, j + k = 6 → (∀ r, r < j → d r = 0) → wX_findDependences_2 post (nI n) gc lc (k + 1) (nI j) fa he hb sh hd fb sb d lv := by
  intro k
  induction k with
  | zero =>
    intro j d hj H
    have e : j = 6 := by omega
    subst e
    exact br_t dd_t6 ⟨n + 1, dd_x23 hn hX K n 0 d (by omega) (dd_DP_0 H)⟩
  | succ k ih =>
    intro j d hj H
    refine br_f (dd_g6 (by omega)) ⟨dd_v6 (by omega), ?_⟩
    rw [nI_clamp (n := j) (by omega)]
    refine nm_e (nm_r (nI_1 j) (ih (j + 1) _ (by omega) (fun r hr => ?_)))
    unfold upd
    by_cases e : r = j
    · rw [if_pos e]
    · rw [if_neg e]; exact H r (by omega)
theorem dd_xfd {post : SX → Prop} {R : Nat → Nat} {n : Nat} (hn : n ≤ 8) (hX : dd_XR R n sh hd fb sb) (K : ∀ d, dd_DP d (dd_nw R n 6) → post (nI n, gc, lc, fa, he, hb, sh, hd, fb, sb, d, lv)) :
    wpX_findDependences post (nI n, gc, lc, fa, he, hb, sh, hd, fb, sb, dp, lv) :=
  ⟨7, dd_x2 hn hX K 6 0 dp rfl (fun _ h => absurd h (Nat.not_lt_zero _))⟩
theorem dd_xl6 {post : Int32 → SX → Prop} {R : Nat → Nat} {n : Nat} (hn : n ≤ 8) (hR : ∀ i, i < n → R i < 1080) (hX : dd_XR R n sh hd fb sb) (H : dd_DP dp (dd_nw R n 6))
    (K1 : dd_ly R n → post 1 (nI n, gc, lc, fa, he, hb, sh, hd, fb, sb, dp, lv)) (K0 : ¬ dd_ly R n → post 0 (nI n, gc, lc, fa, he, hb, sh, hd, fb, sb, dp, lv)) :
    ∀ k i, i + k = n → (∀ q, q < i → dd_lo R n q) → wX_isLayered_6 post (nI n) gc lc fa he hb sh hd fb sb dp lv (k + 1) (nI i) := by
  intro k
  induction k with
  | zero =>
    intro i hi G
    have e : i = n := by omega
    subst e
    exact br_t (nI_le (Nat.le_refl _) (by omega)) (K1 G)
  | succ k ih =>
    intro i hi G
    have hin : i < n := by omega
    have s5 := dd_s5 (hR i hin)
    have h6 := dd_h6 (R i)
    have e6 := dd_e6 (R i)
    obtain ⟨e1, e2, e3, e4⟩ := hX i hin
    refine br_f (nI_ge hin (by omega)) ?_
    rw [nI_clamp (n := i) (by omega), e1, e2, e4]
    refine ⟨dd_v8 (by omega), nm_e ⟨dd_v8 (by omega), nm_e ⟨dd_v8 (by omega), ?_⟩⟩⟩
    rw [nI_clamp (n := dd_e (R i)) (by omega)]
    refine pk_eq (dd_s (R i)) 4 (fun s4 => pk_eq (dd_e (R i)) (dd_h (R i)) (fun z => K0 (fun y => (y i hin s4).1 z)) (fun z => ⟨dd_v6 e6, br_c (fun b => K0 (fun y => ?_)) (fun b => nm_r (nI_1 i) (ih (i + 1) (by omega) (lt_s G (fun _ => ⟨z, ?_⟩))))⟩)) (fun s => nm_r (nI_1 i) (ih (i + 1) (by omega) (lt_s G (fun y => absurd y s))))
    · rw [dd_bit1 _ (by omega), H _ e6 _ (by omega), (y i hin s4).2, Bool.and_false] at b
      exact absurd b (by decide)
    · rw [dd_bit1 _ (by omega), H _ e6 _ (by omega), decide_eq_true h6, Bool.true_and] at b
      exact Bool.eq_false_iff.mpr b
theorem dd_xly {post : Int32 → SX → Prop} {R : Nat → Nat} {n : Nat} (hn : n ≤ 8) (hR : ∀ i, i < n → R i < 1080) (hX : dd_XR R n sh hd fb sb)
    (K1 : ∀ d, dd_ly R n → post 1 (nI n, gc, lc, fa, he, hb, sh, hd, fb, sb, d, lv)) (K0 : ∀ d, ¬ dd_ly R n → post 0 (nI n, gc, lc, fa, he, hb, sh, hd, fb, sb, d, lv)) :
    wpX_isLayered post (nI n, gc, lc, fa, he, hb, sh, hd, fb, sb, dp, lv) := by
  unfold wpX_isLayered
  dsimp only
  exact dd_xfd hn hX (fun d H => ⟨n + 1, dd_xl6 hn hR hX H (K1 d) (K0 d) n 0 (by omega) (fun _ h => absurd h (Nat.not_lt_zero _))⟩)
end
section
variable {yn : Int32} {ys yh ya yb yf yw yo yl yd : Nat → Int32}
theorem dd_y149 {post : Int32 → SY → Prop} {R : Nat → Nat} {n : Nat} (hn : n ≤ 8) (hR : ∀ i, i < n → R i < 1080) (hY : dd_YR R n ys yh ya yb) (H : dd_DP yd (dd_nw R n 6))
    (K1 : dd_ly R n → post 1 (yn, ys, yh, ya, yb, yf, yw, yo, yl, yd)) (K0 : ¬ dd_ly R n → post 0 (yn, ys, yh, ya, yb, yf, yw, yo, yl, yd)) :
    ∀ k i, i + k = n → (∀ q, q < i → dd_lo R n q) → wY_layered_149 post (nI n) yn ys yh ya yb yf yw yo yl yd (k + 1) (nI i) := by
  intro k
  induction k with
  | zero =>
    intro i hi G
    have e : i = n := by omega
    subst e
    exact br_t (nI_le (Nat.le_refl _) (by omega)) (K1 G)
  | succ k ih =>
    intro i hi G
    have hin : i < n := by omega
    have s5 := dd_s5 (hR i hin)
    have h6 := dd_h6 (R i)
    have b6 := dd_b6 (R i)
    obtain ⟨e1, e2, e3, e4⟩ := hY i hin
    have i9 : vp_in (nI i) 9 := dd_v9 (by omega)
    refine br_f (nI_ge hin (by omega)) ?_
    rw [nI_clamp (n := i) (by omega), e1, e2, e4, nI_clamp (n := dd_b (R i)) (by omega)]
    refine ⟨i9, pk_eq (dd_s (R i)) 4 (fun s4 => ⟨i9, i9, pk_eq (dd_b (R i)) (dd_h (R i)) (fun z => K0 (fun y => (y i hin s4).1 (by rw [dd_e2 (by omega)]; exact z))) (fun z => ⟨i9, dd_v6 b6, i9, br_c (fun b => K0 (fun y => ?_)) (fun b => nm_r (nI_1 i) (ih (i + 1) (by omega) (lt_s G (fun _ => ?_))))⟩)⟩) (fun s => nm_r (nI_1 i) (ih (i + 1) (by omega) (lt_s G (fun y => absurd y s))))⟩
    · have := (y i hin s4).2
      rw [dd_e2 (by omega)] at this
      rw [dd_bit1 _ (by omega), H _ b6 _ (by omega), this, Bool.and_false] at b
      exact absurd b (by decide)
    · rw [dd_e2 (by omega)]
      rw [dd_bit1 _ (by omega), H _ b6 _ (by omega), decide_eq_true h6, Bool.true_and] at b
      exact ⟨z, Bool.eq_false_iff.mpr b⟩
theorem dd_y96 {post : Int32 → SY → Prop} {J : Int32 → dd_J9} {x1 : Int32} {R : Nat → Nat} {n m : Nat} (hm : m < 6) (K : ∀ d, dd_DP d (dd_nw R n (m + 1)) → J (nI (m + 1)) ys yh ya yb yf yw yo yl d) :
    ∀ k j d, j + k = 6 → dd_DP d (dd_nj R n m j) → wY_layered_96 post J x1 (nI m) yn (k + 1) (nI j) ys yh ya yb yf yw yo yl d := by
  intro k
  induction k with
  | zero =>
    intro j d hj H
    have e : j = 6 := by omega
    subst e
    exact br_t dd_t6 (nm_r (nI_1 m) (K d (dd_DP_6 H)))
  | succ k ih =>
    intro j d hj H
    have hj6 : j < 6 := by omega
    refine br_f (dd_g6 hj6) ⟨dd_v6 hj6, ?_⟩
    rw [nI_clamp (n := j) (by omega)]
    refine br_c (fun z => ⟨dd_v6 hj6, dd_v6 hm, dd_v6 hj6, ?_⟩) (fun z => ?_)
    · rw [nI_clamp (n := m) (by omega)]
      exact nm_e (nm_r (nI_1 j) (ih (j + 1) _ (by omega) (dd_DP_w1 hm hj6 H ((dd_bit1 _ (by omega)).mp z))))
    · exact nm_r (nI_1 j) (ih (j + 1) _ (by omega) (dd_DP_w0 hm hj6 H (fun y => z ((dd_bit1 _ (by omega)).mpr y))))
theorem dd_y88 {post : Int32 → SY → Prop} {R : Nat → Nat} {n : Nat} (hn : n ≤ 8) (hR : ∀ i, i < n → R i < 1080) (hY : dd_YR R n ys yh ya yb)
    (K1 : ∀ d, dd_ly R n → post 1 (yn, ys, yh, ya, yb, yf, yw, yo, yl, d)) (K0 : ∀ d, ¬ dd_ly R n → post 0 (yn, ys, yh, ya, yb, yf, yw, yo, yl, d)) :
    ∀ k m d, m + k = 6 → dd_DP d (dd_nw R n m) → wY_layered_88 post (nI n) yn (k + 1) (nI m) ys yh ya yb yf yw yo yl d := by
  intro k
  induction k with
  | zero =>
    intro m d hm H
    have e : m = 6 := by omega
    subst e
    exact br_t dd_t6 ⟨n + 1, dd_y149 hn hR hY H (K1 d) (K0 d) n 0 (by omega) (fun _ h => absurd h (Nat.not_lt_zero _))⟩
  | succ k ih =>
    intro m d hm H
    exact br_f (dd_g6 (by omega)) ⟨7, dd_y96 (by omega) (fun d' H' => ih (m + 1) d' (by omega) H') 6 0 d rfl (dd_DP_j H)⟩
theorem dd_y23 {post : Int32 → SY → Prop} {R : Nat → Nat} {n : Nat} (hn : n ≤ 8) (hR : ∀ i, i < n → R i < 1080) (hY : dd_YR R n ys yh ya yb)
    (K1 : ∀ d, dd_ly R n → post 1 (yn, ys, yh, ya, yb, yf, yw, yo, yl, d)) (K0 : ∀ d, ¬ dd_ly R n → post 0 (yn, ys, yh, ya, yb, yf, yw, yo, yl, d)) :
    ∀ k i d, i + k = n → dd_DP d (dd_n0 R i) → wY_layered_23 post (nI n) yn (k + 1) (nI i) ys yh ya yb yf yw yo yl d := by
  intro k
  induction k with
  | zero =>
    intro i d hi H
    have e : i = n := by omega
    subst e
    exact br_t (nI_le (Nat.le_refl _) (by omega)) ⟨7, dd_y88 hn hR hY K1 K0 6 0 d rfl H⟩
  | succ k ih =>
    intro i d hi H
    have s5 := dd_s5 (hR i (by omega))
    have h6 := dd_h6 (R i)
    have a6 := dd_a6 (R i)
    have b6 := dd_b6 (R i)
    obtain ⟨e1, e2, e3, e4⟩ := hY i (by omega)
    have i9 : vp_in (nI i) 9 := dd_v9 (by omega)
    refine br_f (nI_ge (by omega) (by omega)) ⟨i9, i9, ?_, i9, i9, ?_⟩
    · rw [nI_clamp (n := i) (by omega), e2]
      exact dd_v6 h6
    · rw [nI_clamp (n := i) (by omega), e1, e2, e3, e4, nI_clamp (n := dd_h (R i)) (by omega)]
      refine pk_lt (dd_s (R i)) 2 (fun z => br_t rfl ⟨dd_v6 h6, nm_e (nm_r (nI_1 i) (ih (i + 1) _ (by omega) (dd_DP_r H (fun k hk => ?_))))⟩) (fun z => br_f (by decide) ⟨i9, dd_v6 h6, nm_e (nm_r (nI_1 i) (ih (i + 1) _ (by omega) (dd_DP_r H (fun k hk => ?_))))⟩)
      · rw [b_or, b_or, b_0, dd_pow (by omega) hk, dd_e1 z, Bool.or_false, Bool.or_self]
      · rw [b_or, b_or, dd_pow (by omega) hk, dd_pow (by omega) hk, dd_e2 (by omega), Bool.or_assoc]
theorem dd_y2 {post : Int32 → SY → Prop} {R : Nat → Nat} {n : Nat} (hn : n ≤ 8) (hR : ∀ i, i < n → R i < 1080) (hY : dd_YR R n ys yh ya yb)
    (K1 : ∀ d, dd_ly R n → post 1 (yn, ys, yh, ya, yb, yf, yw, yo, yl, d)) (K0 : ∀ d, ¬ dd_ly R n → post 0 (yn, ys, yh, ya, yb, yf, yw, yo, yl, d)) :
    ∀ k j d, j + k = 6 → (∀ r, r < j → d r = 0) → wY_layered_2 post (nI n) yn (k + 1) (nI j) ys yh ya yb yf yw yo yl d := by
  intro k
  induction k with
  | zero =>
    intro j d hj H
    have e : j = 6 := by omega
    subst e
    exact br_t dd_t6 ⟨n + 1, dd_y23 hn hR hY K1 K0 n 0 d (by omega) (dd_DP_0 H)⟩
  | succ k ih =>
    intro j d hj H
    refine br_f (dd_g6 (by omega)) ⟨dd_v6 (by omega), ?_⟩
    rw [nI_clamp (n := j) (by omega)]
    refine nm_e (nm_r (nI_1 j) (ih (j + 1) _ (by omega) (fun r hr => ?_)))
    unfold upd
    by_cases e : r = j
    · rw [if_pos e]
    · rw [if_neg e]; exact H r (by omega)
theorem dd_yly {post : Int32 → SY → Prop} {R : Nat → Nat} {n : Nat} (hn : n ≤ 8) (hR : ∀ i, i < n → R i < 1080) (hY : dd_YR R n ys yh ya yb)
    (K1 : ∀ d, dd_ly R n → post 1 (yn, ys, yh, ya, yb, yf, yw, yo, yl, d)) (K0 : ∀ d, ¬ dd_ly R n → post 0 (yn, ys, yh, ya, yb, yf, yw, yo, yl, d)) :
    wpY_layered post (yn, ys, yh, ya, yb, yf, yw, yo, yl, yd) (nI n) :=
  ⟨7, dd_y2 hn hR hY K1 K0 6 0 yd rfl (fun _ h => absurd h (Nat.not_lt_zero _))⟩
end
