/-! ===== a pass, cell by cell: rules below q are done, and of rule q the cells below m ===== -/
def dd_PQ (R : Nat → Nat) (n : Nat) (L : Nat → Nat) (l : Nat) (T0 T T' : Nat → Bool) (f : Bool) (q m : Nat) : Prop :=
  dd_Inv R n L l T0 T' ∧ dd_Sub T T' ∧
  (f = false → dd_Eq T T' ∧ ∀ i x y, i < n → L (dd_h (R i)) = l → x < 6 → y < 6 → (i < q ∨ i = q ∧ 6 * x + y < m) → dd_gv T' (R i) x y = true → T' (36 * dd_h (R i) + 6 * x + y) = true) ∧
  (f = true → dd_cnt T 216 < dd_cnt T' 216)
section
variable {R : Nat → Nat} {n : Nat} {L : Nat → Nat} {l : Nat} {T0 T T' T'' : Nat → Bool} {f : Bool} {q m : Nat}
theorem dd_PQ_0 (h : dd_Inv R n L l T0 T) : dd_PQ R n L l T0 T T false 0 0 :=
  ⟨h, fun _ _ z => z, fun _ => ⟨fun _ _ => rfl, fun i x y _ _ _ _ z _ => by omega⟩, fun z => absurd z (by decide)⟩
theorem dd_PQ_n (h : dd_PQ R n L l T0 T T' f q 36) : dd_PQ R n L l T0 T T' f (q + 1) 0 := by
  refine ⟨h.1, h.2.1, fun z => ⟨(h.2.2.1 z).1, fun i x y hi e hx hy d g => ?_⟩, h.2.2.2⟩
  exact (h.2.2.1 z).2 i x y hi e hx hy (by omega) g
theorem dd_PQ_j (h : dd_PQ R n L l T0 T T' f q 0) (hq : L (dd_h (R q)) ≠ l) : dd_PQ R n L l T0 T T' f (q + 1) 0 := by
  refine ⟨h.1, h.2.1, fun z => ⟨(h.2.2.1 z).1, fun i x y hi e hx hy d g => ?_⟩, h.2.2.2⟩
  have ne : i ≠ q := by
    intro z
    rw [z] at e
    exact hq e
  exact (h.2.2.1 z).2 i x y hi e hx hy (by omega) g
theorem dd_PQ_k {m' : Nat} (h : dd_PQ R n L l T0 T T' f q m) (k : ∀ x y, x < 6 → y < 6 → m ≤ 6 * x + y → 6 * x + y < m' → dd_gv T' (R q) x y = true → T' (36 * dd_h (R q) + 6 * x + y) = true) : dd_PQ R n L l T0 T T' f q m' := by
  refine ⟨h.1, h.2.1, fun z => ⟨(h.2.2.1 z).1, fun i x y hi e hx hy d g => ?_⟩, h.2.2.2⟩
  by_cases c : i < q ∨ i = q ∧ 6 * x + y < m
  · exact (h.2.2.1 z).2 i x y hi e hx hy c g
  · have e' : i = q := by omega
    subst e'
    exact k x y hx hy (by omega) (by omega) g
theorem dd_PQ_s {m' a : Nat} (hR : ∀ i, i < n → R i < 1080) (hL : dd_Cl R n L) (h : dd_PQ R n L l T0 T T' f q m) (s : dd_Sub T' T'')
    (hn : ∀ k, k < 216 → T'' k = true → T' k = true ∨ ∃ i x y, i < n ∧ L (dd_h (R i)) = l ∧ x < 6 ∧ y < 6 ∧ k = 36 * dd_h (R i) + 6 * x + y ∧ dd_gv T' (R i) x y = true)
    (ha : a < 216) (h1 : T' a = false) (h2 : T'' a = true) : dd_PQ R n L l T0 T T'' true q m' := by
  refine ⟨dd_Inv_s hR hL h.1 s hn, fun k hk z => s k hk (h.2.1 k hk z), fun z => absurd z (by decide), fun _ => ?_⟩
  have := dd_cnt_lt h1 h2 (n := 216) s ha
  have := dd_cnt_mono (n := 216) h.2.1
  omega
theorem dd_PQ_f (h : dd_PQ R n L l T0 T T' f n 0) : dd_PR R n L l T0 T T' f := by
  refine ⟨h.1, h.2.1, fun z => ⟨(h.2.2.1 z).1, fun i hi e x y hx hy g => (h.2.2.1 z).2 i x y hi e hx hy (Or.inl hi) g⟩, h.2.2.2⟩
end
/-! ===== X: what a row is given ===== -/
def dd_bI (b : Bool) : Int32 := if b = true then 1 else 0
theorem dd_bI_n (b : Bool) : narrow .boolean (.int (dd_bI b)) = .int (dd_bI b) := by cases b <;> rfl
theorem dd_bI_0 {b : Bool} : dd_bI b = 0 ↔ b = false := by cases b <;> decide
theorem dd_i6 (a x : Nat) : (6 : Int32) * nI a + nI x = nI (6 * a + x) := by
  show nI 6 * nI a + nI x = _
  rw [pk_mul, nI_add]
theorem dd_i36 (a : Nat) : (36 : Int32) * nI a = nI (36 * a) := by
  show nI 36 * nI a = _
  rw [pk_mul]
theorem dd_m6 (a : Nat) : (6 : Int32) * nI a = nI (6 * a) := by
  show nI 6 * nI a = _
  rw [pk_mul]
/-- v's bits are g below 6, and no others -/
def dd_RB (v : Int32) (g : Nat → Bool) : Prop := ∀ i, i < 32 → bt v i = (decide (i < 6) && g i)
section
variable {rc gc lc : Int32} {fa he hb sh hd fb sb dp lv : Nat → Int32}
theorem dd_xt5 {post : Int32 → Prop} {T : Nat → Bool} {a x : Nat} (ha : a < 6) (hx : x < 6) (H : dd_XH he T) (K : ∀ v, dd_RB v (fun y => T (36 * a + 6 * y + x)) → post v) :
    ∀ k y v, y + k = 6 → (∀ i, i < 32 → bt v i = (decide (i < y) && T (36 * a + 6 * i + x))) → wX_turnedRow_5 post (nI a) (nI x) rc gc lc fa he hb sh hd fb sb dp lv (k + 1) v (nI y) := by
  intro k
  induction k with
  | zero =>
    intro y v hy G
    have e : y = 6 := by omega
    subst e
    exact br_t dd_t6 (K v G)
  | succ k ih =>
    intro y v hy G
    refine br_f (dd_g6 (by omega)) ?_
    rw [dd_i6, nI_clamp (n := 6 * a + y) (by omega), dd_bit _ (show x < 32 by omega), H _ (by omega) x (by omega), decide_eq_true hx, Bool.true_and]
    refine ⟨dd_v36 (by omega), nm_e (nm_r (nI_1 y) (ih (y + 1) _ (by omega) (fun i hi => ?_)))⟩
    rw [b_or, b_shl y (by omega) _ hi, G i hi]
    have e0 : 6 * (6 * a + y) + x = 36 * a + 6 * y + x := by omega
    rw [e0]
    rcases Nat.lt_trichotomy i y with z | z | z
    · rw [decide_eq_true z, decide_eq_false (show ¬ y ≤ i by omega), decide_eq_true (show i < y + 1 by omega), Bool.false_and, Bool.or_false]
    · subst z
      rw [decide_eq_false (show ¬ i < i by omega), decide_eq_true (show i ≤ i by omega), decide_eq_true (show i < i + 1 by omega), Nat.sub_self, dd_b2i _ 0 (by omega)]
      simp
    · rw [decide_eq_false (show ¬ i < y by omega), decide_eq_false (show ¬ i < y + 1 by omega), dd_b2i _ (i - y) (by omega), decide_eq_false (show ¬ i - y = 0 by omega)]
      simp
theorem dd_xt {post : Int32 → Prop} {T : Nat → Bool} {a x : Nat} (ha : a < 6) (hx : x < 6) (H : dd_XH he T) (K : ∀ v, dd_RB v (fun y => T (36 * a + 6 * y + x)) → post v) :
    wpX_turnedRow post (rc, gc, lc, fa, he, hb, sh, hd, fb, sb, dp, lv) (nI a) (nI x) :=
  ⟨7, dd_xt5 ha hx H K 6 0 0 rfl (fun i _ => by rw [b_0, decide_eq_false (Nat.not_lt_zero i), Bool.false_and])⟩
theorem dd_xj6 {post : Int32 → Prop} {T : Nat → Bool} {a b x : Nat} (ha : a < 6) (hb6 : b < 6) (hx : x < 6) (H : dd_XH he T) (K : ∀ v, dd_RB v (fun y => dd_ex (fun z => T (36 * a + 6 * x + z) && T (36 * b + 6 * z + y)) 6) → post v) :
    ∀ k y v, y + k = 6 → dd_RB v (fun i => dd_ex (fun z => T (36 * a + 6 * x + z) && T (36 * b + 6 * z + i)) y) → wX_joinedRow_6 post (nI a) (nI b) (nI x) rc gc lc fa he hb sh hd fb sb dp lv (k + 1) v (nI y) := by
  intro k
  induction k with
  | zero =>
    intro y v hy G
    have e : y = 6 := by omega
    subst e
    exact br_t dd_t6 (K v G)
  | succ k ih =>
    intro y v hy G
    have hy6 : y < 6 := by omega
    have e0 : 6 * (6 * a + x) + y = 36 * a + 6 * x + y := by omega
    have hb := dd_bit1 (he (6 * a + x)) (show y < 32 by omega)
    rw [H _ (by omega) y (by omega), decide_eq_true hy6, Bool.true_and, e0] at hb
    refine br_f (dd_g6 hy6) ?_
    rw [dd_i6, dd_i6, nI_clamp (n := 6 * a + x) (by omega), nI_clamp (n := 6 * b + y) (by omega)]
    refine ⟨dd_v36 (by omega), br_c (fun z => ⟨dd_v36 (by omega), nm_e (nm_r (nI_1 y) (ih (y + 1) _ (by omega) (fun i hi => ?_)))⟩) (fun z => nm_r (nI_1 y) (ih (y + 1) _ (by omega) (fun i hi => ?_)))⟩
    · rw [b_or, G i hi, H _ (by omega) i hi]
      have e1 : 6 * (6 * b + y) + i = 36 * b + 6 * y + i := by omega
      rw [e1]
      show _ = (decide (i < 6) && (dd_ex (fun z => T (36 * a + 6 * x + z) && T (36 * b + 6 * z + i)) y || (T (36 * a + 6 * x + y) && T (36 * b + 6 * y + i))))
      rw [hb.mp z, Bool.true_and]
      cases decide (i < 6) <;> rfl
    · rw [G i hi]
      show _ = (decide (i < 6) && (dd_ex (fun z => T (36 * a + 6 * x + z) && T (36 * b + 6 * z + i)) y || (T (36 * a + 6 * x + y) && T (36 * b + 6 * y + i))))
      have : T (36 * a + 6 * x + y) = false := Bool.eq_false_iff.mpr (fun w => z (hb.mpr w))
      rw [this, Bool.false_and, Bool.or_false]
theorem dd_xj {post : Int32 → Prop} {T : Nat → Bool} {a b x : Nat} (ha : a < 6) (hb6 : b < 6) (hx : x < 6) (H : dd_XH he T) (K : ∀ v, dd_RB v (fun y => dd_ex (fun z => T (36 * a + 6 * x + z) && T (36 * b + 6 * z + y)) 6) → post v) :
    wpX_joinedRow post (rc, gc, lc, fa, he, hb, sh, hd, fb, sb, dp, lv) (nI a) (nI b) (nI x) :=
  ⟨7, dd_xj6 ha hb6 hx H K 6 0 0 rfl (fun i _ => by rw [b_0]; exact (Bool.and_false _).symm)⟩
theorem dd_xg {post : Int32 → Prop} {R : Nat → Nat} {T : Nat → Bool} {n q x : Nat} (hn : n ≤ 8) (hR : ∀ i, i < n → R i < 1080) (hX : dd_XR R n sh hd fb sb) (hq : q < n) (hx : x < 6) (H : dd_XH he T)
    (K : ∀ v, dd_RB v (fun y => dd_gv T (R q) x y) → post v) : wpX_rowGiven post (rc, gc, lc, fa, he, hb, sh, hd, fb, sb, dp, lv) (nI q) (nI x) := by
  have s5 := dd_s5 (hR q hq)
  have a6 := dd_a6 (R q)
  have b6 := dd_b6 (R q)
  obtain ⟨e1, e2, e3, e4⟩ := hX q hq
  have c : (nI q).toNatClampNeg = q := nI_clamp (by omega)
  have i8 : vp_in (nI q) 8 := dd_v8 (by omega)
  have rowA : 6 * (6 * dd_a (R q) + x) = 36 * dd_a (R q) + 6 * x := by omega
  have rowB : 6 * (6 * dd_b (R q) + x) = 36 * dd_b (R q) + 6 * x := by omega
  have HA := H (6 * dd_a (R q) + x) (by omega)
  have HB := H (6 * dd_b (R q) + x) (by omega)
  rw [rowA] at HA
  rw [rowB] at HB
  have vA : vp_in ((6 : Int32) * nI (dd_a (R q)) + nI x) 36 := by rw [dd_i6]; exact dd_v36 (by omega)
  have cA : ((6 : Int32) * nI (dd_a (R q)) + nI x).toNatClampNeg = 6 * dd_a (R q) + x := by rw [dd_i6]; exact nI_clamp (by omega)
  refine ⟨i8, nm_r (by rw [c, e3]) ⟨i8, nm_r (by rw [c, e4]) ⟨i8, nm_r (by rw [c, e1]) ?_⟩⟩⟩
  refine br_f (nI_pos (by omega)) (pk_lt 3 (dd_s (R q)) (fun s4 => ?_) (fun s3 => pk_eq (dd_s (R q)) 0 (fun s0 => ?_) (fun s0 => pk_eq (dd_s (R q)) 1 (fun s1 => ?_) (fun s1 => pk_eq (dd_s (R q)) 2 (fun s2 => ?_) (fun s2 => pk_eq (dd_s (R q)) 3 (fun s3' => ?_) (fun s3' => trivial))))))
  · rw [dd_e2 (by omega), dd_i6 (dd_b (R q)) x, nI_clamp (n := 6 * dd_b (R q) + x) (by omega), cA]
    refine ⟨vA, dd_v36 (by omega), K _ (fun i hi => ?_)⟩
    rw [b_and, b_xor, b_m1 i hi, HA i hi, HB i hi]
    unfold dd_gv
    dsimp only
    rw [if_neg (by omega), if_neg (by omega), if_neg (by omega), if_neg (by omega)]
    cases decide (i < 6) <;> simp
  · rw [cA]
    refine ⟨vA, K _ (fun i hi => ?_)⟩
    rw [HA i hi]
    unfold dd_gv
    dsimp only
    rw [if_pos s0]
  · refine dd_xt a6 hx H (fun v hv => K v (fun i hi => ?_))
    rw [hv i hi]
    unfold dd_gv
    dsimp only
    rw [if_neg (by omega), if_pos s1]
  · rw [dd_e2 (by omega)]
    refine dd_xj a6 b6 hx H (fun v hv => K v (fun i hi => ?_))
    rw [hv i hi]
    unfold dd_gv
    dsimp only
    rw [if_neg (by omega), if_neg (by omega), if_pos s2]
  · rw [dd_e2 (by omega), dd_i6 (dd_b (R q)) x, nI_clamp (n := 6 * dd_b (R q) + x) (by omega), cA]
    refine ⟨vA, dd_v36 (by omega), K _ (fun i hi => ?_)⟩
    rw [b_and, HA i hi, HB i hi]
    unfold dd_gv
    dsimp only
    rw [if_neg (by omega), if_neg (by omega), if_neg (by omega), if_pos s3']
    cases decide (i < 6) <;> simp
/-! ===== X: a rule, a pass, a level ===== -/
theorem dd_xa4 {post : Int32 → SX → Prop} {R L : Nat → Nat} {T0 T : Nat → Bool} {n l q : Nat} {f : Bool} (hn : n ≤ 8) (hR : ∀ i, i < n → R i < 1080) (hL : dd_Cl R n L) (hX : dd_XR R n sh hd fb sb) (hq : q < n) (hl : L (dd_h (R q)) = l)
    (K : ∀ g h' T', dd_XH h' T' → dd_PQ R n L l T0 T T' (f || g) q 36 → post (dd_bI g) (rc, gc, lc, fa, h', hb, sh, hd, fb, sb, dp, lv)) :
    ∀ k x g h' T', x + k = 6 → dd_XH h' T' → dd_PQ R n L l T0 T T' (f || g) q (6 * x) → wX_applyRule_4 post (nI q) rc gc lc (k + 1) (dd_bI g) (nI x) fa h' hb sh hd fb sb dp lv := by
  intro k
  induction k with
  | zero =>
    intro x g h' T' hx H Q
    have e : x = 6 := by omega
    subst e
    exact br_t dd_t6 ⟨dd_bI_n g, K g h' T' H Q⟩
  | succ k ih =>
    intro x g h' T' hx H Q
    have hx6 : x < 6 := by omega
    have h6 := dd_h6 (R q)
    obtain ⟨e1, e2, e3, e4⟩ := hX q hq
    have c : (nI q).toNatClampNeg = q := nI_clamp (by omega)
    have v36 : vp_in (nI (6 * dd_h (R q) + x)) 36 := dd_v36 (by omega)
    have HH := H (6 * dd_h (R q) + x) (by omega)
    refine br_f (dd_g6 hx6) ⟨dd_v8 (by omega), nm_r (by rw [c, e2, dd_i6]) ⟨v36, dd_xg hn hR hX hq hx6 H (fun v hv => ?_)⟩⟩
    rw [nI_clamp (n := 6 * dd_h (R q) + x) (by omega)]
    refine nm_e ⟨v36, br_c (fun z => nm_r (nI_1 x) (ih (x + 1) g h' T' (by omega) H ?_)) (fun z => ⟨v36, nm_e (nm_r (nI_1 x) (ih (x + 1) true _ _ (by omega) (dd_XH_u H (g := fun y => T' (6 * (6 * dd_h (R q) + x) + y) || dd_gv T' (R q) x y) ?_) ?_))⟩)⟩
    · refine dd_PQ_k Q (fun x' y hx' hy a b g => ?_)
      have ex : x' = x := by omega
      subst ex
      have bz := congrArg (fun w => bt w y) z
      rw [b_or, HH y (by omega), hv y (by omega), decide_eq_true hy] at bz
      dsimp only at bz
      rw [g] at bz
      have e0 : 6 * (6 * dd_h (R q) + x') + y = 36 * dd_h (R q) + 6 * x' + y := by omega
      rw [e0] at bz
      simpa using bz
    · intro i hi
      rw [b_or, HH i hi, hv i hi]
      cases decide (i < 6) <;> rfl
    · have hd : ∃ y, y < 6 ∧ T' (6 * (6 * dd_h (R q) + x) + y) = false ∧ dd_gv T' (R q) x y = true := by
        apply Classical.byContradiction
        intro no
        refine z (b_ext fun i hi => ?_)
        rw [b_or, HH i hi, hv i hi]
        by_cases i6 : i < 6
        · rw [decide_eq_true i6, Bool.true_and, Bool.true_and]
          dsimp only
          cases t : T' (6 * (6 * dd_h (R q) + x) + i)
          · cases u : dd_gv T' (R q) x i
            · rfl
            · exact absurd ⟨i, i6, t, u⟩ no
          · rfl
        · rw [decide_eq_false i6]; rfl
      obtain ⟨y, hy, t, u⟩ := hd
      rw [Bool.or_true]
      have ey : (6 * (6 * dd_h (R q) + x) + y) / 6 = 6 * dd_h (R q) + x := by omega
      have ey2 : (6 * (6 * dd_h (R q) + x) + y) % 6 = y := by omega
      refine dd_PQ_s (a := 6 * (6 * dd_h (R q) + x) + y) hR hL Q (fun k hk w => ?_) (fun k hk w => ?_) (by omega) t ?_
      · unfold dd_row
        split
        · rename_i e
          have : 6 * (6 * dd_h (R q) + x) + k % 6 = k := by omega
          dsimp only
          rw [this, w]; rfl
        · exact w
      · unfold dd_row at w
        by_cases e : k / 6 = 6 * dd_h (R q) + x
        · rw [if_pos e] at w
          have e9 : 6 * (6 * dd_h (R q) + x) + k % 6 = k := by omega
          dsimp only at w
          rw [e9, Bool.or_eq_true] at w
          rcases w with w | w
          · exact Or.inl w
          · exact Or.inr ⟨q, x, k % 6, hq, hl, hx6, by omega, by omega, w⟩
        · rw [if_neg e] at w
          exact Or.inl w
      · unfold dd_row
        rw [if_pos ey, ey2]
        dsimp only
        rw [u, Bool.or_true]
theorem dd_xa {post : Int32 → SX → Prop} {R L : Nat → Nat} {T0 T T' : Nat → Bool} {n l q : Nat} {f : Bool} (hn : n ≤ 8) (hR : ∀ i, i < n → R i < 1080) (hL : dd_Cl R n L) (hX : dd_XR R n sh hd fb sb) (hq : q < n) (hl : L (dd_h (R q)) = l) (H : dd_XH he T') (Q : dd_PQ R n L l T0 T T' f q 0)
    (K : ∀ g h' T', dd_XH h' T' → dd_PQ R n L l T0 T T' (f || g) q 36 → post (dd_bI g) (rc, gc, lc, fa, h', hb, sh, hd, fb, sb, dp, lv)) : wpX_applyRule post (rc, gc, lc, fa, he, hb, sh, hd, fb, sb, dp, lv) (nI q) :=
  ⟨7, dd_xa4 hn hR hL hX hq hl K 6 0 false he T' rfl H (by rw [Bool.or_false]; exact Q)⟩
theorem dd_x20 {post : SX → Prop} {J : Int32 → Int32 → Int32 → Int32 → Int32 → dd_J9} {R L : Nat → Nat} {T0 T : Nat → Bool} {n l p : Nat} (hn : n ≤ 8) (hR : ∀ i, i < n → R i < 1080) (hL : dd_Cl R n L) (h5 : ∀ r, L r ≤ 5) (hl : l < 6) (hV : dd_LV lv L) (hX : dd_XR R n sh hd fb sb)
    (K : ∀ f h' T', dd_XH h' T' → dd_PR R n L l T0 T T' f → J (dd_bI f) (nI (p + 1)) (nI n) gc lc fa h' hb sh hd fb sb dp lv) :
    ∀ k q f h' T', q + k = n → dd_XH h' T' → dd_PQ R n L l T0 T T' f q 0 → wX_settleLevel_20 post J (nI l) (nI p) (k + 1) (dd_bI f) (nI q) (nI n) gc lc fa h' hb sh hd fb sb dp lv := by
  intro k
  induction k with
  | zero =>
    intro q f h' T' hq H Q
    have e : q = n := by omega
    subst e
    exact br_t (nI_le (Nat.le_refl _) (by omega)) (nm_r (nI_1 p) (K f h' T' H (dd_PQ_f Q)))
  | succ k ih =>
    intro q f h' T' hq H Q
    have hqn : q < n := by omega
    have h6 := dd_h6 (R q)
    obtain ⟨e1, e2, e3, e4⟩ := hX q hqn
    have b5 := h5 (dd_h (R q))
    refine br_f (nI_ge hqn (by omega)) ?_
    rw [nI_clamp (n := q) (by omega), e2, nI_clamp (n := dd_h (R q)) (by omega), hV _ h6]
    refine ⟨dd_v8 (by omega), dd_v6 h6, pk_eq (L (dd_h (R q))) l (fun z => dd_xa hn hR hL hX hqn z H Q (fun g h2 T2 H2 Q2 => ?_)) (fun z => nm_r (nI_1 q) (ih (q + 1) f h' T' (by omega) H (dd_PQ_j Q z)))⟩
    cases g with
    | false => exact br_t rfl (nm_r (nI_1 q) (ih (q + 1) f h2 T2 (by omega) H2 (by rw [Bool.or_false] at Q2; exact dd_PQ_n Q2)))
    | true => exact br_f (by decide) (nm_r (nI_1 q) (ih (q + 1) true h2 T2 (by omega) H2 (by rw [Bool.or_true] at Q2; exact dd_PQ_n Q2)))
theorem dd_x4 {post : SX → Prop} {R L : Nat → Nat} {T0 : Nat → Bool} {n l : Nat} (hn : n ≤ 8) (hR : ∀ i, i < n → R i < 1080) (hL : dd_Cl R n L) (h5 : ∀ r, L r ≤ 5) (hl : l < 6) (hV : dd_LV lv L) (hX : dd_XR R n sh hd fb sb)
    (K : ∀ h' T', dd_XH h' T' → dd_Fin R n L l T0 T' → post (nI n, gc, lc, fa, h', hb, sh, hd, fb, sb, dp, lv)) :
    ∀ k p f h' T', p + k = 216 → dd_XH h' T' → dd_PI R n L l T0 p f T' → wX_settleLevel_4 post (nI l) (k + 1) (dd_bI f) (nI p) (nI n) gc lc fa h' hb sh hd fb sb dp lv := by
  intro k
  induction k with
  | zero =>
    intro p f h' T' hp H Q
    have e : p = 216 := by omega
    subst e
    exact br_t (nI_le (a := 216) (Nat.le_refl _) (by decide)) (K h' T' H (dd_PI_f Q (Or.inr (Nat.le_refl _))))
  | succ k ih =>
    intro p f h' T' hp H Q
    refine br_f (nI_ge (b := 216) (by omega) (by decide)) ?_
    cases f with
    | false => exact br_t rfl (K h' T' H (dd_PI_f Q (Or.inl rfl)))
    | true => exact br_f (by decide) ⟨n + 1, dd_x20 hn hR hL h5 hl hV hX (fun f2 h2 T2 H2 Q2 => ih (p + 1) f2 h2 T2 (by omega) H2 (dd_PI_s Q Q2)) n 0 false h' T' (by omega) H (dd_PQ_0 Q.1)⟩
theorem dd_xse {post : SX → Prop} {R L : Nat → Nat} {T : Nat → Bool} {n l : Nat} (hn : n ≤ 8) (hR : ∀ i, i < n → R i < 1080) (hL : dd_Cl R n L) (h5 : ∀ r, L r ≤ 5) (hl : l < 6) (hV : dd_LV lv L) (hX : dd_XR R n sh hd fb sb) (H : dd_XH he T)
    (K : ∀ h' T', dd_XH h' T' → dd_Fin R n L l T T' → post (nI n, gc, lc, fa, h', hb, sh, hd, fb, sb, dp, lv)) : wpX_settleLevel post (nI n, gc, lc, fa, he, hb, sh, hd, fb, sb, dp, lv) (nI l) :=
  ⟨217, dd_x4 hn hR hL h5 hl hV hX K 216 0 true he T rfl H (dd_PI_0 R n L l T)⟩
end
