/-! ===== X: counts and update ===== -/
section
variable {rc gc lc : Int32} {fa he hb sh hd fb sb dp lv : Nat → Int32}
theorem dd_xs4 {post : Int32 → Prop} {v : Int32} (K : post (nI (dd_cnt (bt v) 6))) : ∀ k y, y + k = 6 → wX_sizeOfSet_4 post v (k + 1) (nI (dd_cnt (bt v) y)) (nI y) := by
  intro k
  induction k with
  | zero =>
    intro y hy
    have e : y = 6 := by omega
    subst e
    exact br_t dd_t6 K
  | succ k ih =>
    intro y hy
    refine br_f (dd_g6 (by omega)) (nm_r (e' := nI (dd_cnt (bt v) (y + 1))) ?_ (nm_r (nI_1 y) (ih (y + 1) (by omega))))
    rw [dd_bit _ (show y < 32 by omega)]
    show _ = nI (dd_cnt (bt v) y + (if bt v y = true then 1 else 0))
    rw [← nI_add]
    by_cases z : bt v y = true
    · rw [if_pos z, if_pos z]; rfl
    · rw [if_neg z, if_neg z]; rfl
theorem dd_xs {post : Int32 → Prop} {v : Int32} {f : Nat → Bool} (hv : ∀ i, i < 6 → bt v i = f i) (K : post (nI (dd_cnt f 6))) : wpX_sizeOfSet post v :=
  ⟨7, dd_xs4 (by rw [dd_cnt_eq hv]; exact K) 6 0 rfl⟩
theorem dd_cnt6 (f : Nat → Bool) (row : Nat) : dd_cnt f (6 * (row + 1)) = dd_cnt f (6 * row) + dd_cnt (fun i => f (6 * row + i)) 6 := by
  rw [← dd_cnt_add]
  rfl
theorem dd_xc12 {post : SX → Prop} {T B : Nat → Bool} (H : dd_XH he T) (H0 : dd_XH hb B)
    (K : post (rc, nI (dd_cnt (fun k => T k && !B k) 216), nI (dd_cnt (fun k => B k && !T k) 216), fa, he, hb, sh, hd, fb, sb, dp, lv)) :
    ∀ k row, row + k = 36 → wX_countChanges_12 post rc fa he hb sh hd fb sb dp lv (k + 1) (nI row) (nI (dd_cnt (fun k => T k && !B k) (6 * row))) (nI (dd_cnt (fun k => B k && !T k) (6 * row))) := by
  intro k
  induction k with
  | zero =>
    intro row hr
    have e : row = 36 := by omega
    subst e
    exact br_t (nI_le (a := 36) (Nat.le_refl _) (by decide)) K
  | succ k ih =>
    intro row hr
    have h36 : row < 36 := by omega
    have v36 : vp_in (nI row) 36 := dd_v36 h36
    have c : (nI row).toNatClampNeg = row := nI_clamp (by omega)
    refine br_f (nI_ge (b := 36) (by omega) (by decide)) ?_
    rw [c]
    refine ⟨v36, v36, dd_xs (f := fun i => T (6 * row + i) && !B (6 * row + i)) (fun i hi => ?_) (nm_r (e' := nI (dd_cnt (fun k => T k && !B k) (6 * (row + 1)))) ?_ ⟨v36, v36, dd_xs (f := fun i => B (6 * row + i) && !T (6 * row + i)) (fun i hi => ?_) (nm_r (e' := nI (dd_cnt (fun k => B k && !T k) (6 * (row + 1)))) ?_ (nm_r (nI_1 row) (ih (row + 1) (by omega))))⟩)⟩
    · rw [b_and, b_xor, b_m1 i (by omega), H row h36 i (by omega), H0 row h36 i (by omega), decide_eq_true hi]
      simp
    · rw [nI_add, dd_cnt6]
    · rw [b_and, b_xor, b_m1 i (by omega), H row h36 i (by omega), H0 row h36 i (by omega), decide_eq_true hi]
      simp
    · rw [nI_add, dd_cnt6]
theorem dd_xc {post : SX → Prop} {T B : Nat → Bool} (H : dd_XH he T) (H0 : dd_XH hb B)
    (K : post (rc, nI (dd_cnt (fun k => T k && !B k) 216), nI (dd_cnt (fun k => B k && !T k) 216), fa, he, hb, sh, hd, fb, sb, dp, lv)) : wpX_countChanges post (rc, gc, lc, fa, he, hb, sh, hd, fb, sb, dp, lv) :=
  ⟨37, dd_xc12 H H0 K 36 0 rfl⟩
theorem dd_x44 {post : SX → Prop} {R L : Nat → Nat} {Fc B : Nat → Bool} {n : Nat} (hn : n ≤ 8) (hR : ∀ i, i < n → R i < 1080) (hL : dd_Cl R n L) (h5 : ∀ r, L r ≤ 5) (hV : dd_LV lv L) (hX : dd_XR R n sh hd fb sb) (H0 : dd_XH hb B)
    (K : ∀ h' T', dd_XH h' T' → dd_FA R n L Fc 6 T' → post (nI n, nI (dd_cnt (fun k => T' k && !B k) 216), nI (dd_cnt (fun k => B k && !T' k) 216), fa, h', hb, sh, hd, fb, sb, dp, lv)) :
    ∀ k l h' T', l + k = 6 → dd_XH h' T' → dd_FA R n L Fc l T' → wX_update_44 post (k + 1) (nI l) (nI n) gc lc fa h' hb sh hd fb sb dp lv := by
  intro k
  induction k with
  | zero =>
    intro l h' T' hl H Q
    have e : l = 6 := by omega
    subst e
    exact br_t dd_t6 (dd_xc H H0 (K h' T' H Q))
  | succ k ih =>
    intro l h' T' hl H Q
    exact br_f (dd_g6 (by omega)) (dd_xse hn hR hL h5 (by omega) hV hX H (fun h2 T2 H2 Q2 => nm_r (nI_1 l) (ih (l + 1) h2 T2 (by omega) H2 ⟨T', Q, Q2⟩)))
theorem dd_xu2 {post : SX → Prop} {R P F : Nat → Nat} {Fc T : Nat → Bool} {n : Nat} (hn : n ≤ 8) (hR : ∀ i, i < n → R i < 1080) (hX : dd_XR R n sh hd fb sb) (hP : dd_Cl R n P) (h5 : ∀ r, P r ≤ 5) (hF : dd_Lf R n F) (H1 : dd_XH fa Fc) (H2 : dd_XH he T)
    (K : ∀ h' b' l' T', dd_XH h' T' → dd_FA R n F Fc 6 T' → post (nI n, nI (dd_cnt (fun k => T' k && !T k) 216), nI (dd_cnt (fun k => T k && !T' k) 216), fa, h', b', sh, hd, fb, sb, dp, l')) :
    ∀ k j h b, j + k = 36 → (∀ r, r < j → h r = fa r) → (∀ r, j ≤ r → h r = he r) → (∀ r, r < j → b r = he r) → wX_update_2 post (nI n) gc lc (k + 1) (nI j) fa h b sh hd fb sb dp lv := by
  intro k
  induction k with
  | zero =>
    intro j h b hj G1 G2 G3
    have e : j = 36 := by omega
    subst e
    have Hh : dd_XH h Fc := fun row hr i hi => by rw [G1 row hr]; exact H1 row hr i hi
    have Hb : dd_XH b T := fun row hr i hi => by rw [G3 row hr]; exact H2 row hr i hi
    exact br_t (nI_le (a := 36) (Nat.le_refl _) (by decide)) (dd_xfl hn hR hX hP h5 hF (fun l hl => ⟨7, dd_x44 hn hR hF.1 (fun r => Nat.le_trans (hF.2 P hP r) (h5 r)) hl hX Hb (fun h' T' A B => K h' b l T' A B) 6 0 h Fc rfl Hh (fun _ _ => rfl)⟩))
  | succ k ih =>
    intro j h b hj G1 G2 G3
    have v36 : vp_in (nI j) 36 := dd_v36 (by omega)
    have c : (nI j).toNatClampNeg = j := nI_clamp (by omega)
    refine br_f (nI_ge (b := 36) (by omega) (by decide)) ?_
    rw [c]
    refine ⟨v36, v36, nm_e ⟨v36, v36, nm_e (nm_r (nI_1 j) (ih (j + 1) _ _ (by omega) (fun r hr => ?_) (fun r hr => ?_) (fun r hr => ?_)))⟩⟩
    · unfold upd
      by_cases e : r = j
      · rw [if_pos e, e]
      · rw [if_neg e]; exact G1 r (by omega)
    · unfold upd
      rw [if_neg (by omega)]; exact G2 r (by omega)
    · unfold upd
      by_cases e : r = j
      · rw [if_pos e, e]; exact G2 j (Nat.le_refl _)
      · rw [if_neg e]; exact G3 r (by omega)
theorem dd_xup {post : SX → Prop} {R P F : Nat → Nat} {Fc T : Nat → Bool} {n : Nat} (hn : n ≤ 8) (hR : ∀ i, i < n → R i < 1080) (hX : dd_XR R n sh hd fb sb) (hP : dd_Cl R n P) (h5 : ∀ r, P r ≤ 5) (hF : dd_Lf R n F) (H1 : dd_XH fa Fc) (H2 : dd_XH he T)
    (K : ∀ h' b' l' T', dd_XH h' T' → dd_FA R n F Fc 6 T' → post (nI n, nI (dd_cnt (fun k => T' k && !T k) 216), nI (dd_cnt (fun k => T k && !T' k) 216), fa, h', b', sh, hd, fb, sb, dp, l')) : wpX_update post (nI n, gc, lc, fa, he, hb, sh, hd, fb, sb, dp, lv) :=
  ⟨37, dd_xu2 hn hR hX hP h5 hF H1 H2 K 36 0 he hb rfl (fun _ h => absurd h (Nat.not_lt_zero _)) (fun _ _ => rfl) (fun _ h => absurd h (Nat.not_lt_zero _))⟩
end
/-! ===== Y: what a rule gives, a pass, settling ===== -/
theorem dd_ts {b : Bool} (h : ¬ b = false) : b = true := by cases b with
  | false => exact absurd rfl h
  | true => rfl
theorem dd_nar (b : Bool) : vp_nar .boolean (dd_bI b) = dd_bI b := by cases b <;> rfl
theorem dd_YHb {h : Nat → Int32} {T : Nat → Bool} (H : dd_YH h T) {k : Nat} (hk : k < 216) : h k = dd_bI (T k) := H k hk
section
variable {yn : Int32} {ys yh ya yb yf yw yo yl yd : Nat → Int32}
theorem dd_y162 {post : Int32 → Prop} {T : Nat → Bool} {a b x y : Nat} (ha : a < 6) (hb : b < 6) (hx : x < 6) (hy : y < 6) (H : dd_YH yw T)
    (K : post (dd_bI (dd_ex (fun z => T (36 * a + 6 * x + z) && T (36 * b + 6 * z + y)) 6))) :
    ∀ k z, z + k = 6 → dd_ex (fun z => T (36 * a + 6 * x + z) && T (36 * b + 6 * z + y)) z = false → wY_gives_162 post (nI x) (nI y) (nI (36 * a)) (nI (36 * b)) yn ys yh ya yb yf yw yo yl yd (k + 1) (nI z) := by
  intro k
  induction k with
  | zero =>
    intro z hz G
    have e : z = 6 := by omega
    subst e
    rw [G] at K
    exact br_t dd_t6 K
  | succ k ih =>
    intro z hz G
    have h1 := dd_YHb H (show 36 * a + 6 * x + z < 216 by omega)
    have h2 := dd_YHb H (show 36 * b + 6 * z + y < 216 by omega)
    refine br_f (dd_g6 (by omega)) ?_
    rw [dd_m6, dd_m6, nI_add, nI_add, nI_add, nI_add, nI_clamp (n := 36 * a + 6 * x + z) (by omega), nI_clamp (n := 36 * b + 6 * z + y) (by omega), h1, h2]
    refine ⟨dd_v216 (by omega), br_c (fun w => nm_r (nI_1 z) (ih (z + 1) (by omega) ?_)) (fun w => ⟨dd_v216 (by omega), br_c (fun u => nm_r (nI_1 z) (ih (z + 1) (by omega) ?_)) (fun u => ?_)⟩)⟩
    · show (_ || _) = false
      rw [G]
      dsimp only
      rw [dd_bI_0.mp w]; rfl
    · show (_ || _) = false
      rw [G]
      dsimp only
      rw [dd_bI_0.mp u, Bool.and_false]; rfl
    · have e : dd_ex (fun z => T (36 * a + 6 * x + z) && T (36 * b + 6 * z + y)) 6 = true := by
        refine dd_ex_iff.mpr ⟨z, by omega, ?_⟩
        rw [dd_bI_0] at w u
        rw [dd_ts w, dd_ts u]; rfl
      rw [e] at K
      exact K
theorem dd_yg {post : Int32 → Prop} {R : Nat → Nat} {T : Nat → Bool} {n q x y : Nat} (hn : n ≤ 8) (hR : ∀ i, i < n → R i < 1080) (hY : dd_YR R n ys yh ya yb) (hq : q < n) (hx : x < 6) (hy : y < 6) (H : dd_YH yw T)
    (K : post (dd_bI (dd_gv T (R q) x y))) : wpY_gives post (yn, ys, yh, ya, yb, yf, yw, yo, yl, yd) (nI q) (nI x) (nI y) := by
  have s5 := dd_s5 (hR q hq)
  have a6 := dd_a6 (R q)
  have b6 := dd_b6 (R q)
  obtain ⟨e1, e2, e3, e4⟩ := hY q hq
  have c : (nI q).toNatClampNeg = q := nI_clamp (by omega)
  have i9 : vp_in (nI q) 9 := dd_v9 (by omega)
  have h1 := dd_YHb H (show 36 * dd_a (R q) + 6 * x + y < 216 by omega)
  have h2 := dd_YHb H (show 36 * dd_b (R q) + 6 * x + y < 216 by omega)
  have h3 := dd_YHb H (show 36 * dd_a (R q) + 6 * y + x < 216 by omega)
  refine ⟨i9, nm_r (by rw [c, e3, dd_i36]) ⟨i9, nm_r (by rw [c, e4, dd_i36]) (nm_r (dd_i6 x y) ⟨i9, ?_⟩)⟩⟩
  rw [c, e1, dd_m6, nI_add, nI_add, nI_add, nI_add, ← Nat.add_assoc, ← Nat.add_assoc, nI_clamp (n := 36 * dd_a (R q) + 6 * x + y) (by omega), nI_clamp (n := 36 * dd_b (R q) + 6 * x + y) (by omega), nI_clamp (n := 36 * dd_a (R q) + 6 * y + x) (by omega), h1, h2, h3]
  have vA : vp_in (nI (36 * dd_a (R q) + 6 * x + y)) 216 := dd_v216 (by omega)
  have vB : vp_in (nI (36 * dd_b (R q) + 6 * x + y)) 216 := dd_v216 (by omega)
  have vC : vp_in (nI (36 * dd_a (R q) + 6 * y + x)) 216 := dd_v216 (by omega)
  unfold dd_gv at K
  refine pk_eq (dd_s (R q)) 0 (fun s0 => ⟨vA, dd_bI_n _, ?_⟩) (fun s0 => ⟨i9, pk_eq (dd_s (R q)) 1 (fun s1 => ⟨vC, dd_bI_n _, ?_⟩) (fun s1 => ⟨i9, pk_eq (dd_s (R q)) 3 (fun s3 => ⟨vA, ?_⟩) (fun s3 => ⟨i9, pk_eq (dd_s (R q)) 4 (fun s4 => ⟨vA, ?_⟩) (fun s4 => ⟨7, ?_⟩)⟩)⟩)⟩)
  · rw [if_pos s0] at K; exact K
  · rw [if_neg s0, if_pos s1] at K; exact K
  · rw [if_neg s0, if_neg s1, if_neg (by omega), if_pos s3] at K
    refine br_c (fun w => ?_) (fun w => ⟨vB, br_c (fun u => ?_) (fun u => ?_)⟩)
    · rw [dd_bI_0.mp w] at K; exact K
    · rw [dd_bI_0.mp u, Bool.and_false] at K; exact K
    · rw [dd_bI_0] at w u
      rw [dd_ts w, dd_ts u] at K; exact K
  · rw [if_neg s0, if_neg s1, if_neg (by omega), if_neg s3] at K
    refine br_c (fun w => ?_) (fun w => ⟨vB, br_c (fun u => ?_) (fun u => ?_)⟩)
    · rw [dd_bI_0.mp w] at K; exact K
    · rw [dd_bI_0] at w
      rw [dd_ts w, dd_bI_0.mp u] at K; exact K
    · rw [dd_bI_0] at w u
      rw [dd_ts w, dd_ts u] at K; exact K
  · rw [if_neg s0, if_neg s1, if_pos (by omega)] at K
    exact dd_y162 a6 b6 hx hy H K 6 0 rfl rfl
theorem dd_y15 {post : Int32 → SY → Prop} {J : Int32 → Int32 → dd_J9} {R L : Nat → Nat} {T0 T : Nat → Bool} {n l q : Nat} (hn : n ≤ 8) (hR : ∀ i, i < n → R i < 1080) (hL : dd_Cl R n L) (h5 : ∀ r, L r ≤ 5) (hl : l < 6) (hV : dd_LV yl L) (hY : dd_YR R n ys yh ya yb) (hq : q < n)
    (K : ∀ f w T', dd_YH w T' → dd_PQ R n L l T0 T T' f (q + 1) 0 → J (dd_bI f) (nI (q + 1)) ys yh ya yb yf w yo yl yd) :
    ∀ k c f w T', c + k = 36 → dd_YH w T' → dd_PQ R n L l T0 T T' f q c → wY_derive_15 post J (nI l) (nI q) yn (k + 1) (dd_bI f) (nI c) ys yh ya yb yf w yo yl yd := by
  intro k
  induction k with
  | zero =>
    intro c f w T' hc H Q
    have e : c = 36 := by omega
    subst e
    exact br_t (nI_le (a := 36) (Nat.le_refl _) (by decide)) (nm_r (nI_1 q) (K f w T' H (dd_PQ_n Q)))
  | succ k ih =>
    intro c f w T' hc H Q
    have h6 := dd_h6 (R q)
    obtain ⟨e1, e2, e3, e4⟩ := hY q hq
    have cq : (nI q).toNatClampNeg = q := nI_clamp (by omega)
    have i9 : vp_in (nI q) 9 := dd_v9 (by omega)
    have b5 := h5 (dd_h (R q))
    have v : vp_in (nI (36 * dd_h (R q) + c)) 216 := dd_v216 (by omega)
    have hk := dd_YHb H (show 36 * dd_h (R q) + c < 216 by omega)
    have cell : ∀ x y, x < 6 → y < 6 → c ≤ 6 * x + y → 6 * x + y < c + 1 → 36 * dd_h (R q) + 6 * x + y = 36 * dd_h (R q) + c ∧ x = c / 6 ∧ y = c % 6 := by
      intro x y hx hy a b
      omega
    refine br_f (nI_ge (b := 36) (by omega) (by decide)) ⟨i9, nm_r (e' := nI (36 * dd_h (R q) + c)) ?_ ⟨i9, ?_⟩⟩
    · rw [cq, e2, dd_i36, nI_add]
    rw [cq, e2, nI_clamp (n := dd_h (R q)) (by omega), nI_clamp (n := 36 * dd_h (R q) + c) (by omega), hV _ h6, hk]
    refine ⟨dd_v6 h6, pk_eq (L (dd_h (R q))) l (fun z => ⟨v, br_c (fun w0 => ?_) (fun w0 => nm_r (nI_1 c) (ih (c + 1) f w T' (by omega) H (dd_PQ_k Q (fun x y hx hy a b _ => ?_))))⟩) (fun z => nm_r (nI_1 c) (ih (c + 1) f w T' (by omega) H ?_))⟩
    · refine ⟨by decide, by decide, ?_⟩
      have d1 : nI c / 6 = nI (c / 6) := pk_div (d := 6) (by omega) (by omega) (by omega)
      have d2 : nI c - nI c / 6 * 6 = nI (c % 6) := pk_rem (d := 6) (by omega) (by omega) (by omega)
      rw [d2, d1]
      refine dd_yg hn hR hY hq (by omega) (by omega) H (br_c (fun g0 => ?_) (fun g0 => ?_))
      · refine nm_r (nI_1 c) (ih (c + 1) f w T' (by omega) H (dd_PQ_k Q (fun x y hx hy a b g => ?_)))
        obtain ⟨_, rfl, rfl⟩ := cell x y hx hy a b
        rw [dd_bI_0.mp g0] at g
        exact absurd g (by decide)
      · rw [dd_bI_0] at g0
        have g1 := dd_ts g0
        refine ⟨v, nm_e (nm_r (nI_1 c) (ih (c + 1) true _ (dd_set T' (36 * dd_h (R q) + c) true) (by omega) (dd_YH_u H (dd_nar true)) (dd_PQ_s (a := 36 * dd_h (R q) + c) hR hL Q (fun k hk w => ?_) (fun k hk w => ?_) (by omega) (dd_bI_0.mp w0) ?_)))⟩
        · unfold dd_set
          split
          · rfl
          · exact w
        · unfold dd_set at w
          by_cases e : k = 36 * dd_h (R q) + c
          · exact Or.inr ⟨q, c / 6, c % 6, hq, z, by omega, by omega, by omega, g1⟩
          · rw [if_neg e] at w
            exact Or.inl w
        · unfold dd_set
          rw [if_pos rfl]
    · rw [(cell x y hx hy a b).1]
      rw [dd_bI_0] at w0
      exact dd_ts w0
    · refine ⟨Q.1, Q.2.1, fun zf => ⟨(Q.2.2.1 zf).1, fun i x y hi e hx hy d g => ?_⟩, Q.2.2.2⟩
      have ne : i ≠ q := by
        intro zz
        rw [zz] at e
        exact z e
      exact (Q.2.2.1 zf).2 i x y hi e hx hy (by omega) g
theorem dd_yd4 {post : Int32 → SY → Prop} {R L : Nat → Nat} {T0 T : Nat → Bool} {n l : Nat} (hn : n ≤ 8) (hR : ∀ i, i < n → R i < 1080) (hL : dd_Cl R n L) (h5 : ∀ r, L r ≤ 5) (hl : l < 6) (hV : dd_LV yl L) (hY : dd_YR R n ys yh ya yb)
    (K : ∀ f w T', dd_YH w T' → dd_PR R n L l T0 T T' f → post (dd_bI f) (nI n, ys, yh, ya, yb, yf, w, yo, yl, yd)) :
    ∀ k q f w T', q + k = n → dd_YH w T' → dd_PQ R n L l T0 T T' f q 0 → wY_derive_4 post (nI l) (nI n) (k + 1) (dd_bI f) (nI q) ys yh ya yb yf w yo yl yd := by
  intro k
  induction k with
  | zero =>
    intro q f w T' hq H Q
    have e : q = n := by omega
    subst e
    exact br_t (nI_le (Nat.le_refl _) (by omega)) ⟨dd_bI_n f, K f w T' H (dd_PQ_f Q)⟩
  | succ k ih =>
    intro q f w T' hq H Q
    exact br_f (nI_ge (by omega) (by omega)) ⟨37, dd_y15 hn hR hL h5 hl hV hY (by omega) (fun f2 w2 T2 H2 Q2 => ih (q + 1) f2 w2 T2 (by omega) H2 Q2) 36 0 f w T' rfl H Q⟩
theorem dd_yde {post : Int32 → SY → Prop} {R L : Nat → Nat} {T0 T : Nat → Bool} {n l : Nat} (hn : n ≤ 8) (hR : ∀ i, i < n → R i < 1080) (hL : dd_Cl R n L) (h5 : ∀ r, L r ≤ 5) (hl : l < 6) (hV : dd_LV yl L) (hY : dd_YR R n ys yh ya yb) (H : dd_YH yw T) (I : dd_Inv R n L l T0 T)
    (K : ∀ f w T', dd_YH w T' → dd_PR R n L l T0 T T' f → post (dd_bI f) (nI n, ys, yh, ya, yb, yf, w, yo, yl, yd)) : wpY_derive post (nI n, ys, yh, ya, yb, yf, yw, yo, yl, yd) (nI l) :=
  ⟨n + 1, dd_yd4 hn hR hL h5 hl hV hY K n 0 false yw T (by omega) H (dd_PQ_0 I)⟩
theorem dd_y97 {post : SY → Prop} {J : Int32 → Int32 → dd_J9} {R L : Nat → Nat} {T0 : Nat → Bool} {n l : Nat} (hn : n ≤ 8) (hR : ∀ i, i < n → R i < 1080) (hL : dd_Cl R n L) (h5 : ∀ r, L r ≤ 5) (hl : l < 6) (hV : dd_LV yl L) (hY : dd_YR R n ys yh ya yb)
    (K : ∀ w T', dd_YH w T' → dd_Fin R n L l T0 T' → J (nI (l + 1)) (nI n) ys yh ya yb yf w yo yl yd) :
    ∀ k p f w T', p + k = 217 → dd_YH w T' → dd_PI R n L l T0 p f T' → wY_settle_97 post J (nI l) (k + 1) (dd_bI f) (nI p) (nI n) ys yh ya yb yf w yo yl yd := by
  intro k
  induction k with
  | zero =>
    intro p f w T' hp H Q
    have e : p = 217 := by omega
    subst e
    exact br_t (nI_le (a := 217) (Nat.le_refl _) (by decide)) (nm_r (nI_1 l) (K w T' H (dd_PI_f Q (Or.inr (by omega)))))
  | succ k ih =>
    intro p f w T' hp H Q
    refine br_f (nI_ge (b := 217) (by omega) (by decide)) ?_
    cases f with
    | false => exact br_t rfl (nm_r (nI_1 l) (K w T' H (dd_PI_f Q (Or.inl rfl))))
    | true => exact br_f (by decide) (dd_yde hn hR hL h5 hl hV hY H Q.1 (fun f2 w2 T2 H2 Q2 => nm_r (nI_1 p) (ih (p + 1) f2 w2 T2 (by omega) H2 (dd_PI_s Q Q2))))
theorem dd_y87 {post : SY → Prop} {R L : Nat → Nat} {Fc : Nat → Bool} {n : Nat} (hn : n ≤ 8) (hR : ∀ i, i < n → R i < 1080) (hL : dd_Cl R n L) (h5 : ∀ r, L r ≤ 5) (hV : dd_LV yl L) (hY : dd_YR R n ys yh ya yb)
    (K : ∀ w T', dd_YH w T' → dd_FA R n L Fc 6 T' → post (nI n, ys, yh, ya, yb, yf, w, yo, yl, yd)) :
    ∀ k l w T', l + k = 6 → dd_YH w T' → dd_FA R n L Fc l T' → wY_settle_87 post (k + 1) (nI l) (nI n) ys yh ya yb yf w yo yl yd := by
  intro k
  induction k with
  | zero =>
    intro l w T' hl H Q
    have e : l = 6 := by omega
    subst e
    exact br_t dd_t6 (K w T' H Q)
  | succ k ih =>
    intro l w T' hl H Q
    exact br_f (dd_g6 (by omega)) ⟨218, dd_y97 hn hR hL h5 (by omega) hV hY (fun w2 T2 H2 Q2 => ih (l + 1) w2 T2 (by omega) H2 ⟨T', Q, Q2⟩) 217 0 true w T' rfl H (dd_PI_0 R n L l T')⟩
theorem dd_y41 {post : SY → Prop} {R P F : Nat → Nat} {Fc : Nat → Bool} {n : Nat} (hn : n ≤ 8) (hR : ∀ i, i < n → R i < 1080) (hY : dd_YR R n ys yh ya yb) (hP : dd_Cl R n P) (h5 : ∀ r, P r ≤ 5) (hF : dd_Lf R n F) (H : dd_YH yw Fc)
    (K : ∀ w l T', dd_YH w T' → dd_FA R n F Fc 6 T' → post (nI n, ys, yh, ya, yb, yf, w, yo, l, yd)) :
    ∀ k j l, j + k = 6 → (∀ r, r < j → l r = 0) → wY_settle_41 post (nI n) (k + 1) (nI j) ys yh ya yb yf yw yo l yd := by
  intro k
  induction k with
  | zero =>
    intro j l hj G
    have e : j = 6 := by omega
    subst e
    exact br_t dd_t6 ⟨38, dd_y64 hn hR hY hP h5 hF (fun l2 hl2 => ⟨7, dd_y87 hn hR hF.1 (fun r => Nat.le_trans (hF.2 P hP r) (h5 r)) hl2 hY (fun w T' A B => K w l2 T' A B) 6 0 yw Fc rfl H (fun _ _ => rfl)⟩) 37 0 1 l rfl (fun r hr => G r hr) (Or.inr rfl)⟩
  | succ k ih =>
    intro j l hj G
    refine br_f (dd_g6 (by omega)) ⟨dd_v6 (by omega), ?_⟩
    rw [nI_clamp (n := j) (by omega)]
    refine nm_e (nm_r (nI_1 j) (ih (j + 1) _ (by omega) (fun r hr => ?_)))
    unfold upd
    by_cases e : r = j
    · rw [if_pos e]
    · rw [if_neg e]; exact G r (by omega)
theorem dd_ys2 {post : SY → Prop} {R P F : Nat → Nat} {Fc T : Nat → Bool} {n : Nat} (hn : n ≤ 8) (hR : ∀ i, i < n → R i < 1080) (hY : dd_YR R n ys yh ya yb) (hP : dd_Cl R n P) (h5 : ∀ r, P r ≤ 5) (hF : dd_Lf R n F) (H1 : dd_YH yf Fc) (H2 : dd_YH yw T)
    (K : ∀ w o l T', dd_YH w T' → dd_YH o T → dd_FA R n F Fc 6 T' → post (nI n, ys, yh, ya, yb, yf, w, o, l, yd)) :
    ∀ k j w o, j + k = 216 → (∀ r, r < j → w r = yf r) → (∀ r, j ≤ r → w r = yw r) → (∀ r, r < j → o r = yw r) → wY_settle_2 post (nI n) (k + 1) (nI j) ys yh ya yb yf w o yl yd := by
  intro k
  induction k with
  | zero =>
    intro j w o hj G1 G2 G3
    have e : j = 216 := by omega
    subst e
    have Hw : dd_YH w Fc := fun k hk => by rw [G1 k hk]; exact H1 k hk
    have Ho : dd_YH o T := fun k hk => by rw [G3 k hk]; exact H2 k hk
    exact br_t (nI_le (a := 216) (Nat.le_refl _) (by decide)) ⟨7, dd_y41 hn hR hY hP h5 hF Hw (fun w2 l2 T2 A B => K w2 o l2 T2 A Ho B) 6 0 yl rfl (fun _ h => absurd h (Nat.not_lt_zero _))⟩
  | succ k ih =>
    intro j w o hj G1 G2 G3
    have hj216 : j < 216 := by omega
    have v : vp_in (nI j) 216 := dd_v216 hj216
    have c : (nI j).toNatClampNeg = j := nI_clamp (by omega)
    have n1 : vp_nar .boolean (w j) = yw j := by
      rw [G2 j (Nat.le_refl _), dd_YHb H2 hj216]
      exact dd_nar _
    have n2 : vp_nar .boolean (yf j) = yf j := by
      rw [dd_YHb H1 hj216]
      exact dd_nar _
    refine br_f (nI_ge (b := 216) (by omega) (by decide)) ?_
    rw [c, n1, n2]
    refine ⟨v, v, nm_e ⟨v, v, nm_e (nm_r (nI_1 j) (ih (j + 1) _ _ (by omega) (fun r hr => ?_) (fun r hr => ?_) (fun r hr => ?_)))⟩⟩
    · unfold upd
      by_cases e : r = j
      · rw [if_pos e, e]
      · rw [if_neg e]; exact G1 r (by omega)
    · unfold upd
      rw [if_neg (by omega)]; exact G2 r (by omega)
    · unfold upd
      by_cases e : r = j
      · rw [if_pos e, e]
      · rw [if_neg e]; exact G3 r (by omega)
theorem dd_yst {post : SY → Prop} {R P F : Nat → Nat} {Fc T : Nat → Bool} {n : Nat} (hn : n ≤ 8) (hR : ∀ i, i < n → R i < 1080) (hY : dd_YR R n ys yh ya yb) (hP : dd_Cl R n P) (h5 : ∀ r, P r ≤ 5) (hF : dd_Lf R n F) (H1 : dd_YH yf Fc) (H2 : dd_YH yw T)
    (K : ∀ w o l T', dd_YH w T' → dd_YH o T → dd_FA R n F Fc 6 T' → post (nI n, ys, yh, ya, yb, yf, w, o, l, yd)) : wpY_settle post (nI n, ys, yh, ya, yb, yf, yw, yo, yl, yd) :=
  ⟨217, dd_ys2 hn hR hY hP h5 hF H1 H2 K 216 0 yw yo rfl (fun _ h => absurd h (Nat.not_lt_zero _)) (fun _ _ => rfl) (fun _ h => absurd h (Nat.not_lt_zero _))⟩
end
