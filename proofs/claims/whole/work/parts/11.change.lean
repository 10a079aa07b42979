/-! ===== add, remove ===== -/
theorem i_vc_add {k : Nat} {u : SX} {v : SY} (I : i_Rel k u v) (hk : k + 4 ≤ 2048) (v1 : Int32) (v2 : Int32) (v3 : Int32) : wpX_add (fun r u' => wpY_add (fun r' v' => r' = r ∧ i_Rel (k + 4) u' v') v v1 v2 v3) u v1 v2 v3 := by
  have I' := i_up I
  obtain ⟨n, R, P, Fc, T, B, fa, he, hb, sh, hd, fb, sb, dp, lv, ys, yh, ya, yb, yf, yw, yo, yl, yd, rfl, rfl, G⟩ := I
  obtain ⟨hn, hR, hX, hY, h5, hP, H1, H1', H2, H2', H3⟩ := G
  unfold wpX_add
  dsimp only
  rcases dd_tri v1 v2 v3 with h | ⟨r, x, y, hr, hx, hy, rfl, rfl, rfl⟩
  · refine dd_3b h ?_
    unfold wpY_add wpY_change
    dsimp only
    exact dd_it0 h (br_t rfl ⟨rfl, I'⟩)
  · have at216 : 36 * r + 6 * x + y < 216 := by omega
    have W : ∀ z0 : Int32, z0 = dd_bI (!Fc (36 * r + 6 * x + y)) → wX_add_41 (fun r_1 u' => wpY_add (fun r' v' => r' = r_1 ∧ i_Rel (k + 4) u' v') (nI n, ys, yh, ya, yb, yf, yw, yo, yl, yd) (nI r) (nI x) (nI y)) (nI r) (nI x) (nI y) z0 (nI n) (nI (dd_cnt (fun k => T k && !B k) 216)) (nI (dd_cnt (fun k => B k && !T k) 216)) fa he hb sh hd fb sb dp lv := by
      intro z0 hz
      subst hz
      unfold wX_add_41
      rw [dd_i6, nI_clamp (n := 6 * r + x) (by omega)]
      refine ⟨dd_v36 (by omega), dd_v36 (by omega), nm_e ?_⟩
      refine dd_both (k := k + 4) (yo := yo) (yl := yl) (yd := yd) (yf := upd yf (36 * r + 6 * x + y) (dd_bI true)) hn hR hX hY h5 hP (dd_XH_set H1 hr hx hy (fun i hi => dd_vor _ hy hi)) (dd_YH_u H1' rfl) H2 H2' (fun g l h' b' lv' KY => ?_)
      unfold wpY_add wpY_change
      dsimp only
      refine dd_it1 hr hx hy (br_f dd_o1 (nm_r (dd_at r x y) ⟨dd_v216 at216, ?_⟩))
      rw [nI_clamp (n := 36 * r + 6 * x + y) (by omega), dd_YHb H1' at216]
      have C : ∀ (z1 : Int32) (Q : Int32 → SY → Prop), (∀ w o yl', i_Rel (k + 4) (nI n, g, l, upd fa (6 * r + x) (fa (6 * r + x) ||| (1 : Int32) <<< (nI y &&& 31)), h', b', sh, hd, fb, sb, dp, lv') (nI n, ys, yh, ya, yb, upd yf (36 * r + 6 * x + y) (dd_bI true), w, o, yl', yd) → Q z1 (nI n, ys, yh, ya, yb, upd yf (36 * r + 6 * x + y) (dd_bI true), w, o, yl', yd)) → wY_change_42 Q 1 (nI (36 * r + 6 * x + y)) z1 (nI n) ys yh ya yb yf yw yo yl yd := by
        intro z1 Q hQ
        unfold wY_change_42
        rw [nI_clamp (n := 36 * r + 6 * x + y) (by omega)]
        exact ⟨dd_v216 at216, nm_r (congrArg (upd yf (36 * r + 6 * x + y)) (dd_nar true)) (KY _ hQ)⟩
      cases b : Fc (36 * r + 6 * x + y)
      · exact br_f (by decide) (C 1 _ (fun w o yl' J => ⟨rfl, J⟩))
      · exact br_t rfl (C 0 _ (fun w o yl' J => ⟨rfl, J⟩))
    refine dd_3g hr hx hy (dd_hcf1 hr hx hy H1 ?_)
    cases b : Fc (36 * r + 6 * x + y)
    · exact br_t rfl (W 1 (by rw [b]; rfl))
    · exact br_f (by decide) (W 0 (by rw [b]; rfl))
theorem i_vc_remove {k : Nat} {u : SX} {v : SY} (I : i_Rel k u v) (hk : k + 4 ≤ 2048) (v1 : Int32) (v2 : Int32) (v3 : Int32) : wpX_remove (fun r u' => wpY_remove (fun r' v' => r' = r ∧ i_Rel (k + 4) u' v') v v1 v2 v3) u v1 v2 v3 := by
  have I' := i_up I
  obtain ⟨n, R, P, Fc, T, B, fa, he, hb, sh, hd, fb, sb, dp, lv, ys, yh, ya, yb, yf, yw, yo, yl, yd, rfl, rfl, G⟩ := I
  obtain ⟨hn, hR, hX, hY, h5, hP, H1, H1', H2, H2', H3⟩ := G
  unfold wpX_remove
  dsimp only
  rcases dd_tri v1 v2 v3 with h | ⟨r, x, y, hr, hx, hy, rfl, rfl, rfl⟩
  · refine dd_3b h ?_
    unfold wpY_remove wpY_change
    dsimp only
    exact dd_it0 h (br_t rfl ⟨rfl, I'⟩)
  · have at216 : 36 * r + 6 * x + y < 216 := by omega
    have W : ∀ z0 : Int32, z0 = dd_bI (Fc (36 * r + 6 * x + y)) → wX_remove_41 (fun r_1 u' => wpY_remove (fun r' v' => r' = r_1 ∧ i_Rel (k + 4) u' v') (nI n, ys, yh, ya, yb, yf, yw, yo, yl, yd) (nI r) (nI x) (nI y)) (nI r) (nI x) (nI y) z0 (nI n) (nI (dd_cnt (fun k => T k && !B k) 216)) (nI (dd_cnt (fun k => B k && !T k) 216)) fa he hb sh hd fb sb dp lv := by
      intro z0 hz
      subst hz
      unfold wX_remove_41
      rw [dd_i6, nI_clamp (n := 6 * r + x) (by omega)]
      refine ⟨dd_v36 (by omega), dd_v36 (by omega), nm_e ?_⟩
      refine dd_both (k := k + 4) (yo := yo) (yl := yl) (yd := yd) (yf := upd yf (36 * r + 6 * x + y) (dd_bI false)) hn hR hX hY h5 hP (dd_XH_set H1 hr hx hy (fun i hi => dd_vand _ hy hi)) (dd_YH_u H1' rfl) H2 H2' (fun g l h' b' lv' KY => ?_)
      unfold wpY_remove wpY_change
      dsimp only
      refine dd_it1 hr hx hy (br_f dd_o1 (nm_r (dd_at r x y) ⟨dd_v216 at216, ?_⟩))
      rw [nI_clamp (n := 36 * r + 6 * x + y) (by omega), dd_YHb H1' at216]
      have C : ∀ (z1 : Int32) (Q : Int32 → SY → Prop), (∀ w o yl', i_Rel (k + 4) (nI n, g, l, upd fa (6 * r + x) (fa (6 * r + x) &&& (((1 : Int32) <<< (nI y &&& 31)) ^^^ (-1))), h', b', sh, hd, fb, sb, dp, lv') (nI n, ys, yh, ya, yb, upd yf (36 * r + 6 * x + y) (dd_bI false), w, o, yl', yd) → Q z1 (nI n, ys, yh, ya, yb, upd yf (36 * r + 6 * x + y) (dd_bI false), w, o, yl', yd)) → wY_change_42 Q 0 (nI (36 * r + 6 * x + y)) z1 (nI n) ys yh ya yb yf yw yo yl yd := by
        intro z1 Q hQ
        unfold wY_change_42
        rw [nI_clamp (n := 36 * r + 6 * x + y) (by omega)]
        exact ⟨dd_v216 at216, nm_r (congrArg (upd yf (36 * r + 6 * x + y)) (dd_nar false)) (KY _ hQ)⟩
      cases b : Fc (36 * r + 6 * x + y)
      · exact br_t rfl (C 0 _ (fun w o yl' J => ⟨rfl, J⟩))
      · exact br_f (by decide) (C 1 _ (fun w o yl' J => ⟨rfl, J⟩))
    refine dd_3g hr hx hy (dd_hcf1 hr hx hy H1 ?_)
    cases b : Fc (36 * r + 6 * x + y)
    · exact br_t rfl (W 0 (by rw [b]; rfl))
    · exact br_f (by decide) (W 1 (by rw [b]; rfl))
