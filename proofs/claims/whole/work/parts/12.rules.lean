/-! ===== addRule, dropRule ===== -/
def dd_Rp (R : Nat → Nat) (n c : Nat) : Nat → Nat := fun i => if i = n then c else R i
theorem dd_Rp_n (R : Nat → Nat) (n c : Nat) : dd_Rp R n c n = c := if_pos rfl
theorem dd_Rp_o {R : Nat → Nat} {n c i : Nat} (h : i ≠ n) : dd_Rp R n c i = R i := if_neg h
theorem dd_code {s w : Nat} (hs : s < 5) (hw : w < 216) : 216 * s + w < 1080 ∧ dd_s (216 * s + w) = s ∧ dd_h (216 * s + w) = w / 36 ∧ dd_a (216 * s + w) = w / 6 % 6 ∧ dd_b (216 * s + w) = w % 6 := by
  unfold dd_s dd_h dd_a dd_b
  omega
theorem dd_XR_p {R : Nat → Nat} {n c : Nat} {sh hd fb sb : Nat → Int32} (H : dd_XR R n sh hd fb sb) {e1 e2 e3 e4 : Int32} (h1 : e1 = nI (dd_s c)) (h2 : e2 = nI (dd_h c)) (h3 : e3 = nI (dd_a c)) (h4 : e4 = nI (dd_e c)) :
    dd_XR (dd_Rp R n c) (n + 1) (upd sh n e1) (upd hd n e2) (upd fb n e3) (upd sb n e4) := by
  intro i hi
  unfold upd
  by_cases e : i = n
  · subst e
    rw [dd_Rp_n, if_pos rfl, if_pos rfl, if_pos rfl, if_pos rfl]
    exact ⟨h1, h2, h3, h4⟩
  · rw [dd_Rp_o e, if_neg e, if_neg e, if_neg e, if_neg e]
    exact H i (by omega)
theorem dd_YR_p {R : Nat → Nat} {n c : Nat} {ys yh ya yb : Nat → Int32} (H : dd_YR R n ys yh ya yb) {e1 e2 e3 e4 : Int32} (h1 : e1 = nI (dd_s c)) (h2 : e2 = nI (dd_h c)) (h3 : e3 = nI (dd_a c)) (h4 : e4 = nI (dd_b c)) :
    dd_YR (dd_Rp R n c) (n + 1) (upd ys n e1) (upd yh n e2) (upd ya n e3) (upd yb n e4) := by
  intro i hi
  unfold upd
  by_cases e : i = n
  · subst e
    rw [dd_Rp_n, if_pos rfl, if_pos rfl, if_pos rfl, if_pos rfl]
    exact ⟨h1, h2, h3, h4⟩
  · rw [dd_Rp_o e, if_neg e, if_neg e, if_neg e, if_neg e]
    exact H i (by omega)
theorem dd_XR_d {R : Nat → Nat} {n c : Nat} {sh hd fb sb : Nat → Int32} (H : dd_XR (dd_Rp R n c) (n + 1) sh hd fb sb) : dd_XR R n sh hd fb sb := by
  intro i hi
  have := H i (by omega)
  rw [dd_Rp_o (by omega)] at this
  exact this
theorem dd_YR_d {R : Nat → Nat} {n c : Nat} {ys yh ya yb : Nat → Int32} (H : dd_YR (dd_Rp R n c) (n + 1) ys yh ya yb) : dd_YR R n ys yh ya yb := by
  intro i hi
  have := H i (by omega)
  rw [dd_Rp_o (by omega)] at this
  exact this
theorem dd_d6 {w : Nat} (hw : w < 216) : (nI w / 6) - (nI w / 6) / 6 * 6 = nI (w / 6 % 6) := by
  have d1 : nI w / 6 = nI (w / 6) := pk_div (d := 6) (by omega) (by omega) (by omega)
  rw [d1]
  exact pk_rem (d := 6) (by omega) (by omega) (by omega)
theorem dd_d36 {w : Nat} (hw : w < 216) : nI w / 36 = nI (w / 36) := pk_div (d := 36) (by omega) (by omega) (by omega)
theorem dd_dr {w : Nat} (hw : w < 216) : nI w - nI w / 6 * 6 = nI (w % 6) := pk_rem (d := 6) (by omega) (by omega) (by omega)
section
variable {rc gc lc yn : Int32} {fa he hb sh hd fb sb dp lv ys yh ya yb yf yw yo yl yd : Nat → Int32}
theorem dd_xwr {post : SX → Prop} {R : Nat → Nat} {n s w : Nat} (hn : n < 8) (hs : s < 5) (hw : w < 216) (hX : dd_XR R n sh hd fb sb)
    (K : ∀ sh' hd' fb' sb', dd_XR (dd_Rp R n (216 * s + w)) (n + 1) sh' hd' fb' sb' → post (rc, gc, lc, fa, he, hb, sh', hd', fb', sb', dp, lv)) : wpX_writeRule post (rc, gc, lc, fa, he, hb, sh, hd, fb, sb, dp, lv) (nI n) (nI s) (nI w) := by
  obtain ⟨c0, c1, c2, c3, c4⟩ := dd_code hs hw
  have v8 : vp_in (nI n) 8 := dd_v8 hn
  have hA := (dd_d6 hw).trans (congrArg nI c3.symm)
  have hH := (dd_d36 hw).trans (congrArg nI c2.symm)
  have hB := (dd_dr hw).trans (congrArg nI c4.symm)
  unfold wpX_writeRule
  dsimp only
  rw [nI_clamp (n := n) (by omega), hA, hH, hB]
  refine ⟨by decide, by decide, nm_e ⟨v8, nm_e ⟨by decide, v8, nm_e ⟨v8, nm_e (pk_eq s 0 (fun z => ⟨v8, nm_e (K _ _ _ _ (dd_XR_p hX (by rw [c1]) rfl rfl ?_))⟩) (fun z => pk_eq s 1 (fun z1 => ⟨v8, nm_e (K _ _ _ _ (dd_XR_p hX (by rw [c1]) rfl rfl ?_))⟩) (fun z1 => ⟨by decide, v8, nm_e (K _ _ _ _ (dd_XR_p hX (by rw [c1]) rfl rfl ?_))⟩)))⟩⟩⟩⟩
  · rw [dd_e1 (by omega)]
  · rw [dd_e1 (by omega)]
  · rw [dd_e2 (by omega)]
end
theorem i_vc_addRule {k : Nat} {u : SX} {v : SY} (I : i_Rel k u v) (hk : k + 4 ≤ 2048) (v1 : Int32) (v2 : Int32) : wpX_addRule (fun r u' => wpY_addRule (fun r' v' => r' = r ∧ i_Rel (k + 4) u' v') v v1 v2) u v1 v2 := by
  have I' := i_up I
  obtain ⟨n, R, P, Fc, T, B, fa, he, hb, sh, hd, fb, sb, dp, lv, ys, yh, ya, yb, yf, yw, yo, yl, yd, rfl, rfl, G⟩ := I
  obtain ⟨hn, hR, hX, hY, h5, hP, H1, H1', H2, H2', H3⟩ := G
  by_cases h1 : v1 < 0
  · exact br_t h1 (br_t h1 ⟨rfl, I'⟩)
  by_cases h2 : 4 < v1
  · exact br_f h1 (br_t h2 (br_f h1 (br_t h2 ⟨rfl, I'⟩)))
  by_cases h3 : v2 < 0
  · exact br_f h1 (br_f h2 (br_t h3 (br_f h1 (br_f h2 (br_t h3 ⟨rfl, I'⟩)))))
  obtain ⟨s, hs, rfl⟩ := nI_of2 (x := v1) (M := 4) (n := 4) rfl h1 (Int32.not_lt.mp h2)
  obtain ⟨w, hw, rfl⟩ := nI_of h3
  by_cases h4 : w < 216
  · have a4 : nI w < 216 := nI_lt (b := 216) h4 (by decide)
    have b4 : nI w ≤ 215 := nI_le (b := 215) (by omega) (by decide)
    by_cases n8 : n < 8
    · have a8 : nI n < 8 := nI_lt (b := 8) n8 (by decide)
      have b8 : ¬ nI n = 8 := by
        intro z
        have := (nI_eq (a := n) (b := 8) (by omega) (by decide)).mp z
        omega
      obtain ⟨c0, c1, c2, c3, c4⟩ := dd_code (s := s) (w := w) (by omega) h4
      have hR' : ∀ i, i < n + 1 → dd_Rp R n (216 * s + w) i < 1080 := by
        intro i hi
        by_cases e : i = n
        · rw [e, dd_Rp_n]; exact c0
        · rw [dd_Rp_o e]; exact hR i (by omega)
      have v9 : vp_in (nI n) 9 := dd_v9 (by omega)
      have hYn := dd_YR_p (c := 216 * s + w) hY (e1 := nI s) (e2 := nI w / 36) (e3 := (nI w / 6) - (nI w / 6) / 6 * 6) (e4 := nI w - nI w / 6 * 6) (by rw [c1]) ((dd_d36 h4).trans (by rw [c2])) ((dd_d6 h4).trans (by rw [c3])) ((dd_dr h4).trans (by rw [c4]))
      have CY : ∀ Q : Int32 → SY → Prop, (∀ d, dd_ly (dd_Rp R n (216 * s + w)) (n + 1) → wpY_settle (fun v => Q v.1 v) (nI (n + 1), upd ys n (nI s), upd yh n (nI w / 36), upd ya n ((nI w / 6) - (nI w / 6) / 6 * 6), upd yb n (nI w - nI w / 6 * 6), yf, yw, yo, yl, d)) → (∀ d, ¬ dd_ly (dd_Rp R n (216 * s + w)) (n + 1) → Q (-3) (nI n, upd ys n (nI s), upd yh n (nI w / 36), upd ya n ((nI w / 6) - (nI w / 6) / 6 * 6), upd yb n (nI w - nI w / 6 * 6), yf, yw, yo, yl, d)) → wpY_addRule Q (nI n, ys, yh, ya, yb, yf, yw, yo, yl, yd) (nI s) (nI w) := by
        intro Q q1 q0
        unfold wpY_addRule
        dsimp only
        refine br_f h1 (br_f h2 (br_f h3 (br_t b4 (br_f b8 ?_))))
        rw [nI_clamp (n := n) (by omega), nI_1 n]
        refine ⟨v9, nm_e ⟨by decide, v9, nm_e ⟨by decide, by decide, v9, nm_e ⟨by decide, v9, nm_e ?_⟩⟩⟩⟩
        exact dd_yly (by omega) hR' hYn (fun d hl => br_f dd_o1 (nm_r (nI_1 n) (q1 d hl))) (fun d hl => br_t rfl (q0 d hl))
      unfold wpX_addRule
      dsimp only
      refine br_f h1 (br_f h2 (br_f h3 (br_t a4 (br_t a8 (dd_xwr n8 (by omega) h4 hX (fun sh' hd' fb' sb' hX' => nm_r (nI_1 n) (dd_xly (by omega) hR' hX' (fun d hl => br_f dd_o1 ?_) (fun d hl => br_t rfl (nm_r (e' := nI n) ?_ ?_)))))))))
      · obtain ⟨P', h5', hP'⟩ := dd_ly_pot hl
        obtain ⟨F, hF⟩ := dd_Lf_ex hP'
        refine dd_xup (by omega) hR' hX' hP' h5' hF H1 H2 (fun h' b' l' T' A1 A2 => CY _ (fun d2 _ => ?_) (fun d2 nl => absurd hl nl))
        refine dd_yst (by omega) hR' hYn hP' h5' hF H1' H2' (fun w2 o yl' T'' B1 B2 B3 => ⟨rfl, ?_⟩)
        exact ⟨n + 1, dd_Rp R n (216 * s + w), P', Fc, T', T, _, _, _, _, _, _, _, _, _, _, _, _, _, _, _, _, _, _, rfl, rfl, by omega, hR', hX', hYn, h5', hP', H1, H1', A1, dd_YH_e B1 (dd_FA_u 6 _ _ B3 A2), B2⟩
      · exact nI_pred n
      · refine CY _ (fun d2 yl2 => absurd yl2 hl) (fun d2 _ => ⟨rfl, ?_⟩)
        exact ⟨n, R, P, Fc, T, B, _, _, _, _, _, _, _, _, _, _, _, _, _, _, _, _, _, _, rfl, rfl, hn, hR, dd_XR_d hX', dd_YR_d hYn, h5, hP, H1, H1', H2, H2', H3⟩
    · have e : n = 8 := by omega
      subst e
      exact br_f h1 (br_f h2 (br_f h3 (br_t a4 (br_f (nI_nlt (a := 8) (b := 8) (by omega) (by omega)) (br_f h1 (br_f h2 (br_f h3 (br_t b4 (br_t rfl ⟨rfl, I'⟩)))))))))
  · have a4 : ¬ nI w < 216 := nI_nlt (b := 216) (by omega) hw
    have b4 : ¬ nI w ≤ 215 := nI_ge (a := 215) (by omega) hw
    exact br_f h1 (br_f h2 (br_f h3 (br_f a4 (br_f h1 (br_f h2 (br_f h3 (br_f b4 ⟨rfl, I'⟩)))))))
/-! ===== a rule is taken out ===== -/
def dd_Rw (R : Nat → Nat) (i j : Nat) : Nat → Nat := fun t => if t < i then R t else if t < j then R (t + 1) else R t
theorem dd_Rw_0 (R : Nat → Nat) (i : Nat) : dd_Rw R i i = R := by
  funext t
  unfold dd_Rw
  by_cases h : t < i
  · rw [if_pos h]
  · rw [if_neg h, if_neg h]
theorem dd_Rw_o {R : Nat → Nat} {i j t : Nat} (h : t ≠ j) : dd_Rw R i (j + 1) t = dd_Rw R i j t := by
  unfold dd_Rw
  by_cases a : t < i
  · rw [if_pos a, if_pos a]
  · rw [if_neg a, if_neg a]
    by_cases b : t < j
    · rw [if_pos b, if_pos (by omega)]
    · rw [if_neg b, if_neg (by omega)]
theorem dd_Rw_j {R : Nat → Nat} {i j : Nat} (h : i ≤ j) : dd_Rw R i (j + 1) j = dd_Rw R i j (j + 1) := by
  unfold dd_Rw
  rw [if_neg (by omega), if_pos (by omega), if_neg (by omega), if_neg (by omega)]
theorem dd_XR_w {R : Nat → Nat} {n i j : Nat} {sh hd fb sb : Nat → Int32} (hi : i ≤ j) (hj : j + 1 < n) (H : dd_XR (dd_Rw R i j) n sh hd fb sb) : dd_XR (dd_Rw R i (j + 1)) n (upd sh j (sh (j + 1))) (upd hd j (hd (j + 1))) (upd fb j (fb (j + 1))) (upd sb j (sb (j + 1))) := by
  intro t ht
  unfold upd
  by_cases e : t = j
  · subst e
    rw [if_pos rfl, if_pos rfl, if_pos rfl, if_pos rfl, dd_Rw_j hi]
    exact H (t + 1) hj
  · rw [if_neg e, if_neg e, if_neg e, if_neg e, dd_Rw_o e]
    exact H t ht
theorem dd_YR_w {R : Nat → Nat} {n i j : Nat} {ys yh ya yb : Nat → Int32} (hi : i ≤ j) (hj : j + 1 < n) (H : dd_YR (dd_Rw R i j) n ys yh ya yb) : dd_YR (dd_Rw R i (j + 1)) n (upd ys j (ys (j + 1))) (upd yh j (yh (j + 1))) (upd ya j (ya (j + 1))) (upd yb j (yb (j + 1))) := by
  intro t ht
  unfold upd
  by_cases e : t = j
  · subst e
    rw [if_pos rfl, if_pos rfl, if_pos rfl, if_pos rfl, dd_Rw_j hi]
    exact H (t + 1) hj
  · rw [if_neg e, if_neg e, if_neg e, if_neg e, dd_Rw_o e]
    exact H t ht
theorem dd_Rw_in {R : Nat → Nat} {n i : Nat} {A : Nat → Prop} (h : ∀ t, t < n + 1 → A (R t)) : ∀ t, t < n → A (dd_Rw R i n t) := by
  intro t ht
  unfold dd_Rw
  by_cases a : t < i
  · rw [if_pos a]; exact h t (by omega)
  · rw [if_neg a, if_pos ht]; exact h (t + 1) (by omega)
section
variable {rc gc lc yn : Int32} {fa he hb sh hd fb sb dp lv ys yh ya yb yf yw yo yl yd : Nat → Int32}
theorem dd_x26 {post : Int32 → SX → Prop} {R : Nat → Nat} {n i : Nat} (hn : n + 1 ≤ 8)
    (K : ∀ sh' hd' fb' sb', dd_XR (dd_Rw R i n) n sh' hd' fb' sb' → wpX_update (fun u => post u.1 u) (nI n, gc, lc, fa, he, hb, sh', hd', fb', sb', dp, lv)) :
    ∀ k j sh' hd' fb' sb', j + k = n → i ≤ j → dd_XR (dd_Rw R i j) (n + 1) sh' hd' fb' sb' → wX_dropRule_26 post (nI n) gc lc (k + 1) (nI j) fa he hb sh' hd' fb' sb' dp lv := by
  intro k
  induction k with
  | zero =>
    intro j sh' hd' fb' sb' hj hi H
    have e : j = n := by omega
    subst e
    exact br_t (nI_le (Nat.le_refl _) (by omega)) (K sh' hd' fb' sb' (fun t ht => H t (by omega)))
  | succ k ih =>
    intro j sh' hd' fb' sb' hj hi H
    have a8 : vp_in (nI j) 8 := dd_v8 (by omega)
    have b8 : vp_in (nI j + 1) 8 := by rw [nI_1]; exact dd_v8 (by omega)
    have cj : (nI j).toNatClampNeg = j := nI_clamp (by omega)
    have cj1 : (nI j + 1).toNatClampNeg = j + 1 := by rw [nI_1]; exact nI_clamp (by omega)
    refine br_f (nI_ge (by omega) (by omega)) ?_
    rw [cj, cj1]
    exact ⟨b8, a8, nm_e ⟨b8, a8, nm_e ⟨b8, a8, nm_e ⟨b8, a8, nm_e (nm_r (nI_1 j) (ih (j + 1) _ _ _ _ (by omega) (by omega) (dd_XR_w hi (by omega) H)))⟩⟩⟩⟩
theorem dd_y16 {post : Int32 → SY → Prop} {R : Nat → Nat} {n i : Nat} (hn : n + 1 ≤ 8)
    (K : ∀ ys' yh' ya' yb', dd_YR (dd_Rw R i n) n ys' yh' ya' yb' → wpY_settle (fun v => post v.1 v) (nI n, ys', yh', ya', yb', yf, yw, yo, yl, yd)) :
    ∀ k j ys' yh' ya' yb', j + k = n → i ≤ j → dd_YR (dd_Rw R i j) (n + 1) ys' yh' ya' yb' → wY_dropRule_16 post (nI (n + 1)) (k + 1) (nI j) ys' yh' ya' yb' yf yw yo yl yd := by
  intro k
  have p : nI (n + 1) - 1 = nI n := nI_pred n
  induction k with
  | zero =>
    intro j ys' yh' ya' yb' hj hi H
    have e : j = n := by omega
    subst e
    exact br_t (by rw [p]; exact nI_le (Nat.le_refl _) (by omega)) (nm_r p (K ys' yh' ya' yb' (fun t ht => H t (by omega))))
  | succ k ih =>
    intro j ys' yh' ya' yb' hj hi H
    have a9 : vp_in (nI j) 9 := dd_v9 (by omega)
    have b9 : vp_in (nI j + 1) 9 := by rw [nI_1]; exact dd_v9 (by omega)
    have cj : (nI j).toNatClampNeg = j := nI_clamp (by omega)
    have cj1 : (nI j + 1).toNatClampNeg = j + 1 := by rw [nI_1]; exact nI_clamp (by omega)
    refine br_f (by rw [p]; exact nI_ge (by omega) (by omega)) ?_
    rw [cj, cj1]
    exact ⟨b9, a9, nm_e ⟨b9, a9, nm_e ⟨b9, a9, nm_e ⟨b9, a9, nm_e (nm_r (nI_1 j) (ih (j + 1) _ _ _ _ (by omega) (by omega) (dd_YR_w hi (by omega) H)))⟩⟩⟩⟩
end
theorem i_vc_dropRule {k : Nat} {u : SX} {v : SY} (I : i_Rel k u v) (hk : k + 4 ≤ 2048) (v1 : Int32) : wpX_dropRule (fun r u' => wpY_dropRule (fun r' v' => r' = r ∧ i_Rel (k + 4) u' v') v v1) u v1 := by
  have I' := i_up I
  obtain ⟨n, R, P, Fc, T, B, fa, he, hb, sh, hd, fb, sb, dp, lv, ys, yh, ya, yb, yf, yw, yo, yl, yd, rfl, rfl, G⟩ := I
  obtain ⟨hn, hR, hX, hY, h5, hP, H1, H1', H2, H2', H3⟩ := G
  by_cases h1 : v1 < 0
  · exact br_t h1 (br_t h1 ⟨rfl, I'⟩)
  obtain ⟨i, hi, rfl⟩ := nI_of h1
  by_cases h2 : i < n
  · have a2 : nI i < nI n := nI_lt h2 (by omega)
    obtain ⟨m, rfl⟩ : ∃ m, n = m + 1 := ⟨n - 1, by omega⟩
    have hR' : ∀ t, t < m → dd_Rw R i m t < 1080 := dd_Rw_in (A := fun c => c < 1080) hR
    have hP' : dd_Cl (dd_Rw R i m) m P := dd_Rw_in (A := fun c => P (dd_a c) ≤ P (dd_h c) ∧ P (dd_e c) + dd_w c ≤ P (dd_h c)) hP
    obtain ⟨F, hF⟩ := dd_Lf_ex hP'
    unfold wpX_dropRule
    dsimp only
    refine br_f h1 (br_t a2 (nm_r (nI_pred m) ⟨m - i + 1, dd_x26 (i := i) hn (fun sh' hd' fb' sb' hX' => ?_) (m - i) i sh hd fb sb (by omega) (Nat.le_refl _) (by rw [dd_Rw_0]; exact hX)⟩))
    refine dd_xup (by omega) hR' hX' hP' h5 hF H1 H2 (fun h' b' l' T' A1 A2 => ?_)
    unfold wpY_dropRule
    dsimp only
    refine br_f h1 (br_t a2 ⟨m - i + 1, dd_y16 (i := i) hn (fun ys' yh' ya' yb' hY' => ?_) (m - i) i ys yh ya yb (by omega) (Nat.le_refl _) (by rw [dd_Rw_0]; exact hY)⟩)
    refine dd_yst (by omega) hR' hY' hP' h5 hF H1' H2' (fun w2 o yl' T'' B1 B2 B3 => ⟨rfl, ?_⟩)
    exact ⟨m, dd_Rw R i m, P, Fc, T', T, _, _, _, _, _, _, _, _, _, _, _, _, _, _, _, _, _, _, rfl, rfl, by omega, hR', hX', hY', h5, hP', H1, H1', A1, dd_YH_e B1 (dd_FA_u 6 _ _ B3 A2), B2⟩
  · have a2 : ¬ nI i < nI n := nI_nlt (by omega) hi
    exact br_f h1 (br_f a2 (br_f h1 (br_f a2 ⟨rfl, I'⟩)))
