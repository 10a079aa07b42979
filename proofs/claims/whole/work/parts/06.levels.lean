/-! ===== levels ===== -/
def dd_LV (l : Nat → Int32) (L : Nat → Nat) : Prop := ∀ r, r < 6 → l r = nI (L r)
def dd_up (L : Nat → Nat) (r m : Nat) : Nat → Nat := fun q => if q = r then max (L r) m else L q
theorem dd_LV_k {l : Nat → Int32} {L : Nat → Nat} {r m : Nat} (H : dd_LV l L) (h : m ≤ L r) : dd_LV l (dd_up L r m) := by
  intro q hq
  unfold dd_up
  rw [H q hq]
  split
  · rename_i e
    rw [e, Nat.max_eq_left h]
  · rfl
theorem dd_LV_u {l : Nat → Int32} {L : Nat → Nat} {r m : Nat} (H : dd_LV l L) (h : L r ≤ m) : dd_LV (upd l r (nI m)) (dd_up L r m) := by
  intro q hq
  unfold dd_up upd
  split
  · rw [Nat.max_eq_right h]
  · exact H q hq
theorem dd_LV_e {l : Nat → Int32} {L L' : Nat → Nat} (H : dd_LV l L) (h : ∀ r, r < 6 → L r = L' r) : dd_LV l L' := by
  intro q hq
  rw [H q hq, h q hq]
/-- two raises of X are one rise -/
theorem dd_up2 {L : Nat → Nat} {c : Nat} (h : dd_w c = 0 ∨ dd_e c ≠ dd_h c) : dd_up (dd_up L (dd_h c) (L (dd_a c))) (dd_h c) (dd_up L (dd_h c) (L (dd_a c)) (dd_e c) + dd_w c) = dd_rise L c := by
  funext q
  unfold dd_rise dd_need
  by_cases e : q = dd_h c
  · subst e
    unfold dd_up
    rw [if_pos rfl, if_pos rfl, if_pos rfl]
    by_cases z : dd_e c = dd_h c
    · rw [if_pos z, z]
      have w : dd_w c = 0 := by
        rcases h with h | h
        · exact h
        · exact absurd z h
      rw [w]
      omega
    · rw [if_neg z]
      omega
  · unfold dd_up
    rw [if_neg e, if_neg e, if_neg e]
theorem dd_Cl_ne {R P : Nat → Nat} {n i : Nat} (hP : dd_Cl R n P) (hi : i < n) : dd_w (R i) = 0 ∨ dd_e (R i) ≠ dd_h (R i) := by
  have h := (hP i hi).2
  rcases Nat.eq_zero_or_pos (dd_w (R i)) with z | z
  · exact Or.inl z
  · refine Or.inr fun e => ?_
    rw [e] at h
    omega
theorem dd_Cl_e {R L L' : Nat → Nat} {n : Nat} (h : ∀ r, r < 6 → L r = L' r) (c : dd_Cl R n L) : dd_Cl R n L' := by
  intro i hi
  rw [← h _ (dd_a6 _), ← h _ (dd_h6 _), ← h _ (dd_e6 _)]
  exact c i hi
section
variable {rc gc lc : Int32} {fa he hb sh hd fb sb dp lv : Nat → Int32}
theorem dd_xrl {post : SX → Prop} {L : Nat → Nat} {p0 p1 : Int32} {r m : Nat} (hr : r < 6) (h0 : p0 = nI r) (h1 : p1 = nI m) (H : dd_LV lv L) (b1 : L r < 2 ^ 31) (b2 : m < 2 ^ 31)
    (K : ∀ l, dd_LV l (dd_up L r m) → post (rc, gc, lc, fa, he, hb, sh, hd, fb, sb, dp, l)) : wpX_raiseLevel post (rc, gc, lc, fa, he, hb, sh, hd, fb, sb, dp, lv) p0 p1 := by
  subst h0 h1
  refine ⟨dd_v6 hr, ?_⟩
  rw [nI_clamp (n := r) (by omega), H r hr]
  exact pk_le m (L r) (fun h => K lv (dd_LV_k H h)) (fun h => ⟨dd_v6 hr, nm_e (K _ (dd_LV_u H (by omega)))⟩)
theorem dd_x54 {post : SX → Prop} {J J' : Int32 → Int32 → Int32 → Int32 → dd_J9} {x1 z0 : Int32} {R L P : Nat → Nat} {n i : Nat} (hn : n ≤ 8) (hi : i < n) (hX : dd_XR R n sh hd fb sb) (hP : dd_Cl R n P) (h5 : ∀ r, P r ≤ 5) (hL : ∀ r, L r ≤ P r)
    (H : dd_LV lv L) (hz : z0 = nI (dd_w (R i))) (K : ∀ l, dd_LV l (dd_rise L (R i)) → J' (nI (i + 1)) (nI n) gc lc fa he hb sh hd fb sb dp l) :
    wX_findLevels_54 post J J' x1 (nI i) z0 (nI n) gc lc fa he hb sh hd fb sb dp lv := by
  have h6 := dd_h6 (R i)
  have a6 := dd_a6 (R i)
  have e6 := dd_e6 (R i)
  obtain ⟨e1, e2, e3, e4⟩ := hX i hi
  have c : (nI i).toNatClampNeg = i := nI_clamp (by omega)
  have i8 : vp_in (nI i) 8 := dd_v8 (by omega)
  have ne := dd_Cl_ne hP hi
  have w1 := dd_w1 (R i)
  have bd : ∀ r, L r ≤ 5 := fun r => Nat.le_trans (hL r) (h5 r)
  have u6 : ∀ r q m, m ≤ 6 → dd_up L r m q ≤ 6 := by
    intro r q m hm
    have := bd r
    have := bd q
    unfold dd_up
    split <;> omega
  refine ⟨i8, i8, ?_, ?_⟩
  · rw [c, e3]; exact dd_v6 a6
  refine dd_xrl h6 (by rw [c, e2]) (m := L (dd_a (R i))) (by rw [c, e3, nI_clamp (by omega), H _ a6]) H (by have := bd (dd_h (R i)); omega) (by have := bd (dd_a (R i)); omega) (fun l1 H1 => ?_)
  have q1 := u6 (dd_h (R i)) (dd_h (R i)) (L (dd_a (R i))) (by have := bd (dd_a (R i)); omega)
  have q2 := u6 (dd_h (R i)) (dd_e (R i)) (L (dd_a (R i))) (by have := bd (dd_a (R i)); omega)
  refine ⟨i8, i8, ?_, ?_⟩
  · rw [c, e4]; exact dd_v6 e6
  refine dd_xrl h6 (by rw [c, e2]) (m := dd_up L (dd_h (R i)) (L (dd_a (R i))) (dd_e (R i)) + dd_w (R i)) (by rw [c, e4, nI_clamp (by omega), H1 _ e6, hz, nI_add]) H1 (by omega) (by omega) (fun l2 H2 => ?_)
  rw [dd_up2 ne] at H2
  exact nm_r (nI_1 i) (K l2 H2)
theorem dd_x31 {post : SX → Prop} {J : Int32 → Int32 → Int32 → Int32 → dd_J9} {R L P : Nat → Nat} {n p : Nat} (hn : n ≤ 8) (hR : ∀ i, i < n → R i < 1080) (hX : dd_XR R n sh hd fb sb) (hP : dd_Cl R n P) (h5 : ∀ r, P r ≤ 5) (hL : ∀ r, L r ≤ P r)
    (K : ∀ l, dd_LV l (dd_ps R L n) → J (nI (p + 1)) (nI n) gc lc fa he hb sh hd fb sb dp l) :
    ∀ k i l, i + k = n → dd_LV l (dd_ps R L i) → wX_findLevels_31 post J (nI p) (k + 1) (nI i) (nI n) gc lc fa he hb sh hd fb sb dp l := by
  intro k
  induction k with
  | zero =>
    intro i l hi H
    have e : i = n := by omega
    subst e
    exact br_t (nI_le (Nat.le_refl _) (by omega)) (nm_r (nI_1 p) (K l H))
  | succ k ih =>
    intro i l hi H
    have hin : i < n := by omega
    have s5 := dd_s5 (hR i hin)
    obtain ⟨e1, e2, e3, e4⟩ := hX i hin
    have up := dd_ps_up hP hL i (by omega)
    refine br_f (nI_ge hin (by omega)) ⟨dd_v8 (by omega), ?_⟩
    rw [nI_clamp (n := i) (by omega), e1]
    refine pk_eq (dd_s (R i)) 4 (fun s4 => dd_x54 hn hin hX hP h5 up H ?_ (fun l' H' => ih (i + 1) l' (by omega) H')) (fun s4 => dd_x54 hn hin hX hP h5 up H ?_ (fun l' H' => ih (i + 1) l' (by omega) H'))
    · unfold dd_w; rw [if_pos s4]; rfl
    · unfold dd_w; rw [if_neg s4]; rfl
theorem dd_xl23 {post : SX → Prop} {R P : Nat → Nat} {n : Nat} (hn : n ≤ 8) (hR : ∀ i, i < n → R i < 1080) (hX : dd_XR R n sh hd fb sb) (hP : dd_Cl R n P) (h5 : ∀ r, P r ≤ 5)
    (K : ∀ l, dd_LV l (dd_it R n 6) → post (nI n, gc, lc, fa, he, hb, sh, hd, fb, sb, dp, l)) :
    ∀ k p l, p + k = 6 → dd_LV l (dd_it R n p) → wX_findLevels_23 post (k + 1) (nI p) (nI n) gc lc fa he hb sh hd fb sb dp l := by
  intro k
  induction k with
  | zero =>
    intro p l hp H
    have e : p = 6 := by omega
    subst e
    exact br_t dd_t6 (K l H)
  | succ k ih =>
    intro p l hp H
    exact br_f (dd_g6 (by omega)) ⟨n + 1, dd_x31 hn hR hX hP h5 (dd_it_up hP p) (fun l' H' => ih (p + 1) l' (by omega) H') n 0 l (by omega) H⟩
theorem dd_xl2 {post : SX → Prop} {R P : Nat → Nat} {n : Nat} (hn : n ≤ 8) (hR : ∀ i, i < n → R i < 1080) (hX : dd_XR R n sh hd fb sb) (hP : dd_Cl R n P) (h5 : ∀ r, P r ≤ 5)
    (K : ∀ l, dd_LV l (dd_it R n 6) → post (nI n, gc, lc, fa, he, hb, sh, hd, fb, sb, dp, l)) :
    ∀ k j l, j + k = 6 → (∀ r, r < j → l r = 0) → wX_findLevels_2 post (nI n) gc lc (k + 1) (nI j) fa he hb sh hd fb sb dp l := by
  intro k
  induction k with
  | zero =>
    intro j l hj H
    have e : j = 6 := by omega
    subst e
    exact br_t dd_t6 ⟨7, dd_xl23 hn hR hX hP h5 K 6 0 l rfl (fun r hr => H r hr)⟩
  | succ k ih =>
    intro j l hj H
    refine br_f (dd_g6 (by omega)) ⟨dd_v6 (by omega), ?_⟩
    rw [nI_clamp (n := j) (by omega)]
    refine nm_e (nm_r (nI_1 j) (ih (j + 1) _ (by omega) (fun r hr => ?_)))
    unfold upd
    by_cases e : r = j
    · rw [if_pos e]
    · rw [if_neg e]; exact H r (by omega)
theorem dd_xfl {post : SX → Prop} {R P F : Nat → Nat} {n : Nat} (hn : n ≤ 8) (hR : ∀ i, i < n → R i < 1080) (hX : dd_XR R n sh hd fb sb) (hP : dd_Cl R n P) (h5 : ∀ r, P r ≤ 5) (hF : dd_Lf R n F)
    (K : ∀ l, dd_LV l F → post (nI n, gc, lc, fa, he, hb, sh, hd, fb, sb, dp, l)) : wpX_findLevels post (nI n, gc, lc, fa, he, hb, sh, hd, fb, sb, dp, lv) :=
  ⟨7, dd_xl2 hn hR hX hP h5 (fun l H => K l (dd_LV_e H (fun r hr => dd_conv6 hF 0 hr))) 6 0 lv rfl (fun _ h => absurd h (Nat.not_lt_zero _))⟩
end
/-! ===== Y's raise ===== -/
theorem dd_up_rise {L : Nat → Nat} {c v : Nat} (h : max (L (dd_h c)) v = dd_need L c) : dd_up L (dd_h c) v = dd_rise L c := by
  funext q
  unfold dd_up dd_rise
  rw [h]
theorem dd_rise_k {L : Nat → Nat} {c v : Nat} (h : max (L (dd_h c)) v = dd_need L c) (k : v ≤ L (dd_h c)) (r : Nat) : dd_rise L c r = L r := by
  rw [← dd_up_rise h]
  unfold dd_up
  split
  · rename_i e
    rw [e, Nat.max_eq_left k]
  · rfl
section
variable {yn : Int32} {ys yh ya yb yf yw yo yl yd : Nat → Int32}
theorem dd_y74 {post : Int32 → SY → Prop} {J : Int32 → Int32 → dd_J9} {f x3 : Int32} {R L : Nat → Nat} {n i v : Nat} (hn : n ≤ 8) (hi : i < n) (hY : dd_YR R n ys yh ya yb) (H : dd_LV yl L) (b1 : L (dd_h (R i)) < 2 ^ 31) (b2 : v < 2 ^ 31) (hx : x3 = nI v)
    (hv : max (L (dd_h (R i))) v = dd_need L (R i))
    (K : ∀ g l, dd_LV l (dd_rise L (R i)) → (g = f ∧ (∀ r, dd_rise L (R i) r = L r)) ∨ g = 1 → J g (nI (i + 1)) ys yh ya yb yf yw yo l yd) :
    wY_raise_74 post J f (nI i) x3 yn ys yh ya yb yf yw yo yl yd := by
  subst hx
  have h6 := dd_h6 (R i)
  obtain ⟨e1, e2, e3, e4⟩ := hY i hi
  have c : (nI i).toNatClampNeg = i := nI_clamp (by omega)
  have i9 : vp_in (nI i) 9 := dd_v9 (by omega)
  unfold wY_raise_74
  rw [c, e2, nI_clamp (n := dd_h (R i)) (by omega), H _ h6]
  have u := dd_up_rise hv
  refine ⟨i9, dd_v6 h6, pk_le v (L (dd_h (R i))) (fun h => nm_r (nI_1 i) (K f yl (by rw [← u]; exact dd_LV_k H h) (Or.inl ⟨rfl, dd_rise_k hv h⟩))) (fun h => ⟨i9, dd_v6 h6, nm_e (nm_r (nI_1 i) (K 1 _ (by rw [← u]; exact dd_LV_u H (by omega)) (Or.inr rfl)))⟩)⟩
theorem dd_y63 {post : Int32 → SY → Prop} {J : Int32 → Int32 → dd_J9} {f x3 z0 : Int32} {R L : Nat → Nat} {n i v w : Nat} (hn : n ≤ 8) (hi : i < n) (hY : dd_YR R n ys yh ya yb) (H : dd_LV yl L) (b1 : L (dd_h (R i)) < 2 ^ 31) (b2 : v < 2 ^ 31) (b3 : w < 2 ^ 31) (hx : x3 = nI v) (hz : z0 = nI w)
    (hv : max (L (dd_h (R i))) (max v w) = dd_need L (R i))
    (K : ∀ g l, dd_LV l (dd_rise L (R i)) → (g = f ∧ (∀ r, dd_rise L (R i) r = L r)) ∨ g = 1 → J g (nI (i + 1)) ys yh ya yb yf yw yo l yd) :
    wY_raise_63 post J f (nI i) x3 z0 yn ys yh ya yb yf yw yo yl yd := by
  subst hx hz
  exact pk_le w v (fun h => dd_y74 hn hi hY H b1 b2 rfl (by rw [Nat.max_eq_left h] at hv; exact hv) K) (fun h => dd_y74 hn hi hY H b1 b3 rfl (by rw [Nat.max_eq_right (Nat.le_of_lt h)] at hv; exact hv) K)
theorem dd_y4 {post : Int32 → SY → Prop} {R L P : Nat → Nat} {n : Nat} (hn : n ≤ 8) (hR : ∀ i, i < n → R i < 1080) (hY : dd_YR R n ys yh ya yb) (hP : dd_Cl R n P) (h5 : ∀ r, P r ≤ 5) (hL : ∀ r, L r ≤ P r)
    (K : ∀ f l, dd_LV l (dd_ps R L n) → (f = 0 ∧ (∀ r, dd_ps R L n r = L r)) ∨ f = 1 → post f (nI n, ys, yh, ya, yb, yf, yw, yo, l, yd)) :
    ∀ k i f l, i + k = n → dd_LV l (dd_ps R L i) → (f = 0 ∧ (∀ r, dd_ps R L i r = L r)) ∨ f = 1 → wY_raise_4 post (nI n) (k + 1) f (nI i) ys yh ya yb yf yw yo l yd := by
  intro k
  induction k with
  | zero =>
    intro i f l hi H G
    have e : i = n := by omega
    subst e
    refine br_t (nI_le (Nat.le_refl _) (by omega)) ⟨?_, K f l H G⟩
    rcases G with G | G
    · rw [G.1]; rfl
    · rw [G]; rfl
  | succ k ih =>
    intro i f l hi H G
    have hin : i < n := by omega
    have s5 := dd_s5 (hR i hin)
    have h6 := dd_h6 (R i)
    have a6 := dd_a6 (R i)
    have b6 := dd_b6 (R i)
    obtain ⟨e1, e2, e3, e4⟩ := hY i hin
    have c : (nI i).toNatClampNeg = i := nI_clamp (by omega)
    have i9 : vp_in (nI i) 9 := dd_v9 (by omega)
    have bd : ∀ r, dd_ps R L i r ≤ 5 := fun r => Nat.le_trans (dd_ps_up hP hL i (by omega) r) (h5 r)
    have bh := bd (dd_h (R i))
    have ba := bd (dd_a (R i))
    have bb := bd (dd_b (R i))
    have w1 := dd_w1 (R i)
    have KK : ∀ g l', dd_LV l' (dd_rise (dd_ps R L i) (R i)) → (g = f ∧ (∀ r, dd_rise (dd_ps R L i) (R i) r = dd_ps R L i r)) ∨ g = 1 → wY_raise_4 post (nI n) (k + 1) g (nI (i + 1)) ys yh ya yb yf yw yo l' yd := by
      intro g l' H' G'
      refine ih (i + 1) g l' (by omega) H' ?_
      rcases G' with ⟨g1, g2⟩ | g1
      · rcases G with ⟨f1, f2⟩ | f1
        · exact Or.inl ⟨g1.trans f1, fun r => (g2 r).trans (f2 r)⟩
        · exact Or.inr (g1.trans f1)
      · exact Or.inr g1
    refine br_f (nI_ge hin (by omega)) ⟨i9, ?_, nm_r (e' := nI (dd_ps R L i (dd_a (R i)))) ?_ ⟨i9, ?_⟩⟩
    · rw [c, e3]; exact dd_v6 a6
    · rw [c, e3, nI_clamp (by omega), H _ a6]
    rw [c, e1, e4, nI_clamp (n := dd_b (R i)) (by omega), H _ b6]
    refine pk_lt (dd_s (R i)) 2 (fun z => br_t rfl ?_) (fun z => br_f (by decide) ⟨i9, dd_v6 b6, i9, pk_eq (dd_s (R i)) 4 (fun s4 => ?_) (fun s4 => ?_)⟩)
    · refine dd_y63 hn hin hY H (by omega) (by omega) (w := 0) (by omega) rfl rfl ?_ KK
      have w0 : dd_w (R i) = 0 := by unfold dd_w; rw [if_neg (by omega)]
      unfold dd_need
      rw [dd_e1 z, w0]
      omega
    · refine dd_y63 hn hin hY H (by omega) (by omega) (w := dd_ps R L i (dd_b (R i)) + 1) (by omega) rfl (by rw [← nI_1]) ?_ KK
      have w0 : dd_w (R i) = 1 := by unfold dd_w; rw [if_pos s4]
      unfold dd_need
      rw [dd_e2 (by omega), w0]
    · refine dd_y63 hn hin hY H (by omega) (by omega) (w := dd_ps R L i (dd_b (R i))) (by omega) rfl (by rw [Int32.add_zero]) ?_ KK
      have w0 : dd_w (R i) = 0 := by unfold dd_w; rw [if_neg s4]
      unfold dd_need
      rw [dd_e2 (by omega), w0]
      rfl
theorem dd_yra {post : Int32 → SY → Prop} {R L P : Nat → Nat} {n : Nat} (hn : n ≤ 8) (hR : ∀ i, i < n → R i < 1080) (hY : dd_YR R n ys yh ya yb) (hP : dd_Cl R n P) (h5 : ∀ r, P r ≤ 5) (hL : ∀ r, L r ≤ P r) (H : dd_LV yl L)
    (K : ∀ f l, dd_LV l (dd_ps R L n) → (f = 0 ∧ (∀ r, dd_ps R L n r = L r)) ∨ f = 1 → post f (nI n, ys, yh, ya, yb, yf, yw, yo, l, yd)) : wpY_raise post (nI n, ys, yh, ya, yb, yf, yw, yo, yl, yd) :=
  ⟨n + 1, dd_y4 hn hR hY hP h5 hL K n 0 0 yl (by omega) H (Or.inl ⟨rfl, fun _ => rfl⟩)⟩
theorem dd_y64 {post : SY → Prop} {R P F : Nat → Nat} {n : Nat} (hn : n ≤ 8) (hR : ∀ i, i < n → R i < 1080) (hY : dd_YR R n ys yh ya yb) (hP : dd_Cl R n P) (h5 : ∀ r, P r ≤ 5) (hF : dd_Lf R n F)
    (K : ∀ l, dd_LV l F → ∃ m, wY_settle_87 post m 0 (nI n) ys yh ya yb yf yw yo l yd) :
    ∀ k p f l, p + k = 37 → dd_LV l (dd_it R n p) → (f = 0 ∧ dd_Cl R n (dd_it R n p)) ∨ f = 1 → wY_settle_64 post (k + 1) f (nI p) (nI n) ys yh ya yb yf yw yo l yd := by
  intro k
  induction k with
  | zero =>
    intro p f l hp H G
    have e : p = 37 := by omega
    subst e
    exact br_t (nI_le (a := 37) (Nat.le_refl _) (by decide)) (K l (dd_LV_e H (fun r hr => dd_conv6 hF 31 hr)))
  | succ k ih =>
    intro p f l hp H G
    refine br_f (nI_ge (b := 37) (by omega) (by decide)) ?_
    rcases G with ⟨f0, G⟩ | f1
    · exact br_t f0 (K l (dd_LV_e H (fun r hr => dd_conv_cl hF G r)))
    · refine br_f (by rw [f1]; decide) (dd_yra hn hR hY hP h5 (dd_it_up hP p) H (fun g l' H' G' => nm_r (nI_1 p) (ih (p + 1) g l' (by omega) H' ?_)))
      rcases G' with ⟨g0, G'⟩ | g1
      · exact Or.inl ⟨g0, dd_Cl_e (fun r _ => (G' r).symm) (dd_ps_cl (fun r _ => G' r))⟩
      · exact Or.inr g1
end
