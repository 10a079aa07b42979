/-! ===== some k below n ===== -/
def dd_ex (f : Nat → Bool) : Nat → Bool
  | 0 => false
  | n + 1 => dd_ex f n || f n
theorem dd_ex_iff {f : Nat → Bool} : ∀ {n : Nat}, dd_ex f n = true ↔ ∃ k, k < n ∧ f k = true
  | 0 => ⟨fun h => absurd (show false = true from h) (by decide), fun ⟨k, hk, _⟩ => absurd hk (Nat.not_lt_zero _)⟩
  | n + 1 => by
    have ih := dd_ex_iff (f := f) (n := n)
    simp only [dd_ex, Bool.or_eq_true]
    constructor
    · rintro (h | h)
      · obtain ⟨k, hk, e⟩ := ih.mp h
        exact ⟨k, by omega, e⟩
      · exact ⟨n, by omega, h⟩
    · rintro ⟨k, hk, e⟩
      rcases Nat.lt_or_ge k n with z | z
      · exact Or.inl (ih.mpr ⟨k, z, e⟩)
      · have q : k = n := by omega
        right; rw [← q]; exact e
/-! ===== dependences by stages ===== -/
def dd_n0 (R : Nat → Nat) (n r t : Nat) : Bool := dd_ex (fun i => decide (dd_h (R i) = r) && (decide (dd_a (R i) = t) || decide (dd_e (R i) = t))) n
def dd_nw (R : Nat → Nat) (n : Nat) : Nat → Nat → Nat → Bool
  | 0 => dd_n0 R n
  | m + 1 => fun r t => dd_nw R n m r t || (dd_nw R n m r m && dd_nw R n m m t)
theorem dd_nw_base {R : Nat → Nat} {n r t : Nat} (h : dd_n0 R n r t = true) : ∀ m, dd_nw R n m r t = true
  | 0 => h
  | m + 1 => by
    have := dd_nw_base h m
    simp only [dd_nw]
    rw [this]; rfl
theorem dd_nw_tr {R : Nat → Nat} {n : Nat} : ∀ m k, k < m → ∀ r s, dd_nw R n m r k = true → dd_nw R n m k s = true → dd_nw R n m r s = true
  | 0, k, hk => absurd hk (Nat.not_lt_zero _)
  | m + 1, k, hk => by
    intro r s h1 h2
    simp only [dd_nw, Bool.or_eq_true, Bool.and_eq_true] at h1 h2 ⊢
    rcases Nat.lt_or_ge k m with z | z
    · have ih := dd_nw_tr (R := R) (n := n) m k z
      rcases h1 with h1 | ⟨h1, h1'⟩
      · rcases h2 with h2 | ⟨h2, h2'⟩
        · exact Or.inl (ih r s h1 h2)
        · exact Or.inr ⟨ih r m h1 h2, h2'⟩
      · rcases h2 with h2 | ⟨_, h2'⟩
        · exact Or.inr ⟨h1, ih m s h1' h2⟩
        · exact Or.inr ⟨h1, h2'⟩
    · have e : k = m := by omega
      subst e
      rcases h1 with h1 | ⟨h1, _⟩
      · rcases h2 with h2 | ⟨_, h2⟩
        · exact Or.inr ⟨h1, h2⟩
        · exact Or.inr ⟨h1, h2⟩
      · rcases h2 with h2 | ⟨_, h2⟩
        · exact Or.inr ⟨h1, h2⟩
        · exact Or.inr ⟨h1, h2⟩
/-- rule i breaks no layer -/
def dd_lo (R : Nat → Nat) (n i : Nat) : Prop := dd_s (R i) = 4 → dd_e (R i) ≠ dd_h (R i) ∧ dd_nw R n 6 (dd_e (R i)) (dd_h (R i)) = false
def dd_ly (R : Nat → Nat) (n : Nat) : Prop := ∀ i, i < n → dd_lo R n i
theorem dd_ly_pot {R : Nat → Nat} {n : Nat} (h : dd_ly R n) : ∃ P, (∀ r, P r ≤ 5) ∧ dd_Cl R n P := by
  refine dd_pot (N := dd_nw R n 6) ?_ (fun r k s _ hk _ => dd_nw_tr 6 k hk r s) h
  intro i hi
  refine ⟨dd_nw_base (dd_ex_iff.mpr ⟨i, hi, ?_⟩) 6, dd_nw_base (dd_ex_iff.mpr ⟨i, hi, ?_⟩) 6⟩
  · simp
  · simp
/-! ===== what rules give ===== -/
def dd_gv (T : Nat → Bool) (c x y : Nat) : Bool :=
  if dd_s c = 0 then T (36 * dd_a c + 6 * x + y)
  else if dd_s c = 1 then T (36 * dd_a c + 6 * y + x)
  else if dd_s c = 2 then dd_ex (fun z => T (36 * dd_a c + 6 * x + z) && T (36 * dd_b c + 6 * z + y)) 6
  else if dd_s c = 3 then T (36 * dd_a c + 6 * x + y) && T (36 * dd_b c + 6 * x + y)
  else T (36 * dd_a c + 6 * x + y) && !T (36 * dd_b c + 6 * x + y)
def dd_Sub (T C : Nat → Bool) : Prop := ∀ k, k < 216 → T k = true → C k = true
def dd_Eq (T C : Nat → Bool) : Prop := ∀ k, k < 216 → T k = C k
theorem dd_gv_mono {T C : Nat → Bool} {c x y : Nat} (hc : c < 1080) (hx : x < 6) (hy : y < 6) (h : dd_Sub T C)
    (hm : dd_s c = 4 → C (36 * dd_b c + 6 * x + y) = T (36 * dd_b c + 6 * x + y)) (g : dd_gv T c x y = true) : dd_gv C c x y = true := by
  have ha := dd_a6 c
  have hb := dd_b6 c
  have hs : dd_s c < 5 := by unfold dd_s; omega
  unfold dd_gv at g ⊢
  by_cases s0 : dd_s c = 0
  · rw [if_pos s0] at g ⊢
    exact h _ (by omega) g
  rw [if_neg s0] at g ⊢
  by_cases s1 : dd_s c = 1
  · rw [if_pos s1] at g ⊢
    exact h _ (by omega) g
  rw [if_neg s1] at g ⊢
  by_cases s2 : dd_s c = 2
  · rw [if_pos s2] at g ⊢
    obtain ⟨z, hz, e⟩ := dd_ex_iff.mp g
    rw [Bool.and_eq_true] at e
    exact dd_ex_iff.mpr ⟨z, hz, by rw [Bool.and_eq_true]; exact ⟨h _ (by omega) e.1, h _ (by omega) e.2⟩⟩
  rw [if_neg s2] at g ⊢
  by_cases s3 : dd_s c = 3
  · rw [if_pos s3] at g ⊢
    rw [Bool.and_eq_true] at g ⊢
    exact ⟨h _ (by omega) g.1, h _ (by omega) g.2⟩
  rw [if_neg s3] at g ⊢
  rw [Bool.and_eq_true] at g ⊢
  rw [hm (by omega)]
  exact ⟨h _ (by omega) g.1, g.2⟩
theorem dd_gv_eq {T C : Nat → Bool} {c x y : Nat} (hx : x < 6) (hy : y < 6) (h : dd_Eq T C) : dd_gv T c x y = dd_gv C c x y := by
  have ha := dd_a6 c
  have hb := dd_b6 c
  have e1 := h (36 * dd_a c + 6 * x + y) (by omega)
  have e2 := h (36 * dd_a c + 6 * y + x) (by omega)
  have e3 := h (36 * dd_b c + 6 * x + y) (by omega)
  have e4 : dd_ex (fun z => T (36 * dd_a c + 6 * x + z) && T (36 * dd_b c + 6 * z + y)) 6 = dd_ex (fun z => C (36 * dd_a c + 6 * x + z) && C (36 * dd_b c + 6 * z + y)) 6 := by
    apply Bool.eq_iff_iff.mpr
    rw [dd_ex_iff, dd_ex_iff]
    constructor
    · rintro ⟨z, hz, e⟩
      exact ⟨z, hz, by rw [← h _ (by omega), ← h _ (by omega)]; exact e⟩
    · rintro ⟨z, hz, e⟩
      exact ⟨z, hz, by rw [h _ (by omega), h _ (by omega)]; exact e⟩
  unfold dd_gv
  rw [e1, e2, e3, e4]
/-- T is closed under the rules whose heads are of level l -/
def dd_Cv (R : Nat → Nat) (n : Nat) (L : Nat → Nat) (l : Nat) (T : Nat → Bool) : Prop :=
  ∀ i, i < n → L (dd_h (R i)) = l → ∀ x y, x < 6 → y < 6 → dd_gv T (R i) x y = true → T (36 * dd_h (R i) + 6 * x + y) = true
def dd_Of (L : Nat → Nat) (l : Nat) (T0 T : Nat → Bool) : Prop := ∀ k, k < 216 → L (k / 36) ≠ l → T k = T0 k
def dd_Inv (R : Nat → Nat) (n : Nat) (L : Nat → Nat) (l : Nat) (T0 T : Nat → Bool) : Prop :=
  dd_Sub T0 T ∧ dd_Of L l T0 T ∧ ∀ C, dd_Sub T0 C → dd_Of L l T0 C → dd_Cv R n L l C → dd_Sub T C
def dd_Fin (R : Nat → Nat) (n : Nat) (L : Nat → Nat) (l : Nat) (T0 T : Nat → Bool) : Prop := dd_Inv R n L l T0 T ∧ dd_Cv R n L l T
theorem dd_Inv_0 (R : Nat → Nat) (n : Nat) (L : Nat → Nat) (l : Nat) (T0 : Nat → Bool) : dd_Inv R n L l T0 T0 :=
  ⟨fun _ _ h => h, fun _ _ _ => rfl, fun _ h _ _ => h⟩
/-- a step keeps the invariant: what is new is given by a rule of the level -/
theorem dd_Inv_s {R : Nat → Nat} {n : Nat} {L : Nat → Nat} {l : Nat} {T0 T T' : Nat → Bool} (hR : ∀ i, i < n → R i < 1080) (hL : dd_Cl R n L)
    (I : dd_Inv R n L l T0 T) (hs : dd_Sub T T')
    (hn : ∀ k, k < 216 → T' k = true → T k = true ∨ ∃ i x y, i < n ∧ L (dd_h (R i)) = l ∧ x < 6 ∧ y < 6 ∧ k = 36 * dd_h (R i) + 6 * x + y ∧ dd_gv T (R i) x y = true) :
    dd_Inv R n L l T0 T' := by
  refine ⟨fun k hk h => hs k hk (I.1 k hk h), fun k hk h => ?_, fun C c1 c2 c3 k hk h => ?_⟩
  · rw [← I.2.1 k hk h]
    apply Bool.eq_iff_iff.mpr
    refine ⟨fun z => ?_, hs k hk⟩
    rcases hn k hk z with q | ⟨i, x, y, _, e, hx, hy, ek, _⟩
    · exact q
    · refine absurd ?_ h
      rw [← e]
      have := dd_h6 (R i)
      congr 1
      omega
  · have sc := I.2.2 C c1 c2 c3
    rcases hn k hk h with q | ⟨i, x, y, hi, e, hx, hy, ek, g⟩
    · exact sc k hk q
    · rw [ek]
      refine c3 i hi e x y hx hy (dd_gv_mono (hR i hi) hx hy sc (fun s4 => ?_) g)
      have cl := (hL i hi).2
      have ee : dd_e (R i) = dd_b (R i) := by unfold dd_e; rw [if_neg (by omega)]
      have ew : dd_w (R i) = 1 := by unfold dd_w; rw [if_pos s4]
      have hb := dd_b6 (R i)
      have hne : L ((36 * dd_b (R i) + 6 * x + y) / 36) ≠ l := by
        have q : (36 * dd_b (R i) + 6 * x + y) / 36 = dd_b (R i) := by omega
        rw [q, ← ee]
        omega
      rw [c2 _ (by omega) hne, I.2.1 _ (by omega) hne]
theorem dd_Inv_e {R : Nat → Nat} {n : Nat} {L : Nat → Nat} {l : Nat} {T0 T T' : Nat → Bool} (I : dd_Inv R n L l T0 T) (h : dd_Eq T T') : dd_Inv R n L l T0 T' :=
  ⟨fun k hk z => by rw [← h k hk]; exact I.1 k hk z, fun k hk z => by rw [← h k hk]; exact I.2.1 k hk z, fun C a b c k hk z => I.2.2 C a b c k hk (by rw [h k hk]; exact z)⟩
theorem dd_Cv_e {R : Nat → Nat} {n : Nat} {L : Nat → Nat} {l : Nat} {T T' : Nat → Bool} (h : dd_Eq T T') (c : dd_Cv R n L l T) : dd_Cv R n L l T' := by
  intro i hi e x y hx hy g
  have := dd_h6 (R i)
  rw [← h _ (by omega)]
  exact c i hi e x y hx hy (by rw [dd_gv_eq hx hy h]; exact g)
theorem dd_Cv_full {R : Nat → Nat} {n : Nat} {L : Nat → Nat} {l : Nat} {T : Nat → Bool} (h : 216 ≤ dd_cnt T 216) : dd_Cv R n L l T := by
  intro i hi e x y hx hy g
  have := dd_h6 (R i)
  exact dd_cnt_all h _ (by omega)
theorem dd_Fin_u {R : Nat → Nat} {n : Nat} {L : Nat → Nat} {l : Nat} {T0 T1 T T' : Nat → Bool} (h : dd_Fin R n L l T0 T) (h' : dd_Fin R n L l T1 T') (e : dd_Eq T0 T1) : dd_Eq T T' := by
  intro k hk
  apply Bool.eq_iff_iff.mpr
  constructor
  · exact h.1.2.2 T' (fun k hk z => h'.1.1 k hk (by rw [← e k hk]; exact z)) (fun k hk z => by rw [e k hk]; exact h'.1.2.1 k hk z) h'.2 k hk
  · exact h'.1.2.2 T (fun k hk z => h.1.1 k hk (by rw [e k hk]; exact z)) (fun k hk z => by rw [← e k hk]; exact h.1.2.1 k hk z) h.2 k hk
/-- the levels below m are settled, one after the other -/
def dd_FA (R : Nat → Nat) (n : Nat) (L : Nat → Nat) (T0 : Nat → Bool) : Nat → (Nat → Bool) → Prop
  | 0, T => dd_Eq T0 T
  | l + 1, T => ∃ T1, dd_FA R n L T0 l T1 ∧ dd_Fin R n L l T1 T
theorem dd_FA_u {R : Nat → Nat} {n : Nat} {L : Nat → Nat} {T0 : Nat → Bool} : ∀ (m : Nat) (T T' : Nat → Bool), dd_FA R n L T0 m T → dd_FA R n L T0 m T' → dd_Eq T T'
  | 0, _, _, h, h' => fun k hk => (h k hk).symm.trans (h' k hk)
  | m + 1, _, _, ⟨T1, a, b⟩, ⟨T2, a', b'⟩ => dd_Fin_u b b' (dd_FA_u m T1 T2 a a')
/-- what a pass over the rules of level l does: f tells whether anything is new -/
def dd_PR (R : Nat → Nat) (n : Nat) (L : Nat → Nat) (l : Nat) (T0 T T' : Nat → Bool) (f : Bool) : Prop :=
  dd_Inv R n L l T0 T' ∧ dd_Sub T T' ∧ (f = false → dd_Eq T T' ∧ dd_Cv R n L l T') ∧ (f = true → dd_cnt T 216 < dd_cnt T' 216)
/-- what stands between two passes: p of them are done -/
def dd_PI (R : Nat → Nat) (n : Nat) (L : Nat → Nat) (l : Nat) (T0 : Nat → Bool) (p : Nat) (f : Bool) (T : Nat → Bool) : Prop :=
  dd_Inv R n L l T0 T ∧ (f = false → dd_Cv R n L l T) ∧ (f = true → p ≤ dd_cnt T 216)
theorem dd_PI_0 (R : Nat → Nat) (n : Nat) (L : Nat → Nat) (l : Nat) (T0 : Nat → Bool) : dd_PI R n L l T0 0 true T0 :=
  ⟨dd_Inv_0 R n L l T0, fun h => absurd h (by decide), fun _ => Nat.zero_le _⟩
theorem dd_PI_s {R : Nat → Nat} {n : Nat} {L : Nat → Nat} {l : Nat} {T0 T T' : Nat → Bool} {p : Nat} {f : Bool} (h : dd_PI R n L l T0 p true T) (q : dd_PR R n L l T0 T T' f) : dd_PI R n L l T0 (p + 1) f T' :=
  ⟨q.1, fun z => (q.2.2.1 z).2, fun z => by have a := q.2.2.2 z; have b := h.2.2 rfl; omega⟩
theorem dd_PI_f {R : Nat → Nat} {n : Nat} {L : Nat → Nat} {l : Nat} {T0 T : Nat → Bool} {p : Nat} {f : Bool} (h : dd_PI R n L l T0 p f T) (e : f = false ∨ 216 ≤ p) : dd_Fin R n L l T0 T := by
  refine ⟨h.1, ?_⟩
  cases f with
  | false => exact h.2.1 rfl
  | true =>
    rcases e with e | e
    · exact absurd e (by decide)
    · exact dd_Cv_full (Nat.le_trans e (h.2.2 rfl))
