/-! ===== counts of a Bool predicate below n ===== -/
def dd_cnt (f : Nat → Bool) : Nat → Nat
  | 0 => 0
  | k + 1 => dd_cnt f k + (if f k = true then 1 else 0)
theorem dd_cnt_le (f : Nat → Bool) : ∀ n, dd_cnt f n ≤ n
  | 0 => Nat.le_refl _
  | n + 1 => by
    have := dd_cnt_le f n
    simp only [dd_cnt]
    split <;> omega
theorem dd_cnt_mono {f g : Nat → Bool} : ∀ {n : Nat}, (∀ k, k < n → f k = true → g k = true) → dd_cnt f n ≤ dd_cnt g n
  | 0, _ => Nat.le_refl _
  | n + 1, h => by
    have a := dd_cnt_mono (f := f) (g := g) (n := n) (fun k hk => h k (by omega))
    have b := h n (by omega)
    simp only [dd_cnt]
    by_cases h1 : f n = true
    · rw [if_pos h1, if_pos (b h1)]; omega
    · rw [if_neg h1]; split <;> omega
theorem dd_cnt_lt {f g : Nat → Bool} {a : Nat} (hf : f a = false) (hg : g a = true) : ∀ {n : Nat}, (∀ k, k < n → f k = true → g k = true) → a < n → dd_cnt f n < dd_cnt g n
  | 0, _, h => absurd h (Nat.not_lt_zero _)
  | n + 1, h, ha => by
    simp only [dd_cnt]
    rcases Nat.lt_or_ge a n with z | z
    · have x := dd_cnt_lt hf hg (n := n) (fun k hk => h k (by omega)) z
      have b := h n (by omega)
      by_cases h1 : f n = true
      · rw [if_pos h1, if_pos (b h1)]; omega
      · rw [if_neg h1]; split <;> omega
    · have e : a = n := by omega
      subst e
      have x := dd_cnt_mono (f := f) (g := g) (n := a) (fun k hk => h k (by omega))
      rw [if_pos hg, if_neg (by rw [hf]; decide)]; omega
theorem dd_cnt_eq {f g : Nat → Bool} {n : Nat} (h : ∀ k, k < n → f k = g k) : dd_cnt f n = dd_cnt g n :=
  Nat.le_antisymm (dd_cnt_mono fun k hk z => by rw [← h k hk]; exact z) (dd_cnt_mono fun k hk z => by rw [h k hk]; exact z)
theorem dd_cnt_all {f : Nat → Bool} : ∀ {n : Nat}, n ≤ dd_cnt f n → ∀ k, k < n → f k = true
  | 0, _, k, hk => absurd hk (Nat.not_lt_zero _)
  | n + 1, h, k, hk => by
    simp only [dd_cnt] at h
    have a := dd_cnt_le f n
    by_cases h1 : f n = true
    · rw [if_pos h1] at h
      rcases Nat.lt_or_ge k n with z | z
      · exact dd_cnt_all (n := n) (by omega) k z
      · have e : k = n := by omega
        rw [e]; exact h1
    · rw [if_neg h1] at h; omega
theorem dd_cnt_add (f : Nat → Bool) (m : Nat) : ∀ n, dd_cnt f (m + n) = dd_cnt f m + dd_cnt (fun k => f (m + k)) n
  | 0 => rfl
  | n + 1 => by
    have := dd_cnt_add f m n
    rw [← Nat.add_assoc]
    simp only [dd_cnt]
    omega
theorem dd_cnt_F : ∀ n, dd_cnt (fun _ => false) n = 0
  | 0 => rfl
  | n + 1 => by
    have := dd_cnt_F n
    simp only [dd_cnt]
    rw [this]; rfl
theorem dd_cnt_pos {f : Nat → Bool} {a n : Nat} (h : f a = true) (ha : a < n) : 0 < dd_cnt f n := by
  have := dd_cnt_lt (f := fun _ => false) (g := f) (a := a) rfl h (n := n) (fun k _ z => absurd z (by decide)) ha
  omega
/-! ===== rule codes: 216 * shape + 36 * h + 6 * a + b ===== -/
def dd_s (c : Nat) : Nat := c / 216
def dd_h (c : Nat) : Nat := c % 216 / 36
def dd_a (c : Nat) : Nat := c / 6 % 6
def dd_b (c : Nat) : Nat := c % 6
/-- the second body that counts: a where the shape has one body alone -/
def dd_e (c : Nat) : Nat := if dd_s c < 2 then dd_a c else dd_b c
def dd_w (c : Nat) : Nat := if dd_s c = 4 then 1 else 0
theorem dd_h6 (c : Nat) : dd_h c < 6 := by unfold dd_h; omega
theorem dd_a6 (c : Nat) : dd_a c < 6 := by unfold dd_a; omega
theorem dd_b6 (c : Nat) : dd_b c < 6 := by unfold dd_b; omega
theorem dd_e6 (c : Nat) : dd_e c < 6 := by
  unfold dd_e
  split
  · exact dd_a6 c
  · exact dd_b6 c
theorem dd_w1 (c : Nat) : dd_w c ≤ 1 := by unfold dd_w; split <;> omega
/-! ===== levels ===== -/
def dd_Cl (R : Nat → Nat) (n : Nat) (G : Nat → Nat) : Prop := ∀ i, i < n → G (dd_a (R i)) ≤ G (dd_h (R i)) ∧ G (dd_e (R i)) + dd_w (R i) ≤ G (dd_h (R i))
def dd_need (L : Nat → Nat) (c : Nat) : Nat := max (L (dd_h c)) (max (L (dd_a c)) (L (dd_e c) + dd_w c))
def dd_rise (L : Nat → Nat) (c : Nat) : Nat → Nat := fun r => if r = dd_h c then dd_need L c else L r
def dd_ps (R : Nat → Nat) (L : Nat → Nat) : Nat → Nat → Nat
  | 0 => L
  | i + 1 => dd_rise (dd_ps R L i) (R i)
def dd_it (R : Nat → Nat) (n : Nat) : Nat → Nat → Nat
  | 0 => fun _ => 0
  | k + 1 => dd_ps R (dd_it R n k) n
theorem dd_need_ge (L : Nat → Nat) (c : Nat) : L (dd_h c) ≤ dd_need L c ∧ L (dd_a c) ≤ dd_need L c ∧ L (dd_e c) + dd_w c ≤ dd_need L c := by
  unfold dd_need
  refine ⟨Nat.le_max_left _ _, ?_, ?_⟩
  · exact Nat.le_trans (Nat.le_max_left _ _) (Nat.le_max_right _ _)
  · exact Nat.le_trans (Nat.le_max_right _ _) (Nat.le_max_right _ _)
theorem dd_need_le {L : Nat → Nat} {c m : Nat} (h1 : L (dd_h c) ≤ m) (h2 : L (dd_a c) ≤ m) (h3 : L (dd_e c) + dd_w c ≤ m) : dd_need L c ≤ m :=
  Nat.max_le.mpr ⟨h1, Nat.max_le.mpr ⟨h2, h3⟩⟩
theorem dd_rise_le (L : Nat → Nat) (c r : Nat) : L r ≤ dd_rise L c r := by
  unfold dd_rise
  split
  · rename_i h
    rw [h]; exact (dd_need_ge L c).1
  · exact Nat.le_refl _
theorem dd_ps_le (R L : Nat → Nat) (r : Nat) : ∀ i, L r ≤ dd_ps R L i r
  | 0 => Nat.le_refl _
  | i + 1 => Nat.le_trans (dd_ps_le R L r i) (dd_rise_le _ _ _)
theorem dd_ps_up {R G L : Nat → Nat} {n : Nat} (hG : dd_Cl R n G) (h : ∀ r, L r ≤ G r) : ∀ i, i ≤ n → ∀ r, dd_ps R L i r ≤ G r
  | 0, _, r => h r
  | i + 1, hi, r => by
    have ih := dd_ps_up hG h i (by omega)
    have hc := hG i (by omega)
    simp only [dd_ps, dd_rise]
    split
    · rename_i e
      rw [e]
      refine dd_need_le (ih _) (Nat.le_trans (ih _) hc.1) ?_
      have := ih (dd_e (R i))
      omega
    · exact ih r
theorem dd_ps_reach (R L : Nat → Nat) : ∀ n i, i < n → L (dd_a (R i)) ≤ dd_ps R L n (dd_h (R i)) ∧ L (dd_e (R i)) + dd_w (R i) ≤ dd_ps R L n (dd_h (R i))
  | 0, i, hi => absurd hi (Nat.not_lt_zero _)
  | n + 1, i, hi => by
    rcases Nat.lt_or_ge i n with z | z
    · have ih := dd_ps_reach R L n i z
      have m := dd_rise_le (dd_ps R L n) (R n) (dd_h (R i))
      simp only [dd_ps]
      omega
    · have e : i = n := by omega
      subst e
      have g := dd_need_ge (dd_ps R L i) (R i)
      have m1 := dd_ps_le R L (dd_a (R i)) i
      have m2 := dd_ps_le R L (dd_e (R i)) i
      simp only [dd_ps, dd_rise, if_true]
      omega
theorem dd_ps_fix {R L : Nat → Nat} {n : Nat} (h : dd_Cl R n L) (r : Nat) : dd_ps R L n r = L r :=
  Nat.le_antisymm (dd_ps_up h (fun _ => Nat.le_refl _) n (Nat.le_refl _) r) (dd_ps_le R L r n)
theorem dd_ps_cl {R L : Nat → Nat} {n : Nat} (h : ∀ r, r < 6 → dd_ps R L n r = L r) : dd_Cl R n L := by
  intro i hi
  have := dd_ps_reach R L n i hi
  rw [h _ (dd_h6 _)] at this
  exact this
theorem dd_it_up {R G : Nat → Nat} {n : Nat} (hG : dd_Cl R n G) : ∀ k r, dd_it R n k r ≤ G r
  | 0, _ => Nat.zero_le _
  | k + 1, r => dd_ps_up hG (dd_it_up hG k) n (Nat.le_refl _) r
theorem dd_it_le (R : Nat → Nat) (n r : Nat) {k : Nat} : ∀ j, dd_it R n k r ≤ dd_it R n (k + j) r
  | 0 => Nat.le_refl _
  | j + 1 => Nat.le_trans (dd_it_le R n r j) (dd_ps_le R _ r n)
theorem dd_least {P : Nat → Prop} : ∀ k, P k → ∃ m, P m ∧ ∀ j, P j → m ≤ j := by
  intro k
  induction k using Nat.strongRecOn with
  | ind k ih =>
    intro hk
    by_cases h : ∃ j, j < k ∧ P j
    · obtain ⟨j, hj, pj⟩ := h
      exact ih j hj pj
    · exact ⟨k, hk, fun j pj => Nat.le_of_not_lt fun z => h ⟨j, z, pj⟩⟩
/-- F is the least closed function -/
def dd_Lf (R : Nat → Nat) (n : Nat) (F : Nat → Nat) : Prop := dd_Cl R n F ∧ ∀ G, dd_Cl R n G → ∀ r, F r ≤ G r
theorem dd_Lf_ex {R P : Nat → Nat} {n : Nat} (hP : dd_Cl R n P) : ∃ F, dd_Lf R n F := by
  have h : ∀ r, ∃ m, (∃ G, dd_Cl R n G ∧ G r = m) ∧ ∀ G, dd_Cl R n G → m ≤ G r := by
    intro r
    obtain ⟨m, h1, h2⟩ := dd_least (P := fun m => ∃ G, dd_Cl R n G ∧ G r = m) (P r) ⟨P, hP, rfl⟩
    exact ⟨m, h1, fun G hG => h2 _ ⟨G, hG, rfl⟩⟩
  refine ⟨fun r => Classical.choose (h r), ?_, fun G hG r => (Classical.choose_spec (h r)).2 G hG⟩
  intro i hi
  obtain ⟨G, hG, e⟩ := (Classical.choose_spec (h (dd_h (R i)))).1
  have c := hG i hi
  have a := (Classical.choose_spec (h (dd_a (R i)))).2 G hG
  have b := (Classical.choose_spec (h (dd_e (R i)))).2 G hG
  dsimp only
  omega
theorem dd_conv_step {R F L : Nat → Nat} {n : Nat} (hF : dd_Lf R n F) (hL : ∀ r, L r ≤ F r) {q : Nat} (hq : q < 6) (hlt : L q < F q) : ∃ r, r < 6 ∧ L r < F r ∧ dd_ps R L n r = F r := by
  apply Classical.byContradiction
  intro hno
  have hn : ∀ r, r < 6 → L r < F r → dd_ps R L n r < F r := by
    intro r hr h
    have a := dd_ps_up hF.1 hL n (Nat.le_refl _) r
    rcases Nat.lt_or_ge (dd_ps R L n r) (F r) with z | z
    · exact z
    · exact absurd ⟨r, hr, h, Nat.le_antisymm a z⟩ hno
  have hC : dd_Cl R n (fun r => if L r < F r then F r - 1 else F r) := by
    intro i hi
    have c := hF.1 i hi
    have p := dd_ps_reach R L n i hi
    have u := hn (dd_h (R i)) (dd_h6 _)
    have la := hL (dd_a (R i))
    have le := hL (dd_e (R i))
    dsimp only
    refine ⟨?_, ?_⟩
    · by_cases z : L (dd_h (R i)) < F (dd_h (R i))
      · have u := u z
        rw [if_pos z]
        split <;> omega
      · rw [if_neg z]
        split <;> omega
    · by_cases z : L (dd_h (R i)) < F (dd_h (R i))
      · have u := u z
        rw [if_pos z]
        split <;> omega
      · rw [if_neg z]
        split <;> omega
  have m := hF.2 _ hC q
  rw [if_pos hlt] at m
  omega
theorem dd_conv {R F : Nat → Nat} {n : Nat} (hF : dd_Lf R n F) : ∀ k, (∀ r, r < 6 → dd_it R n k r = F r) ∨ dd_cnt (fun r => decide (dd_it R n k r < F r)) 6 + k ≤ 6
  | 0 => Or.inr (dd_cnt_le _ _)
  | k + 1 => by
    have up := dd_it_up hF.1 k
    have up1 := dd_it_up hF.1 (k + 1)
    have mo : ∀ r, dd_it R n k r ≤ dd_it R n (k + 1) r := fun r => dd_it_le R n r 1
    rcases dd_conv hF k with h | h
    · refine Or.inl fun r hr => Nat.le_antisymm (up1 r) ?_
      rw [← h r hr]; exact mo r
    · by_cases hq : ∃ q, q < 6 ∧ dd_it R n k q < F q
      · obtain ⟨q, hq6, hq⟩ := hq
        obtain ⟨r, hr, h1, h2⟩ := dd_conv_step hF up hq6 hq
        have c := dd_cnt_lt (f := fun r => decide (dd_it R n (k + 1) r < F r)) (g := fun r => decide (dd_it R n k r < F r)) (a := r)
          (decide_eq_false (by show ¬ dd_ps R (dd_it R n k) n r < F r; omega)) (decide_eq_true h1) (n := 6)
          (fun s _ z => decide_eq_true (Nat.lt_of_le_of_lt (mo s) (of_decide_eq_true z))) hr
        right; omega
      · refine Or.inl fun r hr => Nat.le_antisymm (up1 r) (Nat.le_trans ?_ (mo r))
        exact Nat.le_of_not_lt fun z => hq ⟨r, hr, z⟩
theorem dd_conv6 {R F : Nat → Nat} {n : Nat} (hF : dd_Lf R n F) (j : Nat) {r : Nat} (hr : r < 6) : dd_it R n (6 + j) r = F r := by
  refine Nat.le_antisymm (dd_it_up hF.1 _ r) (Nat.le_trans ?_ (dd_it_le R n r j))
  rcases dd_conv hF 6 with h | h
  · exact Nat.le_of_eq (h r hr).symm
  · refine Nat.le_of_not_lt fun z => ?_
    have := dd_cnt_pos (f := fun r => decide (dd_it R n 6 r < F r)) (a := r) (n := 6) (decide_eq_true z) hr
    omega
theorem dd_conv_cl {R F : Nat → Nat} {n k : Nat} (hF : dd_Lf R n F) (h : dd_Cl R n (dd_it R n k)) (r : Nat) : dd_it R n k r = F r :=
  Nat.le_antisymm (dd_it_up hF.1 _ r) (hF.2 _ h r)
/-! ===== layered rules have levels ===== -/
theorem dd_pot {R : Nat → Nat} {n : Nat} {N : Nat → Nat → Bool}
    (hb : ∀ i, i < n → N (dd_h (R i)) (dd_a (R i)) = true ∧ N (dd_h (R i)) (dd_e (R i)) = true)
    (ht : ∀ r k s, r < 6 → k < 6 → s < 6 → N r k = true → N k s = true → N r s = true)
    (hm : ∀ i, i < n → dd_s (R i) = 4 → dd_e (R i) ≠ dd_h (R i) ∧ N (dd_e (R i)) (dd_h (R i)) = false) :
    ∃ P, (∀ r, P r ≤ 5) ∧ dd_Cl R n P := by
  refine ⟨fun r => dd_cnt (fun t => decide (t = r) || N r t) 6 - 1, fun r => ?_, ?_⟩
  · have := dd_cnt_le (fun t => decide (t = r) || N r t) 6
    dsimp only
    omega
  · have sub : ∀ h t, h < 6 → t < 6 → N h t = true → ∀ k, k < 6 → (decide (k = t) || N t k) = true → (decide (k = h) || N h k) = true := by
      intro h t hh ht6 e k hk z
      rw [Bool.or_eq_true] at z ⊢
      rcases z with z | z
      · right; rw [of_decide_eq_true z]; exact e
      · right; exact ht h t k hh ht6 hk e z
    intro i hi
    have b := hb i hi
    have m1 := dd_cnt_mono (n := 6) (sub _ _ (dd_h6 (R i)) (dd_a6 (R i)) b.1)
    have m2 := dd_cnt_mono (n := 6) (sub _ _ (dd_h6 (R i)) (dd_e6 (R i)) b.2)
    dsimp only
    refine ⟨by omega, ?_⟩
    unfold dd_w
    split
    · rename_i s4
      have m := hm i hi s4
      have c := dd_cnt_lt (f := fun t => decide (t = dd_e (R i)) || N (dd_e (R i)) t) (g := fun t => decide (t = dd_h (R i)) || N (dd_h (R i)) t) (a := dd_h (R i))
        (by rw [m.2, decide_eq_false (fun z => m.1 z.symm)]; rfl) (by rw [decide_eq_true rfl]; rfl) (n := 6)
        (sub _ _ (dd_h6 (R i)) (dd_e6 (R i)) b.2) (dd_h6 (R i))
      have p := dd_cnt_pos (f := fun t => decide (t = dd_e (R i)) || N (dd_e (R i)) t) (a := dd_e (R i)) (n := 6) (by rw [decide_eq_true rfl]; rfl) (dd_e6 (R i))
      omega
    · omega
