section
/-! ===== Int32 by its bits: bt x i ===== -/
def bt (x : Int32) (i : Nat) : Bool := x.toBitVec.getLsbD i
theorem b_ext {x y : Int32} (h : ∀ i, i < 32 → bt x i = bt y i) : x = y := Int32.toBitVec_inj.mp (BitVec.eq_of_getLsbD_eq (fun i hi => h i hi))
theorem b_or (x y : Int32) (i : Nat) : bt (x ||| y) i = (bt x i || bt y i) := by unfold bt; rw [Int32.toBitVec_or, BitVec.getLsbD_or]
theorem b_and (x y : Int32) (i : Nat) : bt (x &&& y) i = (bt x i && bt y i) := by unfold bt; rw [Int32.toBitVec_and, BitVec.getLsbD_and]
theorem b_xor (x y : Int32) (i : Nat) : bt (x ^^^ y) i = (bt x i ^^ bt y i) := by unfold bt; rw [Int32.toBitVec_xor, BitVec.getLsbD_xor]
theorem b_big {x : Int32} {i : Nat} (h : 32 ≤ i) : bt x i = false := BitVec.getLsbD_of_ge _ _ h
theorem b_255 (i : Nat) : bt 255 i = decide (i < 8) := by
  rcases Nat.lt_or_ge i 32 with h | h
  · exact (by decide +kernel : ∀ i, i < 32 → bt 255 i = decide (i < 8)) i h
  · rw [b_big h, decide_eq_false (by omega)]
theorem b_65535 (i : Nat) : bt 65535 i = decide (i < 16) := by
  rcases Nat.lt_or_ge i 32 with h | h
  · exact (by decide +kernel : ∀ i, i < 32 → bt 65535 i = decide (i < 16)) i h
  · rw [b_big h, decide_eq_false (by omega)]
theorem b_m1 : ∀ i, i < 32 → bt (-1) i = true := by decide +kernel
theorem b_0 (i : Nat) : bt 0 i = false := BitVec.getLsbD_zero
theorem s_l : ∀ n, n < 32 → ((nI n &&& 31).toBitVec.smod 32).toNat = n := by decide +kernel
theorem s_u : ∀ n, n < 32 → (((nI n).toUInt32 &&& Int32.toUInt32 31).toBitVec % 32).toNat = n := by decide +kernel
theorem b_shl (n : Nat) (hn : n < 32) (x : Int32) {i : Nat} (hi : i < 32) : bt (x <<< (nI n &&& 31)) i = (decide (n ≤ i) && bt x (i - n)) := by
  unfold bt
  rw [Int32.toBitVec_shiftLeft]
  show (x.toBitVec <<< ((nI n &&& 31).toBitVec.smod 32).toNat).getLsbD i = _
  rw [s_l n hn, BitVec.getLsbD_shiftLeft]
  rcases Nat.lt_or_ge i n with h | h
  · simp [h, Nat.not_le.mpr h]
  · simp [hi, h, Nat.not_lt.mpr h]
theorem b_ushr (n : Nat) (hn : n < 32) (x : Int32) (i : Nat) : bt ((x.toUInt32 >>> ((nI n).toUInt32 &&& Int32.toUInt32 31)).toInt32) i = bt x (n + i) := by
  show (x.toUInt32 >>> ((nI n).toUInt32 &&& Int32.toUInt32 31)).toBitVec.getLsbD i = x.toUInt32.toBitVec.getLsbD (n + i)
  rw [UInt32.toBitVec_shiftRight]
  show (x.toUInt32.toBitVec >>> (((nI n).toUInt32 &&& Int32.toUInt32 31).toBitVec % 32).toNat).getLsbD i = _
  rw [s_u n hn, BitVec.getLsbD_ushiftRight]
theorem b_sshr (n : Nat) (hn : n < 32) (x : Int32) {i : Nat} (hi : i < 32) : bt (x >>> (nI n &&& 31)) i = if n + i < 32 then bt x (n + i) else bt x 31 := by
  unfold bt
  rw [Int32.toBitVec_shiftRight]
  show (x.toBitVec.sshiftRight ((nI n &&& 31).toBitVec.smod 32).toNat).getLsbD i = _
  rw [s_l n hn, BitVec.getLsbD_sshiftRight, BitVec.msb_eq_getLsbD_last]
  simp [hi]
theorem pk_us {f : Nat → Int32} {k : Nat} {x : Int32} : upd f k x k = x := if_pos rfl
theorem pk_un {f : Nat → Int32} {k j : Nat} {x : Int32} (h : j ≠ k) : upd f k x j = f j := if_neg h
theorem pk_sub {a b : Nat} (h : b ≤ a) : nI a - nI b = nI (a - b) := by
  obtain ⟨c, rfl⟩ : ∃ c, a = c + b := ⟨a - b, by omega⟩
  rw [← nI_add, Int32.add_sub_cancel, Nat.add_sub_cancel]
theorem pk_m1 (n : Nat) : nI (n + 1) + (-1) = nI n := by
  rw [← nI_1, Int32.add_assoc, show (1 : Int32) + (-1) = 0 from rfl, Int32.add_zero]
theorem pk_mul (a b : Nat) : nI a * nI b = nI (a * b) := (Int32.ofNat_mul a b).symm
theorem pk_div {a d : Nat} (ha : a < 2 ^ 31) (h0 : 0 < d) (hd : d < 2 ^ 31) : nI a / nI d = nI (a / d) := by
  apply Int32.toInt_inj.mp
  rw [lg_idiv_nonneg (by rw [nI_toInt ha]; omega) (by rw [nI_toInt hd]; omega), nI_toInt ha, nI_toInt hd, nI_toInt (Nat.lt_of_le_of_lt (Nat.div_le_self a d) ha)]
  first | rfl | exact (Int.natCast_ediv _ _).symm
theorem pk_rem {a d : Nat} (ha : a < 2 ^ 31) (h0 : 0 < d) (hd : d < 2 ^ 31) : nI a - nI a / nI d * nI d = nI (a % d) := by
  rw [pk_div ha h0 hd, pk_mul, pk_sub (Nat.div_mul_le_self a d)]
  exact congrArg nI (by have := Nat.div_add_mod' a d; omega)
theorem pk_ix (x : Int32) {n : Nat} (hn : n < 2 ^ 31) : x < 0 ∨ nI n ≤ x ∨ ∃ j : Nat, j < n ∧ x = nI j := by
  by_cases h : x < 0
  · exact Or.inl h
  · obtain ⟨j, hj, rfl⟩ := nI_of h
    by_cases h2 : j < n
    · exact Or.inr (Or.inr ⟨j, h2, rfl⟩)
    · exact Or.inr (Or.inl (nI_le (by omega) hj))
theorem pk_le {x y : Int32} {A B : Prop} (a b : Nat) (f : a ≤ b → A) (g : b < a → B) (hx : x = nI a := by rfl) (hy : y = nI b := by rfl) (ha : a < 2 ^ 31 := by omega) (hb : b < 2 ^ 31 := by omega) : (x ≤ y → A) ∧ (¬ x ≤ y → B) := by
  subst hx hy
  rw [nI_leI ha hb]
  exact ⟨f, fun z => g (by omega)⟩
theorem pk_lt {x y : Int32} {A B : Prop} (a b : Nat) (f : a < b → A) (g : b ≤ a → B) (hx : x = nI a := by rfl) (hy : y = nI b := by rfl) (ha : a < 2 ^ 31 := by omega) (hb : b < 2 ^ 31 := by omega) : (x < y → A) ∧ (¬ x < y → B) := by
  subst hx hy
  rw [nI_ltI ha hb]
  exact ⟨f, fun z => g (by omega)⟩
theorem pk_eq {x y : Int32} {A B : Prop} (a b : Nat) (f : a = b → A) (g : a ≠ b → B) (hx : x = nI a := by rfl) (hy : y = nI b := by rfl) (ha : a < 2 ^ 31 := by omega) (hb : b < 2 ^ 31 := by omega) : (x = y → A) ∧ (¬ x = y → B) := by
  subst hx hy
  rw [nI_eq ha hb]
  exact ⟨f, g⟩
theorem pk_in {x : Int32} (n N : Nat) (h : n < N) (hx : x = nI n := by rfl) (hN : N < 2 ^ 31 := by omega) : vp_in x N := by
  subst hx
  exact vp_in_nI h hN
theorem pk_cl {x : Int32} (n : Nat) (hx : x = nI n := by rfl) (h : n < 2 ^ 31 := by omega) : x.toNatClampNeg = n := by
  subst hx
  exact nI_clamp h
theorem pk_loop {σ : Type} (W : Nat → Nat → σ → Prop) (I : Nat → σ → Prop) (e i0 : Nat) (s : σ) (hi : i0 ≤ e) (h0 : I i0 s) (hx : ∀ n s, I e s → W (n + 1) e s)
    (hs : ∀ n i s, i < e → I i s → (∀ s', I (i + 1) s' → W n (i + 1) s') → W (n + 1) i s) : ∃ n, W n i0 s :=
  ⟨e + 1, loop_i W I e hx hs (e + 1) i0 s hi (by omega) h0⟩
end
section
/-! ===== counts of a Bool predicate below n ===== -/
def dd_cnt (f : Nat → Bool) : Nat → Nat
  | 0 => 0
  | k + 1 => dd_cnt f k + (if f k = true then 1 else 0)
theorem dd_cnt_le (f : Nat → Bool) : ∀ n, dd_cnt f n ≤ n
  | 0 => Nat.le_refl _
  | n + 1 => by
    have := dd_cnt_le f n
    simp only [dd_cnt]
    split <;> omega
theorem dd_cnt_mono {f g : Nat → Bool} : ∀ {n : Nat}, (∀ k, k < n → f k = true → g k = true) → dd_cnt f n ≤ dd_cnt g n
  | 0, _ => Nat.le_refl _
  | n + 1, h => by
    have a := dd_cnt_mono (f := f) (g := g) (n := n) (fun k hk => h k (by omega))
    have b := h n (by omega)
    simp only [dd_cnt]
    by_cases h1 : f n = true
    · rw [if_pos h1, if_pos (b h1)]; omega
    · rw [if_neg h1]; split <;> omega
theorem dd_cnt_lt {f g : Nat → Bool} {a : Nat} (hf : f a = false) (hg : g a = true) : ∀ {n : Nat}, (∀ k, k < n → f k = true → g k = true) → a < n → dd_cnt f n < dd_cnt g n
  | 0, _, h => absurd h (Nat.not_lt_zero _)
  | n + 1, h, ha => by
    simp only [dd_cnt]
    rcases Nat.lt_or_ge a n with z | z
    · have x := dd_cnt_lt hf hg (n := n) (fun k hk => h k (by omega)) z
      have b := h n (by omega)
      by_cases h1 : f n = true
      · rw [if_pos h1, if_pos (b h1)]; omega
      · rw [if_neg h1]; split <;> omega
    · have e : a = n := by omega
      subst e
      have x := dd_cnt_mono (f := f) (g := g) (n := a) (fun k hk => h k (by omega))
      rw [if_pos hg, if_neg (by rw [hf]; decide)]; omega
theorem dd_cnt_eq {f g : Nat → Bool} {n : Nat} (h : ∀ k, k < n → f k = g k) : dd_cnt f n = dd_cnt g n :=
  Nat.le_antisymm (dd_cnt_mono fun k hk z => by rw [← h k hk]; exact z) (dd_cnt_mono fun k hk z => by rw [h k hk]; exact z)
theorem dd_cnt_all {f : Nat → Bool} : ∀ {n : Nat}, n ≤ dd_cnt f n → ∀ k, k < n → f k = true
  | 0, _, k, hk => absurd hk (Nat.not_lt_zero _)
  | n + 1, h, k, hk => by
    simp only [dd_cnt] at h
    have a := dd_cnt_le f n
    by_cases h1 : f n = true
    · rw [if_pos h1] at h
      rcases Nat.lt_or_ge k n with z | z
      · exact dd_cnt_all (n := n) (by omega) k z
      · have e : k = n := by omega
        rw [e]; exact h1
    · rw [if_neg h1] at h; omega
theorem dd_cnt_add (f : Nat → Bool) (m : Nat) : ∀ n, dd_cnt f (m + n) = dd_cnt f m + dd_cnt (fun k => f (m + k)) n
  | 0 => rfl
  | n + 1 => by
    have := dd_cnt_add f m n
    rw [← Nat.add_assoc]
    simp only [dd_cnt]
    omega
theorem dd_cnt_F : ∀ n, dd_cnt (fun _ => false) n = 0
  | 0 => rfl
  | n + 1 => by
    have := dd_cnt_F n
    simp only [dd_cnt]
    rw [this]; rfl
theorem dd_cnt_pos {f : Nat → Bool} {a n : Nat} (h : f a = true) (ha : a < n) : 0 < dd_cnt f n := by
  have := dd_cnt_lt (f := fun _ => false) (g := f) (a := a) rfl h (n := n) (fun k _ z => absurd z (by decide)) ha
  omega
/-! ===== rule codes: 216 * shape + 36 * h + 6 * a + b ===== -/
def dd_s (c : Nat) : Nat := c / 216
def dd_h (c : Nat) : Nat := c % 216 / 36
def dd_a (c : Nat) : Nat := c / 6 % 6
def dd_b (c : Nat) : Nat := c % 6
/-- the second body that counts: a where the shape has one body alone -/
def dd_e (c : Nat) : Nat := if dd_s c < 2 then dd_a c else dd_b c
def dd_w (c : Nat) : Nat := if dd_s c = 4 then 1 else 0
theorem dd_h6 (c : Nat) : dd_h c < 6 := by unfold dd_h; omega
theorem dd_a6 (c : Nat) : dd_a c < 6 := by unfold dd_a; omega
theorem dd_b6 (c : Nat) : dd_b c < 6 := by unfold dd_b; omega
theorem dd_e6 (c : Nat) : dd_e c < 6 := by
  unfold dd_e
  split
  · exact dd_a6 c
  · exact dd_b6 c
theorem dd_w1 (c : Nat) : dd_w c ≤ 1 := by unfold dd_w; split <;> omega
/-! ===== levels ===== -/
def dd_Cl (R : Nat → Nat) (n : Nat) (G : Nat → Nat) : Prop := ∀ i, i < n → G (dd_a (R i)) ≤ G (dd_h (R i)) ∧ G (dd_e (R i)) + dd_w (R i) ≤ G (dd_h (R i))
def dd_need (L : Nat → Nat) (c : Nat) : Nat := max (L (dd_h c)) (max (L (dd_a c)) (L (dd_e c) + dd_w c))
def dd_rise (L : Nat → Nat) (c : Nat) : Nat → Nat := fun r => if r = dd_h c then dd_need L c else L r
def dd_ps (R : Nat → Nat) (L : Nat → Nat) : Nat → Nat → Nat
  | 0 => L
  | i + 1 => dd_rise (dd_ps R L i) (R i)
def dd_it (R : Nat → Nat) (n : Nat) : Nat → Nat → Nat
  | 0 => fun _ => 0
  | k + 1 => dd_ps R (dd_it R n k) n
theorem dd_need_ge (L : Nat → Nat) (c : Nat) : L (dd_h c) ≤ dd_need L c ∧ L (dd_a c) ≤ dd_need L c ∧ L (dd_e c) + dd_w c ≤ dd_need L c := by
  unfold dd_need
  refine ⟨Nat.le_max_left _ _, ?_, ?_⟩
  · exact Nat.le_trans (Nat.le_max_left _ _) (Nat.le_max_right _ _)
  · exact Nat.le_trans (Nat.le_max_right _ _) (Nat.le_max_right _ _)
theorem dd_need_le {L : Nat → Nat} {c m : Nat} (h1 : L (dd_h c) ≤ m) (h2 : L (dd_a c) ≤ m) (h3 : L (dd_e c) + dd_w c ≤ m) : dd_need L c ≤ m :=
  Nat.max_le.mpr ⟨h1, Nat.max_le.mpr ⟨h2, h3⟩⟩
theorem dd_rise_le (L : Nat → Nat) (c r : Nat) : L r ≤ dd_rise L c r := by
  unfold dd_rise
  split
  · rename_i h
    rw [h]; exact (dd_need_ge L c).1
  · exact Nat.le_refl _
theorem dd_ps_le (R L : Nat → Nat) (r : Nat) : ∀ i, L r ≤ dd_ps R L i r
  | 0 => Nat.le_refl _
  | i + 1 => Nat.le_trans (dd_ps_le R L r i) (dd_rise_le _ _ _)
theorem dd_ps_up {R G L : Nat → Nat} {n : Nat} (hG : dd_Cl R n G) (h : ∀ r, L r ≤ G r) : ∀ i, i ≤ n → ∀ r, dd_ps R L i r ≤ G r
  | 0, _, r => h r
  | i + 1, hi, r => by
    have ih := dd_ps_up hG h i (by omega)
    have hc := hG i (by omega)
    simp only [dd_ps, dd_rise]
    split
    · rename_i e
      rw [e]
      refine dd_need_le (ih _) (Nat.le_trans (ih _) hc.1) ?_
      have := ih (dd_e (R i))
      omega
    · exact ih r
theorem dd_ps_reach (R L : Nat → Nat) : ∀ n i, i < n → L (dd_a (R i)) ≤ dd_ps R L n (dd_h (R i)) ∧ L (dd_e (R i)) + dd_w (R i) ≤ dd_ps R L n (dd_h (R i))
  | 0, i, hi => absurd hi (Nat.not_lt_zero _)
  | n + 1, i, hi => by
    rcases Nat.lt_or_ge i n with z | z
    · have ih := dd_ps_reach R L n i z
      have m := dd_rise_le (dd_ps R L n) (R n) (dd_h (R i))
      simp only [dd_ps]
      omega
    · have e : i = n := by omega
      subst e
      have g := dd_need_ge (dd_ps R L i) (R i)
      have m1 := dd_ps_le R L (dd_a (R i)) i
      have m2 := dd_ps_le R L (dd_e (R i)) i
      simp only [dd_ps, dd_rise, if_true]
      omega
theorem dd_ps_fix {R L : Nat → Nat} {n : Nat} (h : dd_Cl R n L) (r : Nat) : dd_ps R L n r = L r :=
  Nat.le_antisymm (dd_ps_up h (fun _ => Nat.le_refl _) n (Nat.le_refl _) r) (dd_ps_le R L r n)
theorem dd_ps_cl {R L : Nat → Nat} {n : Nat} (h : ∀ r, r < 6 → dd_ps R L n r = L r) : dd_Cl R n L := by
  intro i hi
  have := dd_ps_reach R L n i hi
  rw [h _ (dd_h6 _)] at this
  exact this
theorem dd_it_up {R G : Nat → Nat} {n : Nat} (hG : dd_Cl R n G) : ∀ k r, dd_it R n k r ≤ G r
  | 0, _ => Nat.zero_le _
  | k + 1, r => dd_ps_up hG (dd_it_up hG k) n (Nat.le_refl _) r
theorem dd_it_le (R : Nat → Nat) (n r : Nat) {k : Nat} : ∀ j, dd_it R n k r ≤ dd_it R n (k + j) r
  | 0 => Nat.le_refl _
  | j + 1 => Nat.le_trans (dd_it_le R n r j) (dd_ps_le R _ r n)
theorem dd_least {P : Nat → Prop} : ∀ k, P k → ∃ m, P m ∧ ∀ j, P j → m ≤ j := by
  intro k
  induction k using Nat.strongRecOn with
  | ind k ih =>
    intro hk
    by_cases h : ∃ j, j < k ∧ P j
    · obtain ⟨j, hj, pj⟩ := h
      exact ih j hj pj
    · exact ⟨k, hk, fun j pj => Nat.le_of_not_lt fun z => h ⟨j, z, pj⟩⟩
/-- F is the least closed function -/
def dd_Lf (R : Nat → Nat) (n : Nat) (F : Nat → Nat) : Prop := dd_Cl R n F ∧ ∀ G, dd_Cl R n G → ∀ r, F r ≤ G r
theorem dd_Lf_ex {R P : Nat → Nat} {n : Nat} (hP : dd_Cl R n P) : ∃ F, dd_Lf R n F := by
  have h : ∀ r, ∃ m, (∃ G, dd_Cl R n G ∧ G r = m) ∧ ∀ G, dd_Cl R n G → m ≤ G r := by
    intro r
    obtain ⟨m, h1, h2⟩ := dd_least (P := fun m => ∃ G, dd_Cl R n G ∧ G r = m) (P r) ⟨P, hP, rfl⟩
    exact ⟨m, h1, fun G hG => h2 _ ⟨G, hG, rfl⟩⟩
  refine ⟨fun r => Classical.choose (h r), ?_, fun G hG r => (Classical.choose_spec (h r)).2 G hG⟩
  intro i hi
  obtain ⟨G, hG, e⟩ := (Classical.choose_spec (h (dd_h (R i)))).1
  have c := hG i hi
  have a := (Classical.choose_spec (h (dd_a (R i)))).2 G hG
  have b := (Classical.choose_spec (h (dd_e (R i)))).2 G hG
  dsimp only
  omega
theorem dd_conv_step {R F L : Nat → Nat} {n : Nat} (hF : dd_Lf R n F) (hL : ∀ r, L r ≤ F r) {q : Nat} (hq : q < 6) (hlt : L q < F q) : ∃ r, r < 6 ∧ L r < F r ∧ dd_ps R L n r = F r := by
  apply Classical.byContradiction
  intro hno
  have hn : ∀ r, r < 6 → L r < F r → dd_ps R L n r < F r := by
    intro r hr h
    have a := dd_ps_up hF.1 hL n (Nat.le_refl _) r
    rcases Nat.lt_or_ge (dd_ps R L n r) (F r) with z | z
    · exact z
    · exact absurd ⟨r, hr, h, Nat.le_antisymm a z⟩ hno
  have hC : dd_Cl R n (fun r => if L r < F r then F r - 1 else F r) := by
    intro i hi
    have c := hF.1 i hi
    have p := dd_ps_reach R L n i hi
    have u := hn (dd_h (R i)) (dd_h6 _)
    have la := hL (dd_a (R i))
    have le := hL (dd_e (R i))
    dsimp only
    refine ⟨?_, ?_⟩
    · by_cases z : L (dd_h (R i)) < F (dd_h (R i))
      · have u := u z
        rw [if_pos z]
        split <;> omega
      · rw [if_neg z]
        split <;> omega
    · by_cases z : L (dd_h (R i)) < F (dd_h (R i))
      · have u := u z
        rw [if_pos z]
        split <;> omega
      · rw [if_neg z]
        split <;> omega
  have m := hF.2 _ hC q
  rw [if_pos hlt] at m
  omega
theorem dd_conv {R F : Nat → Nat} {n : Nat} (hF : dd_Lf R n F) : ∀ k, (∀ r, r < 6 → dd_it R n k r = F r) ∨ dd_cnt (fun r => decide (dd_it R n k r < F r)) 6 + k ≤ 6
  | 0 => Or.inr (dd_cnt_le _ _)
  | k + 1 => by
    have up := dd_it_up hF.1 k
    have up1 := dd_it_up hF.1 (k + 1)
    have mo : ∀ r, dd_it R n k r ≤ dd_it R n (k + 1) r := fun r => dd_it_le R n r 1
    rcases dd_conv hF k with h | h
    · refine Or.inl fun r hr => Nat.le_antisymm (up1 r) ?_
      rw [← h r hr]; exact mo r
    · by_cases hq : ∃ q, q < 6 ∧ dd_it R n k q < F q
      · obtain ⟨q, hq6, hq⟩ := hq
        obtain ⟨r, hr, h1, h2⟩ := dd_conv_step hF up hq6 hq
        have c := dd_cnt_lt (f := fun r => decide (dd_it R n (k + 1) r < F r)) (g := fun r => decide (dd_it R n k r < F r)) (a := r)
          (decide_eq_false (by show ¬ dd_ps R (dd_it R n k) n r < F r; omega)) (decide_eq_true h1) (n := 6)
          (fun s _ z => decide_eq_true (Nat.lt_of_le_of_lt (mo s) (of_decide_eq_true z))) hr
        right; omega
      · refine Or.inl fun r hr => Nat.le_antisymm (up1 r) (Nat.le_trans ?_ (mo r))
        exact Nat.le_of_not_lt fun z => hq ⟨r, hr, z⟩
theorem dd_conv6 {R F : Nat → Nat} {n : Nat} (hF : dd_Lf R n F) (j : Nat) {r : Nat} (hr : r < 6) : dd_it R n (6 + j) r = F r := by
  refine Nat.le_antisymm (dd_it_up hF.1 _ r) (Nat.le_trans ?_ (dd_it_le R n r j))
  rcases dd_conv hF 6 with h | h
  · exact Nat.le_of_eq (h r hr).symm
  · refine Nat.le_of_not_lt fun z => ?_
    have := dd_cnt_pos (f := fun r => decide (dd_it R n 6 r < F r)) (a := r) (n := 6) (decide_eq_true z) hr
    omega
theorem dd_conv_cl {R F : Nat → Nat} {n k : Nat} (hF : dd_Lf R n F) (h : dd_Cl R n (dd_it R n k)) (r : Nat) : dd_it R n k r = F r :=
  Nat.le_antisymm (dd_it_up hF.1 _ r) (hF.2 _ h r)
/-! ===== layered rules have levels ===== -/
theorem dd_pot {R : Nat → Nat} {n : Nat} {N : Nat → Nat → Bool}
    (hb : ∀ i, i < n → N (dd_h (R i)) (dd_a (R i)) = true ∧ N (dd_h (R i)) (dd_e (R i)) = true)
    (ht : ∀ r k s, r < 6 → k < 6 → s < 6 → N r k = true → N k s = true → N r s = true)
    (hm : ∀ i, i < n → dd_s (R i) = 4 → dd_e (R i) ≠ dd_h (R i) ∧ N (dd_e (R i)) (dd_h (R i)) = false) :
    ∃ P, (∀ r, P r ≤ 5) ∧ dd_Cl R n P := by
  refine ⟨fun r => dd_cnt (fun t => decide (t = r) || N r t) 6 - 1, fun r => ?_, ?_⟩
  · have := dd_cnt_le (fun t => decide (t = r) || N r t) 6
    dsimp only
    omega
  · have sub : ∀ h t, h < 6 → t < 6 → N h t = true → ∀ k, k < 6 → (decide (k = t) || N t k) = true → (decide (k = h) || N h k) = true := by
      intro h t hh ht6 e k hk z
      rw [Bool.or_eq_true] at z ⊢
      rcases z with z | z
      · right; rw [of_decide_eq_true z]; exact e
      · right; exact ht h t k hh ht6 hk e z
    intro i hi
    have b := hb i hi
    have m1 := dd_cnt_mono (n := 6) (sub _ _ (dd_h6 (R i)) (dd_a6 (R i)) b.1)
    have m2 := dd_cnt_mono (n := 6) (sub _ _ (dd_h6 (R i)) (dd_e6 (R i)) b.2)
    dsimp only
    refine ⟨by omega, ?_⟩
    unfold dd_w
    split
    · rename_i s4
      have m := hm i hi s4
      have c := dd_cnt_lt (f := fun t => decide (t = dd_e (R i)) || N (dd_e (R i)) t) (g := fun t => decide (t = dd_h (R i)) || N (dd_h (R i)) t) (a := dd_h (R i))
        (by rw [m.2, decide_eq_false (fun z => m.1 z.symm)]; rfl) (by rw [decide_eq_true rfl]; rfl) (n := 6)
        (sub _ _ (dd_h6 (R i)) (dd_e6 (R i)) b.2) (dd_h6 (R i))
      have p := dd_cnt_pos (f := fun t => decide (t = dd_e (R i)) || N (dd_e (R i)) t) (a := dd_e (R i)) (n := 6) (by rw [decide_eq_true rfl]; rfl) (dd_e6 (R i))
      omega
    · omega
end
section
/-! ===== some k below n ===== -/
def dd_ex (f : Nat → Bool) : Nat → Bool
  | 0 => false
  | n + 1 => dd_ex f n || f n
theorem dd_ex_iff {f : Nat → Bool} : ∀ {n : Nat}, dd_ex f n = true ↔ ∃ k, k < n ∧ f k = true
  | 0 => ⟨fun h => absurd (show false = true from h) (by decide), fun ⟨k, hk, _⟩ => absurd hk (Nat.not_lt_zero _)⟩
  | n + 1 => by
    have ih := dd_ex_iff (f := f) (n := n)
    simp only [dd_ex, Bool.or_eq_true]
    constructor
    · rintro (h | h)
      · obtain ⟨k, hk, e⟩ := ih.mp h
        exact ⟨k, by omega, e⟩
      · exact ⟨n, by omega, h⟩
    · rintro ⟨k, hk, e⟩
      rcases Nat.lt_or_ge k n with z | z
      · exact Or.inl (ih.mpr ⟨k, z, e⟩)
      · have q : k = n := by omega
        right; rw [← q]; exact e
/-! ===== dependences by stages ===== -/
def dd_n0 (R : Nat → Nat) (n r t : Nat) : Bool := dd_ex (fun i => decide (dd_h (R i) = r) && (decide (dd_a (R i) = t) || decide (dd_e (R i) = t))) n
def dd_nw (R : Nat → Nat) (n : Nat) : Nat → Nat → Nat → Bool
  | 0 => dd_n0 R n
  | m + 1 => fun r t => dd_nw R n m r t || (dd_nw R n m r m && dd_nw R n m m t)
theorem dd_nw_base {R : Nat → Nat} {n r t : Nat} (h : dd_n0 R n r t = true) : ∀ m, dd_nw R n m r t = true
  | 0 => h
  | m + 1 => by
    have := dd_nw_base h m
    simp only [dd_nw]
    rw [this]; rfl
theorem dd_nw_tr {R : Nat → Nat} {n : Nat} : ∀ m k, k < m → ∀ r s, dd_nw R n m r k = true → dd_nw R n m k s = true → dd_nw R n m r s = true
  | 0, k, hk => absurd hk (Nat.not_lt_zero _)
  | m + 1, k, hk => by
    intro r s h1 h2
    simp only [dd_nw, Bool.or_eq_true, Bool.and_eq_true] at h1 h2 ⊢
    rcases Nat.lt_or_ge k m with z | z
    · have ih := dd_nw_tr (R := R) (n := n) m k z
      rcases h1 with h1 | ⟨h1, h1'⟩
      · rcases h2 with h2 | ⟨h2, h2'⟩
        · exact Or.inl (ih r s h1 h2)
        · exact Or.inr ⟨ih r m h1 h2, h2'⟩
      · rcases h2 with h2 | ⟨_, h2'⟩
        · exact Or.inr ⟨h1, ih m s h1' h2⟩
        · exact Or.inr ⟨h1, h2'⟩
    · have e : k = m := by omega
      subst e
      rcases h1 with h1 | ⟨h1, _⟩
      · rcases h2 with h2 | ⟨_, h2⟩
        · exact Or.inr ⟨h1, h2⟩
        · exact Or.inr ⟨h1, h2⟩
      · rcases h2 with h2 | ⟨_, h2⟩
        · exact Or.inr ⟨h1, h2⟩
        · exact Or.inr ⟨h1, h2⟩
/-- rule i breaks no layer -/
def dd_lo (R : Nat → Nat) (n i : Nat) : Prop := dd_s (R i) = 4 → dd_e (R i) ≠ dd_h (R i) ∧ dd_nw R n 6 (dd_e (R i)) (dd_h (R i)) = false
def dd_ly (R : Nat → Nat) (n : Nat) : Prop := ∀ i, i < n → dd_lo R n i
theorem dd_ly_pot {R : Nat → Nat} {n : Nat} (h : dd_ly R n) : ∃ P, (∀ r, P r ≤ 5) ∧ dd_Cl R n P := by
  refine dd_pot (N := dd_nw R n 6) ?_ (fun r k s _ hk _ => dd_nw_tr 6 k hk r s) h
  intro i hi
  refine ⟨dd_nw_base (dd_ex_iff.mpr ⟨i, hi, ?_⟩) 6, dd_nw_base (dd_ex_iff.mpr ⟨i, hi, ?_⟩) 6⟩
  · simp
  · simp
/-! ===== what rules give ===== -/
def dd_gv (T : Nat → Bool) (c x y : Nat) : Bool :=
  if dd_s c = 0 then T (36 * dd_a c + 6 * x + y)
  else if dd_s c = 1 then T (36 * dd_a c + 6 * y + x)
  else if dd_s c = 2 then dd_ex (fun z => T (36 * dd_a c + 6 * x + z) && T (36 * dd_b c + 6 * z + y)) 6
  else if dd_s c = 3 then T (36 * dd_a c + 6 * x + y) && T (36 * dd_b c + 6 * x + y)
  else T (36 * dd_a c + 6 * x + y) && !T (36 * dd_b c + 6 * x + y)
def dd_Sub (T C : Nat → Bool) : Prop := ∀ k, k < 216 → T k = true → C k = true
def dd_Eq (T C : Nat → Bool) : Prop := ∀ k, k < 216 → T k = C k
theorem dd_gv_mono {T C : Nat → Bool} {c x y : Nat} (hc : c < 1080) (hx : x < 6) (hy : y < 6) (h : dd_Sub T C)
    (hm : dd_s c = 4 → C (36 * dd_b c + 6 * x + y) = T (36 * dd_b c + 6 * x + y)) (g : dd_gv T c x y = true) : dd_gv C c x y = true := by
  have ha := dd_a6 c
  have hb := dd_b6 c
  have hs : dd_s c < 5 := by unfold dd_s; omega
  unfold dd_gv at g ⊢
  by_cases s0 : dd_s c = 0
  · rw [if_pos s0] at g ⊢
    exact h _ (by omega) g
  rw [if_neg s0] at g ⊢
  by_cases s1 : dd_s c = 1
  · rw [if_pos s1] at g ⊢
    exact h _ (by omega) g
  rw [if_neg s1] at g ⊢
  by_cases s2 : dd_s c = 2
  · rw [if_pos s2] at g ⊢
    obtain ⟨z, hz, e⟩ := dd_ex_iff.mp g
    rw [Bool.and_eq_true] at e
    exact dd_ex_iff.mpr ⟨z, hz, by rw [Bool.and_eq_true]; exact ⟨h _ (by omega) e.1, h _ (by omega) e.2⟩⟩
  rw [if_neg s2] at g ⊢
  by_cases s3 : dd_s c = 3
  · rw [if_pos s3] at g ⊢
    rw [Bool.and_eq_true] at g ⊢
    exact ⟨h _ (by omega) g.1, h _ (by omega) g.2⟩
  rw [if_neg s3] at g ⊢
  rw [Bool.and_eq_true] at g ⊢
  rw [hm (by omega)]
  exact ⟨h _ (by omega) g.1, g.2⟩
theorem dd_gv_eq {T C : Nat → Bool} {c x y : Nat} (hx : x < 6) (hy : y < 6) (h : dd_Eq T C) : dd_gv T c x y = dd_gv C c x y := by
  have ha := dd_a6 c
  have hb := dd_b6 c
  have e1 := h (36 * dd_a c + 6 * x + y) (by omega)
  have e2 := h (36 * dd_a c + 6 * y + x) (by omega)
  have e3 := h (36 * dd_b c + 6 * x + y) (by omega)
  have e4 : dd_ex (fun z => T (36 * dd_a c + 6 * x + z) && T (36 * dd_b c + 6 * z + y)) 6 = dd_ex (fun z => C (36 * dd_a c + 6 * x + z) && C (36 * dd_b c + 6 * z + y)) 6 := by
    apply Bool.eq_iff_iff.mpr
    rw [dd_ex_iff, dd_ex_iff]
    constructor
    · rintro ⟨z, hz, e⟩
      exact ⟨z, hz, by rw [← h _ (by omega), ← h _ (by omega)]; exact e⟩
    · rintro ⟨z, hz, e⟩
      exact ⟨z, hz, by rw [h _ (by omega), h _ (by omega)]; exact e⟩
  unfold dd_gv
  rw [e1, e2, e3, e4]
/-- T is closed under the rules whose heads are of level l -/
def dd_Cv (R : Nat → Nat) (n : Nat) (L : Nat → Nat) (l : Nat) (T : Nat → Bool) : Prop :=
  ∀ i, i < n → L (dd_h (R i)) = l → ∀ x y, x < 6 → y < 6 → dd_gv T (R i) x y = true → T (36 * dd_h (R i) + 6 * x + y) = true
def dd_Of (L : Nat → Nat) (l : Nat) (T0 T : Nat → Bool) : Prop := ∀ k, k < 216 → L (k / 36) ≠ l → T k = T0 k
def dd_Inv (R : Nat → Nat) (n : Nat) (L : Nat → Nat) (l : Nat) (T0 T : Nat → Bool) : Prop :=
  dd_Sub T0 T ∧ dd_Of L l T0 T ∧ ∀ C, dd_Sub T0 C → dd_Of L l T0 C → dd_Cv R n L l C → dd_Sub T C
def dd_Fin (R : Nat → Nat) (n : Nat) (L : Nat → Nat) (l : Nat) (T0 T : Nat → Bool) : Prop := dd_Inv R n L l T0 T ∧ dd_Cv R n L l T
theorem dd_Inv_0 (R : Nat → Nat) (n : Nat) (L : Nat → Nat) (l : Nat) (T0 : Nat → Bool) : dd_Inv R n L l T0 T0 :=
  ⟨fun _ _ h => h, fun _ _ _ => rfl, fun _ h _ _ => h⟩
/-- a step keeps the invariant: what is new is given by a rule of the level -/
theorem dd_Inv_s {R : Nat → Nat} {n : Nat} {L : Nat → Nat} {l : Nat} {T0 T T' : Nat → Bool} (hR : ∀ i, i < n → R i < 1080) (hL : dd_Cl R n L)
    (I : dd_Inv R n L l T0 T) (hs : dd_Sub T T')
    (hn : ∀ k, k < 216 → T' k = true → T k = true ∨ ∃ i x y, i < n ∧ L (dd_h (R i)) = l ∧ x < 6 ∧ y < 6 ∧ k = 36 * dd_h (R i) + 6 * x + y ∧ dd_gv T (R i) x y = true) :
    dd_Inv R n L l T0 T' := by
  refine ⟨fun k hk h => hs k hk (I.1 k hk h), fun k hk h => ?_, fun C c1 c2 c3 k hk h => ?_⟩
  · rw [← I.2.1 k hk h]
    apply Bool.eq_iff_iff.mpr
    refine ⟨fun z => ?_, hs k hk⟩
    rcases hn k hk z with q | ⟨i, x, y, _, e, hx, hy, ek, _⟩
    · exact q
    · refine absurd ?_ h
      rw [← e]
      have := dd_h6 (R i)
      congr 1
      omega
  · have sc := I.2.2 C c1 c2 c3
    rcases hn k hk h with q | ⟨i, x, y, hi, e, hx, hy, ek, g⟩
    · exact sc k hk q
    · rw [ek]
      refine c3 i hi e x y hx hy (dd_gv_mono (hR i hi) hx hy sc (fun s4 => ?_) g)
      have cl := (hL i hi).2
      have ee : dd_e (R i) = dd_b (R i) := by unfold dd_e; rw [if_neg (by omega)]
      have ew : dd_w (R i) = 1 := by unfold dd_w; rw [if_pos s4]
      have hb := dd_b6 (R i)
      have hne : L ((36 * dd_b (R i) + 6 * x + y) / 36) ≠ l := by
        have q : (36 * dd_b (R i) + 6 * x + y) / 36 = dd_b (R i) := by omega
        rw [q, ← ee]
        omega
      rw [c2 _ (by omega) hne, I.2.1 _ (by omega) hne]
theorem dd_Inv_e {R : Nat → Nat} {n : Nat} {L : Nat → Nat} {l : Nat} {T0 T T' : Nat → Bool} (I : dd_Inv R n L l T0 T) (h : dd_Eq T T') : dd_Inv R n L l T0 T' :=
  ⟨fun k hk z => by rw [← h k hk]; exact I.1 k hk z, fun k hk z => by rw [← h k hk]; exact I.2.1 k hk z, fun C a b c k hk z => I.2.2 C a b c k hk (by rw [h k hk]; exact z)⟩
theorem dd_Cv_e {R : Nat → Nat} {n : Nat} {L : Nat → Nat} {l : Nat} {T T' : Nat → Bool} (h : dd_Eq T T') (c : dd_Cv R n L l T) : dd_Cv R n L l T' := by
  intro i hi e x y hx hy g
  have := dd_h6 (R i)
  rw [← h _ (by omega)]
  exact c i hi e x y hx hy (by rw [dd_gv_eq hx hy h]; exact g)
theorem dd_Cv_full {R : Nat → Nat} {n : Nat} {L : Nat → Nat} {l : Nat} {T : Nat → Bool} (h : 216 ≤ dd_cnt T 216) : dd_Cv R n L l T := by
  intro i hi e x y hx hy g
  have := dd_h6 (R i)
  exact dd_cnt_all h _ (by omega)
theorem dd_Fin_u {R : Nat → Nat} {n : Nat} {L : Nat → Nat} {l : Nat} {T0 T1 T T' : Nat → Bool} (h : dd_Fin R n L l T0 T) (h' : dd_Fin R n L l T1 T') (e : dd_Eq T0 T1) : dd_Eq T T' := by
  intro k hk
  apply Bool.eq_iff_iff.mpr
  constructor
  · exact h.1.2.2 T' (fun k hk z => h'.1.1 k hk (by rw [← e k hk]; exact z)) (fun k hk z => by rw [e k hk]; exact h'.1.2.1 k hk z) h'.2 k hk
  · exact h'.1.2.2 T (fun k hk z => h.1.1 k hk (by rw [e k hk]; exact z)) (fun k hk z => by rw [← e k hk]; exact h.1.2.1 k hk z) h.2 k hk
/-- the levels below m are settled, one after the other -/
def dd_FA (R : Nat → Nat) (n : Nat) (L : Nat → Nat) (T0 : Nat → Bool) : Nat → (Nat → Bool) → Prop
  | 0, T => dd_Eq T0 T
  | l + 1, T => ∃ T1, dd_FA R n L T0 l T1 ∧ dd_Fin R n L l T1 T
theorem dd_FA_u {R : Nat → Nat} {n : Nat} {L : Nat → Nat} {T0 : Nat → Bool} : ∀ (m : Nat) (T T' : Nat → Bool), dd_FA R n L T0 m T → dd_FA R n L T0 m T' → dd_Eq T T'
  | 0, _, _, h, h' => fun k hk => (h k hk).symm.trans (h' k hk)
  | m + 1, _, _, ⟨T1, a, b⟩, ⟨T2, a', b'⟩ => dd_Fin_u b b' (dd_FA_u m T1 T2 a a')
/-- what a pass over the rules of level l does: f tells whether anything is new -/
def dd_PR (R : Nat → Nat) (n : Nat) (L : Nat → Nat) (l : Nat) (T0 T T' : Nat → Bool) (f : Bool) : Prop :=
  dd_Inv R n L l T0 T' ∧ dd_Sub T T' ∧ (f = false → dd_Eq T T' ∧ dd_Cv R n L l T') ∧ (f = true → dd_cnt T 216 < dd_cnt T' 216)
/-- what stands between two passes: p of them are done -/
def dd_PI (R : Nat → Nat) (n : Nat) (L : Nat → Nat) (l : Nat) (T0 : Nat → Bool) (p : Nat) (f : Bool) (T : Nat → Bool) : Prop :=
  dd_Inv R n L l T0 T ∧ (f = false → dd_Cv R n L l T) ∧ (f = true → p ≤ dd_cnt T 216)
theorem dd_PI_0 (R : Nat → Nat) (n : Nat) (L : Nat → Nat) (l : Nat) (T0 : Nat → Bool) : dd_PI R n L l T0 0 true T0 :=
  ⟨dd_Inv_0 R n L l T0, fun h => absurd h (by decide), fun _ => Nat.zero_le _⟩
theorem dd_PI_s {R : Nat → Nat} {n : Nat} {L : Nat → Nat} {l : Nat} {T0 T T' : Nat → Bool} {p : Nat} {f : Bool} (h : dd_PI R n L l T0 p true T) (q : dd_PR R n L l T0 T T' f) : dd_PI R n L l T0 (p + 1) f T' :=
  ⟨q.1, fun z => (q.2.2.1 z).2, fun z => by have a := q.2.2.2 z; have b := h.2.2 rfl; omega⟩
theorem dd_PI_f {R : Nat → Nat} {n : Nat} {L : Nat → Nat} {l : Nat} {T0 T : Nat → Bool} {p : Nat} {f : Bool} (h : dd_PI R n L l T0 p f T) (e : f = false ∨ 216 ≤ p) : dd_Fin R n L l T0 T := by
  refine ⟨h.1, ?_⟩
  cases f with
  | false => exact h.2.1 rfl
  | true =>
    rcases e with e | e
    · exact absurd e (by decide)
    · exact dd_Cv_full (Nat.le_trans e (h.2.2 rfl))
end
section
/-! ===== rows of bits ===== -/
theorem dd_b1 : ∀ i, i < 32 → bt 1 i = decide (i = 0) := by decide +kernel
theorem dd_b2i (b : Bool) : ∀ i, i < 32 → bt (if b = true then 1 else 0) i = (decide (i = 0) && b) := by
  intro i hi
  cases b
  · rw [if_neg (by decide), b_0, Bool.and_false]
  · rw [if_pos rfl, dd_b1 i hi, Bool.and_true]
/-- one bit as a number -/
theorem dd_bit (x : Int32) {y : Nat} (hy : y < 32) : (x >>> (nI y &&& 31)) &&& 1 = if bt x y = true then 1 else 0 := by
  apply b_ext
  intro i hi
  rw [b_and, dd_b1 i hi, dd_b2i _ i hi]
  by_cases h : i = 0
  · subst h
    rw [b_sshr y hy x (by omega), if_pos (by omega)]
    simp
  · simp [h]
theorem dd_bit1 (x : Int32) {y : Nat} (hy : y < 32) : (x >>> (nI y &&& 31)) &&& 1 = 1 ↔ bt x y = true := by
  rw [dd_bit x hy]
  by_cases h : bt x y = true
  · simp [h]
  · simp [h]
theorem dd_pow {y : Nat} (hy : y < 32) {i : Nat} (hi : i < 32) : bt ((1 : Int32) <<< (nI y &&& 31)) i = decide (i = y) := by
  rw [b_shl y hy 1 hi]
  by_cases h : y ≤ i
  · rw [dd_b1 _ (by omega), decide_eq_true h, Bool.true_and]
    by_cases e : i = y
    · rw [decide_eq_true e, decide_eq_true (by omega)]
    · rw [decide_eq_false e, decide_eq_false (by omega)]
  · rw [decide_eq_false h, Bool.false_and, decide_eq_false (by omega)]
/-- x's 36 rows hold T -/
def dd_XH (h : Nat → Int32) (T : Nat → Bool) : Prop := ∀ row, row < 36 → ∀ i, i < 32 → bt (h row) i = (decide (i < 6) && T (6 * row + i))
/-- y's 216 cells hold T -/
def dd_YH (h : Nat → Int32) (T : Nat → Bool) : Prop := ∀ k, k < 216 → h k = if T k = true then 1 else 0
theorem dd_XH_e {h : Nat → Int32} {T T' : Nat → Bool} (H : dd_XH h T) (e : dd_Eq T T') : dd_XH h T' := by
  intro row hr i hi
  rw [H row hr i hi]
  by_cases z : i < 6
  · rw [e _ (by omega)]
  · rw [decide_eq_false z, Bool.false_and, Bool.false_and]
theorem dd_YH_e {h : Nat → Int32} {T T' : Nat → Bool} (H : dd_YH h T) (e : dd_Eq T T') : dd_YH h T' := by
  intro k hk
  rw [H k hk, e k hk]
theorem dd_YH_1 {h : Nat → Int32} {T : Nat → Bool} (H : dd_YH h T) {k : Nat} (hk : k < 216) : h k = 0 ↔ T k = false := by
  rw [H k hk]
  cases T k <;> simp
theorem dd_XH_0 : dd_XH (fun _ => 0) (fun _ => false) := by
  intro row hr i hi
  rw [b_0, Bool.and_false]
theorem dd_YH_0 : dd_YH (fun _ => 0) (fun _ => false) := by
  intro k hk
  rfl
/-- T with row `row` replaced by g -/
def dd_row (T : Nat → Bool) (row : Nat) (g : Nat → Bool) : Nat → Bool := fun k => if k / 6 = row then g (k % 6) else T k
theorem dd_XH_u {h : Nat → Int32} {T : Nat → Bool} (H : dd_XH h T) {row : Nat} {v : Int32} {g : Nat → Bool} (hv : ∀ i, i < 32 → bt v i = (decide (i < 6) && g i)) : dd_XH (upd h row v) (dd_row T row g) := by
  intro r hr i hi
  unfold upd
  by_cases e : r = row
  · rw [if_pos e, hv i hi]
    by_cases z : i < 6
    · unfold dd_row
      rw [if_pos (by omega)]
      have : (6 * r + i) % 6 = i := by omega
      rw [this]
    · rw [decide_eq_false z, Bool.false_and, Bool.false_and]
  · rw [if_neg e, H r hr i hi]
    by_cases z : i < 6
    · unfold dd_row
      rw [if_neg (by omega)]
    · rw [decide_eq_false z, Bool.false_and, Bool.false_and]
def dd_set (T : Nat → Bool) (k : Nat) (b : Bool) : Nat → Bool := fun j => if j = k then b else T j
theorem dd_YH_u {h : Nat → Int32} {T : Nat → Bool} (H : dd_YH h T) {k : Nat} {v : Int32} {b : Bool} (hv : v = if b = true then 1 else 0) : dd_YH (upd h k v) (dd_set T k b) := by
  intro j hj
  unfold upd dd_set
  by_cases e : j = k
  · rw [if_pos e, if_pos e, hv]
  · rw [if_neg e, if_neg e, H j hj]
end
section
/-! ===== both sides' pictures, small rows ===== -/
abbrev dd_J9 : Type := (Nat → Int32) → (Nat → Int32) → (Nat → Int32) → (Nat → Int32) → (Nat → Int32) → (Nat → Int32) → (Nat → Int32) → (Nat → Int32) → (Nat → Int32) → Prop
def dd_XR (R : Nat → Nat) (n : Nat) (sh hd fb sb : Nat → Int32) : Prop := ∀ i, i < n → sh i = nI (dd_s (R i)) ∧ hd i = nI (dd_h (R i)) ∧ fb i = nI (dd_a (R i)) ∧ sb i = nI (dd_e (R i))
def dd_YR (R : Nat → Nat) (n : Nat) (ys yh ya yb : Nat → Int32) : Prop := ∀ i, i < n → ys i = nI (dd_s (R i)) ∧ yh i = nI (dd_h (R i)) ∧ ya i = nI (dd_a (R i)) ∧ yb i = nI (dd_b (R i))
theorem dd_s5 {c : Nat} (h : c < 1080) : dd_s c < 5 := by unfold dd_s; omega
theorem dd_g6 {j : Nat} (h : j < 6) : ¬ (6 : Int32) ≤ nI j := nI_ge (b := 6) h (by decide)
theorem dd_t6 : (6 : Int32) ≤ nI 6 := nI_le (a := 6) (Nat.le_refl _) (by decide)
theorem dd_v6 {j : Nat} (h : j < 6) : vp_in (nI j) 6 := vp_in_nI h (by decide)
theorem dd_v8 {j : Nat} (h : j < 8) : vp_in (nI j) 8 := vp_in_nI h (by decide)
theorem dd_v9 {j : Nat} (h : j < 9) : vp_in (nI j) 9 := vp_in_nI h (by decide)
theorem dd_v36 {j : Nat} (h : j < 36) : vp_in (nI j) 36 := vp_in_nI h (by decide)
theorem dd_v216 {j : Nat} (h : j < 216) : vp_in (nI j) 216 := vp_in_nI h (by decide)
theorem dd_e2 {c : Nat} (h : ¬ dd_s c < 2) : dd_e c = dd_b c := by unfold dd_e; rw [if_neg h]
theorem dd_e1 {c : Nat} (h : dd_s c < 2) : dd_e c = dd_a c := by unfold dd_e; rw [if_pos h]
/-! ===== dependences: six rows of bits hold N ===== -/
def dd_DP (d : Nat → Int32) (N : Nat → Nat → Bool) : Prop := ∀ r, r < 6 → ∀ i, i < 32 → bt (d r) i = (decide (i < 6) && N r i)
theorem dd_DP_0 {d : Nat → Int32} {R : Nat → Nat} (h : ∀ r, r < 6 → d r = 0) : dd_DP d (dd_n0 R 0) := by
  intro r hr i hi
  rw [h r hr, b_0]
  show false = (decide (i < 6) && false)
  rw [Bool.and_false]
theorem dd_n0_s (R : Nat → Nat) (i r t : Nat) : dd_n0 R (i + 1) r t = (dd_n0 R i r t || (decide (dd_h (R i) = r) && (decide (dd_a (R i) = t) || decide (dd_e (R i) = t)))) := rfl
theorem dd_DP_r {d : Nat → Int32} {R : Nat → Nat} {i : Nat} (H : dd_DP d (dd_n0 R i)) {v : Int32} (hv : ∀ k, k < 32 → bt v k = (bt (d (dd_h (R i))) k || (decide (k = dd_a (R i)) || decide (k = dd_e (R i))))) : dd_DP (upd d (dd_h (R i)) v) (dd_n0 R (i + 1)) := by
  intro r hr k hk
  unfold upd
  rw [dd_n0_s]
  by_cases e : r = dd_h (R i)
  · rw [if_pos e, hv k hk, H _ (dd_h6 _) k hk, ← e, decide_eq_true (rfl : r = r), Bool.true_and]
    have ha := dd_a6 (R i)
    have hb := dd_e6 (R i)
    by_cases z : k < 6
    · rw [decide_eq_true z, Bool.true_and, Bool.true_and]
      have e1 : decide (k = dd_a (R i)) = decide (dd_a (R i) = k) := decide_eq_decide.mpr ⟨Eq.symm, Eq.symm⟩
      have e2 : decide (k = dd_e (R i)) = decide (dd_e (R i) = k) := decide_eq_decide.mpr ⟨Eq.symm, Eq.symm⟩
      rw [e1, e2]
    · rw [decide_eq_false z, Bool.false_and, Bool.false_and, decide_eq_false (by omega), decide_eq_false (by omega)]
      rfl
  · have q : decide (dd_h (R i) = r) = false := decide_eq_false (fun z => e z.symm)
    rw [if_neg e, H r hr k hk, q, Bool.false_and, Bool.or_false]
def dd_nj (R : Nat → Nat) (n m j r t : Nat) : Bool := if r < j then dd_nw R n (m + 1) r t else dd_nw R n m r t
theorem dd_nw_s (R : Nat → Nat) (n m r t : Nat) : dd_nw R n (m + 1) r t = (dd_nw R n m r t || (dd_nw R n m r m && dd_nw R n m m t)) := rfl
theorem dd_nj_m (R : Nat → Nat) (n m j t : Nat) : dd_nj R n m j m t = dd_nw R n m m t := by
  unfold dd_nj
  split
  · rw [dd_nw_s]
    cases dd_nw R n m m t <;> simp
  · rfl
theorem dd_nj_o {R : Nat → Nat} {n m j r t : Nat} (h : r ≠ j) : dd_nj R n m (j + 1) r t = dd_nj R n m j r t := by
  unfold dd_nj
  by_cases z : r < j
  · rw [if_pos z, if_pos (by omega)]
  · rw [if_neg z, if_neg (by omega)]
theorem dd_nj_s {R : Nat → Nat} {n m j t : Nat} : dd_nj R n m (j + 1) j t = (dd_nw R n m j t || (dd_nw R n m j m && dd_nw R n m m t)) := by
  unfold dd_nj
  rw [if_pos (by omega)]
  rfl
theorem dd_nj_j {R : Nat → Nat} {n m j t : Nat} : dd_nj R n m j j t = dd_nw R n m j t := by
  unfold dd_nj
  rw [if_neg (by omega)]
theorem dd_DP_j {d : Nat → Int32} {R : Nat → Nat} {n m : Nat} (H : dd_DP d (dd_nw R n m)) : dd_DP d (dd_nj R n m 0) := by
  intro r hr i hi
  rw [H r hr i hi]
  unfold dd_nj
  rw [if_neg (by omega)]
theorem dd_DP_6 {d : Nat → Int32} {R : Nat → Nat} {n m : Nat} (H : dd_DP d (dd_nj R n m 6)) : dd_DP d (dd_nw R n (m + 1)) := by
  intro r hr i hi
  rw [H r hr i hi]
  unfold dd_nj
  rw [if_pos hr]
theorem dd_DP_w1 {d : Nat → Int32} {R : Nat → Nat} {n m j : Nat} (hm : m < 6) (hj : j < 6) (H : dd_DP d (dd_nj R n m j)) (hb : bt (d j) m = true) : dd_DP (upd d j (d j ||| d m)) (dd_nj R n m (j + 1)) := by
  have q : dd_nw R n m j m = true := by
    rw [H j hj m (by omega), dd_nj_j, decide_eq_true hm, Bool.true_and] at hb
    exact hb
  intro r hr i hi
  unfold upd
  by_cases e : r = j
  · subst e
    rw [if_pos rfl, b_or, H r hr i hi, H m hm i hi, dd_nj_m, dd_nj_s, dd_nj_j, q, Bool.true_and]
    cases decide (i < 6) <;> rfl
  · rw [if_neg e, H r hr i hi, dd_nj_o e]
theorem dd_DP_w0 {d : Nat → Int32} {R : Nat → Nat} {n m j : Nat} (hm : m < 6) (hj : j < 6) (H : dd_DP d (dd_nj R n m j)) (hb : ¬ bt (d j) m = true) : dd_DP d (dd_nj R n m (j + 1)) := by
  have q : dd_nw R n m j m = false := by
    rw [H j hj m (by omega), dd_nj_j, decide_eq_true hm, Bool.true_and] at hb
    exact Bool.eq_false_iff.mpr hb
  intro r hr i hi
  by_cases e : r = j
  · subst e
    rw [H r hr i hi, dd_nj_s, dd_nj_j, q, Bool.false_and, Bool.or_false]
  · rw [H r hr i hi, dd_nj_o e]
section
variable {rc gc lc : Int32} {fa he hb sh hd fb sb dp lv : Nat → Int32}
theorem dd_x78 {post : SX → Prop} {J : Int32 → dd_J9} {R : Nat → Nat} {n m : Nat} (hm : m < 6) (K : ∀ d, dd_DP d (dd_nw R n (m + 1)) → J (nI (m + 1)) fa he hb sh hd fb sb d lv) :
    ∀ k j d, j + k = 6 → dd_DP d (dd_nj R n m j) → wX_findDependences_78 post J (nI m) rc gc lc (k + 1) (nI j) fa he hb sh hd fb sb d lv := by
  intro k
  induction k with
  | zero =>
    intro j d hj H
    have e : j = 6 := by omega
    subst e
    exact br_t dd_t6 (nm_r (nI_1 m) (K d (dd_DP_6 H)))
  | succ k ih =>
    intro j d hj H
    have hj6 : j < 6 := by omega
    refine br_f (dd_g6 hj6) ⟨dd_v6 hj6, ?_⟩
    rw [nI_clamp (n := j) (by omega)]
    refine br_c (fun z => ⟨dd_v6 hj6, dd_v6 hm, dd_v6 hj6, ?_⟩) (fun z => ?_)
    · rw [nI_clamp (n := m) (by omega)]
      exact nm_e (nm_r (nI_1 j) (ih (j + 1) _ (by omega) (dd_DP_w1 hm hj6 H ((dd_bit1 _ (by omega)).mp z))))
    · exact nm_r (nI_1 j) (ih (j + 1) _ (by omega) (dd_DP_w0 hm hj6 H (fun y => z ((dd_bit1 _ (by omega)).mpr y))))
theorem dd_x70 {post : SX → Prop} {R : Nat → Nat} {n : Nat} (K : ∀ d, dd_DP d (dd_nw R n 6) → post (rc, gc, lc, fa, he, hb, sh, hd, fb, sb, d, lv)) :
    ∀ k m d, m + k = 6 → dd_DP d (dd_nw R n m) → wX_findDependences_70 post rc gc lc (k + 1) (nI m) fa he hb sh hd fb sb d lv := by
  intro k
  induction k with
  | zero =>
    intro m d hm H
    have e : m = 6 := by omega
    subst e
    exact br_t dd_t6 (K d H)
  | succ k ih =>
    intro m d hm H
    exact br_f (dd_g6 (by omega)) ⟨7, dd_x78 (by omega) (fun d' H' => ih (m + 1) d' (by omega) H') 6 0 d rfl (dd_DP_j H)⟩
theorem dd_x23 {post : SX → Prop} {R : Nat → Nat} {n : Nat} (hn : n ≤ 8) (hX : dd_XR R n sh hd fb sb) (K : ∀ d, dd_DP d (dd_nw R n 6) → post (nI n, gc, lc, fa, he, hb, sh, hd, fb, sb, d, lv)) :
    ∀ k i d, i + k = n → dd_DP d (dd_n0 R i) → wX_findDependences_23 post (nI n) gc lc (k + 1) (nI i) fa he hb sh hd fb sb d lv := by
  intro k
  induction k with
  | zero =>
    intro i d hi H
    have e : i = n := by omega
    subst e
    exact br_t (nI_le (Nat.le_refl _) (by omega)) ⟨7, dd_x70 K 6 0 d rfl H⟩
  | succ k ih =>
    intro i d hi H
    have h6 := dd_h6 (R i)
    have a6 := dd_a6 (R i)
    have e6 := dd_e6 (R i)
    obtain ⟨e1, e2, e3, e4⟩ := hX i (by omega)
    refine br_f (nI_ge (by omega) (by omega)) ?_
    rw [nI_clamp (n := i) (by omega), e2, e3, e4, nI_clamp (n := dd_h (R i)) (by omega)]
    refine ⟨dd_v8 (by omega), dd_v6 h6, dd_v8 (by omega), dd_v8 (by omega), dd_v6 h6, nm_e (nm_r (nI_1 i) (ih (i + 1) _ (by omega) (dd_DP_r H (fun k hk => ?_))))⟩
    rw [b_or, b_or, dd_pow (by omega) hk, dd_pow (by omega) hk]
theorem dd_x2 {post : SX → Prop} {R : Nat → Nat} {n : Nat} (hn : n ≤ 8) (hX : dd_XR R n sh hd fb sb) (K : ∀ d, dd_DP d (dd_nw R n 6) → post (nI n, gc, lc, fa, he, hb, sh, hd, fb, sb, d, lv)) :
    ∀ k j d, j + k = 6 → (∀ r, r < j → d r = 0) → wX_findDependences_2 post (nI n) gc lc (k + 1) (nI j) fa he hb sh hd fb sb d lv := by
  intro k
  induction k with
  | zero =>
    intro j d hj H
    have e : j = 6 := by omega
    subst e
    exact br_t dd_t6 ⟨n + 1, dd_x23 hn hX K n 0 d (by omega) (dd_DP_0 H)⟩
  | succ k ih =>
    intro j d hj H
    refine br_f (dd_g6 (by omega)) ⟨dd_v6 (by omega), ?_⟩
    rw [nI_clamp (n := j) (by omega)]
    refine nm_e (nm_r (nI_1 j) (ih (j + 1) _ (by omega) (fun r hr => ?_)))
    unfold upd
    by_cases e : r = j
    · rw [if_pos e]
    · rw [if_neg e]; exact H r (by omega)
theorem dd_xfd {post : SX → Prop} {R : Nat → Nat} {n : Nat} (hn : n ≤ 8) (hX : dd_XR R n sh hd fb sb) (K : ∀ d, dd_DP d (dd_nw R n 6) → post (nI n, gc, lc, fa, he, hb, sh, hd, fb, sb, d, lv)) :
    wpX_findDependences post (nI n, gc, lc, fa, he, hb, sh, hd, fb, sb, dp, lv) :=
  ⟨7, dd_x2 hn hX K 6 0 dp rfl (fun _ h => absurd h (Nat.not_lt_zero _))⟩
theorem dd_xl6 {post : Int32 → SX → Prop} {R : Nat → Nat} {n : Nat} (hn : n ≤ 8) (hR : ∀ i, i < n → R i < 1080) (hX : dd_XR R n sh hd fb sb) (H : dd_DP dp (dd_nw R n 6))
    (K1 : dd_ly R n → post 1 (nI n, gc, lc, fa, he, hb, sh, hd, fb, sb, dp, lv)) (K0 : ¬ dd_ly R n → post 0 (nI n, gc, lc, fa, he, hb, sh, hd, fb, sb, dp, lv)) :
    ∀ k i, i + k = n → (∀ q, q < i → dd_lo R n q) → wX_isLayered_6 post (nI n) gc lc fa he hb sh hd fb sb dp lv (k + 1) (nI i) := by
  intro k
  induction k with
  | zero =>
    intro i hi G
    have e : i = n := by omega
    subst e
    exact br_t (nI_le (Nat.le_refl _) (by omega)) (K1 G)
  | succ k ih =>
    intro i hi G
    have hin : i < n := by omega
    have s5 := dd_s5 (hR i hin)
    have h6 := dd_h6 (R i)
    have e6 := dd_e6 (R i)
    obtain ⟨e1, e2, e3, e4⟩ := hX i hin
    refine br_f (nI_ge hin (by omega)) ?_
    rw [nI_clamp (n := i) (by omega), e1, e2, e4]
    refine ⟨dd_v8 (by omega), nm_e ⟨dd_v8 (by omega), nm_e ⟨dd_v8 (by omega), ?_⟩⟩⟩
    rw [nI_clamp (n := dd_e (R i)) (by omega)]
    refine pk_eq (dd_s (R i)) 4 (fun s4 => pk_eq (dd_e (R i)) (dd_h (R i)) (fun z => K0 (fun y => (y i hin s4).1 z)) (fun z => ⟨dd_v6 e6, br_c (fun b => K0 (fun y => ?_)) (fun b => nm_r (nI_1 i) (ih (i + 1) (by omega) (lt_s G (fun _ => ⟨z, ?_⟩))))⟩)) (fun s => nm_r (nI_1 i) (ih (i + 1) (by omega) (lt_s G (fun y => absurd y s))))
    · rw [dd_bit1 _ (by omega), H _ e6 _ (by omega), (y i hin s4).2, Bool.and_false] at b
      exact absurd b (by decide)
    · rw [dd_bit1 _ (by omega), H _ e6 _ (by omega), decide_eq_true h6, Bool.true_and] at b
      exact Bool.eq_false_iff.mpr b
theorem dd_xly {post : Int32 → SX → Prop} {R : Nat → Nat} {n : Nat} (hn : n ≤ 8) (hR : ∀ i, i < n → R i < 1080) (hX : dd_XR R n sh hd fb sb)
    (K1 : ∀ d, dd_ly R n → post 1 (nI n, gc, lc, fa, he, hb, sh, hd, fb, sb, d, lv)) (K0 : ∀ d, ¬ dd_ly R n → post 0 (nI n, gc, lc, fa, he, hb, sh, hd, fb, sb, d, lv)) :
    wpX_isLayered post (nI n, gc, lc, fa, he, hb, sh, hd, fb, sb, dp, lv) := by
  unfold wpX_isLayered
  dsimp only
  exact dd_xfd hn hX (fun d H => ⟨n + 1, dd_xl6 hn hR hX H (K1 d) (K0 d) n 0 (by omega) (fun _ h => absurd h (Nat.not_lt_zero _))⟩)
end
section
variable {yn : Int32} {ys yh ya yb yf yw yo yl yd : Nat → Int32}
theorem dd_y149 {post : Int32 → SY → Prop} {R : Nat → Nat} {n : Nat} (hn : n ≤ 8) (hR : ∀ i, i < n → R i < 1080) (hY : dd_YR R n ys yh ya yb) (H : dd_DP yd (dd_nw R n 6))
    (K1 : dd_ly R n → post 1 (yn, ys, yh, ya, yb, yf, yw, yo, yl, yd)) (K0 : ¬ dd_ly R n → post 0 (yn, ys, yh, ya, yb, yf, yw, yo, yl, yd)) :
    ∀ k i, i + k = n → (∀ q, q < i → dd_lo R n q) → wY_layered_149 post (nI n) yn ys yh ya yb yf yw yo yl yd (k + 1) (nI i) := by
  intro k
  induction k with
  | zero =>
    intro i hi G
    have e : i = n := by omega
    subst e
    exact br_t (nI_le (Nat.le_refl _) (by omega)) (K1 G)
  | succ k ih =>
    intro i hi G
    have hin : i < n := by omega
    have s5 := dd_s5 (hR i hin)
    have h6 := dd_h6 (R i)
    have b6 := dd_b6 (R i)
    obtain ⟨e1, e2, e3, e4⟩ := hY i hin
    have i9 : vp_in (nI i) 9 := dd_v9 (by omega)
    refine br_f (nI_ge hin (by omega)) ?_
    rw [nI_clamp (n := i) (by omega), e1, e2, e4, nI_clamp (n := dd_b (R i)) (by omega)]
    refine ⟨i9, pk_eq (dd_s (R i)) 4 (fun s4 => ⟨i9, i9, pk_eq (dd_b (R i)) (dd_h (R i)) (fun z => K0 (fun y => (y i hin s4).1 (by rw [dd_e2 (by omega)]; exact z))) (fun z => ⟨i9, dd_v6 b6, i9, br_c (fun b => K0 (fun y => ?_)) (fun b => nm_r (nI_1 i) (ih (i + 1) (by omega) (lt_s G (fun _ => ?_))))⟩)⟩) (fun s => nm_r (nI_1 i) (ih (i + 1) (by omega) (lt_s G (fun y => absurd y s))))⟩
    · have := (y i hin s4).2
      rw [dd_e2 (by omega)] at this
      rw [dd_bit1 _ (by omega), H _ b6 _ (by omega), this, Bool.and_false] at b
      exact absurd b (by decide)
    · rw [dd_e2 (by omega)]
      rw [dd_bit1 _ (by omega), H _ b6 _ (by omega), decide_eq_true h6, Bool.true_and] at b
      exact ⟨z, Bool.eq_false_iff.mpr b⟩
theorem dd_y96 {post : Int32 → SY → Prop} {J : Int32 → dd_J9} {x1 : Int32} {R : Nat → Nat} {n m : Nat} (hm : m < 6) (K : ∀ d, dd_DP d (dd_nw R n (m + 1)) → J (nI (m + 1)) ys yh ya yb yf yw yo yl d) :
    ∀ k j d, j + k = 6 → dd_DP d (dd_nj R n m j) → wY_layered_96 post J x1 (nI m) yn (k + 1) (nI j) ys yh ya yb yf yw yo yl d := by
  intro k
  induction k with
  | zero =>
    intro j d hj H
    have e : j = 6 := by omega
    subst e
    exact br_t dd_t6 (nm_r (nI_1 m) (K d (dd_DP_6 H)))
  | succ k ih =>
    intro j d hj H
    have hj6 : j < 6 := by omega
    refine br_f (dd_g6 hj6) ⟨dd_v6 hj6, ?_⟩
    rw [nI_clamp (n := j) (by omega)]
    refine br_c (fun z => ⟨dd_v6 hj6, dd_v6 hm, dd_v6 hj6, ?_⟩) (fun z => ?_)
    · rw [nI_clamp (n := m) (by omega)]
      exact nm_e (nm_r (nI_1 j) (ih (j + 1) _ (by omega) (dd_DP_w1 hm hj6 H ((dd_bit1 _ (by omega)).mp z))))
    · exact nm_r (nI_1 j) (ih (j + 1) _ (by omega) (dd_DP_w0 hm hj6 H (fun y => z ((dd_bit1 _ (by omega)).mpr y))))
theorem dd_y88 {post : Int32 → SY → Prop} {R : Nat → Nat} {n : Nat} (hn : n ≤ 8) (hR : ∀ i, i < n → R i < 1080) (hY : dd_YR R n ys yh ya yb)
    (K1 : ∀ d, dd_ly R n → post 1 (yn, ys, yh, ya, yb, yf, yw, yo, yl, d)) (K0 : ∀ d, ¬ dd_ly R n → post 0 (yn, ys, yh, ya, yb, yf, yw, yo, yl, d)) :
    ∀ k m d, m + k = 6 → dd_DP d (dd_nw R n m) → wY_layered_88 post (nI n) yn (k + 1) (nI m) ys yh ya yb yf yw yo yl d := by
  intro k
  induction k with
  | zero =>
    intro m d hm H
    have e : m = 6 := by omega
    subst e
    exact br_t dd_t6 ⟨n + 1, dd_y149 hn hR hY H (K1 d) (K0 d) n 0 (by omega) (fun _ h => absurd h (Nat.not_lt_zero _))⟩
  | succ k ih =>
    intro m d hm H
    exact br_f (dd_g6 (by omega)) ⟨7, dd_y96 (by omega) (fun d' H' => ih (m + 1) d' (by omega) H') 6 0 d rfl (dd_DP_j H)⟩
theorem dd_y23 {post : Int32 → SY → Prop} {R : Nat → Nat} {n : Nat} (hn : n ≤ 8) (hR : ∀ i, i < n → R i < 1080) (hY : dd_YR R n ys yh ya yb)
    (K1 : ∀ d, dd_ly R n → post 1 (yn, ys, yh, ya, yb, yf, yw, yo, yl, d)) (K0 : ∀ d, ¬ dd_ly R n → post 0 (yn, ys, yh, ya, yb, yf, yw, yo, yl, d)) :
    ∀ k i d, i + k = n → dd_DP d (dd_n0 R i) → wY_layered_23 post (nI n) yn (k + 1) (nI i) ys yh ya yb yf yw yo yl d := by
  intro k
  induction k with
  | zero =>
    intro i d hi H
    have e : i = n := by omega
    subst e
    exact br_t (nI_le (Nat.le_refl _) (by omega)) ⟨7, dd_y88 hn hR hY K1 K0 6 0 d rfl H⟩
  | succ k ih =>
    intro i d hi H
    have s5 := dd_s5 (hR i (by omega))
    have h6 := dd_h6 (R i)
    have a6 := dd_a6 (R i)
    have b6 := dd_b6 (R i)
    obtain ⟨e1, e2, e3, e4⟩ := hY i (by omega)
    have i9 : vp_in (nI i) 9 := dd_v9 (by omega)
    refine br_f (nI_ge (by omega) (by omega)) ⟨i9, i9, ?_, i9, i9, ?_⟩
    · rw [nI_clamp (n := i) (by omega), e2]
      exact dd_v6 h6
    · rw [nI_clamp (n := i) (by omega), e1, e2, e3, e4, nI_clamp (n := dd_h (R i)) (by omega)]
      refine pk_lt (dd_s (R i)) 2 (fun z => br_t rfl ⟨dd_v6 h6, nm_e (nm_r (nI_1 i) (ih (i + 1) _ (by omega) (dd_DP_r H (fun k hk => ?_))))⟩) (fun z => br_f (by decide) ⟨i9, dd_v6 h6, nm_e (nm_r (nI_1 i) (ih (i + 1) _ (by omega) (dd_DP_r H (fun k hk => ?_))))⟩)
      · rw [b_or, b_or, b_0, dd_pow (by omega) hk, dd_e1 z, Bool.or_false, Bool.or_self]
      · rw [b_or, b_or, dd_pow (by omega) hk, dd_pow (by omega) hk, dd_e2 (by omega), Bool.or_assoc]
theorem dd_y2 {post : Int32 → SY → Prop} {R : Nat → Nat} {n : Nat} (hn : n ≤ 8) (hR : ∀ i, i < n → R i < 1080) (hY : dd_YR R n ys yh ya yb)
    (K1 : ∀ d, dd_ly R n → post 1 (yn, ys, yh, ya, yb, yf, yw, yo, yl, d)) (K0 : ∀ d, ¬ dd_ly R n → post 0 (yn, ys, yh, ya, yb, yf, yw, yo, yl, d)) :
    ∀ k j d, j + k = 6 → (∀ r, r < j → d r = 0) → wY_layered_2 post (nI n) yn (k + 1) (nI j) ys yh ya yb yf yw yo yl d := by
  intro k
  induction k with
  | zero =>
    intro j d hj H
    have e : j = 6 := by omega
    subst e
    exact br_t dd_t6 ⟨n + 1, dd_y23 hn hR hY K1 K0 n 0 d (by omega) (dd_DP_0 H)⟩
  | succ k ih =>
    intro j d hj H
    refine br_f (dd_g6 (by omega)) ⟨dd_v6 (by omega), ?_⟩
    rw [nI_clamp (n := j) (by omega)]
    refine nm_e (nm_r (nI_1 j) (ih (j + 1) _ (by omega) (fun r hr => ?_)))
    unfold upd
    by_cases e : r = j
    · rw [if_pos e]
    · rw [if_neg e]; exact H r (by omega)
theorem dd_yly {post : Int32 → SY → Prop} {R : Nat → Nat} {n : Nat} (hn : n ≤ 8) (hR : ∀ i, i < n → R i < 1080) (hY : dd_YR R n ys yh ya yb)
    (K1 : ∀ d, dd_ly R n → post 1 (yn, ys, yh, ya, yb, yf, yw, yo, yl, d)) (K0 : ∀ d, ¬ dd_ly R n → post 0 (yn, ys, yh, ya, yb, yf, yw, yo, yl, d)) :
    wpY_layered post (yn, ys, yh, ya, yb, yf, yw, yo, yl, yd) (nI n) :=
  ⟨7, dd_y2 hn hR hY K1 K0 6 0 yd rfl (fun _ h => absurd h (Nat.not_lt_zero _))⟩
end
end
section
/-! ===== levels ===== -/
def dd_LV (l : Nat → Int32) (L : Nat → Nat) : Prop := ∀ r, r < 6 → l r = nI (L r)
def dd_up (L : Nat → Nat) (r m : Nat) : Nat → Nat := fun q => if q = r then max (L r) m else L q
theorem dd_LV_k {l : Nat → Int32} {L : Nat → Nat} {r m : Nat} (H : dd_LV l L) (h : m ≤ L r) : dd_LV l (dd_up L r m) := by
  intro q hq
  unfold dd_up
  rw [H q hq]
  split
  · rename_i e
    rw [e, Nat.max_eq_left h]
  · rfl
theorem dd_LV_u {l : Nat → Int32} {L : Nat → Nat} {r m : Nat} (H : dd_LV l L) (h : L r ≤ m) : dd_LV (upd l r (nI m)) (dd_up L r m) := by
  intro q hq
  unfold dd_up upd
  split
  · rw [Nat.max_eq_right h]
  · exact H q hq
theorem dd_LV_e {l : Nat → Int32} {L L' : Nat → Nat} (H : dd_LV l L) (h : ∀ r, r < 6 → L r = L' r) : dd_LV l L' := by
  intro q hq
  rw [H q hq, h q hq]
/-- two raises of X are one rise -/
theorem dd_up2 {L : Nat → Nat} {c : Nat} (h : dd_w c = 0 ∨ dd_e c ≠ dd_h c) : dd_up (dd_up L (dd_h c) (L (dd_a c))) (dd_h c) (dd_up L (dd_h c) (L (dd_a c)) (dd_e c) + dd_w c) = dd_rise L c := by
  funext q
  unfold dd_rise dd_need
  by_cases e : q = dd_h c
  · subst e
    unfold dd_up
    rw [if_pos rfl, if_pos rfl, if_pos rfl]
    by_cases z : dd_e c = dd_h c
    · rw [if_pos z, z]
      have w : dd_w c = 0 := by
        rcases h with h | h
        · exact h
        · exact absurd z h
      rw [w]
      omega
    · rw [if_neg z]
      omega
  · unfold dd_up
    rw [if_neg e, if_neg e, if_neg e]
theorem dd_Cl_ne {R P : Nat → Nat} {n i : Nat} (hP : dd_Cl R n P) (hi : i < n) : dd_w (R i) = 0 ∨ dd_e (R i) ≠ dd_h (R i) := by
  have h := (hP i hi).2
  rcases Nat.eq_zero_or_pos (dd_w (R i)) with z | z
  · exact Or.inl z
  · refine Or.inr fun e => ?_
    rw [e] at h
    omega
theorem dd_Cl_e {R L L' : Nat → Nat} {n : Nat} (h : ∀ r, r < 6 → L r = L' r) (c : dd_Cl R n L) : dd_Cl R n L' := by
  intro i hi
  rw [← h _ (dd_a6 _), ← h _ (dd_h6 _), ← h _ (dd_e6 _)]
  exact c i hi
section
variable {rc gc lc : Int32} {fa he hb sh hd fb sb dp lv : Nat → Int32}
theorem dd_xrl {post : SX → Prop} {L : Nat → Nat} {p0 p1 : Int32} {r m : Nat} (hr : r < 6) (h0 : p0 = nI r) (h1 : p1 = nI m) (H : dd_LV lv L) (b1 : L r < 2 ^ 31) (b2 : m < 2 ^ 31)
    (K : ∀ l, dd_LV l (dd_up L r m) → post (rc, gc, lc, fa, he, hb, sh, hd, fb, sb, dp, l)) : wpX_raiseLevel post (rc, gc, lc, fa, he, hb, sh, hd, fb, sb, dp, lv) p0 p1 := by
  subst h0 h1
  refine ⟨dd_v6 hr, ?_⟩
  rw [nI_clamp (n := r) (by omega), H r hr]
  exact pk_le m (L r) (fun h => K lv (dd_LV_k H h)) (fun h => ⟨dd_v6 hr, nm_e (K _ (dd_LV_u H (by omega)))⟩)
theorem dd_x54 {post : SX → Prop} {J J' : Int32 → Int32 → Int32 → Int32 → dd_J9} {x1 z0 : Int32} {R L P : Nat → Nat} {n i : Nat} (hn : n ≤ 8) (hi : i < n) (hX : dd_XR R n sh hd fb sb) (hP : dd_Cl R n P) (h5 : ∀ r, P r ≤ 5) (hL : ∀ r, L r ≤ P r)
    (H : dd_LV lv L) (hz : z0 = nI (dd_w (R i))) (K : ∀ l, dd_LV l (dd_rise L (R i)) → J' (nI (i + 1)) (nI n) gc lc fa he hb sh hd fb sb dp l) :
    wX_findLevels_54 post J J' x1 (nI i) z0 (nI n) gc lc fa he hb sh hd fb sb dp lv := by
  have h6 := dd_h6 (R i)
  have a6 := dd_a6 (R i)
  have e6 := dd_e6 (R i)
  obtain ⟨e1, e2, e3, e4⟩ := hX i hi
  have c : (nI i).toNatClampNeg = i := nI_clamp (by omega)
  have i8 : vp_in (nI i) 8 := dd_v8 (by omega)
  have ne := dd_Cl_ne hP hi
  have w1 := dd_w1 (R i)
  have bd : ∀ r, L r ≤ 5 := fun r => Nat.le_trans (hL r) (h5 r)
  have u6 : ∀ r q m, m ≤ 6 → dd_up L r m q ≤ 6 := by
    intro r q m hm
    have := bd r
    have := bd q
    unfold dd_up
    split <;> omega
  refine ⟨i8, i8, ?_, ?_⟩
  · rw [c, e3]; exact dd_v6 a6
  refine dd_xrl h6 (by rw [c, e2]) (m := L (dd_a (R i))) (by rw [c, e3, nI_clamp (by omega), H _ a6]) H (by have := bd (dd_h (R i)); omega) (by have := bd (dd_a (R i)); omega) (fun l1 H1 => ?_)
  have q1 := u6 (dd_h (R i)) (dd_h (R i)) (L (dd_a (R i))) (by have := bd (dd_a (R i)); omega)
  have q2 := u6 (dd_h (R i)) (dd_e (R i)) (L (dd_a (R i))) (by have := bd (dd_a (R i)); omega)
  refine ⟨i8, i8, ?_, ?_⟩
  · rw [c, e4]; exact dd_v6 e6
  refine dd_xrl h6 (by rw [c, e2]) (m := dd_up L (dd_h (R i)) (L (dd_a (R i))) (dd_e (R i)) + dd_w (R i)) (by rw [c, e4, nI_clamp (by omega), H1 _ e6, hz, nI_add]) H1 (by omega) (by omega) (fun l2 H2 => ?_)
  rw [dd_up2 ne] at H2
  exact nm_r (nI_1 i) (K l2 H2)
theorem dd_x31 {post : SX → Prop} {J : Int32 → Int32 → Int32 → Int32 → dd_J9} {R L P : Nat → Nat} {n p : Nat} (hn : n ≤ 8) (hR : ∀ i, i < n → R i < 1080) (hX : dd_XR R n sh hd fb sb) (hP : dd_Cl R n P) (h5 : ∀ r, P r ≤ 5) (hL : ∀ r, L r ≤ P r)
    (K : ∀ l, dd_LV l (dd_ps R L n) → J (nI (p + 1)) (nI n) gc lc fa he hb sh hd fb sb dp l) :
    ∀ k i l, i + k = n → dd_LV l (dd_ps R L i) → wX_findLevels_31 post J (nI p) (k + 1) (nI i) (nI n) gc lc fa he hb sh hd fb sb dp l := by
  intro k
  induction k with
  | zero =>
    intro i l hi H
    have e : i = n := by omega
    subst e
    exact br_t (nI_le (Nat.le_refl _) (by omega)) (nm_r (nI_1 p) (K l H))
  | succ k ih =>
    intro i l hi H
    have hin : i < n := by omega
    have s5 := dd_s5 (hR i hin)
    obtain ⟨e1, e2, e3, e4⟩ := hX i hin
    have up := dd_ps_up hP hL i (by omega)
    refine br_f (nI_ge hin (by omega)) ⟨dd_v8 (by omega), ?_⟩
    rw [nI_clamp (n := i) (by omega), e1]
    refine pk_eq (dd_s (R i)) 4 (fun s4 => dd_x54 hn hin hX hP h5 up H ?_ (fun l' H' => ih (i + 1) l' (by omega) H')) (fun s4 => dd_x54 hn hin hX hP h5 up H ?_ (fun l' H' => ih (i + 1) l' (by omega) H'))
    · unfold dd_w; rw [if_pos s4]; rfl
    · unfold dd_w; rw [if_neg s4]; rfl
theorem dd_xl23 {post : SX → Prop} {R P : Nat → Nat} {n : Nat} (hn : n ≤ 8) (hR : ∀ i, i < n → R i < 1080) (hX : dd_XR R n sh hd fb sb) (hP : dd_Cl R n P) (h5 : ∀ r, P r ≤ 5)
    (K : ∀ l, dd_LV l (dd_it R n 6) → post (nI n, gc, lc, fa, he, hb, sh, hd, fb, sb, dp, l)) :
    ∀ k p l, p + k = 6 → dd_LV l (dd_it R n p) → wX_findLevels_23 post (k + 1) (nI p) (nI n) gc lc fa he hb sh hd fb sb dp l := by
  intro k
  induction k with
  | zero =>
    intro p l hp H
    have e : p = 6 := by omega
    subst e
    exact br_t dd_t6 (K l H)
  | succ k ih =>
    intro p l hp H
    exact br_f (dd_g6 (by omega)) ⟨n + 1, dd_x31 hn hR hX hP h5 (dd_it_up hP p) (fun l' H' => ih (p + 1) l' (by omega) H') n 0 l (by omega) H⟩
theorem dd_xl2 {post : SX → Prop} {R P : Nat → Nat} {n : Nat} (hn : n ≤ 8) (hR : ∀ i, i < n → R i < 1080) (hX : dd_XR R n sh hd fb sb) (hP : dd_Cl R n P) (h5 : ∀ r, P r ≤ 5)
    (K : ∀ l, dd_LV l (dd_it R n 6) → post (nI n, gc, lc, fa, he, hb, sh, hd, fb, sb, dp, l)) :
    ∀ k j l, j + k = 6 → (∀ r, r < j → l r = 0) → wX_findLevels_2 post (nI n) gc lc (k + 1) (nI j) fa he hb sh hd fb sb dp l := by
  intro k
  induction k with
  | zero =>
    intro j l hj H
    have e : j = 6 := by omega
    subst e
    exact br_t dd_t6 ⟨7, dd_xl23 hn hR hX hP h5 K 6 0 l rfl (fun r hr => H r hr)⟩
  | succ k ih =>
    intro j l hj H
    refine br_f (dd_g6 (by omega)) ⟨dd_v6 (by omega), ?_⟩
    rw [nI_clamp (n := j) (by omega)]
    refine nm_e (nm_r (nI_1 j) (ih (j + 1) _ (by omega) (fun r hr => ?_)))
    unfold upd
    by_cases e : r = j
    · rw [if_pos e]
    · rw [if_neg e]; exact H r (by omega)
theorem dd_xfl {post : SX → Prop} {R P F : Nat → Nat} {n : Nat} (hn : n ≤ 8) (hR : ∀ i, i < n → R i < 1080) (hX : dd_XR R n sh hd fb sb) (hP : dd_Cl R n P) (h5 : ∀ r, P r ≤ 5) (hF : dd_Lf R n F)
    (K : ∀ l, dd_LV l F → post (nI n, gc, lc, fa, he, hb, sh, hd, fb, sb, dp, l)) : wpX_findLevels post (nI n, gc, lc, fa, he, hb, sh, hd, fb, sb, dp, lv) :=
  ⟨7, dd_xl2 hn hR hX hP h5 (fun l H => K l (dd_LV_e H (fun r hr => dd_conv6 hF 0 hr))) 6 0 lv rfl (fun _ h => absurd h (Nat.not_lt_zero _))⟩
end
/-! ===== Y's raise ===== -/
theorem dd_up_rise {L : Nat → Nat} {c v : Nat} (h : max (L (dd_h c)) v = dd_need L c) : dd_up L (dd_h c) v = dd_rise L c := by
  funext q
  unfold dd_up dd_rise
  rw [h]
theorem dd_rise_k {L : Nat → Nat} {c v : Nat} (h : max (L (dd_h c)) v = dd_need L c) (k : v ≤ L (dd_h c)) (r : Nat) : dd_rise L c r = L r := by
  rw [← dd_up_rise h]
  unfold dd_up
  split
  · rename_i e
    rw [e, Nat.max_eq_left k]
  · rfl
section
variable {yn : Int32} {ys yh ya yb yf yw yo yl yd : Nat → Int32}
theorem dd_y74 {post : Int32 → SY → Prop} {J : Int32 → Int32 → dd_J9} {f x3 : Int32} {R L : Nat → Nat} {n i v : Nat} (hn : n ≤ 8) (hi : i < n) (hY : dd_YR R n ys yh ya yb) (H : dd_LV yl L) (b1 : L (dd_h (R i)) < 2 ^ 31) (b2 : v < 2 ^ 31) (hx : x3 = nI v)
    (hv : max (L (dd_h (R i))) v = dd_need L (R i))
    (K : ∀ g l, dd_LV l (dd_rise L (R i)) → (g = f ∧ (∀ r, dd_rise L (R i) r = L r)) ∨ g = 1 → J g (nI (i + 1)) ys yh ya yb yf yw yo l yd) :
    wY_raise_74 post J f (nI i) x3 yn ys yh ya yb yf yw yo yl yd := by
  subst hx
  have h6 := dd_h6 (R i)
  obtain ⟨e1, e2, e3, e4⟩ := hY i hi
  have c : (nI i).toNatClampNeg = i := nI_clamp (by omega)
  have i9 : vp_in (nI i) 9 := dd_v9 (by omega)
  unfold wY_raise_74
  rw [c, e2, nI_clamp (n := dd_h (R i)) (by omega), H _ h6]
  have u := dd_up_rise hv
  refine ⟨i9, dd_v6 h6, pk_le v (L (dd_h (R i))) (fun h => nm_r (nI_1 i) (K f yl (by rw [← u]; exact dd_LV_k H h) (Or.inl ⟨rfl, dd_rise_k hv h⟩))) (fun h => ⟨i9, dd_v6 h6, nm_e (nm_r (nI_1 i) (K 1 _ (by rw [← u]; exact dd_LV_u H (by omega)) (Or.inr rfl)))⟩)⟩
theorem dd_y63 {post : Int32 → SY → Prop} {J : Int32 → Int32 → dd_J9} {f x3 z0 : Int32} {R L : Nat → Nat} {n i v w : Nat} (hn : n ≤ 8) (hi : i < n) (hY : dd_YR R n ys yh ya yb) (H : dd_LV yl L) (b1 : L (dd_h (R i)) < 2 ^ 31) (b2 : v < 2 ^ 31) (b3 : w < 2 ^ 31) (hx : x3 = nI v) (hz : z0 = nI w)
    (hv : max (L (dd_h (R i))) (max v w) = dd_need L (R i))
    (K : ∀ g l, dd_LV l (dd_rise L (R i)) → (g = f ∧ (∀ r, dd_rise L (R i) r = L r)) ∨ g = 1 → J g (nI (i + 1)) ys yh ya yb yf yw yo l yd) :
    wY_raise_63 post J f (nI i) x3 z0 yn ys yh ya yb yf yw yo yl yd := by
  subst hx hz
  exact pk_le w v (fun h => dd_y74 hn hi hY H b1 b2 rfl (by rw [Nat.max_eq_left h] at hv; exact hv) K) (fun h => dd_y74 hn hi hY H b1 b3 rfl (by rw [Nat.max_eq_right (Nat.le_of_lt h)] at hv; exact hv) K)
theorem dd_y4 {post : Int32 → SY → Prop} {R L P : Nat → Nat} {n : Nat} (hn : n ≤ 8) (hR : ∀ i, i < n → R i < 1080) (hY : dd_YR R n ys yh ya yb) (hP : dd_Cl R n P) (h5 : ∀ r, P r ≤ 5) (hL : ∀ r, L r ≤ P r)
    (K : ∀ f l, dd_LV l (dd_ps R L n) → (f = 0 ∧ (∀ r, dd_ps R L n r = L r)) ∨ f = 1 → post f (nI n, ys, yh, ya, yb, yf, yw, yo, l, yd)) :
    ∀ k i f l, i + k = n → dd_LV l (dd_ps R L i) → (f = 0 ∧ (∀ r, dd_ps R L i r = L r)) ∨ f = 1 → wY_raise_4 post (nI n) (k + 1) f (nI i) ys yh ya yb yf yw yo l yd := by
  intro k
  induction k with
  | zero =>
    intro i f l hi H G
    have e : i = n := by omega
    subst e
    refine br_t (nI_le (Nat.le_refl _) (by omega)) ⟨?_, K f l H G⟩
    rcases G with G | G
    · rw [G.1]; rfl
    · rw [G]; rfl
  | succ k ih =>
    intro i f l hi H G
    have hin : i < n := by omega
    have s5 := dd_s5 (hR i hin)
    have h6 := dd_h6 (R i)
    have a6 := dd_a6 (R i)
    have b6 := dd_b6 (R i)
    obtain ⟨e1, e2, e3, e4⟩ := hY i hin
    have c : (nI i).toNatClampNeg = i := nI_clamp (by omega)
    have i9 : vp_in (nI i) 9 := dd_v9 (by omega)
    have bd : ∀ r, dd_ps R L i r ≤ 5 := fun r => Nat.le_trans (dd_ps_up hP hL i (by omega) r) (h5 r)
    have bh := bd (dd_h (R i))
    have ba := bd (dd_a (R i))
    have bb := bd (dd_b (R i))
    have w1 := dd_w1 (R i)
    have KK : ∀ g l', dd_LV l' (dd_rise (dd_ps R L i) (R i)) → (g = f ∧ (∀ r, dd_rise (dd_ps R L i) (R i) r = dd_ps R L i r)) ∨ g = 1 → wY_raise_4 post (nI n) (k + 1) g (nI (i + 1)) ys yh ya yb yf yw yo l' yd := by
      intro g l' H' G'
      refine ih (i + 1) g l' (by omega) H' ?_
      rcases G' with ⟨g1, g2⟩ | g1
      · rcases G with ⟨f1, f2⟩ | f1
        · exact Or.inl ⟨g1.trans f1, fun r => (g2 r).trans (f2 r)⟩
        · exact Or.inr (g1.trans f1)
      · exact Or.inr g1
    refine br_f (nI_ge hin (by omega)) ⟨i9, ?_, nm_r (e' := nI (dd_ps R L i (dd_a (R i)))) ?_ ⟨i9, ?_⟩⟩
    · rw [c, e3]; exact dd_v6 a6
    · rw [c, e3, nI_clamp (by omega), H _ a6]
    rw [c, e1, e4, nI_clamp (n := dd_b (R i)) (by omega), H _ b6]
    refine pk_lt (dd_s (R i)) 2 (fun z => br_t rfl ?_) (fun z => br_f (by decide) ⟨i9, dd_v6 b6, i9, pk_eq (dd_s (R i)) 4 (fun s4 => ?_) (fun s4 => ?_)⟩)
    · refine dd_y63 hn hin hY H (by omega) (by omega) (w := 0) (by omega) rfl rfl ?_ KK
      have w0 : dd_w (R i) = 0 := by unfold dd_w; rw [if_neg (by omega)]
      unfold dd_need
      rw [dd_e1 z, w0]
      omega
    · refine dd_y63 hn hin hY H (by omega) (by omega) (w := dd_ps R L i (dd_b (R i)) + 1) (by omega) rfl (by rw [← nI_1]) ?_ KK
      have w0 : dd_w (R i) = 1 := by unfold dd_w; rw [if_pos s4]
      unfold dd_need
      rw [dd_e2 (by omega), w0]
    · refine dd_y63 hn hin hY H (by omega) (by omega) (w := dd_ps R L i (dd_b (R i))) (by omega) rfl (by rw [Int32.add_zero]) ?_ KK
      have w0 : dd_w (R i) = 0 := by unfold dd_w; rw [if_neg s4]
      unfold dd_need
      rw [dd_e2 (by omega), w0]
      rfl
theorem dd_yra {post : Int32 → SY → Prop} {R L P : Nat → Nat} {n : Nat} (hn : n ≤ 8) (hR : ∀ i, i < n → R i < 1080) (hY : dd_YR R n ys yh ya yb) (hP : dd_Cl R n P) (h5 : ∀ r, P r ≤ 5) (hL : ∀ r, L r ≤ P r) (H : dd_LV yl L)
    (K : ∀ f l, dd_LV l (dd_ps R L n) → (f = 0 ∧ (∀ r, dd_ps R L n r = L r)) ∨ f = 1 → post f (nI n, ys, yh, ya, yb, yf, yw, yo, l, yd)) : wpY_raise post (nI n, ys, yh, ya, yb, yf, yw, yo, yl, yd) :=
  ⟨n + 1, dd_y4 hn hR hY hP h5 hL K n 0 0 yl (by omega) H (Or.inl ⟨rfl, fun _ => rfl⟩)⟩
theorem dd_y64 {post : SY → Prop} {R P F : Nat → Nat} {n : Nat} (hn : n ≤ 8) (hR : ∀ i, i < n → R i < 1080) (hY : dd_YR R n ys yh ya yb) (hP : dd_Cl R n P) (h5 : ∀ r, P r ≤ 5) (hF : dd_Lf R n F)
    (K : ∀ l, dd_LV l F → ∃ m, wY_settle_87 post m 0 (nI n) ys yh ya yb yf yw yo l yd) :
    ∀ k p f l, p + k = 37 → dd_LV l (dd_it R n p) → (f = 0 ∧ dd_Cl R n (dd_it R n p)) ∨ f = 1 → wY_settle_64 post (k + 1) f (nI p) (nI n) ys yh ya yb yf yw yo l yd := by
  intro k
  induction k with
  | zero =>
    intro p f l hp H G
    have e : p = 37 := by omega
    subst e
    exact br_t (nI_le (a := 37) (Nat.le_refl _) (by decide)) (K l (dd_LV_e H (fun r hr => dd_conv6 hF 31 hr)))
  | succ k ih =>
    intro p f l hp H G
    refine br_f (nI_ge (b := 37) (by omega) (by decide)) ?_
    rcases G with ⟨f0, G⟩ | f1
    · exact br_t f0 (K l (dd_LV_e H (fun r hr => dd_conv_cl hF G r)))
    · refine br_f (by rw [f1]; decide) (dd_yra hn hR hY hP h5 (dd_it_up hP p) H (fun g l' H' G' => nm_r (nI_1 p) (ih (p + 1) g l' (by omega) H' ?_)))
      rcases G' with ⟨g0, G'⟩ | g1
      · exact Or.inl ⟨g0, dd_Cl_e (fun r _ => (G' r).symm) (dd_ps_cl (fun r _ => G' r))⟩
      · exact Or.inr g1
end
end
section
/-! ===== a pass, cell by cell: rules below q are done, and of rule q the cells below m ===== -/
def dd_PQ (R : Nat → Nat) (n : Nat) (L : Nat → Nat) (l : Nat) (T0 T T' : Nat → Bool) (f : Bool) (q m : Nat) : Prop :=
  dd_Inv R n L l T0 T' ∧ dd_Sub T T' ∧
  (f = false → dd_Eq T T' ∧ ∀ i x y, i < n → L (dd_h (R i)) = l → x < 6 → y < 6 → (i < q ∨ i = q ∧ 6 * x + y < m) → dd_gv T' (R i) x y = true → T' (36 * dd_h (R i) + 6 * x + y) = true) ∧
  (f = true → dd_cnt T 216 < dd_cnt T' 216)
section
variable {R : Nat → Nat} {n : Nat} {L : Nat → Nat} {l : Nat} {T0 T T' T'' : Nat → Bool} {f : Bool} {q m : Nat}
theorem dd_PQ_0 (h : dd_Inv R n L l T0 T) : dd_PQ R n L l T0 T T false 0 0 :=
  ⟨h, fun _ _ z => z, fun _ => ⟨fun _ _ => rfl, fun i x y _ _ _ _ z _ => by omega⟩, fun z => absurd z (by decide)⟩
theorem dd_PQ_n (h : dd_PQ R n L l T0 T T' f q 36) : dd_PQ R n L l T0 T T' f (q + 1) 0 := by
  refine ⟨h.1, h.2.1, fun z => ⟨(h.2.2.1 z).1, fun i x y hi e hx hy d g => ?_⟩, h.2.2.2⟩
  exact (h.2.2.1 z).2 i x y hi e hx hy (by omega) g
theorem dd_PQ_j (h : dd_PQ R n L l T0 T T' f q 0) (hq : L (dd_h (R q)) ≠ l) : dd_PQ R n L l T0 T T' f (q + 1) 0 := by
  refine ⟨h.1, h.2.1, fun z => ⟨(h.2.2.1 z).1, fun i x y hi e hx hy d g => ?_⟩, h.2.2.2⟩
  have ne : i ≠ q := by
    intro z
    rw [z] at e
    exact hq e
  exact (h.2.2.1 z).2 i x y hi e hx hy (by omega) g
theorem dd_PQ_k {m' : Nat} (h : dd_PQ R n L l T0 T T' f q m) (k : ∀ x y, x < 6 → y < 6 → m ≤ 6 * x + y → 6 * x + y < m' → dd_gv T' (R q) x y = true → T' (36 * dd_h (R q) + 6 * x + y) = true) : dd_PQ R n L l T0 T T' f q m' := by
  refine ⟨h.1, h.2.1, fun z => ⟨(h.2.2.1 z).1, fun i x y hi e hx hy d g => ?_⟩, h.2.2.2⟩
  by_cases c : i < q ∨ i = q ∧ 6 * x + y < m
  · exact (h.2.2.1 z).2 i x y hi e hx hy c g
  · have e' : i = q := by omega
    subst e'
    exact k x y hx hy (by omega) (by omega) g
theorem dd_PQ_s {m' a : Nat} (hR : ∀ i, i < n → R i < 1080) (hL : dd_Cl R n L) (h : dd_PQ R n L l T0 T T' f q m) (s : dd_Sub T' T'')
    (hn : ∀ k, k < 216 → T'' k = true → T' k = true ∨ ∃ i x y, i < n ∧ L (dd_h (R i)) = l ∧ x < 6 ∧ y < 6 ∧ k = 36 * dd_h (R i) + 6 * x + y ∧ dd_gv T' (R i) x y = true)
    (ha : a < 216) (h1 : T' a = false) (h2 : T'' a = true) : dd_PQ R n L l T0 T T'' true q m' := by
  refine ⟨dd_Inv_s hR hL h.1 s hn, fun k hk z => s k hk (h.2.1 k hk z), fun z => absurd z (by decide), fun _ => ?_⟩
  have := dd_cnt_lt h1 h2 (n := 216) s ha
  have := dd_cnt_mono (n := 216) h.2.1
  omega
theorem dd_PQ_f (h : dd_PQ R n L l T0 T T' f n 0) : dd_PR R n L l T0 T T' f := by
  refine ⟨h.1, h.2.1, fun z => ⟨(h.2.2.1 z).1, fun i hi e x y hx hy g => (h.2.2.1 z).2 i x y hi e hx hy (Or.inl hi) g⟩, h.2.2.2⟩
end
/-! ===== X: what a row is given ===== -/
def dd_bI (b : Bool) : Int32 := if b = true then 1 else 0
theorem dd_bI_n (b : Bool) : narrow .boolean (.int (dd_bI b)) = .int (dd_bI b) := by cases b <;> rfl
theorem dd_bI_0 {b : Bool} : dd_bI b = 0 ↔ b = false := by cases b <;> decide
theorem dd_i6 (a x : Nat) : (6 : Int32) * nI a + nI x = nI (6 * a + x) := by
  show nI 6 * nI a + nI x = _
  rw [pk_mul, nI_add]
theorem dd_i36 (a : Nat) : (36 : Int32) * nI a = nI (36 * a) := by
  show nI 36 * nI a = _
  rw [pk_mul]
theorem dd_m6 (a : Nat) : (6 : Int32) * nI a = nI (6 * a) := by
  show nI 6 * nI a = _
  rw [pk_mul]
/-- v's bits are g below 6, and no others -/
def dd_RB (v : Int32) (g : Nat → Bool) : Prop := ∀ i, i < 32 → bt v i = (decide (i < 6) && g i)
section
variable {rc gc lc : Int32} {fa he hb sh hd fb sb dp lv : Nat → Int32}
theorem dd_xt5 {post : Int32 → Prop} {T : Nat → Bool} {a x : Nat} (ha : a < 6) (hx : x < 6) (H : dd_XH he T) (K : ∀ v, dd_RB v (fun y => T (36 * a + 6 * y + x)) → post v) :
    ∀ k y v, y + k = 6 → (∀ i, i < 32 → bt v i = (decide (i < y) && T (36 * a + 6 * i + x))) → wX_turnedRow_5 post (nI a) (nI x) rc gc lc fa he hb sh hd fb sb dp lv (k + 1) v (nI y) := by
  intro k
  induction k with
  | zero =>
    intro y v hy G
    have e : y = 6 := by omega
    subst e
    exact br_t dd_t6 (K v G)
  | succ k ih =>
    intro y v hy G
    refine br_f (dd_g6 (by omega)) ?_
    rw [dd_i6, nI_clamp (n := 6 * a + y) (by omega), dd_bit _ (show x < 32 by omega), H _ (by omega) x (by omega), decide_eq_true hx, Bool.true_and]
    refine ⟨dd_v36 (by omega), nm_e (nm_r (nI_1 y) (ih (y + 1) _ (by omega) (fun i hi => ?_)))⟩
    rw [b_or, b_shl y (by omega) _ hi, G i hi]
    have e0 : 6 * (6 * a + y) + x = 36 * a + 6 * y + x := by omega
    rw [e0]
    rcases Nat.lt_trichotomy i y with z | z | z
    · rw [decide_eq_true z, decide_eq_false (show ¬ y ≤ i by omega), decide_eq_true (show i < y + 1 by omega), Bool.false_and, Bool.or_false]
    · subst z
      rw [decide_eq_false (show ¬ i < i by omega), decide_eq_true (show i ≤ i by omega), decide_eq_true (show i < i + 1 by omega), Nat.sub_self, dd_b2i _ 0 (by omega)]
      simp
    · rw [decide_eq_false (show ¬ i < y by omega), decide_eq_false (show ¬ i < y + 1 by omega), dd_b2i _ (i - y) (by omega), decide_eq_false (show ¬ i - y = 0 by omega)]
      simp
theorem dd_xt {post : Int32 → Prop} {T : Nat → Bool} {a x : Nat} (ha : a < 6) (hx : x < 6) (H : dd_XH he T) (K : ∀ v, dd_RB v (fun y => T (36 * a + 6 * y + x)) → post v) :
    wpX_turnedRow post (rc, gc, lc, fa, he, hb, sh, hd, fb, sb, dp, lv) (nI a) (nI x) :=
  ⟨7, dd_xt5 ha hx H K 6 0 0 rfl (fun i _ => by rw [b_0, decide_eq_false (Nat.not_lt_zero i), Bool.false_and])⟩
theorem dd_xj6 {post : Int32 → Prop} {T : Nat → Bool} {a b x : Nat} (ha : a < 6) (hb6 : b < 6) (hx : x < 6) (H : dd_XH he T) (K : ∀ v, dd_RB v (fun y => dd_ex (fun z => T (36 * a + 6 * x + z) && T (36 * b + 6 * z + y)) 6) → post v) :
    ∀ k y v, y + k = 6 → dd_RB v (fun i => dd_ex (fun z => T (36 * a + 6 * x + z) && T (36 * b + 6 * z + i)) y) → wX_joinedRow_6 post (nI a) (nI b) (nI x) rc gc lc fa he hb sh hd fb sb dp lv (k + 1) v (nI y) := by
  intro k
  induction k with
  | zero =>
    intro y v hy G
    have e : y = 6 := by omega
    subst e
    exact br_t dd_t6 (K v G)
  | succ k ih =>
    intro y v hy G
    have hy6 : y < 6 := by omega
    have e0 : 6 * (6 * a + x) + y = 36 * a + 6 * x + y := by omega
    have hb := dd_bit1 (he (6 * a + x)) (show y < 32 by omega)
    rw [H _ (by omega) y (by omega), decide_eq_true hy6, Bool.true_and, e0] at hb
    refine br_f (dd_g6 hy6) ?_
    rw [dd_i6, dd_i6, nI_clamp (n := 6 * a + x) (by omega), nI_clamp (n := 6 * b + y) (by omega)]
    refine ⟨dd_v36 (by omega), br_c (fun z => ⟨dd_v36 (by omega), nm_e (nm_r (nI_1 y) (ih (y + 1) _ (by omega) (fun i hi => ?_)))⟩) (fun z => nm_r (nI_1 y) (ih (y + 1) _ (by omega) (fun i hi => ?_)))⟩
    · rw [b_or, G i hi, H _ (by omega) i hi]
      have e1 : 6 * (6 * b + y) + i = 36 * b + 6 * y + i := by omega
      rw [e1]
      show _ = (decide (i < 6) && (dd_ex (fun z => T (36 * a + 6 * x + z) && T (36 * b + 6 * z + i)) y || (T (36 * a + 6 * x + y) && T (36 * b + 6 * y + i))))
      rw [hb.mp z, Bool.true_and]
      cases decide (i < 6) <;> rfl
    · rw [G i hi]
      show _ = (decide (i < 6) && (dd_ex (fun z => T (36 * a + 6 * x + z) && T (36 * b + 6 * z + i)) y || (T (36 * a + 6 * x + y) && T (36 * b + 6 * y + i))))
      have : T (36 * a + 6 * x + y) = false := Bool.eq_false_iff.mpr (fun w => z (hb.mpr w))
      rw [this, Bool.false_and, Bool.or_false]
theorem dd_xj {post : Int32 → Prop} {T : Nat → Bool} {a b x : Nat} (ha : a < 6) (hb6 : b < 6) (hx : x < 6) (H : dd_XH he T) (K : ∀ v, dd_RB v (fun y => dd_ex (fun z => T (36 * a + 6 * x + z) && T (36 * b + 6 * z + y)) 6) → post v) :
    wpX_joinedRow post (rc, gc, lc, fa, he, hb, sh, hd, fb, sb, dp, lv) (nI a) (nI b) (nI x) :=
  ⟨7, dd_xj6 ha hb6 hx H K 6 0 0 rfl (fun i _ => by rw [b_0]; exact (Bool.and_false _).symm)⟩
theorem dd_xg {post : Int32 → Prop} {R : Nat → Nat} {T : Nat → Bool} {n q x : Nat} (hn : n ≤ 8) (hR : ∀ i, i < n → R i < 1080) (hX : dd_XR R n sh hd fb sb) (hq : q < n) (hx : x < 6) (H : dd_XH he T)
    (K : ∀ v, dd_RB v (fun y => dd_gv T (R q) x y) → post v) : wpX_rowGiven post (rc, gc, lc, fa, he, hb, sh, hd, fb, sb, dp, lv) (nI q) (nI x) := by
  have s5 := dd_s5 (hR q hq)
  have a6 := dd_a6 (R q)
  have b6 := dd_b6 (R q)
  obtain ⟨e1, e2, e3, e4⟩ := hX q hq
  have c : (nI q).toNatClampNeg = q := nI_clamp (by omega)
  have i8 : vp_in (nI q) 8 := dd_v8 (by omega)
  have rowA : 6 * (6 * dd_a (R q) + x) = 36 * dd_a (R q) + 6 * x := by omega
  have rowB : 6 * (6 * dd_b (R q) + x) = 36 * dd_b (R q) + 6 * x := by omega
  have HA := H (6 * dd_a (R q) + x) (by omega)
  have HB := H (6 * dd_b (R q) + x) (by omega)
  rw [rowA] at HA
  rw [rowB] at HB
  have vA : vp_in ((6 : Int32) * nI (dd_a (R q)) + nI x) 36 := by rw [dd_i6]; exact dd_v36 (by omega)
  have cA : ((6 : Int32) * nI (dd_a (R q)) + nI x).toNatClampNeg = 6 * dd_a (R q) + x := by rw [dd_i6]; exact nI_clamp (by omega)
  refine ⟨i8, nm_r (by rw [c, e3]) ⟨i8, nm_r (by rw [c, e4]) ⟨i8, nm_r (by rw [c, e1]) ?_⟩⟩⟩
  refine br_f (nI_pos (by omega)) (pk_lt 3 (dd_s (R q)) (fun s4 => ?_) (fun s3 => pk_eq (dd_s (R q)) 0 (fun s0 => ?_) (fun s0 => pk_eq (dd_s (R q)) 1 (fun s1 => ?_) (fun s1 => pk_eq (dd_s (R q)) 2 (fun s2 => ?_) (fun s2 => pk_eq (dd_s (R q)) 3 (fun s3' => ?_) (fun s3' => trivial))))))
  · rw [dd_e2 (by omega), dd_i6 (dd_b (R q)) x, nI_clamp (n := 6 * dd_b (R q) + x) (by omega), cA]
    refine ⟨vA, dd_v36 (by omega), K _ (fun i hi => ?_)⟩
    rw [b_and, b_xor, b_m1 i hi, HA i hi, HB i hi]
    unfold dd_gv
    dsimp only
    rw [if_neg (by omega), if_neg (by omega), if_neg (by omega), if_neg (by omega)]
    cases decide (i < 6) <;> simp
  · rw [cA]
    refine ⟨vA, K _ (fun i hi => ?_)⟩
    rw [HA i hi]
    unfold dd_gv
    dsimp only
    rw [if_pos s0]
  · refine dd_xt a6 hx H (fun v hv => K v (fun i hi => ?_))
    rw [hv i hi]
    unfold dd_gv
    dsimp only
    rw [if_neg (by omega), if_pos s1]
  · rw [dd_e2 (by omega)]
    refine dd_xj a6 b6 hx H (fun v hv => K v (fun i hi => ?_))
    rw [hv i hi]
    unfold dd_gv
    dsimp only
    rw [if_neg (by omega), if_neg (by omega), if_pos s2]
  · rw [dd_e2 (by omega), dd_i6 (dd_b (R q)) x, nI_clamp (n := 6 * dd_b (R q) + x) (by omega), cA]
    refine ⟨vA, dd_v36 (by omega), K _ (fun i hi => ?_)⟩
    rw [b_and, HA i hi, HB i hi]
    unfold dd_gv
    dsimp only
    rw [if_neg (by omega), if_neg (by omega), if_neg (by omega), if_pos s3']
    cases decide (i < 6) <;> simp
/-! ===== X: a rule, a pass, a level ===== -/
theorem dd_xa4 {post : Int32 → SX → Prop} {R L : Nat → Nat} {T0 T : Nat → Bool} {n l q : Nat} {f : Bool} (hn : n ≤ 8) (hR : ∀ i, i < n → R i < 1080) (hL : dd_Cl R n L) (hX : dd_XR R n sh hd fb sb) (hq : q < n) (hl : L (dd_h (R q)) = l)
    (K : ∀ g h' T', dd_XH h' T' → dd_PQ R n L l T0 T T' (f || g) q 36 → post (dd_bI g) (rc, gc, lc, fa, h', hb, sh, hd, fb, sb, dp, lv)) :
    ∀ k x g h' T', x + k = 6 → dd_XH h' T' → dd_PQ R n L l T0 T T' (f || g) q (6 * x) → wX_applyRule_4 post (nI q) rc gc lc (k + 1) (dd_bI g) (nI x) fa h' hb sh hd fb sb dp lv := by
  intro k
  induction k with
  | zero =>
    intro x g h' T' hx H Q
    have e : x = 6 := by omega
    subst e
    exact br_t dd_t6 ⟨dd_bI_n g, K g h' T' H Q⟩
  | succ k ih =>
    intro x g h' T' hx H Q
    have hx6 : x < 6 := by omega
    have h6 := dd_h6 (R q)
    obtain ⟨e1, e2, e3, e4⟩ := hX q hq
    have c : (nI q).toNatClampNeg = q := nI_clamp (by omega)
    have v36 : vp_in (nI (6 * dd_h (R q) + x)) 36 := dd_v36 (by omega)
    have HH := H (6 * dd_h (R q) + x) (by omega)
    refine br_f (dd_g6 hx6) ⟨dd_v8 (by omega), nm_r (by rw [c, e2, dd_i6]) ⟨v36, dd_xg hn hR hX hq hx6 H (fun v hv => ?_)⟩⟩
    rw [nI_clamp (n := 6 * dd_h (R q) + x) (by omega)]
    refine nm_e ⟨v36, br_c (fun z => nm_r (nI_1 x) (ih (x + 1) g h' T' (by omega) H ?_)) (fun z => ⟨v36, nm_e (nm_r (nI_1 x) (ih (x + 1) true _ _ (by omega) (dd_XH_u H (g := fun y => T' (6 * (6 * dd_h (R q) + x) + y) || dd_gv T' (R q) x y) ?_) ?_))⟩)⟩
    · refine dd_PQ_k Q (fun x' y hx' hy a b g => ?_)
      have ex : x' = x := by omega
      subst ex
      have bz := congrArg (fun w => bt w y) z
      rw [b_or, HH y (by omega), hv y (by omega), decide_eq_true hy] at bz
      dsimp only at bz
      rw [g] at bz
      have e0 : 6 * (6 * dd_h (R q) + x') + y = 36 * dd_h (R q) + 6 * x' + y := by omega
      rw [e0] at bz
      simpa using bz
    · intro i hi
      rw [b_or, HH i hi, hv i hi]
      cases decide (i < 6) <;> rfl
    · have hd : ∃ y, y < 6 ∧ T' (6 * (6 * dd_h (R q) + x) + y) = false ∧ dd_gv T' (R q) x y = true := by
        apply Classical.byContradiction
        intro no
        refine z (b_ext fun i hi => ?_)
        rw [b_or, HH i hi, hv i hi]
        by_cases i6 : i < 6
        · rw [decide_eq_true i6, Bool.true_and, Bool.true_and]
          dsimp only
          cases t : T' (6 * (6 * dd_h (R q) + x) + i)
          · cases u : dd_gv T' (R q) x i
            · rfl
            · exact absurd ⟨i, i6, t, u⟩ no
          · rfl
        · rw [decide_eq_false i6]; rfl
      obtain ⟨y, hy, t, u⟩ := hd
      rw [Bool.or_true]
      have ey : (6 * (6 * dd_h (R q) + x) + y) / 6 = 6 * dd_h (R q) + x := by omega
      have ey2 : (6 * (6 * dd_h (R q) + x) + y) % 6 = y := by omega
      refine dd_PQ_s (a := 6 * (6 * dd_h (R q) + x) + y) hR hL Q (fun k hk w => ?_) (fun k hk w => ?_) (by omega) t ?_
      · unfold dd_row
        split
        · rename_i e
          have : 6 * (6 * dd_h (R q) + x) + k % 6 = k := by omega
          dsimp only
          rw [this, w]; rfl
        · exact w
      · unfold dd_row at w
        by_cases e : k / 6 = 6 * dd_h (R q) + x
        · rw [if_pos e] at w
          have e9 : 6 * (6 * dd_h (R q) + x) + k % 6 = k := by omega
          dsimp only at w
          rw [e9, Bool.or_eq_true] at w
          rcases w with w | w
          · exact Or.inl w
          · exact Or.inr ⟨q, x, k % 6, hq, hl, hx6, by omega, by omega, w⟩
        · rw [if_neg e] at w
          exact Or.inl w
      · unfold dd_row
        rw [if_pos ey, ey2]
        dsimp only
        rw [u, Bool.or_true]
theorem dd_xa {post : Int32 → SX → Prop} {R L : Nat → Nat} {T0 T T' : Nat → Bool} {n l q : Nat} {f : Bool} (hn : n ≤ 8) (hR : ∀ i, i < n → R i < 1080) (hL : dd_Cl R n L) (hX : dd_XR R n sh hd fb sb) (hq : q < n) (hl : L (dd_h (R q)) = l) (H : dd_XH he T') (Q : dd_PQ R n L l T0 T T' f q 0)
    (K : ∀ g h' T', dd_XH h' T' → dd_PQ R n L l T0 T T' (f || g) q 36 → post (dd_bI g) (rc, gc, lc, fa, h', hb, sh, hd, fb, sb, dp, lv)) : wpX_applyRule post (rc, gc, lc, fa, he, hb, sh, hd, fb, sb, dp, lv) (nI q) :=
  ⟨7, dd_xa4 hn hR hL hX hq hl K 6 0 false he T' rfl H (by rw [Bool.or_false]; exact Q)⟩
theorem dd_x20 {post : SX → Prop} {J : Int32 → Int32 → Int32 → Int32 → Int32 → dd_J9} {R L : Nat → Nat} {T0 T : Nat → Bool} {n l p : Nat} (hn : n ≤ 8) (hR : ∀ i, i < n → R i < 1080) (hL : dd_Cl R n L) (h5 : ∀ r, L r ≤ 5) (hl : l < 6) (hV : dd_LV lv L) (hX : dd_XR R n sh hd fb sb)
    (K : ∀ f h' T', dd_XH h' T' → dd_PR R n L l T0 T T' f → J (dd_bI f) (nI (p + 1)) (nI n) gc lc fa h' hb sh hd fb sb dp lv) :
    ∀ k q f h' T', q + k = n → dd_XH h' T' → dd_PQ R n L l T0 T T' f q 0 → wX_settleLevel_20 post J (nI l) (nI p) (k + 1) (dd_bI f) (nI q) (nI n) gc lc fa h' hb sh hd fb sb dp lv := by
  intro k
  induction k with
  | zero =>
    intro q f h' T' hq H Q
    have e : q = n := by omega
    subst e
    exact br_t (nI_le (Nat.le_refl _) (by omega)) (nm_r (nI_1 p) (K f h' T' H (dd_PQ_f Q)))
  | succ k ih =>
    intro q f h' T' hq H Q
    have hqn : q < n := by omega
    have h6 := dd_h6 (R q)
    obtain ⟨e1, e2, e3, e4⟩ := hX q hqn
    have b5 := h5 (dd_h (R q))
    refine br_f (nI_ge hqn (by omega)) ?_
    rw [nI_clamp (n := q) (by omega), e2, nI_clamp (n := dd_h (R q)) (by omega), hV _ h6]
    refine ⟨dd_v8 (by omega), dd_v6 h6, pk_eq (L (dd_h (R q))) l (fun z => dd_xa hn hR hL hX hqn z H Q (fun g h2 T2 H2 Q2 => ?_)) (fun z => nm_r (nI_1 q) (ih (q + 1) f h' T' (by omega) H (dd_PQ_j Q z)))⟩
    cases g with
    | false => exact br_t rfl (nm_r (nI_1 q) (ih (q + 1) f h2 T2 (by omega) H2 (by rw [Bool.or_false] at Q2; exact dd_PQ_n Q2)))
    | true => exact br_f (by decide) (nm_r (nI_1 q) (ih (q + 1) true h2 T2 (by omega) H2 (by rw [Bool.or_true] at Q2; exact dd_PQ_n Q2)))
theorem dd_x4 {post : SX → Prop} {R L : Nat → Nat} {T0 : Nat → Bool} {n l : Nat} (hn : n ≤ 8) (hR : ∀ i, i < n → R i < 1080) (hL : dd_Cl R n L) (h5 : ∀ r, L r ≤ 5) (hl : l < 6) (hV : dd_LV lv L) (hX : dd_XR R n sh hd fb sb)
    (K : ∀ h' T', dd_XH h' T' → dd_Fin R n L l T0 T' → post (nI n, gc, lc, fa, h', hb, sh, hd, fb, sb, dp, lv)) :
    ∀ k p f h' T', p + k = 216 → dd_XH h' T' → dd_PI R n L l T0 p f T' → wX_settleLevel_4 post (nI l) (k + 1) (dd_bI f) (nI p) (nI n) gc lc fa h' hb sh hd fb sb dp lv := by
  intro k
  induction k with
  | zero =>
    intro p f h' T' hp H Q
    have e : p = 216 := by omega
    subst e
    exact br_t (nI_le (a := 216) (Nat.le_refl _) (by decide)) (K h' T' H (dd_PI_f Q (Or.inr (Nat.le_refl _))))
  | succ k ih =>
    intro p f h' T' hp H Q
    refine br_f (nI_ge (b := 216) (by omega) (by decide)) ?_
    cases f with
    | false => exact br_t rfl (K h' T' H (dd_PI_f Q (Or.inl rfl)))
    | true => exact br_f (by decide) ⟨n + 1, dd_x20 hn hR hL h5 hl hV hX (fun f2 h2 T2 H2 Q2 => ih (p + 1) f2 h2 T2 (by omega) H2 (dd_PI_s Q Q2)) n 0 false h' T' (by omega) H (dd_PQ_0 Q.1)⟩
theorem dd_xse {post : SX → Prop} {R L : Nat → Nat} {T : Nat → Bool} {n l : Nat} (hn : n ≤ 8) (hR : ∀ i, i < n → R i < 1080) (hL : dd_Cl R n L) (h5 : ∀ r, L r ≤ 5) (hl : l < 6) (hV : dd_LV lv L) (hX : dd_XR R n sh hd fb sb) (H : dd_XH he T)
    (K : ∀ h' T', dd_XH h' T' → dd_Fin R n L l T T' → post (nI n, gc, lc, fa, h', hb, sh, hd, fb, sb, dp, lv)) : wpX_settleLevel post (nI n, gc, lc, fa, he, hb, sh, hd, fb, sb, dp, lv) (nI l) :=
  ⟨217, dd_x4 hn hR hL h5 hl hV hX K 216 0 true he T rfl H (dd_PI_0 R n L l T)⟩
end
end
section
/-! ===== X: counts and update ===== -/
section
variable {rc gc lc : Int32} {fa he hb sh hd fb sb dp lv : Nat → Int32}
theorem dd_xs4 {post : Int32 → Prop} {v : Int32} (K : post (nI (dd_cnt (bt v) 6))) : ∀ k y, y + k = 6 → wX_sizeOfSet_4 post v (k + 1) (nI (dd_cnt (bt v) y)) (nI y) := by
  intro k
  induction k with
  | zero =>
    intro y hy
    have e : y = 6 := by omega
    subst e
    exact br_t dd_t6 K
  | succ k ih =>
    intro y hy
    refine br_f (dd_g6 (by omega)) (nm_r (e' := nI (dd_cnt (bt v) (y + 1))) ?_ (nm_r (nI_1 y) (ih (y + 1) (by omega))))
    rw [dd_bit _ (show y < 32 by omega)]
    show _ = nI (dd_cnt (bt v) y + (if bt v y = true then 1 else 0))
    rw [← nI_add]
    by_cases z : bt v y = true
    · rw [if_pos z, if_pos z]; rfl
    · rw [if_neg z, if_neg z]; rfl
theorem dd_xs {post : Int32 → Prop} {v : Int32} {f : Nat → Bool} (hv : ∀ i, i < 6 → bt v i = f i) (K : post (nI (dd_cnt f 6))) : wpX_sizeOfSet post v :=
  ⟨7, dd_xs4 (by rw [dd_cnt_eq hv]; exact K) 6 0 rfl⟩
theorem dd_cnt6 (f : Nat → Bool) (row : Nat) : dd_cnt f (6 * (row + 1)) = dd_cnt f (6 * row) + dd_cnt (fun i => f (6 * row + i)) 6 := by
  rw [← dd_cnt_add]
  rfl
theorem dd_xc12 {post : SX → Prop} {T B : Nat → Bool} (H : dd_XH he T) (H0 : dd_XH hb B)
    (K : post (rc, nI (dd_cnt (fun k => T k && !B k) 216), nI (dd_cnt (fun k => B k && !T k) 216), fa, he, hb, sh, hd, fb, sb, dp, lv)) :
    ∀ k row, row + k = 36 → wX_countChanges_12 post rc fa he hb sh hd fb sb dp lv (k + 1) (nI row) (nI (dd_cnt (fun k => T k && !B k) (6 * row))) (nI (dd_cnt (fun k => B k && !T k) (6 * row))) := by
  intro k
  induction k with
  | zero =>
    intro row hr
    have e : row = 36 := by omega
    subst e
    exact br_t (nI_le (a := 36) (Nat.le_refl _) (by decide)) K
  | succ k ih =>
    intro row hr
    have h36 : row < 36 := by omega
    have v36 : vp_in (nI row) 36 := dd_v36 h36
    have c : (nI row).toNatClampNeg = row := nI_clamp (by omega)
    refine br_f (nI_ge (b := 36) (by omega) (by decide)) ?_
    rw [c]
    refine ⟨v36, v36, dd_xs (f := fun i => T (6 * row + i) && !B (6 * row + i)) (fun i hi => ?_) (nm_r (e' := nI (dd_cnt (fun k => T k && !B k) (6 * (row + 1)))) ?_ ⟨v36, v36, dd_xs (f := fun i => B (6 * row + i) && !T (6 * row + i)) (fun i hi => ?_) (nm_r (e' := nI (dd_cnt (fun k => B k && !T k) (6 * (row + 1)))) ?_ (nm_r (nI_1 row) (ih (row + 1) (by omega))))⟩)⟩
    · rw [b_and, b_xor, b_m1 i (by omega), H row h36 i (by omega), H0 row h36 i (by omega), decide_eq_true hi]
      simp
    · rw [nI_add, dd_cnt6]
    · rw [b_and, b_xor, b_m1 i (by omega), H row h36 i (by omega), H0 row h36 i (by omega), decide_eq_true hi]
      simp
    · rw [nI_add, dd_cnt6]
theorem dd_xc {post : SX → Prop} {T B : Nat → Bool} (H : dd_XH he T) (H0 : dd_XH hb B)
    (K : post (rc, nI (dd_cnt (fun k => T k && !B k) 216), nI (dd_cnt (fun k => B k && !T k) 216), fa, he, hb, sh, hd, fb, sb, dp, lv)) : wpX_countChanges post (rc, gc, lc, fa, he, hb, sh, hd, fb, sb, dp, lv) :=
  ⟨37, dd_xc12 H H0 K 36 0 rfl⟩
theorem dd_x44 {post : SX → Prop} {R L : Nat → Nat} {Fc B : Nat → Bool} {n : Nat} (hn : n ≤ 8) (hR : ∀ i, i < n → R i < 1080) (hL : dd_Cl R n L) (h5 : ∀ r, L r ≤ 5) (hV : dd_LV lv L) (hX : dd_XR R n sh hd fb sb) (H0 : dd_XH hb B)
    (K : ∀ h' T', dd_XH h' T' → dd_FA R n L Fc 6 T' → post (nI n, nI (dd_cnt (fun k => T' k && !B k) 216), nI (dd_cnt (fun k => B k && !T' k) 216), fa, h', hb, sh, hd, fb, sb, dp, lv)) :
    ∀ k l h' T', l + k = 6 → dd_XH h' T' → dd_FA R n L Fc l T' → wX_update_44 post (k + 1) (nI l) (nI n) gc lc fa h' hb sh hd fb sb dp lv := by
  intro k
  induction k with
  | zero =>
    intro l h' T' hl H Q
    have e : l = 6 := by omega
    subst e
    exact br_t dd_t6 (dd_xc H H0 (K h' T' H Q))
  | succ k ih =>
    intro l h' T' hl H Q
    exact br_f (dd_g6 (by omega)) (dd_xse hn hR hL h5 (by omega) hV hX H (fun h2 T2 H2 Q2 => nm_r (nI_1 l) (ih (l + 1) h2 T2 (by omega) H2 ⟨T', Q, Q2⟩)))
theorem dd_xu2 {post : SX → Prop} {R P F : Nat → Nat} {Fc T : Nat → Bool} {n : Nat} (hn : n ≤ 8) (hR : ∀ i, i < n → R i < 1080) (hX : dd_XR R n sh hd fb sb) (hP : dd_Cl R n P) (h5 : ∀ r, P r ≤ 5) (hF : dd_Lf R n F) (H1 : dd_XH fa Fc) (H2 : dd_XH he T)
    (K : ∀ h' b' l' T', dd_XH h' T' → dd_FA R n F Fc 6 T' → post (nI n, nI (dd_cnt (fun k => T' k && !T k) 216), nI (dd_cnt (fun k => T k && !T' k) 216), fa, h', b', sh, hd, fb, sb, dp, l')) :
    ∀ k j h b, j + k = 36 → (∀ r, r < j → h r = fa r) → (∀ r, j ≤ r → h r = he r) → (∀ r, r < j → b r = he r) → wX_update_2 post (nI n) gc lc (k + 1) (nI j) fa h b sh hd fb sb dp lv := by
  intro k
  induction k with
  | zero =>
    intro j h b hj G1 G2 G3
    have e : j = 36 := by omega
    subst e
    have Hh : dd_XH h Fc := fun row hr i hi => by rw [G1 row hr]; exact H1 row hr i hi
    have Hb : dd_XH b T := fun row hr i hi => by rw [G3 row hr]; exact H2 row hr i hi
    exact br_t (nI_le (a := 36) (Nat.le_refl _) (by decide)) (dd_xfl hn hR hX hP h5 hF (fun l hl => ⟨7, dd_x44 hn hR hF.1 (fun r => Nat.le_trans (hF.2 P hP r) (h5 r)) hl hX Hb (fun h' T' A B => K h' b l T' A B) 6 0 h Fc rfl Hh (fun _ _ => rfl)⟩))
  | succ k ih =>
    intro j h b hj G1 G2 G3
    have v36 : vp_in (nI j) 36 := dd_v36 (by omega)
    have c : (nI j).toNatClampNeg = j := nI_clamp (by omega)
    refine br_f (nI_ge (b := 36) (by omega) (by decide)) ?_
    rw [c]
    refine ⟨v36, v36, nm_e ⟨v36, v36, nm_e (nm_r (nI_1 j) (ih (j + 1) _ _ (by omega) (fun r hr => ?_) (fun r hr => ?_) (fun r hr => ?_)))⟩⟩
    · unfold upd
      by_cases e : r = j
      · rw [if_pos e, e]
      · rw [if_neg e]; exact G1 r (by omega)
    · unfold upd
      rw [if_neg (by omega)]; exact G2 r (by omega)
    · unfold upd
      by_cases e : r = j
      · rw [if_pos e, e]; exact G2 j (Nat.le_refl _)
      · rw [if_neg e]; exact G3 r (by omega)
theorem dd_xup {post : SX → Prop} {R P F : Nat → Nat} {Fc T : Nat → Bool} {n : Nat} (hn : n ≤ 8) (hR : ∀ i, i < n → R i < 1080) (hX : dd_XR R n sh hd fb sb) (hP : dd_Cl R n P) (h5 : ∀ r, P r ≤ 5) (hF : dd_Lf R n F) (H1 : dd_XH fa Fc) (H2 : dd_XH he T)
    (K : ∀ h' b' l' T', dd_XH h' T' → dd_FA R n F Fc 6 T' → post (nI n, nI (dd_cnt (fun k => T' k && !T k) 216), nI (dd_cnt (fun k => T k && !T' k) 216), fa, h', b', sh, hd, fb, sb, dp, l')) : wpX_update post (nI n, gc, lc, fa, he, hb, sh, hd, fb, sb, dp, lv) :=
  ⟨37, dd_xu2 hn hR hX hP h5 hF H1 H2 K 36 0 he hb rfl (fun _ h => absurd h (Nat.not_lt_zero _)) (fun _ _ => rfl) (fun _ h => absurd h (Nat.not_lt_zero _))⟩
end
/-! ===== Y: what a rule gives, a pass, settling ===== -/
theorem dd_ts {b : Bool} (h : ¬ b = false) : b = true := by cases b with
  | false => exact absurd rfl h
  | true => rfl
theorem dd_nar (b : Bool) : vp_nar .boolean (dd_bI b) = dd_bI b := by cases b <;> rfl
theorem dd_YHb {h : Nat → Int32} {T : Nat → Bool} (H : dd_YH h T) {k : Nat} (hk : k < 216) : h k = dd_bI (T k) := H k hk
section
variable {yn : Int32} {ys yh ya yb yf yw yo yl yd : Nat → Int32}
theorem dd_y162 {post : Int32 → Prop} {T : Nat → Bool} {a b x y : Nat} (ha : a < 6) (hb : b < 6) (hx : x < 6) (hy : y < 6) (H : dd_YH yw T)
    (K : post (dd_bI (dd_ex (fun z => T (36 * a + 6 * x + z) && T (36 * b + 6 * z + y)) 6))) :
    ∀ k z, z + k = 6 → dd_ex (fun z => T (36 * a + 6 * x + z) && T (36 * b + 6 * z + y)) z = false → wY_gives_162 post (nI x) (nI y) (nI (36 * a)) (nI (36 * b)) yn ys yh ya yb yf yw yo yl yd (k + 1) (nI z) := by
  intro k
  induction k with
  | zero =>
    intro z hz G
    have e : z = 6 := by omega
    subst e
    rw [G] at K
    exact br_t dd_t6 K
  | succ k ih =>
    intro z hz G
    have h1 := dd_YHb H (show 36 * a + 6 * x + z < 216 by omega)
    have h2 := dd_YHb H (show 36 * b + 6 * z + y < 216 by omega)
    refine br_f (dd_g6 (by omega)) ?_
    rw [dd_m6, dd_m6, nI_add, nI_add, nI_add, nI_add, nI_clamp (n := 36 * a + 6 * x + z) (by omega), nI_clamp (n := 36 * b + 6 * z + y) (by omega), h1, h2]
    refine ⟨dd_v216 (by omega), br_c (fun w => nm_r (nI_1 z) (ih (z + 1) (by omega) ?_)) (fun w => ⟨dd_v216 (by omega), br_c (fun u => nm_r (nI_1 z) (ih (z + 1) (by omega) ?_)) (fun u => ?_)⟩)⟩
    · show (_ || _) = false
      rw [G]
      dsimp only
      rw [dd_bI_0.mp w]; rfl
    · show (_ || _) = false
      rw [G]
      dsimp only
      rw [dd_bI_0.mp u, Bool.and_false]; rfl
    · have e : dd_ex (fun z => T (36 * a + 6 * x + z) && T (36 * b + 6 * z + y)) 6 = true := by
        refine dd_ex_iff.mpr ⟨z, by omega, ?_⟩
        rw [dd_bI_0] at w u
        rw [dd_ts w, dd_ts u]; rfl
      rw [e] at K
      exact K
theorem dd_yg {post : Int32 → Prop} {R : Nat → Nat} {T : Nat → Bool} {n q x y : Nat} (hn : n ≤ 8) (hR : ∀ i, i < n → R i < 1080) (hY : dd_YR R n ys yh ya yb) (hq : q < n) (hx : x < 6) (hy : y < 6) (H : dd_YH yw T)
    (K : post (dd_bI (dd_gv T (R q) x y))) : wpY_gives post (yn, ys, yh, ya, yb, yf, yw, yo, yl, yd) (nI q) (nI x) (nI y) := by
  have s5 := dd_s5 (hR q hq)
  have a6 := dd_a6 (R q)
  have b6 := dd_b6 (R q)
  obtain ⟨e1, e2, e3, e4⟩ := hY q hq
  have c : (nI q).toNatClampNeg = q := nI_clamp (by omega)
  have i9 : vp_in (nI q) 9 := dd_v9 (by omega)
  have h1 := dd_YHb H (show 36 * dd_a (R q) + 6 * x + y < 216 by omega)
  have h2 := dd_YHb H (show 36 * dd_b (R q) + 6 * x + y < 216 by omega)
  have h3 := dd_YHb H (show 36 * dd_a (R q) + 6 * y + x < 216 by omega)
  refine ⟨i9, nm_r (by rw [c, e3, dd_i36]) ⟨i9, nm_r (by rw [c, e4, dd_i36]) (nm_r (dd_i6 x y) ⟨i9, ?_⟩)⟩⟩
  rw [c, e1, dd_m6, nI_add, nI_add, nI_add, nI_add, ← Nat.add_assoc, ← Nat.add_assoc, nI_clamp (n := 36 * dd_a (R q) + 6 * x + y) (by omega), nI_clamp (n := 36 * dd_b (R q) + 6 * x + y) (by omega), nI_clamp (n := 36 * dd_a (R q) + 6 * y + x) (by omega), h1, h2, h3]
  have vA : vp_in (nI (36 * dd_a (R q) + 6 * x + y)) 216 := dd_v216 (by omega)
  have vB : vp_in (nI (36 * dd_b (R q) + 6 * x + y)) 216 := dd_v216 (by omega)
  have vC : vp_in (nI (36 * dd_a (R q) + 6 * y + x)) 216 := dd_v216 (by omega)
  unfold dd_gv at K
  refine pk_eq (dd_s (R q)) 0 (fun s0 => ⟨vA, dd_bI_n _, ?_⟩) (fun s0 => ⟨i9, pk_eq (dd_s (R q)) 1 (fun s1 => ⟨vC, dd_bI_n _, ?_⟩) (fun s1 => ⟨i9, pk_eq (dd_s (R q)) 3 (fun s3 => ⟨vA, ?_⟩) (fun s3 => ⟨i9, pk_eq (dd_s (R q)) 4 (fun s4 => ⟨vA, ?_⟩) (fun s4 => ⟨7, ?_⟩)⟩)⟩)⟩)
  · rw [if_pos s0] at K; exact K
  · rw [if_neg s0, if_pos s1] at K; exact K
  · rw [if_neg s0, if_neg s1, if_neg (by omega), if_pos s3] at K
    refine br_c (fun w => ?_) (fun w => ⟨vB, br_c (fun u => ?_) (fun u => ?_)⟩)
    · rw [dd_bI_0.mp w] at K; exact K
    · rw [dd_bI_0.mp u, Bool.and_false] at K; exact K
    · rw [dd_bI_0] at w u
      rw [dd_ts w, dd_ts u] at K; exact K
  · rw [if_neg s0, if_neg s1, if_neg (by omega), if_neg s3] at K
    refine br_c (fun w => ?_) (fun w => ⟨vB, br_c (fun u => ?_) (fun u => ?_)⟩)
    · rw [dd_bI_0.mp w] at K; exact K
    · rw [dd_bI_0] at w
      rw [dd_ts w, dd_bI_0.mp u] at K; exact K
    · rw [dd_bI_0] at w u
      rw [dd_ts w, dd_ts u] at K; exact K
  · rw [if_neg s0, if_neg s1, if_pos (by omega)] at K
    exact dd_y162 a6 b6 hx hy H K 6 0 rfl rfl
theorem dd_y15 {post : Int32 → SY → Prop} {J : Int32 → Int32 → dd_J9} {R L : Nat → Nat} {T0 T : Nat → Bool} {n l q : Nat} (hn : n ≤ 8) (hR : ∀ i, i < n → R i < 1080) (hL : dd_Cl R n L) (h5 : ∀ r, L r ≤ 5) (hl : l < 6) (hV : dd_LV yl L) (hY : dd_YR R n ys yh ya yb) (hq : q < n)
    (K : ∀ f w T', dd_YH w T' → dd_PQ R n L l T0 T T' f (q + 1) 0 → J (dd_bI f) (nI (q + 1)) ys yh ya yb yf w yo yl yd) :
    ∀ k c f w T', c + k = 36 → dd_YH w T' → dd_PQ R n L l T0 T T' f q c → wY_derive_15 post J (nI l) (nI q) yn (k + 1) (dd_bI f) (nI c) ys yh ya yb yf w yo yl yd := by
  intro k
  induction k with
  | zero =>
    intro c f w T' hc H Q
    have e : c = 36 := by omega
    subst e
    exact br_t (nI_le (a := 36) (Nat.le_refl _) (by decide)) (nm_r (nI_1 q) (K f w T' H (dd_PQ_n Q)))
  | succ k ih =>
    intro c f w T' hc H Q
    have h6 := dd_h6 (R q)
    obtain ⟨e1, e2, e3, e4⟩ := hY q hq
    have cq : (nI q).toNatClampNeg = q := nI_clamp (by omega)
    have i9 : vp_in (nI q) 9 := dd_v9 (by omega)
    have b5 := h5 (dd_h (R q))
    have v : vp_in (nI (36 * dd_h (R q) + c)) 216 := dd_v216 (by omega)
    have hk := dd_YHb H (show 36 * dd_h (R q) + c < 216 by omega)
    have cell : ∀ x y, x < 6 → y < 6 → c ≤ 6 * x + y → 6 * x + y < c + 1 → 36 * dd_h (R q) + 6 * x + y = 36 * dd_h (R q) + c ∧ x = c / 6 ∧ y = c % 6 := by
      intro x y hx hy a b
      omega
    refine br_f (nI_ge (b := 36) (by omega) (by decide)) ⟨i9, nm_r (e' := nI (36 * dd_h (R q) + c)) ?_ ⟨i9, ?_⟩⟩
    · rw [cq, e2, dd_i36, nI_add]
    rw [cq, e2, nI_clamp (n := dd_h (R q)) (by omega), nI_clamp (n := 36 * dd_h (R q) + c) (by omega), hV _ h6, hk]
    refine ⟨dd_v6 h6, pk_eq (L (dd_h (R q))) l (fun z => ⟨v, br_c (fun w0 => ?_) (fun w0 => nm_r (nI_1 c) (ih (c + 1) f w T' (by omega) H (dd_PQ_k Q (fun x y hx hy a b _ => ?_))))⟩) (fun z => nm_r (nI_1 c) (ih (c + 1) f w T' (by omega) H ?_))⟩
    · refine ⟨by decide, by decide, ?_⟩
      have d1 : nI c / 6 = nI (c / 6) := pk_div (d := 6) (by omega) (by omega) (by omega)
      have d2 : nI c - nI c / 6 * 6 = nI (c % 6) := pk_rem (d := 6) (by omega) (by omega) (by omega)
      rw [d2, d1]
      refine dd_yg hn hR hY hq (by omega) (by omega) H (br_c (fun g0 => ?_) (fun g0 => ?_))
      · refine nm_r (nI_1 c) (ih (c + 1) f w T' (by omega) H (dd_PQ_k Q (fun x y hx hy a b g => ?_)))
        obtain ⟨_, rfl, rfl⟩ := cell x y hx hy a b
        rw [dd_bI_0.mp g0] at g
        exact absurd g (by decide)
      · rw [dd_bI_0] at g0
        have g1 := dd_ts g0
        refine ⟨v, nm_e (nm_r (nI_1 c) (ih (c + 1) true _ (dd_set T' (36 * dd_h (R q) + c) true) (by omega) (dd_YH_u H (dd_nar true)) (dd_PQ_s (a := 36 * dd_h (R q) + c) hR hL Q (fun k hk w => ?_) (fun k hk w => ?_) (by omega) (dd_bI_0.mp w0) ?_)))⟩
        · unfold dd_set
          split
          · rfl
          · exact w
        · unfold dd_set at w
          by_cases e : k = 36 * dd_h (R q) + c
          · exact Or.inr ⟨q, c / 6, c % 6, hq, z, by omega, by omega, by omega, g1⟩
          · rw [if_neg e] at w
            exact Or.inl w
        · unfold dd_set
          rw [if_pos rfl]
    · rw [(cell x y hx hy a b).1]
      rw [dd_bI_0] at w0
      exact dd_ts w0
    · refine ⟨Q.1, Q.2.1, fun zf => ⟨(Q.2.2.1 zf).1, fun i x y hi e hx hy d g => ?_⟩, Q.2.2.2⟩
      have ne : i ≠ q := by
        intro zz
        rw [zz] at e
        exact z e
      exact (Q.2.2.1 zf).2 i x y hi e hx hy (by omega) g
theorem dd_yd4 {post : Int32 → SY → Prop} {R L : Nat → Nat} {T0 T : Nat → Bool} {n l : Nat} (hn : n ≤ 8) (hR : ∀ i, i < n → R i < 1080) (hL : dd_Cl R n L) (h5 : ∀ r, L r ≤ 5) (hl : l < 6) (hV : dd_LV yl L) (hY : dd_YR R n ys yh ya yb)
    (K : ∀ f w T', dd_YH w T' → dd_PR R n L l T0 T T' f → post (dd_bI f) (nI n, ys, yh, ya, yb, yf, w, yo, yl, yd)) :
    ∀ k q f w T', q + k = n → dd_YH w T' → dd_PQ R n L l T0 T T' f q 0 → wY_derive_4 post (nI l) (nI n) (k + 1) (dd_bI f) (nI q) ys yh ya yb yf w yo yl yd := by
  intro k
  induction k with
  | zero =>
    intro q f w T' hq H Q
    have e : q = n := by omega
    subst e
    exact br_t (nI_le (Nat.le_refl _) (by omega)) ⟨dd_bI_n f, K f w T' H (dd_PQ_f Q)⟩
  | succ k ih =>
    intro q f w T' hq H Q
    exact br_f (nI_ge (by omega) (by omega)) ⟨37, dd_y15 hn hR hL h5 hl hV hY (by omega) (fun f2 w2 T2 H2 Q2 => ih (q + 1) f2 w2 T2 (by omega) H2 Q2) 36 0 f w T' rfl H Q⟩
theorem dd_yde {post : Int32 → SY → Prop} {R L : Nat → Nat} {T0 T : Nat → Bool} {n l : Nat} (hn : n ≤ 8) (hR : ∀ i, i < n → R i < 1080) (hL : dd_Cl R n L) (h5 : ∀ r, L r ≤ 5) (hl : l < 6) (hV : dd_LV yl L) (hY : dd_YR R n ys yh ya yb) (H : dd_YH yw T) (I : dd_Inv R n L l T0 T)
    (K : ∀ f w T', dd_YH w T' → dd_PR R n L l T0 T T' f → post (dd_bI f) (nI n, ys, yh, ya, yb, yf, w, yo, yl, yd)) : wpY_derive post (nI n, ys, yh, ya, yb, yf, yw, yo, yl, yd) (nI l) :=
  ⟨n + 1, dd_yd4 hn hR hL h5 hl hV hY K n 0 false yw T (by omega) H (dd_PQ_0 I)⟩
theorem dd_y97 {post : SY → Prop} {J : Int32 → Int32 → dd_J9} {R L : Nat → Nat} {T0 : Nat → Bool} {n l : Nat} (hn : n ≤ 8) (hR : ∀ i, i < n → R i < 1080) (hL : dd_Cl R n L) (h5 : ∀ r, L r ≤ 5) (hl : l < 6) (hV : dd_LV yl L) (hY : dd_YR R n ys yh ya yb)
    (K : ∀ w T', dd_YH w T' → dd_Fin R n L l T0 T' → J (nI (l + 1)) (nI n) ys yh ya yb yf w yo yl yd) :
    ∀ k p f w T', p + k = 217 → dd_YH w T' → dd_PI R n L l T0 p f T' → wY_settle_97 post J (nI l) (k + 1) (dd_bI f) (nI p) (nI n) ys yh ya yb yf w yo yl yd := by
  intro k
  induction k with
  | zero =>
    intro p f w T' hp H Q
    have e : p = 217 := by omega
    subst e
    exact br_t (nI_le (a := 217) (Nat.le_refl _) (by decide)) (nm_r (nI_1 l) (K w T' H (dd_PI_f Q (Or.inr (by omega)))))
  | succ k ih =>
    intro p f w T' hp H Q
    refine br_f (nI_ge (b := 217) (by omega) (by decide)) ?_
    cases f with
    | false => exact br_t rfl (nm_r (nI_1 l) (K w T' H (dd_PI_f Q (Or.inl rfl))))
    | true => exact br_f (by decide) (dd_yde hn hR hL h5 hl hV hY H Q.1 (fun f2 w2 T2 H2 Q2 => nm_r (nI_1 p) (ih (p + 1) f2 w2 T2 (by omega) H2 (dd_PI_s Q Q2))))
theorem dd_y87 {post : SY → Prop} {R L : Nat → Nat} {Fc : Nat → Bool} {n : Nat} (hn : n ≤ 8) (hR : ∀ i, i < n → R i < 1080) (hL : dd_Cl R n L) (h5 : ∀ r, L r ≤ 5) (hV : dd_LV yl L) (hY : dd_YR R n ys yh ya yb)
    (K : ∀ w T', dd_YH w T' → dd_FA R n L Fc 6 T' → post (nI n, ys, yh, ya, yb, yf, w, yo, yl, yd)) :
    ∀ k l w T', l + k = 6 → dd_YH w T' → dd_FA R n L Fc l T' → wY_settle_87 post (k + 1) (nI l) (nI n) ys yh ya yb yf w yo yl yd := by
  intro k
  induction k with
  | zero =>
    intro l w T' hl H Q
    have e : l = 6 := by omega
    subst e
    exact br_t dd_t6 (K w T' H Q)
  | succ k ih =>
    intro l w T' hl H Q
    exact br_f (dd_g6 (by omega)) ⟨218, dd_y97 hn hR hL h5 (by omega) hV hY (fun w2 T2 H2 Q2 => ih (l + 1) w2 T2 (by omega) H2 ⟨T', Q, Q2⟩) 217 0 true w T' rfl H (dd_PI_0 R n L l T')⟩
theorem dd_y41 {post : SY → Prop} {R P F : Nat → Nat} {Fc : Nat → Bool} {n : Nat} (hn : n ≤ 8) (hR : ∀ i, i < n → R i < 1080) (hY : dd_YR R n ys yh ya yb) (hP : dd_Cl R n P) (h5 : ∀ r, P r ≤ 5) (hF : dd_Lf R n F) (H : dd_YH yw Fc)
    (K : ∀ w l T', dd_YH w T' → dd_FA R n F Fc 6 T' → post (nI n, ys, yh, ya, yb, yf, w, yo, l, yd)) :
    ∀ k j l, j + k = 6 → (∀ r, r < j → l r = 0) → wY_settle_41 post (nI n) (k + 1) (nI j) ys yh ya yb yf yw yo l yd := by
  intro k
  induction k with
  | zero =>
    intro j l hj G
    have e : j = 6 := by omega
    subst e
    exact br_t dd_t6 ⟨38, dd_y64 hn hR hY hP h5 hF (fun l2 hl2 => ⟨7, dd_y87 hn hR hF.1 (fun r => Nat.le_trans (hF.2 P hP r) (h5 r)) hl2 hY (fun w T' A B => K w l2 T' A B) 6 0 yw Fc rfl H (fun _ _ => rfl)⟩) 37 0 1 l rfl (fun r hr => G r hr) (Or.inr rfl)⟩
  | succ k ih =>
    intro j l hj G
    refine br_f (dd_g6 (by omega)) ⟨dd_v6 (by omega), ?_⟩
    rw [nI_clamp (n := j) (by omega)]
    refine nm_e (nm_r (nI_1 j) (ih (j + 1) _ (by omega) (fun r hr => ?_)))
    unfold upd
    by_cases e : r = j
    · rw [if_pos e]
    · rw [if_neg e]; exact G r (by omega)
theorem dd_ys2 {post : SY → Prop} {R P F : Nat → Nat} {Fc T : Nat → Bool} {n : Nat} (hn : n ≤ 8) (hR : ∀ i, i < n → R i < 1080) (hY : dd_YR R n ys yh ya yb) (hP : dd_Cl R n P) (h5 : ∀ r, P r ≤ 5) (hF : dd_Lf R n F) (H1 : dd_YH yf Fc) (H2 : dd_YH yw T)
    (K : ∀ w o l T', dd_YH w T' → dd_YH o T → dd_FA R n F Fc 6 T' → post (nI n, ys, yh, ya, yb, yf, w, o, l, yd)) :
    ∀ k j w o, j + k = 216 → (∀ r, r < j → w r = yf r) → (∀ r, j ≤ r → w r = yw r) → (∀ r, r < j → o r = yw r) → wY_settle_2 post (nI n) (k + 1) (nI j) ys yh ya yb yf w o yl yd := by
  intro k
  induction k with
  | zero =>
    intro j w o hj G1 G2 G3
    have e : j = 216 := by omega
    subst e
    have Hw : dd_YH w Fc := fun k hk => by rw [G1 k hk]; exact H1 k hk
    have Ho : dd_YH o T := fun k hk => by rw [G3 k hk]; exact H2 k hk
    exact br_t (nI_le (a := 216) (Nat.le_refl _) (by decide)) ⟨7, dd_y41 hn hR hY hP h5 hF Hw (fun w2 l2 T2 A B => K w2 o l2 T2 A Ho B) 6 0 yl rfl (fun _ h => absurd h (Nat.not_lt_zero _))⟩
  | succ k ih =>
    intro j w o hj G1 G2 G3
    have hj216 : j < 216 := by omega
    have v : vp_in (nI j) 216 := dd_v216 hj216
    have c : (nI j).toNatClampNeg = j := nI_clamp (by omega)
    have n1 : vp_nar .boolean (w j) = yw j := by
      rw [G2 j (Nat.le_refl _), dd_YHb H2 hj216]
      exact dd_nar _
    have n2 : vp_nar .boolean (yf j) = yf j := by
      rw [dd_YHb H1 hj216]
      exact dd_nar _
    refine br_f (nI_ge (b := 216) (by omega) (by decide)) ?_
    rw [c, n1, n2]
    refine ⟨v, v, nm_e ⟨v, v, nm_e (nm_r (nI_1 j) (ih (j + 1) _ _ (by omega) (fun r hr => ?_) (fun r hr => ?_) (fun r hr => ?_)))⟩⟩
    · unfold upd
      by_cases e : r = j
      · rw [if_pos e, e]
      · rw [if_neg e]; exact G1 r (by omega)
    · unfold upd
      rw [if_neg (by omega)]; exact G2 r (by omega)
    · unfold upd
      by_cases e : r = j
      · rw [if_pos e, e]
      · rw [if_neg e]; exact G3 r (by omega)
theorem dd_yst {post : SY → Prop} {R P F : Nat → Nat} {Fc T : Nat → Bool} {n : Nat} (hn : n ≤ 8) (hR : ∀ i, i < n → R i < 1080) (hY : dd_YR R n ys yh ya yb) (hP : dd_Cl R n P) (h5 : ∀ r, P r ≤ 5) (hF : dd_Lf R n F) (H1 : dd_YH yf Fc) (H2 : dd_YH yw T)
    (K : ∀ w o l T', dd_YH w T' → dd_YH o T → dd_FA R n F Fc 6 T' → post (nI n, ys, yh, ya, yb, yf, w, o, l, yd)) : wpY_settle post (nI n, ys, yh, ya, yb, yf, yw, yo, yl, yd) :=
  ⟨217, dd_ys2 hn hR hY hP h5 hF H1 H2 K 216 0 yw yo rfl (fun _ h => absurd h (Nat.not_lt_zero _)) (fun _ _ => rfl) (fun _ h => absurd h (Nat.not_lt_zero _))⟩
end
end
section
/-! ===== the relation ===== -/
def dd_G (n : Nat) (R P : Nat → Nat) (Fc T B : Nat → Bool) (fa he sh hd fb sb ys yh ya yb yf yw yo : Nat → Int32) : Prop :=
  n ≤ 8 ∧ (∀ i, i < n → R i < 1080) ∧ dd_XR R n sh hd fb sb ∧ dd_YR R n ys yh ya yb ∧ (∀ r, P r ≤ 5) ∧ dd_Cl R n P ∧ dd_XH fa Fc ∧ dd_YH yf Fc ∧ dd_XH he T ∧ dd_YH yw T ∧ dd_YH yo B
def i_Rel (k : Nat) (u : SX) (v : SY) : Prop :=
  ∃ (n : Nat) (R P : Nat → Nat) (Fc T B : Nat → Bool) (fa he hb sh hd fb sb dp lv ys yh ya yb yf yw yo yl yd : Nat → Int32),
    u = (nI n, nI (dd_cnt (fun k => T k && !B k) 216), nI (dd_cnt (fun k => B k && !T k) 216), fa, he, hb, sh, hd, fb, sb, dp, lv) ∧ v = (nI n, ys, yh, ya, yb, yf, yw, yo, yl, yd) ∧
    dd_G n R P Fc T B fa he sh hd fb sb ys yh ya yb yf yw yo
theorem i_up {k : Nat} {u : SX} {v : SY} (h : i_Rel k u v) : i_Rel (k + 4) u v := h
theorem dd_z0 : nI (dd_cnt (fun k => (fun _ : Nat => false) k && !(fun _ : Nat => false) k) 216) = 0 := by
  rw [show dd_cnt (fun k => (fun _ : Nat => false) k && !(fun _ : Nat => false) k) 216 = 0 from dd_cnt_F 216]
  rfl
theorem i_vc0 : wpX_init (fun u => wpY_init (fun v => i_Rel 0 u v)) := by
  refine ⟨0, fun _ => 0, fun _ => 0, fun _ => false, fun _ => false, fun _ => false, fun _ => 0, fun _ => 0, fun _ => 0, fun _ => 0, fun _ => 0, fun _ => 0, fun _ => 0, fun _ => 0, fun _ => 0, fun _ => 0, fun _ => 0, fun _ => 0, fun _ => 0, fun _ => 0, fun _ => 0, fun _ => 0, fun _ => 0, fun _ => 0, ?_, rfl, ?_⟩
  · rw [dd_z0]; rfl
  · exact ⟨by omega, fun i h => absurd h (Nat.not_lt_zero _), fun i h => absurd h (Nat.not_lt_zero _), fun i h => absurd h (Nat.not_lt_zero _), fun _ => Nat.zero_le _, fun i h => absurd h (Nat.not_lt_zero _), dd_XH_0, dd_YH_0, dd_XH_0, dd_YH_0, dd_YH_0⟩
/-! ===== after a change: both sides have settled ===== -/
section
variable {gc lc yn : Int32} {fa he hb sh hd fb sb dp lv ys yh ya yb yf yw yo yl yd : Nat → Int32}
theorem dd_both {k n : Nat} {R P : Nat → Nat} {Fc T : Nat → Bool} {postX : SX → Prop} (hn : n ≤ 8) (hR : ∀ i, i < n → R i < 1080) (hX : dd_XR R n sh hd fb sb) (hY : dd_YR R n ys yh ya yb) (h5 : ∀ r, P r ≤ 5) (hP : dd_Cl R n P)
    (H1 : dd_XH fa Fc) (H1' : dd_YH yf Fc) (H2 : dd_XH he T) (H2' : dd_YH yw T)
    (K : ∀ g l h' b' lv', (∀ postY : SY → Prop, (∀ w o yl', i_Rel k (nI n, g, l, fa, h', b', sh, hd, fb, sb, dp, lv') (nI n, ys, yh, ya, yb, yf, w, o, yl', yd) → postY (nI n, ys, yh, ya, yb, yf, w, o, yl', yd)) → wpY_settle postY (nI n, ys, yh, ya, yb, yf, yw, yo, yl, yd)) → postX (nI n, g, l, fa, h', b', sh, hd, fb, sb, dp, lv')) :
    wpX_update postX (nI n, gc, lc, fa, he, hb, sh, hd, fb, sb, dp, lv) := by
  obtain ⟨F, hF⟩ := dd_Lf_ex hP
  refine dd_xup hn hR hX hP h5 hF H1 H2 (fun h' b' l' T' A1 A2 => K _ _ h' b' l' (fun postY KY => ?_))
  refine dd_yst hn hR hY hP h5 hF H1' H2' (fun w o yl' T'' B1 B2 B3 => KY w o yl' ?_)
  exact ⟨n, R, P, Fc, T', T, _, _, _, _, _, _, _, _, _, _, _, _, _, _, _, _, _, _, rfl, rfl, hn, hR, hX, hY, h5, hP, H1, H1', A1, dd_YH_e B1 (dd_FA_u 6 _ _ B3 A2), B2⟩
end
/-! ===== ranges ===== -/
def dd_bad (v : Int32) : Prop := v < 0 ∨ (6 : Int32) ≤ v
theorem dd_bad5 {v : Int32} (h : (6 : Int32) ≤ v) : (5 : Int32) < v := by
  rw [Int32.lt_iff_toInt_lt]
  rw [Int32.le_iff_toInt_le] at h
  have a : (6 : Int32).toInt = 6 := rfl
  have b : (5 : Int32).toInt = 5 := rfl
  omega
theorem dd_rng (v : Int32) : dd_bad v ∨ ∃ j : Nat, j < 6 ∧ v = nI j := by
  rcases pk_ix v (n := 6) (by omega) with h | h | h
  · exact Or.inl (Or.inl h)
  · exact Or.inl (Or.inr h)
  · exact Or.inr h
theorem dd_o1 : ¬ (1 : Int32) = 0 := by decide
theorem dd_ir0 {post : Int32 → Prop} {v : Int32} (h : dd_bad v) (K : post 0) : wpX_inRange post v := by
  by_cases z : v < 0
  · exact br_t z K
  · rcases h with h | h
    · exact absurd h z
    · exact br_f z (br_t h K)
theorem dd_ir1 {post : Int32 → Prop} {j : Nat} (h : j < 6) (K : post 1) : wpX_inRange post (nI j) :=
  br_f (nI_pos (by omega)) (br_f (dd_g6 h) K)
theorem dd_irb {post : Int32 → Prop} {v : Int32} (K0 : post 0) (K1 : post 1) : wpX_inRange post v := by
  rcases dd_rng v with h | ⟨j, hj, rfl⟩
  · exact dd_ir0 h K0
  · exact dd_ir1 hj K1
theorem dd_3b {A B : Prop} {p1 p2 p3 : Int32} (h : dd_bad p1 ∨ dd_bad p2 ∨ dd_bad p3) (a : A) :
    wpX_inRange (fun r_1 => (((r_1 = 0 → A) ∧ (¬ r_1 = 0 → (wpX_inRange (fun r_3 => (((r_3 = 0 → A) ∧ (¬ r_3 = 0 → (wpX_inRange (fun r_5 => (((r_5 = 0 → A) ∧ (¬ r_5 = 0 → B)))) p3))))) p2))))) p1 := by
  rcases h with h | h | h
  · exact dd_ir0 h (br_t rfl a)
  · exact dd_irb (br_t rfl a) (br_f dd_o1 (dd_ir0 h (br_t rfl a)))
  · exact dd_irb (br_t rfl a) (br_f dd_o1 (dd_irb (br_t rfl a) (br_f dd_o1 (dd_ir0 h (br_t rfl a)))))
theorem dd_3g {A B : Prop} {r x y : Nat} (hr : r < 6) (hx : x < 6) (hy : y < 6) (b : B) :
    wpX_inRange (fun r_1 => (((r_1 = 0 → A) ∧ (¬ r_1 = 0 → (wpX_inRange (fun r_3 => (((r_3 = 0 → A) ∧ (¬ r_3 = 0 → (wpX_inRange (fun r_5 => (((r_5 = 0 → A) ∧ (¬ r_5 = 0 → B)))) (nI y)))))) (nI x)))))) (nI r) :=
  dd_ir1 hr (br_f dd_o1 (dd_ir1 hx (br_f dd_o1 (dd_ir1 hy (br_f dd_o1 b)))))
theorem dd_tri (v1 v2 v3 : Int32) : (dd_bad v1 ∨ dd_bad v2 ∨ dd_bad v3) ∨ ∃ r x y : Nat, r < 6 ∧ x < 6 ∧ y < 6 ∧ v1 = nI r ∧ v2 = nI x ∧ v3 = nI y := by
  rcases dd_rng v1 with h | ⟨r, hr, e1⟩
  · exact Or.inl (Or.inl h)
  rcases dd_rng v2 with h | ⟨x, hx, e2⟩
  · exact Or.inl (Or.inr (Or.inl h))
  rcases dd_rng v3 with h | ⟨y, hy, e3⟩
  · exact Or.inl (Or.inr (Or.inr h))
  exact Or.inr ⟨r, x, y, hr, hx, hy, e1, e2, e3⟩
section
variable {rc gc lc yn : Int32} {fa he hb sh hd fb sb dp lv ys yh ya yb yf yw yo yl yd : Nat → Int32}
theorem dd_in0 {post : Int32 → Prop} {v : Int32} (h : dd_bad v) (K : post 0) : wpY_isNumber post (yn, ys, yh, ya, yb, yf, yw, yo, yl, yd) v := by
  by_cases z : v < 0
  · exact br_t z K
  · rcases h with h | h
    · exact absurd h z
    · exact br_f z (br_t (dd_bad5 h) K)
theorem dd_in1 {post : Int32 → Prop} {j : Nat} (h : j < 6) (K : post 1) : wpY_isNumber post (yn, ys, yh, ya, yb, yf, yw, yo, yl, yd) (nI j) :=
  br_f (nI_pos (by omega)) (br_f (nI_nlt (a := 5) (b := j) (by omega) (by omega)) K)
theorem dd_inb {post : Int32 → Prop} {v : Int32} (K0 : post 0) (K1 : post 1) : wpY_isNumber post (yn, ys, yh, ya, yb, yf, yw, yo, yl, yd) v := by
  rcases dd_rng v with h | ⟨j, hj, rfl⟩
  · exact dd_in0 h K0
  · exact dd_in1 hj K1
theorem dd_it0 {post : Int32 → Prop} {p1 p2 p3 : Int32} (h : dd_bad p1 ∨ dd_bad p2 ∨ dd_bad p3) (K : post 0) : wpY_isTriple post (yn, ys, yh, ya, yb, yf, yw, yo, yl, yd) p1 p2 p3 := by
  unfold wpY_isTriple
  dsimp only
  rcases h with h | h | h
  · exact dd_in0 h (br_t rfl K)
  · exact dd_inb (br_t rfl K) (br_f dd_o1 (dd_in0 h (br_t rfl K)))
  · exact dd_inb (br_t rfl K) (br_f dd_o1 (dd_inb (br_t rfl K) (br_f dd_o1 (dd_in0 h (br_t rfl K)))))
theorem dd_it1 {post : Int32 → Prop} {r x y : Nat} (hr : r < 6) (hx : x < 6) (hy : y < 6) (K : post 1) : wpY_isTriple post (yn, ys, yh, ya, yb, yf, yw, yo, yl, yd) (nI r) (nI x) (nI y) := by
  unfold wpY_isTriple
  dsimp only
  exact dd_in1 hr (br_f dd_o1 (dd_in1 hx (br_f dd_o1 (dd_in1 hy (br_f dd_o1 K)))))
theorem dd_hcf0 {post : Int32 → Prop} {p1 p2 p3 : Int32} (h : dd_bad p1 ∨ dd_bad p2 ∨ dd_bad p3) (K : post 0) : wpX_hasCouple__facts post (rc, gc, lc, fa, he, hb, sh, hd, fb, sb, dp, lv) p1 p2 p3 := by
  unfold wpX_hasCouple__facts
  dsimp only
  exact dd_3b h K
theorem dd_hch0 {post : Int32 → Prop} {p1 p2 p3 : Int32} (h : dd_bad p1 ∨ dd_bad p2 ∨ dd_bad p3) (K : post 0) : wpX_hasCouple__held post (rc, gc, lc, fa, he, hb, sh, hd, fb, sb, dp, lv) p1 p2 p3 := by
  unfold wpX_hasCouple__held
  dsimp only
  exact dd_3b h K
theorem dd_hcb {A B : Prop} {T : Nat → Bool} {h : Nat → Int32} {r x y : Nat} {post : Int32 → Prop} (hr : r < 6) (hx : x < 6) (hy : y < 6) (H : dd_XH h T) (K : post (dd_bI (T (36 * r + 6 * x + y)))) :
    vp_in ((6 * nI r) + nI x) 36 ∧ ((((((h ((6 * nI r) + nI x).toNatClampNeg) >>> (nI y &&& 31)) &&& 1) = 1 → (post 1)) ∧ (¬ (((h ((6 * nI r) + nI x).toNatClampNeg) >>> (nI y &&& 31)) &&& 1) = 1 → (post 0)))) := by
  rw [dd_i6, nI_clamp (n := 6 * r + x) (by omega)]
  have hb := dd_bit1 (h (6 * r + x)) (show y < 32 by omega)
  have e0 : 6 * (6 * r + x) + y = 36 * r + 6 * x + y := by omega
  rw [H _ (by omega) y (by omega), decide_eq_true hy, Bool.true_and, e0] at hb
  refine ⟨dd_v36 (by omega), br_c (fun z => ?_) (fun z => ?_)⟩
  · rw [hb.mp z] at K; exact K
  · rw [Bool.eq_false_iff.mpr (fun w => z (hb.mpr w))] at K; exact K
theorem dd_hcf1 {post : Int32 → Prop} {T : Nat → Bool} {r x y : Nat} (hr : r < 6) (hx : x < 6) (hy : y < 6) (H : dd_XH fa T) (K : post (dd_bI (T (36 * r + 6 * x + y)))) : wpX_hasCouple__facts post (rc, gc, lc, fa, he, hb, sh, hd, fb, sb, dp, lv) (nI r) (nI x) (nI y) := by
  unfold wpX_hasCouple__facts
  dsimp only
  exact dd_3g hr hx hy (dd_hcb (A := True) (B := True) hr hx hy H K)
theorem dd_hch1 {post : Int32 → Prop} {T : Nat → Bool} {r x y : Nat} (hr : r < 6) (hx : x < 6) (hy : y < 6) (H : dd_XH he T) (K : post (dd_bI (T (36 * r + 6 * x + y)))) : wpX_hasCouple__held post (rc, gc, lc, fa, he, hb, sh, hd, fb, sb, dp, lv) (nI r) (nI x) (nI y) := by
  unfold wpX_hasCouple__held
  dsimp only
  exact dd_3g hr hx hy (dd_hcb (A := True) (B := True) hr hx hy H K)
theorem dd_at (r x y : Nat) : ((36 : Int32) * nI r) + (6 * nI x) + nI y = nI (36 * r + 6 * x + y) := by
  rw [dd_i36, dd_m6, nI_add, nI_add]
end
/-! ===== facts that change ===== -/
theorem dd_XH_set {h : Nat → Int32} {T : Nat → Bool} {r x y : Nat} {b : Bool} {v : Int32} (H : dd_XH h T) (hr : r < 6) (hx : x < 6) (hy : y < 6) (hv : ∀ i, i < 32 → bt v i = if i = y then b else bt (h (6 * r + x)) i) :
    dd_XH (upd h (6 * r + x) v) (dd_set T (36 * r + 6 * x + y) b) := by
  intro row hrow i hi
  unfold upd dd_set
  by_cases e : row = 6 * r + x
  · rw [if_pos e, hv i hi]
    by_cases z : i = y
    · rw [if_pos z, if_pos (by omega), decide_eq_true (by omega), Bool.true_and]
    · rw [if_neg z, H _ (by omega) i hi]
      by_cases i6 : i < 6
      · rw [if_neg (by omega), e]
      · rw [decide_eq_false i6, Bool.false_and, Bool.false_and]
  · rw [if_neg e, H row hrow i hi]
    by_cases i6 : i < 6
    · rw [if_neg (by omega)]
    · rw [decide_eq_false i6, Bool.false_and, Bool.false_and]
theorem dd_vor (w : Int32) {y i : Nat} (hy : y < 6) (hi : i < 32) : bt (w ||| ((1 : Int32) <<< (nI y &&& 31))) i = if i = y then true else bt w i := by
  rw [b_or, dd_pow (by omega) hi]
  by_cases z : i = y
  · rw [if_pos z, decide_eq_true z, Bool.or_true]
  · rw [if_neg z, decide_eq_false z, Bool.or_false]
theorem dd_vand (w : Int32) {y i : Nat} (hy : y < 6) (hi : i < 32) : bt (w &&& (((1 : Int32) <<< (nI y &&& 31)) ^^^ (-1))) i = if i = y then false else bt w i := by
  rw [b_and, b_xor, dd_pow (by omega) hi, b_m1 i hi]
  by_cases z : i = y
  · rw [if_pos z, decide_eq_true z]; simp
  · rw [if_neg z, decide_eq_false z]; simp
end
section
/-! ===== the methods that only read ===== -/
theorem i_vc_holds {k : Nat} {u : SX} {v : SY} (I : i_Rel k u v) (hk : k + 4 ≤ 2048) (v1 : Int32) (v2 : Int32) (v3 : Int32) : wpX_holds (fun r => wpY_holds (fun r' => r' = r ∧ i_Rel (k + 4) u v) v v1 v2 v3) u v1 v2 v3 := by
  have I' := i_up I
  obtain ⟨n, R, P, Fc, T, B, fa, he, hb, sh, hd, fb, sb, dp, lv, ys, yh, ya, yb, yf, yw, yo, yl, yd, rfl, rfl, G⟩ := I
  obtain ⟨hn, hR, hX, hY, h5, hP, H1, H1', H2, H2', H3⟩ := G
  unfold wpX_holds
  dsimp only
  rcases dd_tri v1 v2 v3 with h | ⟨r, x, y, hr, hx, hy, rfl, rfl, rfl⟩
  · refine dd_hch0 h ⟨rfl, ?_⟩
    unfold wpY_holds
    dsimp only
    exact dd_it0 h (br_t rfl ⟨rfl, I'⟩)
  · refine dd_hch1 hr hx hy H2 ⟨dd_bI_n _, ?_⟩
    unfold wpY_holds
    dsimp only
    refine dd_it1 hr hx hy (br_f dd_o1 ?_)
    rw [dd_at, nI_clamp (n := 36 * r + 6 * x + y) (by omega), dd_YHb H2' (show 36 * r + 6 * x + y < 216 by omega)]
    refine ⟨dd_v216 (by omega), br_c (fun z => ⟨z.symm, I'⟩) (fun z => ⟨?_, I'⟩)⟩
    rw [dd_bI_0] at z
    rw [dd_ts z]; rfl
theorem i_vc_isFact {k : Nat} {u : SX} {v : SY} (I : i_Rel k u v) (hk : k + 4 ≤ 2048) (v1 : Int32) (v2 : Int32) (v3 : Int32) : wpX_isFact (fun r => wpY_isFact (fun r' => r' = r ∧ i_Rel (k + 4) u v) v v1 v2 v3) u v1 v2 v3 := by
  have I' := i_up I
  obtain ⟨n, R, P, Fc, T, B, fa, he, hb, sh, hd, fb, sb, dp, lv, ys, yh, ya, yb, yf, yw, yo, yl, yd, rfl, rfl, G⟩ := I
  obtain ⟨hn, hR, hX, hY, h5, hP, H1, H1', H2, H2', H3⟩ := G
  unfold wpX_isFact
  dsimp only
  rcases dd_tri v1 v2 v3 with h | ⟨r, x, y, hr, hx, hy, rfl, rfl, rfl⟩
  · refine dd_hcf0 h ⟨rfl, ?_⟩
    unfold wpY_isFact
    dsimp only
    exact dd_it0 h (br_t rfl ⟨rfl, I'⟩)
  · refine dd_hcf1 hr hx hy H1 ⟨dd_bI_n _, ?_⟩
    unfold wpY_isFact
    dsimp only
    refine dd_it1 hr hx hy (br_f dd_o1 ?_)
    rw [dd_at, nI_clamp (n := 36 * r + 6 * x + y) (by omega), dd_YHb H1' (show 36 * r + 6 * x + y < 216 by omega)]
    refine ⟨dd_v216 (by omega), br_c (fun z => ⟨z.symm, I'⟩) (fun z => ⟨?_, I'⟩)⟩
    rw [dd_bI_0] at z
    rw [dd_ts z]; rfl
section
variable {rc gc lc yn : Int32} {fa he hb sh hd fb sb dp lv ys yh ya yb yf yw yo yl yd : Nat → Int32}
theorem dd_xc13 {post : Int32 → Prop} {T : Nat → Bool} {r : Nat} (hr : r < 6) (H : dd_XH he T) (K : post (nI (dd_cnt (fun i => T (36 * r + i)) 36))) :
    ∀ k x, x + k = 6 → wX_count_13 post (nI r) rc gc lc fa he hb sh hd fb sb dp lv (k + 1) (nI (dd_cnt (fun i => T (36 * r + i)) (6 * x))) (nI x) := by
  intro k
  induction k with
  | zero =>
    intro x hx
    have e : x = 6 := by omega
    subst e
    exact br_t dd_t6 K
  | succ k ih =>
    intro x hx
    refine br_f (dd_g6 (by omega)) ?_
    rw [dd_i6, nI_clamp (n := 6 * r + x) (by omega)]
    refine ⟨dd_v36 (by omega), dd_xs (f := fun i => T (36 * r + (6 * x + i))) (fun i hi => ?_) (nm_r (e' := nI (dd_cnt (fun i => T (36 * r + i)) (6 * (x + 1)))) ?_ (nm_r (nI_1 x) (ih (x + 1) (by omega))))⟩
    · rw [H _ (by omega) i (by omega), decide_eq_true hi, Bool.true_and]
      have e0 : 6 * (6 * r + x) + i = 36 * r + (6 * x + i) := by omega
      rw [e0]
    · rw [nI_add, dd_cnt6]
theorem dd_yc14 {post : Int32 → Prop} {T : Nat → Bool} {r : Nat} (hr : r < 6) (H : dd_YH yw T) (K : post (nI (dd_cnt (fun i => T (36 * r + i)) 36))) :
    ∀ k c, c + k = 36 → wY_count_14 post (nI r) yn ys yh ya yb yf yw yo yl yd (k + 1) (nI (dd_cnt (fun i => T (36 * r + i)) c)) (nI c) := by
  intro k
  induction k with
  | zero =>
    intro c hc
    have e : c = 36 := by omega
    subst e
    exact br_t (nI_le (a := 36) (Nat.le_refl _) (by decide)) K
  | succ k ih =>
    intro c hc
    have ih := ih (c + 1) (by omega)
    have es : dd_cnt (fun i => T (36 * r + i)) (c + 1) = dd_cnt (fun i => T (36 * r + i)) c + (if T (36 * r + c) = true then 1 else 0) := rfl
    refine br_f (nI_ge (b := 36) (by omega) (by decide)) ?_
    rw [dd_i36, nI_add, nI_clamp (n := 36 * r + c) (by omega), dd_YHb H (show 36 * r + c < 216 by omega)]
    refine ⟨dd_v216 (by omega), br_c (fun z => ?_) (fun z => ?_)⟩
    · rw [es, dd_bI_0.mp z, if_neg (by decide), Nat.add_zero] at ih
      exact nm_r (nI_1 c) ih
    · rw [dd_bI_0] at z
      rw [es, dd_ts z, if_pos rfl] at ih
      exact nm_r (nI_1 _) (nm_r (nI_1 c) ih)
theorem dd_yga {post : Int32 → Prop} {T B : Nat → Bool} (H : dd_YH yw T) (H0 : dd_YH yo B) (K : post (nI (dd_cnt (fun k => T k && !B k) 216))) :
    ∀ k c, c + k = 216 → wY_gained_4 post yn ys yh ya yb yf yw yo yl yd (k + 1) (nI (dd_cnt (fun k => T k && !B k) c)) (nI c) := by
  intro k
  induction k with
  | zero =>
    intro c hc
    have e : c = 216 := by omega
    subst e
    exact br_t (nI_le (a := 216) (Nat.le_refl _) (by decide)) K
  | succ k ih =>
    intro c hc
    have ih := ih (c + 1) (by omega)
    have c216 : c < 216 := by omega
    have es : dd_cnt (fun k => T k && !B k) (c + 1) = dd_cnt (fun k => T k && !B k) c + (if (T c && !B c) = true then 1 else 0) := rfl
    have v := dd_v216 c216
    refine br_f (nI_ge (b := 216) (by omega) (by decide)) ?_
    rw [nI_clamp (n := c) (by omega), dd_YHb H c216, dd_YHb H0 c216]
    refine ⟨v, br_c (fun z => ?_) (fun z => ⟨v, br_c (fun y => ?_) (fun y => ?_)⟩)⟩
    · rw [es, dd_bI_0.mp z, Bool.false_and, if_neg (by decide), Nat.add_zero] at ih
      exact nm_r (nI_1 c) ih
    · rw [dd_bI_0] at z
      rw [es, dd_ts z, dd_bI_0.mp y, if_pos (by decide)] at ih
      exact nm_r (nI_1 _) (nm_r (nI_1 c) ih)
    · rw [dd_bI_0] at z y
      rw [es, dd_ts z, dd_ts y, if_neg (by decide), Nat.add_zero] at ih
      exact nm_r (nI_1 c) ih
theorem dd_ylo {post : Int32 → Prop} {T B : Nat → Bool} (H : dd_YH yw T) (H0 : dd_YH yo B) (K : post (nI (dd_cnt (fun k => B k && !T k) 216))) :
    ∀ k c, c + k = 216 → wY_lost_4 post yn ys yh ya yb yf yw yo yl yd (k + 1) (nI (dd_cnt (fun k => B k && !T k) c)) (nI c) := by
  intro k
  induction k with
  | zero =>
    intro c hc
    have e : c = 216 := by omega
    subst e
    exact br_t (nI_le (a := 216) (Nat.le_refl _) (by decide)) K
  | succ k ih =>
    intro c hc
    have ih := ih (c + 1) (by omega)
    have c216 : c < 216 := by omega
    have es : dd_cnt (fun k => B k && !T k) (c + 1) = dd_cnt (fun k => B k && !T k) c + (if (B c && !T c) = true then 1 else 0) := rfl
    have v := dd_v216 c216
    refine br_f (nI_ge (b := 216) (by omega) (by decide)) ?_
    rw [nI_clamp (n := c) (by omega), dd_YHb H c216, dd_YHb H0 c216]
    refine ⟨v, br_c (fun z => ?_) (fun z => ⟨v, br_c (fun y => ?_) (fun y => ?_)⟩)⟩
    · rw [es, dd_bI_0.mp z, Bool.false_and, if_neg (by decide), Nat.add_zero] at ih
      exact nm_r (nI_1 c) ih
    · rw [dd_bI_0] at z
      rw [es, dd_ts z, dd_bI_0.mp y, if_pos (by decide)] at ih
      exact nm_r (nI_1 _) (nm_r (nI_1 c) ih)
    · rw [dd_bI_0] at z y
      rw [es, dd_ts z, dd_ts y, if_neg (by decide), Nat.add_zero] at ih
      exact nm_r (nI_1 c) ih
theorem dd_yf23 {post : Int32 → Prop} {T : Nat → Bool} {r x : Nat} (hr : r < 6) (hx : x < 6) (H : dd_YH yw T) (K : ∀ v, dd_RB v (fun i => T (36 * r + 6 * x + i)) → post v) :
    ∀ k y v, y + k = 6 → (∀ i, i < 32 → bt v i = (decide (i < y) && T (36 * r + 6 * x + i))) → wY_from_23 post (nI r) (nI x) yn ys yh ya yb yf yw yo yl yd (k + 1) v (nI y) := by
  intro k
  induction k with
  | zero =>
    intro y v hy G
    have e : y = 6 := by omega
    subst e
    exact br_t dd_t6 (K v G)
  | succ k ih =>
    intro y v hy G
    refine br_f (dd_g6 (by omega)) ?_
    rw [dd_at, nI_clamp (n := 36 * r + 6 * x + y) (by omega), dd_YHb H (show 36 * r + 6 * x + y < 216 by omega)]
    refine ⟨dd_v216 (by omega), br_c (fun z => nm_r (nI_1 y) (ih (y + 1) v (by omega) (fun i hi => ?_))) (fun z => nm_e (nm_r (nI_1 y) (ih (y + 1) _ (by omega) (fun i hi => ?_))))⟩
    · rw [G i hi]
      by_cases e : i = y
      · subst e
        rw [dd_bI_0.mp z, Bool.and_false, Bool.and_false]
      · have : decide (i < y) = decide (i < y + 1) := decide_eq_decide.mpr (by omega)
        rw [this]
    · rw [dd_vor v (by omega) hi, G i hi]
      rw [dd_bI_0] at z
      by_cases e : i = y
      · subst e
        rw [if_pos rfl, dd_ts z, decide_eq_true (Nat.lt_succ_self i)]; rfl
      · have : decide (i < y) = decide (i < y + 1) := decide_eq_decide.mpr (by omega)
        rw [if_neg e, this]
end
theorem i_vc_count {k : Nat} {u : SX} {v : SY} (I : i_Rel k u v) (hk : k + 4 ≤ 2048) (v1 : Int32) : wpX_count (fun r => wpY_count (fun r' => r' = r ∧ i_Rel (k + 4) u v) v v1) u v1 := by
  have I' := i_up I
  obtain ⟨n, R, P, Fc, T, B, fa, he, hb, sh, hd, fb, sb, dp, lv, ys, yh, ya, yb, yf, yw, yo, yl, yd, rfl, rfl, G⟩ := I
  obtain ⟨hn, hR, hX, hY, h5, hP, H1, H1', H2, H2', H3⟩ := G
  unfold wpX_count
  dsimp only
  rcases dd_rng v1 with h | ⟨r, hr, rfl⟩
  · refine dd_ir0 h (br_t rfl ?_)
    unfold wpY_count
    dsimp only
    exact dd_in0 h (br_t rfl ⟨rfl, I'⟩)
  · refine dd_ir1 hr (br_f dd_o1 ⟨7, dd_xc13 hr H2 ?_ 6 0 rfl⟩)
    unfold wpY_count
    dsimp only
    exact dd_in1 hr (br_f dd_o1 ⟨37, dd_yc14 hr H2' ⟨rfl, I'⟩ 36 0 rfl⟩)
theorem i_vc_gained {k : Nat} {u : SX} {v : SY} (I : i_Rel k u v) (hk : k + 4 ≤ 2048) : wpX_gained (fun r => wpY_gained (fun r' => r' = r ∧ i_Rel (k + 4) u v) v) u := by
  have I' := i_up I
  obtain ⟨n, R, P, Fc, T, B, fa, he, hb, sh, hd, fb, sb, dp, lv, ys, yh, ya, yb, yf, yw, yo, yl, yd, rfl, rfl, G⟩ := I
  obtain ⟨hn, hR, hX, hY, h5, hP, H1, H1', H2, H2', H3⟩ := G
  unfold wpX_gained wpY_gained
  dsimp only
  exact ⟨217, dd_yga H2' H3 ⟨rfl, I'⟩ 216 0 rfl⟩
theorem i_vc_lost {k : Nat} {u : SX} {v : SY} (I : i_Rel k u v) (hk : k + 4 ≤ 2048) : wpX_lost (fun r => wpY_lost (fun r' => r' = r ∧ i_Rel (k + 4) u v) v) u := by
  have I' := i_up I
  obtain ⟨n, R, P, Fc, T, B, fa, he, hb, sh, hd, fb, sb, dp, lv, ys, yh, ya, yb, yf, yw, yo, yl, yd, rfl, rfl, G⟩ := I
  obtain ⟨hn, hR, hX, hY, h5, hP, H1, H1', H2, H2', H3⟩ := G
  unfold wpX_lost wpY_lost
  dsimp only
  exact ⟨217, dd_ylo H2' H3 ⟨rfl, I'⟩ 216 0 rfl⟩
theorem i_vc_from {k : Nat} {u : SX} {v : SY} (I : i_Rel k u v) (hk : k + 4 ≤ 2048) (v1 : Int32) (v2 : Int32) : wpX_from (fun r => wpY_from (fun r' => r' = r ∧ i_Rel (k + 4) u v) v v1 v2) u v1 v2 := by
  have I' := i_up I
  obtain ⟨n, R, P, Fc, T, B, fa, he, hb, sh, hd, fb, sb, dp, lv, ys, yh, ya, yb, yf, yw, yo, yl, yd, rfl, rfl, G⟩ := I
  obtain ⟨hn, hR, hX, hY, h5, hP, H1, H1', H2, H2', H3⟩ := G
  unfold wpX_from wpY_from
  dsimp only
  rcases dd_rng v1 with h | ⟨r, hr, rfl⟩
  · exact dd_ir0 h (br_t rfl (dd_in0 h (br_t rfl ⟨rfl, I'⟩)))
  rcases dd_rng v2 with h | ⟨x, hx, rfl⟩
  · exact dd_ir1 hr (br_f dd_o1 (dd_ir0 h (br_t rfl (dd_in1 hr (br_f dd_o1 (dd_in0 h (br_t rfl ⟨rfl, I'⟩)))))))
  refine dd_ir1 hr (br_f dd_o1 (dd_ir1 hx (br_f dd_o1 ?_)))
  rw [dd_i6, nI_clamp (n := 6 * r + x) (by omega)]
  refine ⟨dd_v36 (by omega), dd_in1 hr (br_f dd_o1 (dd_in1 hx (br_f dd_o1 ⟨7, dd_yf23 hr hx H2' (fun w hw => ⟨b_ext (fun i hi => ?_), I'⟩) 6 0 0 rfl (fun i _ => ?_)⟩)))⟩
  · rw [b_0, decide_eq_false (Nat.not_lt_zero i), Bool.false_and]
  · rw [hw i hi, H2 _ (by omega) i hi]
    have e0 : 6 * (6 * r + x) + i = 36 * r + 6 * x + i := by omega
    rw [e0]
end
section
/-! ===== add, remove ===== -/
theorem i_vc_add {k : Nat} {u : SX} {v : SY} (I : i_Rel k u v) (hk : k + 4 ≤ 2048) (v1 : Int32) (v2 : Int32) (v3 : Int32) : wpX_add (fun r u' => wpY_add (fun r' v' => r' = r ∧ i_Rel (k + 4) u' v') v v1 v2 v3) u v1 v2 v3 := by
  have I' := i_up I
  obtain ⟨n, R, P, Fc, T, B, fa, he, hb, sh, hd, fb, sb, dp, lv, ys, yh, ya, yb, yf, yw, yo, yl, yd, rfl, rfl, G⟩ := I
  obtain ⟨hn, hR, hX, hY, h5, hP, H1, H1', H2, H2', H3⟩ := G
  unfold wpX_add
  dsimp only
  rcases dd_tri v1 v2 v3 with h | ⟨r, x, y, hr, hx, hy, rfl, rfl, rfl⟩
  · refine dd_3b h ?_
    unfold wpY_add wpY_change
    dsimp only
    exact dd_it0 h (br_t rfl ⟨rfl, I'⟩)
  · have at216 : 36 * r + 6 * x + y < 216 := by omega
    have W : ∀ z0 : Int32, z0 = dd_bI (!Fc (36 * r + 6 * x + y)) → wX_add_41 (fun r_1 u' => wpY_add (fun r' v' => r' = r_1 ∧ i_Rel (k + 4) u' v') (nI n, ys, yh, ya, yb, yf, yw, yo, yl, yd) (nI r) (nI x) (nI y)) (nI r) (nI x) (nI y) z0 (nI n) (nI (dd_cnt (fun k => T k && !B k) 216)) (nI (dd_cnt (fun k => B k && !T k) 216)) fa he hb sh hd fb sb dp lv := by
      intro z0 hz
      subst hz
      unfold wX_add_41
      rw [dd_i6, nI_clamp (n := 6 * r + x) (by omega)]
      refine ⟨dd_v36 (by omega), dd_v36 (by omega), nm_e ?_⟩
      refine dd_both (k := k + 4) (yo := yo) (yl := yl) (yd := yd) (yf := upd yf (36 * r + 6 * x + y) (dd_bI true)) hn hR hX hY h5 hP (dd_XH_set H1 hr hx hy (fun i hi => dd_vor _ hy hi)) (dd_YH_u H1' rfl) H2 H2' (fun g l h' b' lv' KY => ?_)
      unfold wpY_add wpY_change
      dsimp only
      refine dd_it1 hr hx hy (br_f dd_o1 (nm_r (dd_at r x y) ⟨dd_v216 at216, ?_⟩))
      rw [nI_clamp (n := 36 * r + 6 * x + y) (by omega), dd_YHb H1' at216]
      have C : ∀ (z1 : Int32) (Q : Int32 → SY → Prop), (∀ w o yl', i_Rel (k + 4) (nI n, g, l, upd fa (6 * r + x) (fa (6 * r + x) ||| (1 : Int32) <<< (nI y &&& 31)), h', b', sh, hd, fb, sb, dp, lv') (nI n, ys, yh, ya, yb, upd yf (36 * r + 6 * x + y) (dd_bI true), w, o, yl', yd) → Q z1 (nI n, ys, yh, ya, yb, upd yf (36 * r + 6 * x + y) (dd_bI true), w, o, yl', yd)) → wY_change_42 Q 1 (nI (36 * r + 6 * x + y)) z1 (nI n) ys yh ya yb yf yw yo yl yd := by
        intro z1 Q hQ
        unfold wY_change_42
        rw [nI_clamp (n := 36 * r + 6 * x + y) (by omega)]
        exact ⟨dd_v216 at216, nm_r (congrArg (upd yf (36 * r + 6 * x + y)) (dd_nar true)) (KY _ hQ)⟩
      cases b : Fc (36 * r + 6 * x + y)
      · exact br_f (by decide) (C 1 _ (fun w o yl' J => ⟨rfl, J⟩))
      · exact br_t rfl (C 0 _ (fun w o yl' J => ⟨rfl, J⟩))
    refine dd_3g hr hx hy (dd_hcf1 hr hx hy H1 ?_)
    cases b : Fc (36 * r + 6 * x + y)
    · exact br_t rfl (W 1 (by rw [b]; rfl))
    · exact br_f (by decide) (W 0 (by rw [b]; rfl))
theorem i_vc_remove {k : Nat} {u : SX} {v : SY} (I : i_Rel k u v) (hk : k + 4 ≤ 2048) (v1 : Int32) (v2 : Int32) (v3 : Int32) : wpX_remove (fun r u' => wpY_remove (fun r' v' => r' = r ∧ i_Rel (k + 4) u' v') v v1 v2 v3) u v1 v2 v3 := by
  have I' := i_up I
  obtain ⟨n, R, P, Fc, T, B, fa, he, hb, sh, hd, fb, sb, dp, lv, ys, yh, ya, yb, yf, yw, yo, yl, yd, rfl, rfl, G⟩ := I
  obtain ⟨hn, hR, hX, hY, h5, hP, H1, H1', H2, H2', H3⟩ := G
  unfold wpX_remove
  dsimp only
  rcases dd_tri v1 v2 v3 with h | ⟨r, x, y, hr, hx, hy, rfl, rfl, rfl⟩
  · refine dd_3b h ?_
    unfold wpY_remove wpY_change
    dsimp only
    exact dd_it0 h (br_t rfl ⟨rfl, I'⟩)
  · have at216 : 36 * r + 6 * x + y < 216 := by omega
    have W : ∀ z0 : Int32, z0 = dd_bI (Fc (36 * r + 6 * x + y)) → wX_remove_41 (fun r_1 u' => wpY_remove (fun r' v' => r' = r_1 ∧ i_Rel (k + 4) u' v') (nI n, ys, yh, ya, yb, yf, yw, yo, yl, yd) (nI r) (nI x) (nI y)) (nI r) (nI x) (nI y) z0 (nI n) (nI (dd_cnt (fun k => T k && !B k) 216)) (nI (dd_cnt (fun k => B k && !T k) 216)) fa he hb sh hd fb sb dp lv := by
      intro z0 hz
      subst hz
      unfold wX_remove_41
      rw [dd_i6, nI_clamp (n := 6 * r + x) (by omega)]
      refine ⟨dd_v36 (by omega), dd_v36 (by omega), nm_e ?_⟩
      refine dd_both (k := k + 4) (yo := yo) (yl := yl) (yd := yd) (yf := upd yf (36 * r + 6 * x + y) (dd_bI false)) hn hR hX hY h5 hP (dd_XH_set H1 hr hx hy (fun i hi => dd_vand _ hy hi)) (dd_YH_u H1' rfl) H2 H2' (fun g l h' b' lv' KY => ?_)
      unfold wpY_remove wpY_change
      dsimp only
      refine dd_it1 hr hx hy (br_f dd_o1 (nm_r (dd_at r x y) ⟨dd_v216 at216, ?_⟩))
      rw [nI_clamp (n := 36 * r + 6 * x + y) (by omega), dd_YHb H1' at216]
      have C : ∀ (z1 : Int32) (Q : Int32 → SY → Prop), (∀ w o yl', i_Rel (k + 4) (nI n, g, l, upd fa (6 * r + x) (fa (6 * r + x) &&& (((1 : Int32) <<< (nI y &&& 31)) ^^^ (-1))), h', b', sh, hd, fb, sb, dp, lv') (nI n, ys, yh, ya, yb, upd yf (36 * r + 6 * x + y) (dd_bI false), w, o, yl', yd) → Q z1 (nI n, ys, yh, ya, yb, upd yf (36 * r + 6 * x + y) (dd_bI false), w, o, yl', yd)) → wY_change_42 Q 0 (nI (36 * r + 6 * x + y)) z1 (nI n) ys yh ya yb yf yw yo yl yd := by
        intro z1 Q hQ
        unfold wY_change_42
        rw [nI_clamp (n := 36 * r + 6 * x + y) (by omega)]
        exact ⟨dd_v216 at216, nm_r (congrArg (upd yf (36 * r + 6 * x + y)) (dd_nar false)) (KY _ hQ)⟩
      cases b : Fc (36 * r + 6 * x + y)
      · exact br_t rfl (C 0 _ (fun w o yl' J => ⟨rfl, J⟩))
      · exact br_f (by decide) (C 1 _ (fun w o yl' J => ⟨rfl, J⟩))
    refine dd_3g hr hx hy (dd_hcf1 hr hx hy H1 ?_)
    cases b : Fc (36 * r + 6 * x + y)
    · exact br_t rfl (W 0 (by rw [b]; rfl))
    · exact br_f (by decide) (W 1 (by rw [b]; rfl))
end
section
/-! ===== addRule, dropRule ===== -/
def dd_Rp (R : Nat → Nat) (n c : Nat) : Nat → Nat := fun i => if i = n then c else R i
theorem dd_Rp_n (R : Nat → Nat) (n c : Nat) : dd_Rp R n c n = c := if_pos rfl
theorem dd_Rp_o {R : Nat → Nat} {n c i : Nat} (h : i ≠ n) : dd_Rp R n c i = R i := if_neg h
theorem dd_code {s w : Nat} (hs : s < 5) (hw : w < 216) : 216 * s + w < 1080 ∧ dd_s (216 * s + w) = s ∧ dd_h (216 * s + w) = w / 36 ∧ dd_a (216 * s + w) = w / 6 % 6 ∧ dd_b (216 * s + w) = w % 6 := by
  unfold dd_s dd_h dd_a dd_b
  omega
theorem dd_XR_p {R : Nat → Nat} {n c : Nat} {sh hd fb sb : Nat → Int32} (H : dd_XR R n sh hd fb sb) {e1 e2 e3 e4 : Int32} (h1 : e1 = nI (dd_s c)) (h2 : e2 = nI (dd_h c)) (h3 : e3 = nI (dd_a c)) (h4 : e4 = nI (dd_e c)) :
    dd_XR (dd_Rp R n c) (n + 1) (upd sh n e1) (upd hd n e2) (upd fb n e3) (upd sb n e4) := by
  intro i hi
  unfold upd
  by_cases e : i = n
  · subst e
    rw [dd_Rp_n, if_pos rfl, if_pos rfl, if_pos rfl, if_pos rfl]
    exact ⟨h1, h2, h3, h4⟩
  · rw [dd_Rp_o e, if_neg e, if_neg e, if_neg e, if_neg e]
    exact H i (by omega)
theorem dd_YR_p {R : Nat → Nat} {n c : Nat} {ys yh ya yb : Nat → Int32} (H : dd_YR R n ys yh ya yb) {e1 e2 e3 e4 : Int32} (h1 : e1 = nI (dd_s c)) (h2 : e2 = nI (dd_h c)) (h3 : e3 = nI (dd_a c)) (h4 : e4 = nI (dd_b c)) :
    dd_YR (dd_Rp R n c) (n + 1) (upd ys n e1) (upd yh n e2) (upd ya n e3) (upd yb n e4) := by
  intro i hi
  unfold upd
  by_cases e : i = n
  · subst e
    rw [dd_Rp_n, if_pos rfl, if_pos rfl, if_pos rfl, if_pos rfl]
    exact ⟨h1, h2, h3, h4⟩
  · rw [dd_Rp_o e, if_neg e, if_neg e, if_neg e, if_neg e]
    exact H i (by omega)
theorem dd_XR_d {R : Nat → Nat} {n c : Nat} {sh hd fb sb : Nat → Int32} (H : dd_XR (dd_Rp R n c) (n + 1) sh hd fb sb) : dd_XR R n sh hd fb sb := by
  intro i hi
  have := H i (by omega)
  rw [dd_Rp_o (by omega)] at this
  exact this
theorem dd_YR_d {R : Nat → Nat} {n c : Nat} {ys yh ya yb : Nat → Int32} (H : dd_YR (dd_Rp R n c) (n + 1) ys yh ya yb) : dd_YR R n ys yh ya yb := by
  intro i hi
  have := H i (by omega)
  rw [dd_Rp_o (by omega)] at this
  exact this
theorem dd_d6 {w : Nat} (hw : w < 216) : (nI w / 6) - (nI w / 6) / 6 * 6 = nI (w / 6 % 6) := by
  have d1 : nI w / 6 = nI (w / 6) := pk_div (d := 6) (by omega) (by omega) (by omega)
  rw [d1]
  exact pk_rem (d := 6) (by omega) (by omega) (by omega)
theorem dd_d36 {w : Nat} (hw : w < 216) : nI w / 36 = nI (w / 36) := pk_div (d := 36) (by omega) (by omega) (by omega)
theorem dd_dr {w : Nat} (hw : w < 216) : nI w - nI w / 6 * 6 = nI (w % 6) := pk_rem (d := 6) (by omega) (by omega) (by omega)
section
variable {rc gc lc yn : Int32} {fa he hb sh hd fb sb dp lv ys yh ya yb yf yw yo yl yd : Nat → Int32}
theorem dd_xwr {post : SX → Prop} {R : Nat → Nat} {n s w : Nat} (hn : n < 8) (hs : s < 5) (hw : w < 216) (hX : dd_XR R n sh hd fb sb)
    (K : ∀ sh' hd' fb' sb', dd_XR (dd_Rp R n (216 * s + w)) (n + 1) sh' hd' fb' sb' → post (rc, gc, lc, fa, he, hb, sh', hd', fb', sb', dp, lv)) : wpX_writeRule post (rc, gc, lc, fa, he, hb, sh, hd, fb, sb, dp, lv) (nI n) (nI s) (nI w) := by
  obtain ⟨c0, c1, c2, c3, c4⟩ := dd_code hs hw
  have v8 : vp_in (nI n) 8 := dd_v8 hn
  have hA := (dd_d6 hw).trans (congrArg nI c3.symm)
  have hH := (dd_d36 hw).trans (congrArg nI c2.symm)
  have hB := (dd_dr hw).trans (congrArg nI c4.symm)
  unfold wpX_writeRule
  dsimp only
  rw [nI_clamp (n := n) (by omega), hA, hH, hB]
  refine ⟨by decide, by decide, nm_e ⟨v8, nm_e ⟨by decide, v8, nm_e ⟨v8, nm_e (pk_eq s 0 (fun z => ⟨v8, nm_e (K _ _ _ _ (dd_XR_p hX (by rw [c1]) rfl rfl ?_))⟩) (fun z => pk_eq s 1 (fun z1 => ⟨v8, nm_e (K _ _ _ _ (dd_XR_p hX (by rw [c1]) rfl rfl ?_))⟩) (fun z1 => ⟨by decide, v8, nm_e (K _ _ _ _ (dd_XR_p hX (by rw [c1]) rfl rfl ?_))⟩)))⟩⟩⟩⟩
  · rw [dd_e1 (by omega)]
  · rw [dd_e1 (by omega)]
  · rw [dd_e2 (by omega)]
end
theorem i_vc_addRule {k : Nat} {u : SX} {v : SY} (I : i_Rel k u v) (hk : k + 4 ≤ 2048) (v1 : Int32) (v2 : Int32) : wpX_addRule (fun r u' => wpY_addRule (fun r' v' => r' = r ∧ i_Rel (k + 4) u' v') v v1 v2) u v1 v2 := by
  have I' := i_up I
  obtain ⟨n, R, P, Fc, T, B, fa, he, hb, sh, hd, fb, sb, dp, lv, ys, yh, ya, yb, yf, yw, yo, yl, yd, rfl, rfl, G⟩ := I
  obtain ⟨hn, hR, hX, hY, h5, hP, H1, H1', H2, H2', H3⟩ := G
  by_cases h1 : v1 < 0
  · exact br_t h1 (br_t h1 ⟨rfl, I'⟩)
  by_cases h2 : 4 < v1
  · exact br_f h1 (br_t h2 (br_f h1 (br_t h2 ⟨rfl, I'⟩)))
  by_cases h3 : v2 < 0
  · exact br_f h1 (br_f h2 (br_t h3 (br_f h1 (br_f h2 (br_t h3 ⟨rfl, I'⟩)))))
  obtain ⟨s, hs, rfl⟩ := nI_of2 (x := v1) (M := 4) (n := 4) rfl h1 (Int32.not_lt.mp h2)
  obtain ⟨w, hw, rfl⟩ := nI_of h3
  by_cases h4 : w < 216
  · have a4 : nI w < 216 := nI_lt (b := 216) h4 (by decide)
    have b4 : nI w ≤ 215 := nI_le (b := 215) (by omega) (by decide)
    by_cases n8 : n < 8
    · have a8 : nI n < 8 := nI_lt (b := 8) n8 (by decide)
      have b8 : ¬ nI n = 8 := by
        intro z
        have := (nI_eq (a := n) (b := 8) (by omega) (by decide)).mp z
        omega
      obtain ⟨c0, c1, c2, c3, c4⟩ := dd_code (s := s) (w := w) (by omega) h4
      have hR' : ∀ i, i < n + 1 → dd_Rp R n (216 * s + w) i < 1080 := by
        intro i hi
        by_cases e : i = n
        · rw [e, dd_Rp_n]; exact c0
        · rw [dd_Rp_o e]; exact hR i (by omega)
      have v9 : vp_in (nI n) 9 := dd_v9 (by omega)
      have hYn := dd_YR_p (c := 216 * s + w) hY (e1 := nI s) (e2 := nI w / 36) (e3 := (nI w / 6) - (nI w / 6) / 6 * 6) (e4 := nI w - nI w / 6 * 6) (by rw [c1]) ((dd_d36 h4).trans (by rw [c2])) ((dd_d6 h4).trans (by rw [c3])) ((dd_dr h4).trans (by rw [c4]))
      have CY : ∀ Q : Int32 → SY → Prop, (∀ d, dd_ly (dd_Rp R n (216 * s + w)) (n + 1) → wpY_settle (fun v => Q v.1 v) (nI (n + 1), upd ys n (nI s), upd yh n (nI w / 36), upd ya n ((nI w / 6) - (nI w / 6) / 6 * 6), upd yb n (nI w - nI w / 6 * 6), yf, yw, yo, yl, d)) → (∀ d, ¬ dd_ly (dd_Rp R n (216 * s + w)) (n + 1) → Q (-3) (nI n, upd ys n (nI s), upd yh n (nI w / 36), upd ya n ((nI w / 6) - (nI w / 6) / 6 * 6), upd yb n (nI w - nI w / 6 * 6), yf, yw, yo, yl, d)) → wpY_addRule Q (nI n, ys, yh, ya, yb, yf, yw, yo, yl, yd) (nI s) (nI w) := by
        intro Q q1 q0
        unfold wpY_addRule
        dsimp only
        refine br_f h1 (br_f h2 (br_f h3 (br_t b4 (br_f b8 ?_))))
        rw [nI_clamp (n := n) (by omega), nI_1 n]
        refine ⟨v9, nm_e ⟨by decide, v9, nm_e ⟨by decide, by decide, v9, nm_e ⟨by decide, v9, nm_e ?_⟩⟩⟩⟩
        exact dd_yly (by omega) hR' hYn (fun d hl => br_f dd_o1 (nm_r (nI_1 n) (q1 d hl))) (fun d hl => br_t rfl (q0 d hl))
      unfold wpX_addRule
      dsimp only
      refine br_f h1 (br_f h2 (br_f h3 (br_t a4 (br_t a8 (dd_xwr n8 (by omega) h4 hX (fun sh' hd' fb' sb' hX' => nm_r (nI_1 n) (dd_xly (by omega) hR' hX' (fun d hl => br_f dd_o1 ?_) (fun d hl => br_t rfl (nm_r (e' := nI n) ?_ ?_)))))))))
      · obtain ⟨P', h5', hP'⟩ := dd_ly_pot hl
        obtain ⟨F, hF⟩ := dd_Lf_ex hP'
        refine dd_xup (by omega) hR' hX' hP' h5' hF H1 H2 (fun h' b' l' T' A1 A2 => CY _ (fun d2 _ => ?_) (fun d2 nl => absurd hl nl))
        refine dd_yst (by omega) hR' hYn hP' h5' hF H1' H2' (fun w2 o yl' T'' B1 B2 B3 => ⟨rfl, ?_⟩)
        exact ⟨n + 1, dd_Rp R n (216 * s + w), P', Fc, T', T, _, _, _, _, _, _, _, _, _, _, _, _, _, _, _, _, _, _, rfl, rfl, by omega, hR', hX', hYn, h5', hP', H1, H1', A1, dd_YH_e B1 (dd_FA_u 6 _ _ B3 A2), B2⟩
      · exact nI_pred n
      · refine CY _ (fun d2 yl2 => absurd yl2 hl) (fun d2 _ => ⟨rfl, ?_⟩)
        exact ⟨n, R, P, Fc, T, B, _, _, _, _, _, _, _, _, _, _, _, _, _, _, _, _, _, _, rfl, rfl, hn, hR, dd_XR_d hX', dd_YR_d hYn, h5, hP, H1, H1', H2, H2', H3⟩
    · have e : n = 8 := by omega
      subst e
      exact br_f h1 (br_f h2 (br_f h3 (br_t a4 (br_f (nI_nlt (a := 8) (b := 8) (by omega) (by omega)) (br_f h1 (br_f h2 (br_f h3 (br_t b4 (br_t rfl ⟨rfl, I'⟩)))))))))
  · have a4 : ¬ nI w < 216 := nI_nlt (b := 216) (by omega) hw
    have b4 : ¬ nI w ≤ 215 := nI_ge (a := 215) (by omega) hw
    exact br_f h1 (br_f h2 (br_f h3 (br_f a4 (br_f h1 (br_f h2 (br_f h3 (br_f b4 ⟨rfl, I'⟩)))))))
/-! ===== a rule is taken out ===== -/
def dd_Rw (R : Nat → Nat) (i j : Nat) : Nat → Nat := fun t => if t < i then R t else if t < j then R (t + 1) else R t
theorem dd_Rw_0 (R : Nat → Nat) (i : Nat) : dd_Rw R i i = R := by
  funext t
  unfold dd_Rw
  by_cases h : t < i
  · rw [if_pos h]
  · rw [if_neg h, if_neg h]
theorem dd_Rw_o {R : Nat → Nat} {i j t : Nat} (h : t ≠ j) : dd_Rw R i (j + 1) t = dd_Rw R i j t := by
  unfold dd_Rw
  by_cases a : t < i
  · rw [if_pos a, if_pos a]
  · rw [if_neg a, if_neg a]
    by_cases b : t < j
    · rw [if_pos b, if_pos (by omega)]
    · rw [if_neg b, if_neg (by omega)]
theorem dd_Rw_j {R : Nat → Nat} {i j : Nat} (h : i ≤ j) : dd_Rw R i (j + 1) j = dd_Rw R i j (j + 1) := by
  unfold dd_Rw
  rw [if_neg (by omega), if_pos (by omega), if_neg (by omega), if_neg (by omega)]
theorem dd_XR_w {R : Nat → Nat} {n i j : Nat} {sh hd fb sb : Nat → Int32} (hi : i ≤ j) (hj : j + 1 < n) (H : dd_XR (dd_Rw R i j) n sh hd fb sb) : dd_XR (dd_Rw R i (j + 1)) n (upd sh j (sh (j + 1))) (upd hd j (hd (j + 1))) (upd fb j (fb (j + 1))) (upd sb j (sb (j + 1))) := by
  intro t ht
  unfold upd
  by_cases e : t = j
  · subst e
    rw [if_pos rfl, if_pos rfl, if_pos rfl, if_pos rfl, dd_Rw_j hi]
    exact H (t + 1) hj
  · rw [if_neg e, if_neg e, if_neg e, if_neg e, dd_Rw_o e]
    exact H t ht
theorem dd_YR_w {R : Nat → Nat} {n i j : Nat} {ys yh ya yb : Nat → Int32} (hi : i ≤ j) (hj : j + 1 < n) (H : dd_YR (dd_Rw R i j) n ys yh ya yb) : dd_YR (dd_Rw R i (j + 1)) n (upd ys j (ys (j + 1))) (upd yh j (yh (j + 1))) (upd ya j (ya (j + 1))) (upd yb j (yb (j + 1))) := by
  intro t ht
  unfold upd
  by_cases e : t = j
  · subst e
    rw [if_pos rfl, if_pos rfl, if_pos rfl, if_pos rfl, dd_Rw_j hi]
    exact H (t + 1) hj
  · rw [if_neg e, if_neg e, if_neg e, if_neg e, dd_Rw_o e]
    exact H t ht
theorem dd_Rw_in {R : Nat → Nat} {n i : Nat} {A : Nat → Prop} (h : ∀ t, t < n + 1 → A (R t)) : ∀ t, t < n → A (dd_Rw R i n t) := by
  intro t ht
  unfold dd_Rw
  by_cases a : t < i
  · rw [if_pos a]; exact h t (by omega)
  · rw [if_neg a, if_pos ht]; exact h (t + 1) (by omega)
section
variable {rc gc lc yn : Int32} {fa he hb sh hd fb sb dp lv ys yh ya yb yf yw yo yl yd : Nat → Int32}
theorem dd_x26 {post : Int32 → SX → Prop} {R : Nat → Nat} {n i : Nat} (hn : n + 1 ≤ 8)
    (K : ∀ sh' hd' fb' sb', dd_XR (dd_Rw R i n) n sh' hd' fb' sb' → wpX_update (fun u => post u.1 u) (nI n, gc, lc, fa, he, hb, sh', hd', fb', sb', dp, lv)) :
    ∀ k j sh' hd' fb' sb', j + k = n → i ≤ j → dd_XR (dd_Rw R i j) (n + 1) sh' hd' fb' sb' → wX_dropRule_26 post (nI n) gc lc (k + 1) (nI j) fa he hb sh' hd' fb' sb' dp lv := by
  intro k
  induction k with
  | zero =>
    intro j sh' hd' fb' sb' hj hi H
    have e : j = n := by omega
    subst e
    exact br_t (nI_le (Nat.le_refl _) (by omega)) (K sh' hd' fb' sb' (fun t ht => H t (by omega)))
  | succ k ih =>
    intro j sh' hd' fb' sb' hj hi H
    have a8 : vp_in (nI j) 8 := dd_v8 (by omega)
    have b8 : vp_in (nI j + 1) 8 := by rw [nI_1]; exact dd_v8 (by omega)
    have cj : (nI j).toNatClampNeg = j := nI_clamp (by omega)
    have cj1 : (nI j + 1).toNatClampNeg = j + 1 := by rw [nI_1]; exact nI_clamp (by omega)
    refine br_f (nI_ge (by omega) (by omega)) ?_
    rw [cj, cj1]
    exact ⟨b8, a8, nm_e ⟨b8, a8, nm_e ⟨b8, a8, nm_e ⟨b8, a8, nm_e (nm_r (nI_1 j) (ih (j + 1) _ _ _ _ (by omega) (by omega) (dd_XR_w hi (by omega) H)))⟩⟩⟩⟩
theorem dd_y16 {post : Int32 → SY → Prop} {R : Nat → Nat} {n i : Nat} (hn : n + 1 ≤ 8)
    (K : ∀ ys' yh' ya' yb', dd_YR (dd_Rw R i n) n ys' yh' ya' yb' → wpY_settle (fun v => post v.1 v) (nI n, ys', yh', ya', yb', yf, yw, yo, yl, yd)) :
    ∀ k j ys' yh' ya' yb', j + k = n → i ≤ j → dd_YR (dd_Rw R i j) (n + 1) ys' yh' ya' yb' → wY_dropRule_16 post (nI (n + 1)) (k + 1) (nI j) ys' yh' ya' yb' yf yw yo yl yd := by
  intro k
  have p : nI (n + 1) - 1 = nI n := nI_pred n
  induction k with
  | zero =>
    intro j ys' yh' ya' yb' hj hi H
    have e : j = n := by omega
    subst e
    exact br_t (by rw [p]; exact nI_le (Nat.le_refl _) (by omega)) (nm_r p (K ys' yh' ya' yb' (fun t ht => H t (by omega))))
  | succ k ih =>
    intro j ys' yh' ya' yb' hj hi H
    have a9 : vp_in (nI j) 9 := dd_v9 (by omega)
    have b9 : vp_in (nI j + 1) 9 := by rw [nI_1]; exact dd_v9 (by omega)
    have cj : (nI j).toNatClampNeg = j := nI_clamp (by omega)
    have cj1 : (nI j + 1).toNatClampNeg = j + 1 := by rw [nI_1]; exact nI_clamp (by omega)
    refine br_f (by rw [p]; exact nI_ge (by omega) (by omega)) ?_
    rw [cj, cj1]
    exact ⟨b9, a9, nm_e ⟨b9, a9, nm_e ⟨b9, a9, nm_e ⟨b9, a9, nm_e (nm_r (nI_1 j) (ih (j + 1) _ _ _ _ (by omega) (by omega) (dd_YR_w hi (by omega) H)))⟩⟩⟩⟩
end
theorem i_vc_dropRule {k : Nat} {u : SX} {v : SY} (I : i_Rel k u v) (hk : k + 4 ≤ 2048) (v1 : Int32) : wpX_dropRule (fun r u' => wpY_dropRule (fun r' v' => r' = r ∧ i_Rel (k + 4) u' v') v v1) u v1 := by
  have I' := i_up I
  obtain ⟨n, R, P, Fc, T, B, fa, he, hb, sh, hd, fb, sb, dp, lv, ys, yh, ya, yb, yf, yw, yo, yl, yd, rfl, rfl, G⟩ := I
  obtain ⟨hn, hR, hX, hY, h5, hP, H1, H1', H2, H2', H3⟩ := G
  by_cases h1 : v1 < 0
  · exact br_t h1 (br_t h1 ⟨rfl, I'⟩)
  obtain ⟨i, hi, rfl⟩ := nI_of h1
  by_cases h2 : i < n
  · have a2 : nI i < nI n := nI_lt h2 (by omega)
    obtain ⟨m, rfl⟩ : ∃ m, n = m + 1 := ⟨n - 1, by omega⟩
    have hR' : ∀ t, t < m → dd_Rw R i m t < 1080 := dd_Rw_in (A := fun c => c < 1080) hR
    have hP' : dd_Cl (dd_Rw R i m) m P := dd_Rw_in (A := fun c => P (dd_a c) ≤ P (dd_h c) ∧ P (dd_e c) + dd_w c ≤ P (dd_h c)) hP
    obtain ⟨F, hF⟩ := dd_Lf_ex hP'
    unfold wpX_dropRule
    dsimp only
    refine br_f h1 (br_t a2 (nm_r (nI_pred m) ⟨m - i + 1, dd_x26 (i := i) hn (fun sh' hd' fb' sb' hX' => ?_) (m - i) i sh hd fb sb (by omega) (Nat.le_refl _) (by rw [dd_Rw_0]; exact hX)⟩))
    refine dd_xup (by omega) hR' hX' hP' h5 hF H1 H2 (fun h' b' l' T' A1 A2 => ?_)
    unfold wpY_dropRule
    dsimp only
    refine br_f h1 (br_t a2 ⟨m - i + 1, dd_y16 (i := i) hn (fun ys' yh' ya' yb' hY' => ?_) (m - i) i ys yh ya yb (by omega) (Nat.le_refl _) (by rw [dd_Rw_0]; exact hY)⟩)
    refine dd_yst (by omega) hR' hY' hP' h5 hF H1' H2' (fun w2 o yl' T'' B1 B2 B3 => ⟨rfl, ?_⟩)
    exact ⟨m, dd_Rw R i m, P, Fc, T', T, _, _, _, _, _, _, _, _, _, _, _, _, _, _, _, _, _, _, rfl, rfl, by omega, hR', hX', hY', h5, hP', H1, H1', A1, dd_YH_e B1 (dd_FA_u 6 _ _ B3 A2), B2⟩
  · have a2 : ¬ nI i < nI n := nI_nlt (by omega) hi
    exact br_f h1 (br_f a2 (br_f h1 (br_f a2 ⟨rfl, I'⟩)))
end
