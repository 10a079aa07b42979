/-! ===== rows of bits ===== -/
theorem dd_b1 : ∀ i, i < 32 → bt 1 i = decide (i = 0) := by decide +kernel
theorem dd_b2i (b : Bool) : ∀ i, i < 32 → bt (if b = true then 1 else 0) i = (decide (i = 0) && b) := by
  intro i hi
  cases b
  · rw [if_neg (by decide), b_0, Bool.and_false]
  · rw [if_pos rfl, dd_b1 i hi, Bool.and_true]
/-- one bit as a number -/
theorem dd_bit (x : Int32) {y : Nat} (hy : y < 32) : (x >>> (nI y &&& 31)) &&& 1 = if bt x y = true then 1 else 0 := by
  apply b_ext
  intro i hi
  rw [b_and, dd_b1 i hi, dd_b2i _ i hi]
  by_cases h : i = 0
  · subst h
    rw [b_sshr y hy x (by omega), if_pos (by omega)]
    simp
  · simp [h]
theorem dd_bit1 (x : Int32) {y : Nat} (hy : y < 32) : (x >>> (nI y &&& 31)) &&& 1 = 1 ↔ bt x y = true := by
  rw [dd_bit x hy]
  by_cases h : bt x y = true
  · simp [h]
  · simp [h]
theorem dd_pow {y : Nat} (hy : y < 32) {i : Nat} (hi : i < 32) : bt ((1 : Int32) <<< (nI y &&& 31)) i = decide (i = y) := by
  rw [b_shl y hy 1 hi]
  by_cases h : y ≤ i
  · rw [dd_b1 _ (by omega), decide_eq_true h, Bool.true_and]
    by_cases e : i = y
    · rw [decide_eq_true e, decide_eq_true (by omega)]
    · rw [decide_eq_false e, decide_eq_false (by omega)]
  · rw [decide_eq_false h, Bool.false_and, decide_eq_false (by omega)]
/-- x's 36 rows hold T -/
def dd_XH (h : Nat → Int32) (T : Nat → Bool) : Prop := ∀ row, row < 36 → ∀ i, i < 32 → bt (h row) i = (decide (i < 6) && T (6 * row + i))
/-- y's 216 cells hold T -/
def dd_YH (h : Nat → Int32) (T : Nat → Bool) : Prop := ∀ k, k < 216 → h k = if T k = true then 1 else 0
theorem dd_XH_e {h : Nat → Int32} {T T' : Nat → Bool} (H : dd_XH h T) (e : dd_Eq T T') : dd_XH h T' := by
  intro row hr i hi
  rw [H row hr i hi]
  by_cases z : i < 6
  · rw [e _ (by omega)]
  · rw [decide_eq_false z, Bool.false_and, Bool.false_and]
theorem dd_YH_e {h : Nat → Int32} {T T' : Nat → Bool} (H : dd_YH h T) (e : dd_Eq T T') : dd_YH h T' := by
  intro k hk
  rw [H k hk, e k hk]
theorem dd_YH_1 {h : Nat → Int32} {T : Nat → Bool} (H : dd_YH h T) {k : Nat} (hk : k < 216) : h k = 0 ↔ T k = false := by
  rw [H k hk]
  cases T k <;> simp
theorem dd_XH_0 : dd_XH (fun _ => 0) (fun _ => false) := by
  intro row hr i hi
  rw [b_0, Bool.and_false]
theorem dd_YH_0 : dd_YH (fun _ => 0) (fun _ => false) := by
  intro k hk
  rfl
/-- T with row `row` replaced by g -/
def dd_row (T : Nat → Bool) (row : Nat) (g : Nat → Bool) : Nat → Bool := fun k => if k / 6 = row then g (k % 6) else T k
theorem dd_XH_u {h : Nat → Int32} {T : Nat → Bool} (H : dd_XH h T) {row : Nat} {v : Int32} {g : Nat → Bool} (hv : ∀ i, i < 32 → bt v i = (decide (i < 6) && g i)) : dd_XH (upd h row v) (dd_row T row g) := by
  intro r hr i hi
  unfold upd
  by_cases e : r = row
  · rw [if_pos e, hv i hi]
    by_cases z : i < 6
    · unfold dd_row
      rw [if_pos (by omega)]
      have : (6 * r + i) % 6 = i := by omega
      rw [this]
    · rw [decide_eq_false z, Bool.false_and, Bool.false_and]
  · rw [if_neg e, H r hr i hi]
    by_cases z : i < 6
    · unfold dd_row
      rw [if_neg (by omega)]
    · rw [decide_eq_false z, Bool.false_and, Bool.false_and]
def dd_set (T : Nat → Bool) (k : Nat) (b : Bool) : Nat → Bool := fun j => if j = k then b else T j
theorem dd_YH_u {h : Nat → Int32} {T : Nat → Bool} (H : dd_YH h T) {k : Nat} {v : Int32} {b : Bool} (hv : v = if b = true then 1 else 0) : dd_YH (upd h k v) (dd_set T k b) := by
  intro j hj
  unfold upd dd_set
  by_cases e : j = k
  · rw [if_pos e, if_pos e, hv]
  · rw [if_neg e, if_neg e, H j hj]
