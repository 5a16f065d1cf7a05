theorem pb_nI (n : Nat) : pj_I (n : Int) = nI n := by
  unfold pj_I nI
  exact Int32.ofInt_eq_ofNat
theorem pb_val {n : Nat} (h : n < 2147483648) : (nI n).toInt = (n : Int) := nI_toInt h
theorem pb_tn {n : Nat} (h : n < 2147483648) : (pj_I (n : Int)).toBitVec.toNat = n := by rw [pb_nI]; exact pk_tn (by omega)
theorem pb_int {z : Int32} {n : Nat} (h : z.toBitVec.toNat = n) (hn : n < 2147483648) : z.toInt = (n : Int) := by
  show z.toBitVec.toInt = _
  rw [BitVec.toInt_eq_toNat_of_lt (by omega), h]
theorem pb_31 : ∀ c : Nat, c < 32 → ((pj_I (c : Int) &&& 31).toBitVec.smod 32).toNat = c := by decide
theorem pb_31u : ∀ c : Nat, c < 32 → (((pj_I (c : Int)).toUInt32 &&& Int32.toUInt32 31).toBitVec % 32).toNat = c := by decide
theorem pb_31v : ∀ c : Nat, c < 32 → ((((pj_I (c : Int)).toUInt32 &&& Int32.toUInt32 31) &&& Int32.toUInt32 31).toBitVec % 32).toNat = c := by decide
theorem pb_shr {n c : Nat} (h : n < 2147483648) (hc : c < 32) : pj_shr (n : Int) (c : Int) = ((n / 2 ^ c : Nat) : Int) := by
  unfold pj_shr
  rw [pb_nI n, pk_shrN h _ c (pb_31 c hc), pb_val (Nat.lt_of_le_of_lt (Nat.div_le_self _ _) h)]
theorem pb_shl {n c : Nat} (hc : c < 32) (h : n * 2 ^ c < 2147483648) : pj_shl (n : Int) (c : Int) = ((n * 2 ^ c : Nat) : Int) := by
  unfold pj_shl
  rw [pb_nI n, pk_shlN _ c (pb_31 c hc) (by omega), pb_val h]
theorem pb_ushr {n c : Nat} (h : n < 2147483648) (hc : c < 32) : pj_ushr (n : Int) (c : Int) = ((n / 2 ^ c : Nat) : Int) := by
  unfold pj_ushr
  rw [pb_nI n, pk_ushrN (by omega) _ c (pb_31u c hc), pb_val (Nat.lt_of_le_of_lt (Nat.div_le_self _ _) h)]
theorem pb_and_lt {a b : Nat} (h : a < 2147483648) : a &&& b < 2147483648 := Nat.lt_of_le_of_lt Nat.and_le_left h
theorem pb_or_lt {a b : Nat} (ha : a < 2147483648) (hb : b < 2147483648) : a ||| b < 2147483648 := Nat.or_lt_two_pow (n := 31) ha hb
theorem pb_and {a b : Nat} (ha : a < 2147483648) (hb : b < 2147483648) : pj_and (a : Int) (b : Int) = ((a &&& b : Nat) : Int) := by
  unfold pj_and
  refine pb_int ?_ (pb_and_lt ha)
  rw [Int32.toBitVec_and, BitVec.toNat_and, pb_tn ha, pb_tn hb]
theorem pb_or {a b : Nat} (ha : a < 2147483648) (hb : b < 2147483648) : pj_or (a : Int) (b : Int) = ((a ||| b : Nat) : Int) := by
  unfold pj_or
  refine pb_int ?_ (pb_or_lt ha hb)
  rw [Int32.toBitVec_or, BitVec.toNat_or, pb_tn ha, pb_tn hb]
/-- a bit, as it is asked -/
theorem pb_bit {m c : Nat} (h : m < 2147483648) (hc : c < 32) : pj_and (pj_shr (m : Int) (c : Int)) 1 = if m.testBit c then 1 else 0 := by
  rw [pb_shr h hc]
  have := pb_and (a := m / 2 ^ c) (b := 1) (Nat.lt_of_le_of_lt (Nat.div_le_self _ _) h) (by decide)
  rw [show ((1 : Nat) : Int) = 1 from rfl] at this
  rw [this, Nat.and_one_is_mod]
  rw [Nat.testBit, Nat.shiftRight_eq_div_pow, Nat.and_comm, Nat.and_one_is_mod]
  rcases Nat.mod_two_eq_zero_or_one (m / 2 ^ c) with h | h <;> simp [h]
theorem pb_bitu {m c : Nat} (h : m < 2147483648) (hc : c < 32) : pj_and (pj_ushr (m : Int) (c : Int)) 1 = if m.testBit c then 1 else 0 := by
  rw [pb_ushr h hc, ← pb_shr h hc]; exact pb_bit h hc
theorem pb_one {c : Nat} (hc : c < 31) : pj_shl 1 (c : Int) = ((2 ^ c : Nat) : Int) := by
  have h2 : 2 ^ c < 2 ^ 31 := Nat.pow_lt_pow_right (by decide) hc
  have := pb_shl (n := 1) (c := c) (by omega) (by omega)
  rw [Nat.one_mul] at this
  exact this
theorem pb_set {m c i : Nat} : (m ||| 2 ^ c).testBit i = (m.testBit i || decide (c = i)) := by rw [Nat.testBit_or, Nat.testBit_two_pow]
/-- X12.has -/
theorem t_has {M : pj_M} {m c : Nat} {Q : Int → pj_M → Prop} (h : m < 2147483648) (hc : c < 32) (q : ∀ r, (r = 0 ∨ r = 1) → (r = 1 ↔ m.testBit c = true) → Q r M) : w_X12_has (m : Int) (c : Int) M Q := by
  unfold w_X12_has
  rw [pb_bit h hc]
  by_cases hb : m.testBit c = true
  · simp only [hb, if_true]
    exact ⟨⟨by decide, by decide⟩, fun h => absurd trivial h, fun _ => q 1 (Or.inr rfl) (by simp [hb])⟩
  · simp only [hb]
    exact ⟨⟨by decide, by decide⟩, fun _ => q 0 (Or.inl rfl) (by simp [hb]), fun h => absurd h (by decide)⟩
theorem t_in {M : pj_M} {v lo hi : Int} {Q : Int → pj_M → Prop} (h1 : pj_in v) (h2 : pj_in lo) (h3 : pj_in hi) (q : ∀ r, (r = 0 ∨ r = 1) → (r = 1 ↔ lo ≤ v ∧ v ≤ hi) → Q r M) : w_X12_in v lo hi M Q :=
  ⟨h1, h2, fun h => q 0 (Or.inl rfl) (by omega), fun h => ⟨h1, h3, fun h' => q 0 (Or.inl rfl) (by omega), fun h' => q 1 (Or.inr rfl) (by omega)⟩⟩
