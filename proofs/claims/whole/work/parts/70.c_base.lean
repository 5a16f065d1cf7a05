def isC (c : Nat) : Prop := c = 115 ∨ c = 135 ∨ c = 155
theorem cr_0 {c : Nat} (h : isC c) : pj_rf c 0 = c + 1 := by rcases h with rfl | rfl | rfl <;> decide
theorem cr_1 {c : Nat} (h : isC c) : pj_rf c 1 = c + 5 := by rcases h with rfl | rfl | rfl <;> decide
theorem cr_2 {c : Nat} (h : isC c) : pj_rf c 2 = c + 10 := by rcases h with rfl | rfl | rfl <;> decide
theorem cr_3 {c : Nat} (h : isC c) : pj_rf c 3 = c + 11 := by rcases h with rfl | rfl | rfl <;> decide
theorem cr_4 {c : Nat} (h : isC c) : pj_rf c 4 = c + 12 := by rcases h with rfl | rfl | rfl <;> decide
theorem cr_5 {c : Nat} (h : isC c) : pj_rf c 5 = c + 13 := by rcases h with rfl | rfl | rfl <;> decide
theorem cr_9 {c : Nat} (h : isC c) : pj_rf c 9 = c + 14 := by rcases h with rfl | rfl | rfl <;> decide
theorem cr_10 {c : Nat} (h : isC c) : pj_rf c 10 = c + 15 := by rcases h with rfl | rfl | rfl <;> decide
theorem cr_13 {c : Nat} (h : isC c) : pj_rf c 13 = c + 16 := by rcases h with rfl | rfl | rfl <;> decide
theorem cr_14 {c : Nat} (h : isC c) : pj_rf c 14 = c + 17 := by rcases h with rfl | rfl | rfl <;> decide
theorem cr_15 {c : Nat} (h : isC c) : pj_rf c 15 = c + 18 := by rcases h with rfl | rfl | rfl <;> decide
theorem cr_16 {c : Nat} (h : isC c) : pj_rf c 16 = c + 19 := by rcases h with rfl | rfl | rfl <;> decide
/-- a row holds sets of columns -/
def bs18 (M : pj_M) (a : Nat) : Prop := ∀ x, 0 ≤ M a x ∧ M a x < 262144
theorem bs18_up {M : pj_M} {a b : Nat} {k : Int} {v : Nat} (h : bs18 M b) (hv : v < 262144) : bs18 (pj_up M a k (v : Int)) b := by
  intro x
  rw [pu_if]
  split
  · omega
  · exact h x
def tbit (z : Int) (p : Nat) : Prop := z.toNat.testBit p = true
theorem pb_hi {E q : Nat} (h : E / 2 ^ q = 0) : ∀ q', q ≤ q' → E.testBit q' = false := by
  intro q' hq
  apply Nat.testBit_lt_two_pow
  have h1 : E < 2 ^ q := by
    have := Nat.div_eq_zero_iff.mp h
    rcases this with h | h
    · exact absurd h (Nat.ne_of_gt (Nat.two_pow_pos q))
    · exact h
  exact Nat.lt_of_lt_of_le h1 (Nat.pow_le_pow_right (by decide) hq)
theorem pb_18 {E q : Nat} (h : E < 262144) (hq : E.testBit q = true) : q < 18 := by
  apply Nat.lt_of_not_le
  intro hle
  have : E.testBit q = false := Nat.testBit_lt_two_pow (Nat.lt_of_lt_of_le h (show 2 ^ 18 ≤ 2 ^ q from Nat.pow_le_pow_right (by decide) hle))
  rw [this] at hq
  cases hq
/-- a symbol takes what lies between two columns, by the chart -/
def cs (M : pj_M) (c : Nat) (s : Int) (p q : Nat) : Prop := (s < 10 ∧ q = p + 1 ∧ tbit (M (c + 15) s) p) ∨ (10 ≤ s ∧ q < 18 ∧ tbit (M (c + 16) ((s - 10) * 18 + (q : Int))) p)
theorem t_stepBack {M : pj_M} {c E : Nat} {s : Int} {Q : Int → pj_M → Prop} (hc : isC c) (hs : 0 ≤ s ∧ s ≤ 16) (hE : E < 262144) (hW : bs18 M (c + 16)) (hP : bs18 M (c + 15)) (q : ∀ R : Nat, R < 262144 → (∀ p, R.testBit p = true ↔ ∃ q, E.testBit q = true ∧ cs M c s p q) → Q (R : Int) M) : w_X0_stepBack c s (E : Int) M Q := by
  unfold w_X0_stepBack
  refine ⟨⟨by omega, by omega⟩, fun h10 => ?_, fun h10 => ⟨⟨by omega, by omega⟩, ?_⟩⟩
  · unfold w_X0_stepBack_31
    refine pj_lp_inv (fun z : Int × Int × pj_M => ∃ (a n : Nat), z.1 = (a : Int) ∧ z.2.1 = (n : Int) ∧ n ≤ 18 ∧ z.2.2 = M ∧ a < 262144 ∧ ∀ p, a.testBit p = true ↔ ∃ q, q < n ∧ E.testBit q = true ∧ tbit (M (c + 16) ((s - 10) * 18 + (q : Int))) p) (fun z => (18 - z.2.1).toNat) ?_ (0, 0, M) ⟨0, 0, rfl, rfl, by decide, rfl, by decide, fun p => ⟨fun h => by simp at h, fun ⟨q, h, _⟩ => absurd h (Nat.not_lt_zero _)⟩⟩
    rintro ⟨x4, x5, M1⟩ ⟨a, n, e1, e2, hn, e3, ha, hbit⟩ P hPP
    dsimp only at e1 e2 e3 hPP ⊢
    subst e1; subst e2; subst e3
    unfold w_X0_stepBack_31b
    rw [cr_13 hc]
    have fin : (∀ q', n ≤ q' → q' < 18 → E.testBit q' = false) → Q (a : Int) M1 := fun h => q a ha (fun p => by
      rw [hbit p]
      constructor
      · rintro ⟨q', h1, h2, h3⟩; exact ⟨q', h2, Or.inr ⟨h10, by omega, h3⟩⟩
      · rintro ⟨q', h1, h2 | ⟨-, h2, h3⟩⟩
        · omega
        · refine ⟨q', Nat.lt_of_not_le (fun h9 => ?_), h1, h3⟩
          rw [h q' h9 h2] at h1; cases h1)
    refine ⟨⟨by omega, by omega⟩, fun hc1 => fin (fun q' h1 h2 => by omega), fun hc1 => ?_⟩
    have hn18 : n < 18 := by omega
    rw [pb_bitu (by omega) (by omega), pb_ushr (by omega) (by omega)]
    have hdiv : E / 2 ^ n ≤ E := Nat.div_le_self _ _
    have hz0 : ((E / 2 ^ n : Nat) : Int) = 0 → E / 2 ^ n = 0 := fun h => by exact_mod_cast h
    generalize hdv : E / 2 ^ n = dv at hdiv hz0 ⊢
    refine ⟨⟨by omega, by omega⟩, fun h0 => fin (fun q' h1 _ => pb_hi (by rw [hdv]; exact hz0 h0) q' h1), fun h0 => ?_⟩
    have next : ∀ a' : Nat, a' < 262144 → (∀ p, a'.testBit p = true ↔ a.testBit p = true ∨ (E.testBit n = true ∧ tbit (M1 (c + 16) ((s - 10) * 18 + (n : Int))) p)) → P ((a' : Int), (n : Int) + 1, M1) := by
      intro a' h1 h2
      refine hPP ((a' : Int), (n : Int) + 1, M1) ⟨a', n + 1, rfl, by show (n : Int) + 1 = _; omega, by omega, rfl, h1, fun p => ?_⟩ (by show (18 - ((n : Int) + 1)).toNat < (18 - (n : Int)).toNat; omega)
      rw [h2, hbit]
      constructor
      · rintro (⟨q', a1, a2, a3⟩ | ⟨a1, a2⟩)
        · exact ⟨q', by omega, a2, a3⟩
        · exact ⟨n, by omega, a1, a2⟩
      · rintro ⟨q', a1, a2, a3⟩
        by_cases e : q' = n
        · subst e; exact Or.inr ⟨a2, a3⟩
        · exact Or.inl ⟨q', by omega, a2, a3⟩
    by_cases hb : E.testBit n = true
    · simp only [hb, if_true]
      refine ⟨⟨by decide, by decide⟩, fun h => absurd h (by decide), fun _ => ⟨⟨by omega, by omega⟩, fun z hz => ?_⟩⟩
      have hwv := hW ((s - 10) * 18 + (n : Int))
      obtain ⟨v, hv⟩ : ∃ v : Nat, M1 (c + 16) ((s - 10) * 18 + (n : Int)) = (v : Int) := ⟨_, (Int.toNat_of_nonneg hwv.1).symm⟩
      rw [hv] at hwv
      subst hz
      rw [hv, pb_or (by omega) (by omega)]
      refine next (a ||| v) (Nat.or_lt_two_pow (n := 18) ha (by omega)) (fun p => ?_)
      unfold tbit
      rw [Nat.testBit_or, hv, Int.toNat_natCast]
      simp [hb]
    · simp only [hb]
      refine ⟨⟨by decide, by decide⟩, fun _ => next a ha (fun p => by simp [hb]), fun h => absurd (by simp) h⟩
  · rw [cr_10 hc]
    have hpv := hP s
    obtain ⟨v, hv⟩ : ∃ v : Nat, M (c + 15) s = (v : Int) := ⟨_, (Int.toNat_of_nonneg hpv.1).symm⟩
    rw [hv] at hpv
    have h1 : pj_ushr (E : Int) 1 = ((E / 2 ^ 1 : Nat) : Int) := pb_ushr (c := 1) (by omega) (by decide)
    have hd : E / 2 ^ 1 ≤ E := Nat.div_le_self _ _
    rw [h1, hv, pb_and (by omega) (by omega)]
    refine q _ (Nat.lt_of_le_of_lt Nat.and_le_left (by omega)) (fun p => ?_)
    rw [Nat.testBit_and, Nat.testBit_div_two_pow]
    unfold cs tbit
    rw [hv, Int.toNat_natCast]
    constructor
    · intro h
      rw [Bool.and_eq_true] at h
      exact ⟨p + 1, h.1, Or.inl ⟨by omega, rfl, h.2⟩⟩
    · rintro ⟨q', h1, ⟨-, rfl, h3⟩ | ⟨h2, -⟩⟩
      · rw [Bool.and_eq_true]; exact ⟨h1, h3⟩
      · omega
/-- the symbols of an alternative from its end on: what begins where the last n of them take all up to a column of E0 -/
def cR (M : pj_M) (c : Nat) (k z : Int) (E0 : Nat → Prop) : Nat → Nat → Prop
  | 0, p => E0 p
  | n + 1, p => ∃ q, cs M c (M (c + 12) (k * 4 + (z - 1 - (n : Int)))) p q ∧ cR M c k z E0 n q
