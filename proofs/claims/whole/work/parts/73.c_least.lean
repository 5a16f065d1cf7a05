theorem pb_low {E : Nat} (h : E ≠ 0) : ∃ k, E.testBit k = true ∧ ∀ i, i < k → E.testBit i = false := by
  obtain ⟨i, hi⟩ := Nat.exists_testBit_of_ne_zero h
  induction i using Nat.strongRecOn with
  | _ n ih =>
    by_cases hx : ∃ m, m < n ∧ E.testBit m = true
    · obtain ⟨m, h1, h2⟩ := hx
      exact ih m h1 h2
    · exact ⟨n, hi, fun i hi2 => by
        by_cases hb : E.testBit i = true
        · exact absurd ⟨i, hi2, hb⟩ hx
        · simpa using hb⟩
theorem pb_negx {E : Nat} (h1 : 1 ≤ E) (h2 : E < 2147483648) : pj_I (pj_neg (E : Int)) = pj_I (pj_xor ((E - 1 : Nat) : Int) (-1)) := by
  unfold pj_xor
  rw [pj_of]
  apply Int32.toBitVec_inj.mp
  have e1 : (pj_I (-1)).toBitVec = BitVec.allOnes 32 := by decide
  rw [Int32.toBitVec_xor, e1, BitVec.xor_allOnes]
  apply BitVec.eq_of_toNat_eq
  rw [BitVec.toNat_not, pb_tn (by omega)]
  show (BitVec.ofInt 32 (-(E : Int))).toNat = _
  rw [BitVec.toNat_ofInt]
  omega
theorem pb_lsb {E k : Nat} (hE : E < 2147483648) (h1 : E.testBit k = true) (h2 : ∀ i, i < k → E.testBit i = false) : pj_and (E : Int) (pj_neg (E : Int)) = ((2 ^ k : Nat) : Int) := by
  have h0 : 1 ≤ E := by
    rcases Nat.eq_zero_or_pos E with h | h
    · subst h; simp at h1
    · exact h
  have ea : pj_and (E : Int) (pj_neg (E : Int)) = pj_and (E : Int) (pj_xor ((E - 1 : Nat) : Int) (-1)) := by
    unfold pj_and; rw [pb_negx h0 hE]
  obtain ⟨v, e, hv, hb⟩ := pb_andn (a := E) (b := E - 1) hE (by omega)
  rw [ea, e]
  congr 1
  apply Nat.eq_of_testBit_eq
  intro i
  rw [hb, Nat.testBit_two_pow]
  have hmod : E % 2 ^ k = 0 := by
    apply Nat.eq_of_testBit_eq
    intro j
    rw [Nat.testBit_mod_two_pow]
    by_cases hj : j < k
    · simp [h2 j hj]
    · simp [hj]
  have hodd : (E / 2 ^ k) % 2 = 1 := by
    have := h1
    rw [Nat.testBit, Nat.shiftRight_eq_div_pow, Nat.and_comm, Nat.and_one_is_mod] at this
    simpa using this
  have hp := Nat.two_pow_pos k
  have hdm := Nat.div_add_mod E (2 ^ k)
  rw [hmod, Nat.add_zero] at hdm
  generalize hm : E / 2 ^ k = m at hodd hdm
  generalize hP : 2 ^ k = P at hp hdm
  have hd1 : (E - 1) / 2 ^ k = m - 1 := by
    rw [hP]
    have e2 : E - 1 = P * (m - 1) + (P - 1) := by
      have : P * m = P * (m - 1) + P := by
        rw [← Nat.mul_succ, show (m - 1).succ = m by omega]
      omega
    rw [e2, Nat.mul_add_div hp, Nat.div_eq_of_lt (by omega), Nat.add_zero]
  by_cases hik : i < k
  · rw [h2 i hik]; simp; omega
  · obtain ⟨j, rfl⟩ : ∃ j, i = k + j := ⟨i - k, by omega⟩
    have t1 : E.testBit (k + j) = m.testBit j := by rw [Nat.add_comm, ← Nat.testBit_div_two_pow, hm]
    have t2 : (E - 1).testBit (k + j) = (m - 1).testBit j := by rw [Nat.add_comm, ← Nat.testBit_div_two_pow, hd1]
    rw [t1, t2]
    cases j with
    | zero =>
      have a1 : m.testBit 0 = true := by rw [Nat.testBit_zero]; simp [hodd]
      have a2 : (m - 1).testBit 0 = false := by rw [Nat.testBit_zero]; simp; omega
      rw [a1, a2]; simp
    | succ j =>
      rw [Nat.testBit_succ, Nat.testBit_succ, show (m - 1) / 2 = m / 2 by omega]
      simp
theorem pb_bits : ∀ k : Nat, k < 18 → ∀ (M : pj_M) (Q : Int → pj_M → Prop), Q (k : Int) M → w_Jbits (((2 ^ k : Nat) : Int) - 1) M Q := by
  intro k hk M Q q
  unfold w_Jbits
  rintro z1 rfl z2 rfl z3 rfl z4 rfl z5 rfl
  have : ∀ k : Nat, k < 18 → pj_and (pj_and ((pj_and ((((2 ^ k : Nat) : Int) - 1) - (pj_and (pj_ushr (((2 ^ k : Nat) : Int) - 1) 1) 1431655765)) 858993459) + (pj_and (pj_ushr ((((2 ^ k : Nat) : Int) - 1) - (pj_and (pj_ushr (((2 ^ k : Nat) : Int) - 1) 1) 1431655765)) 2) 858993459) + (pj_ushr ((pj_and ((((2 ^ k : Nat) : Int) - 1) - (pj_and (pj_ushr (((2 ^ k : Nat) : Int) - 1) 1) 1431655765)) 858993459) + (pj_and (pj_ushr ((((2 ^ k : Nat) : Int) - 1) - (pj_and (pj_ushr (((2 ^ k : Nat) : Int) - 1) 1) 1431655765)) 2) 858993459)) 4)) 252645135 + (pj_ushr (pj_and ((pj_and ((((2 ^ k : Nat) : Int) - 1) - (pj_and (pj_ushr (((2 ^ k : Nat) : Int) - 1) 1) 1431655765)) 858993459) + (pj_and (pj_ushr ((((2 ^ k : Nat) : Int) - 1) - (pj_and (pj_ushr (((2 ^ k : Nat) : Int) - 1) 1) 1431655765)) 2) 858993459) + (pj_ushr ((pj_and ((((2 ^ k : Nat) : Int) - 1) - (pj_and (pj_ushr (((2 ^ k : Nat) : Int) - 1) 1) 1431655765)) 858993459) + (pj_and (pj_ushr ((((2 ^ k : Nat) : Int) - 1) - (pj_and (pj_ushr (((2 ^ k : Nat) : Int) - 1) 1) 1431655765)) 2) 858993459)) 4)) 252645135) 8) + (pj_ushr (pj_and ((pj_and ((((2 ^ k : Nat) : Int) - 1) - (pj_and (pj_ushr (((2 ^ k : Nat) : Int) - 1) 1) 1431655765)) 858993459) + (pj_and (pj_ushr ((((2 ^ k : Nat) : Int) - 1) - (pj_and (pj_ushr (((2 ^ k : Nat) : Int) - 1) 1) 1431655765)) 2) 858993459) + (pj_ushr ((pj_and ((((2 ^ k : Nat) : Int) - 1) - (pj_and (pj_ushr (((2 ^ k : Nat) : Int) - 1) 1) 1431655765)) 858993459) + (pj_and (pj_ushr ((((2 ^ k : Nat) : Int) - 1) - (pj_and (pj_ushr (((2 ^ k : Nat) : Int) - 1) 1) 1431655765)) 2) 858993459)) 4)) 252645135 + (pj_ushr (pj_and ((pj_and ((((2 ^ k : Nat) : Int) - 1) - (pj_and (pj_ushr (((2 ^ k : Nat) : Int) - 1) 1) 1431655765)) 858993459) + (pj_and (pj_ushr ((((2 ^ k : Nat) : Int) - 1) - (pj_and (pj_ushr (((2 ^ k : Nat) : Int) - 1) 1) 1431655765)) 2) 858993459) + (pj_ushr ((pj_and ((((2 ^ k : Nat) : Int) - 1) - (pj_and (pj_ushr (((2 ^ k : Nat) : Int) - 1) 1) 1431655765)) 858993459) + (pj_and (pj_ushr ((((2 ^ k : Nat) : Int) - 1) - (pj_and (pj_ushr (((2 ^ k : Nat) : Int) - 1) 1) 1431655765)) 2) 858993459)) 4)) 252645135) 8)) 16)) 63 = (k : Int) := by decide +kernel
  rw [this k hk]
  exact q
/-- the lowest bit -/
theorem t_lowest {M : pj_M} {E : Nat} {Q : Int → pj_M → Prop} (hE : E < 262144) (q : ∀ r : Int, 0 ≤ r → r ≤ 1048576 → (∀ p : Nat, p < 18 → (r ≤ (p : Int) ↔ ∃ i, i ≤ p ∧ E.testBit i = true)) → Q r M) : w_X0_lowest (E : Int) M Q := by
  unfold w_X0_lowest
  by_cases h0 : E = 0
  · subst h0
    rw [show pj_and ((0 : Nat) : Int) (pj_neg ((0 : Nat) : Int)) - 1 = -1 by decide]
    unfold w_Jbits
    rintro z1 rfl z2 rfl z3 rfl z4 rfl z5 rfl
    refine q _ (by decide +kernel) (by decide +kernel) (fun p hp => ⟨fun h => ?_, fun ⟨i, _, h⟩ => by simp at h⟩)
    exfalso
    exact absurd (Int.le_trans h (show (p : Int) ≤ 17 by omega)) (by decide +kernel)
  · obtain ⟨k, h1, h2⟩ := pb_low h0
    have hk := pb_18 hE h1
    rw [pb_lsb (by omega) h1 h2]
    refine pb_bits k hk M _ (q _ (by omega) (by omega) (fun p hp => ⟨fun h => ⟨k, by omega, h1⟩, fun ⟨i, a1, a2⟩ => ?_⟩))
    by_cases hik : i < k
    · rw [h2 i hik] at a2; cases a2
    · omega
/-- a row holds least begins -/
def be18 (M : pj_M) (a : Nat) : Prop := ∀ x, 0 ≤ M a x ∧ M a x ≤ 1048576
/-- an end of a symbol takes what lies between two columns, or less -/
def cp (M : pj_M) (c : Nat) (s : Int) (p q : Nat) : Prop := (s < 10 ∧ (q ≤ p ∨ ∃ p0, q = p0 + 1 ∧ p0 ≤ p ∧ tbit (M (c + 15) s) p0)) ∨ (10 ≤ s ∧ q < 18 ∧ M (c + 18) ((s - 10) * 18 + (q : Int)) ≤ (p : Int))
theorem t_leastEnd {M : pj_M} {c E : Nat} {s : Int} {Q : Int → pj_M → Prop} (hc : isC c) (hs : 0 ≤ s ∧ s ≤ 16) (hE : E < 262144) (hW : be18 M (c + 18)) (hP : bs18 M (c + 15)) (q : ∀ r : Int, 0 ≤ r → r ≤ 1048576 → (∀ p : Nat, p < 18 → (r ≤ (p : Int) ↔ ∃ q, E.testBit q = true ∧ cp M c s p q)) → Q r M) : w_X0_leastEnd c s (E : Int) M Q := by
  unfold w_X0_leastEnd
  refine ⟨⟨by omega, by omega⟩, fun h10 => ?_, fun h10 => ⟨⟨by omega, by omega⟩, ?_⟩⟩
  · unfold w_X0_leastEnd_37
    refine pj_lp_inv (fun z : Int × Int × pj_M => ∃ (n : Nat), z.2.1 = (n : Int) ∧ n ≤ 18 ∧ z.2.2 = M ∧ 0 ≤ z.1 ∧ z.1 ≤ 1048576 ∧ ∀ p : Nat, p < 18 → (z.1 ≤ (p : Int) ↔ ∃ q, q < n ∧ E.testBit q = true ∧ M (c + 18) ((s - 10) * 18 + (q : Int)) ≤ (p : Int))) (fun z => (18 - z.2.1).toNat) ?_ (1048576, 0, M) ⟨0, rfl, by decide, rfl, by show (0 : Int) ≤ 1048576; decide, by show (1048576 : Int) ≤ 1048576; decide, fun p hp => ⟨fun h => by dsimp only at h; omega, fun ⟨q, h, _⟩ => absurd h (Nat.not_lt_zero _)⟩⟩
    rintro ⟨x4, x5, M1⟩ ⟨n, e2, hn, e3, ha, ha2, hbit⟩ P hPP
    dsimp only at e2 e3 ha ha2 hbit hPP ⊢
    subst e2; subst e3
    unfold w_X0_leastEnd_37b
    rw [cr_15 hc]
    have fin : (∀ q', n ≤ q' → q' < 18 → E.testBit q' = false) → Q x4 M1 := fun h => q x4 ha ha2 (fun p hp => by
      rw [hbit p hp]
      constructor
      · rintro ⟨q', h1, h2, h3⟩; exact ⟨q', h2, Or.inr ⟨h10, by omega, h3⟩⟩
      · rintro ⟨q', h1, h2 | ⟨-, h2, h3⟩⟩
        · omega
        · refine ⟨q', Nat.lt_of_not_le (fun h9 => ?_), h1, h3⟩
          rw [h q' h9 h2] at h1; cases h1)
    refine ⟨⟨by omega, by omega⟩, fun hc1 => fin (fun q' h1 h2 => by omega), fun hc1 => ?_⟩
    have hn18 : n < 18 := by omega
    rw [pb_bitu (by omega) (by omega), pb_ushr (by omega) (by omega)]
    have hdiv : E / 2 ^ n ≤ E := Nat.div_le_self _ _
    have hz0 : ((E / 2 ^ n : Nat) : Int) = 0 → E / 2 ^ n = 0 := fun h => by exact_mod_cast h
    generalize hdv : E / 2 ^ n = dv at hdiv hz0 ⊢
    refine ⟨⟨by omega, by omega⟩, fun h0 => fin (fun q' h1 _ => pb_hi (by rw [hdv]; exact hz0 h0) q' h1), fun h0 => ?_⟩
    have next : ∀ a' : Int, 0 ≤ a' → a' ≤ 1048576 → (∀ p : Nat, p < 18 → (a' ≤ (p : Int) ↔ x4 ≤ (p : Int) ∨ (E.testBit n = true ∧ M1 (c + 18) ((s - 10) * 18 + (n : Int)) ≤ (p : Int)))) → P (a', (n : Int) + 1, M1) := by
      intro a' h1 h2 h3
      refine hPP (a', (n : Int) + 1, M1) ⟨n + 1, by show (n : Int) + 1 = _; omega, by omega, rfl, h1, h2, fun p hp => ?_⟩ (by show (18 - ((n : Int) + 1)).toNat < (18 - (n : Int)).toNat; omega)
      dsimp only
      rw [h3 p hp, hbit p hp]
      constructor
      · rintro (⟨q', a1, a2, a3⟩ | ⟨a1, a2⟩)
        · exact ⟨q', by omega, a2, a3⟩
        · exact ⟨n, by omega, a1, a2⟩
      · rintro ⟨q', a1, a2, a3⟩
        by_cases e : q' = n
        · subst e; exact Or.inr ⟨a2, a3⟩
        · exact Or.inl ⟨q', by omega, a2, a3⟩
    by_cases hb : E.testBit n = true
    · simp only [hb, if_true]
      have hwv := hW ((s - 10) * 18 + (n : Int))
      refine ⟨⟨by decide, by decide⟩, fun h => absurd h (by decide), fun _ => ⟨⟨by omega, by omega⟩, t_min ⟨by omega, by omega⟩ ⟨by omega, by omega⟩ (fun r h1 h2 h3 => next r (by omega) (by omega) (fun p hp => by simp only [hb, true_and]; omega))⟩⟩
    · simp only [hb]
      refine ⟨⟨by decide, by decide⟩, fun _ => next x4 ha ha2 (fun p hp => by simp [hb]), fun h => absurd (by simp) h⟩
  · rw [cr_10 hc]
    have hpv := hP s
    obtain ⟨v, hv⟩ : ∃ v : Nat, M (c + 15) s = (v : Int) := ⟨_, (Int.toNat_of_nonneg hpv.1).symm⟩
    rw [hv] at hpv
    have h1 : pj_ushr (E : Int) 1 = ((E / 2 ^ 1 : Nat) : Int) := pb_ushr (c := 1) (by omega) (by decide)
    have hd : E / 2 ^ 1 ≤ E := Nat.div_le_self _ _
    have hand : E / 2 ^ 1 &&& v ≤ E / 2 ^ 1 := Nat.and_le_left
    rw [h1, hv, pb_and (by omega) (by omega), pb_or (by omega) (by omega)]
    refine t_lowest (Nat.or_lt_two_pow (n := 18) hE (by omega)) (fun r h2 h3 h4 => q r h2 h3 (fun p hp => ?_))
    rw [h4 p hp]
    unfold cp tbit
    rw [hv, Int.toNat_natCast]
    constructor
    · rintro ⟨i, a1, a2⟩
      rw [Nat.testBit_or, Bool.or_eq_true, Nat.testBit_and, Nat.testBit_div_two_pow, Bool.and_eq_true] at a2
      rcases a2 with a2 | ⟨a2, a3⟩
      · exact ⟨i, a2, Or.inl ⟨by omega, Or.inl a1⟩⟩
      · exact ⟨i + 1, a2, Or.inl ⟨by omega, Or.inr ⟨i, rfl, a1, a3⟩⟩⟩
    · rintro ⟨q', a1, ⟨-, a2 | ⟨p0, rfl, a3, a4⟩⟩ | ⟨a2, -⟩⟩
      · exact ⟨q', a2, by rw [Nat.testBit_or, a1]; rfl⟩
      · exact ⟨p0, a3, by rw [Nat.testBit_or, Nat.testBit_and, Nat.testBit_div_two_pow, a4, a1]; simp⟩
      · omega
