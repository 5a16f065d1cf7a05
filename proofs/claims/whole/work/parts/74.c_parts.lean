/-- the n-th symbol from the end -/
abbrev csm (M : pj_M) (c : Nat) (k z : Int) (n : Nat) : Int := M (c + 12) (k * 4 + (z - 1 - (n : Int)))
/-- where beginnings of what the last n symbols take begin that end at the column -/
def cO (M : pj_M) (c : Nat) (k z : Int) (q : Nat) : Nat → Nat → Prop
  | 0, p => p = q
  | n + 1, p => p = q ∨ (∃ q', cs M c (csm M c k z n) p q' ∧ cO M c k z q n q') ∨ (10 ≤ csm M c k z n ∧ tbit (M (c + 17) ((csm M c k z n - 10) * 18 + (q : Int))) p)
/-- ends of what the last n symbols take -/
def cE (M : pj_M) (c : Nat) (k z : Int) (q : Nat) : Nat → Nat → Prop
  | 0, p => q ≤ p
  | n + 1, p => cE M c k z q n p ∨ ∃ q', cR M c k z (fun x => x = q) n q' ∧ cp M c (csm M c k z n) p q'
/-- what stands in what the last n symbols take -/
def cI (M : pj_M) (c : Nat) (k z : Int) (q : Nat) : Nat → Nat → Prop
  | 0, p => q ≤ p
  | n + 1, p => cI M c k z q n p ∨ (∃ q', cO M c k z q n q' ∧ cp M c (csm M c k z n) p q') ∨ (10 ≤ csm M c k z n ∧ M (c + 19) ((csm M c k z n - 10) * 18 + (q : Int)) ≤ (p : Int))
/-- the rows of a chart are sane -/
def csan (M : pj_M) (c : Nat) : Prop := bs18 M (c + 15) ∧ bs18 M (c + 16) ∧ bs18 M (c + 17) ∧ be18 M (c + 18) ∧ be18 M (c + 19)
theorem t_addParts {M : pj_M} {c q : Nat} {k : Int} {Q : Int → pj_M → Prop} (ok : cok M c) (sn : csan M c) (hq17 : q ≤ 17) (hk : 0 ≤ k ∧ k < M c 6)
    (qq : ∀ (r : Int) (B v : Nat) (e i : Int), B < 262144 → M (c + 17) (M (c + 10) k * 18 + (q : Int)) = (v : Int) → (∀ p, B.testBit p = true ↔ cO M c k (M (c + 11) k) q (M (c + 11) k).toNat p) →
      (0 ≤ e ∧ e ≤ 1048576 ∧ ∀ p : Nat, p < 18 → (e ≤ (p : Int) ↔ M (c + 18) (M (c + 10) k * 18 + (q : Int)) ≤ (p : Int) ∨ cE M c k (M (c + 11) k) q (M (c + 11) k).toNat p)) →
      (0 ≤ i ∧ i ≤ 1048576 ∧ ∀ p : Nat, p < 18 → (i ≤ (p : Int) ↔ M (c + 19) (M (c + 10) k * 18 + (q : Int)) ≤ (p : Int) ∨ cI M c k (M (c + 11) k) q (M (c + 11) k).toNat p)) →
      (r = 0 ∨ r = 1) → (r = 0 → (∀ p, B.testBit p = true → v.testBit p = true) ∧ e = M (c + 18) (M (c + 10) k * 18 + (q : Int)) ∧ i = M (c + 19) (M (c + 10) k * 18 + (q : Int))) →
      (r = 1 → (∃ p, B.testBit p = true ∧ v.testBit p = false) ∨ e < M (c + 18) (M (c + 10) k * 18 + (q : Int)) ∨ i < M (c + 19) (M (c + 10) k * 18 + (q : Int))) →
      e ≤ M (c + 18) (M (c + 10) k * 18 + (q : Int)) → i ≤ M (c + 19) (M (c + 10) k * 18 + (q : Int)) →
      Q r (pj_up (pj_up (pj_up M (c + 17) (M (c + 10) k * 18 + (q : Int)) ((v ||| B : Nat) : Int)) (c + 18) (M (c + 10) k * 18 + (q : Int)) e) (c + 19) (M (c + 10) k * 18 + (q : Int)) i)) : w_X0_addParts c k (q : Int) M Q := by
  have hc := ok.1
  have hR := ok.2.1
  have hz := ok.2.2.2.1 k
  obtain ⟨s15, s16, s17, s18, s19⟩ := sn
  unfold w_X0_addParts
  rw [cr_3 hc, pb_one (by omega)]
  rintro z1 rfl
  refine ⟨⟨by omega, by omega⟩, ?_⟩
  rintro z3 rfl
  have hpow : 2 ^ q ≤ 2 ^ 17 := Nat.pow_le_pow_right (by decide) hq17
  unfold w_X0_addParts_26
  refine pj_lp_inv (fun y : Int × Int × Int × Int × Int × pj_M => ∃ a b n : Nat, y.1 = (a : Int) ∧ y.2.1 = (b : Int) ∧ y.2.2.2.2.1 = M (c + 11) k - 1 - (n : Int) ∧ (n : Int) ≤ M (c + 11) k ∧ y.2.2.2.2.2 = M ∧ a < 262144 ∧ b < 262144 ∧ (∀ p, a.testBit p = true ↔ cR M c k (M (c + 11) k) (fun x => x = q) n p) ∧ (∀ p, b.testBit p = true ↔ cO M c k (M (c + 11) k) q n p) ∧ (0 ≤ y.2.2.1 ∧ y.2.2.1 ≤ 1048576 ∧ ∀ p : Nat, p < 18 → (y.2.2.1 ≤ (p : Int) ↔ cE M c k (M (c + 11) k) q n p)) ∧ (0 ≤ y.2.2.2.1 ∧ y.2.2.2.1 ≤ 1048576 ∧ ∀ p : Nat, p < 18 → (y.2.2.2.1 ≤ (p : Int) ↔ cI M c k (M (c + 11) k) q n p))) (fun y => (y.2.2.2.2.1 + 1).toNat) ?_ (((2 ^ q : Nat) : Int), ((2 ^ q : Nat) : Int), (q : Int), (q : Int), M (c + 11) k - 1, M) ⟨2 ^ q, 2 ^ q, 0, rfl, rfl, by show M (c + 11) k - 1 = _; omega, by show (0 : Int) ≤ _; omega, rfl, by omega, by omega, fun p => ?_, fun p => ?_, ⟨by show (0 : Int) ≤ (q : Int); omega, by show (q : Int) ≤ _; omega, fun p hp => by show (q : Int) ≤ (p : Int) ↔ q ≤ p; omega⟩, ⟨by show (0 : Int) ≤ (q : Int); omega, by show (q : Int) ≤ _; omega, fun p hp => by show (q : Int) ≤ (p : Int) ↔ q ≤ p; omega⟩⟩
  rotate_left
  · rw [Nat.testBit_two_pow]
    show decide (q = p) = true ↔ p = q
    simp [eq_comm]
  · rw [Nat.testBit_two_pow]
    show decide (q = p) = true ↔ p = q
    simp [eq_comm]
  rintro ⟨x4, x5, x6, x7, x8, M1⟩ ⟨a, b, n, e1, e2, e3, hn, e4, ha, hb, ba, bb, ⟨u1, u2, u3⟩, ⟨v1, v2, v3⟩⟩ P hP
  dsimp only at e1 e2 e3 e4 u1 u2 u3 v1 v2 v3 hP ⊢
  subst e1; subst e2; subst e3; subst e4
  unfold w_X0_addParts_26b
  rw [cr_4 hc, cr_2 hc, cr_14 hc, cr_15 hc, cr_16 hc]
  refine ⟨⟨by omega, by omega⟩, fun h0 => ⟨⟨by omega, by omega⟩, ?_⟩, fun h0 => ⟨⟨by omega, by omega⟩, ?_⟩⟩
  · rintro z6 rfl
    have hnz : n = (M1 (c + 11) k).toNat := by omega
    subst hnz
    have ho := ok.2.2.1 k
    have hv := s17 (M1 (c + 10) k * 18 + (q : Int))
    have he := s18 (M1 (c + 10) k * 18 + (q : Int))
    have hi := s19 (M1 (c + 10) k * 18 + (q : Int))
    obtain ⟨v, hv2⟩ : ∃ v : Nat, M1 (c + 17) (M1 (c + 10) k * 18 + (q : Int)) = (v : Int) := ⟨_, (Int.toNat_of_nonneg hv.1).symm⟩
    obtain ⟨w, hw1, hw2, hw3⟩ := pb_andn (a := b) (b := v) (by omega) (by omega)
    rw [hv2] at hv
    have fin : ∀ y : Int, (y = 0 ∨ y = 1) → (y = 0 → (∀ p, b.testBit p = true → v.testBit p = true) ∧ M1 (c + 18) (M1 (c + 10) k * 18 + (q : Int)) ≤ x6 ∧ M1 (c + 19) (M1 (c + 10) k * 18 + (q : Int)) ≤ x7) → (y = 1 → (∃ p, b.testBit p = true ∧ v.testBit p = false) ∨ x6 < M1 (c + 18) (M1 (c + 10) k * 18 + (q : Int)) ∨ x7 < M1 (c + 19) (M1 (c + 10) k * 18 + (q : Int))) → w_X0_addParts_208 c (b : Int) x6 x7 (M1 (c + 10) k * 18 + (q : Int)) y Q M1 := by
      intro y hy hy0 hy1
      unfold w_X0_addParts_208
      rw [cr_14 hc, cr_15 hc, cr_16 hc]
      refine ⟨⟨by omega, by omega⟩, ⟨by omega, by omega⟩, ?_⟩
      rintro M2 rfl
      rw [hv2, pb_or (by omega) (by omega), pu_ne (by omega)]
      refine ⟨⟨by omega, by omega⟩, t_min ⟨by omega, by omega⟩ ⟨by omega, by omega⟩ (fun e h1 h2 h3 => ⟨⟨by omega, by omega⟩, ?_⟩)⟩
      rintro M3 rfl
      rw [pu_ne (by omega), pu_ne (by omega)]
      refine ⟨⟨by omega, by omega⟩, t_min ⟨by omega, by omega⟩ ⟨by omega, by omega⟩ (fun i h4 h5 h6 => ⟨⟨by omega, by omega⟩, ?_⟩)⟩
      rintro M4 rfl
      refine ⟨hy, qq y b v e i hb hv2 bb ⟨by omega, by omega, fun p hp => ?_⟩ ⟨by omega, by omega, fun p hp => ?_⟩ hy (fun h => ?_) (fun h => ?_) h2 h5⟩
      · rw [← u3 p hp]; omega
      · rw [← v3 p hp]; omega
      · obtain ⟨g1, g2, g3⟩ := hy0 h
        exact ⟨g1, by omega, by omega⟩
      · rcases hy1 h with g | g | g
        · exact Or.inl g
        · exact Or.inr (Or.inl (by omega))
        · exact Or.inr (Or.inr (by omega))
    rw [hv2, hw1]
    refine ⟨⟨by omega, by omega⟩, ⟨by omega, by omega⟩, fun hw0 => fin 1 (Or.inr rfl) (fun h => absurd h (by decide)) (fun _ => Or.inl ?_), fun hw0 => ⟨⟨by omega, by omega⟩, ⟨by omega, by omega⟩, ⟨by omega, by omega⟩, fun h => fin 1 (Or.inr rfl) (fun h => absurd h (by decide)) (fun _ => Or.inr (Or.inl h)), fun h => ⟨⟨by omega, by omega⟩, ⟨by omega, by omega⟩, ⟨by omega, by omega⟩, fun h' => fin 0 (Or.inl rfl) (fun _ => ⟨?_, by omega, h'⟩) (fun h => absurd h (by decide)), fun h' => fin 1 (Or.inr rfl) (fun h => absurd h (by decide)) (fun _ => Or.inr (Or.inr (by omega)))⟩⟩⟩
    · have hw0' : w ≠ 0 := by omega
      obtain ⟨p, hp⟩ := Nat.exists_testBit_of_ne_zero hw0'
      rw [hw3, Bool.and_eq_true] at hp
      exact ⟨p, hp.1, by simpa using hp.2⟩
    · intro p hp
      by_cases hvp : v.testBit p = true
      · exact hvp
      · exfalso
        have h9 : w.testBit p = true := by rw [hw3, hp]; simpa using hvp
        rw [show w = 0 by omega] at h9; simp at h9
  · rintro z30 rfl
    have hsy := ok.2.2.2.2.1 (k * 4 + (M1 (c + 11) k - 1 - (n : Int)))
    refine t_leastEnd hc ⟨by omega, by omega⟩ ha s18 s15 (fun r1 r2 r3 r4 => t_min ⟨by omega, by omega⟩ ⟨by omega, by omega⟩ (fun r5 r6 r7 r8 => t_leastEnd hc ⟨by omega, by omega⟩ hb s18 s15 (fun l1 l2 l3 l4 => t_min ⟨by omega, by omega⟩ ⟨by omega, by omega⟩ (fun l5 l6 l7 l8 => t_stepBack hc ⟨by omega, by omega⟩ ha s16 s15 (fun A hA bA => t_stepBack hc ⟨by omega, by omega⟩ hb s16 s15 (fun O hO bO => ?_))))))
    rw [pb_or (by omega) (by omega)]
    rintro z43 rfl
    have hO2 : O ||| 2 ^ q < 262144 := Nat.or_lt_two_pow (n := 18) hO (by omega)
    have next : ∀ (b' : Nat) (y7 : Int), b' < 262144 → (∀ p, b'.testBit p = true ↔ cO M1 c k (M1 (c + 11) k) q (n + 1) p) → (0 ≤ y7 ∧ y7 ≤ 1048576 ∧ ∀ p : Nat, p < 18 → (y7 ≤ (p : Int) ↔ cI M1 c k (M1 (c + 11) k) q (n + 1) p)) → P ((A : Int), (b' : Int), r5, y7, M1 (c + 11) k - 1 - (n : Int) + (-1), M1) := by
      intro b' y7 g1 g2 g3
      refine hP ((A : Int), (b' : Int), r5, y7, M1 (c + 11) k - 1 - (n : Int) + (-1), M1) ⟨A, b', n + 1, rfl, rfl, by show M1 (c + 11) k - 1 - (n : Int) + (-1) = _; omega, by omega, rfl, hA, g1, fun p => ?_, g2, ⟨by show 0 ≤ r5; omega, by show r5 ≤ _; omega, fun p hp => ?_⟩, g3⟩ (by show (M1 (c + 11) k - 1 - (n : Int) + (-1) + 1).toNat < (M1 (c + 11) k - 1 - (n : Int) + 1).toNat; omega)
      · rw [bA]
        constructor
        · rintro ⟨q', h1, h2⟩; exact ⟨q', h2, (ba q').mp h1⟩
        · rintro ⟨q', h1, h2⟩; exact ⟨q', (ba q').mpr h2, h1⟩
      · show r5 ≤ (p : Int) ↔ _
        have h1 := r4 p hp
        have h2 := u3 p hp
        have h3 : r5 ≤ (p : Int) ↔ x6 ≤ (p : Int) ∨ r1 ≤ (p : Int) := by omega
        rw [h3, h2, h1]
        constructor
        · rintro (h | ⟨q', g1, g2⟩)
          · exact Or.inl h
          · exact Or.inr ⟨q', (ba q').mp g1, g2⟩
        · rintro (h | ⟨q', g1, g2⟩)
          · exact Or.inl h
          · exact Or.inr ⟨q', (ba q').mpr g1, g2⟩
    have hl5 : ∀ p : Nat, p < 18 → (l5 ≤ (p : Int) ↔ cI M1 c k (M1 (c + 11) k) q n p ∨ ∃ q', cO M1 c k (M1 (c + 11) k) q n q' ∧ cp M1 c (csm M1 c k (M1 (c + 11) k) n) p q') := by
      intro p hp
      have h1 := l4 p hp
      have h2 := v3 p hp
      have h3 : l5 ≤ (p : Int) ↔ x7 ≤ (p : Int) ∨ l1 ≤ (p : Int) := by omega
      rw [h3, h2, h1]
      constructor
      · rintro (h | ⟨q', g1, g2⟩)
        · exact Or.inl h
        · exact Or.inr ⟨q', (bb q').mp g1, g2⟩
      · rintro (h | ⟨q', g1, g2⟩)
        · exact Or.inl h
        · exact Or.inr ⟨q', (bb q').mpr g1, g2⟩
    have hOb : ∀ p, (O ||| 2 ^ q).testBit p = true ↔ p = q ∨ ∃ q', cs M1 c (csm M1 c k (M1 (c + 11) k) n) p q' ∧ cO M1 c k (M1 (c + 11) k) q n q' := by
      intro p
      rw [pb_set, Bool.or_eq_true, decide_eq_true_iff, bO]
      constructor
      · rintro (⟨q', g1, g2⟩ | h)
        · exact Or.inr ⟨q', g2, (bb q').mp g1⟩
        · exact Or.inl h.symm
      · rintro (h | ⟨q', g1, g2⟩)
        · exact Or.inr h.symm
        · exact Or.inl ⟨q', (bb q').mpr g2, g1⟩
    refine ⟨⟨by omega, by omega⟩, fun h10 => next _ _ hO2 (fun p => ?_) ⟨by omega, by omega, fun p hp => ?_⟩, fun h10 => ⟨⟨by omega, by omega⟩, ?_⟩⟩
    · rw [hOb]
      constructor
      · rintro (h | h)
        · exact Or.inl h
        · exact Or.inr (Or.inl h)
      · rintro (h | h | ⟨h, -⟩)
        · exact Or.inl h
        · exact Or.inr h
        · exact absurd h10 (by unfold csm at h; omega)
    · rw [hl5 p hp]
      constructor
      · rintro (h | h)
        · exact Or.inl h
        · exact Or.inr (Or.inl h)
      · rintro (h | h | ⟨h, -⟩)
        · exact Or.inl h
        · exact Or.inr h
        · exact absurd h10 (by unfold csm at h; omega)
    · have hw19 := s19 ((M1 (c + 12) (k * 4 + (M1 (c + 11) k - 1 - (n : Int))) - 10) * 18 + (q : Int))
      have hw17 := s17 ((M1 (c + 12) (k * 4 + (M1 (c + 11) k - 1 - (n : Int))) - 10) * 18 + (q : Int))
      refine t_min ⟨by omega, by omega⟩ ⟨by omega, by omega⟩ (fun m1 m2 m3 m4 => ⟨⟨by omega, by omega⟩, ?_⟩)
      obtain ⟨g, hg⟩ : ∃ g : Nat, M1 (c + 17) ((M1 (c + 12) (k * 4 + (M1 (c + 11) k - 1 - (n : Int))) - 10) * 18 + (q : Int)) = (g : Int) := ⟨_, (Int.toNat_of_nonneg hw17.1).symm⟩
      rw [hg] at hw17
      rw [hg, pb_or (by omega) (by omega)]
      rintro z49 rfl
      refine next _ _ (Nat.or_lt_two_pow (n := 18) hO2 (by omega)) (fun p => ?_) ⟨by omega, by omega, fun p hp => ?_⟩
      · rw [Nat.testBit_or, Bool.or_eq_true, hOb]
        have e9 : tbit (M1 (c + 17) ((csm M1 c k (M1 (c + 11) k) n - 10) * 18 + (q : Int))) p ↔ g.testBit p = true := by unfold tbit csm; rw [hg, Int.toNat_natCast]
        constructor
        · rintro ((h | h) | h)
          · exact Or.inl h
          · exact Or.inr (Or.inl h)
          · exact Or.inr (Or.inr ⟨by unfold csm; omega, e9.mpr h⟩)
        · rintro (h | h | ⟨-, h⟩)
          · exact Or.inl (Or.inl h)
          · exact Or.inl (Or.inr h)
          · exact Or.inr (e9.mp h)
      · have h3 : m1 ≤ (p : Int) ↔ l5 ≤ (p : Int) ∨ M1 (c + 19) ((M1 (c + 12) (k * 4 + (M1 (c + 11) k - 1 - (n : Int))) - 10) * 18 + (q : Int)) ≤ (p : Int) := by omega
        rw [h3, hl5 p hp]
        constructor
        · rintro ((h | h) | h)
          · exact Or.inl h
          · exact Or.inr (Or.inl h)
          · exact Or.inr (Or.inr ⟨by unfold csm; omega, h⟩)
        · rintro (h | h | ⟨-, h⟩)
          · exact Or.inl (Or.inl h)
          · exact Or.inl (Or.inr h)
          · exact Or.inr h
