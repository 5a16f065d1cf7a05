/-- the pairs of a row have changed -/
def chb (D D' : Int → Int) (n : Int) (T : Int → Int) : Prop := D' 88 = n / 2 ∧ (∀ k, 0 ≤ k → k < n → D' (89 + k) = T k - 97) ∧ ∀ x, x < 88 → D' x = D x
theorem dvl_brk {D D' : Int → Int} {n : Int} {T : Int → Int} (v : dvl D) (hn : 0 ≤ n ∧ n ≤ 6 ∧ n % 2 = 0) (ok : ∀ p, 0 ≤ p → p < n → okP T p) (h : chb D D' n T) : dvl D' := by
  obtain ⟨v1, v2, v3, v4, v5⟩ := v
  obtain ⟨h1, h2, h3⟩ := h
  have hlt : ∀ x, x < 73 → D' x = D x := fun x hx => h3 x (by omega)
  refine ⟨vg_eq hlt v1, by rw [(gr_of_eq hlt v1).gd, hlt 1 (by decide)]; exact v2, by rw [h3 73 (by decide)]; exact v3, fun x x1 x2 => by rw [h3 (74 + x) (by omega)]; exact v4 x x1 x2, ?_⟩
  rw [h1]
  refine ⟨by omega, fun i i1 i2 => ?_, fun i j i1 i2 j1 j2 e => ?_⟩
  · show 0 ≤ D' (89 + i) ∧ D' (89 + i) ≤ 7
    rw [h2 i i1 (by omega)]
    have := (ok i i1 (by omega)).2.1
    unfold sgn at this; omega
  · have e' : D' (89 + i) = D' (89 + j) := e
    rw [h2 i i1 (by omega), h2 j j1 (by omega)] at e'
    rcases Int.lt_trichotomy i j with hlt | heq | hgt
    · exact absurd (show T i = T j by omega) ((ok j j1 (by omega)).2.2 i i1 hlt)
    · exact heq
    · exact absurd (show T j = T i by omega) ((ok i i1 (by omega)).2.2 j j1 hgt)
theorem drep.brk {M M' : pj_M} {d : Nat} {D D' : Int → Int} {n : Int} {T : Int → Int} (r : drep M d D) (v : dvl D) (hn : 0 ≤ n ∧ n % 2 = 0) (e : ∀ a, d < a → a ≤ d + 6 → M' a = M a) (h3 : M' d 3 = n / 2) (hw : ∀ k, 0 ≤ k → k < n → M' (d + 7) k = T k - 97) (c : chb D D' n T) : drep M' d D' := by
  obtain ⟨⟨g1, g2, g3, g4, R, g5, g6, g7⟩, ⟨l1, l2, l3⟩, p1, p2⟩ := r
  obtain ⟨c1, c2, c3⟩ := c
  have hv := v.1.1
  have hl := v.2.2.1
  refine ⟨⟨g1.eq (fun a a1 a2 => e a (by omega) (by omega)), ?_, fun k k1 k2 => ?_, ?_, R, ?_, g6, fun x => ?_⟩, ⟨⟨?_, ?_⟩, ?_, fun x x1 x2 => ?_⟩, ?_, fun k k1 k2 => ?_⟩
  · rw [e (d + 1) (by omega) (by omega), c3 0 (by omega)]; exact g2
  · rw [c3 0 (by omega)] at k2
    have hz := v.1.2.2.1 k k1 (by omega)
    rw [e (d + 2) (by omega) (by omega), e (d + 3) (by omega) (by omega), e (d + 4) (by omega) (by omega), c3 (1 + 6 * k) (by omega), c3 (1 + 6 * k + 1) (by omega)]
    obtain ⟨b1, b2, b3⟩ := g3 k k1 k2
    exact ⟨b1, b2, fun s s1 s2 => by rw [c3 (1 + 6 * k + 2 + s) (by omega)]; exact b3 s s1 s2⟩
  · rw [e (d + 1) (by omega) (by omega), c3 1 (by omega)]; exact g4
  · rw [e (d + 1) (by omega) (by omega)]; exact g5
  · rw [g7 x]
    constructor
    · rintro ⟨k, k1, k2, k3⟩
      exact ⟨k, k1, by rw [c3 0 (by omega)]; exact k2, by rw [c3 (1 + 6 * k) (by omega)]; exact k3⟩
    · rintro ⟨k, k1, k2, k3⟩
      rw [c3 0 (by omega)] at k2
      exact ⟨k, k1, k2, by rw [← c3 (1 + 6 * k) (by omega)]; exact k3⟩
  · rw [e (d + 5) (by omega) (by omega)]; exact l1.1
  · rw [e (d + 5 + 1) (by omega) (by omega)]; exact l1.2
  · rw [e (d + 5) (by omega) (by omega), c3 73 (by omega)]; exact l2
  · rw [c3 73 (by omega)] at x2
    rw [e (d + 6) (by omega) (by omega)]
    show M (d + 6) x = D' (74 + x)
    rw [c3 (74 + x) (by omega)]; exact l3 x x1 x2
  · rw [h3, c1]
  · rw [c1] at k2
    rw [hw k k1 (by omega)]
    exact (c2 k k1 (by omega)).symm
section
variable {M : pj_M} {D : Int → Int} {H K : Int → Int → Int}
theorem t_misfitOfPairs {Q : Int → pj_M → Prop} (ht : (0 ≤ M 1 1 ∧ M 1 1 ≤ 80) ∧ ∀ k, 0 ≤ M 2 k ∧ M 2 k ≤ 255) (q : ∀ r, misP (M 2) (M 1 1) r → Q r M) : w_X9_misfitOfPairs 1 M Q := by
  unfold w_X9_misfitOfPairs w_X9_misfitOfPairs_4
  refine pj_lp_inv (fun y : Int × Int × pj_M => ∃ seen : Nat, y.1 = (seen : Int) ∧ seen < 256 ∧ (0 ≤ y.2.1 ∧ y.2.1 ≤ M 1 1 ∧ y.2.1 ≤ 6) ∧ y.2.2 = M ∧ (∀ b : Nat, seen.testBit b = true ↔ ∃ p, 0 ≤ p ∧ p < y.2.1 ∧ M 2 p = 97 + (b : Int)) ∧ ∀ p, 0 ≤ p → p < y.2.1 → okP (M 2) p) (fun y => (M 1 1 - y.2.1).toNat) ?_ (0, 0, M) ⟨0, rfl, by decide, ⟨Int.le_refl _, ht.1.1, by show (0 : Int) ≤ 6; decide⟩, rfl, fun b => ⟨fun h => by simp at h, fun ⟨p, p1, p2, _⟩ => by have : p < 0 := p2; omega⟩, fun p p1 p2 => by have : p < 0 := p2; omega⟩
  rintro ⟨_, p, Mx⟩ ⟨seen, h1, hseen, hp, hM, hbit, hall⟩ P hP
  dsimp only at h1 hp hM hbit hall hP ⊢
  subst h1
  have hM' := hM.symm
  subst hM'
  unfold w_X9_misfitOfPairs_4b
  rw [rt_0]
  have hc := ht.2 p
  refine ⟨⟨by omega, by omega⟩, ⟨by omega, by omega⟩, fun hend => ?_, fun hgo => ⟨⟨by omega, by omega⟩, fun h6 => q p (Or.inr ⟨hp.1, by omega, fun h => by have := h.1; omega, hall⟩), fun h6 => ⟨⟨by omega, by omega⟩, t_isSign ⟨by omega, by omega⟩ (fun t ht' hiff => ⟨in01 ht', fun h => ⟨⟨by omega, by omega⟩, ?_⟩, fun h => q p (Or.inr ⟨hp.1, by omega, fun h' => by have := hiff.mpr h'.2.1; omega, hall⟩)⟩)⟩⟩⟩
  · rw [pd_rem ⟨by omega, by omega⟩ ⟨by decide, by decide⟩]
    refine ⟨⟨by omega, by omega⟩, fun h => q _ (Or.inl ⟨Or.inr ⟨rfl, h⟩, fun x x1 x2 => hall x x1 (by omega)⟩), fun h => q _ (Or.inl ⟨Or.inl ⟨rfl, h⟩, fun x x1 x2 => hall x x1 (by omega)⟩)⟩
  · have hs := hiff.mp (by omega)
    have hs' := hs
    unfold sgn at hs'
    obtain ⟨b, hb⟩ : ∃ b : Nat, M 2 p - 97 = (b : Int) := ⟨(M 2 p - 97).toNat, by omega⟩
    have hb8 : b < 8 := by omega
    have hpow : 2 ^ b < 2 ^ 8 := Nat.pow_lt_pow_right (by decide) hb8
    rintro z hz
    rw [hb, pb_one (by omega)] at hz
    subst hz
    rw [pb_and (by omega) (by omega)]
    have hand : seen &&& 2 ^ b ≤ seen := Nat.and_le_left
    have hz0 : (seen &&& 2 ^ b) = 0 ↔ seen.testBit b = false := by
      constructor
      · intro h0
        have : (seen &&& 2 ^ b).testBit b = false := by rw [h0]; simp
        rw [Nat.testBit_and, Nat.testBit_two_pow_self, Bool.and_true] at this
        exact this
      · intro h0
        apply Nat.eq_of_testBit_eq
        intro i
        rw [Nat.testBit_and, Nat.testBit_two_pow]
        by_cases e : b = i
        · subst e; simp [h0]
        · simp [e]
    refine ⟨⟨by omega, by omega⟩, fun h0 => ?_, fun h0 => ?_⟩
    · have hbf : seen.testBit b = false := hz0.mp (by omega)
      have hok : okP (M 2) p := ⟨by omega, hs, fun x x1 x2 hxe => by
        have : seen.testBit b = true := (hbit b).mpr ⟨x, x1, x2, by omega⟩
        rw [hbf] at this; cases this⟩
      rw [pb_or (by omega) (by omega)]
      rintro z12 rfl
      have hset : ∀ x, (seen ||| 2 ^ b).testBit x = true ↔ seen.testBit x = true ∨ b = x := fun x => by rw [pb_set, Bool.or_eq_true, decide_eq_true_iff]
      refine hP (_, p + 1, M) ⟨seen ||| 2 ^ b, rfl, Nat.or_lt_two_pow (n := 8) hseen hpow, ⟨by show 0 ≤ p + 1; omega, by show p + 1 ≤ M 1 1; omega, by show p + 1 ≤ 6; omega⟩, rfl, fun x => ?_, fun x x1 x2 => ?_⟩ (by show (M 1 1 - (p + 1)).toNat < (M 1 1 - p).toNat; omega)
      · rw [hset, hbit]
        constructor
        · rintro (⟨y, y1, y2, y3⟩ | h)
          · exact ⟨y, y1, by show y < p + 1; omega, y3⟩
          · exact ⟨p, hp.1, by show p < p + 1; omega, by omega⟩
        · rintro ⟨y, y1, y2, y3⟩
          have y2' : y < p + 1 := y2
          by_cases e : y = p
          · right; subst e; omega
          · exact Or.inl ⟨y, y1, by omega, y3⟩
      · have x2' : x < p + 1 := x2
        by_cases e : x = p
        · rw [e]; exact hok
        · exact hall x x1 (by omega)
    · refine q p (Or.inr ⟨hp.1, by omega, fun h => ?_, hall⟩)
      have hbt : seen.testBit b = true := by
        cases hh : seen.testBit b
        · exact absurd (by have := hz0.mpr hh; omega) h0
        · rfl
      obtain ⟨y, y1, y2, y3⟩ := (hbit b).mp hbt
      exact h.2.2 y y1 y2 (by omega)
theorem o_brackets {Q : Int → pj_M → Prop} (ci : CI M D H K) (q0 : ∀ r, misP (M 2) (M 1 1) r → r ≠ -1 → ∀ M', (∀ a, a ≠ 1 → M' a = M a) → M' 1 1 = 0 → CI M' D H K → Q (-1 - r) M')
    (q1 : misP (M 2) (M 1 1) (-1) → ∀ M', (∀ a, a = 0 ∨ a = 2 ∨ a = 114 ∨ 186 ≤ a → M' a = M a) → M' 1 1 = 0 → M' 31 2 = min (M 31 2 + 1) 10 → (∀ D' H', chb D D' (M 1 1) (M 2) → psh (M 31 2) H H' D → CI M' D' H' K) → Q (M 1 1 / 2) M') : w_X11_brackets 0 M Q := by
  have ht := ci.2.2.2.2.2.1
  unfold w_X11_brackets
  rw [rc_0, rc_5, rc_2]
  refine t_misfitOfPairs ht (fun r hr => ?_)
  have hrb : -1 ≤ r ∧ r ≤ 80 := by
    rcases hr with ⟨h, _⟩ | ⟨h1, h2, _⟩
    · omega
    · omega
  refine ⟨⟨by omega, by omega⟩, fun hne => ?_, fun heq => ?_⟩
  · unfold w_X11_brackets_35 w_X9_clear w_X11_cannotStand
    rw [rc_0]
    rintro M1 rfl
    refine ⟨⟨by omega, by omega⟩, fun _ => q0 r hr hne _ (fun a ha => pu_row ha) pu_eq ci.clear, fun h => absurd h hne⟩
  · subst heq
    obtain ⟨c1, ⟨c2, cv⟩, c3, c4, c5, c6, c7, c8⟩ := ci
    refine t_pushH (H' := fun i => if i = min (M 31 2 + 1) 10 - 1 then D else if M 31 2 < 10 then H i else H (i + 1)) (Or.inl rfl) c4 c2 cv (fun _ _ _ => rfl) (fun M1 e1 h1 z1 => ?_)
    have hok : M 1 1 % 2 = 0 ∧ ∀ p, 0 ≤ p → p < M 1 1 → okP (M 2) p := by
      rcases hr with ⟨h1, h2⟩ | ⟨h1, _⟩
      · exact ⟨by omega, h2⟩
      · omega
    have hn6 : M 1 1 ≤ 6 := by
      apply Int.not_lt.mp; intro hlt
      have := (hok.2 6 (by omega) hlt).1
      omega
    have r1 : drep M1 13 D := c2.eq (fun a a1 a2 => e1 a (by omega))
    unfold w_X9_copyPairsTo
    rw [e1 1 (by omega), pd_div ⟨by omega, by omega⟩ ⟨by decide, by decide⟩]
    refine t_min ⟨by omega, by omega⟩ ⟨by decide, by decide⟩ (fun z hz hz1 hz2 => ?_)
    have hzn : z = M 1 1 / 2 := by omega
    subst hzn
    have z13 : pj_up M1 13 3 (M 1 1 / 2) 13 3 = M 1 1 / 2 := pu_eq
    rintro M3 rfl
    unfold w_X9_copyPairsTo_16
    refine pj_lp_inv (fun y : Int × pj_M => (0 ≤ y.1 ∧ y.1 ≤ M 1 1) ∧ (∀ a, a ≠ 13 → a ≠ 20 → y.2 a = M1 a) ∧ y.2 13 3 = M 1 1 / 2 ∧ ∀ x, 0 ≤ x → x < y.1 → y.2 20 x = M 2 x - 97) (fun y => (M 1 1 - y.1).toNat) ?_ (0, _) ⟨⟨Int.le_refl _, ht.1.1⟩, fun a a1 a2 => pu_row a1, z13, fun x x1 x2 => by have : x < 0 := x2; omega⟩
    rintro ⟨p, M4⟩ ⟨hp, e4, n4, w4⟩ P hP
    dsimp only at hp e4 n4 w4 hP ⊢
    unfold w_X9_copyPairsTo_16b
    rw [rt_0, rk_2, n4]
    refine ⟨⟨by omega, by omega⟩, ⟨by omega, by omega⟩, fun hend => ?_, fun hgo => ⟨⟨by omega, by omega⟩, ⟨by omega, by omega⟩, ?_⟩⟩
    · unfold w_X11_brackets_35 w_X9_clear
      rw [rc_0, rc_2]
      rintro M5 rfl
      have row5 : ∀ a, a ≠ 1 → a ≠ 13 → a ≠ 20 → pj_up M4 1 1 0 a = M1 a := fun a a1 a2 a3 => by rw [pu_row a1]; exact e4 a a2 a3
      have n5 : pj_up M4 1 1 0 13 3 = M 1 1 / 2 := by rw [pu_ne (by decide)]; exact n4
      refine ⟨⟨by decide, by decide⟩, fun h => absurd rfl h, fun _ => ?_⟩
      rw [n5]
      have e31 : pj_up M4 1 1 0 31 = M1 31 := row5 31 (by decide) (by decide) (by decide)
      refine q1 hr _ (fun a ha => by rw [row5 a (by omega) (by omega) (by omega)]; exact e1 a (by omega)) pu_eq (by rw [e31, z1]) (fun D' H' hc hps => ⟨c1.eq (fun a ha => by rw [row5 a (by omega) (by omega) (by omega)]; exact e1 a (by omega)), ⟨?_, dvl_brk cv ⟨ht.1.1, hn6, hok.1⟩ hok.2 hc⟩, c3.eq (fun a a1 a2 => by rw [row5 a (by omega) (by omega) (by omega)]; exact e1 a (by omega)), ?_, kpt.eq c5 (fun a a1 a2 => by rw [row5 a (by omega) (by omega) (by omega)]; exact e1 a (by omega)) (by rw [row5 114 (by omega) (by omega) (by omega)]; exact e1 114 (by omega)), ⟨by rw [pu_eq]; exact ⟨by decide, by decide⟩, fun k => by rw [row5 2 (by decide) (by decide) (by decide), e1 2 (by omega)]; exact ht.2 k⟩, c7.eq (fun a a1 a2 => by rw [row5 a (by omega) (by omega) (by omega)]; exact e1 a (by omega)), ?_⟩)
      · refine r1.brk cv ⟨ht.1.1, hok.1⟩ (fun a a1 a2 => row5 a (by omega) (by omega) (by omega)) n5 (fun k k1 k2 => ?_) hc
        have z20 : pj_up M4 1 1 0 20 = M4 20 := pu_row (by decide)
        rw [show pj_up M4 1 1 0 (13 + 7) = M4 20 from z20]; exact w4 k k1 (by omega)
      · refine (h1.congr (H' := H') (fun i i1 i2 => ?_)).eq (fun a a1 a2 => row5 a (by omega) (by omega) (by omega))
        rw [z1] at i2
        exact hps i i1 i2
      · obtain ⟨l, hl⟩ := c8
        refine ⟨l, hl.eq ?_ ?_⟩
        · rw [row5 186 (by omega) (by omega) (by omega)]; exact e1 186 (by omega)
        · rw [row5 0 (by omega) (by omega) (by omega), e1 0 (by omega)]
    · rw [e4 2 (by decide) (by decide), e1 2 (by omega)]
      rintro M8 rfl
      refine hP (p + 1, _) ⟨⟨by show 0 ≤ p + 1; omega, by show p + 1 ≤ M 1 1; omega⟩, fun a a1 a2 => ?_, ?_, fun x x1 x2 => ?_⟩ (by show (M 1 1 - (p + 1)).toNat < (M 1 1 - p).toNat; omega)
      · show pj_up M4 20 p _ a = _
        rw [pu_row a2]; exact e4 a a1 a2
      · show pj_up M4 20 p (M 2 p - 97) 13 3 = _
        rw [pu_ne (by decide)]; exact n4
      · have x2' : x < p + 1 := x2
        show pj_up M4 20 p (M 2 p - 97) 20 x = _
        by_cases e : x = p
        · rw [e, pu_eq]
        · rw [pu_nk e]; exact w4 x x1 (by omega)
end
