theorem rg_0 : pj_rf 3 0 = 4 := by decide
theorem rg_1 : pj_rf 3 1 = 8 := by decide
theorem r4_0 : pj_rf 4 0 = 5 := by decide
theorem r4_1 : pj_rf 4 1 = 6 := by decide
theorem r4_2 : pj_rf 4 2 = 7 := by decide
theorem r8_0 : pj_rf 8 0 = 9 := by decide
/-- the draft holds what was told -/
def crr (M : pj_M) (s : gS) : Prop := M 3 3 = s.1 ∧ (s.1 ≠ 0 → M 3 2 = s.2.1) ∧ gwb M 4 ∧ M 4 3 = s.2.2 0 ∧ (∀ k, 0 ≤ k → k < s.2.2 0 → M 5 k = s.2.2 (1 + 6 * k) ∧ M 6 k = s.2.2 (1 + 6 * k + 1) ∧ ∀ t, 0 ≤ t → t < s.2.2 (1 + 6 * k + 1) → M 7 (k * 4 + t) = s.2.2 (1 + 6 * k + 2 + t)) ∧ (∃ R : Nat, M 4 5 = (R : Int) ∧ R < 64 ∧ ∀ x : Nat, R.testBit x = true ↔ inR s.2.2 (x : Int) ∨ (s.1 = 1 ∧ (x : Int) = s.2.1)) ∧ (1 ≤ s.2.2 0 → M 4 4 = s.2.2 1) ∧ (s.2.2 0 = 0 → s.1 = 1 → M 4 4 = s.2.1)
def eqe (M M' : pj_M) : Prop := ∀ a, ¬ (3 ≤ a ∧ a ≤ 12) → M' a = M a
theorem eqe.rf {M : pj_M} : eqe M M := fun _ _ => rfl
theorem eqe.tr {M M1 M2 : pj_M} (h : eqe M M1) (h2 : eqe M1 M2) : eqe M M2 := fun a h3 => (h2 a h3).trans (h a h3)
theorem eqe.up {M : pj_M} {a : Nat} {k v : Int} (h : 3 ≤ a ∧ a ≤ 12) : eqe M (pj_up M a k v) := fun b hb => pu_row (fun e => hb (e ▸ h))
/-- the same, but for the stage, while an alternative is added -/
def crq2 (M : pj_M) (s : gS) : Prop := (s.1 ≠ 0 → M 3 2 = s.2.1) ∧ gwb M 4 ∧ M 4 3 = s.2.2 0 ∧ (∀ k, 0 ≤ k → k < s.2.2 0 → M 5 k = s.2.2 (1 + 6 * k) ∧ M 6 k = s.2.2 (1 + 6 * k + 1) ∧ ∀ t, 0 ≤ t → t < s.2.2 (1 + 6 * k + 1) → M 7 (k * 4 + t) = s.2.2 (1 + 6 * k + 2 + t)) ∧ (∃ R : Nat, M 4 5 = (R : Int) ∧ R < 64 ∧ ∀ x : Nat, R.testBit x = true ↔ inR s.2.2 (x : Int) ∨ (s.1 = 1 ∧ (x : Int) = s.2.1)) ∧ (1 ≤ s.2.2 0 → M 4 4 = s.2.2 1) ∧ (s.2.2 0 = 0 → s.1 = 1 → M 4 4 = s.2.1)
theorem t_addAlternative {M : pj_M} {s : gS} {Q : Int → pj_M → Prop} (h : crq2 M s) (w : gsw s) (h3 : M 3 3 = 2) (hs : s.1 ≠ 0) (q0 : 12 ≤ s.2.2 0 → Q 0 M) (q1 : s.2.2 0 < 12 → ∀ M', eqe M M' → crr M' (2, s.2.1, addA s.2.2 s.2.1) → Q 1 M') : w_X4_addAlternative 4 s.2.1 M Q := by
  obtain ⟨st, c, E⟩ := s
  obtain ⟨g2, g3, g4, g5, ⟨R, g6, g7, g8⟩, g9, g10⟩ := h
  obtain ⟨w1, w2, w3, w4, w5, w6, w7, w8, w9⟩ := w
  dsimp only at *
  have hc := w4 hs
  obtain ⟨a1, a2, a3, a4⟩ := addA_v (c := c) w2.1
  unfold w_X4_addAlternative
  rw [r4_0, r4_1, g4]
  refine ⟨⟨by omega, by omega⟩, fun h12 => ⟨⟨by omega, by omega⟩, ?_⟩, fun h12 => q0 (by omega)⟩
  rintro M3 rfl
  rw [pu_ne (show (4 : Nat) ≠ 5 by decide), g4]
  refine ⟨⟨by omega, by omega⟩, ?_⟩
  rintro M5 rfl M6 rfl
  rw [pu_ne (show (4 : Nat) ≠ 6 by decide), pu_ne (show (4 : Nat) ≠ 5 by decide), g4]
  generalize hM : pj_up (pj_up (pj_up M 5 (E 0) c) 6 (E 0) 0) 4 3 (E 0 + 1) = M6
  have m3 : M6 3 = M 3 := by rw [← hM, pu_row (by decide), pu_row (by decide), pu_row (by decide)]
  have m7 : M6 7 = M 7 := by rw [← hM, pu_row (by decide), pu_row (by decide), pu_row (by decide)]
  have m43 : M6 4 3 = E 0 + 1 := by rw [← hM, pu_eq]
  have m4 : ∀ x, x ≠ 3 → M6 4 x = M 4 x := fun x hx => by rw [← hM, pu_nk hx, pu_ne (by decide), pu_ne (by decide)]
  have m5 : ∀ x, M6 5 x = if x = E 0 then c else M 5 x := fun x => by
    rw [← hM, pu_ne (by decide), pu_ne (by decide), pu_if]
    by_cases e : x = E 0
    · rw [if_pos e, if_pos ⟨rfl, e⟩]
    · rw [if_neg e, if_neg (fun h => e h.2)]
  have m6 : ∀ x, M6 6 x = if x = E 0 then 0 else M 6 x := fun x => by
    rw [← hM, pu_ne (by decide), pu_if]
    by_cases e : x = E 0
    · rw [if_pos e, if_pos ⟨rfl, e⟩]
    · rw [if_neg e, if_neg (fun h => e h.2), pu_ne (by decide)]
  refine q1 h12 M6 (by rw [← hM]; exact ((eqe.up ⟨by decide, by decide⟩).tr (eqe.up ⟨by decide, by decide⟩)).tr (eqe.up ⟨by decide, by decide⟩)) ⟨by rw [m3]; exact h3, fun _ => by rw [m3]; exact g2 hs, ⟨fun k => ?_, fun k => ?_, fun x => ?_⟩, by rw [m43]; exact a1.symm, fun k k1 k2 => ?_, ⟨R, by rw [m4 5 (by decide)]; exact g6, g7, fun x => ?_⟩, fun _ => ?_, fun h0 => ?_⟩
  · rw [show M6 (4 + 1) k = M6 5 k from rfl, m5 k]; split
    · omega
    · exact g3.1 k
  · rw [show M6 (4 + 2) k = M6 6 k from rfl, m6 k]; split
    · omega
    · exact g3.2.1 k
  · rw [show M6 (4 + 3) x = M6 7 x from rfl, m7]; exact g3.2.2 x
  · have k2' : k < addA E c 0 := k2
    rw [a1] at k2'
    show M6 5 k = addA E c (1 + 6 * k) ∧ M6 6 k = addA E c (1 + 6 * k + 1) ∧ ∀ t, 0 ≤ t → t < addA E c (1 + 6 * k + 1) → M6 7 (k * 4 + t) = addA E c (1 + 6 * k + 2 + t)
    rw [m5 k, m6 k, a2 k k1, a3 k k1]
    by_cases e : k = E 0
    · rw [if_pos e, if_pos e, if_pos e, if_pos e]
      exact ⟨rfl, rfl, fun t t1 t2 => by omega⟩
    · rw [if_neg e, if_neg e, if_neg e, if_neg e]
      obtain ⟨b1, b2, b3⟩ := g5 k k1 (by omega)
      have hz := w8 k k1 (by omega)
      exact ⟨b1, b2, fun t t1 t2 => by rw [m7, a4 k t k1 t1 (by omega)]; exact b3 t t1 t2⟩
  · show R.testBit x = true ↔ inR (addA E c) (x : Int) ∨ ((2 : Int) = 1 ∧ (x : Int) = c)
    rw [g8 x, inR_addA w2.1]
    constructor
    · rintro (h | ⟨_, h⟩)
      · exact Or.inl (Or.inl h)
      · exact Or.inl (Or.inr h)
    · rintro ((h | h) | ⟨h, _⟩)
      · exact Or.inl h
      · rcases w1 with e | e | e
        · exact absurd e hs
        · exact Or.inr ⟨e, h⟩
        · exact Or.inl (by rw [h]; exact w6 e)
      · exact absurd h (by decide)
  · show M6 4 4 = addA E c 1
    have h1 := a2 0 (Int.le_refl _)
    rw [show (1 : Int) + 6 * 0 = 1 by omega] at h1
    rw [m4 4 (by decide), h1]
    by_cases e : 0 = E 0
    · rw [if_pos e]
      refine g10 e.symm ?_
      rcases w1 with e1 | e1 | e1
      · exact absurd e1 hs
      · exact e1
      · have := w3 e1; omega
    · rw [if_neg e]; exact g9 (by omega)
  · have h0' : addA E c 0 = 0 := h0
    rw [a1] at h0'; omega
theorem crr.q2 {M : pj_M} {s : gS} (h : crr M s) : crq2 M s := h.2
theorem t_addSymbol {M : pj_M} {c y : Int} {E : Int → Int} {Q : Int → pj_M → Prop} (h : crr M (2, c, E)) (w : gsw (2, c, E)) (hy : 0 ≤ y ∧ y ≤ 13) (q0 : 4 ≤ E (1 + 6 * (E 0 - 1) + 1) → Q 0 M) (q1 : E (1 + 6 * (E 0 - 1) + 1) < 4 → ∀ M', eqe M M' → crr M' (2, c, addS E y) → Q 1 M') : w_X4_addSymbol 4 y M Q := by
  obtain ⟨g1, g2, g3, g4, g5, ⟨R, g6, g7, g8⟩, g9, g10⟩ := h
  obtain ⟨w1, w2, w3, w4, w5, w6, w7, w8, w9⟩ := w
  dsimp only at *
  have h1 := w3 rfl
  have hzb := w8 (E 0 - 1) (by omega) (by omega)
  obtain ⟨b1, b2, b3⟩ := g5 (E 0 - 1) (by omega) (by omega)
  unfold w_X4_addSymbol
  rw [r4_1, r4_2, g4]
  rintro z rfl
  rw [b2]
  refine ⟨⟨by omega, by omega⟩, fun h => by omega, fun _ => ⟨⟨by omega, by omega⟩, ⟨by omega, by omega⟩, fun h4 => ⟨⟨by omega, by omega⟩, ⟨by omega, by omega⟩, ?_⟩, fun h4 => q0 (by omega)⟩⟩
  obtain ⟨a1, a2, a3, a4⟩ := addS_v (s := y) h1 ⟨hzb.1, h4⟩
  rintro M7 rfl
  rw [pu_ne (show (6 : Nat) ≠ 7 by decide), b2]
  refine ⟨⟨by omega, by omega⟩, ⟨by omega, by omega⟩, ?_⟩
  rintro M10 rfl
  generalize hM : pj_up (pj_up M 7 ((E 0 - 1) * 4 + E (1 + 6 * (E 0 - 1) + 1)) y) 6 (E 0 - 1) (E (1 + 6 * (E 0 - 1) + 1) + 1) = M6
  have m3 : M6 3 = M 3 := by rw [← hM, pu_row (by decide), pu_row (by decide)]
  have m4 : M6 4 = M 4 := by rw [← hM, pu_row (by decide), pu_row (by decide)]
  have m5 : M6 5 = M 5 := by rw [← hM, pu_row (by decide), pu_row (by decide)]
  have m6 : ∀ x, M6 6 x = if x = E 0 - 1 then E (1 + 6 * (E 0 - 1) + 1) + 1 else M 6 x := fun x => by
    rw [← hM, pu_if]
    by_cases e : x = E 0 - 1
    · rw [if_pos e, if_pos ⟨rfl, e⟩]
    · rw [if_neg e, if_neg (fun h => e h.2), pu_ne (by decide)]
  have m7 : ∀ x, M6 7 x = if x = (E 0 - 1) * 4 + E (1 + 6 * (E 0 - 1) + 1) then y else M 7 x := fun x => by
    rw [← hM, pu_ne (by decide), pu_if]
    by_cases e : x = (E 0 - 1) * 4 + E (1 + 6 * (E 0 - 1) + 1)
    · rw [if_pos e, if_pos ⟨rfl, e⟩]
    · rw [if_neg e, if_neg (fun h => e h.2)]
  refine q1 h4 M6 (by rw [← hM]; exact (eqe.up ⟨by decide, by decide⟩).tr (eqe.up ⟨by decide, by decide⟩)) ⟨by rw [m3]; exact g1, fun h => by rw [m3]; exact g2 h, ⟨fun k => ?_, fun k => ?_, fun x => ?_⟩, by rw [m4]; exact g4.trans a1.symm, fun k k1 k2 => ?_, ⟨R, by rw [m4]; exact g6, g7, fun x => ?_⟩, fun _ => ?_, fun h0 => ?_⟩
  · rw [show M6 (4 + 1) k = M6 5 k from rfl, m5]; exact g3.1 k
  · rw [show M6 (4 + 2) k = M6 6 k from rfl, m6 k]; split
    · omega
    · exact g3.2.1 k
  · rw [show M6 (4 + 3) x = M6 7 x from rfl, m7 x]; split
    · exact hy
    · exact g3.2.2 x
  · have k2' : k < addS E y 0 := k2
    rw [a1] at k2'
    show M6 5 k = addS E y (1 + 6 * k) ∧ M6 6 k = addS E y (1 + 6 * k + 1) ∧ ∀ t, 0 ≤ t → t < addS E y (1 + 6 * k + 1) → M6 7 (k * 4 + t) = addS E y (1 + 6 * k + 2 + t)
    obtain ⟨d1, d2, d3⟩ := g5 k k1 k2'
    have hz := w8 k k1 (by omega)
    rw [m5, m6 k, a2 k k1, a3 k k1]
    refine ⟨d1, ?_, fun t t1 t2 => ?_⟩
    · by_cases e : k = E 0 - 1
      · rw [if_pos e, if_pos e, e]
      · rw [if_neg e, if_neg e]; exact d2
    · by_cases e : k = E 0 - 1
      · rw [if_pos e] at t2
        rw [m7 (k * 4 + t), a4 k t k1 t1 (by rw [e] at t2; omega)]
        by_cases et : t = E (1 + 6 * (E 0 - 1) + 1)
        · rw [if_pos (by rw [e, et]), if_pos ⟨e, et⟩]
        · rw [if_neg (by rw [e]; omega), if_neg (fun h => et h.2)]
          refine d3 t t1 ?_
          rw [e] at t2 ⊢; omega
      · rw [if_neg e] at t2
        rw [m7 (k * 4 + t), if_neg (by omega), a4 k t k1 t1 (by omega), if_neg (fun h => e h.1)]
        exact d3 t t1 t2
  · show R.testBit x = true ↔ inR (addS E y) (x : Int) ∨ ((2 : Int) = 1 ∧ (x : Int) = c)
    rw [g8 x, inR_addS h1 ⟨hzb.1, h4⟩]
  · show M6 4 4 = addS E y 1
    have h1' := a2 0 (Int.le_refl _)
    rw [show (1 : Int) + 6 * 0 = 1 by omega] at h1'
    rw [m4, h1']; exact g9 h1
  · have h0' : addS E y 0 = 0 := h0
    rw [a1] at h0'; omega
theorem t_takes {M : pj_M} {s : gS} {c : Int} {Q : Int → pj_M → Prop} (h : crr M s) (w : gsw s) (hc : 0 ≤ c ∧ c ≤ 255) (q0 : gs1 c s = none → ∀ M', eqe M M' → gwb M' 4 → Q 0 M') (q1 : ∀ s' M', gs1 c s = some s' → eqe M M' → crr M' s' → Q 1 M') : w_X5_takes 3 c M Q := by
  obtain ⟨st, cp, E⟩ := s
  have h3 : M 3 3 = st := h.1
  have w1 : st = 0 ∨ st = 1 ∨ st = 2 := w.1
  have w2 : 0 ≤ E 0 ∧ E 0 ≤ 12 := w.2.1
  have cin : pj_in c := ⟨by omega, by omega⟩
  unfold w_X5_takes
  rw [rg_0, h3]
  refine ⟨⟨by omega, by omega⟩, fun hn0 => ⟨⟨by omega, by omega⟩, fun hn1 => ?_, fun h1 => ?_⟩, fun h0 => ?_⟩
  · -- at a symbol
    have e2 : st = 2 := by omega
    subst e2
    have cp32 : M 3 2 = cp := h.2.1 (by show ¬ (2 : Int) = 0; decide)
    have gs : gs1 c (2, cp, E) = if c = 59 then some (0, cp, E) else if c = 124 then (if E 0 < 12 then some (2, cp, addA E cp) else none) else if 97 ≤ c ∧ c ≤ 104 then (if E (1 + 6 * (E 0 - 1) + 1) < 4 then some (2, cp, addS E (c - 97)) else none) else if 65 ≤ c ∧ c ≤ 70 then (if E (1 + 6 * (E 0 - 1) + 1) < 4 then some (2, cp, addS E (8 + c - 65)) else none) else none := by
      unfold gs1; dsimp only; rw [if_neg (by decide), if_neg (by decide)]
    refine ⟨cin, fun n59 => ⟨cin, fun n124 => ?_, fun e124 => ?_⟩, fun e59 => ?_⟩
    · rw [if_neg n59, if_neg n124] at gs
      unfold w_X5_takesSymbol
      rw [rg_0]
      refine t_isSign cin (fun t ht hiff => ⟨in01 ht, fun h0 => ⟨cin, fun hlt => ⟨Or.inl rfl, q0 (by rw [gs, if_neg (by omega), if_neg (by omega)]) M eqe.rf h.2.2.1⟩, fun hge => ⟨cin, fun hgt => ⟨Or.inl rfl, q0 ?_ M eqe.rf h.2.2.1⟩, fun hle => ?_⟩⟩, fun h0 => ?_⟩)
      · have hns : ¬ (97 ≤ c ∧ c ≤ 104) := fun hs => by have := hiff.mpr hs; omega
        rw [gs, if_neg hns, if_neg (by omega)]
      · have hns : ¬ (97 ≤ c ∧ c ≤ 104) := fun hs => by have := hiff.mpr hs; omega
        rw [if_neg hns, if_pos ⟨by omega, by omega⟩] at gs
        refine t_addSymbol h w ⟨by omega, by omega⟩ (fun h4 => ⟨⟨by decide, by decide⟩, fun _ => ⟨Or.inl rfl, q0 (by rw [gs, if_neg (by omega)]) M eqe.rf h.2.2.1⟩, fun h => absurd rfl h⟩) (fun h4 M' e' c' => ⟨⟨by decide, by decide⟩, fun h => absurd h (by decide), fun _ => ⟨Or.inr rfl, q1 _ M' (by rw [gs, if_pos h4]) e' c'⟩⟩)
      · have hs : 97 ≤ c ∧ c ≤ 104 := hiff.mp (by omega)
        rw [if_pos hs] at gs
        exact t_addSymbol h w ⟨by omega, by omega⟩ (fun h4 => ⟨Or.inl rfl, Or.inl rfl, q0 (by rw [gs, if_neg (by omega)]) M eqe.rf h.2.2.1⟩) (fun h4 M' e' c' => ⟨Or.inr rfl, Or.inr rfl, q1 _ M' (by rw [gs, if_pos h4]) e' c'⟩)
    · rw [if_neg n59, if_pos e124] at gs
      rw [cp32]
      exact t_addAlternative (s := (2, cp, E)) h.q2 w h3 (by show ¬ (2 : Int) = 0; decide) (fun h12 => ⟨Or.inl rfl, q0 (by rw [gs, if_neg (by have : 12 ≤ E 0 := h12; omega)]) M eqe.rf h.2.2.1⟩) (fun h12 M' e' c' => ⟨Or.inr rfl, q1 _ M' (by rw [gs, if_pos h12]) e' c'⟩)
    · rw [if_pos e59] at gs
      rintro M11 rfl
      have row : ∀ a, a ≠ 3 → pj_up M 3 3 0 a = M a := fun a ha => pu_row ha
      obtain ⟨g1, g2, g3, g4, g5, ⟨R, g6, g7, g8⟩, g9, g10⟩ := h
      refine q1 _ _ gs (eqe.up ⟨by decide, by decide⟩) ⟨pu_eq, fun h => absurd rfl h, g3.eq (fun a a1 a2 => row a (by omega)), by rw [row 4 (by decide)]; exact g4, fun k k1 k2 => by rw [row 5 (by decide), row 6 (by decide), row 7 (by decide)]; exact g5 k k1 k2, ⟨R, by rw [row 4 (by decide)]; exact g6, g7, fun x => ?_⟩, fun h => by rw [row 4 (by decide)]; exact g9 h, fun _ h => absurd h (by show ¬ (0 : Int) = 1; decide)⟩
      rw [g8 x]
      constructor
      · rintro (h | ⟨h, _⟩)
        · exact Or.inl h
        · exact absurd h (by show ¬ (2 : Int) = 1; decide)
      · rintro (h | ⟨h, _⟩)
        · exact Or.inl h
        · exact absurd h (by show ¬ (0 : Int) = 1; decide)
  · -- at =
    subst h1
    have cp32 : M 3 2 = cp := h.2.1 (by show ¬ (1 : Int) = 0; decide)
    have gs : gs1 c (1, cp, E) = if c = 61 ∧ E 0 < 12 then some (2, cp, addA E cp) else none := by unfold gs1; dsimp only; rw [if_neg (by decide), if_pos rfl]
    rintro M12 rfl
    have row : ∀ a, a ≠ 3 → pj_up M 3 3 2 a = M a := fun a ha => pu_row ha
    obtain ⟨g1, g2, g3, g4, g5, ⟨R, g6, g7, g8⟩, g9, g10⟩ := h
    have wb : gwb (pj_up M 3 3 2) 4 := g3.eq (fun a a1 a2 => row a (by omega))
    refine ⟨cin, fun hne => q0 (by rw [gs, if_neg (fun h => hne h.1)]) _ (eqe.up ⟨by decide, by decide⟩) wb, fun heq => ?_⟩
    rw [pu_nk (show (2 : Int) ≠ 3 by decide), cp32]
    have h' : crq2 (pj_up M 3 3 2) (1, cp, E) := ⟨fun h => by rw [pu_nk (by decide)]; exact g2 h, wb, by rw [row 4 (by decide)]; exact g4, fun k k1 k2 => by rw [row 5 (by decide), row 6 (by decide), row 7 (by decide)]; exact g5 k k1 k2, ⟨R, by rw [row 4 (by decide)]; exact g6, g7, g8⟩, fun h => by rw [row 4 (by decide)]; exact g9 h, fun h1 h2 => by rw [row 4 (by decide)]; exact g10 h1 h2⟩
    exact t_addAlternative (s := (1, cp, E)) h' w pu_eq (by show ¬ (1 : Int) = 0; decide) (fun h12 => ⟨⟨by decide, by decide⟩, fun _ => q0 (by rw [gs, if_neg (fun h => by have h2 := h.2; have : 12 ≤ E 0 := h12; omega)]) _ (eqe.up ⟨by decide, by decide⟩) wb, fun h => absurd rfl h⟩) (fun h12 M' e' c' => ⟨⟨by decide, by decide⟩, fun h => absurd h (by decide), fun _ => q1 _ M' (by rw [gs, if_pos ⟨heq, h12⟩]) ((eqe.up ⟨by decide, by decide⟩).tr e') c'⟩)
  · -- at a capital
    subst h0
    have gs : gs1 c (0, cp, E) = if 0 ≤ c - 65 ∧ c - 65 < 6 ∧ alc E (c - 65) (E 0).toNat = 0 then some (1, c - 65, E) else none := by unfold gs1; dsimp only; rw [if_pos rfl]
    have hxb : -65 ≤ c - 65 ∧ c - 65 ≤ 190 := ⟨by omega, by omega⟩
    generalize hxx : c - 65 = x at gs hxb ⊢
    rintro M17 rfl M18 rfl
    have row : ∀ a, a ≠ 3 → pj_up (pj_up M 3 2 (x)) 3 3 1 a = M a := fun a ha => by rw [pu_row ha, pu_row ha]
    have m2 : pj_up (pj_up M 3 2 (x)) 3 3 1 3 2 = x := by rw [pu_nk (by decide), pu_eq]
    rw [m2]
    have ee : eqe M (pj_up (pj_up M 3 2 (x)) 3 3 1) := (eqe.up ⟨by decide, by decide⟩).tr (eqe.up ⟨by decide, by decide⟩)
    obtain ⟨g1, g2, g3, g4, g5, ⟨R, g6, g7, g8⟩, g9, g10⟩ := h
    have wb : gwb (pj_up (pj_up M 3 2 (x)) 3 3 1) 4 := g3.eq (fun a a1 a2 => row a (by omega))
    have hge' : True := trivial
    have hxin : pj_in (x) := ⟨by omega, by omega⟩
    have no : ¬ (0 ≤ x ∧ x < 6 ∧ alc E (x) (E 0).toNat = 0) → ((0 : Int) = 0 ∨ (0 : Int) = 1) ∧ Q 0 (pj_up (pj_up M 3 2 (x)) 3 3 1) := fun h => ⟨Or.inl rfl, q0 (by rw [gs, if_neg h]) _ ee wb⟩
    unfold w_X4_addRule
    refine ⟨hxin, fun h => no (by omega), fun hge => ⟨hxin, fun h => no (by omega), fun hlt => ?_⟩⟩
    obtain ⟨y, hy⟩ : ∃ y : Nat, x = (y : Int) := ⟨x.toNat, by omega⟩
    subst hy
    unfold w_X4_has
    rw [row 4 (by decide), g6, pb_bit (by omega) (by omega)]
    have hg : R.testBit y = true ↔ inR E (y : Int) := by
      rw [g8 y]
      constructor
      · rintro (h | ⟨h, _⟩)
        · exact h
        · exact absurd h (by show ¬ (0 : Int) = 1; decide)
      · exact Or.inl
    have put : ∀ Mx : pj_M, eqe M Mx → (∀ a, a ≠ 3 → a ≠ 4 → Mx a = M a) → Mx 3 3 = 1 → Mx 3 2 = (y : Int) → Mx 4 3 = E 0 → Mx 4 5 = (R : Int) → (1 ≤ E 0 → Mx 4 4 = E 1) → (E 0 = 0 → Mx 4 4 = (y : Int)) → ¬ inR E (y : Int) → w_X4_addRule_32 4 (y : Int) (fun t20 M19 => (t20 = 0 ∨ t20 = 1) ∧ Q t20 M19) Mx := by
      intro Mx ex rx x33 x32 x43 x45 x44 x440 hni
      have hpow : 2 ^ y < 2 ^ 6 := Nat.pow_lt_pow_right (by decide) (by omega)
      unfold w_X4_addRule_32
      rw [x45, pb_one (by omega), pb_or (by omega) (by omega)]
      rintro M7 rfl
      have hset : ∀ x, (R ||| 2 ^ y).testBit x = true ↔ R.testBit x = true ∨ y = x := fun x => by rw [pb_set, Bool.or_eq_true, decide_eq_true_iff]
      have rowx : ∀ a, a ≠ 4 → pj_up Mx 4 5 ((R ||| 2 ^ y : Nat) : Int) a = Mx a := fun a ha => pu_row ha
      refine ⟨Or.inr rfl, q1 (1, (y : Int), E) _ (by rw [gs, if_pos ⟨by omega, by omega, (alc_inR w2.1).mpr hni⟩]) (ex.tr (eqe.up ⟨by decide, by decide⟩)) ⟨by rw [rowx 3 (by decide)]; exact x33, fun _ => by rw [rowx 3 (by decide)]; exact x32, ⟨?_, ?_, ?_⟩, by rw [pu_nk (by decide)]; exact x43, fun k k1 k2 => by rw [rowx 5 (by decide), rowx 6 (by decide), rowx 7 (by decide), rx 5 (by decide) (by decide), rx 6 (by decide) (by decide), rx 7 (by decide) (by decide)]; exact g5 k k1 k2, ⟨R ||| 2 ^ y, pu_eq, Nat.or_lt_two_pow (n := 6) g7 hpow, fun x => ?_⟩, fun h => by rw [pu_nk (by decide)]; exact x44 h, fun h _ => by rw [pu_nk (by decide)]; exact x440 h⟩⟩
      · rw [rowx (4 + 1) (by decide), rx (4 + 1) (by decide) (by decide)]; exact g3.1
      · rw [rowx (4 + 2) (by decide), rx (4 + 2) (by decide) (by decide)]; exact g3.2.1
      · rw [rowx (4 + 3) (by decide), rx (4 + 3) (by decide) (by decide)]; exact g3.2.2
      · rw [hset x, g8 x]
        show _ ↔ inR E (x : Int) ∨ ((1 : Int) = 1 ∧ (x : Int) = (y : Int))
        constructor
        · rintro ((h | ⟨h, _⟩) | h)
          · exact Or.inl h
          · exact absurd h (by show ¬ (0 : Int) = 1; decide)
          · exact Or.inr ⟨rfl, by omega⟩
        · rintro (h | ⟨_, h⟩)
          · exact Or.inl (Or.inl h)
          · exact Or.inr (by omega)
    have go : ¬ inR E (y : Int) → (pj_in (0 : Int)) ∧ (((0 : Int) = 0 → (pj_in (pj_up (pj_up M 3 2 (y : Int)) 3 3 1 4 5)) ∧ ((¬ (pj_up (pj_up M 3 2 (y : Int)) 3 3 1 4 5) = 0 → w_X4_addRule_32 4 (y : Int) (fun t20 M19 => (t20 = 0 ∨ t20 = 1) ∧ Q t20 M19) (pj_up (pj_up M 3 2 (y : Int)) 3 3 1)) ∧ ((pj_up (pj_up M 3 2 (y : Int)) 3 3 1 4 5) = 0 → ∀ M8 : pj_M, M8 = pj_up (pj_up (pj_up M 3 2 (y : Int)) 3 3 1) 4 4 (y : Int) → w_X4_addRule_32 4 (y : Int) (fun t20 M19 => (t20 = 0 ∨ t20 = 1) ∧ Q t20 M19) M8))) ∧ (¬ (0 : Int) = 0 → ((0 : Int) = 0 ∨ (0 : Int) = 1) ∧ Q 0 (pj_up (pj_up M 3 2 (y : Int)) 3 3 1))) := by
      intro hni
      have hR0 : R = 0 ↔ E 0 = 0 := by
        constructor
        · intro hR
          apply Classical.byContradiction
          intro hne
          have h1 : inR E (E (1 + 6 * 0)) := ⟨0, Int.le_refl _, by omega, rfl⟩
          have hb := w.2.2.2.2.2.2.1 0 (Int.le_refl _) (by decide)
          have hb' : 0 ≤ E (1 + 6 * 0) ∧ E (1 + 6 * 0) ≤ 5 := hb
          have := (g8 (E (1 + 6 * 0)).toNat).mpr (Or.inl (by show inR E _; rw [show (((E (1 + 6 * 0)).toNat : Nat) : Int) = E (1 + 6 * 0) by omega]; exact h1))
          rw [hR] at this; simp at this
        · intro h0
          apply Nat.eq_of_testBit_eq
          intro i
          cases hb : R.testBit i
          · simp
          · rcases (g8 i).mp hb with ⟨k, k1, k2, _⟩ | ⟨h, _⟩
            · have k2' : k < E 0 := k2; omega
            · exact absurd h (by show ¬ (0 : Int) = 1; decide)
      refine ⟨⟨by decide, by decide⟩, fun _ => ?_, fun h => absurd rfl h⟩
      rw [row 4 (by decide), g6]
      refine ⟨⟨by omega, by omega⟩, fun hne => put _ ee (fun a a1 a2 => row a a1) pu_eq m2 (by rw [row 4 (by decide)]; exact g4) (by rw [row 4 (by decide)]; exact g6) (fun h => by rw [row 4 (by decide)]; exact g9 h) (fun h => absurd (by have := hR0.mpr h; omega) hne) hni, fun hz => ?_⟩
      rintro M8 rfl
      have hE0 : E 0 = 0 := hR0.mp (by omega)
      refine put _ (ee.tr (eqe.up ⟨by decide, by decide⟩)) (fun a a1 a2 => by rw [pu_row a2, row a a1]) (by rw [pu_ne (by decide), pu_eq]) (by rw [pu_ne (by decide)]; exact m2) (by rw [pu_nk (by decide), row 4 (by decide)]; exact g4) (by rw [pu_nk (by decide), row 4 (by decide)]; exact g6) (fun h => by omega) (fun _ => pu_eq) hni
    refine ⟨⟨by omega, by omega⟩, fun h => by omega, fun _ => ⟨⟨by omega, by omega⟩, fun h => by omega, fun _ => ?_⟩⟩
    by_cases e : R.testBit y = true
    · rw [e]
      refine ⟨⟨by decide, by decide⟩, fun h => absurd h (by decide), fun _ => ⟨⟨by decide, by decide⟩, fun h => absurd h (by decide), fun _ => no (fun h => (alc_inR w2.1).mp h.2.2 (hg.mp e))⟩⟩
    · rw [if_neg e]
      refine ⟨⟨by decide, by decide⟩, fun _ => go (fun h => e (hg.mpr h)), fun h => absurd rfl h⟩
