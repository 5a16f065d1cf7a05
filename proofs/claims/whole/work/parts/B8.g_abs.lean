/-- a grammar that is being told, as a row -/
def addA (E : Int → Int) (c : Int) : Int → Int := fup (fup (fup E 0 (E 0 + 1)) (1 + 6 * E 0) c) (1 + 6 * E 0 + 1) 0
def addS (E : Int → Int) (s : Int) : Int → Int := fup (fup E (1 + 6 * (E 0 - 1) + 2 + E (1 + 6 * (E 0 - 1) + 1)) s) (1 + 6 * (E 0 - 1) + 1) (E (1 + 6 * (E 0 - 1) + 1) + 1)
def inR (E : Int → Int) (c : Int) : Prop := ∃ k : Int, 0 ≤ k ∧ k < E 0 ∧ E (1 + 6 * k) = c
theorem alc_iff {E : Int → Int} {x : Int} : ∀ m : Nat, (0 ≤ alc E x m ∧ alc E x m ≤ (m : Int)) ∧ (alc E x m ≠ 0 ↔ ∃ k : Int, 0 ≤ k ∧ k < (m : Int) ∧ E (1 + 6 * k) = x)
  | 0 => ⟨⟨Int.le_refl _, Int.le_refl _⟩, fun h => absurd rfl h, fun ⟨k, h1, h2, _⟩ => by omega⟩
  | m + 1 => by
    obtain ⟨h1, h2⟩ := alc_iff (E := E) (x := x) m
    have e : alc E x (m + 1) = alc E x m + (if E (1 + 6 * (m : Int)) = x then 1 else 0) := rfl
    rw [e]
    by_cases h : E (1 + 6 * (m : Int)) = x
    · rw [if_pos h]
      exact ⟨by omega, fun _ => ⟨(m : Int), by omega, by omega, h⟩, fun _ => by omega⟩
    · rw [if_neg h]
      refine ⟨by omega, fun hne => ?_, fun ⟨k, k1, k2, k3⟩ => ?_⟩
      · obtain ⟨k, k1, k2, k3⟩ := h2.mp (by omega)
        exact ⟨k, k1, by omega, k3⟩
      · have : k ≠ (m : Int) := fun e => h (by rw [← e]; exact k3)
        have := h2.mpr ⟨k, k1, by omega, k3⟩
        omega
abbrev gS : Type := Int × Int × (Int → Int)
def gs1 (c : Int) (s : gS) : Option gS :=
  if s.1 = 0 then (if 0 ≤ c - 65 ∧ c - 65 < 6 ∧ alc s.2.2 (c - 65) (s.2.2 0).toNat = 0 then some (1, c - 65, s.2.2) else none)
  else if s.1 = 1 then (if c = 61 ∧ s.2.2 0 < 12 then some (2, s.2.1, addA s.2.2 s.2.1) else none)
  else if c = 59 then some (0, s.2.1, s.2.2)
  else if c = 124 then (if s.2.2 0 < 12 then some (2, s.2.1, addA s.2.2 s.2.1) else none)
  else if 97 ≤ c ∧ c ≤ 104 then (if s.2.2 (1 + 6 * (s.2.2 0 - 1) + 1) < 4 then some (2, s.2.1, addS s.2.2 (c - 97)) else none)
  else if 65 ≤ c ∧ c ≤ 70 then (if s.2.2 (1 + 6 * (s.2.2 0 - 1) + 1) < 4 then some (2, s.2.1, addS s.2.2 (8 + c - 65)) else none)
  else none
def gsf (T : Int → Int) : Nat → Option gS
  | 0 => some (0, 0, fun _ => 0)
  | p + 1 => (gsf T p).bind (gs1 (T (p : Int)))
theorem gsf_congr {T T' : Int → Int} {n : Int} (e : leq n T T') : ∀ p : Nat, (p : Int) ≤ n → gsf T p = gsf T' p
  | 0, _ => rfl
  | p + 1, h => by
    show (gsf T p).bind _ = (gsf T' p).bind _
    rw [gsf_congr e p (by omega), e (p : Int) (by omega) (by omega)]
/-- what holds of a row that is being told -/
def gsw (s : gS) : Prop := (s.1 = 0 ∨ s.1 = 1 ∨ s.1 = 2) ∧ (0 ≤ s.2.2 0 ∧ s.2.2 0 ≤ 12) ∧ (s.1 = 2 → 1 ≤ s.2.2 0) ∧ (s.1 ≠ 0 → 0 ≤ s.2.1 ∧ s.2.1 ≤ 5) ∧ (s.1 = 1 → ¬ inR s.2.2 s.2.1) ∧ (s.1 = 2 → inR s.2.2 s.2.1) ∧ (∀ k, 0 ≤ k → k < 12 → 0 ≤ s.2.2 (1 + 6 * k) ∧ s.2.2 (1 + 6 * k) ≤ 5) ∧ (∀ k, 0 ≤ k → k < 12 → 0 ≤ s.2.2 (1 + 6 * k + 1) ∧ s.2.2 (1 + 6 * k + 1) ≤ 4) ∧ ∀ k t, 0 ≤ k → k < 12 → 0 ≤ t → t < 4 → 0 ≤ s.2.2 (1 + 6 * k + 2 + t) ∧ s.2.2 (1 + 6 * k + 2 + t) ≤ 13
theorem addA_v {E : Int → Int} {c : Int} (h0 : 0 ≤ E 0) : addA E c 0 = E 0 + 1 ∧ (∀ k, 0 ≤ k → addA E c (1 + 6 * k) = if k = E 0 then c else E (1 + 6 * k)) ∧ (∀ k, 0 ≤ k → addA E c (1 + 6 * k + 1) = if k = E 0 then 0 else E (1 + 6 * k + 1)) ∧ ∀ k t, 0 ≤ k → 0 ≤ t → t < 4 → addA E c (1 + 6 * k + 2 + t) = E (1 + 6 * k + 2 + t) := by
  unfold addA fup
  refine ⟨?_, fun k hk => ?_, fun k hk => ?_, fun k t hk ht1 ht2 => ?_⟩
  · rw [if_neg (by omega), if_neg (by omega), if_pos rfl]
  · rw [if_neg (by omega)]
    by_cases e : k = E 0
    · rw [if_pos (by omega), if_pos e]
    · rw [if_neg (by omega), if_neg (by omega), if_neg e]
  · by_cases e : k = E 0
    · rw [if_pos (by omega), if_pos e]
    · rw [if_neg (by omega), if_neg (by omega), if_neg (by omega), if_neg e]
  · rw [if_neg (by omega), if_neg (by omega), if_neg (by omega)]
theorem addS_v {E : Int → Int} {s : Int} (h0 : 1 ≤ E 0) (hz : 0 ≤ E (1 + 6 * (E 0 - 1) + 1) ∧ E (1 + 6 * (E 0 - 1) + 1) < 4) : addS E s 0 = E 0 ∧ (∀ k, 0 ≤ k → addS E s (1 + 6 * k) = E (1 + 6 * k)) ∧ (∀ k, 0 ≤ k → addS E s (1 + 6 * k + 1) = if k = E 0 - 1 then E (1 + 6 * k + 1) + 1 else E (1 + 6 * k + 1)) ∧ ∀ k t, 0 ≤ k → 0 ≤ t → t < 4 → addS E s (1 + 6 * k + 2 + t) = if k = E 0 - 1 ∧ t = E (1 + 6 * (E 0 - 1) + 1) then s else E (1 + 6 * k + 2 + t) := by
  unfold addS fup
  generalize hzz : E (1 + 6 * (E 0 - 1) + 1) = z at *
  refine ⟨?_, fun k hk => ?_, fun k hk => ?_, fun k t hk ht1 ht2 => ?_⟩
  · rw [if_neg (by omega), if_neg (by omega)]
  · rw [if_neg (by omega), if_neg (by omega)]
  · by_cases e : k = E 0 - 1
    · rw [if_pos (by omega), if_pos e, e, hzz]
    · rw [if_neg (by omega), if_neg (by omega), if_neg e]
  · by_cases e : k = E 0 - 1 ∧ t = z
    · rw [if_neg (by omega), if_pos (by omega), if_pos e]
    · rw [if_neg (by omega), if_neg (by omega), if_neg e]
theorem inR_addA {E : Int → Int} {c x : Int} (h0 : 0 ≤ E 0) : inR (addA E c) x ↔ inR E x ∨ x = c := by
  obtain ⟨a1, a2, _⟩ := addA_v (c := c) h0
  unfold inR
  rw [a1]
  constructor
  · rintro ⟨k, k1, k2, k3⟩
    rw [a2 k k1] at k3
    by_cases e : k = E 0
    · rw [if_pos e] at k3; exact Or.inr k3.symm
    · rw [if_neg e] at k3; exact Or.inl ⟨k, k1, by omega, k3⟩
  · rintro (⟨k, k1, k2, k3⟩ | h)
    · exact ⟨k, k1, by omega, by rw [a2 k k1, if_neg (by omega)]; exact k3⟩
    · exact ⟨E 0, h0, by omega, by rw [a2 _ h0, if_pos rfl]; exact h.symm⟩
theorem inR_addS {E : Int → Int} {s x : Int} (h0 : 1 ≤ E 0) (hz : 0 ≤ E (1 + 6 * (E 0 - 1) + 1) ∧ E (1 + 6 * (E 0 - 1) + 1) < 4) : inR (addS E s) x ↔ inR E x := by
  obtain ⟨a1, a2, _⟩ := addS_v (s := s) h0 hz
  unfold inR
  rw [a1]
  constructor
  · rintro ⟨k, k1, k2, k3⟩; exact ⟨k, k1, k2, by rw [← a2 k k1]; exact k3⟩
  · rintro ⟨k, k1, k2, k3⟩; exact ⟨k, k1, k2, by rw [a2 k k1]; exact k3⟩
theorem alc_inR {E : Int → Int} {c : Int} (h0 : 0 ≤ E 0) : alc E c (E 0).toNat = 0 ↔ ¬ inR E c := by
  have h := (alc_iff (E := E) (x := c) (E 0).toNat).2
  rw [show (((E 0).toNat : Nat) : Int) = E 0 by omega] at h
  constructor
  · intro h1 h2; exact absurd h1 (h.mpr h2)
  · intro h1
    apply Classical.byContradiction
    intro h2; exact h1 (h.mp h2)
theorem gsw_A {st : Int} {c : Int} {E : Int → Int} (h : gsw (st, c, E)) (hc : 0 ≤ c ∧ c ≤ 5) (h12 : E 0 < 12) : gsw (2, c, addA E c) := by
  obtain ⟨_, h2, _, _, _, _, h7, h8, h9⟩ := h
  dsimp only at h2 h7 h8 h9
  obtain ⟨a1, a2, a3, a4⟩ := addA_v (c := c) h2.1
  refine ⟨Or.inr (Or.inr rfl), ?_, fun _ => ?_, fun _ => hc, fun h => absurd h (by show ¬ (2 : Int) = 1; decide), fun _ => ?_, fun k k1 k2 => ?_, fun k k1 k2 => ?_, fun k t k1 k2 t1 t2 => ?_⟩
  · show 0 ≤ addA E c 0 ∧ addA E c 0 ≤ 12
    rw [a1]; omega
  · show 1 ≤ addA E c 0
    rw [a1]; omega
  · show inR (addA E c) c
    exact (inR_addA h2.1).mpr (Or.inr rfl)
  · show 0 ≤ addA E c (1 + 6 * k) ∧ addA E c (1 + 6 * k) ≤ 5
    rw [a2 k k1]; split
    · exact hc
    · exact h7 k k1 k2
  · show 0 ≤ addA E c (1 + 6 * k + 1) ∧ addA E c (1 + 6 * k + 1) ≤ 4
    rw [a3 k k1]; split
    · omega
    · exact h8 k k1 k2
  · show 0 ≤ addA E c (1 + 6 * k + 2 + t) ∧ addA E c (1 + 6 * k + 2 + t) ≤ 13
    rw [a4 k t k1 t1 t2]; exact h9 k t k1 k2 t1 t2
theorem gsw_S {c s : Int} {E : Int → Int} (h : gsw (2, c, E)) (hs : 0 ≤ s ∧ s ≤ 13) (h4 : E (1 + 6 * (E 0 - 1) + 1) < 4) : gsw (2, c, addS E s) := by
  obtain ⟨_, h2, h3, h4', _, h6, h7, h8, h9⟩ := h
  dsimp only at h2 h3 h4' h6 h7 h8 h9
  have h31 := h3 rfl
  have hz := h8 (E 0 - 1) (by omega) (by omega)
  obtain ⟨a1, a2, a3, a4⟩ := addS_v (s := s) h31 ⟨hz.1, h4⟩
  refine ⟨Or.inr (Or.inr rfl), ?_, fun _ => ?_, fun _ => h4' (by decide), fun h => absurd h (by show ¬ (2 : Int) = 1; decide), fun _ => ?_, fun k k1 k2 => ?_, fun k k1 k2 => ?_, fun k t k1 k2 t1 t2 => ?_⟩
  · show 0 ≤ addS E s 0 ∧ addS E s 0 ≤ 12
    rw [a1]; exact h2
  · show 1 ≤ addS E s 0
    rw [a1]; exact h31
  · show inR (addS E s) c
    exact (inR_addS h31 ⟨hz.1, h4⟩).mpr (h6 rfl)
  · show 0 ≤ addS E s (1 + 6 * k) ∧ addS E s (1 + 6 * k) ≤ 5
    rw [a2 k k1]; exact h7 k k1 k2
  · show 0 ≤ addS E s (1 + 6 * k + 1) ∧ addS E s (1 + 6 * k + 1) ≤ 4
    have := h8 k k1 k2
    rw [a3 k k1]; split
    · rename_i e; rw [e]; omega
    · exact this
  · show 0 ≤ addS E s (1 + 6 * k + 2 + t) ∧ addS E s (1 + 6 * k + 2 + t) ≤ 13
    rw [a4 k t k1 t1 t2]; split
    · exact hs
    · exact h9 k t k1 k2 t1 t2
theorem gs1_w {c : Int} {s s' : gS} (h : gsw s) (e : gs1 c s = some s') : gsw s' := by
  obtain ⟨st, cp, E⟩ := s
  have h1 := h.1
  dsimp only at h1
  unfold gs1 at e
  dsimp only at e
  by_cases h0 : st = 0
  · rw [if_pos h0] at e
    by_cases hc : 0 ≤ c - 65 ∧ c - 65 < 6 ∧ alc E (c - 65) (E 0).toNat = 0
    · rw [if_pos hc] at e
      cases e
      obtain ⟨_, g2, _, _, _, _, g7, g8, g9⟩ := h
      exact ⟨Or.inr (Or.inl rfl), g2, fun h => absurd h (by show ¬ (1 : Int) = 2; decide), fun _ => ⟨hc.1, by show c - 65 ≤ 5; omega⟩, fun _ => (alc_inR g2.1).mp hc.2.2, fun h => absurd h (by show ¬ (1 : Int) = 2; decide), g7, g8, g9⟩
    · rw [if_neg hc] at e; cases e
  · rw [if_neg h0] at e
    have hcp := h.2.2.2.1 h0
    by_cases h1' : st = 1
    · rw [if_pos h1'] at e
      by_cases hc : c = 61 ∧ E 0 < 12
      · rw [if_pos hc] at e; cases e
        exact gsw_A h hcp hc.2
      · rw [if_neg hc] at e; cases e
    · rw [if_neg h1'] at e
      have h2 : st = 2 := by omega
      subst h2
      by_cases c1 : c = 59
      · rw [if_pos c1] at e; cases e
        obtain ⟨_, g2, _, _, _, _, g7, g8, g9⟩ := h
        exact ⟨Or.inl rfl, g2, fun h => absurd h (by show ¬ (0 : Int) = 2; decide), fun h => absurd rfl h, fun h => absurd h (by show ¬ (0 : Int) = 1; decide), fun h => absurd h (by show ¬ (0 : Int) = 2; decide), g7, g8, g9⟩
      · rw [if_neg c1] at e
        by_cases c2 : c = 124
        · rw [if_pos c2] at e
          by_cases hc : E 0 < 12
          · rw [if_pos hc] at e; cases e
            exact gsw_A h hcp hc
          · rw [if_neg hc] at e; cases e
        · rw [if_neg c2] at e
          by_cases c3 : 97 ≤ c ∧ c ≤ 104
          · rw [if_pos c3] at e
            by_cases hc : E (1 + 6 * (E 0 - 1) + 1) < 4
            · rw [if_pos hc] at e; cases e
              exact gsw_S h ⟨by omega, by omega⟩ hc
            · rw [if_neg hc] at e; cases e
          · rw [if_neg c3] at e
            by_cases c4 : 65 ≤ c ∧ c ≤ 70
            · rw [if_pos c4] at e
              by_cases hc : E (1 + 6 * (E 0 - 1) + 1) < 4
              · rw [if_pos hc] at e; cases e
                exact gsw_S h ⟨by omega, by omega⟩ hc
              · rw [if_neg hc] at e; cases e
            · rw [if_neg c4] at e; cases e
theorem gsf_w {T : Int → Int} : ∀ {p : Nat} {s : gS}, gsf T p = some s → gsw s
  | 0, s, h => by
    have h' : some ((0 : Int), (0 : Int), fun _ : Int => (0 : Int)) = some s := h
    cases h'
    refine ⟨Or.inl rfl, ⟨Int.le_refl _, by show (0 : Int) ≤ 12; decide⟩, fun h => absurd h (by show ¬ (0 : Int) = 2; decide), fun h => absurd rfl h, fun h => absurd h (by show ¬ (0 : Int) = 1; decide), fun h => absurd h (by show ¬ (0 : Int) = 2; decide), fun k _ _ => ⟨Int.le_refl _, by show (0 : Int) ≤ 5; decide⟩, fun k _ _ => ⟨Int.le_refl _, by show (0 : Int) ≤ 4; decide⟩, fun k t _ _ _ _ => ⟨Int.le_refl _, by show (0 : Int) ≤ 13; decide⟩⟩
  | p + 1, s, h => by
    have h' : (gsf T p).bind (gs1 (T (p : Int))) = some s := h
    cases e : gsf T p with
    | none => rw [e] at h'; cases h'
    | some s0 => rw [e] at h'; exact gs1_w (gsf_w e) h'
/-- every capital has a rule -/
def allR (E : Int → Int) : Prop := ∀ k t, 0 ≤ k → k < E 0 → 0 ≤ t → t < E (1 + 6 * k + 1) → 8 ≤ E (1 + 6 * k + 2 + t) → inR E (E (1 + 6 * k + 2 + t) - 8)
/-- what a text answers, as a grammar -/
def s_gram (T : Int → Int) (n : Int) (r : Int) (E : Int → Int) : Prop :=
  (∃ p : Nat, (p : Int) < n ∧ (gsf T p).isSome ∧ gsf T (p + 1) = none ∧ r = -1 - (p : Int)) ∨
  ∃ st c, gsf T n.toNat = some (st, c, E) ∧ ((st ≠ 2 ∧ r = -1 - n) ∨ (st = 2 ∧ ((¬ allR E ∧ r = -201) ∨ (allR E ∧ ¬ gr_gd (gr_of E) 8 (E 1).toNat ∧ r = -200) ∨ (allR E ∧ gr_gd (gr_of E) 8 (E 1).toNat ∧ r = E 0 ∧ 1 ≤ r))))
theorem gsf_none {T : Int → Int} : ∀ {p q : Nat}, p ≤ q → gsf T p = none → gsf T q = none := by
  intro p q h
  induction q with
  | zero => intro h1; rw [show p = 0 by omega] at h1; exact h1
  | succ q ih =>
    intro h1
    by_cases e : p = q + 1
    · rw [← e]; exact h1
    · show (gsf T q).bind _ = none
      rw [ih (by omega) h1]; rfl
theorem s_gram.uniq {T : Int → Int} {n r r' : Int} {E E' : Int → Int} (h : s_gram T n r E) (h' : s_gram T n r' E') : r = r' ∧ (0 ≤ r → E = E') := by
  rcases h with ⟨p, a1, a2, a3, a4⟩ | ⟨st, c, a1, a2⟩ <;> rcases h' with ⟨p', b1, b2, b3, b4⟩ | ⟨st', c', b1, b2⟩
  · have : p = p' := by
      rcases Nat.lt_trichotomy p p' with hlt | heq | hgt
      · rw [gsf_none (show p + 1 ≤ p' by omega) a3] at b2; cases b2
      · exact heq
      · rw [gsf_none (show p' + 1 ≤ p by omega) b3] at a2; cases a2
    subst this
    exact ⟨a4.trans b4.symm, fun h => by omega⟩
  · rw [gsf_none (show p + 1 ≤ n.toNat by omega) a3] at b1; cases b1
  · rw [gsf_none (show p' + 1 ≤ n.toNat by omega) b3] at a1; cases a1
  · rw [a1] at b1
    cases b1
    rcases a2 with ⟨x1, x2⟩ | ⟨x1, x2⟩ <;> rcases b2 with ⟨y1, y2⟩ | ⟨y1, y2⟩
    · exact ⟨x2.trans y2.symm, fun _ => rfl⟩
    · exact absurd y1 x1
    · exact absurd x1 y1
    · refine ⟨?_, fun _ => rfl⟩
      rcases x2 with ⟨u1, u2⟩ | ⟨u1, u2, u3⟩ | ⟨u1, u2, u3, _⟩ <;> rcases y2 with ⟨v1, v2⟩ | ⟨v1, v2, v3⟩ | ⟨v1, v2, v3, _⟩
      · exact u2.trans v2.symm
      · exact absurd v1 u1
      · exact absurd v1 u1
      · exact absurd u1 v1
      · exact u3.trans v3.symm
      · exact absurd v2 u2
      · exact absurd u1 v1
      · exact absurd u2 v2
      · exact u3.trans v3.symm
