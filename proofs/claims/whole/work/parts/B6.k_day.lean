/-- changes that are told as a text -/
def dln (c : Int) : Int := if c = 114 ∨ c = 105 then 4 else if c = 100 then 3 else 0
theorem t_lengthOfChange {M : pj_M} {c : Int} {Q : Int → pj_M → Prop} (hc : pj_in c) (q : Q (dln c) M) : w_X9_lengthOfChange c M Q := by
  unfold dln at q
  refine ⟨hc, fun h => ?_, fun h => ⟨hc, fun h2 => ⟨hc, fun h3 => ?_, fun h3 => ?_⟩, fun h2 => ?_⟩⟩
  · rw [if_pos (Or.inl h)] at q; exact q
  · rw [if_neg (by omega), if_neg h3] at q; exact q
  · rw [if_neg (by omega), if_pos h3] at q; exact q
  · rw [if_pos (Or.inr h2)] at q; exact q
theorem dln_b (c : Int) : dln c = 0 ∨ dln c = 3 ∨ dln c = 4 := by unfold dln; split; exact Or.inr (Or.inr rfl); split; exact Or.inr (Or.inl rfl); exact Or.inl rfl
/-- offset and length of the change, after some signs -/
def dlc (T : Int → Int) (s : Int × Int) (p : Int) : Int := if s.1 = 0 then dln (T p) else s.2
def dst (T : Int → Int) : Nat → Int × Int
  | 0 => (0, 0)
  | p + 1 => (if (dst T p).1 + 1 = dlc T (dst T p) (p : Int) then 0 else (dst T p).1 + 1, dlc T (dst T p) (p : Int))
def okD (T : Int → Int) (p : Nat) : Prop := dlc T (dst T p) (p : Int) ≠ 0 ∧ ((dst T p).1 = 0 ∨ ((dst T p).1 = 3 ∧ sgn (T (p : Int))) ∨ ((dst T p).1 ≠ 3 ∧ 48 ≤ T (p : Int) ∧ T (p : Int) ≤ 57))
def misD (T : Int → Int) (n r : Int) : Prop := ((r = -1 ∧ (dst T n.toNat).1 = 0 ∨ r = n ∧ (dst T n.toNat).1 ≠ 0) ∧ ∀ p : Nat, (p : Int) < n → okD T p) ∨ ∃ p : Nat, r = (p : Int) ∧ (p : Int) < n ∧ ¬ okD T p ∧ ∀ p' : Nat, p' < p → okD T p'
theorem misD.uniq {T : Int → Int} {n r r' : Int} (h : misD T n r) (h' : misD T n r') : r = r' := by
  rcases h with ⟨a1, a2⟩ | ⟨p, a1, a2, a3, a4⟩ <;> rcases h' with ⟨b1, b2⟩ | ⟨p', b1, b2, b3, b4⟩
  · omega
  · exact absurd (a2 p' b2) b3
  · exact absurd (b2 p a2) a3
  · have : p = p' := by
      rcases Nat.lt_trichotomy p p' with h | h | h
      · exact absurd (b4 p h) a3
      · exact h
      · exact absurd (a4 p' h) b3
    rw [a1, b1, this]
theorem dst_congr {T T' : Int → Int} {n : Int} (e : leq n T T') : ∀ p : Nat, (p : Int) ≤ n → dst T p = dst T' p
  | 0, _ => rfl
  | p + 1, h => by
    have ih := dst_congr e p (by omega)
    have he := e (p : Int) (by omega) (by omega)
    unfold dst dlc
    rw [ih, he]
theorem okD_congr {T T' : Int → Int} {n : Int} (e : leq n T T') (p : Nat) (hp : (p : Int) < n) : okD T p ↔ okD T' p := by
  unfold okD dlc
  rw [dst_congr e p (by omega), e (p : Int) (by omega) hp]
theorem misD.congr {T T' : Int → Int} {n r : Int} (hn : 0 ≤ n) (h : misD T n r) (e : leq n T T') : misD T' n r := by
  rcases h with ⟨a1, a2⟩ | ⟨p, a1, a2, a3, a4⟩
  · exact Or.inl ⟨by rw [← dst_congr e n.toNat (by omega)]; exact a1, fun p hp => (okD_congr e p hp).mp (a2 p hp)⟩
  · exact Or.inr ⟨p, a1, a2, fun h => a3 ((okD_congr e p a2).mpr h), fun p' hp' => (okD_congr e p' (by omega)).mp (a4 p' hp')⟩
/-- offsets and lengths stay small -/
theorem dst_b {T : Int → Int} : ∀ p : Nat, (∀ p', p' < p → okD T p') → 0 ≤ (dst T p).1 ∧ (dst T p).1 ≤ 3 ∧ ((dst T p).2 = 0 ∨ (dst T p).2 = 3 ∨ (dst T p).2 = 4) ∧ ((dst T p).1 ≠ 0 → (dst T p).1 < (dst T p).2)
  | 0, _ => ⟨Int.le_refl _, by show (0 : Int) ≤ 3; decide, Or.inl rfl, fun h => absurd rfl h⟩
  | p + 1, h => by
    obtain ⟨h1, h2, h3, h4⟩ := dst_b p (fun p' hp' => h p' (by omega))
    have ok := h p (by omega)
    have hl : dlc T (dst T p) (p : Int) = 0 ∨ dlc T (dst T p) (p : Int) = 3 ∨ dlc T (dst T p) (p : Int) = 4 := by
      unfold dlc; split
      · exact dln_b _
      · exact h3
    have hlo : (dst T p).1 < dlc T (dst T p) (p : Int) := by
      have h0 := ok.1
      by_cases e : (dst T p).1 = 0
      · omega
      · have := h4 e
        unfold dlc; rw [if_neg e]; exact this
    show 0 ≤ (if (dst T p).1 + 1 = dlc T (dst T p) (p : Int) then 0 else (dst T p).1 + 1) ∧ (if (dst T p).1 + 1 = dlc T (dst T p) (p : Int) then 0 else (dst T p).1 + 1) ≤ 3 ∧ (dlc T (dst T p) (p : Int) = 0 ∨ dlc T (dst T p) (p : Int) = 3 ∨ dlc T (dst T p) (p : Int) = 4) ∧ ((if (dst T p).1 + 1 = dlc T (dst T p) (p : Int) then 0 else (dst T p).1 + 1) ≠ 0 → (if (dst T p).1 + 1 = dlc T (dst T p) (p : Int) then 0 else (dst T p).1 + 1) < dlc T (dst T p) (p : Int))
    split
    · exact ⟨Int.le_refl _, by decide, hl, fun h => absurd rfl h⟩
    · exact ⟨by omega, by omega, hl, fun _ => by omega⟩
/-- a change that begins at a place -/
theorem dst_at {T : Int → Int} {n : Int} (ok : ∀ p : Nat, (p : Int) < n → okD T p) (hn : (dst T n.toNat).1 = 0) {P : Nat} (h0 : (dst T P).1 = 0) (hP : (P : Int) < n) : (dln (T (P : Int)) = 3 ∨ dln (T (P : Int)) = 4) ∧ (P : Int) + dln (T (P : Int)) ≤ n ∧ (dst T (P + (dln (T (P : Int))).toNat)).1 = 0 ∧ (48 ≤ T ((P : Int) + 1) ∧ T ((P : Int) + 1) ≤ 57) ∧ (48 ≤ T ((P : Int) + 2) ∧ T ((P : Int) + 2) ≤ 57) ∧ (dln (T (P : Int)) = 4 → sgn (T ((P : Int) + 3))) := by
  have k0 := ok P hP
  have l0 : dlc T (dst T P) (P : Int) = dln (T (P : Int)) := by unfold dlc; rw [if_pos h0]
  have hb := dln_b (T (P : Int))
  have hne : dln (T (P : Int)) ≠ 0 := by rw [← l0]; exact k0.1
  have d1 : dst T (P + 1) = (1, dln (T (P : Int))) := by
    show ((if (dst T P).1 + 1 = dlc T (dst T P) (P : Int) then 0 else (dst T P).1 + 1), dlc T (dst T P) (P : Int)) = _
    rw [l0, h0, if_neg (by omega)]; rfl
  have hP1 : (P : Int) + 1 < n := by
    apply Int.not_le.mp; intro hle
    have : n.toNat = P + 1 := by omega
    rw [this, d1] at hn
    have : (1 : Int) = 0 := hn
    omega
  have k1 := ok (P + 1) (by omega)
  have l1 : dlc T (dst T (P + 1)) ((P + 1 : Nat) : Int) = dln (T (P : Int)) := by unfold dlc; rw [d1, if_neg (show ¬ (1 : Int) = 0 by decide)]
  have g1 : 48 ≤ T ((P : Int) + 1) ∧ T ((P : Int) + 1) ≤ 57 := by
    have := k1.2
    rw [d1, show ((P + 1 : Nat) : Int) = (P : Int) + 1 by omega] at this
    rcases this with h | ⟨h, _⟩ | ⟨_, h⟩
    · have : (1 : Int) = 0 := h; omega
    · have : (1 : Int) = 3 := h; omega
    · exact h
  have d2 : dst T (P + 2) = (2, dln (T (P : Int))) := by
    show ((if (dst T (P + 1)).1 + 1 = dlc T (dst T (P + 1)) ((P + 1 : Nat) : Int) then 0 else (dst T (P + 1)).1 + 1), dlc T (dst T (P + 1)) ((P + 1 : Nat) : Int)) = _
    rw [l1, d1]
    show ((if (1 : Int) + 1 = dln (T (P : Int)) then 0 else (1 : Int) + 1), dln (T (P : Int))) = _
    rw [if_neg (by omega)]; rfl
  have hP2 : (P : Int) + 2 < n := by
    apply Int.not_le.mp; intro hle
    have : n.toNat = P + 2 := by omega
    rw [this, d2] at hn
    have : (2 : Int) = 0 := hn
    omega
  have k2 := ok (P + 2) (by omega)
  have l2 : dlc T (dst T (P + 2)) ((P + 2 : Nat) : Int) = dln (T (P : Int)) := by unfold dlc; rw [d2, if_neg (show ¬ (2 : Int) = 0 by decide)]
  have g2 : 48 ≤ T ((P : Int) + 2) ∧ T ((P : Int) + 2) ≤ 57 := by
    have := k2.2
    rw [d2, show ((P + 2 : Nat) : Int) = (P : Int) + 2 by omega] at this
    rcases this with h | ⟨h, _⟩ | ⟨_, h⟩
    · have : (2 : Int) = 0 := h; omega
    · have : (2 : Int) = 3 := h; omega
    · exact h
  have d3 : dst T (P + 3) = (if 3 = dln (T (P : Int)) then 0 else 3, dln (T (P : Int))) := by
    show ((if (dst T (P + 2)).1 + 1 = dlc T (dst T (P + 2)) ((P + 2 : Nat) : Int) then 0 else (dst T (P + 2)).1 + 1), dlc T (dst T (P + 2)) ((P + 2 : Nat) : Int)) = _
    rw [l2, d2]; rfl
  rcases hb with h | h | h
  · exact absurd h hne
  · refine ⟨Or.inl h, by omega, ?_, g1, g2, fun h4 => by omega⟩
    rw [h, show ((3 : Int)).toNat = 3 from rfl, d3, h, if_pos rfl]
  · have d3' : dst T (P + 3) = (3, 4) := by rw [d3, h, if_neg (by decide)]
    have hP3 : (P : Int) + 3 < n := by
      apply Int.not_le.mp; intro hle
      have : n.toNat = P + 3 := by omega
      rw [this, d3'] at hn
      have : (3 : Int) = 0 := hn
      omega
    have k3 := ok (P + 3) (by omega)
    have g3 : sgn (T ((P : Int) + 3)) := by
      have := k3.2
      rw [d3', show ((P + 3 : Nat) : Int) = (P : Int) + 3 by omega] at this
      rcases this with h | ⟨_, h⟩ | ⟨h, _⟩
      · have : (3 : Int) = 0 := h; omega
      · exact h
      · exact absurd rfl h
    refine ⟨Or.inr h, by omega, ?_, g1, g2, fun _ => g3⟩
    rw [h, show ((4 : Int)).toNat = 4 from rfl]
    have l3 : dlc T (dst T (P + 3)) ((P + 3 : Nat) : Int) = 4 := by unfold dlc; rw [d3', if_neg (show ¬ (3 : Int) = 0 by decide)]
    show (if (dst T (P + 3)).1 + 1 = dlc T (dst T (P + 3)) ((P + 3 : Nat) : Int) then 0 else (dst T (P + 3)).1 + 1) = 0
    rw [l3, d3']; rfl
/-- the changes one after another -/
def dkd (c : Int) : Int := if c = 114 then 0 else if c = 105 then 1 else 2
def dPs (T : Int → Int) : Nat → Int
  | 0 => 0
  | k + 1 => dPs T k + dln (T (dPs T k))
def dPl (T : Int → Int) (P : Int) : Int := (T (P + 1) - 48) * 10 + T (P + 2) - 48
def dSg (T : Int → Int) (P : Int) : Int := if dkd (T P) = 2 then 0 else T (P + 3) - 97
def dLn (T : Int → Int) (n0 : Int) (w0 : Int → Int) : Nat → Int × (Int → Int)
  | 0 => (n0, w0)
  | k + 1 => (lop (dkd (T (dPs T k))) (dPl T (dPs T k)) (dSg T (dPs T k)) (dLn T n0 w0 k).1 (dLn T n0 w0 k).2).2
def dAn (T : Int → Int) (n0 : Int) (w0 : Int → Int) (k : Nat) : Int := (lop (dkd (T (dPs T k))) (dPl T (dPs T k)) (dSg T (dPs T k)) (dLn T n0 w0 k).1 (dLn T n0 w0 k).2).1
theorem dLn_congr {T : Int → Int} {n0 : Int} {w w' : Int → Int} (h : leq n0 w w') : ∀ k : Nat, (dLn T n0 w k).1 = (dLn T n0 w' k).1 ∧ leq (dLn T n0 w k).1 (dLn T n0 w k).2 (dLn T n0 w' k).2 ∧ dAn T n0 w k = dAn T n0 w' k
  | 0 => ⟨rfl, h, (lop_congr h).1⟩
  | k + 1 => by
    obtain ⟨h1, h2, _⟩ := dLn_congr (T := T) h k
    have e := lop_congr (k := dkd (T (dPs T k))) (p := dPl T (dPs T k)) (s := dSg T (dPs T k)) h2
    rw [h1] at e
    have e1 : (dLn T n0 w (k + 1)).1 = (dLn T n0 w' (k + 1)).1 := by
      show (lop _ _ _ (dLn T n0 w k).1 (dLn T n0 w k).2).2.1 = _
      rw [h1]; exact e.2.1
    have e2 : leq (dLn T n0 w (k + 1)).1 (dLn T n0 w (k + 1)).2 (dLn T n0 w' (k + 1)).2 := by
      show leq (lop _ _ _ (dLn T n0 w k).1 (dLn T n0 w k).2).2.1 (lop _ _ _ (dLn T n0 w k).1 (dLn T n0 w k).2).2.2 _
      rw [h1]; exact e.2.2
    refine ⟨e1, e2, ?_⟩
    show (lop _ _ _ (dLn T n0 w (k + 1)).1 (dLn T n0 w (k + 1)).2).1 = (lop _ _ _ (dLn T n0 w' (k + 1)).1 (dLn T n0 w' (k + 1)).2).1
    rw [← e1]
    exact (lop_congr e2).1
/-- how many are done, and whether one failed -/
def dyr (T : Int → Int) (n n0 : Int) (w0 : Int → Int) (k : Nat) (f : Int) : Prop := (∀ j : Nat, j < k → dPs T j < n ∧ 0 ≤ dAn T n0 w0 j) ∧ ((f = 0 ∧ n ≤ dPs T k) ∨ (f = 1 ∧ dPs T k < n ∧ dAn T n0 w0 k < 0))
theorem dyr.uniq {T : Int → Int} {n n0 : Int} {w0 : Int → Int} {k k' : Nat} {f f' : Int} (h : dyr T n n0 w0 k f) (h' : dyr T n n0 w0 k' f') : k = k' ∧ f = f' := by
  have e : k = k' := by
    rcases Nat.lt_trichotomy k k' with hlt | heq | hgt
    · have := h'.1 k hlt
      rcases h.2 with ⟨_, a⟩ | ⟨_, a, b⟩ <;> omega
    · exact heq
    · have := h.1 k' hgt
      rcases h'.2 with ⟨_, a⟩ | ⟨_, a, b⟩ <;> omega
  subst e
  refine ⟨rfl, ?_⟩
  rcases h.2 with ⟨a, b⟩ | ⟨a, b, c⟩ <;> rcases h'.2 with ⟨a', b'⟩ | ⟨a', b', c'⟩ <;> omega
