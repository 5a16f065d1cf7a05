/-- a line is changed: kind 0 becomes, 1 comes, 2 goes: the answer, how long, which -/
def insf (w : Int → Int) (p s : Int) : Int → Int := fun x => if x < p - 1 then w x else if x = p - 1 then s else w (x - 1)
def delf (w : Int → Int) (p : Int) : Int → Int := fun x => if x < p - 1 then w x else w (x + 1)
def lop (k p s n : Int) (w : Int → Int) : Int × Int × (Int → Int) :=
  if k = 0 then (if 1 ≤ p ∧ p ≤ n ∧ 0 ≤ s ∧ s < 8 then (if w (p - 1) = s then (-2, n, w) else (w (p - 1), n, fup w (p - 1) s)) else (-1, n, w))
  else if k = 1 then (if 1 ≤ p ∧ p ≤ n + 1 ∧ 0 ≤ s ∧ s < 8 then (if 14 ≤ n then (-3, n, w) else (n + 1, n + 1, insf w p s)) else (-1, n, w))
  else (if 1 ≤ p ∧ p ≤ n then (n - 1, n - 1, delf w p) else (-1, n, w))
def leq (n : Int) (w w' : Int → Int) : Prop := ∀ x, 0 ≤ x → x < n → w x = w' x
theorem lop_congr {k p s n : Int} {w w' : Int → Int} (h : leq n w w') : (lop k p s n w).1 = (lop k p s n w').1 ∧ (lop k p s n w).2.1 = (lop k p s n w').2.1 ∧ leq (lop k p s n w).2.1 (lop k p s n w).2.2 (lop k p s n w').2.2 := by
  unfold lop
  by_cases h0 : k = 0
  · rw [if_pos h0, if_pos h0]
    by_cases h1 : 1 ≤ p ∧ p ≤ n ∧ 0 ≤ s ∧ s < 8
    · rw [if_pos h1, if_pos h1, ← h (p - 1) (by omega) (by omega)]
      by_cases h2 : w (p - 1) = s
      · rw [if_pos h2, if_pos h2]; exact ⟨rfl, rfl, h⟩
      · rw [if_neg h2, if_neg h2]
        refine ⟨rfl, rfl, fun x x1 x2 => ?_⟩
        show fup w (p - 1) s x = fup w' (p - 1) s x
        unfold fup
        split
        · rfl
        · exact h x x1 x2
    · rw [if_neg h1, if_neg h1]; exact ⟨rfl, rfl, h⟩
  · rw [if_neg h0, if_neg h0]
    by_cases hk : k = 1
    · rw [if_pos hk, if_pos hk]
      by_cases h1 : 1 ≤ p ∧ p ≤ n + 1 ∧ 0 ≤ s ∧ s < 8
      · rw [if_pos h1, if_pos h1]
        by_cases h2 : 14 ≤ n
        · rw [if_pos h2, if_pos h2]; exact ⟨rfl, rfl, h⟩
        · rw [if_neg h2, if_neg h2]
          refine ⟨rfl, rfl, fun x x1 x2 => ?_⟩
          have x2' : x < n + 1 := x2
          show insf w p s x = insf w' p s x
          unfold insf
          by_cases a1 : x < p - 1
          · rw [if_pos a1, if_pos a1]; exact h x x1 (by omega)
          · rw [if_neg a1, if_neg a1]
            by_cases a2 : x = p - 1
            · rw [if_pos a2, if_pos a2]
            · rw [if_neg a2, if_neg a2]; exact h (x - 1) (by omega) (by omega)
      · rw [if_neg h1, if_neg h1]; exact ⟨rfl, rfl, h⟩
    · rw [if_neg hk, if_neg hk]
      by_cases h1 : 1 ≤ p ∧ p ≤ n
      · rw [if_pos h1, if_pos h1]
        refine ⟨rfl, rfl, fun x x1 x2 => ?_⟩
        have x2' : x < n - 1 := x2
        show delf w p x = delf w' p x
        unfold delf
        by_cases a1 : x < p - 1
        · rw [if_pos a1, if_pos a1]; exact h x x1 (by omega)
        · rw [if_neg a1, if_neg a1]; exact h (x + 1) (by omega) (by omega)
      · rw [if_neg h1, if_neg h1]; exact ⟨rfl, rfl, h⟩
/-- the class's line -/
def eql (l : Nat) (M M' : pj_M) : Prop := ∀ a x, ¬ (l ≤ a ∧ a ≤ l + 1) → M' a x = M a x
theorem eql.rf {l : Nat} {M : pj_M} : eql l M M := fun _ _ _ => rfl
theorem eql.tr {l : Nat} {M M1 M2 : pj_M} (h : eql l M M1) (h2 : eql l M1 M2) : eql l M M2 := fun a x h3 => (h2 a x h3).trans (h a x h3)
theorem eql.up {l a : Nat} {M : pj_M} {k v : Int} (h : l ≤ a ∧ a ≤ l + 1) : eql l M (pj_up M a k v) := fun b x hb => pu_ne (fun e => hb (e ▸ h))
theorem eql.row {l a : Nat} {M M' : pj_M} (h : eql l M M') (h2 : a < l ∨ l + 1 < a) : M' a = M a := funext fun x => h a x (by omega)
/-- what a change has made of a class's line -/
def lres (M : pj_M) (l : Nat) (k p s : Int) (r : Int) (M' : pj_M) : Prop := eql l M M' ∧ lvl M' l ∧ r = (lop k p s (M l 1) (M (l + 1))).1 ∧ M' l 1 = (lop k p s (M l 1) (M (l + 1))).2.1 ∧ leq (M' l 1) (M' (l + 1)) (lop k p s (M l 1) (M (l + 1))).2.2
theorem t_hasL {M : pj_M} {l : Nat} {p : Int} {Q : Int → pj_M → Prop} (vl : lvl M l) (hp : pj_in p) (q : ∀ r, (r = 0 ∨ r = 1) → (r = 1 ↔ 1 ≤ p ∧ p ≤ M l 1) → Q r M) : w_X7_has l p M Q := by
  have hn := vl.1
  exact ⟨hp, fun h => q 0 (Or.inl rfl) (by omega), fun h => ⟨hp, ⟨by omega, by omega⟩, fun h' => q 0 (Or.inl rfl) (by omega), fun h' => q 1 (Or.inr rfl) (by omega)⟩⟩
theorem t_replaceAt {M : pj_M} {l : Nat} {p s : Int} {Q : Int → pj_M → Prop} (hl : lcell l) (vl : lvl M l) (hp : pj_in p) (hs : pj_in s) (q : ∀ r M', lres M l 0 p s r M' → Q r M') : w_X7_replaceAt l p s M Q := by
  have hn := vl.1
  have no : ¬ (1 ≤ p ∧ p ≤ M l 1 ∧ 0 ≤ s ∧ s < 8) → Q (-1) M := by
    intro h
    have e : lop 0 p s (M l 1) (M (l + 1)) = (-1, M l 1, M (l + 1)) := by unfold lop; rw [if_pos rfl, if_neg h]
    exact q (-1) M ⟨eql.rf, vl, by rw [e], by rw [e], by rw [e]; exact fun _ _ _ => rfl⟩
  unfold w_X7_replaceAt
  refine t_hasL vl hp (fun r hr hiff => ⟨by rcases hr with h | h <;> rw [h] <;> exact ⟨by decide, by decide⟩, fun h => no (by omega), fun h => ⟨hs, fun h1 => no (by omega), fun h1 => ⟨hs, fun h2 => ⟨⟨by omega, by omega⟩, ?_⟩, fun h2 => no (by omega)⟩⟩⟩)
  have hpp : 1 ≤ p ∧ p ≤ M l 1 := hiff.mp (by omega)
  rw [hl]
  rintro z rfl
  have hz := vl.2 (p - 1)
  have e1 : lop 0 p s (M l 1) (M (l + 1)) = if M (l + 1) (p - 1) = s then (-2, M l 1, M (l + 1)) else (M (l + 1) (p - 1), M l 1, fup (M (l + 1)) (p - 1) s) := by unfold lop; rw [if_pos rfl, if_pos (by omega)]
  refine ⟨⟨by omega, by omega⟩, hs, fun hne => ⟨⟨by omega, by omega⟩, ?_⟩, fun heq => ?_⟩
  · rintro M1 rfl
    rw [if_neg hne] at e1
    refine q _ _ ⟨eql.up ⟨by omega, by omega⟩, ⟨by rw [pu_ne (by omega)]; exact hn, fun x => ?_⟩, by rw [e1], by rw [e1, pu_ne (by omega)], fun x x1 x2 => ?_⟩
    · rw [pu_if]; split
      · omega
      · exact vl.2 x
    · rw [e1]
      show pj_up M (l + 1) (p - 1) s (l + 1) x = fup (M (l + 1)) (p - 1) s x
      unfold fup
      rw [pu_if]
      by_cases e : x = p - 1
      · rw [if_pos e, if_pos ⟨rfl, e⟩]
      · rw [if_neg e, if_neg (fun h => e h.2)]
  · rw [if_pos heq] at e1
    exact q (-2) M ⟨eql.rf, vl, by rw [e1], by rw [e1], by rw [e1]; exact fun _ _ _ => rfl⟩
theorem t_insertAt {M : pj_M} {l : Nat} {p s : Int} {Q : Int → pj_M → Prop} (hl : lcell l) (vl : lvl M l) (hp : pj_in p) (hs : pj_in s) (q : ∀ r M', lres M l 1 p s r M' → Q r M') : w_X7_insertAt l p s M Q := by
  have hn := vl.1
  have no : ¬ (1 ≤ p ∧ p ≤ M l 1 + 1 ∧ 0 ≤ s ∧ s < 8) → Q (-1) M := by
    intro h
    have e : lop 1 p s (M l 1) (M (l + 1)) = (-1, M l 1, M (l + 1)) := by unfold lop; rw [if_neg (by decide), if_pos rfl, if_neg h]
    exact q (-1) M ⟨eql.rf, vl, by rw [e], by rw [e], by rw [e]; exact fun _ _ _ => rfl⟩
  unfold w_X7_insertAt
  refine ⟨hp, fun h => no (by omega), fun h => ⟨hp, ⟨by omega, by omega⟩, fun h1 => no (by omega), fun h1 => ⟨hs, fun h2 => no (by omega), fun h2 => ⟨hs, fun h3 => ⟨⟨by omega, by omega⟩, fun h4 => ?_, fun h4 => ?_⟩, fun h3 => no (by omega)⟩⟩⟩⟩
  · rintro z rfl
    have e1 : lop 1 p s (M l 1) (M (l + 1)) = (M l 1 + 1, M l 1 + 1, insf (M (l + 1)) p s) := by unfold lop; rw [if_neg (by decide), if_pos rfl, if_pos (by omega), if_neg (by omega)]
    unfold w_X7_insertAt_44
    refine pj_lp_inv (fun y : Int × pj_M => (p - 1 ≤ y.1 ∧ y.1 ≤ M l 1) ∧ eql l M y.2 ∧ y.2 l = M l ∧ (∀ x, 0 ≤ y.2 (l + 1) x ∧ y.2 (l + 1) x ≤ 7) ∧ (∀ x, 0 ≤ x → x ≤ y.1 → y.2 (l + 1) x = M (l + 1) x) ∧ ∀ x, y.1 < x → x ≤ M l 1 → y.2 (l + 1) x = M (l + 1) (x - 1)) (fun y => (y.1 + 1).toNat) ?_ (M l 1, M) ⟨⟨by show p - 1 ≤ M l 1; omega, Int.le_refl _⟩, eql.rf, rfl, vl.2, fun _ _ _ => rfl, fun x x1 x2 => by have : M l 1 < x := x1; omega⟩
    rintro ⟨i, M1⟩ ⟨hi, e2, el, b2, lo, hi2⟩ P hP
    dsimp only at hi e2 el b2 lo hi2 hP ⊢
    unfold w_X7_insertAt_44b
    rw [hl]
    refine ⟨⟨by omega, by omega⟩, hp, fun hend => ⟨⟨by omega, by omega⟩, ?_⟩, fun hgo => ⟨⟨by omega, by omega⟩, ⟨by omega, by omega⟩, ?_⟩⟩
    · rintro M2 rfl M3 rfl
      rw [pu_eq, pu_ne (show l ≠ l + 1 by omega), el]
      refine q _ _ ⟨(e2.tr (eql.up ⟨by omega, by omega⟩)).tr (eql.up ⟨by omega, by omega⟩), ⟨by rw [pu_eq]; omega, fun x => ?_⟩, by rw [e1], by rw [e1, pu_eq], fun x x1 x2 => ?_⟩
      · rw [pu_ne (by omega), pu_if]; split
        · omega
        · exact b2 x
      · rw [pu_eq] at x2
        rw [e1, pu_ne (show l + 1 ≠ l by omega)]
        show pj_up M1 (l + 1) (p - 1) s (l + 1) x = insf (M (l + 1)) p s x
        unfold insf
        rw [pu_if]
        by_cases a1 : x < p - 1
        · rw [if_pos a1, if_neg (fun h => by omega)]; exact lo x x1 (by omega)
        · rw [if_neg a1]
          by_cases a2 : x = p - 1
          · rw [if_pos a2, if_pos ⟨rfl, a2⟩]
          · rw [if_neg a2, if_neg (fun h => a2 h.2)]; exact hi2 x (by omega) (by omega)
    · rintro M2 rfl
      refine hP (i + (-1), _) ⟨⟨by show p - 1 ≤ i + (-1); omega, by show i + (-1) ≤ M l 1; omega⟩, e2.tr (eql.up ⟨by omega, by omega⟩), ?_, fun x => ?_, fun x x1 x2 => ?_, fun x x1 x2 => ?_⟩ (by show (i + (-1) + 1).toNat < (i + 1).toNat; omega)
      · show pj_up M1 (l + 1) i _ l = _
        rw [pu_row (by omega), el]
      · show 0 ≤ pj_up M1 (l + 1) i _ (l + 1) x ∧ pj_up M1 (l + 1) i _ (l + 1) x ≤ 7
        rw [pu_if]; split
        · exact b2 _
        · exact b2 x
      · have x2' : x ≤ i + (-1) := x2
        show pj_up M1 (l + 1) i _ (l + 1) x = _
        rw [pu_nk (by omega)]; exact lo x x1 (by omega)
      · have x1' : i + (-1) < x := x1
        show pj_up M1 (l + 1) i (M1 (l + 1) (i - 1)) (l + 1) x = _
        by_cases e : x = i
        · rw [e, pu_eq]; exact lo (i - 1) (by omega) (by omega)
        · rw [pu_nk e]; exact hi2 x (by omega) x2
  · have e : lop 1 p s (M l 1) (M (l + 1)) = (-3, M l 1, M (l + 1)) := by unfold lop; rw [if_neg (by decide), if_pos rfl, if_pos (by omega), if_pos (by omega)]
    exact q (-3) M ⟨eql.rf, vl, by rw [e], by rw [e], by rw [e]; exact fun _ _ _ => rfl⟩
theorem t_removeAt {M : pj_M} {l : Nat} {p : Int} {Q : Int → pj_M → Prop} (hl : lcell l) (vl : lvl M l) (hp : pj_in p) (q : ∀ r M', lres M l 2 p 0 r M' → Q r M') : w_X7_removeAt l p M Q := by
  have hn := vl.1
  unfold w_X7_removeAt
  refine t_hasL vl hp (fun r hr hiff => ⟨by rcases hr with h | h <;> rw [h] <;> exact ⟨by decide, by decide⟩, fun h => ?_, fun h => ?_⟩)
  · have hpp : 1 ≤ p ∧ p ≤ M l 1 := hiff.mp (by omega)
    have e1 : lop 2 p 0 (M l 1) (M (l + 1)) = (M l 1 - 1, M l 1 - 1, delf (M (l + 1)) p) := by unfold lop; rw [if_neg (by decide), if_neg (by decide), if_pos hpp]
    unfold w_X7_removeAt_12
    refine pj_lp_inv (fun y : Int × pj_M => (p ≤ y.1 ∧ y.1 ≤ M l 1) ∧ eql l M y.2 ∧ y.2 l = M l ∧ (∀ x, 0 ≤ y.2 (l + 1) x ∧ y.2 (l + 1) x ≤ 7) ∧ (∀ x, 0 ≤ x → x < p - 1 → y.2 (l + 1) x = M (l + 1) x) ∧ (∀ x, p - 1 ≤ x → x < y.1 - 1 → y.2 (l + 1) x = M (l + 1) (x + 1)) ∧ ∀ x, y.1 ≤ x → y.2 (l + 1) x = M (l + 1) x) (fun y => (M l 1 - y.1).toNat) ?_ (p, M) ⟨⟨Int.le_refl _, hpp.2⟩, eql.rf, rfl, vl.2, fun _ _ _ => rfl, fun x x1 x2 => by have : x < p - 1 := x2; omega, fun _ _ => rfl⟩
    rintro ⟨i, M1⟩ ⟨hi, e2, el, b2, lo, mid, up⟩ P hP
    dsimp only at hi e2 el b2 lo mid up hP ⊢
    unfold w_X7_removeAt_12b
    rw [hl, el]
    refine ⟨⟨by omega, by omega⟩, ⟨by omega, by omega⟩, fun hend => ?_, fun hgo => ⟨⟨by omega, by omega⟩, ⟨by omega, by omega⟩, ?_⟩⟩
    · rintro M2 rfl
      rw [pu_eq]
      refine q _ _ ⟨e2.tr (eql.up ⟨by omega, by omega⟩), ⟨by rw [pu_eq]; omega, fun x => by rw [pu_ne (by omega)]; exact b2 x⟩, by rw [e1], by rw [e1, pu_eq], fun x x1 x2 => ?_⟩
      rw [pu_eq] at x2
      rw [e1, pu_ne (show l + 1 ≠ l by omega)]
      show M1 (l + 1) x = delf (M (l + 1)) p x
      unfold delf
      by_cases a1 : x < p - 1
      · rw [if_pos a1]; exact lo x x1 a1
      · rw [if_neg a1]; exact mid x (by omega) (by omega)
    · rintro M2 rfl
      refine hP (i + 1, _) ⟨⟨by show p ≤ i + 1; omega, by show i + 1 ≤ M l 1; omega⟩, e2.tr (eql.up ⟨by omega, by omega⟩), ?_, fun x => ?_, fun x x1 x2 => ?_, fun x x1 x2 => ?_, fun x x1 => ?_⟩ (by show (M l 1 - (i + 1)).toNat < (M l 1 - i).toNat; omega)
      · show pj_up M1 (l + 1) (i - 1) _ l = _
        rw [pu_row (by omega), el]
      · show 0 ≤ pj_up M1 (l + 1) (i - 1) _ (l + 1) x ∧ pj_up M1 (l + 1) (i - 1) _ (l + 1) x ≤ 7
        rw [pu_if]; split
        · exact b2 _
        · exact b2 x
      · show pj_up M1 (l + 1) (i - 1) _ (l + 1) x = _
        rw [pu_nk (by omega)]; exact lo x x1 x2
      · have x2' : x < i + 1 - 1 := x2
        show pj_up M1 (l + 1) (i - 1) (M1 (l + 1) i) (l + 1) x = _
        by_cases e : x = i - 1
        · rw [e, pu_eq, up i (Int.le_refl _), show i - 1 + 1 = i by omega]
        · rw [pu_nk e]; exact mid x x1 (by omega)
      · have x1' : i + 1 ≤ x := x1
        show pj_up M1 (l + 1) (i - 1) _ (l + 1) x = _
        rw [pu_nk (by omega)]; exact up x (by omega)
  · have e : lop 2 p 0 (M l 1) (M (l + 1)) = (-1, M l 1, M (l + 1)) := by unfold lop; rw [if_neg (by decide), if_neg (by decide), if_neg (fun h' => by have := hiff.mpr h'; omega)]
    exact q (-1) M ⟨eql.rf, vl, by rw [e], by rw [e], by rw [e]; exact fun _ _ _ => rfl⟩
theorem t_changeOf {M : pj_M} {l : Nat} {k p s : Int} {Q : Int → pj_M → Prop} (hl : lcell l) (vl : lvl M l) (hk : 0 ≤ k ∧ k ≤ 2) (hp : pj_in p) (hs : pj_in s) (h2 : k = 2 → s = 0) (q : ∀ r M', lres M l k p s r M' → Q r M') : w_X7_changeOf l k p s M Q := by
  refine ⟨⟨by omega, by omega⟩, fun h0 => ⟨⟨by omega, by omega⟩, fun h1 => t_removeAt hl vl hp (fun r M' h => q r M' ?_), fun h1 => t_insertAt hl vl hp hs (fun r M' h => q r M' (by rw [h1]; exact h))⟩, fun h0 => t_replaceAt hl vl hp hs (fun r M' h => q r M' (by rw [h0]; exact h))⟩
  have : k = 2 := by omega
  rw [h2 this, this]; exact h
theorem t_copyFromL {M : pj_M} {l l' : Nat} {Q : pj_M → Prop} (hl : lcell l) (hl' : lcell l') (hd : l + 1 < l' ∨ l' + 1 < l) (b : ∀ x, 0 ≤ M (l + 1) x ∧ M (l + 1) x ≤ 7) (vl : lvl M l') (q : ∀ M', eql l M M' → lvl M' l → M' l 1 = M l' 1 → leq (M l' 1) (M' (l + 1)) (M (l' + 1)) → Q M') : w_X7_copyFrom l l' M Q := by
  have hn := vl.1
  unfold w_X7_copyFrom
  rw [hl, hl']
  rintro M1 rfl M2 rfl
  have h1 : pj_cp M (l' + 1) (l + 1) 14 l' 1 = M l' 1 := by rw [cp_if, if_neg (by omega)]
  rw [h1]
  refine q _ (fun a x ha => ?_) ⟨by rw [pu_eq]; exact hn, fun x => ?_⟩ pu_eq (fun x x1 x2 => ?_)
  · rw [pu_ne (by omega), cp_if, if_neg (by omega)]
  · rw [pu_ne (by omega), cp_if]; split
    · exact vl.2 x
    · exact b x
  · rw [pu_ne (by omega), cp_if, if_pos ⟨rfl, x1, by omega⟩]
