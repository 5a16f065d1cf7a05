/-- the model reads a text -/
def rdr (T : Int → Int) (n : Int) (M : pj_M) : Prop := M 203 6 = n ∧ (0 ≤ n ∧ n ≤ 80) ∧ (0 ≤ M 203 7 ∧ M 203 7 ≤ n) ∧ (-1 ≤ M 203 8 ∧ M 203 8 ≤ 80) ∧ ∀ k, 0 ≤ k → k < n → T k = pj_and (M 205 k) 255 ∧ -128 ≤ M 205 k ∧ M 205 k ≤ 127
def hrf (T : Int → Int) (n p : Int) : Int := if p < n then T p else -1
section
variable {M : pj_M} {T : Int → Int} {n : Int}
theorem rdr.tb (h : rdr T n M) {k : Int} (h0 : 0 ≤ k) (h1 : k < n) : 0 ≤ T k ∧ T k ≤ 255 ∧ (T k ≤ 127 → T k = M 205 k) := by
  obtain ⟨a, b1, b2⟩ := h.2.2.2.2 k h0 h1
  rw [an255] at a
  omega
theorem rdr.hb (h : rdr T n M) {p : Int} (h0 : 0 ≤ p) : -1 ≤ hrf T n p ∧ hrf T n p ≤ 255 := by
  unfold hrf
  split
  · have := h.tb h0 (by assumption); omega
  · decide
theorem rdr.at (h : rdr T n M) {p : Int} (hp : 0 ≤ p ∧ p ≤ n) : rdr T n (pj_up M 203 7 p) := by
  obtain ⟨h1, h2, h3, h4, h5⟩ := h
  refine ⟨by rw [pu_nk (by decide)]; exact h1, h2, by rw [pu_eq]; exact hp, by rw [pu_nk (by decide)]; exact h4, fun k k1 k2 => by rw [pu_ne (by decide)]; exact h5 k k1 k2⟩
theorem rdr.wr (h : rdr T n M) {w : Int} (hw : -1 ≤ w ∧ w ≤ 80) : rdr T n (pj_up M 203 8 w) := by
  obtain ⟨h1, h2, h3, h4, h5⟩ := h
  refine ⟨by rw [pu_nk (by decide)]; exact h1, h2, by rw [pu_nk (by decide)]; exact h3, by rw [pu_eq]; exact hw, fun k k1 k2 => by rw [pu_ne (by decide)]; exact h5 k k1 k2⟩
theorem rdr.up (h : rdr T n M) {a : Nat} {k v : Int} (h1 : a ≠ 203) (h2 : a ≠ 205) : rdr T n (pj_up M a k v) := by
  unfold rdr at *
  rw [pu_row (Ne.symm h1), pu_row (Ne.symm h2)]; exact h
theorem rdr.eq {M' : pj_M} (h : rdr T n M) (e6 : M' 203 6 = M 203 6) (e7 : M' 203 7 = M 203 7) (e8 : M' 203 8 = M 203 8) (e5 : M' 205 = M 205) : rdr T n M' := by
  unfold rdr at *
  rw [e6, e7, e8, e5]; exact h
theorem t_here {Q : Int → pj_M → Prop} (h : rdr T n M) (q : Q (hrf T n (M 203 7)) M) : w_X12_here 203 M Q := by
  obtain ⟨h1, h2, h3, h4, h5⟩ := h
  unfold w_X12_here
  rw [h1, rm_1]
  unfold hrf at q
  refine ⟨⟨by omega, by omega⟩, ⟨by omega, by omega⟩, fun hle => by rw [if_neg (by omega)] at q; exact q, fun hlt => ⟨⟨by omega, by omega⟩, ?_⟩⟩
  rw [if_pos (by omega), (h5 _ h3.1 (by omega)).1] at q
  exact q
theorem t_fine {Q : Int → pj_M → Prop} (h : rdr T n M) (q : ∀ r, (r = 0 ∨ r = 1) → (r = 1 ↔ M 203 8 = -1) → Q r M) : w_X12_fine 203 M Q := by
  have h4 := h.2.2.2.1
  unfold w_X12_fine
  exact ⟨⟨by omega, by omega⟩, fun hne => q 0 (Or.inl rfl) ⟨fun h => absurd h (by decide), fun h => absurd h hne⟩, fun he => q 1 (Or.inr rfl) ⟨fun _ => he, fun _ => rfl⟩⟩
theorem t_fault {x : Int} {Q : pj_M → Prop} (h : rdr T n M) (q0 : M 203 8 ≠ -1 → Q M) (q1 : M 203 8 = -1 → Q (pj_up M 203 8 x)) : w_X12_fault 203 x M Q := by
  unfold w_X12_fault
  refine t_fine h (fun r hr hi => ⟨in01 hr, fun h0 => q0 (fun h' => by have := hi.mpr h'; omega), fun hne => ?_⟩)
  rintro M1 rfl
  exact q1 (hi.mp (by omega))
theorem t_oneOf {first many : Int} {Q : Int → pj_M → Prop} (h : rdr T n M) (hf : 0 ≤ first ∧ 1 ≤ many ∧ first + many - 1 ≤ 127) (q0 : M 203 8 ≠ -1 → Q 0 M)
    (q1 : M 203 8 = -1 → M 203 7 < n → first ≤ T (M 203 7) → T (M 203 7) ≤ first + many - 1 → Q (T (M 203 7) - first) (pj_up M 203 7 (M 203 7 + 1)))
    (q2 : M 203 8 = -1 → ¬ (M 203 7 < n ∧ first ≤ T (M 203 7) ∧ T (M 203 7) ≤ first + many - 1) → Q 0 (pj_up M 203 8 (M 203 7))) : w_X12_oneOf 203 first many M Q := by
  have h3 := h.2.2.1
  have hn := h.2.1
  unfold w_X12_oneOf
  refine t_fine h (fun r hr hi => ⟨in01 hr, fun hne => ?_, fun h0 => q0 (fun h' => by have := hi.mpr h'; omega)⟩)
  have he : M 203 8 = -1 := hi.mp (by omega)
  refine t_here h ?_
  have hb := h.hb (p := M 203 7) h3.1
  refine t_in ⟨by omega, by omega⟩ ⟨by omega, by omega⟩ ⟨by omega, by omega⟩ (fun t ht hit => ⟨in01 ht, fun hne2 => ?_, fun h0 => ?_⟩)
  · have hin := hit.mp (by omega)
    unfold hrf at hin
    by_cases hlt : M 203 7 < n
    · rw [if_pos hlt] at hin
      have tb := h.tb h3.1 hlt
      rintro M1 rfl
      rw [rm_1]
      have e7 : pj_up M 203 7 (M 203 7 + 1) 203 7 = M 203 7 + 1 := pu_eq
      rw [e7, show M 203 7 + 1 - 1 = M 203 7 by omega, pu_ne (show (205 : Nat) ≠ 203 by decide), ← tb.2.2 (by omega)]
      exact ⟨⟨by omega, by omega⟩, q1 he hlt hin.1 hin.2⟩
    · rw [if_neg hlt] at hin; omega
  · refine t_fault h (fun hne2 => absurd he hne2) (fun _ => q2 he (fun h' => ?_))
    have : hrf T n (M 203 7) = T (M 203 7) := by unfold hrf; rw [if_pos h'.1]
    have := hit.mpr (by rw [this]; exact h'.2)
    omega
theorem t_wasRight {Q : Int → pj_M → Prop} (h : rdr T n M) (q0 : M 203 8 ≠ -1 → Q 0 M) (q1 : M 203 8 = -1 → M 203 7 = n → Q 1 M) (q2 : M 203 8 = -1 → M 203 7 < n → Q 0 (pj_up M 203 8 (M 203 7))) : w_X12_wasRight 203 M Q := by
  have h3 := h.2.2.1
  have hn := h.2.1
  have h6 := h.1
  unfold w_X12_wasRight
  rw [h6]
  refine ⟨⟨by omega, by omega⟩, ⟨by omega, by omega⟩, fun hle => ?_, fun hlt => ?_⟩
  · unfold w_X12_wasRight_19
    refine t_fine h (fun r hr hi => ⟨hr, ?_⟩)
    by_cases he : M 203 8 = -1
    · rw [hi.mpr he]; exact q1 he (by omega)
    · have : r = 0 := hr.resolve_right (fun h => he (hi.mp h))
      rw [this]; exact q0 he
  · refine t_fault h (fun hne => ?_) (fun he => ?_)
    · unfold w_X12_wasRight_19
      refine t_fine h (fun r hr hi => ⟨hr, ?_⟩)
      have : r = 0 := hr.resolve_right (fun h => hne (hi.mp h))
      rw [this]; exact q0 hne
    · unfold w_X12_wasRight_19
      refine t_fine (h.wr ⟨by omega, by omega⟩) (fun r hr hi => ⟨hr, ?_⟩)
      rw [pu_eq] at hi
      have : r = 0 := hr.resolve_right (fun h => by have := hi.mp h; omega)
      rw [this]; exact q2 he (by omega)
theorem t_begin {Q : pj_M → Prop} (hn : M 203 2 = n) (hb : 0 ≤ n ∧ n ≤ 80) (ht : ∀ k, 0 ≤ k → k < n → T k = pj_and (M 205 k) 255 ∧ -128 ≤ M 205 k ∧ M 205 k ≤ 127) (q : ∀ M', rdr T n M' → M' 203 7 = 0 → M' 203 8 = -1 → M' 203 2 = 0 → (∀ a x, ¬ (a = 203 ∧ (x = 2 ∨ x = 6 ∨ x = 7 ∨ x = 8)) → M' a x = M a x) → Q M') : w_X12_begin 203 M Q := by
  unfold w_X12_begin
  rintro M1 rfl M2 rfl M3 rfl M4 rfl
  rw [hn]
  refine q _ ⟨?_, hb, ?_, ?_, fun k k1 k2 => ?_⟩ ?_ ?_ pu_eq (fun a x ha => ?_)
  · rw [pu_nk (by decide), pu_nk (by decide), pu_nk (by decide), pu_eq]
  · rw [pu_nk (by decide), pu_nk (by decide), pu_eq]; omega
  · rw [pu_nk (by decide), pu_eq]; decide
  · rw [pu_ne (by decide), pu_ne (by decide), pu_ne (by decide), pu_ne (by decide)]; exact ht k k1 k2
  · rw [pu_nk (by decide), pu_nk (by decide), pu_eq]
  · rw [pu_nk (by decide), pu_eq]
  · rw [pu_if, if_neg (by omega), pu_if, if_neg (by omega), pu_if, if_neg (by omega), pu_if, if_neg (by omega)]
end
/-- what a refused text leaves, and what one that is taken leaves -/
def eqT (M M' : pj_M) : Prop := ∀ c x, mpk c x → ¬ (c = 203 ∧ x = 2) → M' c x = M c x
def eqU (M M' : pj_M) : Prop := ∀ c x, mph c x → ¬ (c = 203 ∧ x = 2) → M' c x = M c x
def eqL (M M' : pj_M) : Prop := ∀ a x, a ≠ 208 → ¬ (a = 203 ∧ (x = 7 ∨ x = 8)) → M' a x = M a x
theorem eqL.rf {M : pj_M} : eqL M M := fun _ _ _ _ => rfl
theorem eqL.tr {M M1 M2 : pj_M} (h : eqL M M1) (h2 : eqL M1 M2) : eqL M M2 := fun a x h3 h4 => (h2 a x h3 h4).trans (h a x h3 h4)
theorem eqL.up {M : pj_M} {a : Nat} {k v : Int} (h : a = 208 ∨ (a = 203 ∧ (k = 7 ∨ k = 8))) : eqL M (pj_up M a k v) := fun c x h1 h2 => by
  rw [pu_if, if_neg]
  rintro ⟨rfl, rfl⟩
  omega
theorem eqL.row {M M' : pj_M} (h : eqL M M') {a : Nat} (h1 : a ≠ 208) (h2 : a ≠ 203) : M' a = M a := funext fun x => h a x h1 (fun e => h2 e.1)
section
variable {M : pj_M} {T : Int → Int} {n : Int} {Q : Int → pj_M → Prop}
theorem m_line (sc : msc M) (v : dvl (M 204)) (hu : 0 ≤ M 203 34 ∧ M 203 34 ≤ 10) (hn : M 203 2 = n) (hb : 0 ≤ n ∧ n ≤ 80) (ht : ∀ k, 0 ≤ k → k < n → T k = pj_and (M 205 k) 255 ∧ -128 ≤ M 205 k ∧ M 205 k ≤ 127)
    (q0 : ∀ r, misL T n r → r ≠ -1 → ∀ M', eqT M M' → msc M' → M' 203 2 = 0 → Q (-1 - r) M')
    (q1 : misL T n (-1) → ∀ M', eqU M M' → msc M' → M' 203 2 = 0 → chd (M 204) (M' 204) n (fun x => T x - 97) → dvl (M' 204) → pshm M (M 204) M' → Q n M') : w_X12_line 203 M Q := by
  unfold w_X12_line
  rintro M0 rfl
  refine t_begin (T := T) (n := n) (by rw [pu_nk (by decide)]; exact hn) hb (fun k k1 k2 => by rw [pu_ne (by decide)]; exact ht k k1 k2) (fun M1 r1 h7 h8 h2 f1 => ?_)
  have F1 : ∀ a x, ¬ (a = 203 ∧ (x = 2 ∨ x = 5 ∨ x = 6 ∨ x = 7 ∨ x = 8)) → M1 a x = M a x := fun a x ha => by rw [f1 a x (by omega), pu_if, if_neg (by omega)]
  clear f1
  unfold w_X12_line_11
  refine pj_lp_inv (fun y : Int × pj_M => eqL M1 y.2 ∧ rdr T n y.2 ∧ (0 ≤ y.1 ∧ y.1 ≤ 15) ∧ ((y.2 203 8 = -1 ∧ y.2 203 7 = y.1 ∧ y.1 ≤ 14 ∧ ∀ k, 0 ≤ k → k < y.1 → sgn (T k) ∧ y.2 208 k = T k - 97) ∨ (y.2 203 8 ≠ -1 ∧ misL T n (y.2 203 8)))) (fun y => (n - y.2 203 7).toNat + (if y.2 203 8 = -1 then 1 else 0)) ?_ (0, M1) ⟨eqL.rf, r1, ⟨by simp, by simp⟩, Or.inl ⟨h8, h7, by simp, fun k k1 k2 => by have : k < 0 := k2; omega⟩⟩
  rintro ⟨c, M2⟩ ⟨e2, r2, hc, hor⟩ P hP
  dsimp only at e2 r2 hc hor hP ⊢
  have F2 : ∀ a x, a ≠ 208 → ¬ (a = 203 ∧ (x = 2 ∨ x = 5 ∨ x = 6 ∨ x = 7 ∨ x = 8)) → M2 a x = M a x := fun a x a1 a2 => by rw [e2 a x a1 (by omega)]; exact F1 a x a2
  have k2 : M2 203 2 = 0 := by rw [e2 203 2 (by decide) (by decide)]; exact h2
  have bad : M2 203 8 ≠ -1 → misL T n (M2 203 8) → w_X12_line_63 203 c Q M2 := by
    intro hne hm
    unfold w_X12_line_63
    refine t_wasRight r2 (fun _ => ⟨⟨by decide, by decide⟩, fun h => absurd rfl h, fun _ => ?_⟩) (fun he => absurd he hne) (fun he => absurd he hne)
    refine q0 _ hm hne M2 (fun a x a1 a2 => F2 a x ?_ ?_) (sc.eq (fun a a1 a2 => funext fun x => F2 a x (by omega) (by omega))) k2
    · rintro rfl; revert a1; unfold mpk; omega
    · rintro ⟨rfl, h⟩; revert a1; unfold mpk; omega
  unfold w_X12_line_11b
  refine t_fine r2 (fun r hr hi => ⟨in01 hr, fun h0 => ?_, fun hne => ?_⟩)
  · rcases hor with ⟨a1, _⟩ | ⟨a1, a2⟩
    · have := hi.mpr a1; omega
    · exact bad a1 a2
  · have he : M2 203 8 = -1 := hi.mp (by omega)
    rcases hor with ⟨_, a2, a3, a4⟩ | ⟨a1, _⟩
    · have n2 := r2.1
      rw [n2, a2]
      refine ⟨⟨by omega, by omega⟩, ⟨by omega, by omega⟩, fun hle => ?_, fun hlt => ⟨⟨by omega, by omega⟩, fun hne14 => ?_, fun h14 => ?_⟩⟩
      · have hcn : c = n := by have := r2.2.2.1; omega
        subst hcn
        unfold w_X12_line_63
        refine t_wasRight r2 (fun h => absurd he h) (fun _ _ => ⟨⟨by decide, by decide⟩, fun _ => ?_, fun h => absurd h (by decide)⟩) (fun _ h => by omega)
        have g4 : M2 204 = M 204 := funext fun x => F2 204 x (by decide) (by omega)
        have g34 : M2 203 34 = M 203 34 := F2 203 34 (by decide) (by decide)
        have g25 : M2 225 = M 225 := funext fun x => F2 225 x (by decide) (by omega)
        refine t_change (by rw [g34]; exact hu) (fun M3 e3 p3 => ?_)
        have g34' : M3 204 = M 204 := (e3.row (by decide) (by decide) (by decide)).trans g4
        have w3 : M3 208 = M2 208 := e3.row (by decide) (by decide) (by decide)
        refine t_setLine (by rw [g34']; exact v) ⟨hc.1, a3⟩ (fun x x1 x2 => by rw [w3, (a4 x x1 x2).2]; have := (a4 x x1 x2).1; unfold sgn at this; omega) (fun M4 f4 c4 v4 => ?_)
        rw [g34'] at c4
        refine q1 (Or.inl ⟨rfl, a3, fun p p1 p2 => (a4 p p1 p2).1⟩) M4 (fun a x a1 a2 => ?_) ?_ ?_ ⟨c4.1, fun x x1 x2 => ?_, c4.2.2⟩ v4 ?_
        · have ha : a ≠ 204 := by rintro rfl; revert a1; unfold mph; omega
          rw [f4 a ha, e3 a x (by rintro rfl; revert a1; unfold mph; omega) (by rintro rfl; revert a1; unfold mph; omega) (by rintro ⟨rfl, rfl⟩; revert a1; unfold mph; omega)]
          exact F2 a x (by rintro rfl; revert a1; unfold mph; omega) (by rintro ⟨rfl, h⟩; revert a1; unfold mph; omega)
        · exact sc.eq (fun a a1 a2 => by rw [f4 a (by omega), e3.row (by omega) (by omega) (by omega)]; exact funext fun x => F2 a x (by omega) (by omega))
        · rw [f4 203 (by decide), e3 203 2 (by decide) (by decide) (by decide)]; exact k2
        · rw [c4.2.1 x x1 x2, w3]; exact (a4 x x1 x2).2
        · unfold pshm at p3 ⊢
          rw [f4 203 (by decide), f4 225 (by decide)]
          rw [g34, g4, g25] at p3
          exact p3
      · unfold w_X12_line_43
        refine t_oneOf r2 ⟨by decide, by decide, by decide⟩ (fun h => absurd he h) (fun _ hlt2 hf1 hf2 => ⟨⟨by omega, by omega⟩, ?_⟩) (fun _ hno => ⟨⟨by omega, by omega⟩, ?_⟩)
        · rw [a2] at hf1 hf2 hlt2 ⊢
          rintro M4 rfl
          rw [rm_10]
          refine hP (c + 1, _) ⟨(e2.tr (eqL.up (by omega))).tr (eqL.up (by omega)), (r2.at ⟨by omega, by omega⟩).up (by decide) (by decide), ⟨by show 0 ≤ c + 1; omega, by show c + 1 ≤ 15; omega⟩, Or.inl ⟨?_, ?_, by show c + 1 ≤ 14; omega, fun k k1 k2 => ?_⟩⟩ ?_
          · show pj_up (pj_up M2 203 7 (c + 1)) 208 c (T c - 97) 203 8 = -1
            rw [pu_ne (by decide), pu_nk (by decide)]; exact he
          · show pj_up (pj_up M2 203 7 (c + 1)) 208 c (T c - 97) 203 7 = c + 1
            rw [pu_ne (by decide), pu_eq]
          · have k2' : k < c + 1 := k2
            show sgn (T k) ∧ pj_up (pj_up M2 203 7 (c + 1)) 208 c (T c - 97) 208 k = T k - 97
            by_cases e : k = c
            · rw [e, pu_eq]; exact ⟨⟨by omega, by omega⟩, rfl⟩
            · rw [pu_nk e, pu_ne (by decide)]; exact a4 k k1 (by omega)
          · show (n - pj_up (pj_up M2 203 7 (c + 1)) 208 c (T c - 97) 203 7).toNat + (if pj_up (pj_up M2 203 7 (c + 1)) 208 c (T c - 97) 203 8 = -1 then 1 else 0) < (n - M2 203 7).toNat + (if M2 203 8 = -1 then 1 else 0)
            rw [pu_ne (show (203 : Nat) ≠ 208 by decide), pu_ne (show (203 : Nat) ≠ 208 by decide), pu_eq, pu_nk (show (8 : Int) ≠ 7 by decide), if_pos he, a2]
            omega
        · rw [a2] at hno ⊢
          rintro M4 rfl
          rw [rm_10]
          have hm : misL T n c := Or.inr ⟨hc.1, by omega, Or.inr (fun hs => hno ⟨by omega, hs.1, by have := hs.2; omega⟩), a3, fun p p1 p2 => (a4 p p1 p2).1⟩
          have e8 : pj_up (pj_up M2 203 8 c) 208 c 0 203 8 = c := by rw [pu_ne (by decide), pu_eq]
          refine hP (c + 1, _) ⟨(e2.tr (eqL.up (by omega))).tr (eqL.up (by omega)), (r2.wr ⟨by omega, by omega⟩).up (by decide) (by decide), ⟨by show 0 ≤ c + 1; omega, by show c + 1 ≤ 15; omega⟩, Or.inr ⟨?_, ?_⟩⟩ ?_
          · show pj_up (pj_up M2 203 8 c) 208 c 0 203 8 ≠ -1
            rw [e8]; omega
          · show misL T n (pj_up (pj_up M2 203 8 c) 208 c 0 203 8)
            rw [e8]; exact hm
          · show (n - pj_up (pj_up M2 203 8 c) 208 c 0 203 7).toNat + (if pj_up (pj_up M2 203 8 c) 208 c 0 203 8 = -1 then 1 else 0) < (n - M2 203 7).toNat + (if M2 203 8 = -1 then 1 else 0)
            rw [e8, if_neg (by omega), if_pos he, pu_ne (by decide), pu_nk (by decide)]
            omega
      · subst h14
        refine t_fault r2 (fun h => absurd he h) (fun _ => ?_)
        unfold w_X12_line_43
        have r3 := r2.wr (w := 14) ⟨by decide, by decide⟩
        have e3 : pj_up M2 203 8 14 203 8 = 14 := pu_eq
        refine t_oneOf r3 ⟨by decide, by decide, by decide⟩ (fun _ => ⟨⟨by decide, by decide⟩, ?_⟩) (fun h => by rw [e3] at h; omega) (fun h => by rw [e3] at h; omega)
        rintro M4 rfl
        rw [rm_10]
        have hm : misL T n 14 := Or.inr ⟨by decide, by omega, Or.inl (by decide), by decide, fun p p1 p2 => (a4 p p1 p2).1⟩
        have e8 : pj_up (pj_up M2 203 8 14) 208 14 0 203 8 = 14 := by rw [pu_ne (by decide), pu_eq]
        refine hP (14 + 1, _) ⟨(e2.tr (eqL.up (by omega))).tr (eqL.up (by omega)), r3.up (by decide) (by decide), ⟨by simp, by simp⟩, Or.inr ⟨?_, ?_⟩⟩ ?_
        · show pj_up (pj_up M2 203 8 14) 208 14 0 203 8 ≠ -1
          rw [e8]; decide
        · show misL T n (pj_up (pj_up M2 203 8 14) 208 14 0 203 8)
          rw [e8]; exact hm
        · show (n - pj_up (pj_up M2 203 8 14) 208 14 0 203 7).toNat + (if pj_up (pj_up M2 203 8 14) 208 14 0 203 8 = -1 then 1 else 0) < (n - M2 203 7).toNat + (if M2 203 8 = -1 then 1 else 0)
          rw [e8, if_neg (by decide), if_pos he, pu_ne (by decide), pu_nk (by decide)]
          omega
    · exact absurd he a1
end
