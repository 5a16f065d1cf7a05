/-- only the parts have changed -/
def eqv (c : Nat) (M M' : pj_M) : Prop := ∀ a x, a ≠ c + 17 → a ≠ c + 18 → a ≠ c + 19 → ¬ (a = c ∧ x = 12) → M' a x = M a x
theorem eqv.rf {c : Nat} {M : pj_M} : eqv c M M := fun _ _ _ _ _ _ => rfl
theorem eqv.tr {c : Nat} {M M1 M2 : pj_M} (h : eqv c M M1) (h2 : eqv c M1 M2) : eqv c M M2 := fun a x h3 h4 h5 h6 => (h2 a x h3 h4 h5 h6).trans (h a x h3 h4 h5 h6)
theorem eqv.up {c a : Nat} {M : pj_M} {k v : Int} (h : a = c + 17 ∨ a = c + 18 ∨ a = c + 19) : eqv c M (pj_up M a k v) := fun b x h1 h2 h3 _ => pu_ne (by omega)
theorem eqv.row {c a : Nat} {M M' : pj_M} (h : eqv c M M') (h1 : a ≠ c + 17) (h2 : a ≠ c + 18) (h3 : a ≠ c + 19) (h4 : a ≠ c) : M' a = M a := funext fun x => h a x h1 h2 h3 (fun e => h4 e.1)
theorem eqv.c {c : Nat} {M M' : pj_M} {x : Int} (h : eqv c M M') (hx : x ≠ 12) : M' c x = M c x := h c x (by omega) (by omega) (by omega) (fun e => hx e.2)
theorem cok.eqv {c : Nat} {M M' : pj_M} (h : cok M c) (e : eqv c M M') : cok M' c := by
  unfold cok at *
  rw [e.c (show (6 : Int) ≠ 12 by decide), e.row (show c + 10 ≠ c + 17 by omega) (by omega) (by omega) (by omega), e.row (show c + 11 ≠ c + 17 by omega) (by omega) (by omega) (by omega), e.row (show c + 12 ≠ c + 17 by omega) (by omega) (by omega) (by omega), e.row (show c + 13 ≠ c + 17 by omega) (by omega) (by omega) (by omega)]
  exact h
theorem ctk.eqv {c : Nat} {M M' : pj_M} (h : ctk M c) (e : eqv c M M') : ctk M' c := by
  unfold ctk bs18 at *
  rw [e.c (show (11 : Int) ≠ 12 by decide), e.row (show c + 14 ≠ c + 17 by omega) (by omega) (by omega) (by omega), e.row (show c + 15 ≠ c + 17 by omega) (by omega) (by omega) (by omega)]
  exact h
theorem gc.eqv {c : Nat} {M M' : pj_M} (e : eqv c M M') : gc M' c = gc M c := by
  unfold gc
  rw [e.c (show (6 : Int) ≠ 12 by decide), e.row (show c + 10 ≠ c + 17 by omega) (by omega) (by omega) (by omega), e.row (show c + 11 ≠ c + 17 by omega) (by omega) (by omega) (by omega), e.row (show c + 12 ≠ c + 17 by omega) (by omega) (by omega) (by omega)]
theorem tkw.eqv {c : Nat} {M M' : pj_M} (e : eqv c M M') (p q : Nat) : tkw M' c p q = tkw M c p q := by
  unfold tkw; rw [e.row (show c + 14 ≠ c + 17 by omega) (by omega) (by omega) (by omega)]
theorem cx.eqv {c q : Nat} {M M' : pj_M} (h : cx M c q) (e : eqv c M M') : cx M' c q := by
  intro x p hx
  rw [gc.eqv e, tkw.eqv e, e.row (show c + 16 ≠ c + 17 by omega) (by omega) (by omega) (by omega)]
  exact h x p hx
/-- the parts of a column are told just so -/
def cpx (M : pj_M) (c q : Nat) : Prop := ∀ (x p : Nat), x < 7 → (tbit (M (c + 17) ((x : Int) * 18 + (q : Int))) p ↔ p ≤ q ∧ gr_pf (gc M c) 10 x (tkw M c p q)) ∧ (p ≤ q → ((M (c + 18) ((x : Int) * 18 + (q : Int)) ≤ (p : Int) ↔ gr_sf (gc M c) 10 x (tkw M c p q)) ∧ (M (c + 19) ((x : Int) * 18 + (q : Int)) ≤ (p : Int) ↔ gr_if (gc M c) 10 x (tkw M c p q))))
/-- an alternative adds nothing more to the parts -/
def ccp (M : pj_M) (c q : Nat) (k : Int) : Prop := (∀ p, cO M c k (M (c + 11) k) q (M (c + 11) k).toNat p → tbit (M (c + 17) (M (c + 10) k * 18 + (q : Int))) p) ∧ (∀ p : Nat, p < 18 → cE M c k (M (c + 11) k) q (M (c + 11) k).toNat p → M (c + 18) (M (c + 10) k * 18 + (q : Int)) ≤ (p : Int)) ∧ (∀ p : Nat, p < 18 → cI M c k (M (c + 11) k) q (M (c + 11) k).toNat p → M (c + 19) (M (c + 10) k * 18 + (q : Int)) ≤ (p : Int))
theorem cs_rows {M M' : pj_M} {c : Nat} (h15 : M' (c + 15) = M (c + 15)) (h16 : M' (c + 16) = M (c + 16)) : cs M' c = cs M c := by
  funext s p q; unfold cs; rw [h15, h16]
theorem cR_rows {M M' : pj_M} {c : Nat} {k z : Int} {E0 : Nat → Prop} (h12 : M' (c + 12) = M (c + 12)) (h15 : M' (c + 15) = M (c + 15)) (h16 : M' (c + 16) = M (c + 16)) : ∀ n p, cR M' c k z E0 n p = cR M c k z E0 n p
  | 0, p => rfl
  | n + 1, p => by unfold cR; rw [cs_rows h15 h16, h12]; simp only [cR_rows h12 h15 h16 n]
/-- the capitals of an alternative have what they had -/
def cks (M M' : pj_M) (c q : Nat) (k z : Int) : Prop := M' (c + 12) = M (c + 12) ∧ M' (c + 15) = M (c + 15) ∧ M' (c + 16) = M (c + 16) ∧ ∀ i, 0 ≤ i → i < z → 10 ≤ M (c + 12) (k * 4 + i) → M' (c + 17) ((M (c + 12) (k * 4 + i) - 10) * 18 + (q : Int)) = M (c + 17) ((M (c + 12) (k * 4 + i) - 10) * 18 + (q : Int)) ∧ M' (c + 19) ((M (c + 12) (k * 4 + i) - 10) * 18 + (q : Int)) = M (c + 19) ((M (c + 12) (k * 4 + i) - 10) * 18 + (q : Int)) ∧ ∀ q' : Nat, q' < 18 → M' (c + 18) ((M (c + 12) (k * 4 + i) - 10) * 18 + (q' : Int)) = M (c + 18) ((M (c + 12) (k * 4 + i) - 10) * 18 + (q' : Int))
theorem cp_keep {M M' : pj_M} {c q : Nat} {k z : Int} {n p q' : Nat} (h : cks M M' c q k z) (hn : (n : Int) < z) : cp M' c (csm M' c k z n) p q' ↔ cp M c (csm M c k z n) p q' := by
  have e : csm M' c k z n = csm M c k z n := by unfold csm; rw [h.1]
  rw [e]
  unfold cp
  rw [h.2.1]
  by_cases h10 : 10 ≤ csm M c k z n
  · have := (h.2.2.2 (z - 1 - (n : Int)) (by omega) (by omega) h10).2.2
    constructor
    · rintro (g | ⟨g1, g2, g3⟩)
      · exact Or.inl g
      · exact Or.inr ⟨g1, g2, by rw [← this q' g2]; exact g3⟩
    · rintro (g | ⟨g1, g2, g3⟩)
      · exact Or.inl g
      · exact Or.inr ⟨g1, g2, by rw [this q' g2]; exact g3⟩
  · constructor
    · rintro (g | ⟨g1, g2, g3⟩)
      · exact Or.inl g
      · exact absurd g1 h10
    · rintro (g | ⟨g1, g2, g3⟩)
      · exact Or.inl g
      · exact absurd g1 h10
theorem cO_keep {M M' : pj_M} {c q : Nat} {k z : Int} (h : cks M M' c q k z) : ∀ n p : Nat, (n : Int) ≤ z → (cO M' c k z q n p ↔ cO M c k z q n p)
  | 0, p, _ => Iff.rfl
  | n + 1, p, hn => by
    have e : csm M' c k z n = csm M c k z n := by unfold csm; rw [h.1]
    unfold cO
    rw [e, cs_rows h.2.1 h.2.2.1]
    simp only [fun q' => cO_keep h n q' (by omega)]
    by_cases h10 : 10 ≤ csm M c k z n
    · rw [(h.2.2.2 (z - 1 - (n : Int)) (by omega) (by omega) h10).1]
    · simp [h10]
theorem cE_keep {M M' : pj_M} {c q : Nat} {k z : Int} (h : cks M M' c q k z) : ∀ n p : Nat, (n : Int) ≤ z → (cE M' c k z q n p ↔ cE M c k z q n p)
  | 0, p, _ => Iff.rfl
  | n + 1, p, hn => by
    unfold cE
    rw [cE_keep h n p (by omega)]
    simp only [cR_rows h.1 h.2.1 h.2.2.1, fun q' => cp_keep (p := p) (q' := q') h (show (n : Int) < z by omega)]
theorem cI_keep {M M' : pj_M} {c q : Nat} {k z : Int} (h : cks M M' c q k z) : ∀ n p : Nat, (n : Int) ≤ z → (cI M' c k z q n p ↔ cI M c k z q n p)
  | 0, p, _ => Iff.rfl
  | n + 1, p, hn => by
    have e : csm M' c k z n = csm M c k z n := by unfold csm; rw [h.1]
    unfold cI
    rw [cI_keep h n p (by omega)]
    simp only [fun q' => cO_keep h n q' (by omega), fun q' => cp_keep (p := p) (q' := q') h (show (n : Int) < z by omega)]
    rw [e]
    by_cases h10 : 10 ≤ csm M c k z n
    · rw [(h.2.2.2 (z - 1 - (n : Int)) (by omega) (by omega) h10).2.1]
    · simp [h10]
theorem cE_q {M : pj_M} {c q : Nat} {k z : Int} : ∀ n, cE M c k z q n q
  | 0 => Nat.le_refl _
  | n + 1 => Or.inl (cE_q n)
/-- how much the parts of a column tell -/
def cmu (M : pj_M) (c q : Nat) : Nat → Nat
  | 0 => 0
  | x + 1 => cmu M c q x + (bcn (M (c + 17) ((x : Int) * 18 + (q : Int))).toNat 18 + (18 - M (c + 18) ((x : Int) * 18 + (q : Int))).toNat + (18 - M (c + 19) ((x : Int) * 18 + (q : Int))).toNat)
theorem cmu_le {M : pj_M} {c q : Nat} (h : csan M c) : ∀ n, cmu M c q n ≤ 54 * n
  | 0 => Nat.le_refl _
  | n + 1 => by
    have := cmu_le (q := q) h n
    have := bcn_le (M (c + 17) ((n : Int) * 18 + (q : Int))).toNat 18
    have := h.2.2.2.1 ((n : Int) * 18 + (q : Int))
    have := h.2.2.2.2 ((n : Int) * 18 + (q : Int))
    unfold cmu; omega
theorem cmu_up {M M' : pj_M} {c q o v B : Nat} {e i : Int} (hv : M (c + 17) ((o : Int) * 18 + (q : Int)) = (v : Int)) (hM : M' = pj_up (pj_up (pj_up M (c + 17) ((o : Int) * 18 + (q : Int)) ((v ||| B : Nat) : Int)) (c + 18) ((o : Int) * 18 + (q : Int)) e) (c + 19) ((o : Int) * 18 + (q : Int)) i) (he : e ≤ M (c + 18) ((o : Int) * 18 + (q : Int))) (hi : i ≤ M (c + 19) ((o : Int) * 18 + (q : Int))) (he2 : e ≤ 17) (hi2 : i ≤ 17) : ∀ n, cmu M c q n ≤ cmu M' c q n ∧ (((∃ p, p < 18 ∧ B.testBit p = true ∧ v.testBit p = false) ∨ e < M (c + 18) ((o : Int) * 18 + (q : Int)) ∨ i < M (c + 19) ((o : Int) * 18 + (q : Int))) → o < n → cmu M c q n < cmu M' c q n)
  | 0 => ⟨Nat.le_refl _, fun _ h => absurd h (Nat.not_lt_zero _)⟩
  | n + 1 => by
    obtain ⟨ih1, ih2⟩ := cmu_up (B := B) hv hM he hi he2 hi2 n
    unfold cmu
    by_cases e0 : n = o
    · subst e0
      have c17 : M' (c + 17) ((n : Int) * 18 + (q : Int)) = ((v ||| B : Nat) : Int) := by rw [hM, pu_ne (by omega), pu_ne (by omega), pu_eq]
      have c18 : M' (c + 18) ((n : Int) * 18 + (q : Int)) = e := by rw [hM, pu_ne (by omega), pu_eq]
      have c19 : M' (c + 19) ((n : Int) * 18 + (q : Int)) = i := by rw [hM, pu_eq]
      rw [c17, c18, c19, hv, Int.toNat_natCast, Int.toNat_natCast]
      have hsub : ∀ i, v.testBit i = true → (v ||| B).testBit i = true := fun i h => by rw [Nat.testBit_or, h]; rfl
      have hm := bcn_mono hsub 18
      refine ⟨by omega, ?_⟩
      rintro (⟨p, h1, h2, h3⟩ | h | h) _
      · have := bcn_lt hsub h3 (by rw [Nat.testBit_or, h2]; simp) 18 h1
        omega
      · omega
      · omega
    · have c17 : ∀ a, M' a ((n : Int) * 18 + (q : Int)) = M a ((n : Int) * 18 + (q : Int)) := fun a => by rw [hM, pu_nk (by omega), pu_nk (by omega), pu_nk (by omega)]
      rw [c17, c17, c17]
      refine ⟨by omega, fun h1 h2 => ?_⟩
      have := ih2 h1 (by omega)
      omega
