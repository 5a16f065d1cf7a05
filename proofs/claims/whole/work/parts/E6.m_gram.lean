/-- the model reads a grammar: so far right, or wrong at a place -/
def gat (T : Int → Int) (n : Int) (M : pj_M) (s : gS) : Prop := rdr T n M ∧ M 203 8 = -1 ∧ gsf T (M 203 7).toNat = some s ∧ ∀ x, 0 ≤ x → x < 73 → M 207 x = s.2.2 x
def gwr (T : Int → Int) (n w : Int) : Prop := (∃ p : Nat, (p : Int) < n ∧ (gsf T p).isSome ∧ gsf T (p + 1) = none ∧ w = (p : Int)) ∨ (w = n ∧ ∃ s, gsf T n.toNat = some s ∧ s.1 ≠ 2)
def gbd (T : Int → Int) (n : Int) (M : pj_M) : Prop := rdr T n M ∧ M 203 8 ≠ -1 ∧ gwr T n (M 203 8)
def eqG (M M' : pj_M) : Prop := ∀ a x, a ≠ 207 → ¬ (a = 203 ∧ (x = 7 ∨ x = 8)) → M' a x = M a x
theorem eqG.rf {M : pj_M} : eqG M M := fun _ _ _ _ => rfl
theorem eqG.tr {M M1 M2 : pj_M} (h : eqG M M1) (h2 : eqG M1 M2) : eqG M M2 := fun a x h3 h4 => (h2 a x h3 h4).trans (h a x h3 h4)
theorem eqG.up {M : pj_M} {a : Nat} {k v : Int} (h : a = 207 ∨ (a = 203 ∧ (k = 7 ∨ k = 8))) : eqG M (pj_up M a k v) := fun c x h1 h2 => by
  rw [pu_if, if_neg]
  rintro ⟨rfl, rfl⟩
  omega
def nlt (T : Int → Int) (n p : Int) : Prop := ¬ (97 ≤ hrf T n p ∧ hrf T n p ≤ 104) ∧ ¬ (65 ≤ hrf T n p ∧ hrf T n p ≤ 70)
section
variable {M : pj_M} {T : Int → Int} {n : Int} {s : gS} {Q : pj_M → Prop}
theorem gat.nx (h : gat T n M s) : gsf T ((M 203 7).toNat + 1) = gs1 (T (M 203 7)) s := by
  show (gsf T (M 203 7).toNat).bind (gs1 (T (((M 203 7).toNat : Nat) : Int))) = _
  rw [h.2.2.1, Int.toNat_of_nonneg h.1.2.2.1.1]; rfl
theorem gat.fault (h : gat T n M s) (hlt : M 203 7 < n) (hno : gs1 (T (M 203 7)) s = none) : gbd T n (pj_up M 203 8 (M 203 7)) := by
  have h3 := h.1.2.2.1
  have h2 := h.1.2.1
  refine ⟨h.1.wr ⟨by omega, by omega⟩, by rw [pu_eq]; omega, ?_⟩
  rw [pu_eq]
  exact Or.inl ⟨(M 203 7).toNat, by omega, by rw [h.2.2.1]; rfl, by rw [h.nx]; exact hno, by omega⟩
theorem gat.fin (h : gat T n M s) (he : M 203 7 = n) (h2 : s.1 ≠ 2) : gbd T n (pj_up M 203 8 (M 203 7)) := by
  have h3 := h.1.2.2.1
  have h4 := h.1.2.1
  refine ⟨h.1.wr ⟨by omega, by omega⟩, by rw [pu_eq]; omega, ?_⟩
  rw [pu_eq]
  exact Or.inr ⟨he, s, by rw [← he]; exact h.2.2.1, h2⟩
theorem gat.step {M' : pj_M} {s' : gS} (h : gat T n M s) (hlt : M 203 7 < n) (hg : gs1 (T (M 203 7)) s = some s') (e6 : M' 203 6 = M 203 6) (e7 : M' 203 7 = M 203 7 + 1) (e8 : M' 203 8 = M 203 8) (e5 : M' 205 = M 205) (hE : ∀ x, 0 ≤ x → x < 73 → M' 207 x = s'.2.2 x) : gat T n M' s' := by
  obtain ⟨⟨h1, h2, h3, h4, h5⟩, h6, h7, h8⟩ := h
  refine ⟨⟨by rw [e6]; exact h1, h2, by rw [e7]; omega, by rw [e8]; exact h4, by rw [e5]; exact h5⟩, by rw [e8]; exact h6, ?_, hE⟩
  have hx : gat T n M s := ⟨⟨h1, h2, h3, h4, h5⟩, h6, h7, h8⟩
  rw [e7, show (M 203 7 + 1).toNat = (M 203 7).toNat + 1 by omega, hx.nx]
  exact hg
theorem gat.w (h : gat T n M s) : gsw s := gsf_w h.2.2.1
theorem hrf_lt {p : Int} (h : p < n) : hrf T n p = T p := by unfold hrf; rw [if_pos h]
theorem hrf_ge {p : Int} (h : ¬ p < n) : hrf T n p = -1 := by unfold hrf; rw [if_neg h]
theorem gs1_2 {c cap : Int} {E : Int → Int} : gs1 c (2, cap, E) = if c = 59 then some (0, cap, E) else if c = 124 then (if E 0 < 12 then some (2, cap, addA E cap) else none) else if 97 ≤ c ∧ c ≤ 104 then (if E (1 + 6 * (E 0 - 1) + 1) < 4 then some (2, cap, addS E (c - 97)) else none) else if 65 ≤ c ∧ c ≤ 70 then (if E (1 + 6 * (E 0 - 1) + 1) < 4 then some (2, cap, addS E (8 + c - 65)) else none) else none := rfl
theorem gs1_1 {c cap : Int} {E : Int → Int} : gs1 c (1, cap, E) = if c = 61 ∧ E 0 < 12 then some (2, cap, addA E cap) else none := rfl
theorem gs1_0 {c cap : Int} {E : Int → Int} : gs1 c (0, cap, E) = if 0 ≤ c - 65 ∧ c - 65 < 6 ∧ alc E (c - 65) (E 0).toNat = 0 then some (1, c - 65, E) else none := rfl
/-- the symbols of an alternative -/
theorem t_alt78 {cap x3 e0 at0 : Int} {E0 : Int → Int} {M0 : pj_M} (h : gat T n M (2, cap, E0)) (he : E0 0 = e0) (hx : x3 = 1 + 6 * (e0 - 1)) (e : eqG M0 M) (ha : at0 < M 203 7)
    (q0 : ∀ M', eqG M0 M' → gbd T n M' → at0 ≤ M' 203 7 → Q M')
    (q1 : ∀ M' E, eqG M0 M' → gat T n M' (2, cap, E) → at0 < M' 203 7 → nlt T n (M' 203 7) → Q M') : w_X12_readAlternative_78 203 x3 Q M := by
  unfold w_X12_readAlternative_78
  refine pj_lp_inv (fun y : pj_M => ∃ E, gat T n y (2, cap, E) ∧ E 0 = e0 ∧ eqG M0 y ∧ at0 < y 203 7) (fun y => (n - y 203 7).toNat) ?_ M ⟨E0, h, he, e, ha⟩
  rintro M1 ⟨E, g, hE0, e1, a1⟩ P hP
  have w := g.w
  obtain ⟨-, w2, w3, -, -, -, -, w8, -⟩ := w
  have hE1 : 1 ≤ E 0 ∧ E 0 ≤ 12 := ⟨w3 rfl, w2.2⟩
  have hz : 0 ≤ E (1 + 6 * (E 0 - 1) + 1) ∧ E (1 + 6 * (E 0 - 1) + 1) ≤ 4 := w8 (E 0 - 1) (by omega) (by omega)
  have r1 := g.1
  have h3 := r1.2.2.1
  have hm : M1 207 (x3 + 1) = E (1 + 6 * (E 0 - 1) + 1) := by rw [g.2.2.2 _ (by omega) (by omega)]; show E (x3 + 1) = _; rw [hx, hE0]
  have hb := r1.hb (p := M1 203 7) h3.1
  have go : (97 ≤ hrf T n (M1 203 7) ∧ hrf T n (M1 203 7) ≤ 104) ∨ (65 ≤ hrf T n (M1 203 7) ∧ hrf T n (M1 203 7) ≤ 70) → w_X12_readAlternative_106 203 x3 (fun (M : pj_M) => P M) Q M1 := by
    intro hor
    have hlt : M1 203 7 < n := by
      apply Int.not_le.mp; intro hle
      rw [hrf_ge (by omega)] at hor; omega
    have hT := hrf_lt (T := T) hlt
    rw [hT] at hor
    unfold w_X12_readAlternative_106
    rw [rm_9, hm]
    refine ⟨⟨by omega, by omega⟩, ⟨by omega, by omega⟩, fun hne => t_here r1 ?_, fun h4 => t_fault r1 (fun h => absurd g.2.1 h) (fun _ => ?_)⟩
    · rw [hT, hm]
      have key : ∀ y2, gs1 (T (M1 203 7)) (2, cap, E) = some (2, cap, addS E y2) → w_X12_readAlternative_172 203 x3 207 (x3 + 2 + E (1 + 6 * (E 0 - 1) + 1)) y2 (fun (M : pj_M) => P M) Q M1 := by
        intro y2 hg
        unfold w_X12_readAlternative_172
        rw [rm_9]
        refine ⟨⟨by omega, by omega⟩, ?_⟩
        rintro M2 rfl
        refine ⟨⟨by omega, by omega⟩, ⟨by omega, by omega⟩, ?_⟩
        rintro M3 rfl M4 rfl
        have hm2 : pj_up M1 207 (x3 + 2 + E (1 + 6 * (E 0 - 1) + 1)) y2 207 (x3 + 1) = E (1 + 6 * (E 0 - 1) + 1) := by rw [pu_nk (by omega)]; exact hm
        rw [hm2]
        have e7 : pj_up (pj_up M1 207 (x3 + 2 + E (1 + 6 * (E 0 - 1) + 1)) y2) 207 (x3 + 1) (E (1 + 6 * (E 0 - 1) + 1) + 1) 203 7 = M1 203 7 := by rw [pu_ne (by decide), pu_ne (by decide)]
        rw [e7]
        have gg := g.step (M' := pj_up (pj_up (pj_up M1 207 (x3 + 2 + E (1 + 6 * (E 0 - 1) + 1)) y2) 207 (x3 + 1) (E (1 + 6 * (E 0 - 1) + 1) + 1)) 203 7 (M1 203 7 + 1)) hlt hg (by rw [pu_nk (by decide), pu_ne (by decide), pu_ne (by decide)]) pu_eq (by rw [pu_nk (by decide), pu_ne (by decide), pu_ne (by decide)]) (by rw [pu_row (by decide), pu_row (by decide), pu_row (by decide)]) (fun x x1 x2 => ?_)
        · refine hP _ ⟨addS E y2, gg, ?_, ((e1.tr (eqG.up (Or.inl rfl))).tr (eqG.up (Or.inl rfl))).tr (eqG.up (Or.inr ⟨rfl, Or.inl rfl⟩)), by rw [pu_eq]; omega⟩ (by rw [pu_eq]; omega)
          rw [(addS_v hE1.1 ⟨hz.1, by omega⟩).1]; exact hE0
        · rw [pu_ne (by decide)]
          show _ = addS E y2 x
          unfold addS fup
          by_cases c1 : x = x3 + 1
          · rw [c1, pu_eq, if_pos (by omega)]
          · rw [pu_nk c1, if_neg (by omega)]
            by_cases c2 : x = x3 + 2 + E (1 + 6 * (E 0 - 1) + 1)
            · rw [c2, pu_eq, if_pos (by omega)]
            · rw [pu_nk c2, if_neg (by omega)]; exact g.2.2.2 x x1 x2
      refine ⟨⟨by omega, by omega⟩, ⟨by omega, by omega⟩, fun hlt97 => key _ ?_, fun hge => key _ ?_⟩
      · rw [gs1_2, if_neg (by omega), if_neg (by omega), if_neg (by omega), if_pos (by omega), if_pos (by omega), show T (M1 203 7) - 65 + 8 = 8 + T (M1 203 7) - 65 by omega]
      · rw [gs1_2, if_neg (by omega), if_neg (by omega), if_pos (by omega), if_pos (by omega)]
    · refine q0 _ (e1.tr (eqG.up (Or.inr ⟨rfl, Or.inr rfl⟩))) (g.fault hlt ?_) (by rw [pu_nk (by decide)]; omega)
      rw [gs1_2, if_neg (by omega), if_neg (by omega)]
      rcases hor with hh | hh
      · rw [if_pos hh, if_neg (by omega)]
      · rw [if_neg (by omega), if_pos hh, if_neg (by omega)]
  unfold w_X12_readAlternative_78b
  refine t_here r1 (t_in ⟨by omega, by omega⟩ ⟨by decide, by decide⟩ ⟨by decide, by decide⟩ (fun t ht hi => ⟨in01 ht, fun hne => go (Or.inl (hi.mp (by omega))), fun h0 => t_here r1 (t_in ⟨by omega, by omega⟩ ⟨by decide, by decide⟩ ⟨by decide, by decide⟩ (fun t2 ht2 hi2 => ⟨in01 ht2, fun h02 => ?_, fun hne => go (Or.inr (hi2.mp (by omega)))⟩))⟩))
  exact q1 M1 E e1 g a1 ⟨fun h => by have := hi.mpr h; omega, fun h => by have := hi2.mpr h; omega⟩
theorem t_readAlt {cap sign : Int} {st : Int} {E : Int → Int} (h : gat T n M (st, cap, E)) (hs : (st = 1 ∧ sign = 61) ∨ (st = 2 ∧ sign = 124 ∧ M 203 7 < n ∧ T (M 203 7) = 124))
    (q0 : ∀ M', eqG M M' → gbd T n M' → M 203 7 ≤ M' 203 7 → Q M')
    (q1 : ∀ M' E, eqG M M' → gat T n M' (2, cap, E) → M 203 7 < M' 203 7 → nlt T n (M' 203 7) → Q M') : w_X12_readAlternative 203 cap sign M Q := by
  have w := h.w
  obtain ⟨-, w2, w3, w4, -, -, -, -, -⟩ := w
  have hcap : 0 ≤ cap ∧ cap ≤ 5 := w4 (by rcases hs with ⟨h, _⟩ | ⟨h, _⟩ <;> (show st ≠ 0; omega))
  have hE : 0 ≤ E 0 ∧ E 0 ≤ 12 := w2
  have r := h.1
  have h3 := r.2.2.1
  have hb := r.hb (p := M 203 7) h3.1
  have m0 : M 207 0 = E 0 := h.2.2.2 0 (by decide) (by decide)
  have sg : sign = 61 ∨ sign = 124 := by omega
  have bad : ∀ M2, eqG M M2 → gbd T n M2 → M 203 7 ≤ M2 203 7 → w_X12_readAlternative_27 203 cap sign Q M2 := by
    intro M2 e2 g2 a2
    unfold w_X12_readAlternative_27
    refine t_oneOf g2.1 ⟨by omega, by decide, by omega⟩ (fun _ => t_fine g2.1 (fun r hr hi => ⟨in01 hr, fun hne => ?_, fun _ => q0 M2 e2 g2 a2⟩)) (fun h => absurd h g2.2.1) (fun h => absurd h g2.2.1)
    exact absurd (hi.mp (by omega)) g2.2.1
  have good : ¬ (hrf T n (M 203 7) = sign ∧ E 0 = 12) → w_X12_readAlternative_27 203 cap sign Q M := by
    intro hno
    unfold w_X12_readAlternative_27
    refine t_oneOf r ⟨by omega, by decide, by omega⟩ (fun h' => absurd h.2.1 h') (fun _ hlt hf1 hf2 => ?_) (fun _ hno2 => ?_)
    · have hT : T (M 203 7) = sign := by omega
      have h12 : E 0 < 12 := by
        have : ¬ E 0 = 12 := fun h' => hno ⟨by rw [hrf_lt hlt]; exact hT, h'⟩
        omega
      have r1 := r.at (p := M 203 7 + 1) ⟨by omega, by omega⟩
      have e8 : pj_up M 203 7 (M 203 7 + 1) 203 8 = -1 := by rw [pu_nk (by decide)]; exact h.2.1
      refine t_fine r1 (fun t ht hi => ⟨in01 ht, fun _ => ?_, fun h0 => by have := hi.mpr e8; omega⟩)
      unfold w_X12_alt
      rw [rm_9]
      dsimp only
      have z0 : pj_up M 203 7 (M 203 7 + 1) 207 = M 207 := pu_row (by decide)
      rw [z0, m0]
      rintro M1 rfl
      refine ⟨⟨by omega, by omega⟩, ?_⟩
      rintro M2 rfl
      refine ⟨⟨by omega, by omega⟩, ?_⟩
      rintro M3 rfl
      have hg : gs1 (T (M 203 7)) (st, cap, E) = some (2, cap, addA E cap) := by
        rcases hs with ⟨rfl, rfl⟩ | ⟨rfl, rfl, _, _⟩
        · rw [gs1_1, if_pos ⟨hT, h12⟩]
        · rw [gs1_2, if_neg (by omega), if_pos hT, if_pos h12]
      refine t_alt78 (M0 := M) (e0 := E 0 + 1) (at0 := M 203 7) (E0 := addA E cap) (h.step hlt hg ?_ ?_ ?_ ?_ (fun x x1 x2 => ?_)) (addA_v hE.1).1 (by omega) ?_ ?_ q0 q1
      · rw [pu_ne (by decide), pu_ne (by decide), pu_ne (by decide), pu_nk (by decide)]
      · rw [pu_ne (by decide), pu_ne (by decide), pu_ne (by decide), pu_eq]
      · rw [pu_ne (by decide), pu_ne (by decide), pu_ne (by decide), pu_nk (by decide)]
      · rw [pu_row (by decide), pu_row (by decide), pu_row (by decide), pu_row (by decide)]
      · show _ = addA E cap x
        unfold addA fup
        by_cases c1 : x = 1 + 6 * E 0 + 1
        · rw [c1, pu_eq, if_pos rfl]
        · rw [pu_nk c1, if_neg c1]
          by_cases c2 : x = 1 + 6 * E 0
          · rw [c2, pu_eq, if_pos rfl]
          · rw [pu_nk c2, if_neg c2]
            by_cases c3 : x = 0
            · rw [c3, pu_eq, if_pos rfl]
            · rw [pu_nk c3, if_neg c3, pu_ne (by decide)]; exact h.2.2.2 x x1 x2
      · exact (((eqG.up (Or.inr ⟨rfl, Or.inl rfl⟩)).tr (eqG.up (Or.inl rfl))).tr (eqG.up (Or.inl rfl))).tr (eqG.up (Or.inl rfl))
      · rw [pu_ne (by decide), pu_ne (by decide), pu_ne (by decide), pu_eq]; omega
    · have r1 := r.wr (w := M 203 7) ⟨by omega, by have := r.2.1; omega⟩
      have hst : st = 1 ∧ sign = 61 := by
        rcases hs with h' | ⟨_, b, c, d⟩
        · exact h'
        · exact absurd ⟨c, by omega, by omega⟩ hno2
      have gb : gbd T n (pj_up M 203 8 (M 203 7)) := by
        by_cases hlt : M 203 7 < n
        · refine h.fault hlt ?_
          rw [hst.1, gs1_1, if_neg (fun h' => hno2 ⟨hlt, by omega, by omega⟩)]
        · exact h.fin (by omega) (by show st ≠ 2; omega)
      refine t_fine r1 (fun t ht hi => ⟨in01 ht, fun hne => ?_, fun _ => q0 _ (eqG.up (Or.inr ⟨rfl, Or.inr rfl⟩)) gb (by rw [pu_nk (by decide)]; omega)⟩)
      have := hi.mp (by omega)
      rw [pu_eq] at this; omega
  unfold w_X12_readAlternative
  rw [rm_9]
  refine t_here r ⟨⟨by omega, by omega⟩, ⟨by omega, by omega⟩, fun hne => good (fun h' => hne h'.1), fun heq => ?_⟩
  rw [m0]
  refine ⟨⟨by omega, by omega⟩, fun hne => good (fun h' => hne h'.2), fun h12 => t_fault r (fun h' => absurd h.2.1 h') (fun _ => ?_)⟩
  have hlt : M 203 7 < n := by
    apply Int.not_le.mp; intro hle
    rw [hrf_ge (by omega)] at heq; omega
  rw [hrf_lt hlt] at heq
  refine bad _ (eqG.up (Or.inr ⟨rfl, Or.inr rfl⟩)) (h.fault hlt ?_) (by rw [pu_nk (by decide)]; omega)
  rcases hs with ⟨rfl, rfl⟩ | ⟨rfl, rfl, _, _⟩
  · rw [gs1_1, if_neg (by omega)]
  · rw [gs1_2, if_neg (by omega), if_pos heq, if_neg (by omega)]
theorem t_readRule {c0 : Int} {E : Int → Int} (h : gat T n M (0, c0, E))
    (q0 : ∀ M', eqG M M' → gbd T n M' → M 203 7 ≤ M' 203 7 → Q M')
    (q1 : ∀ M' c E, eqG M M' → gat T n M' (2, c, E) → M 203 7 < M' 203 7 → nlt T n (M' 203 7) → hrf T n (M' 203 7) ≠ 124 → Q M') : w_X12_readRule 203 M Q := by
  have w := h.w
  obtain ⟨-, w2, -, -, -, -, w7, -, -⟩ := w
  have hE : 0 ≤ E 0 ∧ E 0 ≤ 12 := w2
  have r := h.1
  have h3 := r.2.2.1
  have hb := r.hb (p := M 203 7) h3.1
  have m0 : M 207 0 = E 0 := h.2.2.2 0 (by decide) (by decide)
  have bad : ∀ M2, eqG M M2 → gbd T n M2 → M 203 7 ≤ M2 203 7 → w_X12_readRule_42 203 Q M2 := by
    intro M2 e2 g2 a2
    unfold w_X12_readRule_42
    refine t_oneOf g2.1 ⟨by decide, by decide, by decide⟩ (fun _ => t_fine g2.1 (fun r hr hi => ⟨in01 hr, fun hne => ?_, fun _ => q0 M2 e2 g2 a2⟩)) (fun h => absurd h g2.2.1) (fun h => absurd h g2.2.1)
    exact absurd (hi.mp (by omega)) g2.2.1
  have loop : ∀ cap M2, eqG M M2 → M 203 7 ≤ M2 203 7 → (gbd T n M2 ∨ (M 203 7 < M2 203 7 ∧ ∃ E2, gat T n M2 (2, cap, E2) ∧ nlt T n (M2 203 7))) → w_X12_readRule_66 203 cap Q M2 := by
    intro cap M2 e2 a2 hor
    unfold w_X12_readRule_66
    refine pj_lp_inv (fun y : pj_M => eqG M y ∧ M 203 7 ≤ y 203 7 ∧ (gbd T n y ∨ (M 203 7 < y 203 7 ∧ ∃ E2, gat T n y (2, cap, E2) ∧ nlt T n (y 203 7)))) (fun y => (n - y 203 7).toNat + (if y 203 8 = -1 then 1 else 0)) ?_ M2 ⟨e2, a2, hor⟩
    rintro M3 ⟨e3, a3, hor3⟩ P hP
    unfold w_X12_readRule_66b
    rcases hor3 with g3 | ⟨lt3, E3, g3, nl3⟩
    · refine t_fine g3.1 (fun t ht hi => ⟨in01 ht, fun _ => q0 M3 e3 g3 a3, fun hne => absurd (hi.mp (by omega)) g3.2.1⟩)
    · have hb3 := g3.1.hb (p := M3 203 7) g3.1.2.2.1.1
      refine t_fine g3.1 (fun t ht hi => ⟨in01 ht, fun h0 => by have := hi.mpr g3.2.1; omega, fun _ => t_here g3.1 ⟨⟨by omega, by omega⟩, fun hne => q1 M3 cap E3 e3 g3 lt3 nl3 hne, fun heq => ?_⟩⟩)
      have hlt : M3 203 7 < n := by
        apply Int.not_le.mp; intro hle
        rw [hrf_ge (by omega)] at heq; omega
      rw [hrf_lt hlt] at heq
      refine t_readAlt g3 (Or.inr ⟨rfl, rfl, hlt, heq⟩) (fun M4 e4 g4 a4 => ?_) (fun M4 E4 e4 g4 a4 nl4 => ?_)
      · refine hP M4 ⟨e3.tr e4, by omega, Or.inl g4⟩ ?_
        rw [if_neg g4.2.1, if_pos g3.2.1]; omega
      · refine hP M4 ⟨e3.tr e4, by omega, Or.inr ⟨by omega, E4, g4, nl4⟩⟩ ?_
        rw [if_pos g4.2.1, if_pos g3.2.1]; have := g4.1.2.2.1; omega
  have good : (65 ≤ hrf T n (M 203 7) ∧ hrf T n (M 203 7) ≤ 70 → ¬ inR E (hrf T n (M 203 7) - 65)) → w_X12_readRule_42 203 Q M := by
    intro hno
    unfold w_X12_readRule_42
    refine t_oneOf r ⟨by decide, by decide, by decide⟩ (fun h' => absurd h.2.1 h') (fun _ hlt hf1 hf2 => ?_) (fun _ hno2 => ?_)
    · have hT := hrf_lt (T := T) hlt
      rw [hT] at hno
      have hnr := hno ⟨hf1, by omega⟩
      have hg : gs1 (T (M 203 7)) (0, c0, E) = some (1, T (M 203 7) - 65, E) := by rw [gs1_0, if_pos ⟨by omega, by omega, (alc_inR hE.1).mpr hnr⟩]
      have g1 : gat T n (pj_up M 203 7 (M 203 7 + 1)) (1, T (M 203 7) - 65, E) := h.step hlt hg (pu_nk (by decide)) pu_eq (pu_nk (by decide)) (pu_row (by decide)) (fun x x1 x2 => by rw [pu_ne (by decide)]; exact h.2.2.2 x x1 x2)
      have z7 : pj_up M 203 7 (M 203 7 + 1) 203 7 = M 203 7 + 1 := pu_eq
      have e1 : eqG M (pj_up M 203 7 (M 203 7 + 1)) := eqG.up (Or.inr ⟨rfl, Or.inl rfl⟩)
      refine t_fine g1.1 (fun t ht hi => ⟨in01 ht, fun _ => ?_, fun h0 => by have := hi.mpr g1.2.1; omega⟩)
      refine t_readAlt g1 (Or.inl ⟨rfl, rfl⟩) (fun M4 e4 g4 a4 => loop _ M4 (e1.tr e4) (by omega) (Or.inl g4)) (fun M4 E4 e4 g4 a4 nl4 => loop _ M4 (e1.tr e4) (by omega) (Or.inr ⟨by omega, E4, g4, nl4⟩))
    · have r1 := r.wr (w := M 203 7) ⟨by omega, by have := r.2.1; omega⟩
      have gb : gbd T n (pj_up M 203 8 (M 203 7)) := by
        by_cases hlt : M 203 7 < n
        · refine h.fault hlt ?_
          rw [gs1_0, if_neg (fun h' => hno2 ⟨hlt, by omega, by omega⟩)]
        · exact h.fin (by omega) (by show (0 : Int) ≠ 2; decide)
      refine t_fine r1 (fun t ht hi => ⟨in01 ht, fun hne => ?_, fun _ => q0 _ (eqG.up (Or.inr ⟨rfl, Or.inr rfl⟩)) gb (by rw [pu_nk (by decide)]; omega)⟩)
      have := hi.mp (by omega)
      rw [pu_eq] at this; omega
  unfold w_X12_readRule
  rw [rm_9]
  refine t_here r (t_in ⟨by omega, by omega⟩ ⟨by decide, by decide⟩ ⟨by decide, by decide⟩ (fun t ht hi => ⟨in01 ht, fun h0 => good (fun h' => by have := hi.mpr h'; omega), fun hne => ?_⟩))
  have hin := hi.mp (by omega)
  refine t_ruled (by decide) (by rw [m0]; exact hE) (fun k k1 k2 => by rw [m0] at k2; rw [h.2.2.2 _ (by omega) (by omega)]; exact w7 k k1 (by omega)) (fun R hR hbit => t_here r ?_)
  obtain ⟨y, hy⟩ : ∃ y : Nat, hrf T n (M 203 7) - 65 = (y : Int) := ⟨(hrf T n (M 203 7) - 65).toNat, by omega⟩
  have hbin : R.testBit y = true ↔ inR E (hrf T n (M 203 7) - 65) := by
    rw [hbit, hy, m0]
    unfold inR
    constructor
    · rintro ⟨k, k1, k2, k3⟩
      exact ⟨k, k1, k2, by rw [← k3, h.2.2.2 _ (by omega) (by omega)]⟩
    · rintro ⟨k, k1, k2, k3⟩
      exact ⟨k, k1, k2, by rw [← k3, h.2.2.2 _ (by omega) (by omega)]⟩
  rw [hy]
  refine t_has (by omega) (by omega) (fun t2 ht2 hi2 => ⟨in01 ht2, fun h0 => good (fun _ hr => ?_), fun hne2 => t_fault r (fun h' => absurd h.2.1 h') (fun _ => ?_)⟩)
  · have := hi2.mpr (hbin.mpr hr); omega
  · have hr := hbin.mp (hi2.mp (by omega))
    have hlt : M 203 7 < n := by
      apply Int.not_le.mp; intro hle
      rw [hrf_ge (by omega)] at hin; omega
    rw [hrf_lt hlt] at hr
    refine bad _ (eqG.up (Or.inr ⟨rfl, Or.inr rfl⟩)) (h.fault hlt ?_) (by rw [pu_nk (by decide)]; omega)
    rw [gs1_0, if_neg (fun h' => (alc_inR hE.1).mp h'.2.2 hr)]
end
