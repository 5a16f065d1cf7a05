section
variable {M : pj_M} {T : Int → Int} {n : Int} {Q : Int → pj_M → Prop}
theorem t_hasAll {c : Int} {E : Int → Int} (w : gsw (2, c, E)) (hE : ∀ x, 0 ≤ x → x < 73 → M 207 x = E x) (q : ∀ r, (r = 0 ∨ r = 1) → (r = 1 ↔ allR E) → Q r M) : w_X12_hasAllRules 207 M Q := by
  obtain ⟨-, w2, w3, -, -, -, w7, w8, w9⟩ := w
  have hE1 : 1 ≤ E 0 ∧ E 0 ≤ 12 := ⟨w3 rfl, w2.2⟩
  have m0 : M 207 0 = E 0 := hE 0 (by decide) (by decide)
  have w7' : ∀ k, 0 ≤ k → k < 12 → 0 ≤ E (1 + 6 * k) ∧ E (1 + 6 * k) ≤ 5 := w7
  have w8' : ∀ k, 0 ≤ k → k < 12 → 0 ≤ E (1 + 6 * k + 1) ∧ E (1 + 6 * k + 1) ≤ 4 := w8
  have w9' : ∀ k t, 0 ≤ k → k < 12 → 0 ≤ t → t < 4 → 0 ≤ E (1 + 6 * k + 2 + t) ∧ E (1 + 6 * k + 2 + t) ≤ 13 := w9
  have hsh : (((pj_sh 207).2 : Nat) : Int) = 73 := by decide
  unfold w_X12_hasAllRules
  refine t_ruled (by decide) (by rw [m0]; omega) (fun k k1 k2 => by rw [m0] at k2; rw [hE _ (by omega) (by omega)]; exact w7' k k1 (by omega)) (fun R hR hbit => ?_)
  have hbin : ∀ y : Nat, R.testBit y = true ↔ inR E (y : Int) := by
    intro y
    rw [hbit, m0]
    unfold inR
    constructor
    · rintro ⟨k, k1, k2, k3⟩
      exact ⟨k, k1, k2, by rw [← k3, hE _ (by omega) (by omega)]⟩
    · rintro ⟨k, k1, k2, k3⟩
      exact ⟨k, k1, k2, by rw [← k3, hE _ (by omega) (by omega)]⟩
  unfold w_X12_hasAllRules_7
  refine pj_lp_inv (fun y : Int × pj_M => (0 ≤ y.1 ∧ y.1 ≤ E 0) ∧ y.2 = M ∧ ∀ k t, 0 ≤ k → k < y.1 → 0 ≤ t → t < E (1 + 6 * k + 1) → 8 ≤ E (1 + 6 * k + 2 + t) → inR E (E (1 + 6 * k + 2 + t) - 8)) (fun y => (E 0 - y.1).toNat) ?_ (0, M) ⟨⟨by simp, by show 0 ≤ E 0; omega⟩, rfl, fun k t k1 k2 => by have : k < 0 := k2; omega⟩
  rintro ⟨k, Mx⟩ ⟨hk, hM, hal⟩ P hP
  dsimp only at hk hM hal hP ⊢
  have hM' := hM.symm
  subst hM'
  unfold w_X12_hasAllRules_7b
  rw [hsh, m0]
  refine ⟨⟨by decide, by decide⟩, ⟨by omega, by omega⟩, ⟨by omega, by omega⟩, fun hend => q 1 (Or.inr rfl) ⟨fun _ => fun k' t a1 a2 a3 a4 a5 => hal k' t a1 (by omega) a3 a4 a5, fun _ => rfl⟩, fun hgo => ?_⟩
  have hz := w8' k hk.1 (by omega)
  unfold w_X12_hasAllRules_16
  refine pj_lp_inv (fun y : Int × pj_M => (0 ≤ y.1 ∧ y.1 ≤ E (1 + 6 * k + 1)) ∧ y.2 = M ∧ ∀ t, 0 ≤ t → t < y.1 → 8 ≤ E (1 + 6 * k + 2 + t) → inR E (E (1 + 6 * k + 2 + t) - 8)) (fun y => (E (1 + 6 * k + 1) - y.1).toNat) ?_ (0, M) ⟨⟨by simp, hz.1⟩, rfl, fun t t1 t2 => by have : t < 0 := t2; omega⟩
  rintro ⟨t, Mx⟩ ⟨ht, hM2, hat⟩ P2 hP2
  dsimp only at ht hM2 hat hP2 ⊢
  have hM2' := hM2.symm
  subst hM2'
  have mz : M 207 (1 + 6 * k + 1) = E (1 + 6 * k + 1) := hE _ (by omega) (by omega)
  unfold w_X12_hasAllRules_16b w_X12_alt
  dsimp only
  rw [hsh, mz]
  refine ⟨⟨by omega, by omega⟩, ⟨by omega, by omega⟩, ⟨by omega, by omega⟩, fun hend => ?_, fun hgo2 => ?_⟩
  · refine hP (k + 1, M) ⟨⟨by show 0 ≤ k + 1; omega, by show k + 1 ≤ E 0; omega⟩, rfl, fun k' t' a1 a2 a3 a4 a5 => ?_⟩ (by show (E 0 - (k + 1)).toNat < (E 0 - k).toNat; omega)
    have a2' : k' < k + 1 := a2
    by_cases e : k' = k
    · subst e; exact hat t' a3 (by omega) a5
    · exact hal k' t' a1 (by omega) a3 a4 a5
  · have ms : M 207 (1 + 6 * k + 2 + t) = E (1 + 6 * k + 2 + t) := hE _ (by omega) (by omega)
    have hs := w9' k t hk.1 (by omega) ht.1 (by omega)
    have nx : (8 ≤ E (1 + 6 * k + 2 + t) → inR E (E (1 + 6 * k + 2 + t) - 8)) → P2 (t + 1, M) := by
      intro hh
      refine hP2 (t + 1, M) ⟨⟨by show 0 ≤ t + 1; omega, by show t + 1 ≤ E (1 + 6 * k + 1); omega⟩, rfl, fun t' a1 a2 a3 => ?_⟩ (by show (E (1 + 6 * k + 1) - (t + 1)).toNat < (E (1 + 6 * k + 1) - t).toNat; omega)
      have a2' : t' < t + 1 := a2
      by_cases e : t' = t
      · subst e; exact hh a3
      · exact hat t' a1 (by omega) a3
    rw [ms]
    refine ⟨⟨by omega, by omega⟩, ⟨by omega, by omega⟩, fun hlt => nx (fun h => by omega), fun hge => ⟨⟨by omega, by omega⟩, ?_⟩⟩
    obtain ⟨y, hy⟩ : ∃ y : Nat, E (1 + 6 * k + 2 + t) - 8 = (y : Int) := ⟨(E (1 + 6 * k + 2 + t) - 8).toNat, by omega⟩
    rw [hy]
    refine t_has (by omega) (by omega) (fun r hr hi => ⟨in01 hr, fun hne => nx (fun _ => by rw [hy]; exact (hbin y).mp (hi.mp (by omega))), fun h0 => q 0 (Or.inl rfl) ⟨fun h => absurd h (by decide), fun hA => ?_⟩⟩)
    have := hA k t hk.1 (by omega) ht.1 (by omega) (by omega)
    rw [hy] at this
    have := hi.mpr ((hbin y).mpr this)
    omega
theorem gsw_vg {c : Int} {E : Int → Int} (w : gsw (2, c, E)) : vg E := by
  obtain ⟨-, w2, w3, -, -, -, w7, w8, w9⟩ := w
  exact ⟨⟨w3 rfl, w2.2⟩, w7, w8, w9⟩
theorem dvl_gram {D D' E : Int → Int} (v : dvl D) (vE : vg E) (gE : gr_gd (gr_of E) 8 (E 1).toNat) (h : chg D D' E) : dvl D' := by
  obtain ⟨h1, h2, h3, h4, h5⟩ := v
  obtain ⟨c1, c2⟩ := h
  refine ⟨vg_eq0 c1 vE, ?_, by rw [c2 73 (by decide)]; exact h3, fun x x1 x2 => by rw [c2 _ (by omega)]; exact h4 x x1 x2, ?_⟩
  · rw [(gr_of_eq0 c1 vE).gd, c1 1 (by decide) (by decide)]; exact gE
  · obtain ⟨a1, a2, a3⟩ := h5
    rw [c2 88 (by decide)]
    refine ⟨a1, fun i i1 i2 => by show 0 ≤ D' (89 + i) ∧ D' (89 + i) ≤ 7; rw [c2 _ (by omega)]; exact a2 i i1 i2, fun i j i1 i2 j1 j2 ee => a3 i j i1 i2 j1 j2 ?_⟩
    have ee' : D' (89 + i) = D' (89 + j) := ee
    rw [c2 _ (by omega), c2 _ (by omega)] at ee'
    exact ee'
theorem m_grammar (sc : msc M) (v : dvl (M 204)) (hu : 0 ≤ M 203 34 ∧ M 203 34 ≤ 10) (hn : M 203 2 = n) (hb : 0 ≤ n ∧ n ≤ 80) (ht : ∀ k, 0 ≤ k → k < n → T k = pj_and (M 205 k) 255 ∧ -128 ≤ M 205 k ∧ M 205 k ≤ 127)
    (q : ∀ r E M', s_gram T n r E → msc M' → M' 203 2 = 0 → (r < 0 → eqT M M') → (0 ≤ r → eqU M M' ∧ chg (M 204) (M' 204) E ∧ dvl (M' 204) ∧ pshm M (M 204) M') → Q r M') : w_X12_grammar 203 M Q := by
  unfold w_X12_grammar
  rintro M0 rfl
  refine t_begin (T := T) (n := n) (by rw [pu_nk (by decide)]; exact hn) hb (fun k k1 k2 => by rw [pu_ne (by decide)]; exact ht k k1 k2) (fun M1 r1 h7 h8 h2 f1 => ?_)
  have F1 : ∀ a x, ¬ (a = 203 ∧ (x = 2 ∨ x = 5 ∨ x = 6 ∨ x = 7 ∨ x = 8)) → M1 a x = M a x := fun a x ha => by rw [f1 a x (by omega), pu_if, if_neg (by omega)]
  clear f1
  have fr : ∀ M3, eqG M1 M3 → ∀ a x, a ≠ 207 → ¬ (a = 203 ∧ (x = 2 ∨ x = 5 ∨ x = 6 ∨ x = 7 ∨ x = 8)) → M3 a x = M a x := fun M3 e3 a x a1 a2 => by rw [e3 a x a1 (by omega)]; exact F1 a x a2
  have k2 : ∀ M3, eqG M1 M3 → M3 203 2 = 0 := fun M3 e3 => by rw [e3 203 2 (by decide) (by decide)]; exact h2
  have frT : ∀ M3, eqG M1 M3 → eqT M M3 := fun M3 e3 a x a1 a2 => fr M3 e3 a x (by rintro rfl; revert a1; unfold mpk; omega) (by rintro ⟨rfl, h⟩; revert a1; unfold mpk; omega)
  have frS : ∀ M3, eqG M1 M3 → msc M3 := fun M3 e3 => sc.eq (fun a a1 a2 => funext fun x => fr M3 e3 a x (by omega) (by omega))
  have sgw : ∀ w, gwr T n w → ∃ E, s_gram T n (-1 - w) E := by
    rintro w (⟨p, p1, p2, p3, rfl⟩ | ⟨rfl, ⟨st, c, E⟩, s1, s2⟩)
    · exact ⟨fun _ => 0, Or.inl ⟨p, p1, p2, p3, rfl⟩⟩
    · exact ⟨E, Or.inr ⟨st, c, s1, Or.inl ⟨s2, rfl⟩⟩⟩
  have bad : ∀ M2, eqG M1 M2 → gbd T n M2 → w_X12_grammar_67 203 Q M2 := by
    intro M2 e2 g2
    unfold w_X12_grammar_67
    refine t_wasRight g2.1 (fun _ => ⟨⟨by decide, by decide⟩, fun h => absurd rfl h, fun _ => ?_⟩) (fun h => absurd h g2.2.1) (fun h => absurd h g2.2.1)
    obtain ⟨E, hE⟩ := sgw _ g2.2.2
    have h8b : 0 ≤ M2 203 8 := by have := g2.1.2.2.2.1; have := g2.2.1; omega
    exact q _ E M2 hE (frS M2 e2) (k2 M2 e2) (fun _ => frT M2 e2) (fun h => by omega)
  have good : ∀ M2 c E, eqG M1 M2 → gat T n M2 (2, c, E) → nlt T n (M2 203 7) → hrf T n (M2 203 7) ≠ 124 → hrf T n (M2 203 7) ≠ 59 → w_X12_grammar_67 203 Q M2 := by
    intro M2 c E e2 g2 nl2 n124 n59
    have w2 := g2.w
    unfold w_X12_grammar_67
    refine t_wasRight g2.1 (fun h => absurd g2.2.1 h) (fun _ hend => ⟨⟨by decide, by decide⟩, fun _ => ?_, fun h => absurd h (by decide)⟩) (fun _ hlt => ⟨⟨by decide, by decide⟩, fun h => absurd rfl h, fun _ => ?_⟩)
    · have hgs : gsf T n.toNat = some (2, c, E) := by rw [← hend]; exact g2.2.2.1
      rw [rm_9]
      refine t_hasAll w2 g2.2.2.2 (fun t ht hi => ⟨in01 ht, fun hne => ?_, fun h0 => ?_⟩)
      · have hA := hi.mp (by omega)
        have vE := gsw_vg w2
        have v7 : vg (M2 207) := vg_eq0 g2.2.2.2 vE
        have grE : gr_eq (gr_of (M2 207)) (gr_of E) := gr_of_eq0 g2.2.2.2 vE
        refine t_layGood (by decide) (by decide) v7 (fun gd hok => ?_)
        have m1 : M2 207 1 = E 1 := g2.2.2.2 1 (by decide) (by decide)
        have hst := vE.2.1 0 (by decide) (by decide)
        rw [show (1 : Int) + 6 * 0 = 1 by decide] at hst
        unfold w_X12_alt
        dsimp only
        rw [show (1 : Int) + 6 * 0 = 1 by decide, pu_row (show (207 : Nat) ≠ 203 by decide), m1, pu_eq]
        refine ⟨⟨by decide, by decide⟩, ?_⟩
        obtain ⟨y, hy⟩ : ∃ y : Nat, E 1 = (y : Int) := ⟨(E 1).toNat, by omega⟩
        rw [hy]
        have e3 : eqG M1 M2 := e2
        have s3 : msc (pj_up M2 203 12 (gd : Int)) := (frS M2 e2).up
        have F3 : ∀ a x, a ≠ 207 → ¬ (a = 203 ∧ (x = 2 ∨ x = 5 ∨ x = 6 ∨ x = 7 ∨ x = 8 ∨ x = 12)) → pj_up M2 203 12 (gd : Int) a x = M a x := fun a x a1 a2 => by rw [pu_if, if_neg (by omega)]; exact fr M2 e2 a x a1 (by omega)
        have k3 : pj_up M2 203 12 (gd : Int) 203 2 = 0 := by rw [pu_nk (by decide)]; exact k2 M2 e2
        have z7 : pj_up M2 203 12 (gd : Int) 207 = M2 207 := pu_row (by decide)
        generalize pj_up M2 203 12 (gd : Int) = M3 at s3 F3 k3 z7 ⊢
        have hgd : gd.testBit y = true ↔ gr_gd (gr_of E) 8 (E 1).toNat := by
          rw [hok.2 y (by omega), grE.gd, hy, Int.toNat_natCast]
        refine t_has (by have := hok.1; omega) (by omega) (fun t2 ht2 hi2 => ⟨in01 ht2, fun hne2 => ?_, fun h02 => ?_⟩)
        · have hg := hgd.mp (hi2.mp (by omega))
          have g4 : M3 204 = M 204 := funext fun x => F3 204 x (by decide) (by omega)
          have g34 : M3 203 34 = M 203 34 := F3 203 34 (by decide) (by decide)
          have g25 : M3 225 = M 225 := funext fun x => F3 225 x (by decide) (by omega)
          refine t_change (by rw [g34]; exact hu) (fun M4 e4 p4 => ?_)
          have g44 : M4 204 = M 204 := (e4.row (by decide) (by decide) (by decide)).trans g4
          have w4 : M4 207 = M2 207 := (e4.row (by decide) (by decide) (by decide)).trans z7
          unfold w_X12_grammar_132
          refine pj_lp_inv (fun y : Int × pj_M => (0 ≤ y.1 ∧ y.1 ≤ 73) ∧ (∀ a, a ≠ 204 → y.2 a = M4 a) ∧ ∀ u, y.2 204 u = if 0 ≤ u ∧ u < y.1 then E u else M 204 u) (fun y => (73 - y.1).toNat) ?_ (0, M4) ⟨⟨by simp, by simp⟩, fun _ _ => rfl, fun u => by rw [if_neg]; exact congrFun g44 u; show ¬ (0 ≤ u ∧ u < 0); omega⟩
          rintro ⟨d, M5⟩ ⟨hd, f5, w5⟩ P hP
          dsimp only at hd f5 w5 hP ⊢
          unfold w_X12_grammar_132b
          rw [rm_0, rm_9]
          refine ⟨⟨by omega, by omega⟩, fun hend2 => ?_, fun hgo => ⟨⟨by omega, by omega⟩, ⟨by omega, by omega⟩, ?_⟩⟩
          · have : d = 73 := by omega
            subst this
            have hch : chg (M 204) (M5 204) E := ⟨fun x x1 x2 => by rw [w5, if_pos ⟨x1, x2⟩], fun x x1 => by rw [w5, if_neg (by omega)]⟩
            have h0 : M5 204 0 = E 0 := hch.1 0 (by decide) (by decide)
            have hE0 := vE.1
            rw [h0]
            refine q _ E M5 (Or.inr ⟨2, c, hgs, Or.inr ⟨rfl, Or.inr (Or.inr ⟨hA, hg, rfl, hE0.1⟩)⟩⟩) ?_ ?_ (fun h => by omega) (fun _ => ⟨fun a x a1 a2 => ?_, hch, dvl_gram v vE hg hch, ?_⟩)
            · exact s3.eq (fun a a1 a2 => by rw [f5 a (by omega), e4.row (by omega) (by omega) (by omega)])
            · rw [f5 203 (by decide), e4 203 2 (by decide) (by decide) (by decide)]; exact k3
            · rw [f5 a (by rintro rfl; revert a1; unfold mph; omega), e4 a x (by rintro rfl; revert a1; unfold mph; omega) (by rintro rfl; revert a1; unfold mph; omega) (by rintro ⟨rfl, rfl⟩; revert a1; unfold mph; omega)]
              exact F3 a x (by rintro rfl; revert a1; unfold mph; omega) (by rintro ⟨rfl, h⟩; revert a1; unfold mph; omega)
            · unfold pshm at p4 ⊢
              rw [f5 203 (by decide), f5 225 (by decide)]
              rw [g34, g4, g25] at p4
              exact p4
          · rintro M6 rfl
            have hval : M5 207 d = E d := by rw [f5 207 (by decide), w4]; exact g2.2.2.2 d hd.1 (by omega)
            rw [hval]
            refine hP (d + 1, _) ⟨⟨by show 0 ≤ d + 1; omega, by show d + 1 ≤ 73; omega⟩, fun a ha => (pu_row ha).trans (f5 a ha), fun u => ?_⟩ (by show (73 - (d + 1)).toNat < (73 - d).toNat; omega)
            show pj_up M5 204 d (E d) 204 u = if 0 ≤ u ∧ u < d + 1 then _ else _
            by_cases e : u = d
            · subst e; rw [pu_eq, if_pos (by omega)]
            · rw [pu_nk e, w5 u]
              by_cases h : 0 ≤ u ∧ u < d
              · rw [if_pos h, if_pos (by omega)]
              · rw [if_neg h, if_neg (by omega)]
        · have hg : ¬ gr_gd (gr_of E) 8 (E 1).toNat := fun h => by have := hi2.mpr (hgd.mpr h); omega
          refine q (-200) E M3 (Or.inr ⟨2, c, hgs, Or.inr ⟨rfl, Or.inr (Or.inl ⟨hA, hg, rfl⟩)⟩⟩) s3 k3 (fun _ => fun a x a1 a2 => F3 a x (by rintro rfl; revert a1; unfold mpk; omega) (by rintro ⟨rfl, h⟩; revert a1; unfold mpk; omega)) (fun h => by omega)
      · have hA : ¬ allR E := fun h => by have := hi.mpr h; omega
        exact q (-201) E M2 (Or.inr ⟨2, c, hgs, Or.inr ⟨rfl, Or.inl ⟨hA, rfl⟩⟩⟩) (frS M2 e2) (k2 M2 e2) (fun _ => frT M2 e2) (fun h => by omega)
    · have hT := hrf_lt (T := T) hlt
      unfold nlt at nl2
      rw [hT] at nl2 n124 n59
      have gb := g2.fault hlt (by rw [gs1_2, if_neg n59, if_neg n124, if_neg nl2.1, if_neg nl2.2])
      have e3 : eqG M1 (pj_up M2 203 8 (M2 203 7)) := e2.tr (eqG.up (Or.inr ⟨rfl, Or.inr rfl⟩))
      obtain ⟨E', hE'⟩ := sgw _ gb.2.2
      have h8b : 0 ≤ pj_up M2 203 8 (M2 203 7) 203 8 := by rw [pu_eq]; exact g2.1.2.2.1.1
      exact q _ E' _ hE' (frS _ e3) (k2 _ e3) (fun _ => frT _ e3) (fun h => by omega)
  unfold w_X12_grammar_11
  refine pj_lp_inv (fun y : Int × pj_M => (0 ≤ y.1 ∧ y.1 ≤ 73) ∧ (∀ a, a ≠ 207 → y.2 a = M1 a) ∧ ∀ u, 0 ≤ u → u < y.1 → y.2 207 u = 0) (fun y => (73 - y.1).toNat) ?_ (0, M1) ⟨⟨by simp, by simp⟩, fun _ _ => rfl, fun u u1 u2 => by have : u < 0 := u2; omega⟩
  rintro ⟨d, M2⟩ ⟨hd, f2, w2⟩ P hP
  dsimp only at hd f2 w2 hP ⊢
  unfold w_X12_grammar_11b
  rw [rm_9]
  refine ⟨⟨by omega, by omega⟩, fun hend => ?_, fun hgo => ⟨⟨by omega, by omega⟩, ?_⟩⟩
  · have e2 : eqG M1 M2 := fun a x a1 _ => by rw [f2 a a1]
    have g2 : gat T n M2 (0, 0, fun _ => 0) := ⟨r1.eq (by rw [f2 203 (by decide)]) (by rw [f2 203 (by decide)]) (by rw [f2 203 (by decide)]) (f2 205 (by decide)), by rw [f2 203 (by decide)]; exact h8, by rw [f2 203 (by decide), h7]; rfl, fun x x1 x2 => w2 x x1 (by omega)⟩
    have loop : ∀ M3, eqG M1 M3 → (gbd T n M3 ∨ ∃ c E, gat T n M3 (2, c, E) ∧ nlt T n (M3 203 7) ∧ hrf T n (M3 203 7) ≠ 124) → w_X12_grammar_34 203 Q M3 := by
      intro M3 e3 hor
      unfold w_X12_grammar_34
      refine pj_lp_inv (fun y : pj_M => eqG M1 y ∧ (gbd T n y ∨ ∃ c E, gat T n y (2, c, E) ∧ nlt T n (y 203 7) ∧ hrf T n (y 203 7) ≠ 124)) (fun y => (n - y 203 7).toNat + (if y 203 8 = -1 then 1 else 0)) ?_ M3 ⟨e3, hor⟩
      rintro M4 ⟨e4, hor4⟩ P2 hP2
      unfold w_X12_grammar_34b
      rcases hor4 with g4 | ⟨c, E, g4, nl4, n124⟩
      · exact t_fine g4.1 (fun t ht hi => ⟨in01 ht, fun _ => bad M4 e4 g4, fun hne => absurd (hi.mp (by omega)) g4.2.1⟩)
      · have hb4 := g4.1.hb (p := M4 203 7) g4.1.2.2.1.1
        refine t_fine g4.1 (fun t ht hi => ⟨in01 ht, fun h0 => by have := hi.mpr g4.2.1; omega, fun _ => t_here g4.1 ⟨⟨by omega, by omega⟩, fun hne => good M4 c E e4 g4 nl4 n124 hne, fun heq => ?_⟩⟩)
        have hlt : M4 203 7 < n := by
          apply Int.not_le.mp; intro hle
          rw [hrf_ge (by omega)] at heq; omega
        rw [hrf_lt hlt] at heq
        rintro M5 rfl
        have g5 : gat T n (pj_up M4 203 7 (M4 203 7 + 1)) (0, c, E) := g4.step hlt (by rw [gs1_2, if_pos heq]) (pu_nk (by decide)) pu_eq (pu_nk (by decide)) (pu_row (by decide)) (fun x x1 x2 => by rw [pu_ne (by decide)]; exact g4.2.2.2 x x1 x2)
        have e5 : eqG M4 (pj_up M4 203 7 (M4 203 7 + 1)) := eqG.up (Or.inr ⟨rfl, Or.inl rfl⟩)
        have z7 : pj_up M4 203 7 (M4 203 7 + 1) 203 7 = M4 203 7 + 1 := pu_eq
        refine t_readRule g5 (fun M6 e6 g6 a6 => ?_) (fun M6 c6 E6 e6 g6 a6 nl6 n6 => ?_)
        · refine hP2 M6 ⟨(e4.tr e5).tr e6, Or.inl g6⟩ ?_
          rw [if_neg g6.2.1, if_pos g4.2.1]; have := g6.1.2.2.1; omega
        · refine hP2 M6 ⟨(e4.tr e5).tr e6, Or.inr ⟨c6, E6, g6, nl6, n6⟩⟩ ?_
          rw [if_pos g6.2.1, if_pos g4.2.1]; have := g6.1.2.2.1; omega
    exact t_readRule g2 (fun M3 e3 g3 _ => loop M3 (e2.tr e3) (Or.inl g3)) (fun M3 c E e3 g3 _ nl3 n3 => loop M3 (e2.tr e3) (Or.inr ⟨c, E, g3, nl3, n3⟩))
  · rintro M3 rfl
    refine hP (d + 1, _) ⟨⟨by show 0 ≤ d + 1; omega, by show d + 1 ≤ 73; omega⟩, fun a ha => (pu_row ha).trans (f2 a ha), fun u u1 u2 => ?_⟩ (by show (73 - (d + 1)).toNat < (73 - d).toNat; omega)
    have u2' : u < d + 1 := u2
    show pj_up M2 207 d 0 207 u = 0
    by_cases e : u = d
    · rw [e, pu_eq]
    · rw [pu_nk e]; exact w2 u u1 (by omega)
end
