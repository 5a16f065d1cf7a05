section
variable {M : pj_M} {T : Int → Int} {n : Int} {Q : Int → pj_M → Prop}
theorem m_brackets (sc : msc M) (v : dvl (M 204)) (hu : 0 ≤ M 203 34 ∧ M 203 34 ≤ 10) (hn : M 203 2 = n) (hb : 0 ≤ n ∧ n ≤ 80) (ht : ∀ k, 0 ≤ k → k < n → T k = pj_and (M 205 k) 255 ∧ -128 ≤ M 205 k ∧ M 205 k ≤ 127)
    (q0 : ∀ r, misP T n r → r ≠ -1 → ∀ M', eqT M M' → msc M' → M' 203 2 = 0 → Q (-1 - r) M')
    (q1 : misP T n (-1) → ∀ M', eqU M M' → msc M' → M' 203 2 = 0 → chb (M 204) (M' 204) n T → dvl (M' 204) → pshm M (M 204) M' → Q (n / 2) M') : w_X12_brackets 203 M Q := by
  unfold w_X12_brackets
  rintro M0 rfl
  refine t_begin (T := T) (n := n) (by rw [pu_nk (by decide)]; exact hn) hb (fun k k1 k2 => by rw [pu_ne (by decide)]; exact ht k k1 k2) (fun M1 r1 h7 h8 h2 f1 => ?_)
  have F1 : ∀ a x, ¬ (a = 203 ∧ (x = 2 ∨ x = 5 ∨ x = 6 ∨ x = 7 ∨ x = 8)) → M1 a x = M a x := fun a x ha => by rw [f1 a x (by omega), pu_if, if_neg (by omega)]
  clear f1
  unfold w_X12_brackets_11
  refine pj_lp_inv (fun y : Int × pj_M => eqL M1 y.2 ∧ rdr T n y.2 ∧ (0 ≤ y.1 ∧ y.1 ≤ 7) ∧ ((y.2 203 8 = -1 ∧ y.2 203 7 = y.1 ∧ y.1 ≤ 6 ∧ ∀ k, 0 ≤ k → k < y.1 → okP T k ∧ y.2 208 k = T k - 97) ∨ (0 ≤ y.2 203 8 ∧ y.2 203 8 < n ∧ ¬ okP T (y.2 203 8) ∧ ∀ p, 0 ≤ p → p < y.2 203 8 → okP T p))) (fun y => (n - y.2 203 7).toNat + (if y.2 203 8 = -1 then 1 else 0)) ?_ (0, M1) ⟨eqL.rf, r1, ⟨by simp, by simp⟩, Or.inl ⟨h8, h7, by simp, fun k k1 k2 => by have : k < 0 := k2; omega⟩⟩
  rintro ⟨c, M2⟩ ⟨e2, r2, hc, hor⟩ P hP
  dsimp only at e2 r2 hc hor hP ⊢
  have fr : ∀ M3, eqL M1 M3 → ∀ a x, a ≠ 208 → ¬ (a = 203 ∧ (x = 2 ∨ x = 5 ∨ x = 6 ∨ x = 7 ∨ x = 8)) → M3 a x = M a x := fun M3 e3 a x a1 a2 => by rw [e3 a x a1 (by omega)]; exact F1 a x a2
  have k2 : ∀ M3, eqL M1 M3 → M3 203 2 = 0 := fun M3 e3 => by rw [e3 203 2 (by decide) (by decide)]; exact h2
  have bad : ∀ M3, eqL M1 M3 → rdr T n M3 → M3 203 8 ≠ -1 → misP T n (M3 203 8) → w_X12_brackets_115 203 c Q M3 := by
    intro M3 e3 r3 hne hm
    unfold w_X12_brackets_115
    refine t_wasRight r3 (fun _ => ⟨⟨by decide, by decide⟩, fun h => absurd rfl h, fun _ => ?_⟩) (fun he => absurd he hne) (fun he => absurd he hne)
    refine q0 _ hm hne M3 (fun a x a1 a2 => fr M3 e3 a x ?_ ?_) (sc.eq (fun a a1 a2 => funext fun x => fr M3 e3 a x (by omega) (by omega))) (k2 M3 e3)
    · rintro rfl; revert a1; unfold mpk; omega
    · rintro ⟨rfl, h⟩; revert a1; unfold mpk; omega
  have hrem : pj_rem c 2 = c % 2 := pd_rem ⟨by omega, by omega⟩ ⟨by decide, by decide⟩
  have hdiv : pj_div c 2 = c / 2 := pd_div ⟨by omega, by omega⟩ ⟨by decide, by decide⟩
  unfold w_X12_brackets_11b
  refine t_fine r2 (fun r hr hi => ⟨in01 hr, fun h0 => ?_, fun hne => ?_⟩)
  · rcases hor with ⟨a1, _⟩ | ⟨a1, a2, a3, a4⟩
    · have := hi.mpr a1; omega
    · have hm : misP T n (M2 203 8) := Or.inr ⟨a1, a2, a3, a4⟩
      unfold w_X12_brackets_100
      rw [hrem]
      refine ⟨⟨by omega, by omega⟩, fun _ => bad M2 e2 r2 (by omega) hm, fun _ => t_fault r2 (fun _ => bad M2 e2 r2 (by omega) hm) (fun h => by omega)⟩
  · have he : M2 203 8 = -1 := hi.mp (by omega)
    rcases hor with ⟨_, a2, a3, a4⟩ | ⟨a1, _⟩
    · have n2 := r2.1
      rw [n2, a2]
      refine ⟨⟨by omega, by omega⟩, ⟨by omega, by omega⟩, fun hle => ?_, fun hlt => ?_⟩
      · have hcn : c = n := by have := r2.2.2.1; omega
        subst hcn
        unfold w_X12_brackets_100
        rw [hrem, n2]
        refine ⟨⟨by omega, by omega⟩, fun heven => ?_, fun hodd => t_fault r2 (fun h => absurd he h) (fun _ => ?_)⟩
        · have hm : misP T c (-1) := Or.inl ⟨Or.inl ⟨rfl, by omega⟩, fun p p1 p2 => (a4 p p1 p2).1⟩
          unfold w_X12_brackets_115
          refine t_wasRight r2 (fun h => absurd he h) (fun _ _ => ⟨⟨by decide, by decide⟩, fun _ => ?_, fun h => absurd h (by decide)⟩) (fun _ h => by omega)
          have g4 : M2 204 = M 204 := funext fun x => fr M2 e2 204 x (by decide) (by omega)
          have g34 : M2 203 34 = M 203 34 := fr M2 e2 203 34 (by decide) (by decide)
          have g25 : M2 225 = M 225 := funext fun x => fr M2 e2 225 x (by decide) (by omega)
          refine t_change (by rw [g34]; exact hu) (fun M3 e3 p3 => ?_)
          have g34' : M3 204 = M 204 := (e3.row (by decide) (by decide) (by decide)).trans g4
          have w3 : M3 208 = M2 208 := e3.row (by decide) (by decide) (by decide)
          rw [rm_0, hdiv]
          rintro M4 rfl
          unfold w_X12_brackets_145
          refine pj_lp_inv (fun y : Int × pj_M => (0 ≤ y.1 ∧ y.1 ≤ 6) ∧ (∀ a, a ≠ 204 → y.2 a = M3 a) ∧ ∀ u, y.2 204 u = if u = 88 then c / 2 else if 89 ≤ u ∧ u < 89 + y.1 then (if u - 89 < c then T (u - 89) - 97 else 0) else M 204 u) (fun y => (6 - y.1).toNat) ?_ (0, _) ⟨⟨by simp, by simp⟩, fun a ha => pu_row ha, fun u => ?_⟩
          · rintro ⟨d, M4⟩ ⟨hd, f4, w4⟩ P2 hP2
            dsimp only at hd f4 w4 hP2 ⊢
            have stp : ∀ y2, d < 6 → y2 = (if d < c then T d - 97 else 0) → w_X12_brackets_174 203 c d 204 (89 + d) y2 (fun (x2 : Int) (M : pj_M) => P2 (x2, M)) Q M4 := by
              intro y2 hd6 hy
              unfold w_X12_brackets_174
              refine ⟨⟨by omega, by omega⟩, ?_⟩
              rintro M5 rfl
              refine hP2 (d + 1, _) ⟨⟨by show 0 ≤ d + 1; omega, by show d + 1 ≤ 6; omega⟩, fun a ha => (pu_row ha).trans (f4 a ha), fun u => ?_⟩ (by show (6 - (d + 1)).toNat < (6 - d).toNat; omega)
              show pj_up M4 204 (89 + d) y2 204 u = if u = 88 then c / 2 else if 89 ≤ u ∧ u < 89 + (d + 1) then _ else _
              by_cases e : u = 89 + d
              · subst e
                rw [pu_eq, if_neg (by omega), if_pos (by omega), hy, show 89 + d - 89 = d by omega]
              · rw [pu_nk e, w4 u]
                by_cases h88 : u = 88
                · rw [if_pos h88, if_pos h88]
                · rw [if_neg h88, if_neg h88]
                  by_cases h : 89 ≤ u ∧ u < 89 + d
                  · rw [if_pos h, if_pos (show 89 ≤ u ∧ u < 89 + (d + 1) by omega)]
                  · rw [if_neg h, if_neg (by omega)]
            unfold w_X12_brackets_145b
            rw [rm_0, rm_10, hdiv]
            refine ⟨⟨by omega, by omega⟩, fun hend => ?_, fun hgo => ⟨⟨by omega, by omega⟩, ⟨by omega, by omega⟩, fun hle2 => stp 0 (by omega) (by rw [if_neg (by omega)]), fun hlt2 => ⟨⟨by omega, by omega⟩, stp _ (by omega) ?_⟩⟩⟩
            · have : d = 6 := by omega
              subst this
              have hch : chb (M 204) (M4 204) c T := ⟨by rw [w4, if_pos rfl], fun k k1 k2 => by rw [w4, if_neg (by omega), if_pos (by omega), if_pos (by omega), show 89 + k - 89 = k by omega], fun x hx => by rw [w4, if_neg (by omega), if_neg (by omega)]⟩
              refine q1 hm M4 (fun a x a1 a2 => ?_) ?_ ?_ hch (dvl_brk v ⟨hc.1, a3, by omega⟩ (fun p p1 p2 => (a4 p p1 p2).1) hch) ?_
              · have ha : a ≠ 204 := by rintro rfl; revert a1; unfold mph; omega
                rw [f4 a ha, e3 a x (by rintro rfl; revert a1; unfold mph; omega) (by rintro rfl; revert a1; unfold mph; omega) (by rintro ⟨rfl, rfl⟩; revert a1; unfold mph; omega)]
                exact fr M2 e2 a x (by rintro rfl; revert a1; unfold mph; omega) (by rintro ⟨rfl, h⟩; revert a1; unfold mph; omega)
              · exact sc.eq (fun a a1 a2 => by rw [f4 a (by omega), e3.row (by omega) (by omega) (by omega)]; exact funext fun x => fr M2 e2 a x (by omega) (by omega))
              · rw [f4 203 (by decide), e3 203 2 (by decide) (by decide) (by decide)]; exact k2 M2 e2
              · unfold pshm at p3 ⊢
                rw [f4 203 (by decide), f4 225 (by decide)]
                rw [g34, g4, g25] at p3
                exact p3
            · rw [f4 208 (by decide), w3, (a4 d hd.1 (by omega)).2, if_pos (by omega)]
          · show pj_up M3 204 88 (c / 2) 204 u = if u = 88 then c / 2 else if 89 ≤ u ∧ u < 89 + 0 then _ else _
            by_cases h88 : u = 88
            · rw [if_pos h88, h88, pu_eq]
            · rw [if_neg h88, pu_nk h88, if_neg (by omega), g34']
        · have hm : misP T c c := Or.inl ⟨Or.inr ⟨rfl, by omega⟩, fun p p1 p2 => (a4 p p1 p2).1⟩
          have e8 : pj_up M2 203 8 c 203 8 = c := pu_eq
          exact bad _ (e2.tr (eqL.up (by omega))) (r2.wr ⟨by omega, by omega⟩) (by rw [e8]; omega) (by rw [e8]; exact hm)
      · have inner : ∀ (s : Int) (M3 : pj_M), eqL M1 M3 → rdr T n M3 → (∀ k, 0 ≤ k → k < c → M3 208 k = T k - 97) → pj_in s → ((M3 203 8 = -1 ∧ sgn (T c) ∧ s = T c - 97 ∧ M3 203 7 = c + 1) ∨ (M3 203 8 = c ∧ ¬ okP T c)) → (n - M3 203 7).toNat + (if M3 203 8 = -1 then 1 else 0) < (n - c).toNat + 1 → w_X12_brackets_40 203 c s (fun (x1 : Int) (M : pj_M) => P (x1, M)) Q 0 M3 := by
          intro s M3 e3 r3 w3 hs hor3 hmu
          have fin : ∀ M4, eqL M1 M4 → rdr T n M4 → M4 208 = M3 208 → M4 203 7 = M3 203 7 → ((M4 203 8 = -1 ∧ M3 203 8 = -1 ∧ c < 6 ∧ okP T c ∧ s = T c - 97 ∧ M4 203 7 = c + 1) ∨ (M4 203 8 = c ∧ ¬ okP T c)) → w_X12_brackets_87 203 c s (fun (x1 : Int) (M : pj_M) => P (x1, M)) Q M4 := by
            intro M4 e4 r4 g8 g7 hor4
            unfold w_X12_brackets_87
            rw [rm_10]
            refine ⟨⟨by omega, by omega⟩, ?_⟩
            rintro M5 rfl
            have z8 : pj_up M4 208 c s 203 8 = M4 203 8 := pu_ne (by decide)
            have z7 : pj_up M4 208 c s 203 7 = M4 203 7 := pu_ne (by decide)
            refine hP (c + 1, _) ⟨e4.tr (eqL.up (by omega)), r4.up (by decide) (by decide), ⟨by show 0 ≤ c + 1; omega, by show c + 1 ≤ 7; omega⟩, ?_⟩ ?_
            · show (pj_up M4 208 c s 203 8 = -1 ∧ pj_up M4 208 c s 203 7 = c + 1 ∧ c + 1 ≤ 6 ∧ ∀ k, 0 ≤ k → k < c + 1 → okP T k ∧ pj_up M4 208 c s 208 k = T k - 97) ∨ (0 ≤ pj_up M4 208 c s 203 8 ∧ pj_up M4 208 c s 203 8 < n ∧ ¬ okP T (pj_up M4 208 c s 203 8) ∧ ∀ p, 0 ≤ p → p < pj_up M4 208 c s 203 8 → okP T p)
              rw [z8, z7]
              rcases hor4 with ⟨b1, _, b2, b3, b4, b5⟩ | ⟨b1, b2⟩
              · refine Or.inl ⟨b1, b5, by omega, fun k k1 k2 => ?_⟩
                by_cases e : k = c
                · rw [e, pu_eq]; exact ⟨b3, b4⟩
                · rw [pu_nk e, g8]; exact ⟨(a4 k k1 (by omega)).1, w3 k k1 (by omega)⟩
              · rw [b1]
                exact Or.inr ⟨hc.1, by omega, b2, fun p p1 p2 => (a4 p p1 p2).1⟩
            · show (n - pj_up M4 208 c s 203 7).toNat + (if pj_up M4 208 c s 203 8 = -1 then 1 else 0) < (n - M2 203 7).toNat + (if M2 203 8 = -1 then 1 else 0)
              rw [z8, z7, g7, if_pos he, a2]
              rcases hor4 with ⟨b1, b1', _⟩ | ⟨b1, _⟩
              · rw [if_pos b1]; rw [if_pos b1'] at hmu; exact hmu
              · rw [if_neg (by omega)]; split at hmu <;> omega
          unfold w_X12_brackets_40
          refine pj_lp_inv (fun y : Int × pj_M => (0 ≤ y.1 ∧ y.1 ≤ c) ∧ (∀ a x, ¬ (a = 203 ∧ x = 8) → y.2 a x = M3 a x) ∧ ((y.2 203 8 = -1 ∧ M3 203 8 = -1 ∧ sgn (T c) ∧ s = T c - 97 ∧ M3 203 7 = c + 1 ∧ ∀ k, 0 ≤ k → k < y.1 → T k ≠ T c) ∨ (y.2 203 8 = c ∧ ¬ okP T c))) (fun y => (c - y.1).toNat) ?_ (0, M3) ⟨⟨by simp, by show 0 ≤ c; omega⟩, fun _ _ _ => rfl, ?_⟩
          · rintro ⟨d, M4⟩ ⟨hd, f4, hor4⟩ P2 hP2
            dsimp only at hd f4 hor4 hP2 ⊢
            have h48 : -1 ≤ M4 203 8 ∧ M4 203 8 ≤ 80 := by rcases hor4 with ⟨b1, _⟩ | ⟨b1, _⟩ <;> omega
            have g7 : M4 203 7 = M3 203 7 := f4 203 7 (by decide)
            have g8 : M4 208 = M3 208 := funext fun x => f4 208 x (by omega)
            have r4 : rdr T n M4 := by
              obtain ⟨z1, z2, z3, z4, z5⟩ := r3
              refine ⟨by rw [f4 203 6 (by decide)]; exact z1, z2, by rw [g7]; exact z3, h48, fun k k1 k2 => by rw [f4 205 k (by omega)]; exact z5 k k1 k2⟩
            have e4 : eqL M1 M4 := fun a x b1 b2 => by rw [f4 a x (by omega)]; exact e3 a x b1 b2
            unfold w_X12_brackets_40b
            rw [rm_10, g8]
            refine ⟨⟨by omega, by omega⟩, ⟨by omega, by omega⟩, fun hend => ⟨⟨by omega, by omega⟩, fun hne6 => ?_, fun h6 => ?_⟩, fun hgo => ⟨⟨by omega, by omega⟩, ?_, hs, fun hne2 => ?_, fun heq => ?_⟩⟩
            · refine fin M4 e4 r4 g8 g7 ?_
              rcases hor4 with ⟨b1, b1', b2, b3, b4, b5⟩ | b
              · exact Or.inl ⟨b1, b1', by omega, ⟨by omega, b2, fun p p1 p2 => b5 p p1 (by omega)⟩, b3, by rw [g7]; exact b4⟩
              · exact Or.inr b
            · have nok : ¬ okP T c := fun h => by have := h.1; omega
              rcases hor4 with ⟨b1, b1', b2, b3, b4, b5⟩ | b
              · rw [g7, b4]
                refine t_fault r4 (fun h => absurd b1 h) (fun _ => ?_)
                rw [show c + 1 - 1 = c by omega]
                exact fin _ (e4.tr (eqL.up (by omega))) (r4.wr ⟨by omega, by omega⟩) (by rw [pu_row (by decide)]; exact g8) (by rw [pu_nk (by decide)]; exact g7) (Or.inr ⟨pu_eq, nok⟩)
              · exact t_fault r4 (fun h => fin M4 e4 r4 g8 g7 (Or.inr b)) (fun h => by have := b.1; omega)
            · have := (r3.tb (k := d) hd.1 (by omega)); rw [w3 d hd.1 (by omega)]; exact ⟨by omega, by omega⟩
            · refine hP2 (d + 1, M4) ⟨⟨by show 0 ≤ d + 1; omega, by show d + 1 ≤ c; omega⟩, f4, ?_⟩ (by show (c - (d + 1)).toNat < (c - d).toNat; omega)
              rcases hor4 with ⟨b1, b1', b2, b3, b4, b5⟩ | b
              · refine Or.inl ⟨b1, b1', b2, b3, b4, fun k k1 k2 => ?_⟩
                have k2' : k < d + 1 := k2
                by_cases e : k = d
                · rw [e]; intro h; rw [w3 d hd.1 (by omega), h] at hne2; exact hne2 b3.symm
                · exact b5 k k1 (by omega)
              · exact Or.inr b
            · have mu2 : (c - (d + 1)).toNat < (c - d).toNat := by omega
              refine t_fault r4 (fun hne8 => ?_) (fun he8 => ?_)
              · refine hP2 (d + 1, M4) ⟨⟨by show 0 ≤ d + 1; omega, by show d + 1 ≤ c; omega⟩, f4, ?_⟩ mu2
                rcases hor4 with ⟨b1, _⟩ | b
                · exact absurd b1 hne8
                · exact Or.inr b
              · rcases hor4 with ⟨b1, b1', b2, b3, b4, b5⟩ | b
                · rw [g7, b4, show c + 1 - 1 = c by omega]
                  refine hP2 (d + 1, _) ⟨⟨by show 0 ≤ d + 1; omega, by show d + 1 ≤ c; omega⟩, fun a x ha => by show pj_up M4 203 8 c a x = _; rw [pu_if, if_neg ha]; exact f4 a x ha, Or.inr ⟨by show pj_up M4 203 8 c 203 8 = c; exact pu_eq, fun hok => ?_⟩⟩ mu2
                  rw [w3 d hd.1 (by omega), b3] at heq
                  exact hok.2.2 d hd.1 (by omega) (by omega)
                · have := b.1; omega
          · rcases hor3 with ⟨b1, b2, b3, b4⟩ | b
            · exact Or.inl ⟨b1, b1, b2, b3, b4, fun k k1 k2 => by have : k < 0 := k2; omega⟩
            · exact Or.inr b
        refine t_oneOf r2 ⟨by decide, by decide, by decide⟩ (fun h => absurd he h) (fun _ hlt2 hf1 hf2 => ?_) (fun _ hno => ?_)
        · rw [a2] at hf1 hf2 hlt2 ⊢
          refine inner _ _ (e2.tr (eqL.up (by omega))) (r2.at ⟨by omega, by omega⟩) (fun k k1 k2 => by rw [pu_ne (by decide)]; exact (a4 k k1 k2).2) ⟨by omega, by omega⟩ (Or.inl ⟨by rw [pu_nk (by decide)]; exact he, ⟨by omega, by omega⟩, rfl, pu_eq⟩) ?_
          rw [pu_eq, pu_nk (by decide), if_pos he]; omega
        · rw [a2] at hno ⊢
          refine inner _ _ (e2.tr (eqL.up (by omega))) (r2.wr ⟨by omega, by omega⟩) (fun k k1 k2 => by rw [pu_ne (by decide)]; exact (a4 k k1 k2).2) ⟨by decide, by decide⟩ (Or.inr ⟨pu_eq, fun hok => hno ⟨by omega, hok.2.1.1, by have := hok.2.1.2; omega⟩⟩) ?_
          rw [pu_eq, pu_nk (by decide), if_neg (by omega), a2]; omega
    · omega
end
