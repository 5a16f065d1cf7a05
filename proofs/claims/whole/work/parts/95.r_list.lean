theorem pu_row {M : pj_M} {a b : Nat} {k v : Int} (h : b ≠ a) : pj_up M a k v b = M b := funext fun _ => pu_ne h
theorem rr_0 : pj_rf 178 0 = 179 := by decide
theorem rr_1 : pj_rf 178 1 = 180 := by decide
theorem rr_3 : pj_rf 178 3 = 181 := by decide
theorem rr_4 : pj_rf 178 4 = 182 := by decide
abbrev lP : Type := List (Int × Int)
/-- a report, from a place on -/
def rpt (F : Int → Int → Prop) (n2 : Int) (bh : Int → Int) : lP → Int → Prop
  | [], p => F p n2
  | (i, j) :: l, p => (p < j ∧ j ≤ n2) ∧ ¬ F p j ∧ F p (j - 1) ∧ (0 ≤ i ∧ i < j ∧ ¬ F i j ∧ F (i + 1) j) ∧ rpt F n2 bh l (bh j)
theorem rpt.uniq {F : Int → Int → Prop} {n2 : Int} {bh : Int → Int} (m : fmn n2 F) (hb : ∀ j, 1 ≤ j → j ≤ n2 → j ≤ bh j ∧ bh j ≤ n2) : ∀ (l l' : lP) (p : Int), 0 ≤ p → p ≤ n2 → rpt F n2 bh l p → rpt F n2 bh l' p → l = l'
  | [], [], _, _, _, _, _ => rfl
  | [], (i, j) :: l, p, h0, h1, h, h' => absurd (m.2 p n2 p j h0 (Int.le_refl _) (by have := h'.1; omega) h'.1.2 (Int.le_refl _) h) h'.2.1
  | (i, j) :: l, [], p, h0, h1, h, h' => absurd (m.2 p n2 p j h0 (Int.le_refl _) (by have := h.1; omega) h.1.2 (Int.le_refl _) h') h.2.1
  | (i, j) :: l, (i', j') :: l', p, h0, h1, h, h' => by
    obtain ⟨a1, a2, a3, a4, a5⟩ := h
    obtain ⟨b1, b2, b3, b4, b5⟩ := h'
    have ej : j = j' := by
      apply Int.le_antisymm
      · apply Int.not_lt.mp; intro hlt
        exact b2 (m.2 p (j - 1) p j' h0 (Int.le_refl _) (by omega) (by omega) (by omega) a3)
      · apply Int.not_lt.mp; intro hlt
        exact a2 (m.2 p (j' - 1) p j h0 (Int.le_refl _) (by omega) (by omega) (by omega) b3)
    subst ej
    have ei : i = i' := by
      apply Int.le_antisymm
      · apply Int.not_lt.mp; intro hlt
        exact a4.2.2.1 (m.2 (i' + 1) j i j (by omega) (by omega) (by omega) (Int.le_refl _) (by omega) b4.2.2.2)
      · apply Int.not_lt.mp; intro hlt
        exact b4.2.2.1 (m.2 (i + 1) j i' j (by omega) (by omega) (by omega) (Int.le_refl _) (by omega) a4.2.2.2)
    subst ei
    have hbj := hb j (by omega) a1.2
    rw [rpt.uniq m hb l l' (bh j) (by omega) hbj.2 a5 b5]
/-- backwards -/
def rbk (F : Int → Int → Prop) : lP → Int → Prop
  | [], q => F 0 q
  | (i, j) :: l, q => (0 ≤ i ∧ i < q ∧ ¬ F i q ∧ F (i + 1) q) ∧ (i < j ∧ j ≤ q ∧ ¬ F i j ∧ F i (j - 1)) ∧ rbk F l i
theorem rbk.uniq {F : Int → Int → Prop} {n2 : Int} (m : fmn n2 F) : ∀ (l l' : lP) (q : Int), 0 ≤ q → q ≤ n2 → rbk F l q → rbk F l' q → l = l'
  | [], [], _, _, _, _, _ => rfl
  | [], (i, j) :: l, q, h0, h1, h, h' => absurd (m.2 0 q i q (Int.le_refl _) h'.1.1 (by have := h'.1; omega) (Int.le_refl _) h1 h) h'.1.2.2.1
  | (i, j) :: l, [], q, h0, h1, h, h' => absurd (m.2 0 q i q (Int.le_refl _) h.1.1 (by have := h.1; omega) (Int.le_refl _) h1 h') h.1.2.2.1
  | (i, j) :: l, (i', j') :: l', q, h0, h1, h, h' => by
    obtain ⟨a1, a2, a3⟩ := h
    obtain ⟨b1, b2, b3⟩ := h'
    have ei : i = i' := by
      apply Int.le_antisymm
      · apply Int.not_lt.mp; intro hlt
        exact a1.2.2.1 (m.2 (i' + 1) q i q (by omega) (by omega) (by omega) (Int.le_refl _) h1 b1.2.2.2)
      · apply Int.not_lt.mp; intro hlt
        exact b1.2.2.1 (m.2 (i + 1) q i' q (by omega) (by omega) (by omega) (Int.le_refl _) h1 a1.2.2.2)
    subst ei
    have ej : j = j' := by
      apply Int.le_antisymm
      · apply Int.not_lt.mp; intro hlt
        exact b2.2.2.1 (m.2 i (j - 1) i j' (by omega) (Int.le_refl _) (by omega) (by omega) (by omega) a2.2.2.2)
      · apply Int.not_lt.mp; intro hlt
        exact a2.2.2.1 (m.2 i (j' - 1) i j (by omega) (Int.le_refl _) (by omega) (by omega) (by omega) b2.2.2.2)
    subst ej
    rw [rbk.uniq m l l' i a1.1 (by omega) a3 b3]
/-- all least ones -/
def lst1 (F : Int → Int → Prop) (n2 : Int) (x : Int × Int) : Prop := (0 ≤ x.1 ∧ x.1 < x.2 ∧ x.2 ≤ n2) ∧ ¬ F x.1 x.2 ∧ F (x.1 + 1) x.2 ∧ F x.1 (x.2 - 1)
def lsts (F : Int → Int → Prop) (n2 : Int) (l : lP) : Prop := l.Pairwise (fun a b => a.1 < b.1) ∧ ∀ x, x ∈ l ↔ lst1 F n2 x
theorem srt_uniq : ∀ {l l' : lP}, l.Pairwise (fun a b => a.1 < b.1) → l'.Pairwise (fun a b => a.1 < b.1) → (∀ x, x ∈ l ↔ x ∈ l') → l = l'
  | [], [], _, _, _ => rfl
  | [], a :: l, _, _, h => by have := (h a).mpr (List.mem_cons_self ..); cases this
  | a :: l, [], _, _, h => by have := (h a).mp (List.mem_cons_self ..); cases this
  | a :: l, b :: l', h1, h2, h => by
    rw [List.pairwise_cons] at h1 h2
    have hab : a = b := by
      rcases List.mem_cons.mp ((h a).mp (List.mem_cons_self ..)) with h3 | h3
      · exact h3
      · rcases List.mem_cons.mp ((h b).mpr (List.mem_cons_self ..)) with h4 | h4
        · exact h4.symm
        · have g1 := h2.1 a h3
          have g2 := h1.1 b h4
          omega
    subst hab
    rw [srt_uniq h1.2 h2.2 (fun x => ⟨fun hx => by
      rcases List.mem_cons.mp ((h x).mp (List.mem_cons_of_mem _ hx)) with h3 | h3
      · subst h3; have := h1.1 x hx; omega
      · exact h3, fun hx => by
      rcases List.mem_cons.mp ((h x).mpr (List.mem_cons_of_mem _ hx)) with h3 | h3
      · subst h3; have := h2.1 x hx; omega
      · exact h3⟩)]
theorem lsts.uniq {F : Int → Int → Prop} {n2 : Int} {l l' : lP} (h : lsts F n2 l) (h' : lsts F n2 l') : l = l' := srt_uniq h.1 h'.1 (fun x => (h.2 x).trans (h'.2 x).symm)
/-- pieces as they lie in a Report -/
def rpa (M : pj_M) (a : lP) : Prop := M 178 2 = (a.length : Int) ∧ ∀ (k : Nat) (x : Int × Int), a[k]? = some x → M 179 (k : Int) = x.1 ∧ M 180 (k : Int) = x.2
def eqr (M M' : pj_M) : Prop := ∀ a x, ¬ (178 ≤ a ∧ a ≤ 182) → M' a x = M a x
theorem eqr.rf {M : pj_M} : eqr M M := fun _ _ _ => rfl
theorem eqr.tr {M M1 M2 : pj_M} (h : eqr M M1) (h2 : eqr M1 M2) : eqr M M2 := fun a x h3 => (h2 a x h3).trans (h a x h3)
theorem eqr.up {M : pj_M} {a : Nat} {k v : Int} (h : 178 ≤ a ∧ a ≤ 182) : eqr M (pj_up M a k v) := fun b x hb => pu_ne (by omega)
theorem eqr.row {M M' : pj_M} {a : Nat} (h : eqr M M') (h2 : a < 178 ∨ 182 < a) : M' a = M a := funext fun x => h a x (by omega)
theorem cft.eqr {M M' : pj_M} {c : Nat} {n2 : Int} {F : Int → Int → Prop} (h : cft M c n2 F) (e : eqr M M') : cft M' c n2 F := by
  have hc2 : c = 115 ∨ c = 135 ∨ c = 155 := h.1
  unfold cft at h ⊢
  rw [e.row (show c < 178 ∨ _ by omega), e.row (show c + 19 < 178 ∨ _ by omega)]
  exact h
theorem t_addR {M : pj_M} {a : lP} {i j : Int} {Q : pj_M → Prop} (h : rpa M a) (hl : a.length < 16) (q : ∀ M', eqr M M' → M' 181 = M 181 → M' 182 = M 182 → rpa M' (a ++ [(i, j)]) → Q M') : w_X8_add 178 i j M Q := by
  obtain ⟨h2, hx⟩ := h
  unfold w_X8_add
  rw [rr_0, rr_1, h2]
  refine ⟨⟨by omega, by omega⟩, fun h => absurd h (by omega), fun _ => ⟨⟨by omega, by omega⟩, ?_⟩⟩
  rintro M3 rfl
  rw [pu_ne (show (178 : Nat) ≠ 179 by decide), h2]
  refine ⟨⟨by omega, by omega⟩, ?_⟩
  rintro M5 rfl M6 rfl
  refine q _ (((eqr.up (by decide)).tr (eqr.up (by decide))).tr (eqr.up (by decide))) ?_ ?_ ⟨?_, fun k x hk => ?_⟩
  · funext y; rw [pu_ne (by decide), pu_ne (by decide), pu_ne (by decide)]
  · funext y; rw [pu_ne (by decide), pu_ne (by decide), pu_ne (by decide)]
  · rw [pu_eq, pu_ne (by decide), pu_ne (by decide), h2, List.length_append]
    show (a.length : Int) + 1 = ((a.length + 1 : Nat) : Int)
    omega
  · rw [pu_ne (by decide), pu_ne (by decide), pu_ne (show (180 : Nat) ≠ 178 by decide)]
    by_cases e : k < a.length
    · rw [List.getElem?_append_left e] at hk
      have := hx k x hk
      rw [pu_nk (by omega), pu_nk (by omega), pu_ne (by decide)]
      exact this
    · rw [List.getElem?_append_right (by omega)] at hk
      have : k = a.length := by
        apply Classical.byContradiction; intro hne
        rw [List.getElem?_eq_none (by simp; omega)] at hk; cases hk
      subst this
      simp at hk
      subst hk
      rw [pu_eq, pu_eq]; exact ⟨rfl, rfl⟩
theorem rpa.nil {M : pj_M} : rpa (pj_up M 178 2 0) [] := ⟨pu_eq, fun k x h => by simp at h⟩
/-- from the left; behind a mate, or not -/
theorem t_fromLeft {M : pj_M} {c : Nat} {n2 by_ : Int} {F : Int → Int → Prop} {bh : Int → Int} {Q : pj_M → Prop} (hf : cft M c n2 F) (hby : by_ = 0 ∨ by_ = 1) (hbh : ∀ j, 1 ≤ j → j ≤ n2 → j ≤ bh j ∧ bh j ≤ n2) (h0 : by_ = 0 → ∀ j, bh j = j)
    (h1 : by_ = 1 → ∀ (M' : pj_M) (j : Int) (Q' : Int → pj_M → Prop), eqr M M' → M' 181 = M 181 → 1 ≤ j → j ≤ n2 → Q' (bh j) M' → w_X8_placeBehindMate 178 j M' Q')
    (q : ∀ M' l, eqr M M' → M' 181 = M 181 → M' 182 = M 182 → rpa M' l → l.length ≤ 16 → rpt F n2 bh l 0 → Q M') : w_X8_fromLeft 178 c by_ M Q := by
  obtain ⟨hc, h11, hn, hb, m, ht⟩ := hf
  have hc2 : c = 115 ∨ c = 135 ∨ c = 155 := hc
  unfold w_X8_fromLeft
  have z181 : pj_up M 178 2 0 181 = M 181 := pu_row (by decide)
  have z182 : pj_up M 178 2 0 182 = M 182 := pu_row (by decide)
  rintro M0 rfl
  unfold w_X8_fromLeft_10
  refine pj_lp_inv (fun y : Int × Int × pj_M => ∃ a : lP, (0 ≤ y.1 ∧ y.1 ≤ n2) ∧ (1 ≤ y.2.1 ∧ y.2.1 ≤ n2 + 1) ∧ (a.length : Int) ≤ y.1 ∧ eqr M y.2.2 ∧ y.2.2 181 = M 181 ∧ y.2.2 182 = M 182 ∧ rpa y.2.2 a ∧ (∀ j', y.1 ≤ j' → j' < y.2.1 → F y.1 j') ∧ ∀ l, rpt F n2 bh l y.1 → rpt F n2 bh (a ++ l) 0) (fun y => (n2 + 1 - y.2.1).toNat) ?_ (0, 1, _) ⟨[], ⟨Int.le_refl _, by show (0 : Int) ≤ n2; omega⟩, ⟨Int.le_refl _, by show (1 : Int) ≤ n2 + 1; omega⟩, by show (([] : lP).length : Int) ≤ 0; decide, eqr.up (by decide), z181, z182, rpa.nil, fun j' a1 a2 => ?_, fun l h => h⟩
  · rintro ⟨p, j, M1⟩ ⟨a, hp, hj, hal, e1, e181, e182, ra, hall, hrest⟩ P hP
    dsimp only at hp hj hal e1 e181 e182 ra hall hrest hP ⊢
    unfold w_X8_fromLeft_10b
    rw [e1.row (show c < 178 ∨ _ by omega), h11]
    have h19 : ∀ M', eqr M M' → M' (c + 19) = M (c + 19) := fun M' e => e.row (by omega)
    refine ⟨⟨by omega, by omega⟩, ⟨by omega, by omega⟩, fun hend => ?_, fun hend => ⟨⟨by omega, by omega⟩, ⟨by omega, by omega⟩, fun hjp => ?_, fun hjp => t_leastFitting hc ⟨by omega, by omega⟩ ?_⟩⟩
    · refine q M1 a e1 e181 e182 ra (by omega) ?_
      have := hrest [] (hall n2 hp.2 (by omega))
      rwa [List.append_nil] at this
    · refine hP (p, j + 1, M1) ⟨a, hp, ⟨by show 1 ≤ j + 1; omega, by show j + 1 ≤ n2 + 1; omega⟩, hal, e1, e181, e182, ra, fun j' a1 a2 => ?_, hrest⟩ (by show (n2 + 1 - (j + 1)).toNat < (n2 + 1 - j).toNat; omega)
      have a1' : p ≤ j' := a1
      have a2' : j' < j + 1 := a2
      have : j' = p := by omega
      subst this
      exact m.1 j' (by omega) (by omega)
    · rw [h19 M1 e1]
      have hL := hb (108 + j)
      have hF := ht p j hp.1 (by omega) (by omega)
      refine ⟨⟨by omega, by omega⟩, ⟨by omega, by omega⟩, fun hle => ?_, fun hgt => t_leastFitting hc ⟨by omega, by omega⟩ ?_⟩
      · refine hP (p, j + 1, M1) ⟨a, hp, ⟨by show 1 ≤ j + 1; omega, by show j + 1 ≤ n2 + 1; omega⟩, hal, e1, e181, e182, ra, fun j' a1 a2 => ?_, hrest⟩ (by show (n2 + 1 - (j + 1)).toNat < (n2 + 1 - j).toNat; omega)
        have a2' : j' < j + 1 := a2
        by_cases e : j' = j
        · subst e; exact hF.mp hle
        · exact hall j' a1 (by omega)
      · rw [h19 M1 e1]
        have hFj := (ht j j (by omega) (Int.le_refl _) (by omega)).mpr (m.1 j (by omega) (by omega))
        have hi1 := ht (M (c + 19) (108 + j) - 1) j (by omega) (by omega) (by omega)
        have hi2 := ht (M (c + 19) (108 + j) - 1 + 1) j (by omega) (by omega) (by omega)
        have hbj := hbh j (by omega) (by omega)
        have hpiece : ∀ l, rpt F n2 bh l (bh j) → rpt F n2 bh (a ++ [(M (c + 19) (108 + j) - 1, j)] ++ l) 0 := by
          intro l hl
          rw [List.append_assoc]
          refine hrest _ ⟨⟨by omega, by omega⟩, fun h => hgt (hF.mpr h), hall (j - 1) (by omega) (by omega), ⟨by omega, by omega, fun h => by have := hi1.mpr h; omega, hi2.mp (by omega)⟩, hl⟩
        refine t_addR ra (by omega) (fun M2 e2 g181 g182 r2 => ?_)
        have nxt : P (bh j, j + 1, M2) := by
          refine hP (bh j, j + 1, M2) ⟨a ++ [(M (c + 19) (108 + j) - 1, j)], ⟨by show 0 ≤ bh j; omega, by show bh j ≤ n2; omega⟩, ⟨by show 1 ≤ j + 1; omega, by show j + 1 ≤ n2 + 1; omega⟩, ?_, e1.tr e2, g181.trans e181, g182.trans e182, r2, fun j' a1 a2 => ?_, hpiece⟩ (by show (n2 + 1 - (j + 1)).toNat < (n2 + 1 - j).toNat; omega)
          · show ((a ++ [_]).length : Int) ≤ bh j
            rw [List.length_append]
            show ((a.length + 1 : Nat) : Int) ≤ bh j
            omega
          · show F (bh j) j'
            have a1' : bh j ≤ j' := a1
            have a2' : j' < j + 1 := a2
            have : j' = bh j := by omega
            rw [this]
            exact m.1 _ (by omega) (by omega)
        unfold w_X8_fromLeft_64
        refine ⟨by rcases hby with g | g <;> rw [g] <;> exact ⟨by decide, by decide⟩, fun hz => ?_, fun hz => ?_⟩
        · have := h0 hz j
          rw [this] at nxt; exact nxt
        · exact h1 (by omega) M2 j _ (e1.tr e2) (g181.trans e181) (by omega) (by omega) nxt
  · have a1' : (0 : Int) ≤ j' := a1
    have a2' : j' < 1 := a2
    have : j' = 0 := by omega
    subst this
    exact m.1 0 (by omega) (by omega)
theorem t_leastOnes {M : pj_M} {c : Nat} {n2 : Int} {F : Int → Int → Prop} {Q : pj_M → Prop} (hf : cft M c n2 F) (q : ∀ M' l, eqr M M' → M' 181 = M 181 → M' 182 = M 182 → rpa M' l → l.length ≤ 16 → lsts F n2 l → Q M') : w_X8_leastOnes 178 c M Q := by
  obtain ⟨hc, h11, hn, hb, m, ht⟩ := hf
  have hc2 : c = 115 ∨ c = 135 ∨ c = 155 := hc
  unfold w_X8_leastOnes
  have z181 : pj_up M 178 2 0 181 = M 181 := pu_row (by decide)
  have z182 : pj_up M 178 2 0 182 = M 182 := pu_row (by decide)
  rintro M0 rfl
  unfold w_X8_leastOnes_7
  refine pj_lp_inv (fun y : Int × pj_M => ∃ a : lP, (1 ≤ y.1 ∧ y.1 ≤ n2 + 1) ∧ (a.length : Int) < y.1 ∧ eqr M y.2 ∧ y.2 181 = M 181 ∧ y.2 182 = M 182 ∧ rpa y.2 a ∧ a.Pairwise (fun a b => a.1 < b.1) ∧ ∀ x, x ∈ a ↔ lst1 F n2 x ∧ x.2 < y.1) (fun y => (n2 + 1 - y.1).toNat) ?_ (1, _) ⟨[], ⟨Int.le_refl _, by show (1 : Int) ≤ n2 + 1; omega⟩, by show (([] : lP).length : Int) < 1; decide, eqr.up (by decide), z181, z182, rpa.nil, List.Pairwise.nil, fun x => ⟨fun h => absurd h (List.not_mem_nil), fun h => by
    have h1 := h.1.1
    have h2 : x.2 < 1 := h.2
    omega⟩⟩
  rintro ⟨j, M1⟩ ⟨a, hj, hal, e1, e181, e182, ra, hs, hm⟩ P hP
  dsimp only at hj hal e1 e181 e182 ra hm hP ⊢
  unfold w_X8_leastOnes_7b
  rw [e1.row (show c < 178 ∨ _ by omega), h11]
  have h19 : M1 (c + 19) = M (c + 19) := e1.row (by omega)
  refine ⟨⟨by omega, by omega⟩, ⟨by omega, by omega⟩, fun hend => ?_, fun hend => t_leastFitting hc ⟨by omega, by omega⟩ ?_⟩
  · exact q M1 a e1 e181 e182 ra (by omega) ⟨hs, fun x => (hm x).trans ⟨fun h => h.1, fun h => ⟨h, by have := h.1; omega⟩⟩⟩
  · rw [h19]
    have hL := hb (108 + j)
    have hL1 := hb (108 + (j - 1))
    have hFj := (ht j j (by omega) (Int.le_refl _) (by omega)).mpr (m.1 j (by omega) (by omega))
    have hFj1 := (ht (j - 1) (j - 1) (by omega) (Int.le_refl _) (by omega)).mpr (m.1 (j - 1) (by omega) (by omega))
    -- what is least and ends at j
    have only : ∀ x : Int × Int, lst1 F n2 x → x.2 = j → x.1 = M (c + 19) (108 + j) - 1 ∧ M (c + 19) (108 + (j - 1)) ≤ x.1 := by
      rintro ⟨i, j'⟩ ⟨⟨g1, g2, g3⟩, g4, g5, g6⟩ h
      dsimp only at h g1 g2 g3 g4 g5 g6 ⊢
      subst h
      have a1 := ht i j' g1 (by omega) g3
      have a2 := ht (i + 1) j' (by omega) (by omega) g3
      have a3 := ht i (j' - 1) g1 (by omega) (by omega)
      have a4 := a2.mpr g5
      have a5 : ¬ M (c + 19) (108 + j') ≤ i := fun h => g4 (a1.mp h)
      exact ⟨by omega, a3.mpr g6⟩
    have skip : (∀ x : Int × Int, lst1 F n2 x → x.2 = j → False) → P (j + 1, M1) := by
      intro hno
      refine hP (j + 1, M1) ⟨a, ⟨by show 1 ≤ j + 1; omega, by show j + 1 ≤ n2 + 1; omega⟩, by show (a.length : Int) < j + 1; omega, e1, e181, e182, ra, hs, fun x => (hm x).trans ⟨fun h => ⟨h.1, by show x.2 < j + 1; omega⟩, fun h => ⟨h.1, ?_⟩⟩⟩ (by show (n2 + 1 - (j + 1)).toNat < (n2 + 1 - j).toNat; omega)
      have h2 : x.2 < j + 1 := h.2
      by_cases e : x.2 = j
      · exact (hno x h.1 e).elim
      · omega
    refine ⟨⟨by omega, by omega⟩, fun hneg => skip (fun x hx hxj => ?_), fun hpos => t_leastFitting hc ⟨by omega, by omega⟩ ?_⟩
    · have := only x hx hxj; have := hx.1; omega
    · rw [h19]
      refine ⟨⟨by omega, by omega⟩, ⟨by omega, by omega⟩, fun hlt => skip (fun x hx hxj => ?_), fun hge => t_addR ra (by omega) (fun M2 e2 g181 g182 r2 => ?_)⟩
      · have := only x hx hxj; omega
      · generalize hi : M (c + 19) (108 + j) - 1 = i at *
        have new : lst1 F n2 (i, j) := by
          refine ⟨⟨by show 0 ≤ i; omega, by show i < j; omega, by show j ≤ n2; omega⟩, fun h => ?_, ?_, ?_⟩
          · have := (ht i j (by omega) (by omega) (by omega)).mpr h; omega
          · exact (ht (i + 1) j (by omega) (by omega) (by omega)).mp (by omega)
          · exact (ht i (j - 1) (by omega) (by omega) (by omega)).mp (by omega)
        refine hP (j + 1, M2) ⟨a ++ [(i, j)], ⟨by show 1 ≤ j + 1; omega, by show j + 1 ≤ n2 + 1; omega⟩, ?_, e1.tr e2, g181.trans e181, g182.trans e182, r2, ?_, fun x => ?_⟩ (by show (n2 + 1 - (j + 1)).toNat < (n2 + 1 - j).toNat; omega)
        · show ((a ++ [(i, j)]).length : Int) < j + 1
          rw [List.length_append]
          show ((a.length + 1 : Nat) : Int) < j + 1
          omega
        · rw [List.pairwise_append]
          refine ⟨hs, List.pairwise_singleton .., fun x hx y hy => ?_⟩
          rw [List.mem_singleton] at hy
          subst hy
          obtain ⟨hx1, hx2⟩ := (hm x).mp hx
          show x.1 < i
          apply Int.not_le.mp
          intro hle
          exact hx1.2.1 (m.2 i (j - 1) x.1 x.2 (by omega) hle (by have := hx1.1; omega) (by omega) (by omega) new.2.2.2)
        · show x ∈ a ++ [(i, j)] ↔ lst1 F n2 x ∧ x.2 < j + 1
          rw [List.mem_append, List.mem_singleton, hm]
          constructor
          · rintro (⟨g1, g2⟩ | rfl)
            · exact ⟨g1, by omega⟩
            · exact ⟨new, by show j < j + 1; omega⟩
          · rintro ⟨g1, g2⟩
            by_cases e : x.2 = j
            · right
              have := (only x g1 e).1
              exact Prod.ext this e
            · exact Or.inl ⟨g1, by omega⟩
