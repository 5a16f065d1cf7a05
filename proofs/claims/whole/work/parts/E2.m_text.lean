section
variable {M : pj_M} {Q : Int → pj_M → Prop}
theorem m_sign {v : Int} (sc : msc M) (ht : 0 ≤ M 203 2 ∧ M 203 2 ≤ 80) (hb : ∀ x, -128 ≤ M 205 x ∧ M 205 x ≤ 127) (q0 : 76 < M 203 2 → ∀ M', eqm M M' → msc M' → rwm M M' none → Q (-1) M') (q1 : M 203 2 ≤ 76 → ∀ M', (∀ a x, a ≠ 205 → ¬ (a = 203 ∧ (x = 2 ∨ x = 5)) → M' a x = M a x) → msc M' → M' 203 2 = M 203 2 + 4 → (∀ x, -128 ≤ M' 205 x ∧ M' 205 x ≤ 127) → (∀ x, pj_and (M' 205 x) 255 = if M 203 2 ≤ x ∧ x < M 203 2 + 4 then byt v (24 - 8 * (x - M 203 2)) else pj_and (M 205 x) 255) → Q (M 203 2 + 4) M') : w_X12_sign 203 v M Q := by
  unfold w_X12_sign
  rintro M0 rfl
  have h2 : pj_up M 203 5 0 203 2 = M 203 2 := pu_nk (by decide)
  rw [h2]
  refine ⟨⟨by omega, by omega⟩, fun hle => ?_, fun hgt => q0 (by omega) _ (eqm.p eqp.z) sc.up (rwm.p eqp.z)⟩
  unfold w_X12_sign_20
  refine pj_lp_inv (fun y : Int × pj_M => (-1 ≤ y.1 ∧ y.1 ≤ 3) ∧ (∀ a x, a ≠ 205 → ¬ (a = 203 ∧ (x = 2 ∨ x = 5)) → y.2 a x = M a x) ∧ y.2 203 2 = M 203 2 + (3 - y.1) ∧ (∀ x, -128 ≤ y.2 205 x ∧ y.2 205 x ≤ 127) ∧ ∀ x, pj_and (y.2 205 x) 255 = if M 203 2 ≤ x ∧ x < M 203 2 + (3 - y.1) then byt v (24 - 8 * (x - M 203 2)) else pj_and (M 205 x) 255) (fun y => (y.1 + 1).toNat) ?_ (3, _) ⟨⟨by simp, by simp⟩, fun a x a1 a2 => by show pj_up M 203 5 0 a x = _; rw [pu_if, if_neg (by omega)], by show pj_up M 203 5 0 203 2 = _; rw [h2]; show _ = _ + (3 - 3); omega, fun x => by show -128 ≤ pj_up M 203 5 0 205 x ∧ _; rw [pu_ne (by decide)]; exact hb x, fun x => by show pj_and (pj_up M 203 5 0 205 x) 255 = if _ ∧ _ < _ + (3 - 3) then _ else _; rw [pu_ne (by decide), if_neg (by omega)]⟩
  rintro ⟨c, M1⟩ ⟨hc, f1, n1, b1, w1⟩ P hP
  dsimp only at hc f1 n1 b1 w1 hP ⊢
  unfold w_X12_sign_20b
  rw [n1, rm_1]
  refine ⟨⟨by omega, by omega⟩, fun hend => ?_, fun hgo => ?_⟩
  · have : c = -1 := by omega
    subst this
    exact q1 (by omega) M1 f1 (sc.eq (fun a a1 a2 => funext fun x => f1 a x (by omega) (by omega))) (by rw [n1]; omega) b1 w1
  · rintro M2 rfl
    have hk : 8 * c = 0 ∨ 8 * c = 8 ∨ 8 * c = 16 ∨ 8 * c = 24 := by omega
    have hm := byt_m (x := v) hk
    have hi := i2b_mod (pj_shr v (8 * c))
    refine ⟨hi.2, ⟨by omega, by omega⟩, ?_⟩
    rintro M3 rfl
    refine hP (c + (-1), _) ⟨⟨by show -1 ≤ c + (-1); omega, by show c + (-1) ≤ 3; omega⟩, fun a x a1 a2 => ?_, ?_, fun x => ?_, fun x => ?_⟩ (by show (c + (-1) + 1).toNat < (c + 1).toNat; omega)
    · show pj_up (pj_up M1 203 2 _) 205 _ _ a x = _
      rw [pu_ne a1, pu_if, if_neg (by omega)]; exact f1 a x a1 a2
    · show pj_up (pj_up M1 203 2 (M 203 2 + (3 - c) + 1)) 205 (M 203 2 + (3 - c)) (pj_i2b (pj_shr v (8 * c))) 203 2 = M 203 2 + (3 - (c + (-1)))
      rw [pu_ne (by decide), pu_eq]; omega
    · show -128 ≤ pj_up (pj_up M1 203 2 _) 205 _ _ 205 x ∧ pj_up (pj_up M1 203 2 _) 205 _ _ 205 x ≤ 127
      rw [pu_if]; split
      · exact hi.2
      · rw [pu_ne (by decide)]; exact b1 x
    · show pj_and (pj_up (pj_up M1 203 2 _) 205 (M 203 2 + (3 - c)) _ 205 x) 255 = if M 203 2 ≤ x ∧ x < M 203 2 + (3 - (c + (-1))) then _ else _
      by_cases e : x = M 203 2 + (3 - c)
      · rw [e, pu_eq, hm, if_pos (by omega)]
        congr 1; omega
      · rw [pu_nk e, pu_ne (by decide), w1 x]
        by_cases h : M 203 2 ≤ x ∧ x < M 203 2 + (3 - c)
        · rw [if_pos h, if_pos (by omega)]
        · rw [if_neg h, if_neg (by omega)]
theorem m_end {n : Int} (sc : msc M) (ht : 0 ≤ M 203 2 ∧ M 203 2 ≤ 80) (hn : pj_in n) (q0 : ¬ (0 ≤ n ∧ n ≤ M 203 2) → ∀ M', eqm M M' → msc M' → rwm M M' none → Q 0 M') (q1 : 0 ≤ n ∧ n ≤ M 203 2 → ∀ M', (∀ a x, ¬ (a = 203 ∧ (x = 2 ∨ x = 5)) → M' a x = M a x) → msc M' → M' 203 2 = n → Q 1 M') : w_X12_end 203 n M Q := by
  unfold w_X12_end
  rintro M0 rfl
  have h2 : pj_up M 203 5 0 203 2 = M 203 2 := pu_nk (by decide)
  rw [h2]
  refine t_in hn ⟨by decide, by decide⟩ ⟨by omega, by omega⟩ (fun t ht hi => ⟨in01 ht, fun h => ?_, fun h => q0 (fun h' => by have := hi.mpr h'; omega) _ (eqm.p eqp.z) sc.up (rwm.p eqp.z)⟩)
  rintro M1 rfl
  refine q1 (hi.mp (by omega)) _ (fun a x a1 => ?_) sc.up.up pu_eq
  rw [pu_if, if_neg (by omega), pu_if, if_neg (by omega)]
theorem t_setLine {n : Int} {Q : pj_M → Prop} (v : dvl (M 204)) (hn : 0 ≤ n ∧ n ≤ 14) (hb : ∀ x, 0 ≤ x → x < n → 0 ≤ M 208 x ∧ M 208 x ≤ 7) (q : ∀ M', (∀ a, a ≠ 204 → M' a = M a) → chd (M 204) (M' 204) n (M 208) → dvl (M' 204) → Q M') : w_X12_setLine 203 n M Q := by
  unfold w_X12_setLine
  rw [rm_0]
  rintro M1 rfl
  unfold w_X12_setLine_10
  refine pj_lp_inv (fun y : Int × pj_M => (0 ≤ y.1 ∧ y.1 ≤ 14) ∧ (∀ a, a ≠ 204 → y.2 a = M a) ∧ ∀ u, y.2 204 u = if u = 73 then n else if 74 ≤ u ∧ u < 74 + y.1 then (if u - 74 < n then M 208 (u - 74) else 0) else M 204 u) (fun y => (14 - y.1).toNat) ?_ (0, _) ⟨⟨by simp, by simp⟩, fun a ha => pu_row ha, fun u => ?_⟩
  · rintro ⟨c, M1⟩ ⟨hc, f1, w1⟩ P hP
    dsimp only at hc f1 w1 hP ⊢
    have go : ∀ y2, y2 = (if c < n then M 208 c else 0) → w_X12_setLine_39 203 n c 204 (74 + c) y2 (fun (x2 : Int) (M : pj_M) => P (x2, M)) Q M1 ∨ ¬ c < 14 := by
      intro y2 hy
      by_cases h14 : c < 14
      · left
        unfold w_X12_setLine_39
        refine ⟨⟨by omega, by omega⟩, ?_⟩
        rintro M2 rfl
        refine hP (c + 1, _) ⟨⟨by show 0 ≤ c + 1; omega, by show c + 1 ≤ 14; omega⟩, fun a ha => (pu_row ha).trans (f1 a ha), fun u => ?_⟩ (by show (14 - (c + 1)).toNat < (14 - c).toNat; omega)
        show pj_up M1 204 (74 + c) y2 204 u = if u = 73 then n else if 74 ≤ u ∧ u < 74 + (c + 1) then _ else _
        by_cases e : u = 74 + c
        · subst e
          rw [pu_eq, if_neg (by omega), if_pos (by omega), hy, show 74 + c - 74 = c by omega]
        · rw [pu_nk e, w1 u]
          by_cases h73 : u = 73
          · rw [if_pos h73, if_pos h73]
          · rw [if_neg h73, if_neg h73]
            by_cases h : 74 ≤ u ∧ u < 74 + c
            · rw [if_pos h, if_pos (show 74 ≤ u ∧ u < 74 + (c + 1) by omega)]
            · rw [if_neg h, if_neg (by omega)]
      · exact Or.inr h14
    unfold w_X12_setLine_10b
    rw [rm_0, rm_10]
    refine ⟨⟨by omega, by omega⟩, fun hend => ?_, fun hgo => ⟨⟨by omega, by omega⟩, ⟨by omega, by omega⟩, fun hle => ?_, fun hlt => ⟨⟨by omega, by omega⟩, ?_⟩⟩⟩
    · have : c = 14 := by omega
      subst this
      have hch : ∀ x, x < 73 ∨ 87 < x → M1 204 x = M 204 x := fun x hx => by rw [w1, if_neg (by omega), if_neg (by omega)]
      have h73 : M1 204 73 = n := by rw [w1, if_pos rfl]
      refine q M1 f1 ⟨h73, fun x x1 x2 => ?_, hch⟩ (dvl_line v hch (by rw [h73]; exact hn) (fun x x1 x2 => ?_))
      · show M1 204 (74 + x) = _
        rw [w1, if_neg (by omega), if_pos (by omega), if_pos (by omega), show 74 + x - 74 = x by omega]
      · rw [w1, if_neg (by omega), if_pos (by omega)]
        split
        · rw [show 74 + x - 74 = x by omega]; exact hb x x1 (by omega)
        · decide
    · exact (go 0 (by rw [if_neg (by omega)])).resolve_right (fun h => h (by omega))
    · rw [f1 208 (by decide)]
      exact (go _ (by rw [if_pos (by omega)])).resolve_right (fun h => h (by omega))
  · show pj_up M 204 73 n 204 u = if u = 73 then n else if 74 ≤ u ∧ u < 74 + 0 then _ else _
    by_cases h73 : u = 73
    · rw [if_pos h73, h73, pu_eq]
    · rw [if_neg h73, pu_nk h73, if_neg (by omega)]
theorem m_sheet {kind n f step : Int} (sc : msc M) (v : dvl (M 204)) (hk : pj_in kind) (hn : pj_in n)
    (q0 : ¬ (0 ≤ kind ∧ kind ≤ 3 ∧ n ≤ 14) → ∀ M', eqm M M' → msc M' → rwm M M' none → Q (-1) M') (q2 : 0 ≤ kind ∧ kind < 3 → n < 0 → ∀ M', eqm M M' → msc M' → rwm M M' none → Q (-2) M')
    (q3 : kind = 3 → n ≤ 14 → ∀ M' w, eqp M M' ∨ (∀ c x, mpk c x → c ≠ 204 → M' c x = M c x) → msc M' → chd (M 204) (M' 204) 0 w → dvl (M' 204) → Q (-3) M')
    (q1 : 0 ≤ kind ∧ kind < 3 → 0 ≤ n ∧ n ≤ 14 → ∀ M', (∀ c x, mpk c x → c ≠ 204 → M' c x = M c x) → msc M' → chd (M 204) (M' 204) n (shw f step) → dvl (M' 204) → Q n M') : w_X12_sheet 203 kind n f step M Q := by
  unfold w_X12_sheet
  rintro M0 rfl
  have no : ¬ (0 ≤ kind ∧ kind ≤ 3 ∧ n ≤ 14) → Q (-1) (pj_up M 203 5 0) := fun h => q0 h _ (eqm.p eqp.z) sc.up (rwm.p eqp.z)
  refine t_in hk ⟨by decide, by decide⟩ ⟨by decide, by decide⟩ (fun t ht hi => ⟨in01 ht, fun h => no (fun h' => by have := hi.mpr ⟨h'.1, h'.2.1⟩; omega), fun h => ?_⟩)
  have hkb := hi.mp (by omega)
  have go : n ≤ 14 → (kind = 3 ∨ 0 ≤ n) → w_X12_sheet_34 203 kind n f step Q (pj_up M 203 5 0) := by
    intro h14 hor
    unfold w_X12_sheet_34 w_X12_sheet_40
    refine pj_lp_inv (fun y : Int × Int × pj_M => (0 ≤ y.2.1 ∧ y.2.1 ≤ 14) ∧ y.1 = f + step * y.2.1 ∧ (∀ a, a ≠ 208 → y.2.2 a = pj_up M 203 5 0 a) ∧ ∀ u, 0 ≤ u → u < y.2.1 → y.2.2 208 u = shw f step u) (fun y => (14 - y.2.1).toNat) ?_ (f, 0, _) ⟨⟨by show (0 : Int) ≤ 0; omega, by show (0 : Int) ≤ 14; omega⟩, by show f = f + step * 0; rw [Int.mul_zero, Int.add_zero], fun _ _ => rfl, fun u u1 u2 => by have : u < 0 := u2; omega⟩
    rintro ⟨x5, c, M1⟩ ⟨hc, h5, f1, w1⟩ P hP
    dsimp only at hc h5 f1 w1 hP ⊢
    have stp : ∀ y0, y0 % 8 = x5 % 8 → c < 14 → w_X12_sheet_70 203 kind n step x5 c y0 (fun (x5 : Int) (x6 : Int) (M : pj_M) => P (x5, x6, M)) Q M1 := by
      intro y0 hy h14'
      unfold w_X12_sheet_70
      rw [rm_10, an7, hy]
      refine ⟨⟨by omega, by omega⟩, ?_⟩
      rintro M2 rfl
      refine hP (x5 + step, c + 1, _) ⟨⟨by show 0 ≤ c + 1; omega, by show c + 1 ≤ 14; omega⟩, by show x5 + step = f + step * (c + 1); rw [h5, Int.mul_add, Int.mul_one, Int.add_assoc], fun a ha => (pu_row ha).trans (f1 a ha), fun u u1 u2 => ?_⟩ (by show (14 - (c + 1)).toNat < (14 - c).toNat; omega)
      have u2' : u < c + 1 := u2
      show pj_up M1 208 c (x5 % 8) 208 u = _
      by_cases e : u = c
      · rw [e, pu_eq, h5]; rfl
      · rw [pu_nk e]; exact w1 u u1 (by omega)
    unfold w_X12_sheet_40b
    have g4 : M1 204 = M 204 := by rw [f1 204 (by decide), z204]
    refine ⟨⟨by omega, by omega⟩, fun hend => ⟨hk, fun h3 => ?_, fun h3 => ?_⟩, fun hgo => ⟨hk, fun h0 => ⟨hk, fun h1 => stp _ rfl (by omega), fun h1 => stp _ (i2s_mod x5) (by omega)⟩, fun h0 => stp _ ?_ (by omega)⟩⟩
    · have : c = 14 := by omega
      subst this
      unfold w_X12_sheet_108
      refine t_setLine (by rw [g4]; exact v) ⟨by omega, h14⟩ (fun x x1 x2 => by rw [w1 x x1 (by omega)]; unfold shw; omega) (fun M2 f2 c2 v2 => ⟨hk, fun _ => ?_, fun h => absurd h h3⟩)
      rw [g4] at c2
      refine q1 ⟨by omega, by omega⟩ ⟨by omega, by omega⟩ M2 (fun a x a1 a2 => ?_) (sc.eq (fun a a1 a2 => ?_)) ⟨c2.1, fun x x1 x2 => ?_, c2.2.2⟩ v2
      · have hne : a ≠ 208 := by rintro rfl; revert a1; unfold mpk; omega
        rw [f2 a a2, f1 a hne, pu_if, if_neg (by rintro ⟨rfl, rfl⟩; revert a1; unfold mpk; omega)]
      · rw [f2 a (by omega), f1 a (by omega), pu_row (by omega)]
      · rw [c2.2.1 x x1 x2]; exact w1 x x1 (by omega)
    · unfold w_X12_sheet_108
      refine t_setLine (n := 0) (by rw [g4]; exact v) ⟨by decide, by decide⟩ (fun x x1 x2 => by omega) (fun M2 f2 c2 v2 => ⟨hk, fun h => absurd h3 h, fun _ => ?_⟩)
      rw [g4] at c2
      refine q3 h3 h14 M2 (M1 208) (Or.inr (fun a x a1 a2 => ?_)) (sc.eq (fun a a1 a2 => ?_)) c2 v2
      · have hne : a ≠ 208 := by rintro rfl; revert a1; unfold mpk; omega
        rw [f2 a a2, f1 a hne, pu_if, if_neg (by rintro ⟨rfl, rfl⟩; revert a1; unfold mpk; omega)]
      · rw [f2 a (by omega), f1 a (by omega), pu_row (by omega)]
    · have := (i2b_mod x5).1; omega
  refine ⟨hn, fun h14 => ⟨hk, fun h3 => go h14 (Or.inl (by omega)), fun h3 => ⟨hn, fun hge => go h14 (Or.inr hge), fun hlt => q2 ⟨hkb.1, by omega⟩ (by omega) _ (eqm.p eqp.z) sc.up (rwm.p eqp.z)⟩⟩, fun h14 => no (fun h' => by omega)⟩
/-- answers of calls that may throw: the answer, or 1 thrown -/
theorem m_symbol {k i : Int} (sc : msc M) (v : dvl (M 204)) (hk : pj_in k) (hi : pj_in i) (q0 : ¬ (0 ≤ k ∧ k < M 204 0 ∧ 0 ≤ i ∧ i < M 204 (1 + 6 * k + 1)) → ∀ M', eqm M M' → msc M' → rwm M M' none → M' 203 5 = 1 → Q 0 M') (q1 : 0 ≤ k ∧ k < M 204 0 ∧ 0 ≤ i ∧ i < M 204 (1 + 6 * k + 1) → ∀ M', eqm M M' → msc M' → rwm M M' none → M' 203 5 = 0 → Q (M 204 (1 + 6 * k + 2 + i)) M') : w_X12_symbol 203 k i M Q := by
  have hn := v.1.1
  unfold w_X12_symbol
  rintro M0 rfl
  rw [rm_0]
  have lost : ¬ (0 ≤ k ∧ k < M 204 0 ∧ 0 ≤ i ∧ i < M 204 (1 + 6 * k + 1)) → w_X12_lost 203 (pj_up M 203 5 0) (fun (t : Int) (M' : pj_M) => Q t M') := by
    intro h
    unfold w_X12_lost
    rintro M1 rfl
    exact q0 h _ ((eqm.p eqp.z).tr (eqm.p eqp.z)) sc.up.up (rwm.p (eqp.z.tr eqp.z)) pu_eq
  rw [z204]
  refine t_in hk ⟨by decide, by decide⟩ ⟨by omega, by omega⟩ (fun t ht hiff => ⟨in01 ht, fun h => ?_, fun h => lost (fun h' => by have := hiff.mpr ⟨h'.1, by omega⟩; omega)⟩)
  have hkb := hiff.mp (by omega)
  have hz := v.1.2.2.1 k hkb.1 (by omega)
  unfold w_X12_alt
  dsimp only
  rw [z204]
  refine ⟨⟨by omega, by omega⟩, t_in hi ⟨by decide, by decide⟩ ⟨by omega, by omega⟩ (fun t2 ht2 hi2 => ⟨in01 ht2, fun h => lost (fun h' => by have := hi2.mpr ⟨h'.2.2.1, by omega⟩; omega), fun h => ?_⟩)⟩
  have hib := hi2.mp (by omega)
  refine ⟨⟨by omega, by omega⟩, ?_⟩
  rw [z204]
  exact q1 ⟨hkb.1, by omega, hib.1, by omega⟩ _ (eqm.p eqp.z) sc.up (rwm.p eqp.z) pu_eq
theorem m_at {p : Int} (sc : msc M) (v : dvl (M 204)) (hp : pj_in p) (q0 : ¬ (1 ≤ p ∧ p ≤ M 204 73) → ∀ M', eqm M M' → msc M' → rwm M M' none → M' 203 5 = 1 → Q 0 M') (q1 : 1 ≤ p ∧ p ≤ M 204 73 → ∀ M', eqm M M' → msc M' → rwm M M' none → M' 203 5 = 0 → Q (lw (M 204) (p - 1)) M') : w_X12_at 203 p M Q := by
  have hn := v.2.2.1
  unfold w_X12_at
  rintro M0 rfl
  rw [rm_0, z204]
  refine t_in hp ⟨by decide, by decide⟩ ⟨by omega, by omega⟩ (fun t ht hiff => ⟨in01 ht, fun h => ?_, fun h => ⟨⟨by have := hiff.mp (by omega); omega, by have := hiff.mp (by omega); omega⟩, ?_⟩⟩)
  · unfold w_X12_lost
    rintro M1 rfl
    exact q0 (fun h' => by have := hiff.mpr h'; omega) _ ((eqm.p eqp.z).tr (eqm.p eqp.z)) sc.up.up (rwm.p (eqp.z.tr eqp.z)) pu_eq
  · rw [z204]
    have he : M 204 (74 + p - 1) = lw (M 204) (p - 1) := by show M 204 (74 + p - 1) = M 204 (74 + (p - 1)); congr 1; omega
    rw [he]
    exact q1 (hiff.mp (by omega)) _ (eqm.p eqp.z) sc.up (rwm.p eqp.z) pu_eq
theorem m_row {i : Int} {l : List Int} (sc : msc M) (hr : rwsm M l) (hi : pj_in i) (q0 : ¬ (0 ≤ i ∧ i < (l.length : Int)) → ∀ M', eqm M M' → msc M' → rwm M M' none → M' 203 5 = 1 → Q 0 M') (q1 : 0 ≤ i ∧ i < (l.length : Int) → ∀ M', eqm M M' → msc M' → rwm M M' none → M' 203 5 = 0 → Q (M 206 i) M') : w_X12_row 203 i M Q := by
  have hl := hr.2.1
  unfold w_X12_row
  rintro M0 rfl
  have h4 : pj_up M 203 5 0 203 4 = (l.length : Int) := by rw [pu_nk (by decide)]; exact hr.1
  rw [h4, rm_3]
  refine t_in hi ⟨by decide, by decide⟩ ⟨by omega, by omega⟩ (fun t ht hiff => ⟨in01 ht, fun h => ?_, fun h => ⟨⟨by have := hiff.mp (by omega); omega, by have := hiff.mp (by omega); omega⟩, ?_⟩⟩)
  · unfold w_X12_lost
    rintro M1 rfl
    exact ⟨⟨by decide, by decide⟩, q0 (fun h' => by have := hiff.mpr ⟨h'.1, by omega⟩; omega) _ ((eqm.p eqp.z).tr (eqm.p eqp.z)) sc.up.up (rwm.p (eqp.z.tr eqp.z)) pu_eq⟩
  · rw [pu_ne (by decide)]
    have := hiff.mp (by omega)
    exact q1 ⟨this.1, by omega⟩ _ (eqm.p eqp.z) sc.up (rwm.p eqp.z) pu_eq
end
