section
variable {M : pj_M} {D : Int → Int} {H K : Int → Int → Int} {Q : Int → pj_M → Prop}
theorem rt_0 : pj_rf 1 0 = 2 := by decide
/-- the text has changed -/
theorem CI.text {M M' : pj_M} (ci : CI M D H K) (e : ∀ a, a ≠ 1 → a ≠ 2 → M' a = M a) (h : (0 ≤ M' 1 1 ∧ M' 1 1 ≤ 80) ∧ ∀ k, 0 ≤ M' 2 k ∧ M' 2 k ≤ 255) : CI M' D H K := by
  obtain ⟨c1, c2, c3, c4, c5, c6, c7, c8⟩ := ci
  refine ⟨c1.eq (fun a ha => e a (by omega) (by omega)), ⟨c2.1.eq (fun a a1 a2 => e a (by omega) (by omega)), c2.2⟩, c3.eq (fun a a1 a2 => e a (by omega) (by omega)), c4.eq (fun a a1 a2 => e a (by omega) (by omega)), kpt.eq c5 (fun a a1 a2 => e a (by omega) (by omega)) (e 114 (by decide) (by decide)), h, c7.eq (fun a a1 a2 => e a (by omega) (by omega)), ?_⟩
  obtain ⟨l, hl⟩ := c8
  exact ⟨l, hl.eq (e 186 (by decide) (by decide)) (by rw [e 0 (by decide) (by decide)])⟩
theorem o_sign {v : Int} (ci : CI M D H K) (q0 : 76 < M 1 1 → Q (-1) M) (q1 : M 1 1 ≤ 76 → ∀ M', (∀ a, a ≠ 1 → a ≠ 2 → M' a = M a) → M' 1 1 = M 1 1 + 4 → (∀ x, M' 2 x = if M 1 1 ≤ x ∧ x < M 1 1 + 4 then byt v (24 - 8 * (x - M 1 1)) else M 2 x) → CI M' D H K → Q (M 1 1 + 4) M') : w_X11_sign 0 v M Q := by
  have ht := ci.2.2.2.2.2.1
  unfold w_X11_sign w_X9_add
  rw [rc_0]
  refine ⟨⟨by omega, by omega⟩, fun hle => ?_, fun hgt => ⟨⟨by decide, by decide⟩, fun _ => q0 (by omega), fun h => absurd rfl h⟩⟩
  unfold w_X9_add_16
  refine pj_lp_inv (fun y : Int × pj_M => ∃ j : Nat, y.1 = 24 - 8 * (j : Int) ∧ j ≤ 4 ∧ (∀ a, a ≠ 1 → a ≠ 2 → y.2 a = M a) ∧ y.2 1 1 = M 1 1 + (j : Int) ∧ ∀ x, y.2 2 x = if M 1 1 ≤ x ∧ x < M 1 1 + (j : Int) then byt v (24 - 8 * (x - M 1 1)) else M 2 x) (fun y => (y.1 + 8).toNat) ?_ (24, M) ⟨0, rfl, by decide, fun _ _ _ => rfl, by show M 1 1 = M 1 1 + 0; omega, fun x => by rw [if_neg (by omega)]⟩
  rintro ⟨_, M1⟩ ⟨j, h1, hj, e1, n1, t1⟩ P hP
  dsimp only at h1 e1 n1 t1 hP ⊢
  subst h1
  unfold w_X9_add_16b
  rw [rt_0, n1]
  refine ⟨⟨by omega, by omega⟩, fun hend => ?_, fun hgo => ⟨⟨by omega, by omega⟩, ?_⟩⟩
  · have : j = 4 := by omega
    subst this
    refine ⟨⟨by decide, by decide⟩, fun h => absurd h (by decide), fun _ => ?_⟩
    rw [n1]
    refine q1 (by omega) M1 e1 n1 t1 (ci.text e1 ⟨by rw [n1]; omega, fun k => ?_⟩)
    rw [t1 k]; split
    · exact byt_b _ _
    · exact ht.2 k
  · rintro M4 rfl M5 rfl
    have z1 : pj_up M1 2 (M 1 1 + (j : Int)) (pj_and (pj_ushr v (24 - 8 * (j : Int))) 255) 1 = M1 1 := pu_row (by decide)
    rw [z1, n1]
    refine hP (24 - 8 * (j : Int) + (-8), _) ⟨j + 1, by show 24 - 8 * (j : Int) + (-8) = _; omega, by omega, fun a a1 a2 => ?_, ?_, fun x => ?_⟩ (by show (24 - 8 * (j : Int) + (-8) + 8).toNat < (24 - 8 * (j : Int) + 8).toNat; omega)
    · show pj_up (pj_up M1 2 _ _) 1 1 _ a = _
      rw [pu_row a1, pu_row a2]; exact e1 a a1 a2
    · show pj_up (pj_up M1 2 (M 1 1 + (j : Int)) (pj_and (pj_ushr v (24 - 8 * (j : Int))) 255)) 1 1 (M 1 1 + (j : Int) + 1) 1 1 = _
      rw [pu_eq]; omega
    · show pj_up (pj_up M1 2 (M 1 1 + (j : Int)) (pj_and (pj_ushr v (24 - 8 * (j : Int))) 255)) 1 1 (M 1 1 + (j : Int) + 1) 2 x = _
      rw [pu_ne (by decide)]
      by_cases e : x = M 1 1 + (j : Int)
      · rw [e, pu_eq, if_pos (by omega), show M 1 1 + (j : Int) - M 1 1 = (j : Int) by omega]; rfl
      · rw [pu_nk e, t1 x]
        by_cases c : M 1 1 ≤ x ∧ x < M 1 1 + (j : Int)
        · rw [if_pos c, if_pos (by omega)]
        · rw [if_neg c, if_neg (by omega)]
theorem o_end {n : Int} (ci : CI M D H K) (hn : pj_in n) (q0 : ¬ (0 ≤ n ∧ n ≤ M 1 1) → Q 0 M) (q1 : 0 ≤ n ∧ n ≤ M 1 1 → ∀ M', (∀ a, a ≠ 1 → M' a = M a) → M' 1 1 = n → CI M' D H K → Q 1 M') : w_X11_end 0 n M Q := by
  have ht := ci.2.2.2.2.2.1
  unfold w_X11_end w_X9_shorten
  rw [rc_0]
  refine ⟨hn, fun h => ⟨Or.inl rfl, q0 (by omega)⟩, fun h0 => ⟨hn, ⟨by omega, by omega⟩, fun hle => ?_, fun h => ⟨Or.inl rfl, q0 (by omega)⟩⟩⟩
  rintro M4 rfl
  refine ⟨Or.inr rfl, q1 (by omega) _ (fun a ha => pu_row ha) pu_eq (ci.text (fun a a1 a2 => pu_row a1) ⟨by rw [pu_eq]; omega, fun k => by rw [pu_ne (by decide)]; exact ht.2 k⟩)⟩
/-- the line is set by hand -/
theorem CI.line {M M' : pj_M} {D' : Int → Int} {n : Int} {w : Int → Int} (ci : CI M D H K) (e : ∀ a, a ≠ 18 → a ≠ 19 → M' a = M a) (vl : lvl M' 18) (hn : M' 18 1 = n) (hw : leq n (M' 19) w) (c : chd D D' n w) (v' : dvl D') : CI M' D' H K := by
  obtain ⟨c1, c2, c3, c4, c5, c6, c7, c8⟩ := ci
  refine ⟨c1.eq (fun a ha => e a (by omega) (by omega)), ⟨c2.1.line c2.2 (fun a a1 a2 a3 a4 => e a (by omega) (by omega)) vl hn hw c, v'⟩, c3.eq (fun a a1 a2 => e a (by omega) (by omega)), c4.eq (fun a a1 a2 => e a (by omega) (by omega)), kpt.eq c5 (fun a a1 a2 => e a (by omega) (by omega)) (e 114 (by decide) (by decide)), by rw [e 1 (by decide) (by decide), e 2 (by decide) (by decide)]; exact c6, c7.eq (fun a a1 a2 => e a (by omega) (by omega)), ?_⟩
  obtain ⟨l, hl⟩ := c8
  exact ⟨l, hl.eq (e 186 (by decide) (by decide)) (by rw [e 0 (by decide) (by decide)])⟩
/-- what sheet answers: and the line then -/
def shw (f step : Int) : Int → Int := fun x => (f + step * x) % 8
theorem o_sheet {kind n f step : Int} (ci : CI M D H K) (hk : pj_in kind) (hn : pj_in n)
    (q0 : ¬ (0 ≤ kind ∧ kind ≤ 3 ∧ n ≤ 14) → Q (-1) M) (q2 : 0 ≤ kind ∧ kind < 3 → n < 0 → Q (-2) M)
    (q3 : kind = 3 → n ≤ 14 → ∀ M', (∀ a, a ≠ 18 → a ≠ 19 → M' a = M a) → (∀ D', chd D D' 0 (lw D') → dvl D' → CI M' D' H K) → Q (-3) M')
    (q1 : 0 ≤ kind ∧ kind < 3 → 0 ≤ n ∧ n ≤ 14 → ∀ M', (∀ a, a ≠ 18 → a ≠ 19 → M' a = M a) → (∀ D', chd D D' n (shw f step) → dvl D' → CI M' D' H K) → Q n M') : w_X11_sheet 0 kind n f step M Q := by
  have vl := ci.2.1.1.2.1.1
  unfold w_X11_sheet
  rw [rc_2, rk_1]
  refine ⟨hk, fun h => q0 (by omega), fun h0 => ⟨hk, fun h => q0 (by omega), fun h3 => ⟨hn, fun h14 => ⟨hk, fun hne => ⟨hn, fun hn0 => ?_, fun hneg => q2 (by omega) (by omega)⟩, fun heq => ?_⟩, fun h => q0 (by omega)⟩⟩⟩
  · unfold w_X11_sheet_49
    refine pj_lp_inv (fun y : Int × Int × pj_M => ∃ j : Nat, y.2.1 = (j : Int) ∧ (j : Int) ≤ n ∧ y.1 = f + step * (j : Int) ∧ (∀ a, a ≠ 18 → a ≠ 19 → y.2.2 a = M a) ∧ y.2.2 18 = M 18 ∧ (∀ x, 0 ≤ y.2.2 19 x ∧ y.2.2 19 x ≤ 7) ∧ ∀ x, 0 ≤ x → x < (j : Int) → y.2.2 19 x = shw f step x) (fun y => (n - y.2.1).toNat) ?_ (f, 0, M) ⟨0, rfl, by show (0 : Int) ≤ n; omega, by show f = f + step * 0; omega, fun _ _ _ => rfl, rfl, vl.2, fun x x1 x2 => by omega⟩
    rintro ⟨_, _, M1⟩ ⟨j, h1, hj, h2, e1, e18, b1, w1⟩ P hP
    dsimp only at h1 h2 e1 e18 b1 w1 hP ⊢
    subst h1 h2
    unfold w_X11_sheet_49b
    rw [rc_2, rk_1, rl_0]
    refine ⟨⟨by omega, by omega⟩, ⟨by omega, by omega⟩, fun hend => ?_, fun hgo => t_fmod8 ⟨⟨by omega, by omega⟩, ?_⟩⟩
    · rintro M8 rfl
      have hjn : (j : Int) = n := by omega
      refine q1 (by omega) (by omega) _ (fun a a1 a2 => by rw [pu_row a1]; exact e1 a a1 a2) (fun D' hc hv => ?_)
      have z19 : pj_up M1 18 1 n 19 = M1 19 := pu_row (by decide)
      refine ci.line (n := n) (w := shw f step) (fun a a1 a2 => by rw [pu_row a1]; exact e1 a a1 a2) ⟨by rw [pu_eq]; omega, fun x => by rw [show pj_up M1 18 1 n (18 + 1) = M1 19 from z19]; exact b1 x⟩ pu_eq (fun x x1 x2 => ?_) hc hv
      rw [z19]; exact w1 x x1 (by omega)
    · rintro M12 rfl
      refine hP (_, (j : Int) + 1, _) ⟨j + 1, by show (j : Int) + 1 = _; omega, by omega, ?_, fun a a1 a2 => ?_, ?_, fun x => ?_, fun x x1 x2 => ?_⟩ (by show (n - ((j : Int) + 1)).toNat < (n - (j : Int)).toNat; omega)
      · show f + step * (j : Int) + step = f + step * ((j + 1 : Nat) : Int)
        rw [show ((j + 1 : Nat) : Int) = (j : Int) + 1 by omega, Int.mul_add]; omega
      · show pj_up M1 19 _ _ a = _
        rw [pu_row a2]; exact e1 a a1 a2
      · show pj_up M1 19 (j : Int) ((f + step * (j : Int)) % 8) 18 = _
        rw [pu_row (by decide)]; exact e18
      · show 0 ≤ pj_up M1 19 (j : Int) ((f + step * (j : Int)) % 8) 19 x ∧ pj_up M1 19 (j : Int) ((f + step * (j : Int)) % 8) 19 x ≤ 7
        rw [pu_if]; split
        · omega
        · exact b1 x
      · show pj_up M1 19 (j : Int) ((f + step * (j : Int)) % 8) 19 x = _
        by_cases e : x = (j : Int)
        · rw [e, pu_eq]; rfl
        · rw [pu_nk e]; exact w1 x x1 (by omega)
  · rintro M13 rfl
    refine q3 heq (by omega) _ (fun a a1 a2 => pu_row a1) (fun D' hc hv => ?_)
    have z19 : pj_up M 18 1 0 19 = M 19 := pu_row (by decide)
    exact ci.line (n := 0) (w := lw D') (fun a a1 a2 => pu_row a1) ⟨by rw [pu_eq]; exact ⟨by decide, by decide⟩, fun x => by rw [show pj_up M 18 1 0 (18 + 1) = M 19 from z19]; exact vl.2 x⟩ pu_eq (fun x x1 x2 => by omega) hc hv
theorem o_undo (ci : CI M D H K) (q0 : M 31 2 = 0 → Q (-1) M) (q1 : 0 < M 31 2 → ∀ M', (∀ a, a < 13 ∨ (20 < a ∧ a < 31) ∨ 112 < a → M' a = M a) → M' 31 2 = M 31 2 - 1 → CI M' (H (M 31 2 - 1)) H K → Q (M 31 2 - 1) M') : w_X11_undo 0 M Q := by
  obtain ⟨c1, c2, c3, c4, c5, c6, c7, c8⟩ := ci
  unfold w_X11_undo
  rw [rc_5, rc_2]
  refine t_popH c4 c2.1.wf (fun h => ⟨⟨by decide, by decide⟩, fun _ => q0 h, fun h => absurd rfl h⟩) (fun hpos M1 e1 r1 v1 h1 z1 => ⟨⟨by decide, by decide⟩, fun h => absurd h (by decide), fun _ => ?_⟩)
  rw [z1]
  refine q1 hpos M1 e1 z1 ⟨c1.eq (fun a ha => e1 a (by omega)), ⟨r1, v1⟩, c3.eq (fun a a1 a2 => e1 a (by omega)), h1, kpt.eq c5 (fun a a1 a2 => e1 a (by omega)) (e1 114 (by omega)), by rw [e1 1 (by omega), e1 2 (by omega)]; exact c6, c7.eq (fun a a1 a2 => e1 a (by omega)), ?_⟩
  obtain ⟨l, hl⟩ := c8
  exact ⟨l, hl.eq (e1 186 (by omega)) (by rw [e1 0 (by omega)])⟩
theorem o_keep {i : Int} (ci : CI M D H K) (hi : pj_in i) (q0 : ¬ (0 ≤ i ∧ i < 2) → Q 0 M) (q1 : 0 ≤ i ∧ i < 2 → ∀ M', (∀ a, a ≠ 114 → a < 187 ∨ 202 < a → M' a = M a) → (∀ x, M' 114 x = if x = i then 1 else M 114 x) → (∀ K', (∀ j, j ≠ i → K' j = K j) → K' i = D → CI M' D H K') → Q 1 M') : w_X11_keep 0 i M Q := by
  obtain ⟨c1, c2, c3, c4, c5, c6, c7, c8⟩ := ci
  unfold w_X11_keep
  rw [rc_6, rc_2, rc_7]
  refine ⟨hi, fun h => q0 (by omega), fun h0 => ⟨hi, fun h2 => ⟨⟨by omega, by omega⟩, ?_⟩, fun h => q0 (by omega)⟩⟩
  obtain ⟨j, rfl⟩ : ∃ j : Nat, i = (j : Int) := ⟨i.toNat, by omega⟩
  have hdk := dcell_k j (by omega)
  rw [Int.toNat_natCast, hdk.2]
  refine t_copyFromD hdk.1 dcell_13 (by omega) (c5.2 j (by omega)).1 c2.1 c2.2 (fun M1 e1 r1 => ⟨⟨by omega, by omega⟩, ?_⟩)
  rintro M2 rfl
  have row : ∀ a, a ≠ 114 → a < 187 ∨ 202 < a → pj_up M1 114 (j : Int) 1 a = M a := fun a a1 a2 => by rw [pu_row a1]; exact e1.row (by omega)
  have k114 : ∀ x, pj_up M1 114 (j : Int) 1 114 x = if x = (j : Int) then 1 else M 114 x := fun x => by
    rw [pu_if, e1.row (show (114 : Nat) < 187 + 8 * j ∨ _ by omega)]
    by_cases e : x = (j : Int)
    · rw [if_pos e, if_pos ⟨rfl, e⟩]
    · rw [if_neg e, if_neg (fun h => e h.2)]
  refine q1 (by omega) _ row k114 (fun K' hK1 hK2 => ⟨c1.eq (fun a ha => row a (by omega) (by omega)), ⟨c2.1.eq (fun a a1 a2 => row a (by omega) (by omega)), c2.2⟩, c3.eq (fun a a1 a2 => row a (by omega) (by omega)), c4.eq (fun a a1 a2 => row a (by omega) (by omega)), ⟨fun x => ?_, fun t ht => ?_⟩, by rw [row 1 (by omega) (by omega), row 2 (by omega) (by omega)]; exact c6, c7.eq (fun a a1 a2 => row a (by omega) (by omega)), ?_⟩)
  · rw [k114 x]; split
    · exact Or.inr rfl
    · exact c5.1 x
  · by_cases e : t = j
    · subst e
      have r2 : drep (pj_up M1 114 (t : Int) 1) (187 + 8 * t) D := r1.eq (fun a a1 a2 => pu_row (by omega))
      exact ⟨r2.wf, fun _ => by rw [hK2]; exact ⟨r2, c2.2⟩⟩
    · have er : ∀ a, 187 + 8 * t ≤ a → a ≤ 187 + 8 * t + 7 → pj_up M1 114 (j : Int) 1 a = M a := fun a a1 a2 => by rw [pu_row (by omega)]; exact e1.row (by omega)
      refine ⟨(c5.2 t ht).1.eq er, fun h1 => ?_⟩
      rw [k114, if_neg (by omega)] at h1
      obtain ⟨g1, g2⟩ := (c5.2 t ht).2 h1
      rw [hK1 (t : Int) (by omega)]
      exact ⟨g1.eq er, g2⟩
  · obtain ⟨l, hl⟩ := c8
    exact ⟨l, hl.eq (row 186 (by omega) (by omega)) (by rw [row 0 (by omega) (by omega)])⟩
theorem o_again {i : Int} (ci : CI M D H K) (hi : pj_in i) (q0 : ¬ (0 ≤ i ∧ i < 2 ∧ M 114 i = 1) → Q 0 M) (q1 : 0 ≤ i ∧ i < 2 ∧ M 114 i = 1 → ∀ M', (∀ a, a < 13 ∨ (20 < a ∧ a ≠ 31) → M' a = M a) → M' 31 2 = 0 → (∀ H', CI M' (K i) H' K) → Q 1 M') : w_X11_again 0 i M Q := by
  obtain ⟨c1, c2, c3, c4, c5, c6, c7, c8⟩ := ci
  unfold w_X11_again
  rw [rc_6, rc_2, rc_7, rc_5]
  have hz := c5.1 i
  refine ⟨hi, fun h => q0 (by omega), fun h0 => ⟨hi, fun h => q0 (by omega), fun h2 => ⟨⟨by omega, by omega⟩, in01 hz, fun hne => ⟨⟨by omega, by omega⟩, ?_⟩, fun h => q0 (by omega)⟩⟩⟩
  obtain ⟨j, rfl⟩ : ∃ j : Nat, i = (j : Int) := ⟨i.toNat, by omega⟩
  have hdk := dcell_k j (by omega)
  obtain ⟨g1, g2⟩ := (c5.2 j (by omega)).2 (by omega)
  rw [Int.toNat_natCast, hdk.2]
  refine t_copyFromD dcell_13 hdk.1 (by omega) c2.1.wf g1 g2 (fun M1 e1 r1 => ?_)
  unfold w_X6_clear
  rintro M2 rfl
  have row : ∀ a, a < 13 ∨ (20 < a ∧ a ≠ 31) → pj_up M1 31 2 0 a = M a := fun a ha => by rw [pu_row (by omega)]; exact e1.row (by omega)
  have e31 : M1 31 = M 31 := e1.row (by omega)
  refine q1 (by omega) _ row pu_eq (fun H' => ⟨c1.eq (fun a ha => row a (by omega)), ⟨r1.eq (fun a a1 a2 => pu_row (by omega)), g2⟩, c3.eq (fun a a1 a2 => row a (by omega)), ⟨by rw [pu_nk (by decide), e31]; exact c4.1, by rw [pu_eq]; exact ⟨by decide, by decide⟩, fun t ht => (c4.2.2.1 t ht).eq (fun a a1 a2 => row a (by omega)), fun t t1 t2 => by rw [pu_eq] at t2; omega⟩, kpt.eq c5 (fun a a1 a2 => row a (by omega)) (row 114 (by omega)), by rw [row 1 (by omega), row 2 (by omega)]; exact c6, c7.eq (fun a a1 a2 => row a (by omega)), ?_⟩)
  obtain ⟨l, hl⟩ := c8
  exact ⟨l, hl.eq (row 186 (by omega)) (by rw [row 0 (by omega)])⟩
end
