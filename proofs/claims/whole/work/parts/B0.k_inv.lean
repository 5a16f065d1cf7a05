/-- all that the class keeps -/
def CI (M : pj_M) (D : Int → Int) (H K : Int → Int → Int) : Prop :=
  csc M ∧ (drep M 13 D ∧ dvl D) ∧ dwf M 21 ∧ hst M H ∧ ((∀ x, M 114 x = 0 ∨ M 114 x = 1) ∧ ∀ i : Nat, i < 2 → dwf M (187 + 8 * i) ∧ (M 114 (i : Int) = 1 → drep M (187 + 8 * i) (K (i : Int)) ∧ dvl (K (i : Int)))) ∧ ((0 ≤ M 1 1 ∧ M 1 1 ≤ 80) ∧ ∀ k, 0 ≤ M 2 k ∧ M 2 k ≤ 255) ∧ gwb M 4 ∧ ∃ l, rws M l
theorem hst.eq {M M' : pj_M} {H : Int → Int → Int} (h : hst M H) (e : ∀ a, 31 ≤ a → a ≤ 112 → M' a = M a) : hst M' H := by
  obtain ⟨h1, h2, h3, h4⟩ := h
  have e31 : M' 31 = M 31 := e 31 (by decide) (by decide)
  refine ⟨by rw [e31]; exact h1, by rw [e31]; exact h2, fun i hi => (h3 i hi).eq (fun a a1 a2 => e a (by omega) (by omega)), fun i i1 i2 => ?_⟩
  rw [e31] at i2 ⊢
  have hl : hix (M 31 1) i < 10 := hix_lt
  obtain ⟨g1, g2⟩ := h4 i i1 i2
  exact ⟨g1.eq (fun a a1 a2 => e a (by omega) (by omega)), g2⟩
theorem hst.congr {M : pj_M} {H H' : Int → Int → Int} (h : hst M H) (e : ∀ i, 0 ≤ i → i < M 31 2 → H' i = H i) : hst M H' := by
  obtain ⟨h1, h2, h3, h4⟩ := h
  refine ⟨h1, h2, h3, fun i i1 i2 => ?_⟩
  rw [e _ (by omega) (by omega)]
  exact h4 i i1 i2
theorem kpt.eq {M M' : pj_M} {K : Int → Int → Int} (h : (∀ x, M 114 x = 0 ∨ M 114 x = 1) ∧ ∀ i : Nat, i < 2 → dwf M (187 + 8 * i) ∧ (M 114 (i : Int) = 1 → drep M (187 + 8 * i) (K (i : Int)) ∧ dvl (K (i : Int)))) (e : ∀ a, 187 ≤ a → a ≤ 202 → M' a = M a) (e114 : M' 114 = M 114) : (∀ x, M' 114 x = 0 ∨ M' 114 x = 1) ∧ ∀ i : Nat, i < 2 → dwf M' (187 + 8 * i) ∧ (M' 114 (i : Int) = 1 → drep M' (187 + 8 * i) (K (i : Int)) ∧ dvl (K (i : Int))) := by
  rw [e114]
  refine ⟨h.1, fun i hi => ⟨(h.2 i hi).1.eq (fun a a1 a2 => e a (by omega) (by omega)), fun h1 => ?_⟩⟩
  obtain ⟨g1, g2⟩ := (h.2 i hi).2 h1
  exact ⟨g1.eq (fun a a1 a2 => e a (by omega) (by omega)), g2⟩
theorem rws.eq {M M' : pj_M} {l : List Int} (h : rws M l) (e1 : M' 186 = M 186) (e2 : M' 0 15 = M 0 15) : rws M' l := by unfold rws at *; rw [e1, e2]; exact h
/-- a question leaves it -/
theorem CI.q {M M' : pj_M} {D : Int → Int} {H K : Int → Int → Int} {o : Option (List Int)} (h : CI M D H K) (e : eqq M M') (s : csc M') (r : rwo M M' o) : CI M' D H K := by
  obtain ⟨h1, h2, h3, h4, h5, h6, h7, h8⟩ := h
  refine ⟨s, ⟨h2.1.eq (fun a a1 a2 => e.row (by omega)), h2.2⟩, h3.eq (fun a a1 a2 => e.row (by omega)), h4.eq (fun a a1 a2 => e.row (by omega)), kpt.eq h5 (fun a a1 a2 => e.row (by omega)) (e.row (by omega)), by rw [e.row (show (0 < 1 ∧ 1 < 29) ∨ _ by omega), e.row (show (0 < 2 ∧ 2 < 29) ∨ _ by omega)]; exact h6, h7.eq (fun a a1 a2 => e.row (by omega)), ?_⟩
  cases o with
  | none => obtain ⟨l, hl⟩ := h8; exact ⟨l, hl.eq r.1 r.2⟩
  | some l => exact ⟨l, r⟩
/-- the line of a row has changed -/
def chd (D D' : Int → Int) (n : Int) (w : Int → Int) : Prop := D' 73 = n ∧ leq n (lw D') w ∧ ∀ x, x < 73 ∨ 87 < x → D' x = D x
theorem gr_of_eq {D D' : Int → Int} (h : ∀ x, x < 73 → D' x = D x) (v : vg D) : gr_eq (gr_of D') (gr_of D) := by
  have hn := v.1
  refine ⟨by show (D' 0).toNat = (D 0).toNat; rw [h 0 (by decide)], fun k hk => ?_⟩
  have hk' : k < (D' 0).toNat := hk
  rw [h 0 (by decide)] at hk'
  have hz := v.2.2.1 (k : Int) (by omega) (by omega)
  refine ⟨by show (D' (1 + 6 * (k : Int))).toNat = (D (1 + 6 * (k : Int))).toNat; rw [h _ (by omega)], ?_⟩
  rw [gr_of_sg, gr_of_sg, h (1 + 6 * (k : Int) + 1) (by omega)]
  exact sg_congr (fun s s1 s2 => h _ (by omega))
theorem vg_eq {D D' : Int → Int} (h : ∀ x, x < 73 → D' x = D x) (v : vg D) : vg D' := by
  obtain ⟨h1, h2, h3, h4⟩ := v
  refine ⟨by rw [h 0 (by decide)]; exact h1, fun k k1 k2 => by rw [h _ (by omega)]; exact h2 k k1 k2, fun k k1 k2 => by rw [h _ (by omega)]; exact h3 k k1 k2, fun k s k1 k2 s1 s2 => by rw [h _ (by omega)]; exact h4 k s k1 k2 s1 s2⟩
theorem dvl_line {D D' : Int → Int} (v : dvl D) (h : ∀ x, x < 73 ∨ 87 < x → D' x = D x) (hn : 0 ≤ D' 73 ∧ D' 73 ≤ 14) (hw : ∀ x, 0 ≤ x → x < 14 → 0 ≤ D' (74 + x) ∧ D' (74 + x) ≤ 7) : dvl D' := by
  obtain ⟨h1, h2, h3, h4, h5⟩ := v
  have hlt : ∀ x, x < 73 → D' x = D x := fun x hx => h x (Or.inl hx)
  refine ⟨vg_eq hlt h1, ?_, hn, hw, ?_⟩
  · rw [(gr_of_eq hlt h1).gd, hlt 1 (by decide)]; exact h2
  · have e : (fun k => D' (89 + k)) = fun k => D' (89 + k) := rfl
    obtain ⟨a1, a2, a3⟩ := h5
    rw [h 88 (by omega)]
    refine ⟨a1, fun i i1 i2 => by show 0 ≤ D' (89 + i) ∧ D' (89 + i) ≤ 7; rw [h _ (by omega)]; exact a2 i i1 i2, fun i j i1 i2 j1 j2 ee => a3 i j i1 i2 j1 j2 ?_⟩
    have ee' : D' (89 + i) = D' (89 + j) := ee
    rw [h _ (by omega), h _ (by omega)] at ee'
    exact ee'
/-- a desk whose line has changed -/
theorem drep.line {M M' : pj_M} {d : Nat} {D D' : Int → Int} {n : Int} {w : Int → Int} (r : drep M d D) (v : dvl D) (e : ∀ a, d ≤ a → a ≤ d + 7 → a ≠ d + 5 → a ≠ d + 6 → M' a = M a) (vl : lvl M' (d + 5)) (hn : M' (d + 5) 1 = n) (hw : leq n (M' (d + 6)) w) (c : chd D D' n w) : drep M' d D' := by
  obtain ⟨⟨g1, g2, g3, g4, R, g5, g6, g7⟩, _, p1, p2⟩ := r
  obtain ⟨c1, c2, c3⟩ := c
  have hv := v.1.1
  have hp := v.2.2.2.2.1
  refine ⟨⟨g1.eq (fun a a1 a2 => e a (by omega) (by omega) (by omega) (by omega)), ?_, fun k k1 k2 => ?_, ?_, R, ?_, g6, fun x => ?_⟩, ⟨vl, by rw [hn, c1], fun x x1 x2 => ?_⟩, ?_, fun k k1 k2 => ?_⟩
  · rw [e (d + 1) (by omega) (by omega) (by omega) (by omega), c3 0 (by omega)]; exact g2
  · rw [c3 0 (by omega)] at k2
    have hz := v.1.2.2.1 k k1 (by omega)
    rw [e (d + 2) (by omega) (by omega) (by omega) (by omega), e (d + 3) (by omega) (by omega) (by omega) (by omega), e (d + 4) (by omega) (by omega) (by omega) (by omega), c3 (1 + 6 * k) (by omega), c3 (1 + 6 * k + 1) (by omega)]
    obtain ⟨b1, b2, b3⟩ := g3 k k1 k2
    exact ⟨b1, b2, fun s s1 s2 => by rw [c3 (1 + 6 * k + 2 + s) (by omega)]; exact b3 s s1 s2⟩
  · rw [e (d + 1) (by omega) (by omega) (by omega) (by omega), c3 1 (by omega)]; exact g4
  · rw [e (d + 1) (by omega) (by omega) (by omega) (by omega)]; exact g5
  · rw [g7 x]
    constructor
    · rintro ⟨k, k1, k2, k3⟩
      exact ⟨k, k1, by rw [c3 0 (by omega)]; exact k2, by rw [c3 (1 + 6 * k) (by omega)]; exact k3⟩
    · rintro ⟨k, k1, k2, k3⟩
      rw [c3 0 (by omega)] at k2
      exact ⟨k, k1, k2, by rw [← c3 (1 + 6 * k) (by omega)]; exact k3⟩
  · rw [c1] at x2
    rw [hw x x1 x2]; exact (c2 x x1 x2).symm
  · rw [e d (by omega) (by omega) (by omega) (by omega), c3 88 (by omega)]; exact p1
  · rw [c3 88 (by omega)] at k2
    rw [e (d + 7) (by omega) (by omega) (by omega) (by omega)]
    show M (d + 7) k = D' (89 + k)
    rw [c3 (89 + k) (by omega)]; exact p2 k k1 k2
/-- one more in the history -/
def psh (sz : Int) (H H' : Int → Int → Int) (D : Int → Int) : Prop := ∀ i, 0 ≤ i → i < min (sz + 1) 10 → H' i = if i = min (sz + 1) 10 - 1 then D else if sz < 10 then H i else H (i + 1)
/-- what a change of a line has done -/
def chp (M : pj_M) (D : Int → Int) (H K : Int → Int → Int) (k p s : Int) (r : Int) (M' : pj_M) : Prop :=
  r = (lop k p s (D 73) (lw D)).1 ∧ (∀ a, 203 ≤ a → M' a = M a) ∧ M' 1 = M 1 ∧ M' 2 = M 2 ∧ M' 0 = M 0 ∧ M' 186 = M 186 ∧ M' 114 = M 114 ∧ (r < 0 → CI M' D H K ∧ M' 31 2 = M 31 2) ∧ (0 ≤ r → M' 31 2 = min (M 31 2 + 1) 10 ∧ ∀ D' H', chd D D' (lop k p s (D 73) (lw D)).2.1 (lop k p s (D 73) (lw D)).2.2 → dvl D' → psh (M 31 2) H H' D → CI M' D' H' K)
theorem o_changed {M M1 M2 : pj_M} {D : Int → Int} {H K : Int → Int → Int} {k p s r : Int} {Q : Int → pj_M → Prop} (ci : CI M D H K) (e1 : eqk 21 M M1) (rb : drep M1 21 D) (h : lres M1 18 k p s r M2) (hr : pj_in r) (q : ∀ r M', chp M D H K k p s r M' → Q r M') : w_X11_keptIfDone 0 r M2 Q := by
  obtain ⟨c1, ⟨c2, cv⟩, c3, c4, c5, c6, c7, c8⟩ := ci
  obtain ⟨e2, vl2, hres, hn2, hw2⟩ := h
  have r1 : drep M1 13 D := c2.eq (fun a a1 a2 => e1.row (by omega))
  have n1 : M1 18 1 = D 73 := r1.2.1.2.1
  have w1 : leq (D 73) (M1 (18 + 1)) (lw D) := r1.2.1.2.2
  rw [n1] at hres hn2 hw2
  obtain ⟨g1, g2, g3⟩ := lop_congr (k := k) (p := p) (s := s) w1
  rw [g1] at hres
  rw [g2] at hn2 g3
  have hw : leq (lop k p s (D 73) (lw D)).2.1 (M2 (18 + 1)) (lop k p s (D 73) (lw D)).2.2 := fun x x1 x2 => by
    rw [hw2 x x1 (by rw [hn2]; exact x2)]; exact g3 x x1 x2
  have row : ∀ a, a < 18 ∨ (19 < a ∧ a < 21) ∨ 28 < a → M2 a = M a := fun a ha => by rw [e2.row (by omega), e1.row (by omega)]
  have rb2 : drep M2 21 D := rb.eq (fun a a1 a2 => e2.row (by omega))
  have sc2 : csc M2 := c1.eq (fun a ha => row a (by omega))
  unfold w_X11_keptIfDone
  rw [rc_5, rc_3]
  refine ⟨hr, fun hneg => ?_, fun hpos => ?_⟩
  · -- nothing was done
    have hsame : (lop k p s (D 73) (lw D)).2.1 = D 73 ∧ leq (D 73) (lop k p s (D 73) (lw D)).2.2 (lw D) := by
      rw [hres] at hneg
      have hn := cv.2.2.1
      have hb := cv.2.2.2.1
      unfold lop at hneg ⊢
      by_cases h0 : k = 0
      · rw [if_pos h0] at hneg ⊢
        by_cases h1 : 1 ≤ p ∧ p ≤ D 73 ∧ 0 ≤ s ∧ s < 8
        · rw [if_pos h1] at hneg ⊢
          by_cases h2 : lw D (p - 1) = s
          · rw [if_pos h2]; exact ⟨rfl, fun _ _ _ => rfl⟩
          · rw [if_neg h2] at hneg
            exfalso
            have h3 : 0 ≤ lw D (p - 1) := (hb (p - 1) (by omega) (by omega)).1
            have h4 : lw D (p - 1) < 0 := hneg
            omega
        · rw [if_neg h1]; exact ⟨rfl, fun _ _ _ => rfl⟩
      · rw [if_neg h0] at hneg ⊢
        by_cases h1 : k = 1
        · rw [if_pos h1] at hneg ⊢
          by_cases h2 : 1 ≤ p ∧ p ≤ D 73 + 1 ∧ 0 ≤ s ∧ s < 8
          · rw [if_pos h2] at hneg ⊢
            by_cases h3 : 14 ≤ D 73
            · rw [if_pos h3]; exact ⟨rfl, fun _ _ _ => rfl⟩
            · rw [if_neg h3] at hneg; have h4 : D 73 + 1 < 0 := hneg; omega
          · rw [if_neg h2]; exact ⟨rfl, fun _ _ _ => rfl⟩
        · rw [if_neg h1] at hneg ⊢
          by_cases h2 : 1 ≤ p ∧ p ≤ D 73
          · rw [if_pos h2] at hneg; have h4 : D 73 - 1 < 0 := hneg; omega
          · rw [if_neg h2]; exact ⟨rfl, fun _ _ _ => rfl⟩
    refine q r M2 ⟨hres, fun a ha => row a (by omega), row 1 (by omega), row 2 (by omega), row 0 (by omega), row 186 (by omega), row 114 (by omega), fun _ => ⟨⟨sc2, ⟨?_, cv⟩, rb2.wf, c4.eq (fun a a1 a2 => row a (by omega)), kpt.eq c5 (fun a a1 a2 => row a (by omega)) (row 114 (by omega)), by rw [row 1 (by omega), row 2 (by omega)]; exact c6, c7.eq (fun a a1 a2 => row a (by omega)), ?_⟩, by rw [row 31 (by omega)]⟩, fun h => by omega⟩
    · refine r1.line cv (fun a a1 a2 a3 a4 => e2.row (by omega)) vl2 (by rw [hn2, hsame.1]) (w := lw D) ?_ ⟨rfl, fun _ _ _ => rfl, fun _ _ => rfl⟩
      intro x x1 x2
      rw [hw x x1 (by rw [hsame.1]; exact x2)]; exact hsame.2 x x1 x2
    · obtain ⟨l, hl⟩ := c8; exact ⟨l, hl.eq (row 186 (by omega)) (by rw [row 0 (by omega)])⟩
  · have c4' : hst M2 H := c4.eq (fun a a1 a2 => row a (by omega))
    have e31 : M2 31 2 = M 31 2 := by rw [row 31 (by omega)]
    have push : ∀ H', psh (M 31 2) H H' D → ∀ i, 0 ≤ i → i < min (M2 31 2 + 1) 10 → H' i = if i = min (M2 31 2 + 1) 10 - 1 then D else if M2 31 2 < 10 then H i else H (i + 1) := fun H' hp => by rw [e31]; exact hp
    refine t_pushH (H' := fun i => if i = min (M 31 2 + 1) 10 - 1 then D else if M 31 2 < 10 then H i else H (i + 1)) (Or.inr rfl) c4' rb2 cv (by rw [e31]; exact fun _ _ _ => rfl) (fun M3 e3 h3 z3 => ?_)
    have row3 : ∀ a, a < 18 ∨ (19 < a ∧ a < 21) ∨ (28 < a ∧ a < 31) ∨ 112 < a → M3 a = M a := fun a ha => by rw [e3 a (by omega), row a (by omega)]
    refine q r M3 ⟨hres, fun a ha => row3 a (by omega), row3 1 (by omega), row3 2 (by omega), row3 0 (by omega), row3 186 (by omega), row3 114 (by omega), fun h => by omega, fun _ => ⟨by rw [z3, e31], fun D' H' hc hv' hp => ⟨sc2.eq (fun a ha => e3 a (by omega)), ⟨?_, hv'⟩, rb2.wf.eq (fun a a1 a2 => e3 a (by omega)), h3.congr (fun i i1 i2 => ?_), kpt.eq c5 (fun a a1 a2 => row3 a (by omega)) (row3 114 (by omega)), by rw [row3 1 (by omega), row3 2 (by omega)]; exact c6, c7.eq (fun a a1 a2 => row3 a (by omega)), ?_⟩⟩⟩
    · refine r1.line cv (fun a a1 a2 a3 a4 => by rw [e3 a (by omega), e2.row (by omega)]) ?_ (by rw [e3 18 (by omega), hn2]) (w := (lop k p s (D 73) (lw D)).2.2) ?_ hc
      · exact ⟨by rw [e3 (13 + 5) (by omega)]; exact vl2.1, by rw [e3 (13 + 5 + 1) (by omega)]; exact vl2.2⟩
      · intro x x1 x2
        rw [e3 (13 + 6) (by omega)]; exact hw x x1 x2
    · rw [z3, e31] at i2
      exact hp i i1 i2
    · obtain ⟨l, hl⟩ := c8; exact ⟨l, hl.eq (row3 186 (by omega)) (by rw [row3 0 (by omega)])⟩
section
variable {M : pj_M} {D : Int → Int} {H K : Int → Int → Int} {Q : Int → pj_M → Prop}
theorem lres.in {M M' : pj_M} {l : Nat} {k p s r : Int} (vl : lvl M l) (h : lres M l k p s r M') : pj_in r := by
  rw [h.2.2.1]
  have hn := vl.1
  unfold lop
  have hp := vl.2 (p - 1)
  repeat' split
  all_goals (first | exact ⟨by show -2147483648 ≤ _; simp only; omega, by simp only; omega⟩)
theorem o_becomes {p s : Int} (ci : CI M D H K) (hp : pj_in p) (hs : pj_in s) (q : ∀ r M', chp M D H K 0 p s r M' → Q r M') : w_X11_becomes 0 p s M Q := by
  unfold w_X11_becomes
  rw [rc_3, rc_2, rk_1]
  refine t_copyFromD dcell_21 dcell_13 (by decide) ci.2.2.1 ci.2.1.1 ci.2.1.2 (fun M1 e1 rb => ?_)
  have vl1 : lvl M1 18 := (ci.2.1.1.eq (fun a a1 a2 => e1.row (by omega))).2.1.1
  exact t_replaceAt dcell_13.2.2.2.2 vl1 hp hs (fun r M2 h => o_changed ci e1 rb h (h.in vl1) q)
theorem o_comes {p s : Int} (ci : CI M D H K) (hp : pj_in p) (hs : pj_in s) (q : ∀ r M', chp M D H K 1 p s r M' → Q r M') : w_X11_comes 0 p s M Q := by
  unfold w_X11_comes
  rw [rc_3, rc_2, rk_1]
  refine t_copyFromD dcell_21 dcell_13 (by decide) ci.2.2.1 ci.2.1.1 ci.2.1.2 (fun M1 e1 rb => ?_)
  have vl1 : lvl M1 18 := (ci.2.1.1.eq (fun a a1 a2 => e1.row (by omega))).2.1.1
  exact t_insertAt dcell_13.2.2.2.2 vl1 hp hs (fun r M2 h => o_changed ci e1 rb h (h.in vl1) q)
theorem o_goes {p : Int} (ci : CI M D H K) (hp : pj_in p) (q : ∀ r M', chp M D H K 2 p 0 r M' → Q r M') : w_X11_goes 0 p M Q := by
  unfold w_X11_goes
  rw [rc_3, rc_2, rk_1]
  refine t_copyFromD dcell_21 dcell_13 (by decide) ci.2.2.1 ci.2.1.1 ci.2.1.2 (fun M1 e1 rb => ?_)
  have vl1 : lvl M1 18 := (ci.2.1.1.eq (fun a a1 a2 => e1.row (by omega))).2.1.1
  exact t_removeAt dcell_13.2.2.2.2 vl1 hp (fun r M2 h => o_changed ci e1 rb h (h.in vl1) q)
end
