/-- a Line: its row lies behind it -/
def lcell (l : Nat) : Prop := pj_rf l 0 = l + 1
def lvl (M : pj_M) (l : Nat) : Prop := (0 ≤ M l 1 ∧ M l 1 ≤ 14) ∧ ∀ x, 0 ≤ M (l + 1) x ∧ M (l + 1) x ≤ 7
/-- the row of tokens of a line -/
def crow (t : Int) (w : Int → Int) (n p : Int) : Int := if t = 0 then fr_w w n p else fr_w w n (n + 1 - p)
theorem crow_b {t : Int} {w : Int → Int} {n p : Int} (hw : ∀ x, 0 ≤ w x ∧ w x ≤ 7) : 0 ≤ crow t w n p ∧ crow t w n p ≤ 9 := by
  have : ∀ p, 0 ≤ fr_w w n p ∧ fr_w w n p ≤ 9 := by
    intro p
    unfold fr_w
    split
    · exact ⟨by decide, by decide⟩
    · split
      · exact ⟨by decide, by decide⟩
      · have := hw (p - 1); omega
  unfold crow
  split <;> exact this _
theorem cst_fill {M M' : pj_M} {c q : Nat} (st : cst M c) (hq : (q : Int) ≤ M c 11) (e : eqv c M M') (sn : csan M' c) (h12 : M' c 12 = (q : Int)) (hp : ∀ q', q' ≤ q → cpx M' c q') : cst M' c := by
  obtain ⟨ok, tk, _, gd, hx, _, _⟩ := st
  have h11 : M' c 11 = M c 11 := e.c (by decide)
  exact ⟨ok.eqv e, tk.eqv e, sn, gd.eqd (eqd.v e), fun q' h => (hx q' (by omega)).eqv e, by omega, fun q' h => hp q' (by omega)⟩
/-- a chart has read a line -/
def crd (M : pj_M) (c : Nat) (t : Int) (w : Int → Int) (n : Int) : Prop := clk M c ∧ M c 7 = 1 ∧ M c 8 = t ∧ M c 11 = n + 2 ∧ M c 12 = n + 2 ∧ ∀ p, 0 ≤ p → p < n + 2 → M (c + 14) p = crow t w n p
theorem t_readC {M : pj_M} {c b l : Nat} {t : Int} {Q : pj_M → Prop} (hi : cinv M c) (hb : gcell b) (vb : gvl M b) (gb : gr_gd (gof M b) 8 (M b 4).toNat) (hbc : b + 3 < c ∨ c + 19 < b) (hl : lcell l) (vl : lvl M l) (hlc : l + 1 < c ∨ c + 19 < l) (ht : t = 0 ∨ t = 1) (q : ∀ M', eqc c M M' → crd M' c t (M (l + 1)) (M l 1) → gr_eq (gof M' (c + 1)) (gof M b) → M' (c + 1) 4 = M b 4 → Q M') : w_X0_read c b l t M Q := by
  have hc := hi.1
  obtain ⟨hn, hw⟩ := vl
  unfold w_X0_read
  refine t_learnC hi hb vb gb hbc ht (fun M0 e0 k0 l0 t0 g0 s0 => ?_)
  rw [e0.row (show l < c ∨ c + 19 < l by omega), t0]
  rintro z3 rfl
  have rl : ∀ M1, eqd c M0 M1 → M1 (l + 1) = M (l + 1) := fun M1 e => (e.row (by omega) (by omega)).trans (e0.row (by omega))
  have t8 : ∀ M1, eqd c M0 M1 → M1 c 8 = t := fun M1 e => (e.c (by decide) (by decide)).trans t0
  -- the last steps
  have last : ∀ M1, cst M1 c → eqd c M0 M1 → M l 1 + 1 ≤ M1 c 11 → (∀ p, 0 ≤ p → p < M l 1 + 1 → M1 (c + 14) p = crow t (M (l + 1)) (M l 1) p) → ∀ f : Int, f = crow t (M (l + 1)) (M l 1) (M l 1 + 1) → w_X0_read_98 c (M l 1) c (M l 1 + 1) f Q M1 := by
    rintro M1 s1 e1 z1 p1 f rfl
    unfold w_X0_read_98
    refine t_layC s1 ⟨by omega, by omega⟩ z1 (crow_b hw) (fun M2 s2 e2 z2 p2 f2 => t_cut s2 ⟨by omega, by omega⟩ (fun M3 s3 e3 p3 z3 y3 => ?_))
    rintro z14 rfl
    have z11 : M3 c 11 = M l 1 + 2 := by omega
    have tok : ∀ p, 0 ≤ p → p < M l 1 + 2 → M3 (c + 14) p = crow t (M (l + 1)) (M l 1) p := by
      intro p h1 h2
      rw [p3]
      by_cases e : p = M l 1 + 1
      · rw [e]; exact f2
      · rw [p2 p h1 (by omega)]; exact p1 p h1 (by omega)
    have ed := (e1.tr e2).tr e3
    unfold w_X0_read_117
    have hp := s3.2.2.2.2.2.1
    refine pj_lp_inv (fun y : Int × pj_M => cst y.2 c ∧ eqd c M3 y.2 ∧ y.2 (c + 14) = M3 (c + 14) ∧ y.2 c 11 = M l 1 + 2 ∧ y.1 = y.2 c 12 + 1) (fun y => (M l 1 + 3 - y.1).toNat) ?_ (M3 c 12 + 1, M3) ⟨s3, eqd.rf, rfl, z11, rfl⟩
    rintro ⟨x5, M4⟩ ⟨s4, e4, p4, z4, y4⟩ P hP
    dsimp only at s4 e4 p4 z4 y4 hP ⊢
    have hp4 := s4.2.2.2.2.2.1
    unfold w_X0_read_117b
    rw [z4]
    refine ⟨⟨by omega, by omega⟩, ⟨by omega, by omega⟩, fun hend => ?_, fun hend => ?_⟩
    · have e5 := ed.tr e4
      refine q M4 (e0.tr (eqc.d e5)) ⟨l0.dyn e5 s4, ?_, t8 M4 e5, z4, by omega, fun p h1 h2 => by rw [p4]; exact tok p h1 h2⟩ ?_ ?_
      · rw [e5.c (by decide) (by decide)]; exact k0
      · rw [gof.eq (fun a a1 a2 => e5.row (by omega) (by omega))]; exact g0
      · rw [e5.row (show c + 1 < c + 14 ∨ _ by omega) (by omega)]; exact s0
    · obtain ⟨m, hm⟩ : ∃ m : Nat, x5 = (m : Int) := ⟨x5.toNat, by omega⟩
      rw [hm]
      obtain ⟨ok, tk, sn, gd, hx, _, hpx⟩ := s4
      refine t_fillParts ok tk sn gd (by omega) (fun q' h => hx q' (by omega)) (fun q' h => hpx q' (by omega)) (fun M5 e5 s5 h5 x5' => ?_)
      refine hP ((m : Int) + 1, M5) ⟨cst_fill ⟨ok, tk, sn, gd, hx, hp4, hpx⟩ (by omega) e5 s5 h5 x5', e4.tr (eqd.v e5), ?_, ?_, by show (m : Int) + 1 = M5 c 12 + 1; omega⟩ (by show (M l 1 + 3 - ((m : Int) + 1)).toNat < (M l 1 + 3 - x5).toNat; omega)
      · show M5 (c + 14) = _
        rw [e5.row (by omega) (by omega) (by omega) (by omega)]; exact p4
      · show M5 c 11 = _
        rw [e5.c (by decide)]; exact z4
  have row0 : ∀ x : Int, crow t (M (l + 1)) (M l 1) 0 = (if t = 0 then 8 else 9) ∧ crow t (M (l + 1)) (M l 1) (M l 1 + 1) = (if t = 0 then 9 else 8) := by
    intro _
    unfold crow fr_w
    by_cases h : t = 0
    · rw [if_pos h, if_pos h, if_pos h, if_pos h, if_pos rfl, if_neg (by omega), if_pos rfl]; exact ⟨rfl, rfl⟩
    · rw [if_neg h, if_neg h, if_neg h, if_neg h, if_neg (by omega), if_pos (by omega), if_pos (by omega)]; exact ⟨rfl, rfl⟩
  have loop : ∀ f : Int, f = crow t (M (l + 1)) (M l 1) 0 → w_X0_read_28 c l (M l 1) c 0 f Q M0 := by
    rintro f rfl
    have h0 := l0.2.1.2.1.1
    unfold w_X0_read_28
    refine t_layC l0.2.1 ⟨by omega, by omega⟩ (by omega) (crow_b hw) (fun M1 s1 e1 z1 p1 f1 => ?_)
    unfold w_X0_read_34
    refine pj_lp_inv (fun y : Int × pj_M => (0 ≤ y.1 ∧ y.1 ≤ M l 1) ∧ cst y.2 c ∧ eqd c M0 y.2 ∧ y.1 + 1 ≤ y.2 c 11 ∧ ∀ p, 0 ≤ p → p < y.1 + 1 → y.2 (c + 14) p = crow t (M (l + 1)) (M l 1) p) (fun y => (M l 1 - y.1).toNat) ?_ (0, M1) ⟨⟨Int.le_refl _, hn.1⟩, s1, e1, z1, fun p h1 h2 => by
      have : p = 0 := by dsimp only at h2; omega
      subst this; exact f1⟩
    rintro ⟨x5, M2⟩ ⟨hx, s2, e2, z2, p2⟩ P hP
    dsimp only at hx s2 e2 z2 p2 hP ⊢
    have h17 := s2.2.1.1
    unfold w_X0_read_34b
    rw [t8 M2 e2, hl]
    have tin : pj_in t := by rcases ht with h | h <;> rw [h] <;> exact ⟨by decide, by decide⟩
    refine ⟨⟨by omega, by omega⟩, ⟨by omega, by omega⟩, fun hend => ⟨tin, fun h => ?_, fun h => ?_⟩, fun hend => ?_⟩
    · exact last M2 s2 e2 (by omega) (fun p h1 h2 => p2 p h1 (by omega)) 9 (by rw [(row0 0).2, if_pos h])
    · exact last M2 s2 e2 (by omega) (fun p h1 h2 => p2 p h1 (by omega)) 8 (by rw [(row0 0).2, if_neg h])
    · have one : ∀ y : Int, 0 ≤ y → y < 14 → M (l + 1) y = crow t (M (l + 1)) (M l 1) (x5 + 1) → w_X0_read_69 c l (M l 1) x5 c (x5 + 1) (l + 1) y (fun x1 M => P (x1, M)) Q M2 := by
        intro y y1 y2 y3
        unfold w_X0_read_69
        rw [rl M2 e2, y3]
        refine ⟨⟨y1, y2⟩, t_layC s2 ⟨by omega, by omega⟩ z2 (crow_b hw) (fun M3 s3 e3 z3 p3 f3 => ?_)⟩
        refine hP (x5 + 1, M3) ⟨⟨by show 0 ≤ x5 + 1; omega, by show x5 + 1 ≤ _; omega⟩, s3, e2.tr e3, z3, fun p h1 h2 => ?_⟩ (by show (M l 1 - (x5 + 1)).toNat < (M l 1 - x5).toNat; omega)
        show M3 (c + 14) p = _
        by_cases e : p = x5 + 1
        · rw [e]; exact f3
        · have h2' : p < x5 + 1 + 1 := h2
          rw [p3 p h1 (by omega)]; exact p2 p h1 (by omega)
      refine ⟨tin, fun h => one x5 (by omega) (by omega) ?_, fun h => one (M l 1 - 1 - x5) (by omega) (by omega) ?_⟩
      · unfold crow fr_w
        rw [if_pos h, if_neg (by omega), if_neg (by omega), show x5 + 1 - 1 = x5 by omega]
      · unfold crow fr_w
        rw [if_neg h, if_neg (by omega), if_neg (by omega), show M l 1 + 1 - (x5 + 1) - 1 = M l 1 - 1 - x5 by omega]
  exact ⟨by rcases ht with h | h <;> rw [h] <;> exact ⟨by decide, by decide⟩, fun h => loop 8 (by rw [(row0 0).1, if_pos h]), fun h => loop 9 (by rw [(row0 0).1, if_neg h])⟩
/-- fitting, as a chart sees it -/
theorem clk.fit {M : pj_M} {c : Nat} {u : List Nat} (h : clk M c) : gr_if (gc M c) 10 6 u ↔ fr_in (gof M (c + 1)) (M (c + 1) 4).toNat (if M c 8 = 0 then u else u.reverse) := by
  have hst := h.2.2.1.st
  have h6 : ∀ w, gr_y (gc M c) 10 6 w ↔ ∃ s, gr_y (ctg M c) 8 (M (c + 1) 4).toNat s ∧ w = cf1 M c :: (s ++ [cf2 M c]) := fun w => trm_6 h.2.2.2.2.2 (ctg_ok h.2.2.1) (cf1_lt _ _) (cf2_lt _ _) (by omega)
  unfold gr_if fr_in
  simp only [h6]
  unfold ctg cf1 cf2
  by_cases h8 : M c 8 = 0
  · simp only [if_pos h8]
    constructor
    · rintro ⟨v, w, s, h1, h2⟩; exact ⟨s, v, w, h1, h2.symm⟩
    · rintro ⟨s, v, w, h1, h2⟩; exact ⟨v, w, s, h1, h2.symm⟩
  · simp only [if_neg h8]
    constructor
    · rintro ⟨v, w, s, h1, h2⟩
      refine ⟨s.reverse, w.reverse, v.reverse, gr_y_rv.mp h1, ?_⟩
      have := congrArg List.reverse h2
      simp at this
      show 8 :: (s.reverse ++ [9]) = _
      simp [this]
    · rintro ⟨s, v, w, h1, h2⟩
      refine ⟨w.reverse, v.reverse, s.reverse, gr_y_rv.mpr (by simpa using h1), ?_⟩
      have := congrArg List.reverse h2
      simp at this
      simp [this]
/-- a piece fits -/
def pfit (G : gr_G) (st : Nat) (w : Int → Int) (n i j : Int) : Prop := fr_in G st (sg (fr_w w n) i j)
/-- what a chart that has read a line tells of fitting -/
theorem crd.fit {M : pj_M} {c : Nat} {t n : Int} {w : Int → Int} (h : crd M c t w n) {i j : Nat} (hij : i ≤ j) (hj : (j : Int) ≤ n + 2) : M (c + 19) (108 + (j : Int)) ≤ (i : Int) ↔ (if t = 0 then pfit (gof M (c + 1)) (M (c + 1) 4).toNat w n (i : Int) (j : Int) else pfit (gof M (c + 1)) (M (c + 1) 4).toNat w n (n + 2 - (j : Int)) (n + 2 - (i : Int))) := by
  obtain ⟨lk, _, h8, h11, h12, tok⟩ := h
  have hx := (lk.2.1.2.2.2.2.2.2 j (by omega) 6 i (by decide)).2 hij
  have h1 := hx.2
  rw [show ((6 : Nat) : Int) * 18 + (j : Int) = 108 + (j : Int) by omega] at h1
  rw [h1, lk.fit, h8]
  unfold pfit
  have e : tkw M c i j = sg (crow t w n) (i : Int) (j : Int) := sg_congr (fun p p1 p2 => tok p (by omega) (by omega))
  rw [e]
  by_cases ht : t = 0
  · rw [if_pos ht, if_pos ht]
    have : sg (crow t w n) (i : Int) (j : Int) = sg (fr_w w n) (i : Int) (j : Int) := sg_congr (fun p _ _ => by unfold crow; rw [if_pos ht])
    rw [this]
  · rw [if_neg ht, if_neg ht]
    have : (sg (crow t w n) (i : Int) (j : Int)).reverse = sg (fr_w w n) (n + 2 - (j : Int)) (n + 2 - (i : Int)) := by
      apply List.ext_getElem?
      intro s
      by_cases hs : s < ((j : Int) - (i : Int)).toNat
      · rw [List.getElem?_reverse (by rw [sg_len]; exact hs), sg_len, sg_get (by omega), sg_get (by omega)]
        unfold crow
        rw [if_neg ht, show n + 1 - ((i : Int) + ((((j : Int) - (i : Int)).toNat - 1 - s : Nat) : Int)) = n + 2 - (j : Int) + (s : Int) by omega]
      · rw [List.getElem?_eq_none (by rw [List.length_reverse, sg_len]; omega), List.getElem?_eq_none (by rw [sg_len]; omega)]
    rw [this]
theorem crd.b19 {M : pj_M} {c : Nat} {t n : Int} {w : Int → Int} (h : crd M c t w n) (x : Int) : 0 ≤ M (c + 19) x ∧ M (c + 19) x ≤ 1048576 := h.1.2.1.2.2.1.2.2.2.2 x
theorem pfit_nil {G : gr_G} {st : Nat} {w : Int → Int} {n i : Int} (h : gr_gd G 8 st) : pfit G st w n i i := by
  unfold pfit; rw [sg_nil]; exact fr_in_nil.mpr h
theorem pfit_sub {G : gr_G} {st : Nat} {w : Int → Int} {n i j i' j' : Int} (h : pfit G st w n i j) (h1 : i ≤ i') (h2 : i' ≤ j') (h3 : j' ≤ j) : pfit G st w n i' j' := by
  unfold pfit at *
  rw [← sg_app (w := fr_w w n) (i := i) (m := i') (j := j) h1 (by omega), ← sg_app (w := fr_w w n) (i := i') (m := j') (j := j) h2 h3, ← List.append_assoc] at h
  exact fr_in_sub h
