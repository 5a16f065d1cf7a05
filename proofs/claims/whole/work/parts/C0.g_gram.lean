theorem gwb.eq' {M M' : pj_M} {b : Nat} (v : gwb M b) (e : ∀ a, b < a → a ≤ b + 3 → M' a = M a) : gwb M' b := by
  unfold gwb at *
  rw [e (b + 1) (by omega) (by omega), e (b + 2) (by omega) (by omega), e (b + 3) (by omega) (by omega)]
  exact v
theorem t_everyCap {M : pj_M} {c : Int} {E : Int → Int} {Q : Int → pj_M → Prop} (h : crr M (2, c, E)) (w : gsw (2, c, E)) (q : ∀ r, (r = 0 ∨ r = 1) → (r = 1 ↔ allR E) → Q r M) : w_X4_everyCapitalHasRule 4 M Q := by
  obtain ⟨g1, g2, g3, g4, g5, ⟨R, g6, g7, g8⟩, g9, g10⟩ := h
  obtain ⟨w1, w2, w3, w4, w5, w6, w7, w8, w9⟩ := w
  dsimp only at *
  unfold w_X4_everyCapitalHasRule w_X4_everyCapitalHasRule_2
  refine pj_lp_inv (fun y : Int × pj_M => (0 ≤ y.1 ∧ y.1 ≤ E 0) ∧ y.2 = M ∧ ∀ k t, 0 ≤ k → k < y.1 → 0 ≤ t → t < E (1 + 6 * k + 1) → 8 ≤ E (1 + 6 * k + 2 + t) → inR E (E (1 + 6 * k + 2 + t) - 8)) (fun y => (E 0 - y.1).toNat) ?_ (0, M) ⟨⟨Int.le_refl _, w2.1⟩, rfl, fun k t k1 k2 => by have : k < 0 := k2; omega⟩
  rintro ⟨k, Mx⟩ ⟨hk, hM, hall⟩ P hP
  dsimp only at hk hM hall hP ⊢
  have hM' := hM.symm
  subst hM'
  unfold w_X4_everyCapitalHasRule_2b
  rw [g4]
  refine ⟨⟨by omega, by omega⟩, ⟨by omega, by omega⟩, fun hend => q 1 (Or.inr rfl) ⟨fun _ k' t a1 a2 => hall k' t a1 (by omega), fun _ => rfl⟩, fun hgo => ?_⟩
  obtain ⟨b1, b2, b3⟩ := g5 k hk.1 (by omega)
  have hz := w8 k hk.1 (by omega)
  unfold w_X4_everyCapitalHasRule_12
  refine pj_lp_inv (fun y : Int × pj_M => (0 ≤ y.1 ∧ y.1 ≤ E (1 + 6 * k + 1)) ∧ y.2 = M ∧ ∀ t, 0 ≤ t → t < y.1 → 8 ≤ E (1 + 6 * k + 2 + t) → inR E (E (1 + 6 * k + 2 + t) - 8)) (fun y => (E (1 + 6 * k + 1) - y.1).toNat) ?_ (0, M) ⟨⟨Int.le_refl _, hz.1⟩, rfl, fun t t1 t2 => by have : t < 0 := t2; omega⟩
  rintro ⟨t, Mx⟩ ⟨ht, hM2, hall2⟩ P2 hP2
  dsimp only at ht hM2 hall2 hP2 ⊢
  have hM2' := hM2.symm
  subst hM2'
  unfold w_X4_everyCapitalHasRule_12b
  rw [r4_1, r4_2, b2]
  refine ⟨⟨by omega, by omega⟩, ⟨by omega, by omega⟩, ⟨by omega, by omega⟩, fun hend => ?_, fun hgo2 => ⟨⟨by omega, by omega⟩, ?_⟩⟩
  · refine hP (k + 1, M) ⟨⟨by show 0 ≤ k + 1; omega, by show k + 1 ≤ E 0; omega⟩, rfl, fun k' t' a1 a2 a3 a4 => ?_⟩ (by show (E 0 - (k + 1)).toNat < (E 0 - k).toNat; omega)
    have a2' : k' < k + 1 := a2
    by_cases e : k' = k
    · subst e; exact hall2 t' a3 (by omega)
    · exact hall k' t' a1 (by omega) a3 a4
  · rintro z rfl
    rw [b3 t ht.1 (by omega)]
    have hsb := w9 k t hk.1 (by omega) ht.1 (by omega)
    have nxt : (8 ≤ E (1 + 6 * k + 2 + t) → inR E (E (1 + 6 * k + 2 + t) - 8)) → P2 (t + 1, M) := by
      intro hok
      refine hP2 (t + 1, M) ⟨⟨by show 0 ≤ t + 1; omega, by show t + 1 ≤ E (1 + 6 * k + 1); omega⟩, rfl, fun t' a1 a2 => ?_⟩ (by show (E (1 + 6 * k + 1) - (t + 1)).toNat < (E (1 + 6 * k + 1) - t).toNat; omega)
      have a2' : t' < t + 1 := a2
      by_cases e : t' = t
      · subst e; exact hok
      · exact hall2 t' a1 (by omega)
    refine ⟨⟨by omega, by omega⟩, fun hlt => nxt (fun h => by omega), fun hge => ?_⟩
    obtain ⟨y, hy⟩ : ∃ y : Nat, E (1 + 6 * k + 2 + t) - 8 = (y : Int) := ⟨(E (1 + 6 * k + 2 + t) - 8).toNat, by omega⟩
    have hg : R.testBit y = true ↔ inR E (E (1 + 6 * k + 2 + t) - 8) := by
      rw [g8 y, hy]
      constructor
      · rintro (h | ⟨h, _⟩)
        · exact h
        · exact absurd h (by decide)
      · exact Or.inl
    unfold w_X4_has
    rw [hy, g6, pb_bit (by omega) (by omega)]
    refine ⟨⟨by omega, by omega⟩, fun h => by omega, fun _ => ⟨⟨by omega, by omega⟩, fun h => by omega, fun _ => ?_⟩⟩
    by_cases e : R.testBit y = true
    · rw [e]
      exact ⟨⟨by decide, by decide⟩, fun h => absurd h (by decide), fun _ => ⟨⟨by decide, by decide⟩, fun _ => nxt (fun _ => hg.mp e), fun h => absurd h (by decide)⟩⟩
    · rw [if_neg e]
      exact ⟨⟨by decide, by decide⟩, fun _ => ⟨⟨by decide, by decide⟩, fun h => absurd rfl h, fun _ => q 0 (Or.inl rfl) ⟨fun h => absurd h (by decide), fun h => absurd (hg.mpr (h k t hk.1 (by omega) ht.1 (by omega) (by omega))) e⟩⟩, fun h => absurd rfl h⟩
/-- the draft as a grammar -/
theorem crr.gv {M : pj_M} {c : Int} {E : Int → Int} (h : crr M (2, c, E)) (w : gsw (2, c, E)) : gvl M 4 ∧ gr_eq (gof M 4) (gr_of E) ∧ M 4 4 = E 1 := by
  obtain ⟨g1, g2, g3, g4, g5, _, g9, g10⟩ := h
  obtain ⟨w1, w2, w3, w4, w5, w6, w7, w8, w9⟩ := w
  dsimp only at *
  have h1 := w3 rfl
  have st := g9 h1
  have b0 := g5 0 (Int.le_refl _) (by omega)
  rw [show (1 : Int) + 6 * 0 = 1 by omega] at b0
  refine ⟨⟨by rw [g4]; omega, g3.1, g3.2.1, g3.2.2, by rw [st]; exact b0.1.symm⟩, ⟨by show (M 4 3).toNat = (E 0).toNat; rw [g4], fun k hk => ?_⟩, st⟩
  have hk' : k < (M 4 3).toNat := hk
  rw [g4] at hk'
  obtain ⟨b1, b2, b3⟩ := g5 (k : Int) (by omega) (by omega)
  refine ⟨by show (M 5 (k : Int)).toNat = (E (1 + 6 * (k : Int))).toNat; rw [b1], ?_⟩
  rw [gr_of_sg]
  show sg (fun s => M 7 ((k : Int) * 4 + s)) 0 (M 6 (k : Int)) = _
  rw [b2]
  exact sg_congr (fun s s1 s2 => b3 s s1 s2)
/-- the reader reads the text -/
theorem t_readG {M : pj_M} {Q : Int → pj_M → Prop} (ht : (0 ≤ M 1 1 ∧ M 1 1 ≤ 80) ∧ ∀ k, 0 ≤ M 2 k ∧ M 2 k ≤ 255) (wb : gwb M 4) (q : ∀ r E M', eqe M M' → gwb M' 4 → s_gram (M 2) (M 1 1) r E → (0 ≤ r → ∃ c, crr M' (2, c, E) ∧ gsw (2, c, E)) → Q r M') : w_X5_read 3 1 M Q := by
  unfold w_X5_read w_X4_clear
  rw [rg_0]
  rintro M1 rfl M2 rfl M3 rfl
  have ee : eqe M (pj_up (pj_up (pj_up M 4 3 0) 4 5 0) 3 3 0) := ((eqe.up ⟨by decide, by decide⟩).tr (eqe.up ⟨by decide, by decide⟩)).tr (eqe.up ⟨by decide, by decide⟩)
  have c0 : crr (pj_up (pj_up (pj_up M 4 3 0) 4 5 0) 3 3 0) (0, 0, fun _ => 0) := by
    refine ⟨pu_eq, fun h => absurd rfl h, wb.eq' (fun a a1 a2 => by rw [pu_row (by omega), pu_row (by omega), pu_row (by omega)]), ?_, fun k k1 k2 => by have : k < 0 := k2; omega, ⟨0, ?_, by decide, fun x => ⟨fun h => by simp at h, fun h => ?_⟩⟩, fun h => absurd h (by show ¬ (1 : Int) ≤ 0; decide), fun _ h => absurd h (by show ¬ (0 : Int) = 1; decide)⟩
    · show pj_up (pj_up (pj_up M 4 3 0) 4 5 0) 3 3 0 4 3 = 0
      rw [pu_ne (by decide), pu_nk (by decide), pu_eq]
    · show pj_up (pj_up (pj_up M 4 3 0) 4 5 0) 3 3 0 4 5 = ((0 : Nat) : Int)
      rw [pu_ne (by decide), pu_eq]; rfl
    · rcases h with ⟨k, k1, k2, _⟩ | ⟨h, _⟩
      · have : k < 0 := k2; omega
      · exact absurd h (by show ¬ (0 : Int) = 1; decide)
  unfold w_X5_read_14
  refine pj_lp_inv (fun y : Int × pj_M => ∃ (p : Nat) (s : gS), y.1 = (p : Int) ∧ (p : Int) ≤ M 1 1 ∧ gsf (M 2) p = some s ∧ eqe M y.2 ∧ crr y.2 s) (fun y => (M 1 1 - y.1).toNat) ?_ (0, _) ⟨0, (0, 0, fun _ => 0), rfl, ht.1.1, rfl, ee, c0⟩
  rintro ⟨_, M4⟩ ⟨p, s, h1, hp, hs, e4, c4⟩ P hP
  dsimp only at h1 e4 c4 hP ⊢
  subst h1
  have w4 := gsf_w hs
  have e41 : M4 1 = M 1 := e4 1 (by omega)
  have e42 : M4 2 = M 2 := e4 2 (by omega)
  unfold w_X5_read_14b
  rw [e41, rg_0, rg_1, rt_0, r8_0, e42]
  obtain ⟨st, c, E⟩ := s
  have h33 : M4 3 3 = st := c4.1
  have hst : st = 0 ∨ st = 1 ∨ st = 2 := w4.1
  refine ⟨⟨by omega, by omega⟩, ⟨by omega, by omega⟩, fun hend => ?_, fun hgo => ⟨⟨by omega, by omega⟩, ?_⟩⟩
  · have hpn : (M 1 1).toNat = p := by omega
    rw [h33]
    refine ⟨⟨by omega, by omega⟩, fun h2 => ?_, fun hne => ?_⟩
    · subst h2
      refine t_everyCap c4 w4 (fun t ht' hiff => ⟨in01 ht', fun h => ?_, fun h => ?_⟩)
      · have hall : allR E := hiff.mp (by omega)
        obtain ⟨gv, ge, gst⟩ := c4.gv w4
        refine t_learnF (b := 4) (Or.inl rfl) gv (fun M5 e5 fo => ?_)
        have row5 : ∀ a, ¬ (8 ≤ a ∧ a ≤ 12) → M5 a = M4 a := fun a ha => e5.row (by omega)
        have e6 : eqe M M5 := e4.tr (fun a ha => row5 a (by omega))
        have m44 : M5 4 4 = E 1 := by rw [row5 4 (by omega)]; exact gst
        have m43 : M5 4 3 = E 0 := by rw [row5 4 (by omega)]; exact c4.2.2.2.1
        have hE1 := w4.2.2.2.2.2.2.1 0 (Int.le_refl _) (by decide)
        have hE1' : 0 ≤ E 1 ∧ E 1 ≤ 5 := hE1
        have hE0 : 1 ≤ E 0 := w4.2.2.1 rfl
        have hgd := fo.gd (x := (E 1).toNat) (by omega)
        rw [show (((E 1).toNat : Nat) : Int) = E 1 by omega, gof.eq (M := M4) (fun a a1 a2 => row5 a (by omega)), ge.gd] at hgd
        have hgd' : M5 9 (E 1) < 1048576 ↔ gr_gd (gr_of E) 8 (E 1).toNat := hgd
        have hv : 0 ≤ M5 9 (E 1) ∧ M5 9 (E 1) ≤ 1048576 := by
          have hx := fo.1 (E 1).toNat (by omega)
          rw [show (((E 1).toNat : Nat) : Int) = E 1 by omega] at hx
          rcases hx with ⟨n, a1, a2, _⟩ | ⟨a1, _⟩
          · have a1' : M5 9 (E 1) = (n : Int) := a1; omega
          · have a1' : M5 9 (E 1) = 1048576 := a1; omega
        have c5 : crr M5 (2, c, E) := by
          obtain ⟨g1, g2, g3, g4, g5, ⟨R, g6, g7, g8⟩, g9, g10⟩ := c4
          exact ⟨by rw [row5 3 (by omega)]; exact g1, fun h => by rw [row5 3 (by omega)]; exact g2 h, g3.eq' (fun a a1 a2 => row5 a (by omega)), by rw [row5 4 (by omega)]; exact g4, fun k k1 k2 => by rw [row5 5 (by omega), row5 6 (by omega), row5 7 (by omega)]; exact g5 k k1 k2, ⟨R, by rw [row5 4 (by omega)]; exact g6, g7, g8⟩, fun h => by rw [row5 4 (by omega)]; exact g9 h, fun h h' => by rw [row5 4 (by omega)]; exact g10 h h'⟩
        rw [m44, m43]
        refine ⟨⟨by omega, by omega⟩, ⟨by omega, by omega⟩, fun hge => ?_, fun hlt => ?_⟩
        · exact q (-200) E M5 e6 c5.2.2.1 (Or.inr ⟨2, c, by rw [hpn]; exact hs, Or.inr ⟨rfl, Or.inr (Or.inl ⟨hall, fun h => by have := hgd'.mpr h; omega, rfl⟩)⟩⟩) (fun h => absurd h (by decide))
        · exact q (E 0) E M5 e6 c5.2.2.1 (Or.inr ⟨2, c, by rw [hpn]; exact hs, Or.inr ⟨rfl, Or.inr (Or.inr ⟨hall, hgd'.mp (by omega), rfl, hE0⟩)⟩⟩) (fun _ => ⟨c, c5, w4⟩)
      · exact q (-201) E M4 e4 c4.2.2.1 (Or.inr ⟨2, c, by rw [hpn]; exact hs, Or.inr ⟨rfl, Or.inl ⟨fun h' => by have := hiff.mpr h'; omega, rfl⟩⟩⟩) (fun h => absurd h (by decide))
    · unfold w_X11_cannotStand
      exact q _ E M4 e4 c4.2.2.1 (Or.inr ⟨st, c, by rw [hpn]; exact hs, Or.inl ⟨hne, rfl⟩⟩) (fun h => by omega)
  · have hstep : gsf (M 2) (p + 1) = gs1 (M 2 (p : Int)) (st, c, E) := by
      show (gsf (M 2) p).bind _ = _
      rw [hs]; rfl
    refine t_takes c4 w4 (ht.2 _) (fun hnone M5 e5 wb5 => ⟨⟨by decide, by decide⟩, fun h => absurd rfl h, fun _ => ?_⟩) (fun s' M5 hsome e5 c5 => ⟨⟨by decide, by decide⟩, fun _ => ?_, fun h => absurd h (by decide)⟩)
    · unfold w_X11_cannotStand
      exact q _ E M5 (e4.tr e5) wb5 (Or.inl ⟨p, by omega, by rw [hs]; rfl, by rw [hstep]; exact hnone, rfl⟩) (fun h => by omega)
    · exact hP ((p : Int) + 1, M5) ⟨p + 1, s', by show (p : Int) + 1 = _; omega, by omega, by rw [hstep]; exact hsome, e4.tr e5, c5⟩ (by show (M 1 1 - ((p : Int) + 1)).toNat < (M 1 1 - (p : Int)).toNat; omega)
/-- a grammar is told -/
def chg (D D' E : Int → Int) : Prop := (∀ x, 0 ≤ x → x < 73 → D' x = E x) ∧ ∀ x, 73 ≤ x → D' x = D x
theorem o_grammar {M : pj_M} {D : Int → Int} {H K : Int → Int → Int} {Q : Int → pj_M → Prop} (ci : CI M D H K)
    (q : ∀ r E M', s_gram (M 2) (M 1 1) r E → (∀ a, a = 0 ∨ a = 2 ∨ a = 114 ∨ 186 ≤ a → M' a = M a) → M' 1 1 = 0 → (r < 0 → CI M' D H K ∧ M' 31 2 = M 31 2) → (0 ≤ r → M' 31 2 = min (M 31 2 + 1) 10 ∧ ∀ D' H', chg D D' E → dvl D' → psh (M 31 2) H H' D → CI M' D' H' K) → Q r M') : w_X11_grammar 0 M Q := by
  have ht := ci.2.2.2.2.2.1
  have ci0 := ci
  obtain ⟨c1, ⟨c2, cv⟩, c3, c4, c5, c6, c7, c8⟩ := ci
  unfold w_X11_grammar
  rw [rc_1, rc_0, rc_5, rc_2, rk_0, rg_0]
  refine t_readG ht c7 (fun r E M1 e1 wb1 hg hcr => ?_)
  unfold w_X9_clear
  rintro M2 rfl
  have hrb : pj_in r := by
    rcases hg with ⟨p, h1, _, _, h4⟩ | ⟨st, c, hs, h⟩
    · exact ⟨by omega, by omega⟩
    · have w := gsf_w hs
      have w2 : 0 ≤ E 0 ∧ E 0 ≤ 12 := w.2.1
      rcases h with ⟨_, h⟩ | ⟨_, ⟨_, h⟩ | ⟨_, _, h⟩ | ⟨_, _, h, _⟩⟩ <;> exact ⟨by omega, by omega⟩
  have row : ∀ a, a ≠ 1 → ¬ (3 ≤ a ∧ a ≤ 12) → pj_up M1 1 1 0 a = M a := fun a a1 a2 => by rw [pu_row a1]; exact e1 a a2
  have wb2 : gwb (pj_up M1 1 1 0) 4 := wb1.eq' (fun a a1 a2 => pu_row (by omega))
  have tx : (0 ≤ pj_up M1 1 1 0 1 1 ∧ pj_up M1 1 1 0 1 1 ≤ 80) ∧ ∀ k, 0 ≤ pj_up M1 1 1 0 2 k ∧ pj_up M1 1 1 0 2 k ≤ 255 := ⟨by rw [pu_eq]; exact ⟨by decide, by decide⟩, fun k => by rw [row 2 (by decide) (by omega)]; exact ht.2 k⟩
  have ci2 : CI (pj_up M1 1 1 0) D H K := by
    refine ⟨c1.eq (fun a ha => row a (by omega) (by omega)), ⟨c2.eq (fun a a1 a2 => row a (by omega) (by omega)), cv⟩, c3.eq (fun a a1 a2 => row a (by omega) (by omega)), c4.eq (fun a a1 a2 => row a (by omega) (by omega)), kpt.eq c5 (fun a a1 a2 => row a (by omega) (by omega)) (row 114 (by omega) (by omega)), tx, wb2, ?_⟩
    obtain ⟨l, hl⟩ := c8
    exact ⟨l, hl.eq (row 186 (by omega) (by omega)) (by rw [row 0 (by omega) (by omega)])⟩
  refine ⟨hrb, fun hneg => q r E _ hg (fun a ha => row a (by omega) (by omega)) pu_eq (fun _ => ⟨ci2, by rw [row 31 (by omega) (by omega)]⟩) (fun h => by omega), fun hpos => ?_⟩
  obtain ⟨c, cr, gw⟩ := hcr (by omega)
  have e31 : pj_up M1 1 1 0 31 2 = M 31 2 := by rw [row 31 (by omega) (by omega)]
  refine t_pushH (H' := fun i => if i = min (M 31 2 + 1) 10 - 1 then D else if M 31 2 < 10 then H i else H (i + 1)) (Or.inl rfl) ci2.2.2.2.1 ci2.2.1.1 cv (by rw [e31]; exact fun _ _ _ => rfl) (fun M3 e3 h3 z3 => ?_)
  rw [e31] at z3
  refine t_copyFromG dcell_13.2.2.2.1 (isF.g (Or.inl rfl)) (by decide) (fun M4 e4 o4 s4 y4 a4 st4 t4 => ?_)
  have row3 : ∀ a, a < 31 ∨ 112 < a → M3 a = pj_up M1 1 1 0 a := e3
  have row4 : ∀ a, a < 14 ∨ 17 < a → M4 a = M3 a := fun a ha => funext fun x => e4 a x (by omega)
  have row40 : ∀ a, a = 0 ∨ a = 2 ∨ a = 114 ∨ 186 ≤ a → M4 a = M a := fun a ha => by rw [row4 a (by omega), row3 a (by omega)]; exact row a (by omega) (by omega)
  have m41 : M4 1 1 = 0 := by rw [row4 1 (by omega), row3 1 (by omega), pu_eq]
  have d3 : ∀ a, 4 ≤ a → a ≤ 7 → M3 a = M1 a := fun a a1 a2 => by rw [row3 a (by omega), pu_row (by omega)]
  obtain ⟨g1, g2, g3, g4, g5, ⟨R, g6, g7, g8⟩, g9, g10⟩ := cr
  obtain ⟨w1, w2, w3, w4', w5, w6, w7, w8, w9⟩ := gw
  dsimp only at g4 g5 g8 g9 w2 w3 w7 w8 w9
  have hE1 := w3 rfl
  have r3 : drep M3 13 D := ci2.2.1.1.eq (fun a a1 a2 => row3 a (by omega))
  refine q r E M4 hg row40 m41 (fun h => by omega) (fun _ => ⟨by rw [row4 31 (by omega)]; exact z3, fun D' H' hc hv hps => ?_⟩)
  obtain ⟨hc1, hc2⟩ := hc
  have hD0 : D' 0 = E 0 := hc1 0 (by decide) (by decide)
  refine ⟨ci2.1.eq (fun a ha => by rw [row4 a (by omega)]; exact row3 a (by omega)), ⟨⟨⟨⟨?_, ?_, ?_, ?_, ?_⟩, ?_, fun k k1 k2 => ?_, ?_, R, ?_, g7, fun x => ?_⟩, ⟨?_, ?_, ?_⟩, ?_, ?_⟩, hv⟩, ci2.2.2.1.eq (fun a a1 a2 => by rw [row4 a (by omega)]; exact row3 a (by omega)), ?_, kpt.eq ci2.2.2.2.2.1 (fun a a1 a2 => by rw [row4 a (by omega)]; exact row3 a (by omega)) (by rw [row4 114 (by omega)]; exact row3 114 (by omega)), ⟨by rw [m41]; exact ⟨by decide, by decide⟩, fun k => by rw [row40 2 (by omega)]; exact ht.2 k⟩, ?_, ?_⟩
  · show 1 ≤ M4 14 3 ∧ M4 14 3 ≤ 12
    rw [a4, d3 4 (by omega) (by omega), g4]; omega
  · intro k
    show 0 ≤ M4 (14 + 1) k ∧ M4 (14 + 1) k ≤ 5
    rw [o4 k]; split
    · rw [d3 (4 + 1) (by omega) (by omega)]; exact g3.1 k
    · exact r3.1.1.2.1 k
  · intro k
    show 0 ≤ M4 (14 + 2) k ∧ M4 (14 + 2) k ≤ 4
    rw [s4 k]; split
    · rw [d3 (4 + 2) (by omega) (by omega)]; exact g3.2.1 k
    · exact r3.1.1.2.2.1 k
  · intro x
    show 0 ≤ M4 (14 + 3) x ∧ M4 (14 + 3) x ≤ 13
    rw [y4 x]; split
    · rw [d3 (4 + 3) (by omega) (by omega)]; exact g3.2.2 x
    · exact r3.1.1.2.2.2.1 x
  · show M4 14 4 = M4 (14 + 1) 0
    rw [st4, o4 0, if_pos (by omega), d3 4 (by omega) (by omega), d3 (4 + 1) (by omega) (by omega), g9 hE1]
    have b0 := (g5 0 (Int.le_refl _) (by omega)).1
    rw [show (1 : Int) + 6 * 0 = 1 by omega] at b0
    exact b0.symm
  · show M4 14 3 = D' 0
    rw [a4, d3 4 (by omega) (by omega), g4, hD0]
  · rw [hD0] at k2
    obtain ⟨b1, b2, b3⟩ := g5 k k1 k2
    have hz := w8 k k1 (by omega)
    rw [hc1 (1 + 6 * k) (by omega) (by omega), hc1 (1 + 6 * k + 1) (by omega) (by omega)]
    refine ⟨?_, ?_, fun s s1 s2 => ?_⟩
    · have := o4 k; rw [if_pos (by omega), d3 (4 + 1) (by omega) (by omega)] at this; exact this.trans b1
    · have := s4 k; rw [if_pos (by omega), d3 (4 + 2) (by omega) (by omega)] at this; exact this.trans b2
    · have := y4 (k * 4 + s)
      rw [if_pos (by omega), d3 (4 + 3) (by omega) (by omega)] at this
      rw [hc1 (1 + 6 * k + 2 + s) (by omega) (by omega)]
      exact this.trans (b3 s s1 s2)
  · show M4 14 4 = D' 1
    rw [st4, d3 4 (by omega) (by omega), g9 hE1, hc1 1 (by decide) (by decide)]
  · show M4 14 5 = (R : Int)
    rw [t4, d3 4 (by omega) (by omega)]; exact g6
  · rw [g8 x]
    constructor
    · rintro (⟨k, k1, k2, k3⟩ | ⟨h, _⟩)
      · have k2' : k < E 0 := k2
        exact ⟨k, k1, by rw [hD0]; exact k2', by rw [hc1 (1 + 6 * k) (by omega) (by omega)]; exact k3⟩
      · exact absurd h (by show ¬ (2 : Int) = 1; decide)
    · rintro ⟨k, k1, k2, k3⟩
      rw [hD0] at k2
      exact Or.inl ⟨k, k1, k2, by rw [← hc1 (1 + 6 * k) (by omega) (by omega)]; exact k3⟩
  · exact ⟨by rw [row4 (13 + 5) (by omega)]; exact r3.2.1.1.1, by rw [row4 (13 + 5 + 1) (by omega)]; exact r3.2.1.1.2⟩
  · rw [row4 (13 + 5) (by omega), hc2 73 (by decide)]; exact r3.2.1.2.1
  · intro x x1 x2
    rw [hc2 73 (by decide)] at x2
    rw [row4 (13 + 6) (by omega)]
    show M3 (13 + 6) x = D' (74 + x)
    rw [hc2 (74 + x) (by omega)]; exact r3.2.1.2.2 x x1 x2
  · rw [row4 13 (by omega), hc2 88 (by decide)]; exact r3.2.2.1
  · intro k k1 k2
    rw [hc2 88 (by decide)] at k2
    rw [row4 (13 + 7) (by omega)]
    show M3 (13 + 7) k = D' (89 + k)
    rw [hc2 (89 + k) (by omega)]; exact r3.2.2.2 k k1 k2
  · refine (h3.congr (H' := H') (fun i i1 i2 => ?_)).eq (fun a a1 a2 => row4 a (by omega))
    rw [z3] at i2
    exact hps i i1 i2
  · exact wb1.eq' (fun a a1 a2 => by rw [row4 a (by omega)]; exact d3 a (by omega) (by omega))
  · obtain ⟨l, hl⟩ := c8
    exact ⟨l, hl.eq (row40 186 (by omega)) (by rw [row40 0 (by omega)])⟩
