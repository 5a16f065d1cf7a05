/-- the grammar of a chart, from right to left if the chart is turned -/
def ctg (M : pj_M) (c : Nat) : gr_G := if M c 8 = 0 then gof M (c + 1) else gr_rv (gof M (c + 1))
def cf1 (M : pj_M) (c : Nat) : Nat := if M c 8 = 0 then 8 else 9
def cf2 (M : pj_M) (c : Nat) : Nat := if M c 8 = 0 then 9 else 8
/-- a chart that knows its grammar -/
def clk (M : pj_M) (c : Nat) : Prop := (M c 8 = 0 ∨ M c 8 = 1) ∧ cst M c ∧ gvl M (c + 1) ∧ fok M (c + 1) ∧ gr_gd (gof M (c + 1)) 8 (M (c + 1) 4).toNat ∧ trm (gc M c) (ctg M c) (cf1 M c) (cf2 M c) (M (c + 1) 4).toNat
theorem cst.w {M : pj_M} {c : Nat} (h : cst M c) : cw M c := ⟨h.1.2.2.1, h.1.2.2.2.1, h.1.2.2.2.2.1, h.1.2.2.2.2.2.1, h.2.1.2.1, h.2.2.1⟩
def cinv (M : pj_M) (c : Nat) : Prop := isC c ∧ cw M c ∧ gwb M (c + 1) ∧ (M c 7 = 0 ∨ (M c 7 = 1 ∧ clk M c))
/-- only a chart has changed -/
def eqc (c : Nat) (M M' : pj_M) : Prop := ∀ a x, ¬ (c ≤ a ∧ a ≤ c + 19) → M' a x = M a x
theorem eqc.rf {c : Nat} {M : pj_M} : eqc c M M := fun _ _ _ => rfl
theorem eqc.tr {c : Nat} {M M1 M2 : pj_M} (h : eqc c M M1) (h2 : eqc c M1 M2) : eqc c M M2 := fun a x h3 => (h2 a x h3).trans (h a x h3)
theorem eqc.up {c a : Nat} {M : pj_M} {k v : Int} (h : c ≤ a ∧ a ≤ c + 19) : eqc c M (pj_up M a k v) := fun b x h1 => pu_ne (by omega)
theorem eqc.row {c a : Nat} {M M' : pj_M} (h : eqc c M M') (h1 : a < c ∨ c + 19 < a) : M' a = M a := funext fun x => h a x (by omega)
theorem eqc.d {c : Nat} {M M' : pj_M} (h : eqd c M M') : eqc c M M' := fun a x h1 => h a x (by omega) (by omega)
theorem fok.gd {M : pj_M} {b x : Nat} (h : fok M b) (hx : x < 6) : M (b + 5) (x : Int) < 1048576 ↔ gr_gd (gof M b) 8 x := h.1.gd hx
theorem gof.eq {M M' : pj_M} {b : Nat} (e : ∀ a, b ≤ a → a ≤ b + 3 → M' a = M a) : gof M' b = gof M b := by
  unfold gof; rw [e b (by omega) (by omega), e (b + 1) (by omega) (by omega), e (b + 2) (by omega) (by omega), e (b + 3) (by omega) (by omega)]
theorem gvl.eq {M M' : pj_M} {b : Nat} (v : gvl M b) (e : ∀ a, b ≤ a → a ≤ b + 3 → M' a = M a) : gvl M' b := by
  unfold gvl at *; rw [e b (by omega) (by omega), e (b + 1) (by omega) (by omega), e (b + 2) (by omega) (by omega), e (b + 3) (by omega) (by omega)]; exact v
theorem gwb.eq {M M' : pj_M} {b : Nat} (v : gwb M b) (e : ∀ a, b ≤ a → a ≤ b + 3 → M' a = M a) : gwb M' b := by
  unfold gwb at *; rw [e (b + 1) (by omega) (by omega), e (b + 2) (by omega) (by omega), e (b + 3) (by omega) (by omega)]; exact v
theorem clk.dyn {M M' : pj_M} {c : Nat} (h : clk M c) (e : eqd c M M') (s : cst M' c) : clk M' c := by
  obtain ⟨h1, h2, h3, h4, h5, h6⟩ := h
  have e8 : M' c 8 = M c 8 := e.c (by decide) (by decide)
  have er : ∀ a, c + 1 ≤ a → a ≤ c + 1 + 8 → M' a = M a := fun a a1 a2 => e.row (by omega) (by omega)
  have eg : gof M' (c + 1) = gof M (c + 1) := gof.eq (fun a a1 a2 => er a a1 (by omega))
  refine ⟨by rw [e8]; exact h1, s, h3.eq (fun a a1 a2 => er a a1 (by omega)), h4.eq er, ?_, ?_⟩
  · rw [eg, er (c + 1) (by omega) (by omega)]; exact h5
  · unfold ctg cf1 cf2
    rw [gc.eqd e, eg, e8, er (c + 1) (by omega) (by omega)]; exact h6
theorem crq_list {M : pj_M} {c r k : Nat} (v : gvl M (c + 1)) (h : crq M c (r : Int) (k : Int)) : (gc M c).2.1 r = (ctg M c).2.1 k ∧ (gc M c).2.2 r = ((ctg M c).2.2 k).map upS := by
  obtain ⟨h1, h2, h3⟩ := h
  have hz := v.2.2.1 (k : Int)
  have e1 : (gc M c).2.2 r = (sg (fun i => gs_ M (c + 1) (k : Int) (cfr M c (M (c + 3) (k : Int)) i)) 0 (M (c + 3) (k : Int))).map upS := by
    show sg (fun s => M (c + 12) ((r : Int) * 4 + s)) 0 (M (c + 11) (r : Int)) = _
    rw [h2, ← sg_map (fun x _ _ => (v.2.2.2.1 _).1)]
    exact sg_congr (fun i i1 i2 => h3 i i1 i2)
  rw [e1]
  unfold ctg cfr
  by_cases ht : M c 8 = 0
  · rw [if_pos ht]
    refine ⟨by show (M (c + 10) (r : Int)).toNat = (M (c + 2) (k : Int)).toNat; rw [h1], ?_⟩
    simp only [if_pos ht]
    rfl
  · rw [if_neg ht]
    refine ⟨by show (M (c + 10) (r : Int)).toNat = (M (c + 2) (k : Int)).toNat; rw [h1], ?_⟩
    simp only [if_neg ht]
    rw [sg_rev]
    rfl
theorem ctg_gs {M : pj_M} {c k : Nat} : gr_gs (ctg M c) 8 ((ctg M c).2.2 k) ↔ gr_gs (gof M (c + 1)) 8 ((gof M (c + 1)).2.2 k) := by
  unfold ctg
  split
  · exact Iff.rfl
  · exact gr_gs_rv
theorem ctg_ok {M : pj_M} {c : Nat} (v : gvl M (c + 1)) : ∀ k, k < (ctg M c).1 → (ctg M c).2.1 k < 6 ∧ ∀ s ∈ (ctg M c).2.2 k, s < 14 := by
  intro k _
  have h1 : ∀ s ∈ (gof M (c + 1)).2.2 k, s < 14 := by
    intro s hs
    obtain ⟨t, t1, t2, t3⟩ := gof_mem.mp hs
    have := v.2.2.2.1 ((k : Int) * 4 + t)
    omega
  unfold ctg
  split
  · exact ⟨gof_o v k, h1⟩
  · exact ⟨gof_o v k, fun s hs => h1 s (List.mem_reverse.mp hs)⟩
theorem ctg_gd {M : pj_M} {c x : Nat} : gr_gd (ctg M c) 8 x ↔ gr_gd (gof M (c + 1)) 8 x := by
  unfold ctg
  split
  · exact Iff.rfl
  · exact gr_gd_rv
theorem clk.y {M : pj_M} {c x : Nat} {w : List Nat} (h : clk M c) (hx : x < 6) : gr_y (gc M c) 10 x w ↔ gr_y (ctg M c) 8 x w := trm_y h.2.2.2.2.2 (ctg_ok h.2.2.1) hx
theorem gvl.st {M : pj_M} {b : Nat} (v : gvl M b) : 0 ≤ M b 4 ∧ M b 4 ≤ 5 := by rw [v.2.2.2.2]; exact v.2.1 0
theorem cf1_lt (M : pj_M) (c : Nat) : cf1 M c < 10 := by unfold cf1; split <;> omega
theorem cf2_lt (M : pj_M) (c : Nat) : cf2 M c < 10 := by unfold cf2; split <;> omega
theorem t_learnC {M : pj_M} {c b : Nat} {t : Int} {Q : pj_M → Prop} (hi : cinv M c) (hb : gcell b) (vb : gvl M b) (gb : gr_gd (gof M b) 8 (M b 4).toNat) (hbc : b + 3 < c ∨ c + 19 < b) (ht : t = 0 ∨ t = 1) (q : ∀ M', eqc c M M' → M' c 7 = 1 → clk M' c → M' c 8 = t → gr_eq (gof M' (c + 1)) (gof M b) → M' (c + 1) 4 = M b 4 → Q M') : w_X0_learn c b t M Q := by
  obtain ⟨hc, w, wg, hk⟩ := hi
  have hF := cg_0 hc
  have go : w_X0_learn_27 c b t Q M := by
    unfold w_X0_learn_27
    rintro M2 rfl
    refine ⟨ht, ?_⟩
    rintro M4 rfl
    rw [cr_0 hc, cr_1 hc]
    generalize hM4 : pj_up (pj_up M c 7 1) c 8 t = M4
    have r4 : ∀ a, a ≠ c → M4 a = M a := fun a h => funext fun x => by rw [← hM4, pu_ne h, pu_ne h]
    refine t_copyFromG hF.g hb (by omega) (fun M5 e5 k1 k2 k3 f3 f4 f5 => ?_)
    rw [r4 (b + 1) (by omega), r4 (c + 1 + 1) (by omega)] at k1
    rw [r4 (b + 2) (by omega), r4 (c + 1 + 2) (by omega)] at k2
    rw [r4 (b + 3) (by omega), r4 (c + 1 + 3) (by omega)] at k3
    rw [r4 b (by omega)] at f3 f4
    have v5 : gvl M5 (c + 1) := by
      refine ⟨by rw [f3]; exact vb.1, fun k => ?_, fun k => ?_, fun x => ?_, ?_⟩
      · rw [k1]; split
        · exact vb.2.1 k
        · exact wg.1 k
      · rw [k2]; split
        · exact vb.2.2.1 k
        · exact wg.2.1 k
      · rw [k3]; split
        · exact vb.2.2.2.1 x
        · exact wg.2.2 x
      · rw [f4, k1, if_pos ⟨by decide, by decide⟩]; exact vb.2.2.2.2
    have g5 : gr_eq (gof M5 (c + 1)) (gof M b) := by
      have hn := vb.1
      refine ⟨by show (M5 (c + 1) 3).toNat = (M b 3).toNat; rw [f3], fun k hk => ?_⟩
      have hk' : k < (M5 (c + 1) 3).toNat := hk
      rw [f3] at hk'
      have hz := vb.2.2.1 (k : Int)
      refine ⟨by show (M5 (c + 1 + 1) (k : Int)).toNat = (M (b + 1) (k : Int)).toNat; rw [k1, if_pos ⟨by omega, by omega⟩], ?_⟩
      show sg (gs_ M5 (c + 1) (k : Int)) 0 (M5 (c + 1 + 2) (k : Int)) = sg (gs_ M b (k : Int)) 0 (M (b + 2) (k : Int))
      rw [k2, if_pos ⟨by omega, by omega⟩]
      refine sg_congr (fun s s1 s2 => ?_)
      show M5 (c + 1 + 3) _ = M (b + 3) _
      rw [k3, if_pos ⟨by omega, by omega⟩]
    have c5 : ∀ x, M5 c x = M4 c x := fun x => e5 c x (by omega)
    have o5 : ∀ a, ¬ (c ≤ a ∧ a ≤ c + 4) → M5 a = M a := fun a h => (funext fun x => e5 a x (by omega) : M5 a = M4 a).trans (r4 a (by omega))
    refine t_learnF hF v5 (fun M7 e7 f7 => ?_)
    rintro M9 rfl
    have v7 := v5.eqf e7
    have gd7 : gr_gd (gof M7 (c + 1)) 8 (M7 (c + 1) 4).toNat := by
      rw [gof.eqf e7, g5.gd, e7 (c + 1) 4 (by omega), f4]; exact gb
    generalize hM9 : pj_up M7 c 6 0 = M9
    have r9 : ∀ a, a ≠ c → M9 a = M7 a := fun a h => funext fun x => by rw [← hM9, pu_ne h]
    have c9 : ∀ x, x ≠ 6 → M9 c x = M4 c x := fun x h => by rw [← hM9, pu_nk h, e7 c x (by omega), c5]
    have c96 : M9 c 6 = 0 := by rw [← hM9, pu_eq]
    have c98 : M9 c 8 = t := by rw [c9 8 (by decide), ← hM4, pu_eq]
    have c97 : M9 c 7 = 1 := by rw [c9 7 (by decide), ← hM4, pu_nk (by decide), pu_eq]
    have o9 : ∀ a, c + 10 ≤ a → a ≤ c + 19 → M9 a = M a := fun a a1 a2 => (r9 a (by omega)).trans ((e7.row (by omega)).trans (o5 a (by omega)))
    have x9 : ∀ a, ¬ (c ≤ a ∧ a ≤ c + 19) → M9 a = M a := fun a h => (r9 a (by omega)).trans ((e7.row (by omega)).trans (o5 a (by omega)))
    have v9 : gvl M9 (c + 1) := v7.eq (fun a a1 a2 => r9 a (by omega))
    have f9 : fok M9 (c + 1) := f7.eq (fun a a1 a2 => r9 a (by omega))
    have gd9 : gr_gd (gof M9 (c + 1)) 8 (M9 (c + 1) 4).toNat := by
      rw [gof.eq (fun a a1 a2 => r9 a (by omega)), r9 (c + 1) (by omega)]; exact gd7
    have g9 : gr_eq (gof M9 (c + 1)) (gof M b) := by
      rw [gof.eq (fun a a1 a2 => r9 a (by omega)), gof.eqf e7]; exact g5
    have s9 : M9 (c + 1) 4 = M b 4 := by rw [r9 (c + 1) (by omega), e7 (c + 1) 4 (by omega), f4]
    have w9 : cw M9 c := by
      unfold cw csan bs18 be18
      rw [o9 (c + 10) (by omega) (by omega), o9 (c + 11) (by omega) (by omega), o9 (c + 12) (by omega) (by omega), o9 (c + 13) (by omega) (by omega), o9 (c + 14) (by omega) (by omega), o9 (c + 15) (by omega) (by omega), o9 (c + 16) (by omega) (by omega), o9 (c + 17) (by omega) (by omega), o9 (c + 18) (by omega) (by omega), o9 (c + 19) (by omega) (by omega)]
      exact w
    have hn9 := v9.1
    unfold w_X0_learn_63
    refine pj_lp_inv (fun y : Int × pj_M => ∃ n R : Nat, y.1 = (n : Int) ∧ y.2 c 6 = (R : Int) ∧ R ≤ n ∧ (n : Int) ≤ M9 (c + 1) 3 ∧ cw y.2 c ∧ (∀ a x, ¬ (a = c ∧ x = 6) → a ≠ c + 10 → a ≠ c + 11 → a ≠ c + 12 → a ≠ c + 13 → y.2 a x = M9 a x) ∧ (∀ r : Nat, r < R → crs y.2 c (r : Int) ∧ ∃ k : Nat, k < n ∧ gr_gs (gof M9 (c + 1)) 8 ((gof M9 (c + 1)).2.2 k) ∧ crq y.2 c (r : Int) (k : Int)) ∧ ∀ k : Nat, k < n → gr_gs (gof M9 (c + 1)) 8 ((gof M9 (c + 1)).2.2 k) → ∃ r : Nat, r < R ∧ crq y.2 c (r : Int) (k : Int)) (fun y => (M9 (c + 1) 3 - y.1).toNat) ?_ (0, M9) ⟨0, 0, rfl, c96, Nat.le_refl _, by show (0 : Int) ≤ _; omega, w9, fun _ _ _ _ _ _ _ => rfl, fun r h => absurd h (Nat.not_lt_zero _), fun k h => absurd h (Nat.not_lt_zero _)⟩
    rintro ⟨x3, M1⟩ ⟨n, R, e1, hR, hRn, hn, w1, o1, ra, rb⟩ P hP
    dsimp only at e1 hR w1 o1 ra rb hP ⊢
    subst e1
    have r1 : ∀ a, a ≠ c → a ≠ c + 10 → a ≠ c + 11 → a ≠ c + 12 → a ≠ c + 13 → M1 a = M9 a := fun a a1 a2 a3 a4 a5 => funext fun x => o1 a x (fun e => a1 e.1) a2 a3 a4 a5
    have v1 : gvl M1 (c + 1) := v9.eq (fun a a1 a2 => r1 a (by omega) (by omega) (by omega) (by omega) (by omega))
    have f1 : fok M1 (c + 1) := f9.eq (fun a a1 a2 => r1 a (by omega) (by omega) (by omega) (by omega) (by omega))
    have eg1 : gof M1 (c + 1) = gof M9 (c + 1) := gof.eq (fun a a1 a2 => r1 a (by omega) (by omega) (by omega) (by omega) (by omega))
    have c18 : M1 c 8 = t := (o1 c 8 (by omega) (by omega) (by omega) (by omega) (by omega)).trans c98
    -- what is laid stays
    have stay : ∀ (M' : pj_M), (∀ a x, ¬ (a = c ∧ x = 6) → ¬ (a = c + 10 ∧ x = M1 c 6) → ¬ (a = c + 11 ∧ x = M1 c 6) → ¬ (a = c + 12 ∧ M1 c 6 * 4 ≤ x) → ¬ (a = c + 13 ∧ x = M1 c 6) → M' a x = M1 a x) → ∀ r : Nat, r < R → (crs M1 c (r : Int) → crs M' c (r : Int)) ∧ ∀ k : Nat, (crq M1 c (r : Int) (k : Int) → crq M' c (r : Int) (k : Int)) := by
      intro M' hM' r hr
      have a10 : M' (c + 10) (r : Int) = M1 (c + 10) (r : Int) := hM' _ _ (by omega) (by omega) (by omega) (by omega) (by omega)
      have a11 : M' (c + 11) (r : Int) = M1 (c + 11) (r : Int) := hM' _ _ (by omega) (by omega) (by omega) (by omega) (by omega)
      have a13 : M' (c + 13) (r : Int) = M1 (c + 13) (r : Int) := hM' _ _ (by omega) (by omega) (by omega) (by omega) (by omega)
      have a12 : ∀ s : Int, s < 4 → M' (c + 12) ((r : Int) * 4 + s) = M1 (c + 12) ((r : Int) * 4 + s) := fun s hs => hM' _ _ (by omega) (by omega) (by omega) (by omega) (by omega)
      have a2 : ∀ a, c + 2 ≤ a → a ≤ c + 4 → M' a = M1 a := fun a a1 a2 => funext fun x => hM' _ _ (by omega) (by omega) (by omega) (by omega) (by omega)
      have a8 : M' c 8 = M1 c 8 := hM' _ _ (by omega) (by omega) (by omega) (by omega) (by omega)
      have hz := w1.2.1 (r : Int)
      refine ⟨fun h s s1 s2 s3 => ?_, fun k ⟨h1, h2, h3⟩ => ?_⟩
      · rw [a11] at s2
        rw [a12 s (by omega)] at s3 ⊢
        rw [a13]; exact h s s1 s2 s3
      · unfold crq cfr
        rw [a10, a11, a2 (c + 2) (by omega) (by omega), a2 (c + 3) (by omega) (by omega), a2 (c + 4) (by omega) (by omega), a8]
        refine ⟨h1, h2, fun i i1 i2 => ?_⟩
        rw [a12 i (by omega)]
        exact h3 i i1 i2
    unfold w_X0_learn_63b
    rw [cr_0 hc, cr_1 hc, r1 (c + 1) (by omega) (by omega) (by omega) (by omega) (by omega)]
    refine ⟨⟨by omega, by omega⟩, ⟨by omega, by omega⟩, fun hend => ?_, fun hend => ?_⟩
    · -- all alternatives have been looked at
      refine t_addFrame hc v1 w1 ⟨by omega, by omega⟩ (by rw [c18]; exact ht) (fun M12 w12 c12 fr12 rs12 o12 => ?_)
      rintro M14 rfl M15 rfl
      have sty := stay M12 o12
      rw [hR] at c12 fr12 rs12
      generalize hM15 : pj_up (pj_up M12 c 11 0) c 12 (-1) = M15
      have r15 : ∀ a, a ≠ c → M15 a = M12 a := fun a h => funext fun x => by rw [← hM15, pu_ne h, pu_ne h]
      have c15 : ∀ x, x ≠ 11 → x ≠ 12 → M15 c x = M12 c x := fun x h1 h2 => by rw [← hM15, pu_nk h2, pu_nk h1]
      have c1511 : M15 c 11 = 0 := by rw [← hM15, pu_nk (by decide), pu_eq]
      have c1512 : M15 c 12 = -1 := by rw [← hM15, pu_eq]
      unfold w_X0_learn_118
      refine pj_lp_inv (fun y : Int × pj_M => ∃ n : Nat, y.1 = (n : Int) ∧ n ≤ 10 ∧ (∀ a x, a ≠ c + 15 → y.2 a x = M15 a x) ∧ bs18 y.2 (c + 15) ∧ ∀ u : Nat, u < n → y.2 (c + 15) (u : Int) = 0) (fun y => (10 - y.1).toNat) ?_ (0, M15) ⟨0, rfl, by decide, fun _ _ _ => rfl, fun x => by show 0 ≤ M15 (c + 15) x ∧ M15 (c + 15) x < _; rw [r15 _ (by omega)]; exact w12.2.2.2.2.2.1 x, fun u h => absurd h (Nat.not_lt_zero _)⟩
      rintro ⟨x3, M20⟩ ⟨n2, e2, hn2, o20, b20, z20⟩ P2 hP2
      dsimp only at e2 o20 b20 z20 hP2 ⊢
      subst e2
      unfold w_X0_learn_118b
      rw [cr_10 hc]
      refine ⟨⟨by omega, by omega⟩, fun h10 => ?_, fun h10 => ⟨⟨by omega, by omega⟩, ?_⟩⟩
      rotate_left
      · rintro M21 rfl
        refine hP2 ((n2 : Int) + 1, _) ⟨n2 + 1, by show (n2 : Int) + 1 = _; omega, by omega, fun a x h => by show pj_up M20 (c + 15) _ _ a x = _; rw [pu_ne h]; exact o20 a x h, bs18_up (v := 0) b20 (by decide), fun u hu => ?_⟩ (by show (10 - ((n2 : Int) + 1)).toNat < (10 - (n2 : Int)).toNat; omega)
        show pj_up M20 (c + 15) (n2 : Int) 0 (c + 15) (u : Int) = 0
        by_cases e : u = n2
        · subst e; exact pu_eq
        · rw [pu_nk (by omega)]; exact z20 u (by omega)
      have r20 : ∀ a, a ≠ c → a ≠ c + 15 → M20 a = M12 a := fun a a1 a2 => (funext fun x => o20 a x a2 : M20 a = M15 a).trans (r15 a a1)
      have c20 : ∀ x, x ≠ 11 → x ≠ 12 → M20 c x = M12 c x := fun x h1 h2 => (o20 c x (by omega)).trans (c15 x h1 h2)
      have c2011 : M20 c 11 = 0 := (o20 c 11 (by omega)).trans c1511
      have c2012 : M20 c 12 = -1 := (o20 c 12 (by omega)).trans c1512
      have e12 : eqd c M12 M20 := fun a x h1 h2 => by
        by_cases ea : a = c
        · subst ea
          exact c20 x (fun e => h2 ⟨rfl, Or.inl e⟩) (fun e => h2 ⟨rfl, Or.inr e⟩)
        · rw [r20 a ea (by omega)]
      have c128 : M12 c 8 = t := (o12 c 8 (by omega) (by omega) (by omega) (by omega) (by omega)).trans c18
      have g12 : ∀ a, c + 1 ≤ a → a ≤ c + 9 → M12 a = M9 a := fun a a1 a2 => (funext fun x => o12 a x (by omega) (by omega) (by omega) (by omega) (by omega) : M12 a = M1 a).trans (r1 a (by omega) (by omega) (by omega) (by omega) (by omega))
      have v12 : gvl M12 (c + 1) := v9.eq (fun a a1 a2 => g12 a a1 (by omega))
      have f12 : fok M12 (c + 1) := f9.eq (fun a a1 a2 => g12 a a1 (by omega))
      have eg12 : gof M12 (c + 1) = gof M9 (c + 1) := gof.eq (fun a a1 a2 => g12 a a1 (by omega))
      have gd12 : gr_gd (gof M12 (c + 1)) 8 (M12 (c + 1) 4).toNat := by rw [eg12, g12 (c + 1) (by omega) (by omega)]; exact gd9
      have st12 := v12.st
      have hG1 : (ctg M12 c).1 = n := by
        have h0 : (ctg M12 c).1 = (M12 (c + 1) 3).toNat := by unfold ctg; split <;> rfl
        rw [h0, g12 (c + 1) (by omega) (by omega)]; omega
      have hH1 : (gc M12 c).1 = R + 1 := by show (M12 c 6).toNat = R + 1; rw [c12]; omega
      have tr12 : trm (gc M12 c) (ctg M12 c) (cf1 M12 c) (cf2 M12 c) (M12 (c + 1) 4).toNat := by
        have frm : (gc M12 c).2.1 R = 6 ∧ (gc M12 c).2.2 R = [cf1 M12 c, 10 + (M12 (c + 1) 4).toNat, cf2 M12 c] := by
          obtain ⟨q1, q2, q3, q4, q5⟩ := fr12
          refine ⟨by show (M12 (c + 10) (R : Int)).toNat = 6; rw [q1]; rfl, ?_⟩
          show sg (fun s => M12 (c + 12) ((R : Int) * 4 + s)) 0 (M12 (c + 11) (R : Int)) = _
          rw [q2, sg_cons (by decide), sg_cons (by decide), sg_cons (by decide), show (0 : Int) + 1 + 1 + 1 = 3 from rfl, sg_nil, q3, show (0 : Int) + 1 = 1 from rfl, q4, show (1 : Int) + 1 = 2 from rfl, q5]
          unfold cf1 cf2
          rw [show (10 + M12 (c + 1) 4).toNat = 10 + (M12 (c + 1) 4).toNat by omega]
          split <;> rfl
        refine ⟨fun r hr => ?_, fun k hk hg => ?_, R, by omega, frm.1, frm.2⟩
        · by_cases e : r = R
          · subst e; exact Or.inl frm
          · obtain ⟨_, k, k1, k2, k3⟩ := ra r (by omega)
            have k4 := (sty r (by omega)).2 k k3
            have k5 := crq_list v12 k4
            exact Or.inr ⟨k, by omega, ctg_gs.mpr (by rw [eg12]; exact k2), k5.1, k5.2⟩
        · obtain ⟨r, r1, r2⟩ := rb k (by omega) (by rw [← eg12]; exact ctg_gs.mp hg)
          have k5 := crq_list v12 ((sty r r1).2 k r2)
          exact ⟨r, by omega, k5.1, k5.2⟩
      have ok12 : cok M12 c := by
        refine ⟨hc, ⟨by omega, by omega⟩, w12.1, w12.2.1, w12.2.2.1, w12.2.2.2.1, fun k s k1 k2 s1 s2 s3 => ?_⟩
        obtain ⟨r, rfl⟩ : ∃ r : Nat, k = (r : Int) := ⟨_, (Int.toNat_of_nonneg k1).symm⟩
        by_cases e : r = R
        · subst e; exact rs12 s s1 s2 s3
        · exact ((sty r (by omega)).1 (ra r (by omega)).1) s s1 s2 s3
      have yy : ∀ {x : Nat} {w : List Nat}, x < 6 → (gr_y (gc M12 c) 10 x w ↔ gr_y (ctg M12 c) 8 x w) := fun hx => trm_y tr12 (ctg_ok v12) hx
      have good12 : cgood M12 c := by
        refine ⟨fun x hx => ?_, ?_, fun k k1 k2 i i1 i2 i3 => ?_⟩
        · have hvs := f12.1.vs (x : Int) (by omega) (by omega)
          refine ⟨hvs, (f12.gd hx).trans (ctg_gd.symm.trans ?_)⟩
          exact ⟨fun ⟨w, h⟩ => ⟨w, (yy hx).mpr h⟩, fun ⟨w, h⟩ => ⟨w, (yy hx).mp h⟩⟩
        · obtain ⟨u, hu⟩ := ctg_gd.mpr gd12
          exact ⟨_, (trm_6 tr12 (ctg_ok v12) (cf1_lt _ _) (cf2_lt _ _) (by omega)).mpr ⟨u, hu, rfl⟩⟩
        · obtain ⟨r, rfl⟩ : ∃ r : Nat, k = (r : Int) := ⟨_, (Int.toNat_of_nonneg k1).symm⟩
          have hb12 := w12.2.2.1 ((r : Int) * 4 + i)
          have hmem : (M12 (c + 12) ((r : Int) * 4 + i)).toNat ∈ (gc M12 c).2.2 r := (sg_mem (w := cf M12 c (r : Int)) (i := 0) (j := M12 (c + 11) (r : Int))).mpr ⟨i, i1, i2, rfl⟩
          rcases tr12.1 r (by omega) with ⟨_, h2⟩ | ⟨k', k1', k2', k3', k4'⟩
          · rw [h2] at hmem
            have h3 := cf1_lt M12 c
            have h4 := cf2_lt M12 c
            have h5 : (M12 (c + 12) ((r : Int) * 4 + i)).toNat = 10 + (M12 (c + 1) 4).toNat := by
              rcases List.mem_cons.mp hmem with h | h
              · omega
              · rcases List.mem_cons.mp h with h | h
                · exact h
                · have := List.mem_singleton.mp h; omega
            obtain ⟨u, hu⟩ := ctg_gd.mpr gd12
            refine ⟨u, ?_⟩
            rw [show (M12 (c + 12) ((r : Int) * 4 + i) - 10).toNat = (M12 (c + 1) 4).toNat by omega]
            exact (yy (by omega)).mpr hu
          · rw [k4'] at hmem
            obtain ⟨s, s1, s2⟩ := List.mem_map.mp hmem
            have h14 := (ctg_ok v12 k' k1').2 s s1
            have hs8 : 8 ≤ s := by
              unfold upS at s2
              split at s2
              · omega
              · omega
            obtain ⟨u, hu⟩ := k2' s s1 hs8
            refine ⟨u, ?_⟩
            unfold upS at s2
            rw [if_neg (by omega)] at s2
            rw [show (M12 (c + 12) ((r : Int) * 4 + i) - 10).toNat = s - 8 by omega]
            exact (yy (by omega)).mpr hu
      have ok20 := ok12.eqd e12
      have tk20 : ctk M20 c := by
        refine ⟨by omega, fun x => by rw [r20 _ (by omega) (by omega)]; exact w12.2.2.2.2.1 x, b20, fun u p h1 h2 => ?_⟩
        have h3 := z20 u.toNat (by omega)
        rw [show ((u.toNat : Nat) : Int) = u by omega] at h3
        rw [h3, c2011]
        unfold tbit
        constructor
        · intro h; simp at h
        · rintro ⟨h, _⟩; omega
      have sn12 := w12.2.2.2.2.2
      refine t_fillWhole (q := 0) ok20 tk20 (fun x => by rw [r20 _ (by omega) (by omega)]; exact sn12.2.1 x) (by rw [c2011]; rfl) (fun q' h => absurd h (Nat.not_lt_zero _)) (fun M17 w17 b17 x17 => ?_)
      have ed : eqd c M12 M17 := e12.tr (eqd.w w17)
      have c177 : M17 c 7 = 1 := by
        rw [ed.c (by decide) (by decide), o12 c 7 (by omega) (by omega) (by omega) (by omega) (by omega), o1 c 7 (by omega) (by omega) (by omega) (by omega) (by omega)]; exact c97
      have st17 : cst M17 c := by
        have h11 : M17 c 11 = 0 := (w17 c 11 (by omega)).trans c2011
        have h12 : M17 c 12 = -1 := (w17 c 12 (by omega)).trans c2012
        refine ⟨ok20.eqw w17, tk20.eqw w17, ⟨fun x => ?_, b17, fun x => ?_, fun x => ?_, fun x => ?_⟩, good12.eqd ed, fun q hq => x17 q (by omega), by omega, fun q hq => by omega⟩
        · rw [w17.row (show c + 15 ≠ c + 16 by omega)]; exact b20 x
        · rw [w17.row (show c + 17 ≠ c + 16 by omega), r20 _ (by omega) (by omega)]; exact sn12.2.2.1 x
        · rw [w17.row (show c + 18 ≠ c + 16 by omega), r20 _ (by omega) (by omega)]; exact sn12.2.2.2.1 x
        · rw [w17.row (show c + 19 ≠ c + 16 by omega), r20 _ (by omega) (by omega)]; exact sn12.2.2.2.2 x
      have er : ∀ a, c + 1 ≤ a → a ≤ c + 9 → M17 a = M9 a := fun a a1 a2 => (ed.row (by omega) (by omega)).trans (g12 a a1 a2)
      have eg17 : gof M17 (c + 1) = gof M9 (c + 1) := gof.eq (fun a a1 a2 => er a a1 (by omega))
      have c178 : M17 c 8 = t := (ed.c (by decide) (by decide)).trans c128
      refine q M17 (fun a x h => ?_) c177 ⟨by rw [c178]; exact ht, st17, v9.eq (fun a a1 a2 => er a a1 (by omega)), f9.eq (fun a a1 a2 => er a a1 (by omega)), ?_, ?_⟩ c178 (by rw [eg17]; exact g9) (by rw [er (c + 1) (by omega) (by omega)]; exact s9)
      · rw [ed a x (by omega) (by omega), o12 a x (by omega) (by omega) (by omega) (by omega) (by omega), o1 a x (by omega) (by omega) (by omega) (by omega) (by omega), x9 a h]
      · rw [eg17, er (c + 1) (by omega) (by omega)]; exact gd9
      · have e1' : gc M17 c = gc M12 c := gc.eqd ed
        have e2' : ctg M17 c = ctg M12 c := by unfold ctg; rw [c178, c128, eg17, eg12]
        have e3' : cf1 M17 c = cf1 M12 c := by unfold cf1; rw [c178, c128]
        have e4' : cf2 M17 c = cf2 M12 c := by unfold cf2; rw [c178, c128]
        rw [e1', e2', e3', e4', ed.row (show c + 1 < c + 14 ∨ _ by omega) (by omega)]
        exact tr12
    · refine t_lengthOf hF v1 f1.1.vs ⟨by omega, by omega⟩ (fun tl htl => ?_)
      have hgs := fl_gs (k := n) v1 f1.1
      rw [← htl, eg1] at hgs
      have hfb := fl_b (k := (n : Int)) v1 f1.1.vs (M1 (c + 1 + 2) (n : Int)).toNat
      refine ⟨⟨by omega, by omega⟩, fun hle => ?_, fun hle => ?_⟩
      · refine hP ((n : Int) + 1, M1) ⟨n + 1, R, by show (n : Int) + 1 = _; omega, hR, by omega, by omega, w1, o1, fun r hr => ?_, fun k hk hg => ?_⟩ (by show (M9 (c + 1) 3 - ((n : Int) + 1)).toNat < (M9 (c + 1) 3 - (n : Int)).toNat; omega)
        · obtain ⟨q1, k, q2, q3⟩ := ra r hr
          exact ⟨q1, k, by omega, q3⟩
        · by_cases e : k = n
          · subst e; have := hgs.mpr hg; omega
          · exact rb k (by omega) hg
      · refine t_addRule hc v1 w1 ⟨by omega, by omega⟩ (by rw [c18]; exact ht) ⟨by omega, by omega⟩ (fun M24 w24 c24 q24 s24 o24 => ?_)
        have sty := stay M24 o24
        rw [hR] at c24 q24 s24
        refine hP ((n : Int) + 1, M24) ⟨n + 1, R + 1, by show (n : Int) + 1 = _; omega, by show M24 c 6 = _; omega, by omega, by omega, w24, fun a x h1 h2 h3 h4 h5 => ?_, fun r hr => ?_, fun k hk hg => ?_⟩ (by show (M9 (c + 1) 3 - ((n : Int) + 1)).toNat < (M9 (c + 1) 3 - (n : Int)).toNat; omega)
        · show M24 a x = _
          rw [o24 a x h1 (fun e => h2 e.1) (fun e => h3 e.1) (fun e => h4 e.1) (fun e => h5 e.1)]
          exact o1 a x h1 h2 h3 h4 h5
        · by_cases e : r = R
          · subst e
            exact ⟨s24, n, by omega, hgs.mp (by omega), q24⟩
          · obtain ⟨q1, k, q2, q3, q4⟩ := ra r (by omega)
            exact ⟨(sty r (by omega)).1 q1, k, by omega, q3, (sty r (by omega)).2 k q4⟩
        · by_cases e : k = n
          · subst e; exact ⟨R, by omega, q24⟩
          · obtain ⟨r, q1, q2⟩ := rb k (by omega) hg
            exact ⟨r, by omega, (sty r q1).2 k q2⟩
  unfold w_X0_learn
  have h7 : M c 7 = 0 ∨ M c 7 = 1 := by rcases hk with h | h <;> omega
  refine ⟨⟨by omega, by omega⟩, fun _ => go, fun h70 => ?_⟩
  rcases hk with h | ⟨h71, hl⟩
  · exact absurd h h70
  have h8 := hl.1
  refine ⟨⟨by omega, by omega⟩, ⟨by omega, by omega⟩, fun _ => go, fun h8t => ?_⟩
  rw [cr_0 hc]
  have n1 := hl.2.2.1.1
  have n2 := vb.1
  refine t_isLike hF.g hb wg vb.w ⟨by omega, by omega⟩ ⟨by omega, by omega⟩ (fun r r0 r1 => ⟨by rcases r0 with h | h <;> rw [h] <;> exact ⟨by decide, by decide⟩, fun _ => go, fun hr => ?_⟩)
  have hlk := r1.mp (r0.resolve_left hr)
  refine q M eqc.rf h71 hl h8t hlk.eq ?_
  rw [hl.2.2.1.2.2.2.2, vb.2.2.2.2]
  exact (hlk.2 0 (by decide) (by omega)).1
