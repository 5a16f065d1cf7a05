theorem crf_0 {c : Nat} (h : isC c) : pj_rf (c + 5) 0 = c + 6 := by rcases h with rfl | rfl | rfl <;> decide
/-- what is known of which capitals yield something is right -/
def cgood (M : pj_M) (c : Nat) : Prop := (∀ x : Nat, x < 6 → (0 ≤ M (c + 6) (x : Int) ∧ M (c + 6) (x : Int) ≤ 1048576) ∧ (M (c + 6) (x : Int) < 1048576 ↔ gr_gd (gc M c) 10 x)) ∧ gr_gd (gc M c) 10 6 ∧ ∀ k, 0 ≤ k → k < M c 6 → cgd M c k (gr_y (gc M c) 10)
theorem cmu_same {M M' : pj_M} (h : M' = M) (c q n : Nat) : cmu M' c q n = cmu M c q n := by rw [h]
theorem t_fillParts {M : pj_M} {c q : Nat} {Q : pj_M → Prop} (ok : cok M c) (tk : ctk M c) (sn : csan M c) (gd : cgood M c) (hq : (q : Int) ≤ M c 11) (hx : ∀ q', q' ≤ q → cx M c q') (hpx : ∀ q', q' < q → cpx M c q')
    (qq : ∀ M', eqv c M M' → csan M' c → M' c 12 = (q : Int) → (∀ q', q' ≤ q → cpx M' c q') → Q M') : w_X0_fillParts c (q : Int) M Q := by
  have hc := ok.1
  have hq17 : q ≤ 17 := by have := tk.1; omega
  have hpow : 2 ^ q ≤ 2 ^ 17 := Nat.pow_le_pow_right (by decide) hq17
  -- what stays, in all rounds
  let Sd : Nat → pj_M → Prop := fun n M1 => eqv c M M1 ∧ csan M1 c ∧ (∀ (a x q' : Nat), q' < 18 → q' ≠ q → M1 a ((x : Int) * 18 + (q' : Int)) = M a ((x : Int) * 18 + (q' : Int)) ∨ a = c) ∧ ∀ (x p : Nat), x < n → (tbit (M1 (c + 17) ((x : Int) * 18 + (q : Int))) p → p ≤ q ∧ gr_pf (gc M c) 10 x (tkw M c p q)) ∧ (p ≤ q → ((M1 (c + 18) ((x : Int) * 18 + (q : Int)) ≤ (p : Int) → gr_sf (gc M c) 10 x (tkw M c p q)) ∧ (M1 (c + 19) ((x : Int) * 18 + (q : Int)) ≤ (p : Int) → gr_if (gc M c) 10 x (tkw M c p q))))
  unfold w_X0_fillParts w_X0_fillParts_2
  refine pj_lp_inv (fun y : Int × pj_M => ∃ n : Nat, y.1 = (n : Int) ∧ n ≤ 7 ∧ Sd n y.2) (fun y => (7 - y.1).toNat) ?_ (0, M) ⟨0, rfl, by decide, eqv.rf, sn, fun _ _ _ _ _ => Or.inl rfl, fun x p h => absurd h (Nat.not_lt_zero _)⟩
  rintro ⟨x1, M0⟩ ⟨n0, e1, a1, a2⟩ P0 hP0
  dsimp only at e1 a2 hP0 ⊢
  subst e1
  have init1 : n0 < 7 → ∀ y : Int, (y = 0 ∨ y = 1) → (y = 1 → gr_gd (gc M c) 10 n0) → w_X0_fillParts_30 c (q : Int) (n0 : Int) y (fun x2 M => P0 (x2, M)) Q M0 := by
    intro hn7 y hy hyg
    obtain ⟨f1, f2, f3, f4⟩ := a2
    have put : ∀ (b : Nat) (e : Int), b < 262144 → 0 ≤ e → e ≤ 1048576 → (∀ p, b.testBit p = true → p = q ∧ gr_gd (gc M c) 10 n0) → (∀ p : Nat, p ≤ q → e ≤ (p : Int) → p = q ∧ gr_gd (gc M c) 10 n0) → P0 ((n0 : Int) + 1, pj_up (pj_up (pj_up M0 (c + 17) ((n0 : Int) * 18 + (q : Int)) (b : Int)) (c + 18) ((n0 : Int) * 18 + (q : Int)) e) (c + 19) ((n0 : Int) * 18 + (q : Int)) e) := by
      intro b e h1 h2 h3 h4 h5
      generalize hM9 : pj_up (pj_up (pj_up M0 (c + 17) ((n0 : Int) * 18 + (q : Int)) (b : Int)) (c + 18) ((n0 : Int) * 18 + (q : Int)) e) (c + 19) ((n0 : Int) * 18 + (q : Int)) e = M9
      have c17 : M9 (c + 17) ((n0 : Int) * 18 + (q : Int)) = (b : Int) := by rw [← hM9, pu_ne (by omega), pu_ne (by omega), pu_eq]
      have c18 : M9 (c + 18) ((n0 : Int) * 18 + (q : Int)) = e := by rw [← hM9, pu_ne (by omega), pu_eq]
      have c19 : M9 (c + 19) ((n0 : Int) * 18 + (q : Int)) = e := by rw [← hM9, pu_eq]
      have oth : ∀ a x, x ≠ (n0 : Int) * 18 + (q : Int) → M9 a x = M0 a x := fun a x h => by rw [← hM9, pu_nk h, pu_nk h, pu_nk h]
      refine hP0 ((n0 : Int) + 1, M9) ⟨n0 + 1, by show (n0 : Int) + 1 = _; omega, by omega, ?_, ?_, fun a x q' g1 g2 => ?_, fun x p g1 => ?_⟩ (by show (7 - ((n0 : Int) + 1)).toNat < (7 - (n0 : Int)).toNat; omega)
      · rw [← hM9]
        exact ((f1.tr (eqv.up (Or.inl rfl))).tr (eqv.up (Or.inr (Or.inl rfl)))).tr (eqv.up (Or.inr (Or.inr rfl)))
      · obtain ⟨b1, b2, b3, b4, b5⟩ := f2
        refine ⟨fun x => ?_, fun x => ?_, fun x => ?_, fun x => ?_, fun x => ?_⟩
        · show 0 ≤ M9 (c + 15) x ∧ M9 (c + 15) x < _
          rw [← hM9, pu_ne (by omega), pu_ne (by omega), pu_ne (by omega)]; exact b1 x
        · show 0 ≤ M9 (c + 16) x ∧ M9 (c + 16) x < _
          rw [← hM9, pu_ne (by omega), pu_ne (by omega), pu_ne (by omega)]; exact b2 x
        · show 0 ≤ M9 (c + 17) x ∧ M9 (c + 17) x < _
          by_cases e0 : x = (n0 : Int) * 18 + (q : Int)
          · rw [e0, c17]; omega
          · rw [oth _ _ e0]; exact b3 x
        · show 0 ≤ M9 (c + 18) x ∧ M9 (c + 18) x ≤ _
          by_cases e0 : x = (n0 : Int) * 18 + (q : Int)
          · rw [e0, c18]; omega
          · rw [oth _ _ e0]; exact b4 x
        · show 0 ≤ M9 (c + 19) x ∧ M9 (c + 19) x ≤ _
          by_cases e0 : x = (n0 : Int) * 18 + (q : Int)
          · rw [e0, c19]; omega
          · rw [oth _ _ e0]; exact b5 x
      · show M9 a _ = _ ∨ _
        rw [oth a _ (by omega)]; exact f3 a x q' g1 g2
      · show (tbit (M9 (c + 17) _) p → _) ∧ (_ → (M9 (c + 18) _ ≤ _ → _) ∧ (M9 (c + 19) _ ≤ _ → _))
        by_cases e0 : x = n0
        · subst e0
          rw [c17, c18, c19]
          refine ⟨fun h => ?_, fun hp => ⟨fun h => ?_, fun h => ?_⟩⟩
          · unfold tbit at h
            rw [Int.toNat_natCast] at h
            obtain ⟨rfl, g3⟩ := h4 p h
            exact ⟨Nat.le_refl _, by rw [tkw_nil]; exact gr_pf_nil.mpr g3⟩
          · obtain ⟨rfl, g3⟩ := h5 p hp h
            rw [tkw_nil]; exact gr_sf_nil.mpr g3
          · obtain ⟨rfl, g3⟩ := h5 p hp h
            rw [tkw_nil]; exact gr_if_nil.mpr g3
        · rw [oth _ _ (by omega), oth _ _ (by omega), oth _ _ (by omega)]
          exact f4 x p (by omega)
    unfold w_X0_fillParts_30
    rw [cr_14 hc]
    refine ⟨by rcases hy with rfl | rfl <;> exact ⟨by decide, by decide⟩, fun h0 => ?_, fun h0 => ?_⟩
    · unfold w_X0_fillParts_56
      refine ⟨⟨by omega, by omega⟩, ?_⟩
      rintro M18 rfl
      rw [cr_15 hc]
      refine ⟨by rcases hy with rfl | rfl <;> exact ⟨by decide, by decide⟩, fun _ => ?_, fun h => absurd h0 h⟩
      unfold w_X0_fillParts_73
      refine ⟨⟨by omega, by omega⟩, ?_⟩
      rintro M21 rfl
      rw [cr_16 hc]
      refine ⟨by rcases hy with rfl | rfl <;> exact ⟨by decide, by decide⟩, fun _ => ?_, fun h => absurd h0 h⟩
      unfold w_X0_fillParts_90
      refine ⟨⟨by omega, by omega⟩, ?_⟩
      rintro M24 rfl
      exact put 0 1048576 (by decide) (by decide) (by decide) (fun p h => by simp at h) (fun p h1 h2 => by omega)
    · have hg := hyg (hy.resolve_left h0)
      unfold w_X0_fillParts_56
      refine ⟨⟨by omega, by omega⟩, ?_⟩
      rintro M18 rfl
      rw [cr_15 hc]
      refine ⟨by rcases hy with rfl | rfl <;> exact ⟨by decide, by decide⟩, fun h => absurd h h0, fun _ => ?_⟩
      unfold w_X0_fillParts_73
      refine ⟨⟨by omega, by omega⟩, ?_⟩
      rintro M21 rfl
      rw [cr_16 hc]
      refine ⟨by rcases hy with rfl | rfl <;> exact ⟨by decide, by decide⟩, fun h => absurd h h0, fun _ => ?_⟩
      unfold w_X0_fillParts_90
      refine ⟨⟨by omega, by omega⟩, ?_⟩
      rintro M24 rfl
      rw [pb_one (by omega)]
      refine put (2 ^ q) (q : Int) (by omega) (by omega) (by omega) (fun p h => ?_) (fun p h1 h2 => ⟨by omega, hg⟩)
      rw [Nat.testBit_two_pow, decide_eq_true_iff] at h
      exact ⟨h.symm, hg⟩
  unfold w_X0_fillParts_2b
  refine ⟨⟨by omega, by omega⟩, fun hc0 => ?_, fun hc0 => ⟨⟨by omega, by omega⟩, fun h6 => ?_, fun h6 => ?_⟩⟩
  rotate_left
  · unfold w_X0_fillParts_25
    exact init1 (by omega) 1 (Or.inr rfl) (fun _ => by rw [show n0 = 6 by omega]; exact gd.2.1)
  · rw [cr_1 hc]
    unfold w_X3_yieldsSomething
    rw [crf_0 hc, a2.1.row (show c + 6 ≠ c + 17 by omega) (by omega) (by omega) (by omega)]
    have hg := gd.1 n0 (by omega)
    refine ⟨⟨by omega, by omega⟩, ⟨by omega, by omega⟩, fun h => ⟨⟨by decide, by decide⟩, fun _ => init1 (by omega) 0 (Or.inl rfl) (fun h => absurd h (by decide)), fun h => absurd rfl h⟩, fun h => ⟨⟨by decide, by decide⟩, fun h => absurd h (by decide), fun _ => ?_⟩⟩
    unfold w_X0_fillParts_25
    exact init1 (by omega) 1 (Or.inr rfl) (fun _ => hg.2.mp (by omega))
  clear init1 hP0 P0
  have hn7 : n0 = 7 := by omega
  subst hn7
  have st0 : Sd 7 M0 := a2
  clear a2
  have hcS : ∀ M1, Sd 7 M1 → cS M1 c q (gr_y (gc M c) 10) := by
    intro M1 hS
    have hcx : ∀ q', q' ≤ q → cx M1 c q' := fun q' h => (hx q' h).eqv hS.1
    refine ⟨fun x p q' h1 h2 h3 => ?_, fun x p h1 h2 => ?_, fun x p q' h1 h2 h3 h4 => ?_, fun x p h1 h2 h3 => ?_⟩
    · have := (hcx q' h2 x p (by omega)).mp h3
      rwa [gc.eqv hS.1] at this
    · rw [tkw.eqv hS.1]; exact (hS.2.2.2 x p (by omega)).1 h2
    · rw [tkw.eqv hS.1]
      by_cases e : q' = q
      · subst e; exact ((hS.2.2.2 x p (by omega)).2 h2).1 h4
      · rw [(hS.2.2.1 (c + 18) x q' (by omega) e).resolve_right (by omega)] at h4
        exact ((hpx q' (by omega) x p (by omega)).2 h2).1.mp h4
    · rw [tkw.eqv hS.1]; exact ((hS.2.2.2 x p (by omega)).2 h2).2 h3
  have fin : ∀ M1, Sd 7 M1 → (∀ k : Nat, (k : Int) < M c 6 → ccp M1 c q (k : Int)) → w_X0_fillParts_180 c (q : Int) Q M1 := by
    intro M1 hS hcl
    unfold w_X0_fillParts_180
    rintro M9 rfl
    have e9 : eqv c M1 (pj_up M1 c 12 (q : Int)) := fun a x h1 h2 h3 h4 => by rw [pu_if, if_neg h4]
    have r9 : ∀ a, a ≠ c → pj_up M1 c 12 (q : Int) a = M1 a := fun a h => funext fun x => pu_ne h
    have eM := hS.1.tr e9
    refine qq _ eM ?_ pu_eq (fun q' hq' x p hx7 => ?_)
    · unfold csan bs18 be18
      rw [r9 _ (by omega), r9 _ (by omega), r9 _ (by omega), r9 _ (by omega), r9 _ (by omega)]
      exact hS.2.1
    · rw [gc.eqv eM, tkw.eqv eM, r9 _ (by omega), r9 _ (by omega), r9 _ (by omega)]
      by_cases e : q' = q
      · subst e
        have key : ∀ (d x p : Nat), x < 7 → p ≤ q' → (∀ v, gr_yd (gc M c) 10 d x (tkw M c p q' ++ v) → tbit (M1 (c + 17) ((x : Int) * 18 + (q' : Int))) p) ∧ (∀ v, gr_yd (gc M c) 10 d x (v ++ tkw M c p q') → M1 (c + 18) ((x : Int) * 18 + (q' : Int)) ≤ (p : Int)) ∧ (∀ v w, gr_yd (gc M c) 10 d x (v ++ tkw M c p q' ++ w) → M1 (c + 19) ((x : Int) * 18 + (q' : Int)) ≤ (p : Int)) := by
          intro d
          induction d with
          | zero => exact fun x p _ _ => ⟨fun v h => h.elim, fun v h => h.elim, fun v w h => h.elim⟩
          | succ d ih =>
            have ok1 := ok.eqv hS.1
            have tk1 := tk.eqv hS.1
            have e11 : M1 (c + 11) = M (c + 11) := hS.1.row (by omega) (by omega) (by omega) (by omega)
            have e12 : M1 (c + 12) = M (c + 12) := hS.1.row (by omega) (by omega) (by omega) (by omega)
            have e10 : M1 (c + 10) = M (c + 10) := hS.1.row (by omega) (by omega) (by omega) (by omega)
            have hq1 : (q' : Int) ≤ M1 c 11 := by rw [hS.1.c (by decide)]; exact hq
            have hC : cC M1 c q' (gr_yd (gc M c) 10 d) := by
              refine ⟨fun x p q2 h1 h2 h3 h4 => ?_, fun x p v h1 h2 h3 => ?_, fun x p q2 v h1 h2 h3 h4 => ?_, fun x p v w h1 h2 h3 => ?_⟩
              · refine ((hx q2 h3).eqv hS.1 x p (by omega)).mpr ⟨h2, ?_⟩
                rw [gc.eqv hS.1]; exact ⟨d, h4⟩
              · rw [tkw.eqv hS.1] at h3; exact (ih x p (by omega) h2).1 v h3
              · rw [tkw.eqv hS.1] at h4
                by_cases e2 : q2 = q'
                · subst e2; exact (ih x p (by omega) h2).2.1 v h4
                · rw [(hS.2.2.1 (c + 18) x q2 (by omega) e2).resolve_right (by omega)]
                  exact ((hpx q2 (by omega) x p (by omega)).2 h2).1.mpr ⟨v, d, h4⟩
              · rw [tkw.eqv hS.1] at h3; exact (ih x p (by omega) h2).2.2 v w h3
            have run : ∀ (x : Nat) (u : List Nat), gr_yd (gc M c) 10 (d + 1) x u → ∃ k : Nat, (k : Int) < M c 6 ∧ M1 (c + 10) (k : Int) = (x : Int) ∧ gr_sq 10 (gr_yd (gc M c) 10 d) (sg (cf M1 c (k : Int)) (M1 (c + 11) (k : Int) - (((M1 (c + 11) (k : Int)).toNat : Nat) : Int)) (M1 (c + 11) (k : Int))) u := by
              rintro x u ⟨k, k1, k2, k3⟩
              have hk : (k : Int) < M c 6 := by have : k < (M c 6).toNat := k1; omega
              have hz := ok.2.2.2.1 (k : Int)
              refine ⟨k, hk, by rw [e10]; have h9 : (M (c + 10) (k : Int)).toNat = x := k2; have := ok.2.2.1 (k : Int); omega, ?_⟩
              rw [e11, show M (c + 11) (k : Int) - (((M (c + 11) (k : Int)).toNat : Nat) : Int) = 0 by omega]
              unfold cf
              rw [e12]
              exact k3
            intro x p h1 h2
            refine ⟨fun v h => ?_, fun v h => ?_, fun v w h => ?_⟩
            · obtain ⟨k, g1, g2, g3⟩ := run x _ h
              have hz := ok1.2.2.2.1 (k : Int)
              have := (hcl k g1).1 p (cO_c ok1 tk1 hq1 hC _ p v (by omega) h2 (by rw [tkw.eqv hS.1]; exact g3))
              rwa [g2] at this
            · obtain ⟨k, g1, g2, g3⟩ := run x _ h
              have hz := ok1.2.2.2.1 (k : Int)
              have := (hcl k g1).2.1 p (by omega) (cE_c ok1 tk1 hq1 hC _ p v (by omega) h2 (by rw [tkw.eqv hS.1]; exact g3))
              rwa [g2] at this
            · obtain ⟨k, g1, g2, g3⟩ := run x _ h
              have hz := ok1.2.2.2.1 (k : Int)
              have := (hcl k g1).2.2 p (by omega) (cI_c ok1 tk1 hq1 hC _ p v w (by omega) h2 (by rw [tkw.eqv hS.1]; exact g3))
              rwa [g2] at this
        have hs := hS.2.2.2 x p hx7
        refine ⟨⟨hs.1, fun ⟨hp, v, d, hd⟩ => (key d x p hx7 hp).1 v hd⟩, fun hp => ⟨⟨(hs.2 hp).1, fun ⟨v, d, hd⟩ => (key d x p hx7 hp).2.1 v hd⟩, ⟨(hs.2 hp).2, fun ⟨v, w, d, hd⟩ => (key d x p hx7 hp).2.2 v w hd⟩⟩⟩
      · rw [(hS.2.2.1 (c + 17) x q' (by omega) e).resolve_right (by omega), (hS.2.2.1 (c + 18) x q' (by omega) e).resolve_right (by omega), (hS.2.2.1 (c + 19) x q' (by omega) e).resolve_right (by omega)]
        exact hpx q' (by omega) x p hx7
  unfold w_X0_fillParts_101
  refine pj_lp_inv (fun y : Int × Int × pj_M => ∃ ch n : Nat, y.1 = (ch : Int) ∧ y.2.1 = (n : Int) ∧ ch < 128 ∧ Sd 7 y.2.2 ∧ n ≤ cmu y.2.2 c q 7 + 1 ∧ ((n = 0 ∧ ch = 1) ∨ ((ch ≠ 0 → n ≤ cmu y.2.2 c q 7) ∧ ∀ k : Nat, (k : Int) < M c 6 → ccp y.2.2 c q (k : Int) ∨ ∃ x, x < 6 ∧ tbit (M (c + 13) (k : Int)) x ∧ ch.testBit x = true))) (fun y => (1000 - y.2.1).toNat) ?_ (1, 0, M0) ⟨1, 0, rfl, rfl, by decide, st0, by omega, Or.inl ⟨rfl, rfl⟩⟩
  rintro ⟨x1, x2, M1⟩ ⟨ch, n, e1, e2, c1, hS, c2, c3⟩ P1 hP1
  dsimp only at e1 e2 hS c2 c3 hP1 ⊢
  subst e1; subst e2
  have hb1 := cmu_le (q := q) hS.2.1 7
  unfold w_X0_fillParts_101b
  refine ⟨⟨by omega, by omega⟩, fun h => by omega, fun _ => ⟨⟨by omega, by omega⟩, fun h0 => ?_, fun h0 => ?_⟩⟩
  · rcases c3 with ⟨-, h⟩ | ⟨-, h⟩
    · omega
    · refine fin M1 hS (fun k hk => ?_)
      rcases h k hk with h | ⟨x, -, -, h3⟩
      · exact h
      · rw [show ch = 0 by omega] at h3; simp at h3
  -- one round
  unfold w_X0_fillParts_120
  refine pj_lp_inv (fun y : Int × Int × pj_M => ∃ ac k : Nat, y.1 = (ac : Int) ∧ y.2.1 = (k : Int) ∧ (k : Int) ≤ M c 6 ∧ ac < 128 ∧ Sd 7 y.2.2 ∧ cmu M1 c q 7 ≤ cmu y.2.2 c q 7 ∧ (ac ≠ 0 → cmu M1 c q 7 < cmu y.2.2 c q 7) ∧ ∀ k' : Nat, (k' : Int) < M c 6 → (k' < k ∨ n ≠ 0) → ccp y.2.2 c q (k' : Int) ∨ ∃ x, x < 6 ∧ tbit (M (c + 13) (k' : Int)) x ∧ (ac.testBit x = true ∨ (k ≤ k' ∧ ch.testBit x = true))) (fun y => (M c 6 - y.2.1).toNat) ?_ (0, 0, M1) ⟨0, 0, rfl, rfl, by show (0 : Int) ≤ _; exact ok.2.1.1, by decide, hS, Nat.le_refl _, fun h => absurd rfl h, fun k' hk' hor => ?_⟩
  rotate_left
  · rcases c3 with ⟨h, -⟩ | ⟨-, h⟩
    · omega
    · rcases h k' hk' with h | ⟨x, h1, h2, h3⟩
      · exact Or.inl h
      · exact Or.inr ⟨x, h1, h2, Or.inr ⟨Nat.zero_le _, h3⟩⟩
  rintro ⟨x1, x4, M2⟩ ⟨ac, k, e1, e2, d0, d1, dS, d2, d3, d4⟩ P2 hP2
  dsimp only at e1 e2 dS d2 d3 d4 hP2 ⊢
  subst e1; subst e2
  have ok2 := ok.eqv dS.1
  have tk2 := tk.eqv dS.1
  have e6 : M2 c 6 = M c 6 := dS.1.c (by decide)
  have e10 : M2 (c + 10) = M (c + 10) := dS.1.row (by omega) (by omega) (by omega) (by omega)
  have e11 : M2 (c + 11) = M (c + 11) := dS.1.row (by omega) (by omega) (by omega) (by omega)
  have e12 : M2 (c + 12) = M (c + 12) := dS.1.row (by omega) (by omega) (by omega) (by omega)
  have e13 : M2 (c + 13) = M (c + 13) := dS.1.row (by omega) (by omega) (by omega) (by omega)
  have hR := ok.2.1
  -- the rule is looked at
  have look : (k : Int) < M c 6 → w_X0_fillParts_146 c (q : Int) (ac : Int) (n : Int) (ch : Int) (k : Int) (fun x1 x2 M => P1 (x1, x2, M)) (fun x1 x4 M => P2 (x1, x4, M)) Q M2 := by
    intro hk
    unfold w_X0_fillParts_146
    have ho := ok.2.2.1 (k : Int)
    obtain ⟨o, ho2⟩ : ∃ o : Nat, M (c + 10) (k : Int) = (o : Int) := ⟨_, (Int.toNat_of_nonneg ho.1).symm⟩
    refine t_addParts (q := q) ok2 dS.2.1 hq17 ⟨by omega, by rw [e6]; exact hk⟩ (fun r B v e i hB hv hbit he hi r0 r1 r2 hle1 hle2 => ?_)
    have hvl : v < 262144 := by have := dS.2.1.2.2.1 (M2 (c + 10) (k : Int) * 18 + (q : Int)); omega
    rw [e10, ho2] at hv he hi r1 r2 hle1 hle2 ⊢
    have cg2 : cgd M2 c (k : Int) (gr_y (gc M c) 10) := by
      intro i h1 h2 h3
      rw [e11] at h2; rw [e12] at h3 ⊢
      exact gd.2.2 (k : Int) (by omega) hk i h1 h2 h3
    have hcS2 := hcS M2 dS
    have hz2 := ok2.2.2.2.1 (k : Int)
    have toY : ∀ u, gr_sq 10 (gr_y (gc M c) 10) (sg (cf M2 c (k : Int)) (M2 (c + 11) (k : Int) - (((M2 (c + 11) (k : Int)).toNat : Nat) : Int)) (M2 (c + 11) (k : Int))) u → gr_y (gc M c) 10 o u := by
      intro u hu
      refine gr_y_iff.mpr ⟨k, by show k < (M c 6).toNat; omega, by show (M (c + 10) (k : Int)).toNat = o; omega, ?_⟩
      rw [show M2 (c + 11) (k : Int) - (((M2 (c + 11) (k : Int)).toNat : Nat) : Int) = 0 by omega] at hu
      unfold cf at hu
      rw [e12, e11] at hu
      exact hu
    have hsB : ∀ p, B.testBit p = true → p ≤ q ∧ gr_pf (gc M c) 10 o (tkw M c p q) := by
      intro p hp
      obtain ⟨g1, v, g2⟩ := cO_s ok2 tk2 hcS2 cg2 _ p (by omega) ((hbit p).mp hp)
      rw [tkw.eqv dS.1] at g2
      exact ⟨g1, v, toY _ g2⟩
    have hsE : ∀ p : Nat, p ≤ q → cE M2 c (k : Int) (M2 (c + 11) (k : Int)) q (M2 (c + 11) (k : Int)).toNat p → gr_sf (gc M c) 10 o (tkw M c p q) := by
      intro p hp h
      obtain ⟨v, g2⟩ := cE_s ok2 tk2 hcS2 cg2 _ p (by omega) hp h
      rw [tkw.eqv dS.1] at g2
      exact ⟨v, toY _ g2⟩
    have hsI : ∀ p : Nat, p ≤ q → cI M2 c (k : Int) (M2 (c + 11) (k : Int)) q (M2 (c + 11) (k : Int)).toNat p → gr_if (gc M c) 10 o (tkw M c p q) := by
      intro p hp h
      obtain ⟨v, w, g2⟩ := cI_s ok2 tk2 hcS2 cg2 _ p (by omega) hp h
      rw [tkw.eqv dS.1] at g2
      exact ⟨v, w, toY _ g2⟩
    have he17 : e ≤ 17 := by have := (he.2.2 q (by omega)).mpr (Or.inr (cE_q _)); omega
    have hi17 : i ≤ 17 := by have := (hi.2.2 q (by omega)).mpr (Or.inr (cI_q _)); omega
    have hct := cmu_up (c := c) (q := q) (o := o) (v := v) (B := B) (M := M2) hv rfl hle1 hle2 he17 hi17 7
    generalize hM3 : pj_up (pj_up (pj_up M2 (c + 17) ((o : Int) * 18 + (q : Int)) ((v ||| B : Nat) : Int)) (c + 18) ((o : Int) * 18 + (q : Int)) e) (c + 19) ((o : Int) * 18 + (q : Int)) i = M3
    rw [hM3] at hct
    have ew : eqv c M2 M3 := by
      rw [← hM3]
      exact ((eqv.up (Or.inl rfl)).tr (eqv.up (Or.inr (Or.inl rfl)))).tr (eqv.up (Or.inr (Or.inr rfl)))
    have c17 : M3 (c + 17) ((o : Int) * 18 + (q : Int)) = ((v ||| B : Nat) : Int) := by rw [← hM3, pu_ne (by omega), pu_ne (by omega), pu_eq]
    have c18 : M3 (c + 18) ((o : Int) * 18 + (q : Int)) = e := by rw [← hM3, pu_ne (by omega), pu_eq]
    have c19 : M3 (c + 19) ((o : Int) * 18 + (q : Int)) = i := by rw [← hM3, pu_eq]
    have oth : ∀ a x, x ≠ (o : Int) * 18 + (q : Int) → M3 a x = M2 a x := fun a x h => by rw [← hM3, pu_nk h, pu_nk h, pu_nk h]
    have row3 : ∀ a, a ≠ c + 17 → a ≠ c + 18 → a ≠ c + 19 → M3 a = M2 a := fun a h1 h2 h3 => funext fun x => by rw [← hM3, pu_ne h3, pu_ne h2, pu_ne h1]
    have dS3 : Sd 7 M3 := by
      obtain ⟨f1, f2, f3, f4⟩ := dS
      refine ⟨f1.tr ew, ?_, fun a x q' g1 g2 => ?_, fun x p g1 => ?_⟩
      · obtain ⟨b1, b2, b3, b4, b5⟩ := f2
        refine ⟨fun x => ?_, fun x => ?_, fun x => ?_, fun x => ?_, fun x => ?_⟩
        · rw [row3 (c + 15) (by omega) (by omega) (by omega)]; exact b1 x
        · rw [row3 (c + 16) (by omega) (by omega) (by omega)]; exact b2 x
        · have hvb : v ||| B < 262144 := Nat.or_lt_two_pow (n := 18) hvl hB
          by_cases e0 : x = (o : Int) * 18 + (q : Int)
          · rw [e0, c17]; omega
          · rw [oth _ _ e0]; exact b3 x
        · by_cases e0 : x = (o : Int) * 18 + (q : Int)
          · rw [e0, c18]; omega
          · rw [oth _ _ e0]; exact b4 x
        · by_cases e0 : x = (o : Int) * 18 + (q : Int)
          · rw [e0, c19]; omega
          · rw [oth _ _ e0]; exact b5 x
      · rw [oth a _ (by omega)]; exact f3 a x q' g1 g2
      · by_cases e0 : x = o
        · subst e0
          rw [c17, c18, c19]
          have h4 := f4 x p g1
          rw [hv] at h4
          refine ⟨fun h => ?_, fun hp => ⟨fun h => ?_, fun h => ?_⟩⟩
          · unfold tbit at h
            rw [Int.toNat_natCast, Nat.testBit_or, Bool.or_eq_true] at h
            rcases h with h | h
            · exact h4.1 (by unfold tbit; rw [Int.toNat_natCast]; exact h)
            · exact hsB p h
          · rcases (he.2.2 p (by omega)).mp h with h | h
            · exact (h4.2 hp).1 h
            · exact hsE p hp h
          · rcases (hi.2.2 p (by omega)).mp h with h | h
            · exact (h4.2 hp).2 h
            · exact hsI p hp h
        · rw [oth _ _ (by omega), oth _ _ (by omega), oth _ _ (by omega)]
          exact f4 x p g1
    -- alternatives that don't use the owner stay as they are
    have keep : ∀ k' : Nat, (k' : Int) < M c 6 → ¬ tbit (M (c + 13) (k' : Int)) o → cks M2 M3 c q (k' : Int) (M2 (c + 11) (k' : Int)) := by
      intro k' hk' hno
      refine ⟨row3 _ (by omega) (by omega) (by omega), row3 _ (by omega) (by omega) (by omega), row3 _ (by omega) (by omega) (by omega), fun s s1 s2 s3 => ?_⟩
      have hu := ok2.2.2.2.2.2.2 (k' : Int) s (by omega) (by rw [e6]; exact hk') s1 s2 s3
      rw [e13] at hu
      have hs15 := ok2.2.2.2.2.1 ((k' : Int) * 4 + s)
      have hne : (M2 (c + 12) ((k' : Int) * 4 + s) - 10).toNat ≠ o := fun e => hno (by rw [← e]; exact hu)
      exact ⟨oth _ _ (by omega), oth _ _ (by omega), fun q' hq' => oth _ _ (by omega)⟩
    have e113 : M3 (c + 11) = M2 (c + 11) := row3 _ (by omega) (by omega) (by omega)
    have e103 : M3 (c + 10) = M (c + 10) := (row3 _ (by omega) (by omega) (by omega)).trans e10
    -- a closed alternative stays closed, or uses the owner
    have kept : ∀ k' : Nat, (k' : Int) < M c 6 → ccp M2 c q (k' : Int) → ccp M3 c q (k' : Int) ∨ tbit (M (c + 13) (k' : Int)) o := by
      intro k' hk' hcl
      by_cases hu : tbit (M (c + 13) (k' : Int)) o
      · exact Or.inr hu
      · have hz3 := ok2.2.2.2.1 (k' : Int)
        have hkp := keep k' hk' hu
        have ho' := ok.2.2.1 (k' : Int)
        obtain ⟨o', ho3⟩ : ∃ o' : Nat, M (c + 10) (k' : Int) = (o' : Int) := ⟨_, (Int.toNat_of_nonneg ho'.1).symm⟩
        obtain ⟨h71, h72, h73⟩ := hcl
        rw [e10, ho3] at h71 h72 h73
        unfold ccp
        rw [e113, e103, ho3]
        refine Or.inl ⟨fun p hp => ?_, fun p p18 hp => ?_, fun p p18 hp => ?_⟩
        · rw [cO_keep hkp _ _ (by omega)] at hp
          have h7 := h71 p hp
          by_cases e0 : o' = o
          · subst e0
            rw [c17]
            rw [hv] at h7
            unfold tbit at h7 ⊢
            rw [Int.toNat_natCast] at h7 ⊢
            rw [Nat.testBit_or, h7]; rfl
          · rw [oth _ _ (by omega)]; exact h7
        · rw [cE_keep hkp _ _ (by omega)] at hp
          have h7 := h72 p p18 hp
          by_cases e0 : o' = o
          · subst e0; rw [c18]; omega
          · rw [oth _ _ (by omega)]; exact h7
        · rw [cI_keep hkp _ _ (by omega)] at hp
          have h7 := h73 p p18 hp
          by_cases e0 : o' = o
          · subst e0; rw [c19]; omega
          · rw [oth _ _ (by omega)]; exact h7
    have selfp : (∀ p, cO M2 c (k : Int) (M2 (c + 11) (k : Int)) q (M2 (c + 11) (k : Int)).toNat p → tbit (M3 (c + 17) ((o : Int) * 18 + (q : Int))) p) ∧ (∀ p : Nat, p < 18 → cE M2 c (k : Int) (M2 (c + 11) (k : Int)) q (M2 (c + 11) (k : Int)).toNat p → M3 (c + 18) ((o : Int) * 18 + (q : Int)) ≤ (p : Int)) ∧ (∀ p : Nat, p < 18 → cI M2 c (k : Int) (M2 (c + 11) (k : Int)) q (M2 (c + 11) (k : Int)).toNat p → M3 (c + 19) ((o : Int) * 18 + (q : Int)) ≤ (p : Int)) := by
      rw [c17, c18, c19]
      refine ⟨fun p hp => ?_, fun p p18 hp => (he.2.2 p p18).mpr (Or.inr hp), fun p p18 hp => (hi.2.2 p p18).mpr (Or.inr hp)⟩
      unfold tbit
      rw [Int.toNat_natCast, Nat.testBit_or, (hbit p).mpr hp]; simp
    have self : ccp M3 c q (k : Int) ∨ tbit (M (c + 13) (k : Int)) o := by
      by_cases hu : tbit (M (c + 13) (k : Int)) o
      · exact Or.inr hu
      · have hkp := keep k hk hu
        unfold ccp
        rw [e113, e103, ho2]
        exact Or.inl ⟨fun p hp => selfp.1 p (by rwa [cO_keep hkp _ _ (by omega)] at hp), fun p p18 hp => selfp.2.1 p p18 (by rwa [cE_keep hkp _ _ (by omega)] at hp), fun p p18 hp => selfp.2.2 p p18 (by rwa [cI_keep hkp _ _ (by omega)] at hp)⟩
    have hR13 : (k : Int) < 13 := by omega
    -- the next alternative
    have next : ∀ ac' : Nat, ac' < 128 → (∀ x, ac.testBit x = true → ac'.testBit x = true) → (ac' ≠ 0 → cmu M1 c q 7 < cmu M3 c q 7) → (∀ k' : Nat, (k' : Int) < M c 6 → (k' < k ∨ n ≠ 0) → k' ≠ k → ccp M2 c q (k' : Int) → ccp M3 c q (k' : Int) ∨ ∃ x, x < 6 ∧ tbit (M (c + 13) (k' : Int)) x ∧ ac'.testBit x = true) → (ccp M3 c q (k : Int) ∨ ∃ x, x < 6 ∧ tbit (M (c + 13) (k : Int)) x ∧ ac'.testBit x = true) → P2 ((ac' : Int), (k : Int) + 1, M3) := by
      intro ac' h1 h2 h3 h4 h5
      refine hP2 ((ac' : Int), (k : Int) + 1, M3) ⟨ac', k + 1, rfl, by show (k : Int) + 1 = _; omega, by omega, h1, dS3, by show _ ≤ cmu M3 c q 7; omega, h3, fun k' hk' hor => ?_⟩ (by show (M c 6 - ((k : Int) + 1)).toNat < (M c 6 - (k : Int)).toNat; omega)
      by_cases e : k' = k
      · subst e
        rcases h5 with h5 | ⟨x, b1, b2, b3⟩
        · exact Or.inl h5
        · exact Or.inr ⟨x, b1, b2, Or.inl b3⟩
      · rcases d4 k' hk' (by omega) with h6 | ⟨x, b1, b2, b3 | b3⟩
        · rcases h4 k' hk' (by omega) e h6 with h7 | ⟨x, b1, b2, b3⟩
          · exact Or.inl h7
          · exact Or.inr ⟨x, b1, b2, Or.inl b3⟩
        · exact Or.inr ⟨x, b1, b2, Or.inl (h2 x b3)⟩
        · exact Or.inr ⟨x, b1, b2, Or.inr ⟨by omega, b3.2⟩⟩
    have hu64 := ok.2.2.2.2.2.1
    have lt6 : ∀ (k' : Int) (x : Nat), tbit (M (c + 13) k') x → x < 6 := by
      intro k' x h
      apply Nat.lt_of_not_le
      intro hle
      have h2 := hu64 k'
      have : (M (c + 13) k').toNat.testBit x = false := Nat.testBit_lt_two_pow (Nat.lt_of_lt_of_le (show (M (c + 13) k').toNat < 2 ^ 6 by omega) (Nat.pow_le_pow_right (by decide) hle))
      unfold tbit at h
      rw [this] at h; cases h
    refine ⟨by rcases r0 with h | h <;> rw [h] <;> exact ⟨by decide, by decide⟩, fun hr => ?_, fun hr => ⟨⟨by omega, by omega⟩, ?_⟩⟩
    · -- nothing new
      obtain ⟨s1, s2, s3⟩ := r1 hr
      have hsub : v ||| B = v := by
        apply Nat.eq_of_testBit_eq
        intro i
        rw [Nat.testBit_or]
        by_cases h1 : B.testBit i = true
        · rw [h1, s1 i h1]; rfl
        · simp [h1]
      have hsame : M3 = M2 := by
        rw [← hM3, hsub, ← hv, s2, s3]
        funext a' x'
        simp only [pu_if]
        split
        · rename_i h; rw [h.1, h.2]
        · split
          · rename_i h; rw [h.1, h.2]
          · split
            · rename_i h; rw [h.1, h.2]
            · rfl
      refine next ac d1 (fun _ h => h) (fun h => by have := d3 h; omega) (fun k' _ _ _ h => Or.inl (by rw [hsame]; exact h)) (Or.inl ?_)
      rw [hsame] at selfp
      unfold ccp
      rw [hsame, e10, ho2]
      exact selfp
    · rw [cr_2 hc, show M3 (c + 10) (k : Int) = (o : Int) by rw [e103]; exact ho2]
      have hpow : 2 ^ o < 2 ^ 7 := Nat.pow_lt_pow_right (by decide) (by omega)
      rw [pb_one (by omega), pb_or (by omega) (by omega)]
      rintro z rfl
      have hinc : cmu M2 c q 7 < cmu M3 c q 7 := by
        refine hct.2 ?_ (by omega)
        rcases r2 (r0.resolve_left hr) with ⟨p, hp1, hp2⟩ | h | h
        · exact Or.inl ⟨p, pb_18 hB hp1, hp1, hp2⟩
        · exact Or.inr (Or.inl h)
        · exact Or.inr (Or.inr h)
      have hset : ∀ x, (ac ||| 2 ^ o).testBit x = true ↔ ac.testBit x = true ∨ o = x := fun x => by rw [pb_set, Bool.or_eq_true, decide_eq_true_iff]
      refine next (ac ||| 2 ^ o) (Nat.or_lt_two_pow (n := 7) d1 hpow) (fun x h => (hset x).mpr (Or.inl h)) (fun _ => by omega) (fun k' hk' _ _ h => ?_) ?_
      · rcases kept k' hk' h with h | h
        · exact Or.inl h
        · exact Or.inr ⟨o, lt6 _ _ h, h, (hset o).mpr (Or.inr rfl)⟩
      · rcases self with h | h
        · exact Or.inl h
        · exact Or.inr ⟨o, lt6 _ _ h, h, (hset o).mpr (Or.inr rfl)⟩
  unfold w_X0_fillParts_120b
  rw [e6, cr_5 hc, e13]
  refine ⟨⟨by omega, by omega⟩, ⟨by omega, by omega⟩, fun hcl => ?_, fun hcl => ⟨⟨by omega, by omega⟩, fun _ => look (by omega), fun hn0 => ⟨⟨by omega, by omega⟩, ?_⟩⟩⟩
  · refine hP1 ((ac : Int), (n : Int) + 1, M2) ⟨ac, n + 1, rfl, by show (n : Int) + 1 = _; omega, d1, dS, ?_, Or.inr ⟨fun h => ?_, fun k' hk' => ?_⟩⟩ (by show (1000 - ((n : Int) + 1)).toNat < (1000 - (n : Int)).toNat; omega)
    · show n + 1 ≤ cmu M2 c q 7 + 1
      rcases c3 with ⟨h1, -⟩ | ⟨h1, -⟩
      · omega
      · have := h1 (by omega); omega
    · show n + 1 ≤ cmu M2 c q 7
      have h9 := d3 h
      rcases c3 with ⟨h1, -⟩ | ⟨h1, -⟩
      · omega
      · have := h1 (by omega); omega
    · rcases d4 k' hk' (Or.inl (by omega)) with h | ⟨x, b1, b2, b3 | b3⟩
      · exact Or.inl h
      · exact Or.inr ⟨x, b1, b2, b3⟩
      · omega
  · have hu := ok.2.2.2.2.2.1 (k : Int)
    obtain ⟨u, hu2⟩ : ∃ u : Nat, M (c + 13) (k : Int) = (u : Int) := ⟨_, (Int.toNat_of_nonneg hu.1).symm⟩
    rw [hu2, pb_and (by omega) (by omega)]
    have hal : u &&& ch ≤ u := Nat.and_le_left
    refine ⟨⟨by omega, by omega⟩, fun hz => ?_, fun _ => look (by omega)⟩
    -- left out: none that it uses has changed
    refine hP2 ((ac : Int), (k : Int) + 1, M2) ⟨ac, k + 1, rfl, by show (k : Int) + 1 = _; omega, by omega, d1, dS, d2, d3, fun k' hk' hor => ?_⟩ (by show (M c 6 - ((k : Int) + 1)).toNat < (M c 6 - (k : Int)).toNat; omega)
    rcases d4 k' hk' (by omega) with h | ⟨x, b1, b2, b3 | b3⟩
    · exact Or.inl h
    · exact Or.inr ⟨x, b1, b2, Or.inl b3⟩
    · by_cases e : k' = k
      · subst e
        exfalso
        have h8 : (u &&& ch).testBit x = true := by
          rw [Nat.testBit_and, b3.2]
          unfold tbit at b2
          rw [hu2, Int.toNat_natCast] at b2
          rw [b2]; rfl
        rw [show u &&& ch = 0 by omega] at h8
        simp at h8
      · exact Or.inr ⟨x, b1, b2, Or.inr ⟨by omega, b3.2⟩⟩
