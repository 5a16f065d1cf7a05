theorem t_layTablesY {M : pj_M} {wl : Int} {Q : pj_M → Prop} (hsc : msc M) (v : vg (M 204)) (hwl : M 203 14 = wl) (hw1 : 0 ≤ wl ∧ wl ≤ 15) (q : ∀ M', eqp M M' → M' 209 = M 209 → M' 226 = M 226 → mtabs M' wl → mgd M' → Q M') : w_X12_layTables 203 M Q := by
  unfold w_X12_layTables
  rw [rm_0, rm_15, rm_16, rm_17, rm_18]
  rintro M1 rfl
  have e1 : ∀ c : Nat, c ≠ 203 → pj_up M 203 11 ((204 : Nat) : Int) c = M c := fun c hc => funext fun x => pu_ne hc
  have s1 := hsc.up (k := 11) (v := ((204 : Nat) : Int))
  have v1 : vg (pj_up M 203 11 ((204 : Nat) : Int) 204) := by rw [e1 204 (by decide)]; exact v
  refine ⟨204, ⟨pu_eq, by decide⟩, ?_⟩
  refine t_layGood (b := 204) (by decide) (by decide) v1 (fun good hok => ?_)
  rw [e1 204 (by decide)] at hok
  generalize hM2 : pj_up (pj_up M 203 11 ((204 : Nat) : Int)) 203 12 (good : Int) = M2
  have e2 : ∀ c : Nat, c ≠ 203 → M2 c = M c := fun c hc => by rw [← hM2]; funext x; rw [pu_ne hc, pu_ne hc]
  have p2 : eqp M M2 := by rw [← hM2]; exact (eqp.up (by unfold mpk; omega)).tr (eqp.up (by unfold mpk; omega))
  have s2 : msc M2 := by rw [← hM2]; exact s1.up
  have w2 : M2 203 11 = ((204 : Nat) : Int) := by rw [← hM2, pu_nk (by decide), pu_eq]
  have g2 : M2 203 12 = (good : Int) := by rw [← hM2, pu_eq]
  have l2 : M2 203 14 = wl := by rw [← hM2, pu_nk (by decide), pu_nk (by decide)]; exact hwl
  have v2 : vg (M2 204) := by rw [e2 204 (by decide)]; exact v
  have hok2 : md_ok (M2 204) good := by rw [e2 204 (by decide)]; exact hok
  have mk : ∀ M3 : pj_M, msc M3 → M3 203 11 = ((204 : Nat) : Int) → vg (M3 204) → mt_ok M3 204 := fun M3 s w v => ⟨w, by decide, Or.inl rfl, fun k a c => v.2.2.1 k a c, fun k s a c d f => v.2.2.2 k s a c d f, s.1, s.2.1, s.2.2.1, s.2.2.2.1, s.2.2.2.2.2⟩
  have sc : ∀ (T : Nat) (M3 M4 : pj_M), (T = 210 ∨ T = 211 ∨ T = 212 ∨ T = 213) → msc M3 → eqt T M3 M4 → bz M4 T → bz M4 214 → msc M4 := by
    intro T M3 M4 hT s e b1 b2
    have bt : ∀ a, bz M3 a → a ≠ 214 → a ≠ 215 → bz M4 a := fun a ha n1 n2 => by
      by_cases e2 : a = T
      · subst e2; exact b1
      · exact fun x => by rw [e a x e2 n1 n2]; exact ha x
    exact ⟨bt _ s.1 (by decide) (by decide), bt _ s.2.1 (by decide) (by decide), bt _ s.2.2.1 (by decide) (by decide), bt _ s.2.2.2.1 (by decide) (by decide), b2, fun a => by rw [e 209 a (by omega) (by decide) (by decide)]; exact s.2.2.2.2.2 a⟩
  have k203 : ∀ (T : Nat) (M3 M4 : pj_M), (T = 210 ∨ T = 211 ∨ T = 212 ∨ T = 213) → eqt T M3 M4 → ∀ c : Nat, c = 203 ∨ c = 204 ∨ c = 209 → M4 c = M3 c := fun T M3 M4 hT e c hc => funext fun x => e c x (by omega) (by omega) (by omega)
  have kt : ∀ (T T' : Nat) (M3 M4 : pj_M), T' ≠ T → T' ≠ 214 → T' ≠ 215 → eqt T M3 M4 → ∀ c i j, mt_tb M4 T' c i j ↔ mt_tb M3 T' c i j := fun T T' M3 M4 h1 h2 h3 e c i j => by unfold mt_tb; rw [e T' _ h1 h2 h3]
  refine t_lay0 (mk M2 s2 w2 v2) s2.2.2.2.2.1 v2 g2 hok2 l2 hw1 (fun M3 e3 b3 c3 x3 => ?_)
  have s3 := sc 210 M2 M3 (Or.inl rfl) s2 e3 b3 c3
  have k3 := k203 210 M2 M3 (Or.inl rfl) e3
  refine t_lay1 (M := M3) (good := good) (mk M3 s3 (by rw [k3 203 (by decide)]; exact w2) (by rw [k3 204 (by decide)]; exact v2)) s3.2.2.2.2.1 (by rw [k3 204 (by decide)]; exact v2) (by rw [k3 203 (by decide)]; exact g2) (by rw [k3 204 (by decide)]; exact hok2) (by rw [k3 203 (by decide)]; exact l2) hw1 (fun c i j h1 h2 h3 h4 => by rw [k3 204 (by decide)]; unfold mt_w; rw [k3 209 (by decide)]; exact x3 c i j h1 h2 h3 h4) (fun M4 e4 b4 c4 x4 => ?_)
  have s4 := sc 211 M3 M4 (Or.inr (Or.inl rfl)) s3 e4 b4 c4
  have k4 : ∀ c : Nat, c = 203 ∨ c = 204 ∨ c = 209 → M4 c = M2 c := fun c hc => (k203 211 M3 M4 (Or.inr (Or.inl rfl)) e4 c hc).trans (k3 c hc)
  have y4 : ∀ c i j, c < 6 → 0 ≤ i → i ≤ j → j ≤ wl → (mt_tb M4 210 c i j ↔ gr_y (gr_of (M4 204)) 8 c (mt_w M4 i j)) := fun c i j h1 h2 h3 h4 => by rw [kt 211 210 M3 M4 (by decide) (by decide) (by decide) e4, k4 204 (by decide)]; unfold mt_w; rw [k4 209 (by decide)]; exact x3 c i j h1 h2 h3 h4
  refine t_lay2 (M := M4) (good := good) (mk M4 s4 (by rw [k4 203 (by decide)]; exact w2) (by rw [k4 204 (by decide)]; exact v2)) s4.2.2.2.2.1 (by rw [k4 204 (by decide)]; exact v2) (by rw [k4 203 (by decide)]; exact g2) (by rw [k4 204 (by decide)]; exact hok2) (by rw [k4 203 (by decide)]; exact l2) hw1 y4 (fun M5 e5 b5 c5 x5 => ?_)
  have s5 := sc 212 M4 M5 (Or.inr (Or.inr (Or.inl rfl))) s4 e5 b5 c5
  have k5 : ∀ c : Nat, c = 203 ∨ c = 204 ∨ c = 209 → M5 c = M4 c := fun c hc => k203 212 M4 M5 (Or.inr (Or.inr (Or.inl rfl))) e5 c hc
  have k52 : ∀ c : Nat, c = 203 ∨ c = 204 ∨ c = 209 → M5 c = M2 c := fun c hc => (k5 c hc).trans (k4 c hc)
  have y5 : ∀ c i j, c < 6 → 0 ≤ i → i ≤ j → j ≤ wl → (mt_tb M5 210 c i j ↔ gr_y (gr_of (M5 204)) 8 c (mt_w M5 i j)) := fun c i j h1 h2 h3 h4 => by rw [kt 212 210 M4 M5 (by decide) (by decide) (by decide) e5, k5 204 (by decide)]; unfold mt_w; rw [k5 209 (by decide)]; exact y4 c i j h1 h2 h3 h4
  have z4 : ∀ c i j, c < 6 → 0 ≤ i → i ≤ j → j ≤ wl → (mt_tb M5 211 c i j ↔ gr_pf (gr_of (M5 204)) 8 c (mt_w M5 i j)) := fun c i j h1 h2 h3 h4 => by
    rw [kt 212 211 M4 M5 (by decide) (by decide) (by decide) e5, k52 204 (by decide)]; unfold mt_w; rw [k52 209 (by decide)]
    have := x4 c i j h1 h2 h3 h4
    rw [k3 204 (by decide)] at this; unfold mt_w at this; rw [k3 209 (by decide)] at this; exact this
  have z5 : ∀ c i j, c < 6 → 0 ≤ i → i ≤ j → j ≤ wl → (mt_tb M5 212 c i j ↔ gr_sf (gr_of (M5 204)) 8 c (mt_w M5 i j)) := fun c i j h1 h2 h3 h4 => by
    rw [k5 204 (by decide)]; unfold mt_w; rw [k5 209 (by decide)]
    exact x5 c i j h1 h2 h3 h4
  refine t_lay3 (M := M5) (good := good) (mk M5 s5 (by rw [k52 203 (by decide)]; exact w2) (by rw [k52 204 (by decide)]; exact v2)) s5.2.2.2.2.1 (by rw [k52 204 (by decide)]; exact v2) (by rw [k52 203 (by decide)]; exact g2) (by rw [k52 204 (by decide)]; exact hok2) (by rw [k52 203 (by decide)]; exact l2) hw1 y5 z4 z5 (fun M6 e6 b6 c6 x6 => ?_)
  have s6 := sc 213 M5 M6 (Or.inr (Or.inr (Or.inr rfl))) s5 e6 b6 c6
  have k6 : ∀ c : Nat, c = 203 ∨ c = 204 ∨ c = 209 → M6 c = M5 c := fun c hc => k203 213 M5 M6 (Or.inr (Or.inr (Or.inr rfl))) e6 c hc
  have k62 : ∀ c : Nat, c = 203 ∨ c = 204 ∨ c = 209 → M6 c = M2 c := fun c hc => (k6 c hc).trans (k52 c hc)
  refine q M6 ((((p2.tr (eqp.t (Or.inl rfl) e3)).tr (eqp.t (Or.inr (Or.inl rfl)) e4)).tr (eqp.t (Or.inr (Or.inr (Or.inl rfl))) e5)).tr (eqp.t (Or.inr (Or.inr (Or.inr rfl))) e6)) (by rw [k62 209 (by decide), e2 209 (by decide)]) (by rw [show M6 226 = M5 226 from funext fun x => e6 226 x (by decide) (by decide) (by decide), show M5 226 = M4 226 from funext fun x => e5 226 x (by decide) (by decide) (by decide), show M4 226 = M3 226 from funext fun x => e4 226 x (by decide) (by decide) (by decide), show M3 226 = M2 226 from funext fun x => e3 226 x (by decide) (by decide) (by decide), e2 226 (by decide)]) ⟨by rw [k62 203 (by decide)]; exact w2, by rw [k62 203 (by decide)]; exact l2, hw1, by rw [k62 204 (by decide)]; exact v2, s6, fun c i j h1 h2 h3 h4 => ?_⟩ ⟨good, by rw [k62 203 (by decide)]; exact g2, by rw [k62 204 (by decide)]; exact hok2⟩
  rw [k6 204 (by decide)]; unfold mt_w; rw [k6 209 (by decide)]
  refine ⟨?_, ?_, ?_, x6 c i j h1 h2 h3 h4⟩
  · rw [kt 213 210 M5 M6 (by decide) (by decide) (by decide) e6]; exact y5 c i j h1 h2 h3 h4
  · rw [kt 213 211 M5 M6 (by decide) (by decide) (by decide) e6]; exact z4 c i j h1 h2 h3 h4
  · rw [kt 213 212 M5 M6 (by decide) (by decide) (by decide) e6]; exact z5 c i j h1 h2 h3 h4
theorem lop_neg0 {k p s n : Int} {w : Int → Int} (h : (lop k p s n w).1 < 0) (hw : ∀ x, 0 ≤ x → x < n → 0 ≤ w x) (hn : 0 ≤ n) : (lop k p s n w).2.1 = n ∧ (lop k p s n w).2.2 = w := by
  unfold lop at *
  by_cases h0 : k = 0
  · rw [if_pos h0] at h ⊢
    by_cases h1 : 1 ≤ p ∧ p ≤ n ∧ 0 ≤ s ∧ s < 8
    · rw [if_pos h1] at h ⊢
      by_cases h2 : w (p - 1) = s
      · rw [if_pos h2]; exact ⟨rfl, rfl⟩
      · rw [if_neg h2] at h
        have := hw (p - 1) (by omega) (by omega)
        have h' : w (p - 1) < 0 := h
        omega
    · rw [if_neg h1]; exact ⟨rfl, rfl⟩
  · rw [if_neg h0] at h ⊢
    by_cases h1 : k = 1
    · rw [if_pos h1] at h ⊢
      by_cases h2 : 1 ≤ p ∧ p ≤ n + 1 ∧ 0 ≤ s ∧ s < 8
      · rw [if_pos h2] at h ⊢
        by_cases h3 : 14 ≤ n
        · rw [if_pos h3]; exact ⟨rfl, rfl⟩
        · rw [if_neg h3] at h
          have h' : n + 1 < 0 := h
          omega
      · rw [if_neg h2]; exact ⟨rfl, rfl⟩
    · rw [if_neg h1] at h ⊢
      by_cases h2 : 1 ≤ p ∧ p ≤ n
      · rw [if_pos h2] at h
        have h' : n - 1 < 0 := h
        omega
      · rw [if_neg h2]; exact ⟨rfl, rfl⟩
section
variable {M : pj_M} {Q : Int → pj_M → Prop}
theorem t_reportG (s : msc M) (v : dvl (M 204)) (q : ∀ r M', eqp M M' → M' 226 = M 226 → mft M' (M 204 73) (FD (M 204)) → leq (M 204 73) (M' 209) (lw (M 204)) → mgd M' → (0 ≤ r ∧ r ≤ 16) → rpn (M 204) (lw (M 204)) (M 204 73) r → Q r M') : w_X12_reportWithout 203 0 M Q := by
  have hn := v.2.2.1
  unfold w_X12_reportWithout
  rw [rm_0]
  refine t_layWord s (by decide) (by decide) hn (by rw [show (pj_sh 204).2 = 95 by decide]; show 74 + M 204 73 ≤ 95; omega) (fun x x1 x2 => v.2.2.2.1 x x1 (by omega)) (fun M1 e1 r1 s1 n1 _ w1 => ?_)
  have e204 : M1 204 = M 204 := r1 204 (by decide) (by decide)
  have v1 : dvl (M1 204) := by rw [e204]; exact v
  refine ⟨⟨by decide, by decide⟩, fun _ => ?_, fun h => absurd (by decide) h⟩
  unfold w_X12_reportWithout_61
  refine t_layTablesY s1 v1.1 n1 ⟨hn.1, by omega⟩ (fun M2 e2 e9 e26 mt mg => ?_)
  have f2 : mft M2 (M 204 73) (pfit (gr_of (M1 204)) (M1 204 1).toNat (lw (M 204)) (M 204 73)) := ⟨mt, pfit_mn v1.2.1, fun i j i1 i2 i3 => by
    rw [e2.at (show (204 : Nat) < 203 ∨ 204 = 204 ∨ _ by omega), e9, mf_fr v1.2.1 hn.1 (fun p _ _ => s1.2.2.2.2.2 p) i1 i2 i3]
    exact pfit_congr (gr_eq.rf _) w1 i1 i3⟩
  rw [e204] at f2
  refine t_layReport (bh := fun j => j) f2 hn (Or.inl rfl) (fun j _ h => ⟨Int.le_refl _, h⟩) (fun _ _ => rfl) (fun h => absurd h (by decide)) (fun M3 l e3 r3 hl hr => ?_)
  rw [r3.1]
  refine q _ M3 ((e1.tr e2).tr e3.p) (by rw [e3.row (by decide) (by decide), e26]; exact r1 226 (by decide) (by decide)) (f2.z e3) (by rw [e3.row (by decide) (by decide), e9]; exact w1) (mg.eq (e3.row (by decide) (by decide)) (e3 203 12 (by decide))) ⟨by omega, by omega⟩ ⟨l, hl, rfl, hr⟩
theorem m_years {seed n : Int} (sc : msc M) (v : dvl (M 204)) (hn : pj_in n) (q : ∀ r o M', eqm M M' → msc M' → rwm M M' o → s_years (M 204) seed n r o → Q r M') : w_X12_years 203 seed n M Q := by
  unfold w_X12_years
  rintro M0 rfl
  refine t_in hn ⟨by decide, by decide⟩ ⟨by decide, by decide⟩ (fun t ht hiff => ⟨in01 ht, fun h => ?_, fun h => q (-1) none _ (eqm.p eqp.z) sc.up (rwm.p eqp.z) ⟨fun _ => ⟨rfl, rfl⟩, fun h' => by have := hiff.mpr h'; omega⟩⟩)
  have hnn := hiff.mp (by omega)
  rintro M1 rfl
  have f1 : ∀ a x, ¬ (a = 203 ∧ (x = 5 ∨ x = 37)) → pj_up (pj_up M 203 5 0) 203 37 seed a x = M a x := fun a x ha => by rw [pu_if, if_neg (by omega), pu_if, if_neg (by omega)]
  have k1 : pj_up (pj_up M 203 5 0) 203 37 seed 203 37 = seed := pu_eq
  generalize pj_up (pj_up M 203 5 0) 203 37 seed = M1 at f1 k1 ⊢
  have r1 : ∀ a, a ≠ 203 → M1 a = M a := fun a ha => funext fun x => f1 a x (fun e => ha e.1)
  unfold w_X12_years_24
  refine pj_lp_inv (fun y : Int × pj_M => (0 ≤ y.1 ∧ y.1 ≤ 95) ∧ (∀ a, a ≠ 226 → y.2 a = M1 a) ∧ ∀ u, 0 ≤ u → u < y.1 → y.2 226 u = M 204 u) (fun y => (95 - y.1).toNat) ?_ (0, M1) ⟨⟨by simp, by simp⟩, fun _ _ => rfl, fun u u1 u2 => by have : u < 0 := u2; omega⟩
  rintro ⟨d, M2⟩ ⟨hd, f2, w2⟩ P hP
  dsimp only at hd f2 w2 hP ⊢
  unfold w_X12_years_24b
  rw [rm_0, rm_35]
  refine ⟨⟨by omega, by omega⟩, fun hend => ?_, fun hgo => ⟨⟨by omega, by omega⟩, ⟨by omega, by omega⟩, ?_⟩⟩
  · have g2 : M2 204 = M 204 := by rw [f2 204 (by decide), r1 204 (by decide)]
    have s2 : msc M2 := sc.eq (fun a a1 a2 => by rw [f2 a (by omega), r1 a (by omega)])
    generalize hYs : yrs seed (M 204 73) (lw (M 204)) = Y
    have Y0 : Y 0 = (seed, 0, M 204 73, lw (M 204)) := by rw [← hYs]; rfl
    have YS : ∀ k, Y (k + 1) = yr1 (Y k) := fun k => by rw [← hYs]; rfl
    unfold w_X12_years_53
    refine pj_lp_inv (fun y : Int × Int × pj_M => ∃ k : Nat, y.2.1 = (k : Int) ∧ (k : Int) ≤ n ∧ y.1 = (Y k).2.1 ∧ (0 ≤ (Y k).2.1 ∧ (Y k).2.1 ≤ (k : Int)) ∧ (∀ a x, a ≠ 204 → ¬ (a = 203 ∧ x = 37) → y.2.2 a x = M2 a x) ∧ y.2.2 203 37 = (Y k).1 ∧ dvl (y.2.2 204) ∧ chd (M 204) (y.2.2 204) (Y k).2.2.1 (Y k).2.2.2) (fun y => (n - y.2.1).toNat) ?_ (0, 0, M2) ⟨0, rfl, by show (0 : Int) ≤ n; omega, by rw [Y0], by rw [Y0]; simp, fun _ _ _ _ => rfl, by show M2 203 37 = _; rw [f2 203 (by decide), k1, Y0], by show dvl (M2 204); rw [g2]; exact v, by show chd (M 204) (M2 204) _ _; rw [g2, Y0]; exact ⟨rfl, fun _ _ _ => rfl, fun _ _ => rfl⟩⟩
    rintro ⟨_, _, M3⟩ ⟨k, hk, hkn, h3, hdb, f3, z37, v3, c3⟩ P3 hP3
    dsimp only at hk h3 f3 z37 v3 c3 hP3 ⊢
    subst hk h3
    have r3 : ∀ a, a ≠ 203 → a ≠ 204 → M3 a = M2 a := fun a a1 a2 => funext fun x => f3 a x a2 (fun e => a1 e.1)
    have s3 : msc M3 := s2.eq (fun a a1 a2 => r3 a (by omega) (by omega))
    have hn3 := v3.2.2.1
    unfold w_X12_years_53b
    refine ⟨⟨by omega, by omega⟩, ⟨by omega, by omega⟩, fun hle => ?_, fun hlt => ?_⟩
    · have hkk : (k : Int) = n := by omega
      have gr3 : gr_eq (gr_of (M3 204)) (gr_of (M 204)) := gr_of_eq (fun x hx => c3.2.2 x (Or.inl hx)) v.1
      have one3 : M3 204 1 = M 204 1 := c3.2.2 1 (Or.inl (by decide))
      refine t_reportG s3 v3 (fun r M4 e4 e426 f4 w4 mg4 hr hrp => ?_)
      have g4 : M4 204 = M3 204 := e4.at (by omega)
      rintro M5 rfl
      have e5 : eqt2 M4 (pj_up M4 203 4 0) := eqt2.z
      have f5 := f4.t e5
      have g5 : pj_up M4 203 4 0 204 = M3 204 := by rw [z204, g4]
      have mg5 : mgd (pj_up M4 203 4 0) := mg4.eq (by rw [z204]) (e5 203 12 (by decide) (by decide))
      have w5 : leq (M3 204 73) (pj_up M4 203 4 0 209) (lw (M3 204)) := by rw [pu_row (show (209 : Nat) ≠ 203 by decide)]; exact w4
      have rn5 : rwsm (pj_up M4 203 4 0) [] := rwsm.nil
      have z26 : pj_up M4 203 4 0 226 = M4 226 := pu_row (by decide)
      generalize pj_up M4 203 4 0 = M5 at e5 f5 g5 mg5 w5 rn5 z26 ⊢
      have v5 : dvl (M5 204) := by rw [g5]; exact v3
      refine t_ndn (mkok f5.1.1 (Or.inl rfl) v5.1 f5.1.2.2.2.2.1) v5 mg5 (by rw [g5]; exact f5.1.2.1) (by rw [g5]; exact w5) (fun z M6 e6 hz hnd => ?_)
      rw [g5] at hnd
      have rn6 : rwsm M6 [] := by unfold rwsm at *; rw [e6 203 (by decide) (by decide) (by decide), e6 206 (by decide) (by decide) (by decide)]; exact rn5
      refine ⟨⟨by omega, by omega⟩, t_tellM rn6 (by decide) (fun M7 e7 r7 => ?_)⟩
      have g7 : M7 204 = M3 204 := by rw [e7.row (by decide) (by decide), e6 204 (by decide) (by decide) (by decide), g5]
      rw [rm_0, g7]
      refine ⟨⟨by omega, by omega⟩, t_tellM r7 (by simp) (fun M8 e8 r8 => ⟨⟨by omega, by omega⟩, t_tellM r8 (by simp) (fun M9 e9 r9 => ?_)⟩)⟩
      have e79 : eqt2 M6 M9 := (e7.tr e8).tr e9
      have s9 : msc M9 := (f5.1.2.2.2.2.1.eq (fun a a1 a2 => e6 a (by omega) (by omega) (by omega))).t e79
      have g9 : M9 204 = M3 204 := by rw [e79.row (by decide) (by decide), e6 204 (by decide) (by decide) (by decide), g5]
      have x9 : ∀ u, 0 ≤ u → u < 95 → M9 226 u = M 204 u := fun u u1 u2 => by
        rw [e79.row (by decide) (by decide), e6 226 (by decide) (by decide) (by decide), z26, e426, r3 226 (by decide) (by decide)]; exact w2 u u1 (by omega)
      have m9 : ∀ c x, mpm c x → c ≠ 204 → M9 c x = M c x := by
        intro c x hc hne
        rw [e79 c x (by unfold mpm at hc; omega) (by unfold mpm at hc; omega), e6 c (by unfold mpm at hc; omega) (by unfold mpm at hc; omega) (by unfold mpm at hc; omega), e5 c x (by unfold mpm at hc; omega) (by unfold mpm at hc; omega), e4 c x (by unfold mpm at hc; unfold mpk; omega), f3 c x hne (by unfold mpm at hc; omega), f2 c (by unfold mpm at hc; omega), f1 c x (by unfold mpm at hc; omega)]
      unfold w_X12_years_163
      refine pj_lp_inv (fun y : Int × pj_M => (0 ≤ y.1 ∧ y.1 ≤ 95) ∧ (∀ a, a ≠ 204 → y.2 a = M9 a) ∧ ∀ u, y.2 204 u = if 0 ≤ u ∧ u < y.1 then M 204 u else M3 204 u) (fun y => (95 - y.1).toNat) ?_ (0, M9) ⟨⟨by simp, by simp⟩, fun _ _ => rfl, fun u => by rw [if_neg]; exact congrFun g9 u; show ¬ (0 ≤ u ∧ u < 0); omega⟩
      rintro ⟨j, M10⟩ ⟨hj, f10, w10⟩ P4 hP4
      dsimp only at hj f10 w10 hP4 ⊢
      unfold w_X12_years_163b
      rw [rm_0, rm_35]
      refine ⟨⟨by omega, by omega⟩, fun hend2 => ?_, fun hgo => ⟨⟨by omega, by omega⟩, ⟨by omega, by omega⟩, ?_⟩⟩
      · have hj95 : j = 95 := by omega
        subst hj95
        have g10 : M10 204 = M 204 := funext fun u => by
          rw [w10]
          by_cases hu : 0 ≤ u ∧ u < 95
          · rw [if_pos hu]
          · rw [if_neg hu]; exact c3.2.2 u (by omega)
        have hrp' : rpn (M 204) (Y k).2.2.2 (Y k).2.2.1 r := by
          have r1 := hrp.gr gr3 one3
          rw [c3.1] at r1
          exact r1.congr c3.2.1
        have hnd' : ndn (M 204) (Y k).2.2.2 (Y k).2.2.1 z := by
          have r1 := hnd.gr gr3 one3
          rw [c3.1] at r1
          exact r1.congr c3.2.1
        have hkn' : n.toNat = k := by omega
        refine q r (some [z, (Y k).2.2.1, (Y k).2.1]) M10 (fun c x hc => ?_) (s9.eq (fun a a1 a2 => f10 a (by omega))) ?_ ⟨fun h => absurd hnn h, fun _ => ?_⟩
        · by_cases hc4 : c = 204
          · rw [hc4, g10]
          · rw [f10 c hc4]; exact m9 c x hc hc4
        · show rwsm M10 _
          have : rwsm M9 [z, (Y k).2.2.1, (Y k).2.1] := by rw [← c3.1]; exact r9
          unfold rwsm at this ⊢
          rw [f10 203 (by decide), f10 206 (by decide)]; exact this
        · rw [hYs, hkn']
          exact ⟨hrp', z, hnd', rfl⟩
      · rintro M11 rfl
        rw [show M10 226 j = M 204 j by rw [f10 226 (by decide)]; exact x9 j hj.1 (by omega)]
        refine hP4 (j + 1, _) ⟨⟨by show 0 ≤ j + 1; omega, by show j + 1 ≤ 95; omega⟩, fun a ha => (pu_row ha).trans (f10 a ha), fun u => ?_⟩ (by show (95 - (j + 1)).toNat < (95 - j).toNat; omega)
        show pj_up M10 204 j (M 204 j) 204 u = if 0 ≤ u ∧ u < j + 1 then _ else _
        by_cases e : u = j
        · subst e; rw [pu_eq, if_pos (by omega)]
        · rw [pu_nk e, w10 u]
          by_cases h : 0 ≤ u ∧ u < j
          · rw [if_pos h, if_pos (by omega)]
          · rw [if_neg h, if_neg (by omega)]
    · have hstep := YS k
      have mu : (n - ((k : Int) + 1)).toNat < (n - (k : Int)).toNat := by omega
      have nrow : ∀ M4 : pj_M, (∀ a x, ¬ (a = 203 ∧ x = 37) → M4 a x = M3 a x) → M4 204 = M3 204 := fun M4 h => funext fun x => h 204 x (by omega)
      have act : ∀ (M4 : pj_M) (kd p sg : Int), (∀ a x, ¬ (a = 203 ∧ x = 37) → M4 a x = M3 a x) → M4 203 37 = (Y (k + 1)).1 → (0 ≤ kd ∧ kd ≤ 2) → pj_in p → pj_in sg → (kd = 2 → sg = 0) → (Y (k + 1)).2.1 = (Y k).2.1 + (if 0 ≤ (lop kd p sg (Y k).2.2.1 (Y k).2.2.2).1 then 1 else 0) → (Y (k + 1)).2.2 = (lop kd p sg (Y k).2.2.1 (Y k).2.2.2).2 → w_X12_years_92 203 n (Y k).2.1 (k : Int) kd p sg (fun (x3 : Int) (x4 : Int) (M : pj_M) => P3 (x3, x4, M)) Q M4 := by
        intro M4 kd p sg f4 z4 hkd hp hsg h2 hd1 hd2
        have g4 := nrow M4 f4
        have v4 : dvl (M4 204) := by rw [g4]; exact v3
        obtain ⟨l1, l2, l3⟩ := lop_congr (k := kd) (p := p) (s := sg) (n := M4 204 73) (w := lw (M4 204)) (w' := (Y k).2.2.2) (by rw [g4, c3.1]; exact c3.2.1)
        have g73 : M4 204 73 = (Y k).2.2.1 := by rw [g4]; exact c3.1
        rw [g73] at l1 l2 l3
        unfold w_X12_years_92
        refine t_act v4 hkd hp hsg h2 (fun hneg => ⟨⟨by decide, by decide⟩, fun _ => ?_, fun h => absurd rfl h⟩) (fun hpos M5 a5 => ⟨⟨by decide, by decide⟩, fun h => absurd h (by decide), fun _ => ?_⟩)
        · rw [g73, l1] at hneg
          rw [if_neg (by omega)] at hd1
          have hlow := lop_neg0 hneg (fun x x1 x2 => by rw [← c3.2.1 x x1 x2]; exact (v3.2.2.2.1 x x1 (by rw [← c3.1] at x2; omega)).1) (by rw [← c3.1]; exact hn3.1)
          unfold w_X12_years_113
          refine hP3 ((Y k).2.1 + 0, (k : Int) + 1, M4) ⟨k + 1, by show (k : Int) + 1 = _; omega, by omega, by rw [hd1], by rw [hd1]; omega, fun a x a1 a2 => by show M4 a x = _; rw [f4 a x a2]; exact f3 a x a1 a2, z4, v4, ?_⟩ mu
          show chd (M 204) (M4 204) (Y (k + 1)).2.2.1 (Y (k + 1)).2.2.2
          rw [hd2, hlow.1, hlow.2, g4]
          exact c3
        · rw [g73, l1] at hpos
          rw [if_pos hpos] at hd1
          obtain ⟨a51, a52, a53⟩ := a5
          rw [g73] at a51
          unfold w_X12_years_113
          refine hP3 ((Y k).2.1 + 1, (k : Int) + 1, M5) ⟨k + 1, by show (k : Int) + 1 = _; omega, by omega, by rw [hd1], by rw [hd1]; omega, fun a x a1 a2 => by show M5 a x = _; rw [a53 a a1, f4 a x a2]; exact f3 a x a1 a2, by show M5 203 37 = _; rw [a53 203 (by decide)]; exact z4, a52, ?_⟩ mu
          show chd (M 204) (M5 204) (Y (k + 1)).2.2.1 (Y (k + 1)).2.2.2
          rw [hd2, ← l2]
          refine ⟨a51.1, fun x x1 x2 => (a51.2.1 x x1 x2).trans (l3 x x1 x2), fun x hx => (a51.2.2 x hx).trans ?_⟩
          rw [g4]; exact c3.2.2 x hx
      have hk3 := drm_b (drw (Y k).1) (show (0 : Int) < 3 by decide)
      have hp14 := drm_b (drw (drw (Y k).1)) (show (0 : Int) < 14 by decide)
      have hs8 := drm_b (drw (drw (drw (Y k).1))) (show (0 : Int) < 8 by decide)
      unfold w_X12_draw
      rw [z37]
      rintro M4 rfl
      refine ⟨⟨by decide, by decide⟩, by decide, ?_⟩
      rw [pu_eq]
      have q3 : pj_rem (pj_ushr ((Y k).1 * 1103515245 + 12345) 16) 3 = drm (drw (Y k).1) 3 := drm_rem (drw (Y k).1) (by decide)
      rw [q3]
      rintro M5 rfl
      refine ⟨⟨by decide, by decide⟩, by decide, ?_⟩
      rw [pu_eq, pu_eq]
      have q14 : pj_rem (pj_ushr (((Y k).1 * 1103515245 + 12345) * 1103515245 + 12345) 16) 14 = drm (drw (drw (Y k).1)) 14 := drm_rem (drw (drw (Y k).1)) (by decide)
      rw [q14]
      refine ⟨⟨by omega, by omega⟩, fun hne => ?_, fun he => ?_⟩
      · rintro M6 rfl
        refine ⟨⟨by decide, by decide⟩, by decide, ?_⟩
        rw [pu_eq, pu_eq]
        have q8 : pj_rem (pj_ushr ((((Y k).1 * 1103515245 + 12345) * 1103515245 + 12345) * 1103515245 + 12345) 16) 8 = drm (drw (drw (drw (Y k).1))) 8 := drm_rem (drw (drw (drw (Y k).1))) (by decide)
        rw [q8]
        unfold yr1 at hstep
        rw [if_neg hne] at hstep
        refine act _ _ _ _ (fun a x ha => by rw [pu_if, if_neg ha, pu_if, if_neg ha, pu_if, if_neg ha]) (by rw [pu_eq, hstep]; rfl) ⟨hk3.1, by omega⟩ ⟨by omega, by omega⟩ ⟨by omega, by omega⟩ (fun h => absurd h hne) (by rw [hstep]) (by rw [hstep])
      · unfold yr1 at hstep
        rw [if_pos he] at hstep
        rw [he]
        refine act _ _ _ _ (fun a x ha => by rw [pu_if, if_neg ha, pu_if, if_neg ha]) (by rw [pu_eq, hstep]; rfl) ⟨by decide, by decide⟩ ⟨by omega, by omega⟩ ⟨by decide, by decide⟩ (fun _ => rfl) (by rw [hstep]) (by rw [hstep])
  · rintro M3 rfl
    refine hP (d + 1, _) ⟨⟨by show 0 ≤ d + 1; omega, by show d + 1 ≤ 95; omega⟩, fun a ha => (pu_row ha).trans (f2 a ha), fun u u1 u2 => ?_⟩ (by show (95 - (d + 1)).toNat < (95 - d).toNat; omega)
    have u2' : u < d + 1 := u2
    show pj_up M2 226 d (M2 204 d) 226 u = _
    by_cases e : u = d
    · rw [e, pu_eq, f2 204 (by decide), r1 204 (by decide)]
    · rw [pu_nk e]; exact w2 u u1 (by omega)
end
