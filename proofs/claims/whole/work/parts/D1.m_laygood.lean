/-- the bits of the capitals that yield something lie where they should -/
def mgd (M : pj_M) : Prop := ∃ good : Nat, M 203 12 = (good : Int) ∧ md_ok (M 204) good
theorem mgd.eq {M M' : pj_M} (h : mgd M) (e4 : M' 204 = M 204) (e12 : M' 203 12 = M 203 12) : mgd M' := by
  obtain ⟨g, h1, h2⟩ := h
  exact ⟨g, e12.trans h1, by rw [e4]; exact h2⟩
theorem t_layTablesG {M : pj_M} {wl : Int} {Q : pj_M → Prop} (hsc : msc M) (v : vg (M 204)) (hwl : M 203 14 = wl) (hw1 : 0 ≤ wl ∧ wl ≤ 15) (q : ∀ M', eqp M M' → M' 209 = M 209 → mtabs M' wl → mgd M' → Q M') : w_X12_layTables 203 M Q := by
  unfold w_X12_layTables
  rw [rm_0, rm_15, rm_16, rm_17, rm_18]
  rintro M1 rfl
  have e1 : ∀ c : Nat, c ≠ 203 → pj_up M 203 11 ((204 : Nat) : Int) c = M c := fun c hc => funext fun x => pu_ne hc
  have s1 := hsc.up (k := 11) (v := ((204 : Nat) : Int))
  have v1 : vg (pj_up M 203 11 ((204 : Nat) : Int) 204) := by rw [e1 204 (by decide)]; exact v
  refine ⟨204, ⟨pu_eq, by decide⟩, ?_⟩
  refine t_layGood (b := 204) (by decide) (by decide) v1 (fun good hok => ?_)
  rw [e1 204 (by decide)] at hok
  generalize hM2 : pj_up (pj_up M 203 11 ((204 : Nat) : Int)) 203 12 (good : Int) = M2
  have e2 : ∀ c : Nat, c ≠ 203 → M2 c = M c := fun c hc => by rw [← hM2]; funext x; rw [pu_ne hc, pu_ne hc]
  have p2 : eqp M M2 := by rw [← hM2]; exact (eqp.up (by unfold mpk; omega)).tr (eqp.up (by unfold mpk; omega))
  have s2 : msc M2 := by rw [← hM2]; exact s1.up
  have w2 : M2 203 11 = ((204 : Nat) : Int) := by rw [← hM2, pu_nk (by decide), pu_eq]
  have g2 : M2 203 12 = (good : Int) := by rw [← hM2, pu_eq]
  have l2 : M2 203 14 = wl := by rw [← hM2, pu_nk (by decide), pu_nk (by decide)]; exact hwl
  have v2 : vg (M2 204) := by rw [e2 204 (by decide)]; exact v
  have hok2 : md_ok (M2 204) good := by rw [e2 204 (by decide)]; exact hok
  have mk : ∀ M3 : pj_M, msc M3 → M3 203 11 = ((204 : Nat) : Int) → vg (M3 204) → mt_ok M3 204 := fun M3 s w v => ⟨w, by decide, Or.inl rfl, fun k a c => v.2.2.1 k a c, fun k s a c d f => v.2.2.2 k s a c d f, s.1, s.2.1, s.2.2.1, s.2.2.2.1, s.2.2.2.2.2⟩
  have sc : ∀ (T : Nat) (M3 M4 : pj_M), (T = 210 ∨ T = 211 ∨ T = 212 ∨ T = 213) → msc M3 → eqt T M3 M4 → bz M4 T → bz M4 214 → msc M4 := by
    intro T M3 M4 hT s e b1 b2
    have bt : ∀ a, bz M3 a → a ≠ 214 → a ≠ 215 → bz M4 a := fun a ha n1 n2 => by
      by_cases e2 : a = T
      · subst e2; exact b1
      · exact fun x => by rw [e a x e2 n1 n2]; exact ha x
    exact ⟨bt _ s.1 (by decide) (by decide), bt _ s.2.1 (by decide) (by decide), bt _ s.2.2.1 (by decide) (by decide), bt _ s.2.2.2.1 (by decide) (by decide), b2, fun a => by rw [e 209 a (by omega) (by decide) (by decide)]; exact s.2.2.2.2.2 a⟩
  have k203 : ∀ (T : Nat) (M3 M4 : pj_M), (T = 210 ∨ T = 211 ∨ T = 212 ∨ T = 213) → eqt T M3 M4 → ∀ c : Nat, c = 203 ∨ c = 204 ∨ c = 209 → M4 c = M3 c := fun T M3 M4 hT e c hc => funext fun x => e c x (by omega) (by omega) (by omega)
  have kt : ∀ (T T' : Nat) (M3 M4 : pj_M), T' ≠ T → T' ≠ 214 → T' ≠ 215 → eqt T M3 M4 → ∀ c i j, mt_tb M4 T' c i j ↔ mt_tb M3 T' c i j := fun T T' M3 M4 h1 h2 h3 e c i j => by unfold mt_tb; rw [e T' _ h1 h2 h3]
  refine t_lay0 (mk M2 s2 w2 v2) s2.2.2.2.2.1 v2 g2 hok2 l2 hw1 (fun M3 e3 b3 c3 x3 => ?_)
  have s3 := sc 210 M2 M3 (Or.inl rfl) s2 e3 b3 c3
  have k3 := k203 210 M2 M3 (Or.inl rfl) e3
  refine t_lay1 (M := M3) (good := good) (mk M3 s3 (by rw [k3 203 (by decide)]; exact w2) (by rw [k3 204 (by decide)]; exact v2)) s3.2.2.2.2.1 (by rw [k3 204 (by decide)]; exact v2) (by rw [k3 203 (by decide)]; exact g2) (by rw [k3 204 (by decide)]; exact hok2) (by rw [k3 203 (by decide)]; exact l2) hw1 (fun c i j h1 h2 h3 h4 => by rw [k3 204 (by decide)]; unfold mt_w; rw [k3 209 (by decide)]; exact x3 c i j h1 h2 h3 h4) (fun M4 e4 b4 c4 x4 => ?_)
  have s4 := sc 211 M3 M4 (Or.inr (Or.inl rfl)) s3 e4 b4 c4
  have k4 : ∀ c : Nat, c = 203 ∨ c = 204 ∨ c = 209 → M4 c = M2 c := fun c hc => (k203 211 M3 M4 (Or.inr (Or.inl rfl)) e4 c hc).trans (k3 c hc)
  have y4 : ∀ c i j, c < 6 → 0 ≤ i → i ≤ j → j ≤ wl → (mt_tb M4 210 c i j ↔ gr_y (gr_of (M4 204)) 8 c (mt_w M4 i j)) := fun c i j h1 h2 h3 h4 => by rw [kt 211 210 M3 M4 (by decide) (by decide) (by decide) e4, k4 204 (by decide)]; unfold mt_w; rw [k4 209 (by decide)]; exact x3 c i j h1 h2 h3 h4
  refine t_lay2 (M := M4) (good := good) (mk M4 s4 (by rw [k4 203 (by decide)]; exact w2) (by rw [k4 204 (by decide)]; exact v2)) s4.2.2.2.2.1 (by rw [k4 204 (by decide)]; exact v2) (by rw [k4 203 (by decide)]; exact g2) (by rw [k4 204 (by decide)]; exact hok2) (by rw [k4 203 (by decide)]; exact l2) hw1 y4 (fun M5 e5 b5 c5 x5 => ?_)
  have s5 := sc 212 M4 M5 (Or.inr (Or.inr (Or.inl rfl))) s4 e5 b5 c5
  have k5 : ∀ c : Nat, c = 203 ∨ c = 204 ∨ c = 209 → M5 c = M4 c := fun c hc => k203 212 M4 M5 (Or.inr (Or.inr (Or.inl rfl))) e5 c hc
  have k52 : ∀ c : Nat, c = 203 ∨ c = 204 ∨ c = 209 → M5 c = M2 c := fun c hc => (k5 c hc).trans (k4 c hc)
  have y5 : ∀ c i j, c < 6 → 0 ≤ i → i ≤ j → j ≤ wl → (mt_tb M5 210 c i j ↔ gr_y (gr_of (M5 204)) 8 c (mt_w M5 i j)) := fun c i j h1 h2 h3 h4 => by rw [kt 212 210 M4 M5 (by decide) (by decide) (by decide) e5, k5 204 (by decide)]; unfold mt_w; rw [k5 209 (by decide)]; exact y4 c i j h1 h2 h3 h4
  have z4 : ∀ c i j, c < 6 → 0 ≤ i → i ≤ j → j ≤ wl → (mt_tb M5 211 c i j ↔ gr_pf (gr_of (M5 204)) 8 c (mt_w M5 i j)) := fun c i j h1 h2 h3 h4 => by
    rw [kt 212 211 M4 M5 (by decide) (by decide) (by decide) e5, k52 204 (by decide)]; unfold mt_w; rw [k52 209 (by decide)]
    have := x4 c i j h1 h2 h3 h4
    rw [k3 204 (by decide)] at this; unfold mt_w at this; rw [k3 209 (by decide)] at this; exact this
  have z5 : ∀ c i j, c < 6 → 0 ≤ i → i ≤ j → j ≤ wl → (mt_tb M5 212 c i j ↔ gr_sf (gr_of (M5 204)) 8 c (mt_w M5 i j)) := fun c i j h1 h2 h3 h4 => by
    rw [k5 204 (by decide)]; unfold mt_w; rw [k5 209 (by decide)]
    exact x5 c i j h1 h2 h3 h4
  refine t_lay3 (M := M5) (good := good) (mk M5 s5 (by rw [k52 203 (by decide)]; exact w2) (by rw [k52 204 (by decide)]; exact v2)) s5.2.2.2.2.1 (by rw [k52 204 (by decide)]; exact v2) (by rw [k52 203 (by decide)]; exact g2) (by rw [k52 204 (by decide)]; exact hok2) (by rw [k52 203 (by decide)]; exact l2) hw1 y5 z4 z5 (fun M6 e6 b6 c6 x6 => ?_)
  have s6 := sc 213 M5 M6 (Or.inr (Or.inr (Or.inr rfl))) s5 e6 b6 c6
  have k6 : ∀ c : Nat, c = 203 ∨ c = 204 ∨ c = 209 → M6 c = M5 c := fun c hc => k203 213 M5 M6 (Or.inr (Or.inr (Or.inr rfl))) e6 c hc
  have k62 : ∀ c : Nat, c = 203 ∨ c = 204 ∨ c = 209 → M6 c = M2 c := fun c hc => (k6 c hc).trans (k52 c hc)
  refine q M6 ((((p2.tr (eqp.t (Or.inl rfl) e3)).tr (eqp.t (Or.inr (Or.inl rfl)) e4)).tr (eqp.t (Or.inr (Or.inr (Or.inl rfl))) e5)).tr (eqp.t (Or.inr (Or.inr (Or.inr rfl))) e6)) (by rw [k62 209 (by decide), e2 209 (by decide)]) ⟨by rw [k62 203 (by decide)]; exact w2, by rw [k62 203 (by decide)]; exact l2, hw1, by rw [k62 204 (by decide)]; exact v2, s6, fun c i j h1 h2 h3 h4 => ?_⟩ ⟨good, by rw [k62 203 (by decide)]; exact g2, by rw [k62 204 (by decide)]; exact hok2⟩
  rw [k6 204 (by decide)]; unfold mt_w; rw [k6 209 (by decide)]
  refine ⟨?_, ?_, ?_, x6 c i j h1 h2 h3 h4⟩
  · rw [kt 213 210 M5 M6 (by decide) (by decide) (by decide) e6]; exact y5 c i j h1 h2 h3 h4
  · rw [kt 213 211 M5 M6 (by decide) (by decide) (by decide) e6]; exact z4 c i j h1 h2 h3 h4
  · rw [kt 213 212 M5 M6 (by decide) (by decide) (by decide) e6]; exact z5 c i j h1 h2 h3 h4
theorem t_layTG {M : pj_M} {wl : Int} {w : Int → Int} {Q : pj_M → Prop} (s : msc M) (v : dvl (M 204)) (h14 : M 203 14 = wl) (hwl : 0 ≤ wl ∧ wl ≤ 15) (hw : leq wl (M 209) w) (q : ∀ M', eqp M M' → M' 209 = M 209 → mft M' wl (pfit (gr_of (M 204)) (M 204 1).toNat w wl) → mgd M' → Q M') : w_X12_layTables 203 M Q := by
  refine t_layTablesG s v.1 h14 hwl (fun M' e e9 mt mg => q M' e e9 ⟨mt, pfit_mn v.2.1, fun i j i1 i2 i3 => ?_⟩ mg)
  rw [e.at (show (204 : Nat) < 203 ∨ 204 = 204 ∨ _ by omega), e9, mf_fr v.2.1 hwl.1 (fun p _ _ => s.2.2.2.2.2 p) i1 i2 i3]
  exact pfit_congr (gr_eq.rf _) hw i1 i3
theorem t_layAllG {M : pj_M} {Q : pj_M → Prop} (s : msc M) (v : dvl (M 204)) (q : ∀ M', eqp M M' → mft M' (M 204 73) (FD (M 204)) → leq (M 204 73) (M' 209) (lw (M 204)) → mgd M' → Q M') : w_X12_layAll 203 (M 204 73) M Q := by
  have hn := v.2.2.1
  unfold w_X12_layAll
  rw [rm_0]
  refine t_layWord s (by decide) (by decide) hn (by show 74 + M 204 73 ≤ ((pj_sh 204).2 : Int); rw [show (pj_sh 204).2 = 95 by decide]; omega) (fun p p1 p2 => v.2.2.2.1 p p1 (by omega)) (fun M1 e1 r1 s1 n1 _ w1 => ?_)
  have e204 : M1 204 = M 204 := r1 204 (by decide) (by decide)
  refine t_layTG (w := lw (M 204)) s1 (by rw [e204]; exact v) n1 ⟨by omega, by omega⟩ w1 (fun M2 e2 e9 f2 mg => ?_)
  rw [e204] at f2
  exact q M2 (e1.tr e2) f2 (by rw [e9]; exact w1) mg
