theorem t_max {M : pj_M} {a b : Int} {Q : Int → pj_M → Prop} (ha : pj_in a) (hb : pj_in b) (q : ∀ r, (r = a ∨ r = b) → a ≤ r → b ≤ r → Q r M) : w_Jmax a b M Q :=
  ⟨ha, hb, fun h => q b (Or.inr rfl) (by omega) (by omega), fun h => q a (Or.inl rfl) (by omega) (by omega)⟩
theorem t_min {M : pj_M} {a b : Int} {Q : Int → pj_M → Prop} (ha : pj_in a) (hb : pj_in b) (q : ∀ r, (r = a ∨ r = b) → r ≤ a → r ≤ b → Q r M) : w_Jmin a b M Q :=
  ⟨ha, hb, fun h => q b (Or.inr rfl) (by omega) (by omega), fun h => q a (Or.inl rfl) (by omega) (by omega)⟩
/-- scratch rows of the model are sane -/
def msc (M : pj_M) : Prop := bz M 210 ∧ bz M 211 ∧ bz M 212 ∧ bz M 213 ∧ bz M 214 ∧ ∀ a, 0 ≤ M 209 a ∧ M 209 a ≤ 7
/-- what lasts: all of the class, and of the model what is no scratch -/
def mpk (c : Nat) (x : Int) : Prop := c < 203 ∨ c = 204 ∨ c = 205 ∨ c = 206 ∨ c = 222 ∨ c = 223 ∨ c = 225 ∨ 227 < c ∨ (c = 203 ∧ (x = 2 ∨ x = 4 ∨ x = 34))
def eqp (M M' : pj_M) : Prop := ∀ c x, mpk c x → M' c x = M c x
theorem eqp.rf {M : pj_M} : eqp M M := fun _ _ _ => rfl
theorem eqp.tr {M M1 M2 : pj_M} (h : eqp M M1) (h2 : eqp M1 M2) : eqp M M2 := fun c x h3 => (h2 c x h3).trans (h c x h3)
theorem eqp.up {M : pj_M} {a : Nat} {k v : Int} (h : ¬ mpk a k) : eqp M (pj_up M a k v) := fun c x hc => by
  rw [pu_if, if_neg]
  rintro ⟨rfl, rfl⟩
  exact h hc
theorem eqp.x {M M' : pj_M} (h : eqx M M') : eqp M M' := fun c x hc => h c x (fun e => by subst e; revert hc; unfold mpk; omega) (fun e => by subst e; revert hc; unfold mpk; omega)
theorem eqp.t {T : Nat} {M M' : pj_M} (hT : T = 210 ∨ T = 211 ∨ T = 212 ∨ T = 213) (h : eqt T M M') : eqp M M' := fun c x hc => h c x (fun e => by subst e; revert hc; unfold mpk; omega) (fun e => by subst e; revert hc; unfold mpk; omega) (fun e => by subst e; revert hc; unfold mpk; omega)
theorem eqp.at {M M' : pj_M} (h : eqp M M') {c : Nat} (hc : c < 203 ∨ c = 204 ∨ c = 205 ∨ c = 206 ∨ c = 222 ∨ c = 223 ∨ c = 225 ∨ 227 < c) : M' c = M c := funext fun x => h c x (by unfold mpk; omega)
theorem msc.up {M : pj_M} {k v : Int} (h : msc M) : msc (pj_up M 203 k v) := by
  obtain ⟨h0, h1, h2, h3, h4, h5⟩ := h
  have e : ∀ c : Nat, c ≠ 203 → pj_up M 203 k v c = M c := fun c hc => funext fun x => pu_ne hc
  unfold msc bz
  rw [e 210 (by decide), e 211 (by decide), e 212 (by decide), e 213 (by decide), e 214 (by decide), e 209 (by decide)]
  exact ⟨h0, h1, h2, h3, h4, h5⟩
/-- the tables tell the truth of the word that is laid -/
def mtabs (M : pj_M) (wl : Int) : Prop := M 203 11 = 204 ∧ M 203 14 = wl ∧ (0 ≤ wl ∧ wl ≤ 15) ∧ vg (M 204) ∧ msc M ∧ ∀ c i j, c < 6 → 0 ≤ i → i ≤ j → j ≤ wl → (mt_tb M 210 c i j ↔ gr_y (gr_of (M 204)) 8 c (mt_w M i j)) ∧ (mt_tb M 211 c i j ↔ gr_pf (gr_of (M 204)) 8 c (mt_w M i j)) ∧ (mt_tb M 212 c i j ↔ gr_sf (gr_of (M 204)) 8 c (mt_w M i j)) ∧ (mt_tb M 213 c i j ↔ gr_if (gr_of (M 204)) 8 c (mt_w M i j))
theorem t_layTables {M : pj_M} {wl : Int} {Q : pj_M → Prop} (hsc : msc M) (v : vg (M 204)) (hwl : M 203 14 = wl) (hw1 : 0 ≤ wl ∧ wl ≤ 15) (q : ∀ M', eqp M M' → M' 209 = M 209 → mtabs M' wl → Q M') : w_X12_layTables 203 M Q := by
  unfold w_X12_layTables
  rw [rm_0, rm_15, rm_16, rm_17, rm_18]
  rintro M1 rfl
  have e1 : ∀ c : Nat, c ≠ 203 → pj_up M 203 11 ((204 : Nat) : Int) c = M c := fun c hc => funext fun x => pu_ne hc
  have s1 := hsc.up (k := 11) (v := ((204 : Nat) : Int))
  have v1 : vg (pj_up M 203 11 ((204 : Nat) : Int) 204) := by rw [e1 204 (by decide)]; exact v
  refine ⟨204, ⟨pu_eq, by decide⟩, ?_⟩
  refine t_layGood (b := 204) (by decide) (by decide) v1 (fun good hok => ?_)
  rw [e1 204 (by decide)] at hok
  generalize hM2 : pj_up (pj_up M 203 11 ((204 : Nat) : Int)) 203 12 (good : Int) = M2
  have e2 : ∀ c : Nat, c ≠ 203 → M2 c = M c := fun c hc => by rw [← hM2]; funext x; rw [pu_ne hc, pu_ne hc]
  have p2 : eqp M M2 := by rw [← hM2]; exact (eqp.up (by unfold mpk; omega)).tr (eqp.up (by unfold mpk; omega))
  have s2 : msc M2 := by rw [← hM2]; exact s1.up
  have w2 : M2 203 11 = ((204 : Nat) : Int) := by rw [← hM2, pu_nk (by decide), pu_eq]
  have g2 : M2 203 12 = (good : Int) := by rw [← hM2, pu_eq]
  have l2 : M2 203 14 = wl := by rw [← hM2, pu_nk (by decide), pu_nk (by decide)]; exact hwl
  have v2 : vg (M2 204) := by rw [e2 204 (by decide)]; exact v
  have hok2 : md_ok (M2 204) good := by rw [e2 204 (by decide)]; exact hok
  have mk : ∀ M3 : pj_M, msc M3 → M3 203 11 = ((204 : Nat) : Int) → vg (M3 204) → mt_ok M3 204 := fun M3 s w v => ⟨w, by decide, Or.inl rfl, fun k a c => v.2.2.1 k a c, fun k s a c d f => v.2.2.2 k s a c d f, s.1, s.2.1, s.2.2.1, s.2.2.2.1, s.2.2.2.2.2⟩
  have sc : ∀ (T : Nat) (M3 M4 : pj_M), (T = 210 ∨ T = 211 ∨ T = 212 ∨ T = 213) → msc M3 → eqt T M3 M4 → bz M4 T → bz M4 214 → msc M4 := by
    intro T M3 M4 hT s e b1 b2
    have bt : ∀ a, bz M3 a → a ≠ 214 → a ≠ 215 → bz M4 a := fun a ha n1 n2 => by
      by_cases e2 : a = T
      · subst e2; exact b1
      · exact fun x => by rw [e a x e2 n1 n2]; exact ha x
    exact ⟨bt _ s.1 (by decide) (by decide), bt _ s.2.1 (by decide) (by decide), bt _ s.2.2.1 (by decide) (by decide), bt _ s.2.2.2.1 (by decide) (by decide), b2, fun a => by rw [e 209 a (by omega) (by decide) (by decide)]; exact s.2.2.2.2.2 a⟩
  have k203 : ∀ (T : Nat) (M3 M4 : pj_M), (T = 210 ∨ T = 211 ∨ T = 212 ∨ T = 213) → eqt T M3 M4 → ∀ c : Nat, c = 203 ∨ c = 204 ∨ c = 209 → M4 c = M3 c := fun T M3 M4 hT e c hc => funext fun x => e c x (by omega) (by omega) (by omega)
  have kt : ∀ (T T' : Nat) (M3 M4 : pj_M), T' ≠ T → T' ≠ 214 → T' ≠ 215 → eqt T M3 M4 → ∀ c i j, mt_tb M4 T' c i j ↔ mt_tb M3 T' c i j := fun T T' M3 M4 h1 h2 h3 e c i j => by unfold mt_tb; rw [e T' _ h1 h2 h3]
  refine t_lay0 (mk M2 s2 w2 v2) s2.2.2.2.2.1 v2 g2 hok2 l2 hw1 (fun M3 e3 b3 c3 x3 => ?_)
  have s3 := sc 210 M2 M3 (Or.inl rfl) s2 e3 b3 c3
  have k3 := k203 210 M2 M3 (Or.inl rfl) e3
  refine t_lay1 (M := M3) (good := good) (mk M3 s3 (by rw [k3 203 (by decide)]; exact w2) (by rw [k3 204 (by decide)]; exact v2)) s3.2.2.2.2.1 (by rw [k3 204 (by decide)]; exact v2) (by rw [k3 203 (by decide)]; exact g2) (by rw [k3 204 (by decide)]; exact hok2) (by rw [k3 203 (by decide)]; exact l2) hw1 (fun c i j h1 h2 h3 h4 => by rw [k3 204 (by decide)]; unfold mt_w; rw [k3 209 (by decide)]; exact x3 c i j h1 h2 h3 h4) (fun M4 e4 b4 c4 x4 => ?_)
  have s4 := sc 211 M3 M4 (Or.inr (Or.inl rfl)) s3 e4 b4 c4
  have k4 : ∀ c : Nat, c = 203 ∨ c = 204 ∨ c = 209 → M4 c = M2 c := fun c hc => (k203 211 M3 M4 (Or.inr (Or.inl rfl)) e4 c hc).trans (k3 c hc)
  have y4 : ∀ c i j, c < 6 → 0 ≤ i → i ≤ j → j ≤ wl → (mt_tb M4 210 c i j ↔ gr_y (gr_of (M4 204)) 8 c (mt_w M4 i j)) := fun c i j h1 h2 h3 h4 => by rw [kt 211 210 M3 M4 (by decide) (by decide) (by decide) e4, k4 204 (by decide)]; unfold mt_w; rw [k4 209 (by decide)]; exact x3 c i j h1 h2 h3 h4
  refine t_lay2 (M := M4) (good := good) (mk M4 s4 (by rw [k4 203 (by decide)]; exact w2) (by rw [k4 204 (by decide)]; exact v2)) s4.2.2.2.2.1 (by rw [k4 204 (by decide)]; exact v2) (by rw [k4 203 (by decide)]; exact g2) (by rw [k4 204 (by decide)]; exact hok2) (by rw [k4 203 (by decide)]; exact l2) hw1 y4 (fun M5 e5 b5 c5 x5 => ?_)
  have s5 := sc 212 M4 M5 (Or.inr (Or.inr (Or.inl rfl))) s4 e5 b5 c5
  have k5 : ∀ c : Nat, c = 203 ∨ c = 204 ∨ c = 209 → M5 c = M4 c := fun c hc => k203 212 M4 M5 (Or.inr (Or.inr (Or.inl rfl))) e5 c hc
  have k52 : ∀ c : Nat, c = 203 ∨ c = 204 ∨ c = 209 → M5 c = M2 c := fun c hc => (k5 c hc).trans (k4 c hc)
  have y5 : ∀ c i j, c < 6 → 0 ≤ i → i ≤ j → j ≤ wl → (mt_tb M5 210 c i j ↔ gr_y (gr_of (M5 204)) 8 c (mt_w M5 i j)) := fun c i j h1 h2 h3 h4 => by rw [kt 212 210 M4 M5 (by decide) (by decide) (by decide) e5, k5 204 (by decide)]; unfold mt_w; rw [k5 209 (by decide)]; exact y4 c i j h1 h2 h3 h4
  have z4 : ∀ c i j, c < 6 → 0 ≤ i → i ≤ j → j ≤ wl → (mt_tb M5 211 c i j ↔ gr_pf (gr_of (M5 204)) 8 c (mt_w M5 i j)) := fun c i j h1 h2 h3 h4 => by
    rw [kt 212 211 M4 M5 (by decide) (by decide) (by decide) e5, k52 204 (by decide)]; unfold mt_w; rw [k52 209 (by decide)]
    have := x4 c i j h1 h2 h3 h4
    rw [k3 204 (by decide)] at this; unfold mt_w at this; rw [k3 209 (by decide)] at this; exact this
  have z5 : ∀ c i j, c < 6 → 0 ≤ i → i ≤ j → j ≤ wl → (mt_tb M5 212 c i j ↔ gr_sf (gr_of (M5 204)) 8 c (mt_w M5 i j)) := fun c i j h1 h2 h3 h4 => by
    rw [k5 204 (by decide)]; unfold mt_w; rw [k5 209 (by decide)]
    exact x5 c i j h1 h2 h3 h4
  refine t_lay3 (M := M5) (good := good) (mk M5 s5 (by rw [k52 203 (by decide)]; exact w2) (by rw [k52 204 (by decide)]; exact v2)) s5.2.2.2.2.1 (by rw [k52 204 (by decide)]; exact v2) (by rw [k52 203 (by decide)]; exact g2) (by rw [k52 204 (by decide)]; exact hok2) (by rw [k52 203 (by decide)]; exact l2) hw1 y5 z4 z5 (fun M6 e6 b6 c6 x6 => ?_)
  have s6 := sc 213 M5 M6 (Or.inr (Or.inr (Or.inr rfl))) s5 e6 b6 c6
  have k6 : ∀ c : Nat, c = 203 ∨ c = 204 ∨ c = 209 → M6 c = M5 c := fun c hc => k203 213 M5 M6 (Or.inr (Or.inr (Or.inr rfl))) e6 c hc
  have k62 : ∀ c : Nat, c = 203 ∨ c = 204 ∨ c = 209 → M6 c = M2 c := fun c hc => (k6 c hc).trans (k52 c hc)
  refine q M6 ((((p2.tr (eqp.t (Or.inl rfl) e3)).tr (eqp.t (Or.inr (Or.inl rfl)) e4)).tr (eqp.t (Or.inr (Or.inr (Or.inl rfl))) e5)).tr (eqp.t (Or.inr (Or.inr (Or.inr rfl))) e6)) (by rw [k62 209 (by decide), e2 209 (by decide)]) ⟨by rw [k62 203 (by decide)]; exact w2, by rw [k62 203 (by decide)]; exact l2, hw1, by rw [k62 204 (by decide)]; exact v2, s6, fun c i j h1 h2 h3 h4 => ?_⟩
  rw [k6 204 (by decide)]; unfold mt_w; rw [k6 209 (by decide)]
  refine ⟨?_, ?_, ?_, x6 c i j h1 h2 h3 h4⟩
  · rw [kt 213 210 M5 M6 (by decide) (by decide) (by decide) e6]; exact y5 c i j h1 h2 h3 h4
  · rw [kt 213 211 M5 M6 (by decide) (by decide) (by decide) e6]; exact z4 c i j h1 h2 h3 h4
  · rw [kt 213 212 M5 M6 (by decide) (by decide) (by decide) e6]; exact z5 c i j h1 h2 h3 h4
/-- a piece fits, as the model asks it; W: the word -/
def mf (G : gr_G) (st : Nat) (w : Int → Int) (wl i j : Int) : Prop := i = j ∨ (i ≠ j ∧ ((i = 0 ∧ j = wl + 2 ∧ gr_y G 8 st (sg w 0 wl)) ∨ (i = 0 ∧ j ≠ wl + 2 ∧ gr_pf G 8 st (sg w 0 (j - 1))) ∨ (i ≠ 0 ∧ j = wl + 2 ∧ gr_sf G 8 st (sg w (i - 1) wl)) ∨ (i ≠ 0 ∧ j ≠ wl + 2 ∧ gr_if G 8 st (sg w (i - 1) (j - 1)))))
theorem t_isFit {M : pj_M} {wl i j : Int} {Q : Int → pj_M → Prop} (h : mtabs M wl) (hi : 0 ≤ i) (hij : i ≤ j) (hj : j ≤ wl + 2) (q : ∀ r, (r = 0 ∨ r = 1) → (r = 1 ↔ mf (gr_of (M 204)) (M 204 1).toNat (M 209) wl i j) → Q r M) : w_X12_isFit 203 i j M Q := by
  obtain ⟨h11, h14, hw, v, s, hx⟩ := h
  have hst := v.2.1 0 (by decide) (by decide)
  rw [show (1 : Int) + 6 * 0 = 1 by decide] at hst
  unfold w_X12_isFit
  refine ⟨⟨by omega, by omega⟩, ⟨by omega, by omega⟩, fun hne => ?_, fun he => q 1 (Or.inr rfl) ⟨fun _ => Or.inl he, fun _ => rfl⟩⟩
  refine t_max ⟨by decide, by decide⟩ ⟨by omega, by omega⟩ (fun a a0 a1 a2 => ?_)
  rw [h14]
  refine t_min ⟨by omega, by omega⟩ ⟨by omega, by omega⟩ (fun c c0 c1 c2 => ?_)
  refine ⟨204, ⟨h11, by decide⟩, ?_⟩
  simp only [w_X12_alt, w_X12_cell, rm_15, rm_16, rm_17, rm_18, show (1 : Int) + 6 * 0 = 1 by decide, h14]
  have ha : 0 ≤ a ∧ a ≤ c ∧ c ≤ wl := by omega
  obtain ⟨hy, hp, hs, hf⟩ := hx (M 204 1).toNat a c (by omega) ha.1 ha.2.1 ha.2.2
  have ec : (((M 204 1).toNat : Nat) : Int) = M 204 1 := by omega
  unfold mt_tb at hy hp hs hf
  rw [ec] at hy hp hs hf
  have eh : 16 * (16 * M 204 1) = 16 * (16 * M 204 1) := rfl
  refine ⟨⟨by omega, by omega⟩, ⟨by omega, by omega⟩, fun h0 => ⟨⟨by omega, by omega⟩, ⟨by omega, by omega⟩, fun hn => ⟨⟨by omega, by omega⟩, s.2.2.2.1 _, q _ (s.2.2.2.1 _) ?_⟩, fun hn => ⟨⟨by omega, by omega⟩, s.2.2.1 _, q _ (s.2.2.1 _) ?_⟩⟩, fun h0 => ⟨⟨by omega, by omega⟩, ⟨by omega, by omega⟩, fun hn => ⟨⟨by omega, by omega⟩, s.2.1 _, q _ (s.2.1 _) ?_⟩, fun hn => ⟨⟨by omega, by omega⟩, s.1 _, q _ (s.1 _) ?_⟩⟩⟩
  · rw [hf, show a = i - 1 by omega, show c = j - 1 by omega]
    constructor
    · exact fun h => Or.inr ⟨hne, Or.inr (Or.inr (Or.inr ⟨h0, hn, h⟩))⟩
    · rintro (h | ⟨-, h | h | h | h⟩)
      · exact absurd h hne
      · exact absurd h.1 h0
      · exact absurd h.1 h0
      · exact absurd h.2.1 hn
      · exact h.2.2
  · rw [hs, show a = i - 1 by omega, show c = wl by omega]
    constructor
    · exact fun h => Or.inr ⟨hne, Or.inr (Or.inr (Or.inl ⟨h0, hn, h⟩))⟩
    · rintro (h | ⟨-, h | h | h | h⟩)
      · exact absurd h hne
      · exact absurd h.1 h0
      · exact absurd h.1 h0
      · exact h.2.2
      · exact absurd hn h.2.1
  · rw [hp, show a = 0 by omega, show c = j - 1 by omega]
    constructor
    · exact fun h => Or.inr ⟨hne, Or.inr (Or.inl ⟨h0, hn, h⟩)⟩
    · rintro (h | ⟨-, h | h | h | h⟩)
      · exact absurd h hne
      · exact absurd h.2.1 hn
      · exact h.2.2
      · exact absurd h0 h.1
      · exact absurd h0 h.1
  · rw [hy, show a = 0 by omega, show c = wl by omega]
    constructor
    · exact fun h => Or.inr ⟨hne, Or.inl ⟨h0, hn, h⟩⟩
    · rintro (h | ⟨-, h | h | h | h⟩)
      · exact absurd h hne
      · exact h.2.2
      · exact absurd hn h.2.1
      · exact absurd h0 h.1
      · exact absurd h0 h.1
