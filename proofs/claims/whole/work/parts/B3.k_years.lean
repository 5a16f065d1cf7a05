/-- a seed draws changes: the line, and how many were done -/
def drw (x : Int) : Int := x * 1103515245 + 12345
def drm (x m : Int) : Int := pj_ushr x 16 % m
def yr1 (y : Int × Int × Int × (Int → Int)) : Int × Int × Int × (Int → Int) :=
  if drm (drw y.1) 3 = 2 then
    (drw (drw y.1), y.2.1 + (if 0 ≤ (lop 2 (drm (drw (drw y.1)) 14 + 1) 0 y.2.2.1 y.2.2.2).1 then 1 else 0), (lop 2 (drm (drw (drw y.1)) 14 + 1) 0 y.2.2.1 y.2.2.2).2)
  else
    (drw (drw (drw y.1)), y.2.1 + (if 0 ≤ (lop (drm (drw y.1) 3) (drm (drw (drw y.1)) 14 + 1) (drm (drw (drw (drw y.1))) 8) y.2.2.1 y.2.2.2).1 then 1 else 0), (lop (drm (drw y.1) 3) (drm (drw (drw y.1)) 14 + 1) (drm (drw (drw (drw y.1))) 8) y.2.2.1 y.2.2.2).2)
def yrs (seed n : Int) (w : Int → Int) : Nat → Int × Int × Int × (Int → Int)
  | 0 => (seed, 0, n, w)
  | k + 1 => yr1 (yrs seed n w k)
theorem drm_b (x : Int) {m : Int} (hm : 0 < m) : 0 ≤ drm x m ∧ drm x m < m := ⟨Int.emod_nonneg _ (by omega), Int.emod_lt_of_pos _ hm⟩
theorem drm_rem (x : Int) {m : Int} (hm : 0 < m ∧ m ≤ 100) : pj_rem (pj_ushr x 16) m = drm x m := by
  have h := us16 x
  rw [pd_rem ⟨h.1, by omega⟩ ⟨hm.1, by omega⟩]; rfl
theorem yr1_congr {a b n : Int} {w w' : Int → Int} (h : leq n w w') : (yr1 (a, b, n, w)).1 = (yr1 (a, b, n, w')).1 ∧ (yr1 (a, b, n, w)).2.1 = (yr1 (a, b, n, w')).2.1 ∧ (yr1 (a, b, n, w)).2.2.1 = (yr1 (a, b, n, w')).2.2.1 ∧ leq (yr1 (a, b, n, w)).2.2.1 (yr1 (a, b, n, w)).2.2.2 (yr1 (a, b, n, w')).2.2.2 := by
  unfold yr1
  dsimp only
  by_cases e : drm (drw a) 3 = 2
  · rw [if_pos e, if_pos e]
    obtain ⟨g1, g2, g3⟩ := lop_congr (k := 2) (p := drm (drw (drw a)) 14 + 1) (s := 0) h
    exact ⟨rfl, by rw [g1], g2, g3⟩
  · rw [if_neg e, if_neg e]
    obtain ⟨g1, g2, g3⟩ := lop_congr (k := drm (drw a) 3) (p := drm (drw (drw a)) 14 + 1) (s := drm (drw (drw (drw a))) 8) h
    exact ⟨rfl, by rw [g1], g2, g3⟩
theorem yrs_congr {seed n : Int} {w w' : Int → Int} (h : leq n w w') : ∀ k : Nat, (yrs seed n w k).1 = (yrs seed n w' k).1 ∧ (yrs seed n w k).2.1 = (yrs seed n w' k).2.1 ∧ (yrs seed n w k).2.2.1 = (yrs seed n w' k).2.2.1 ∧ leq (yrs seed n w k).2.2.1 (yrs seed n w k).2.2.2 (yrs seed n w' k).2.2.2
  | 0 => ⟨rfl, rfl, rfl, h⟩
  | k + 1 => by
    obtain ⟨h1, h2, h3, h4⟩ := yrs_congr (seed := seed) h k
    show (yr1 (yrs seed n w k)).1 = (yr1 (yrs seed n w' k)).1 ∧ _
    have e1 : yrs seed n w k = ((yrs seed n w' k).1, (yrs seed n w' k).2.1, (yrs seed n w' k).2.2.1, (yrs seed n w k).2.2.2) := by rw [← h1, ← h2, ← h3]
    have e2 : yrs seed n w' k = ((yrs seed n w' k).1, (yrs seed n w' k).2.1, (yrs seed n w' k).2.2.1, (yrs seed n w' k).2.2.2) := rfl
    have := yr1_congr (a := (yrs seed n w' k).1) (b := (yrs seed n w' k).2.1) (n := (yrs seed n w' k).2.2.1) (w := (yrs seed n w k).2.2.2) (w' := (yrs seed n w' k).2.2.2) (by rw [← h3]; exact h4)
    rw [← e1, ← e2] at this
    exact this
theorem t_live {M : pj_M} {l : Nat} {seed n : Int} {Q : Int → pj_M → Prop} (hl : lcell l) (vl : lvl M l) (hn : 1 ≤ n ∧ n ≤ 20) (q : ∀ M', eql l M M' → lvl M' l → M' l 1 = (yrs seed (M l 1) (M (l + 1)) n.toNat).2.2.1 → leq (M' l 1) (M' (l + 1)) (yrs seed (M l 1) (M (l + 1)) n.toNat).2.2.2 → (0 ≤ (yrs seed (M l 1) (M (l + 1)) n.toNat).2.1 ∧ (yrs seed (M l 1) (M (l + 1)) n.toNat).2.1 ≤ n) → Q (yrs seed (M l 1) (M (l + 1)) n.toNat).2.1 M') : w_X7_live l seed n M Q := by
  unfold w_X7_live w_X7_live_8
  refine pj_lp_inv (fun y : Int × Int × Int × pj_M => ∃ k : Nat, y.2.2.1 = (k : Int) ∧ (k : Int) ≤ n ∧ eql l M y.2.2.2 ∧ lvl y.2.2.2 l ∧ y.1 = (yrs seed (M l 1) (M (l + 1)) k).1 ∧ y.2.1 = (yrs seed (M l 1) (M (l + 1)) k).2.1 ∧ (0 ≤ y.2.1 ∧ y.2.1 ≤ (k : Int)) ∧ y.2.2.2 l 1 = (yrs seed (M l 1) (M (l + 1)) k).2.2.1 ∧ leq (y.2.2.2 l 1) (y.2.2.2 (l + 1)) (yrs seed (M l 1) (M (l + 1)) k).2.2.2) (fun y => (n - y.2.2.1).toNat) ?_ (seed, 0, 0, M) ⟨0, rfl, by show (0 : Int) ≤ n; omega, eql.rf, vl, rfl, rfl, ⟨Int.le_refl _, Int.le_refl _⟩, rfl, fun _ _ _ => rfl⟩
  rintro ⟨a, b, _, M1⟩ ⟨k, h1, hk, e1, v1, ha, hb, hbb, hn1, hw1⟩ P hP
  dsimp only at h1 e1 v1 ha hb hbb hn1 hw1 hP ⊢
  subst h1
  have hstep : yrs seed (M l 1) (M (l + 1)) (k + 1) = yr1 (yrs seed (M l 1) (M (l + 1)) k) := rfl
  have hfin : ((k : Nat) : Int) = n → (yrs seed (M l 1) (M (l + 1)) n.toNat) = yrs seed (M l 1) (M (l + 1)) k := fun h => by rw [← h, Int.toNat_natCast]
  generalize hY : yrs seed (M l 1) (M (l + 1)) k = Y at ha hb hn1 hw1 hstep hfin
  subst ha hb
  have hY4 : Y = (Y.1, Y.2.1, Y.2.2.1, Y.2.2.2) := rfl
  unfold w_X7_live_8b w_X7_drawn
  refine ⟨⟨by omega, by omega⟩, ⟨by omega, by omega⟩, fun hend => ?_, fun hgo => ?_⟩
  · have hy := hfin (by omega)
    rw [hy] at q
    exact q M1 e1 v1 hn1 hw1 ⟨by omega, by omega⟩
  · have hk3 := drm_b (drw Y.1) (show (0 : Int) < 3 by decide)
    have hp14 := drm_b (drw (drw Y.1)) (show (0 : Int) < 14 by decide)
    have hs8 := drm_b (drw (drw (drw Y.1))) (show (0 : Int) < 8 by decide)
    rintro z5 hz5
    rw [drm_rem _ (by decide)] at hz5
    rintro z8 hz8
    rw [drm_rem _ (by decide)] at hz8
    have hz5' : z5 = drm (drw Y.1) 3 := hz5
    have hz8' : z8 = drm (drw (drw Y.1)) 14 + 1 := hz8
    -- one change
    have one : ∀ (r' s : Int), 0 ≤ s ∧ s < 8 → (z5 = 2 → s = 0) → (∀ d : Int, yr1 Y = (r', Y.2.1 + (if 0 ≤ (lop z5 z8 s Y.2.2.1 Y.2.2.2).1 then 1 else 0), (lop z5 z8 s Y.2.2.1 Y.2.2.2).2)) → w_X7_live_66 l n r' Y.2.1 (k : Int) z5 z8 s (fun x3 x4 x5 M => P (x3, x4, x5, M)) Q M1 := by
      intro r' s hs h2 hyr
      have hyr := hyr 0
      unfold w_X7_live_66
      refine t_changeOf hl v1 ⟨by omega, by omega⟩ ⟨by omega, by omega⟩ ⟨by omega, by omega⟩ h2 (fun res M2 hres => ?_)
      have hin := hres.in v1
      obtain ⟨e2, v2, hr, hn2, hw2⟩ := hres
      rw [hn1] at hr hn2 hw2 hw1
      obtain ⟨g1, g2, g3⟩ := lop_congr (k := z5) (p := z8) (s := s) hw1
      rw [g1] at hr
      rw [g2] at hn2 g3
      have hst : yrs seed (M l 1) (M (l + 1)) (k + 1) = (r', Y.2.1 + (if 0 ≤ (lop z5 z8 s Y.2.2.1 Y.2.2.2).1 then 1 else 0), (lop z5 z8 s Y.2.2.1 Y.2.2.2).2) := by rw [hstep]; exact hyr
      have nxt : ∀ c : Int, c = Y.2.1 + (if 0 ≤ (lop z5 z8 s Y.2.2.1 Y.2.2.2).1 then 1 else 0) → (0 ≤ c ∧ c ≤ (k : Int) + 1) → P (r', c, (k : Int) + 1, M2) := by
        intro c hc hcb
        refine hP (r', c, (k : Int) + 1, M2) ⟨k + 1, by show (k : Int) + 1 = _; omega, by omega, e1.tr e2, v2, by rw [hst], by rw [hst]; exact hc, ⟨hcb.1, by show c ≤ ((k + 1 : Nat) : Int); omega⟩, by rw [hst]; exact hn2, ?_⟩ (by show (n - ((k : Int) + 1)).toNat < (n - (k : Int)).toNat; omega)
        rw [hst]
        intro x x1 x2
        show M2 (l + 1) x = (lop z5 z8 s Y.2.2.1 Y.2.2.2).2.2 x
        have x2' : x < M2 l 1 := x2
        rw [hw2 x x1 x2']
        exact g3 x x1 (by rw [← hn2]; exact x2')
      refine ⟨hin, fun hneg => nxt Y.2.1 (by rw [if_neg (by omega)]; omega) ⟨by omega, by omega⟩, fun hpos => nxt (Y.2.1 + 1) (by rw [if_pos (by omega)]) ⟨by omega, by omega⟩⟩
    refine ⟨⟨by omega, by omega⟩, fun heq => ?_, fun hne => ?_⟩
    · refine one _ 0 ⟨by decide, by decide⟩ (fun _ => rfl) (fun _ => ?_)
      unfold yr1
      rw [if_pos (by omega), heq, hz8']; rfl
    · rintro z15 hz15
      rw [drm_rem _ (by decide)] at hz15
      have hz15' : z15 = drm (drw (drw (drw Y.1))) 8 := hz15
      refine one _ z15 (by omega) (fun h => absurd h hne) (fun _ => ?_)
      unfold yr1
      rw [if_neg (by omega), hz5', hz8', hz15']; rfl
def s_years (D : Int → Int) (seed n r : Int) (o : Option (List Int)) : Prop := (¬ (1 ≤ n ∧ n ≤ 20) → r = -1 ∧ o = none) ∧ (1 ≤ n ∧ n ≤ 20 → rpn D (yrs seed (D 73) (lw D) n.toNat).2.2.2 (yrs seed (D 73) (lw D) n.toNat).2.2.1 r ∧ ∃ z, ndn D (yrs seed (D 73) (lw D) n.toNat).2.2.2 (yrs seed (D 73) (lw D) n.toNat).2.2.1 z ∧ o = some [z, (yrs seed (D 73) (lw D) n.toNat).2.2.1, (yrs seed (D 73) (lw D) n.toNat).2.1])
theorem o_years {M : pj_M} {D : Int → Int} {Q : Int → pj_M → Prop} {seed n : Int} (s : csc M) (r : drep M 13 D) (v : dvl D) (hn : pj_in n) (q : ∀ r o M', eqq M M' → csc M' → rwo M M' o → s_years D seed n r o → Q r M') : w_X11_years 0 seed n M Q := by
  have no : ¬ (1 ≤ n ∧ n ≤ 20) → Q (-1) M := fun h => q (-1) none M eqq.rf s ⟨rfl, rfl⟩ ⟨fun _ => ⟨rfl, rfl⟩, fun h' => absurd h' h⟩
  have hl29 : lcell 29 := by unfold lcell; decide
  unfold w_X11_years
  rw [rc_4, rc_2, rk_1, rc_9, rc_11]
  refine ⟨hn, fun h => no (by omega), fun h1 => ⟨hn, fun h20 => ?_, fun h => no (by omega)⟩⟩
  have hnn : 1 ≤ n ∧ n ≤ 20 := by omega
  have h18 : M 18 1 = D 73 := r.2.1.2.1
  refine t_copyFromL hl29 dcell_13.2.2.2.2 (by decide) s.2.2.2 r.2.1.1 (fun M1 e1 vl1 n1 w1 => t_live hl29 vl1 hnn (fun M2 e2 vl2 n2 w2 db => ?_))
  have hw1 : leq (D 73) (M1 30) (lw D) := fun x x1 x2 => (w1 x x1 (by rw [h18]; exact x2)).trans (r.2.1.2.2 x x1 x2)
  have n1' : M1 29 1 = D 73 := n1.trans h18
  rw [n1'] at n2 w2 db ⊢
  obtain ⟨_, y2, y3, y4⟩ := yrs_congr (seed := seed) hw1 n.toNat
  have w2' : leq (M2 29 1) (M2 30) (yrs seed (D 73) (lw D) n.toNat).2.2.2 := fun x x1 x2 => by
    have a := w2 x x1 x2
    have b := y4 x x1 (by rw [n2] at x2; exact x2)
    exact a.trans b
  have n2' : M2 29 1 = (yrs seed (D 73) (lw D) n.toNat).2.2.1 := n2.trans y3
  rw [show (29 + 1 : Nat) = 30 from rfl] at db ⊢
  rw [y2] at db ⊢
  have row : ∀ a, a ≠ 29 → a ≠ 30 → M2 a = M a := fun a a1 a2 => by rw [e2.row (by omega), e1.row (by omega)]
  have s2 : csc M2 := ⟨s.1.eq (fun a a1 a2 => row a (by omega) (by omega)), s.2.1.eq (fun a a1 a2 => row a (by omega) (by omega)), s.2.2.1.eq (fun a a1 a2 => row a (by omega) (by omega)), vl2.2⟩
  have r2 : drep M2 13 D := r.eq (fun a a1 a2 => row a (by omega) (by omega))
  have q2 : eqq M M2 := (eqq.l e1).tr (eqq.l e2)
  refine t_piecesOf (c := 135) (l := 29) (n := (yrs seed (D 73) (lw D) n.toNat).2.2.1) (w := (yrs seed (D 73) (lw D) n.toNat).2.2.2) (Or.inr (Or.inl rfl)) s2 r2 v (Or.inr rfl) vl2 n2' (by rw [← n2']; exact w2') (fun c M3 e3 z29 z30 _ _ s3 k3 h8 g st hc hr => ?_)
  have n3 : M3 29 1 = (yrs seed (D 73) (lw D) n.toNat).2.2.1 := by rw [z29]; exact n2'
  have vl3 : lvl M3 29 := ⟨by rw [z29]; exact vl2.1, by rw [show M3 (29 + 1) = M2 30 from z30]; exact vl2.2⟩
  refine t_measureD (c := 135) (l := 29) (D := D) (w := (yrs seed (D 73) (lw D) n.toNat).2.2.2) (n := (yrs seed (D 73) (lw D) n.toNat).2.2.1) k3 h8 g st (Or.inr rfl) vl3 n3 (by rw [show M3 (29 + 1) = M2 30 from z30, ← n2']; exact w2') (fun z M4 e4 hz => ?_)
  have n4 : M4 29 1 = (yrs seed (D 73) (lw D) n.toNat).2.2.1 := by rw [e4.row (by decide)]; exact n3
  rw [n4]
  have hb := vl3.1
  rw [n3] at hb
  have hzb : 0 ≤ z ∧ z ≤ 2147483647 := by
    obtain ⟨m, rfl, hm⟩ := hz
    have := kl_b (G := gr_of D) (q := (yrs seed (D 73) (lw D) n.toNat).2.2.1.toNat) (fun k hk => by
      have h1 := v.1.2.1 (k : Int) (by omega) (by have h2 : k < (D 0).toNat := hk; have := v.1.1; omega)
      show (D (1 + 6 * (k : Int))).toNat < 6
      omega) (fun k hk => by
      rw [gr_of_sg, sg_len]
      have h1 := v.1.2.2.1 (k : Int) (by omega) (by have h2 : k < (D 0).toNat := hk; have := v.1.1; omega)
      omega) (by omega) hm
    omega
  refine ⟨⟨by omega, by omega⟩, ⟨by omega, by omega⟩, t_tellTwo (fun M5 e5 r5 => ⟨⟨by omega, by omega⟩, t_tellMore r5 (by show 2 < 40; decide) (fun M6 e6 r6 => ?_)⟩)⟩
  exact q c (some [z, (yrs seed (D 73) (lw D) n.toNat).2.2.1, (yrs seed (D 73) (lw D) n.toNat).2.1]) M6 (((q2.tr e3).tr (eqq.n e4)).tr ((eqq.o e5).tr (eqq.o e6))) (((s3.eq (fun a ha => e4.row (by omega))).o e5).o e6) r6 ⟨fun h => absurd hnn h, fun _ => ⟨hr, z, hz, rfl⟩⟩
