/-- costs look at the signs of a stretch alone -/
theorem kt_cw {W W' : Nat → Nat} {s p q a : Nat} (h : ∀ m, m < q → W m = W' m) (k : kt W s p q a) : kt W' s p q a := by
  obtain ⟨h1, h2⟩ := k
  refine ⟨h1, ?_⟩
  rcases h2 with h2 | ⟨h2, ⟨m, m1, m2, m3⟩, h3⟩ | ⟨h2, h3, h4⟩
  · exact Or.inl h2
  · exact Or.inr (Or.inl ⟨h2, ⟨m, m1, m2, by rw [← h m m2]; exact m3⟩, h3⟩)
  · exact Or.inr (Or.inr ⟨h2, fun m m1 m2 => by rw [← h m m2]; exact h3 m m1 m2, h4⟩)
theorem kq1_cw {W W' : Nat → Nat} {P P' : kP} {N : Nat} (hP : ∀ x p q a, q ≤ N → P x p q a → P' x p q a) (h : ∀ m, m < N → W m = W' m) : ∀ {ss : List Nat} {p q n : Nat}, q ≤ N → kq1 W P ss p q n → kq1 W' P' ss p q n
  | [], _, _, _, _, k => k
  | s :: ss, p, q, n, hq, ⟨m, a, b, h1, h2, h3, h4, h5⟩ => by
    refine ⟨m, a, b, h1, h2, h3, ?_, kq1_cw hP h hq h5⟩
    rcases h4 with ⟨h4, h6⟩ | ⟨h4, h6⟩
    · exact Or.inl ⟨h4, kt_cw (fun m' hm => h m' (by omega)) h6⟩
    · exact Or.inr ⟨h4, hP _ _ _ _ (by omega) h6⟩
theorem kwd_cw {G : gr_G} {W W' : Nat → Nat} {N : Nat} (h : ∀ m, m < N → W m = W' m) : ∀ {d x p q n : Nat}, q ≤ N → kwd G W d x p q n → kwd G W' d x p q n
  | 0, _, _, _, _, _, k => k
  | d + 1, x, p, q, n, hq, ⟨k, h1, h2, h3⟩ => by
    refine ⟨k, h1, h2, ?_⟩
    rcases h3 with h3 | ⟨h3, h4⟩
    · exact Or.inl h3
    · exact Or.inr ⟨h3, kq1_cw (fun x p q a hq h' => kwd_cw h hq h') h hq h4⟩
theorem kl_cw {G : gr_G} {W W' : Nat → Nat} {x p q n : Nat} (h : ∀ m, m < q → W m = W' m) (k : kl G W x p q n) : kl G W' x p q n := by
  obtain ⟨⟨d, hd⟩, h2⟩ := k
  refine ⟨⟨d, kwd_cw h (Nat.le_refl _) hd⟩, ?_⟩
  rintro m ⟨d', hd'⟩
  exact h2 m ⟨d', kwd_cw (fun m hm => (h m hm).symm) (Nat.le_refl _) hd'⟩
/-- how many changes a line needs -/
def ndn (D w : Int → Int) (n : Int) (r : Int) : Prop := ∃ m : Nat, r = (m : Int) ∧ kl (gr_of D) (fun x => (w (x : Int)).toNat) (D 1).toNat 0 n.toNat m
theorem ndn.uniq {D w : Int → Int} {n r r' : Int} (h : ndn D w n r) (h' : ndn D w n r') : r = r' := by
  obtain ⟨m, rfl, h1⟩ := h
  obtain ⟨m', rfl, h2⟩ := h'
  rw [kl_uniq h1 h2]
theorem ndn.congr {D w w' : Int → Int} {n r : Int} (h : ndn D w n r) (hw : leq n w w') : ndn D w' n r := by
  obtain ⟨m, h1, h2⟩ := h
  exact ⟨m, h1, kl_cw (fun x hx => by rw [hw (x : Int) (by omega) (by omega)]) h2⟩
theorem t_measureD {M : pj_M} {c l : Nat} {D w : Int → Int} {n : Int} {Q : Int → pj_M → Prop} (k : clk M c) (h8 : M c 8 = 0) (g : gr_eq (gof M (c + 1)) (gr_of D)) (st : M (c + 1) 4 = D 1) (hl : l = 18 ∨ l = 29) (vl : lvl M l) (hn : M l 1 = n) (hw : leq n (M (l + 1)) w) (q : ∀ r M', eqn M M' → ndn D w n r → Q r M') : w_X2_measure 175 c l M Q := by
  have hlc : lcell l := by rcases hl with h | h <;> rw [h] <;> unfold lcell <;> decide
  refine t_measure k h8 hlc (by omega) vl (fun m M' e h => q _ M' e ?_)
  rw [g.wl, st, hn] at h
  exact ndn.congr ⟨m, rfl, h⟩ hw
def s_needed (D : Int → Int) (r : Int) (o : Option (List Int)) : Prop := ndn D (lw D) (D 73) r ∧ ∃ c, rpn D (lw D) (D 73) c ∧ o = some [c]
def s_without (D : Int → Int) (p r : Int) (o : Option (List Int)) : Prop := (¬ (1 ≤ p ∧ p ≤ D 73) → r = -1 ∧ o = none) ∧ (1 ≤ p ∧ p ≤ D 73 → rpn D (delf (lw D) p) (D 73 - 1) r ∧ ∃ c, rpn D (lw D) (D 73) c ∧ o = some [c - r])
def s_blames (D : Int → Int) (r : Int) (o : Option (List Int)) : Prop := (D 73 = 0 → r = -2 ∧ o = none) ∧ (D 73 ≠ 0 → (1 ≤ r ∧ r ≤ D 73) ∧ ∃ m, o = some [m] ∧ rpn D (delf (lw D) r) (D 73 - 1) m ∧ (∀ p x, 1 ≤ p → p < r → rpn D (delf (lw D) p) (D 73 - 1) x → m < x) ∧ ∀ p x, 1 ≤ p → p ≤ D 73 → rpn D (delf (lw D) p) (D 73 - 1) x → m ≤ x)
theorem s_blames.uniq {D : Int → Int} {r r' : Int} {o o' : Option (List Int)} (v : dvl D) (h : s_blames D r o) (h' : s_blames D r' o') : r = r' ∧ o = o' := by
  by_cases h0 : D 73 = 0
  · obtain ⟨a1, a2⟩ := h.1 h0
    obtain ⟨b1, b2⟩ := h'.1 h0
    exact ⟨a1.trans b1.symm, a2.trans b2.symm⟩
  · obtain ⟨a1, m, a2, a3, a4, a5⟩ := h.2 h0
    obtain ⟨b1, m', b2, b3, b4, b5⟩ := h'.2 h0
    have e1 := a5 r' m' b1.1 b1.2 b3
    have e2 := b5 r m a1.1 a1.2 a3
    have hm : m = m' := by omega
    have hr : r = r' := by
      apply Int.le_antisymm
      · apply Int.not_lt.mp; intro hlt
        have := a4 r' m' b1.1 hlt b3; omega
      · apply Int.not_lt.mp; intro hlt
        have := b4 r m a1.1 hlt a3; omega
    rw [a2, b2, hm]; exact ⟨hr, rfl⟩
section
variable {M : pj_M} {D : Int → Int} {Q : Int → pj_M → Prop}
theorem rwo.eq {M M' : pj_M} {o : Option (List Int)} {M0 : pj_M} (h : rwo M0 M' o) (e1 : M0 186 = M 186) (e2 : M0 0 = M 0) : rwo M M' o := by
  cases o with
  | none => exact ⟨h.1.trans e1, by rw [← e2]; exact h.2⟩
  | some l => exact h
theorem o_needed (s : csc M) (r : drep M 13 D) (v : dvl D) (q : ∀ r o M', eqq M M' → csc M' → rwo M M' o → s_needed D r o → Q r M') : w_X11_needed 0 M Q := by
  unfold w_X11_needed
  rw [rc_8, rc_2, rk_1, rc_11]
  refine t_piecesOf (Or.inl rfl) s r v (Or.inl rfl) r.2.1.1 r.2.1.2.1 r.2.1.2.2 (fun c M1 e1 _ _ _ _ s1 k1 h8 g st hc hr => ⟨⟨by omega, by omega⟩, t_tellOne (fun M2 e2 hrow => ?_)⟩)
  have e12 := e1.tr (eqq.o e2)
  have r2 : drep M2 13 D := r.eq (fun a a1 a2 => e12.row (by omega))
  have row : ∀ a, 115 ≤ a → a ≤ 134 → M2 a = M1 a := fun a a1 a2 => e2.row (by omega) (by omega)
  refine t_measureD (c := 115) (l := 18) (D := D) (w := lw D) (n := D 73) (k1.eqr (fun a a1 a2 => row a (by omega) (by omega))) (by rw [row 115 (by omega) (by omega)]; exact h8) (by rw [gof.eq (fun a a1 a2 => row a (by omega) (by omega))]; exact g) (by rw [row (115 + 1) (by omega) (by omega)]; exact st) (Or.inl rfl) r2.2.1.1 r2.2.1.2.1 r2.2.1.2.2 (fun z M3 e3 hz => ?_)
  refine q z (some [c]) M3 (e12.tr (eqq.n e3)) ((s1.o e2).eq (fun a ha => e3.row (by omega))) ?_ ⟨hz, c, hr, rfl⟩
  refine ⟨?_, hrow.2.1, fun k x hk => ?_⟩
  · rw [e3.row (by decide)]; exact hrow.1
  · rw [e3.row (by decide)]; exact hrow.2.2 k x hk
/-- the line without a place -/
theorem t_without {p : Int} {Q : pj_M → Prop} (s : csc M) (r : drep M 13 D) (v : dvl D) (hp : 1 ≤ p ∧ p ≤ D 73) (q : ∀ M', eqq M M' → (∀ a, a ≠ 29 → a ≠ 30 → M' a = M a) → csc M' → lvl M' 29 → M' 29 1 = D 73 - 1 → leq (D 73 - 1) (M' 30) (delf (lw D) p) → Q M') : w_X7_copyWithout 29 18 p M Q := by
  have hn := v.2.2.1
  have hl29 : lcell 29 := by unfold lcell; decide
  unfold w_X7_copyWithout
  refine t_copyFromL hl29 dcell_13.2.2.2.2 (by decide) s.2.2.2 r.2.1.1 (fun M1 e1 vl1 n1 w1 => t_removeAt hl29 vl1 ⟨by omega, by omega⟩ (fun res M2 h => ?_))
  have h18 : M 18 1 = D 73 := r.2.1.2.1
  obtain ⟨e2, vl2, _, n2, w2⟩ := h
  have hw1 : leq (D 73) (M1 30) (lw D) := fun x x1 x2 => (w1 x x1 (by rw [h18]; exact x2)).trans (r.2.1.2.2 x x1 x2)
  have n1' : M1 29 1 = D 73 := n1.trans h18
  rw [n1'] at n2 w2
  have hop : lop 2 p 0 (D 73) (M1 (29 + 1)) = (D 73 - 1, D 73 - 1, delf (M1 (29 + 1)) p) := by unfold lop; rw [if_neg (by decide), if_neg (by decide), if_pos hp]
  rw [hop] at n2 w2
  have n2' : M2 29 1 = D 73 - 1 := n2
  have row : ∀ a, a ≠ 29 → a ≠ 30 → M2 a = M a := fun a a1 a2 => by rw [e2.row (by omega), e1.row (by omega)]
  refine q M2 ((eqq.l e1).tr (eqq.l e2)) row ⟨s.1.eq (fun a a1 a2 => row a (by omega) (by omega)), s.2.1.eq (fun a a1 a2 => row a (by omega) (by omega)), s.2.2.1.eq (fun a a1 a2 => row a (by omega) (by omega)), vl2.2⟩ vl2 n2' (fun x x1 x2 => ?_)
  have h3 := w2 x x1 (by rw [n2']; exact x2)
  have h4 : M2 30 x = delf (M1 30) p x := h3
  rw [h4]
  unfold delf
  by_cases a1 : x < p - 1
  · rw [if_pos a1, if_pos a1]; exact hw1 x x1 (by omega)
  · rw [if_neg a1, if_neg a1]; exact hw1 (x + 1) (by omega) (by omega)
theorem o_without {p : Int} (s : csc M) (r : drep M 13 D) (v : dvl D) (hp : pj_in p) (q : ∀ r o M', eqq M M' → csc M' → rwo M M' o → s_without D p r o → Q r M') : w_X11_without 0 p M Q := by
  unfold w_X11_without
  rw [rc_8, rc_9, rc_2, rk_1, rc_4]
  have hn := v.2.2.1
  have h18 : M 18 1 = D 73 := r.2.1.2.1
  refine t_hasL r.2.1.1 hp (fun t ht hiff => ⟨in01 ht, fun h => ?_, fun h => ?_⟩)
  · have hp2 : 1 ≤ p ∧ p ≤ D 73 := by rw [← h18]; exact hiff.mp (by omega)
    refine t_piecesOf (Or.inl rfl) s r v (Or.inl rfl) r.2.1.1 r.2.1.2.1 r.2.1.2.2 (fun c M1 e1 _ _ _ _ s1 _ _ _ _ hc hr => ?_)
    have r1 : drep M1 13 D := r.eq (fun a a1 a2 => e1.row (by omega))
    refine t_without s1 r1 v hp2 (fun M2 e2 row2 s2 vl2 n2 w2 => ?_)
    have r2 : drep M2 13 D := r1.eq (fun a a1 a2 => e2.row (by omega))
    refine t_piecesOf (c := 135) (l := 29) (Or.inr (Or.inl rfl)) s2 r2 v (Or.inr rfl) vl2 n2 w2 (fun c2 M3 e3 _ _ _ _ s3 _ _ _ _ hc2 hr2 => ⟨⟨by omega, by omega⟩, t_tellOne (fun M4 e4 hrow => ?_)⟩)
    exact q c2 (some [c - c2]) M4 (((e1.tr e2).tr e3).tr (eqq.o e4)) (s3.o e4) hrow ⟨fun h => absurd hp2 h, fun _ => ⟨hr2, c, hr, rfl⟩⟩
  · exact q (-1) none M eqq.rf s ⟨rfl, rfl⟩ ⟨fun _ => ⟨rfl, rfl⟩, fun h' => by have := hiff.mpr (by rw [h18]; exact h'); omega⟩
theorem o_blames (s : csc M) (r : drep M 13 D) (v : dvl D) (q : ∀ r o M', eqq M M' → csc M' → rwo M M' o → s_blames D r o → Q r M') : w_X11_blames 0 M Q := by
  have hn := v.2.2.1
  unfold w_X11_blames w_X11_blames_8
  refine pj_lp_inv (fun y : Int × Int × Int × pj_M => (1 ≤ y.2.2.1 ∧ y.2.2.1 ≤ D 73 + 1) ∧ eqq M y.2.2.2 ∧ csc y.2.2.2 ∧ y.2.2.2 186 = M 186 ∧ y.2.2.2 0 = M 0 ∧ (y.2.2.1 = 1 → y.1 = 0 ∧ y.2.1 = 1048576) ∧ (y.2.2.1 ≠ 1 → (1 ≤ y.1 ∧ y.1 < y.2.2.1) ∧ (0 ≤ y.2.1 ∧ y.2.1 ≤ 16) ∧ rpn D (delf (lw D) y.1) (D 73 - 1) y.2.1 ∧ (∀ p x, 1 ≤ p → p < y.1 → rpn D (delf (lw D) p) (D 73 - 1) x → y.2.1 < x) ∧ ∀ p x, 1 ≤ p → p < y.2.2.1 → rpn D (delf (lw D) p) (D 73 - 1) x → y.2.1 ≤ x)) (fun y => (D 73 + 1 - y.2.2.1).toNat) ?_ (0, 1048576, 1, M) ⟨⟨Int.le_refl _, by show (1 : Int) ≤ D 73 + 1; omega⟩, eqq.rf, s, rfl, rfl, fun _ => ⟨rfl, rfl⟩, fun h => absurd rfl h⟩
  rintro ⟨best, few, p, M1⟩ ⟨hp, e1, s1, h186, h0, hi1, hi2⟩ P hP
  dsimp only at hp e1 s1 h186 h0 hi1 hi2 hP ⊢
  have r1 : drep M1 13 D := r.eq (fun a a1 a2 => e1.row (by omega))
  have h18 : M1 18 1 = D 73 := r1.2.1.2.1
  have bf : (best = 0 ∧ few = 1048576 ∧ p = 1) ∨ (1 ≤ best ∧ best < p ∧ 0 ≤ few ∧ few ≤ 16 ∧ p ≠ 1) := by
    by_cases e : p = 1
    · have := hi1 e; left; omega
    · have h := hi2 e; right; have h1 := h.1; have h2 := h.2.1; omega
  unfold w_X11_blames_8b
  rw [rc_2, rk_1, rc_4, rc_9, h18]
  refine ⟨⟨by omega, by omega⟩, ⟨by omega, by omega⟩, fun hend => ⟨⟨by omega, by omega⟩, fun hne => ⟨⟨by omega, by omega⟩, t_tellOne (fun M2 e2 hrow => ?_)⟩, fun hz => ?_⟩, fun hgo => ?_⟩
  · have hp1 : p ≠ 1 := by omega
    obtain ⟨a1, a2, a3, a4, a5⟩ := hi2 hp1
    exact q best (some [few]) M2 (e1.tr (eqq.o e2)) (s1.o e2) hrow ⟨fun h => by omega, fun _ => ⟨⟨a1.1, by omega⟩, few, rfl, a3, a4, fun p' x h1 h2 => a5 p' x h1 (by omega)⟩⟩
  · exact q (-2) none M1 e1 s1 ⟨h186, by rw [h0]⟩ ⟨fun _ => ⟨rfl, rfl⟩, fun h => by omega⟩
  · refine t_without s1 r1 v ⟨hp.1, by omega⟩ (fun M2 e2 row2 s2 vl2 n2 w2 => ?_)
    have r2 : drep M2 13 D := r1.eq (fun a a1 a2 => e2.row (by omega))
    refine t_piecesOf (c := 135) (l := 29) (Or.inr (Or.inl rfl)) s2 r2 v (Or.inr rfl) vl2 n2 w2 (fun c2 M3 e3 _ _ z0 z186 s3 _ _ _ _ hc2 hr2 => ⟨⟨by omega, by omega⟩, ⟨by omega, by omega⟩, fun hle => ?_, fun hgt => ?_⟩)
    · have hp1 : p ≠ 1 := by omega
      obtain ⟨a1, a2, a3, a4, a5⟩ := hi2 hp1
      refine hP (best, few, p + 1, M3) ⟨⟨by show 1 ≤ p + 1; omega, by show p + 1 ≤ D 73 + 1; omega⟩, (e1.tr e2).tr e3, s3, by show M3 186 = _; rw [z186, row2 186 (by decide) (by decide), h186], by show M3 0 = _; rw [z0, row2 0 (by decide) (by decide), h0], fun h => by have : p + 1 = 1 := h; omega, fun _ => ⟨⟨a1.1, by show best < p + 1; omega⟩, a2, a3, a4, fun p' x g1 g2 g3 => ?_⟩⟩ (by show (D 73 + 1 - (p + 1)).toNat < (D 73 + 1 - p).toNat; omega)
      have g2' : p' < p + 1 := g2
      by_cases e : p' = p
      · subst e
        have := rpn.uniq v (by omega) g3 hr2
        show few ≤ x
        omega
      · exact a5 p' x g1 (by omega) g3
    · refine hP (p, c2, p + 1, M3) ⟨⟨by show 1 ≤ p + 1; omega, by show p + 1 ≤ D 73 + 1; omega⟩, (e1.tr e2).tr e3, s3, by show M3 186 = _; rw [z186, row2 186 (by decide) (by decide), h186], by show M3 0 = _; rw [z0, row2 0 (by decide) (by decide), h0], fun h => by have : p + 1 = 1 := h; omega, fun _ => ⟨⟨hp.1, by show p < p + 1; omega⟩, hc2, hr2, fun p' x g1 g2 g3 => ?_, fun p' x g1 g2 g3 => ?_⟩⟩ (by show (D 73 + 1 - (p + 1)).toNat < (D 73 + 1 - p).toNat; omega)
      · have g2' : p' < p := g2
        have hp1 : p ≠ 1 := by omega
        have := (hi2 hp1).2.2.2.2 p' x g1 (by omega) g3
        show c2 < x
        omega
      · have g2' : p' < p + 1 := g2
        show c2 ≤ x
        by_cases e : p' = p
        · subst e; have := rpn.uniq v (by omega) g3 hr2; omega
        · have hp1 : p ≠ 1 := by omega
          have := (hi2 hp1).2.2.2.2 p' x g1 (by omega) g3
          omega
end
