/-- the longest that fits -/
def lgs (F : Int → Int → Prop) (n2 i j : Int) : Prop := (0 ≤ i ∧ i ≤ j ∧ j ≤ n2) ∧ F i j ∧ ∀ i' j', 0 ≤ i' → i' ≤ j' → j' ≤ n2 → F i' j' → j' - i' < j - i ∨ (j' - i' = j - i ∧ i ≤ i')
def s_longest (D : Int → Int) (r : Int) (o : Option (List Int)) : Prop := ∃ i j, lgs (FD D) (D 73 + 2) i j ∧ r = j - i ∧ o = some [i, j]
theorem lgs.uniq {F : Int → Int → Prop} {n2 i j i' j' : Int} (h : lgs F n2 i j) (h2 : lgs F n2 i' j') : i = i' ∧ j = j' := by
  have a := h.2.2 i' j' h2.1.1 h2.1.2.1 h2.1.2.2 h2.2.1
  have b := h2.2.2 i j h.1.1 h.1.2.1 h.1.2.2 h.2.1
  omega
def s_weakest (D : Int → Int) (r : Int) (o : Option (List Int)) : Prop := (r = -2 ∧ o = none ∧ ∃ p, 0 ≤ p ∧ p ≤ D 73 + 1 ∧ nlw (FD D) (D 73 + 2) p) ∨ ((0 ≤ r ∧ r ≤ D 73 + 1) ∧ (∃ i j, lgw (FD D) (D 73 + 2) r i j ∧ o = some [i, j] ∧ (∀ p, 0 ≤ p → p ≤ D 73 + 1 → ∃ i' j', lgw (FD D) (D 73 + 2) p i' j' ∧ j - i ≤ j' - i' ∧ (p < r → j - i < j' - i'))))
theorem s_weakest.uniq {D : Int → Int} {r r' : Int} {o o' : Option (List Int)} (h : s_weakest D r o) (h' : s_weakest D r' o') : r = r' ∧ o = o' := by
  rcases h with ⟨a1, a2, p, p1, p2, p3⟩ | ⟨a1, i, j, a2, a3, a4⟩ <;> rcases h' with ⟨b1, b2, p', p1', p2', p3'⟩ | ⟨b1, i', j', b2, b3, b4⟩
  · exact ⟨a1.trans b1.symm, a2.trans b2.symm⟩
  · obtain ⟨x, y, g, _⟩ := b4 p p1 p2
    exact absurd g.2.1 (p3 x y g.1.1 g.1.2.1 g.1.2.2.1 g.1.2.2.2)
  · obtain ⟨x, y, g, _⟩ := a4 p' p1' p2'
    exact absurd g.2.1 (p3' x y g.1.1 g.1.2.1 g.1.2.2.1 g.1.2.2.2)
  · obtain ⟨x, y, g1, g2, g3⟩ := a4 r' b1.1 b1.2
    obtain ⟨x', y', k1, k2, k3⟩ := b4 r a1.1 a1.2
    obtain ⟨u1, u2⟩ := g1.uniq b2
    obtain ⟨w1, w2⟩ := k1.uniq a2
    subst u1 u2 w1 w2
    have hr : r = r' := by
      apply Int.le_antisymm
      · apply Int.not_lt.mp; intro hlt; have := g3 hlt; omega
      · apply Int.not_lt.mp; intro hlt; have := k3 hlt; omega
    subst hr
    obtain ⟨u1, u2⟩ := a2.uniq b2
    subst u1 u2
    exact ⟨rfl, a3.trans b3.symm⟩
/-- how many of a width fit, and the first that doesn't -/
noncomputable def wcn (F : Int → Int → Prop) (k : Int) : Nat → Int
  | 0 => 0
  | m + 1 => wcn F k m + @ite Int (F (m : Int) ((m : Int) + k)) (Classical.propDecidable _) 1 0
def wfs (F : Int → Int → Prop) (k : Int) (m : Int) (l : List Int) : Prop := ((∀ i, 0 ≤ i → i < m → F i (i + k)) ∧ l = []) ∨ ∃ i, 0 ≤ i ∧ i < m ∧ ¬ F i (i + k) ∧ (∀ i', 0 ≤ i' → i' < i → F i' (i' + k)) ∧ l = [i]
theorem wfs.uniq {F : Int → Int → Prop} {k m : Int} {l l' : List Int} (h : wfs F k m l) (h' : wfs F k m l') : l = l' := by
  rcases h with ⟨a1, a2⟩ | ⟨i, a1, a2, a3, a4, a5⟩ <;> rcases h' with ⟨b1, b2⟩ | ⟨i', b1, b2, b3, b4, b5⟩
  · rw [a2, b2]
  · exact absurd (a1 i' b1 b2) b3
  · exact absurd (b1 i a1 a2) a3
  · have : i = i' := by
      apply Int.le_antisymm
      · apply Int.not_lt.mp; intro hlt; exact b3 (a4 i' b1 hlt)
      · apply Int.not_lt.mp; intro hlt; exact a3 (b4 i a1 hlt)
    rw [a5, b5, this]
def s_wide (D : Int → Int) (k r : Int) (o : Option (List Int)) : Prop := (¬ (1 ≤ k ∧ k ≤ D 73 + 2) → r = -1 ∧ o = none) ∧ (1 ≤ k ∧ k ≤ D 73 + 2 → r = wcn (FD D) k (D 73 + 3 - k).toNat ∧ ∃ l, o = some l ∧ wfs (FD D) k (D 73 + 3 - k) l)
theorem wcn_s {F : Int → Int → Prop} {k : Int} {m : Nat} : (F (m : Int) ((m : Int) + k) → wcn F k (m + 1) = wcn F k m + 1) ∧ (¬ F (m : Int) ((m : Int) + k) → wcn F k (m + 1) = wcn F k m) := by
  constructor
  · intro h
    show wcn F k m + @ite Int (F (m : Int) ((m : Int) + k)) (Classical.propDecidable _) 1 0 = _
    rw [if_pos h]
  · intro h
    show wcn F k m + @ite Int (F (m : Int) ((m : Int) + k)) (Classical.propDecidable _) 1 0 = _
    rw [if_neg h]; omega
theorem wcn_b {F : Int → Int → Prop} {k : Int} : ∀ m : Nat, 0 ≤ wcn F k m ∧ wcn F k m ≤ (m : Int)
  | 0 => ⟨Int.le_refl _, Int.le_refl _⟩
  | m + 1 => by
    have ih := wcn_b (F := F) (k := k) m
    by_cases h : F (m : Int) ((m : Int) + k)
    · rw [wcn_s.1 h]; omega
    · rw [wcn_s.2 h]; omega
section
variable {M : pj_M} {D : Int → Int} {Q : Int → pj_M → Prop}
theorem o_longest (s : csc M) (r : drep M 13 D) (v : dvl D) (q : ∀ r o M', eqq M M' → csc M' → rwo M M' o → s_longest D r o → Q r M') : w_X11_longest 0 M Q := by
  have hn := v.2.2.1
  unfold w_X11_longest
  refine t_lineRead s r v (fun M1 e1 s1 rd g st f => ?_)
  have m := f.2.2.2.2.1
  have r1 : drep M1 13 D := r.eq (fun a a1 a2 => e1.row (by omega))
  have h18 : M1 18 1 = D 73 := r1.2.1.2.1
  unfold w_X11_longest_9
  refine pj_lp_inv (fun y : Int × Int × pj_M => (1 ≤ y.2.1 ∧ y.2.1 ≤ D 73 + 2) ∧ (0 ≤ y.1 ∧ y.1 < y.2.1) ∧ y.2.2 = M1 ∧ ∃ j, gfi (FD D) (D 73 + 2) y.1 j ∧ ∀ i' j', 0 ≤ i' → i' < y.2.1 → i' ≤ j' → j' ≤ D 73 + 2 → FD D i' j' → j' - i' < j - y.1 ∨ (j' - i' = j - y.1 ∧ y.1 ≤ i')) (fun y => (D 73 + 2 - y.2.1).toNat) ?_ (0, 1, M1) ?_
  · rintro ⟨b, i, Mx⟩ ⟨hi, hb, hM, j, hj, hall⟩ P hP
    dsimp only at hi hb hM hj hall hP ⊢
    have hM' := hM.symm
    subst hM'
    unfold w_X11_longest_9b
    rw [rc_2, rk_1, h18]
    refine ⟨⟨by omega, by omega⟩, ⟨by omega, by omega⟩, fun hend => t_greatestFitting f ⟨hb.1, by omega⟩ (fun j2 hj2 => ?_), fun hgo => t_greatestFitting f ⟨by omega, by omega⟩ (fun j2 hj2 => t_greatestFitting f ⟨hb.1, by omega⟩ (fun j3 hj3 => ?_))⟩
    · have ej := hj.uniq m hb.1 hj2
      subst ej
      have g1 := hj.1
      have g2 := hj.2.1
      refine ⟨⟨by omega, by omega⟩, ⟨by omega, by omega⟩, t_tellTwo (fun M3 e3 hrow => ?_)⟩
      refine q _ (some [b, j]) M3 ((eqq.c (Or.inl rfl) e1).tr (eqq.o e3)) (s1.o e3) hrow ⟨b, j, ⟨⟨hb.1, g1, g2⟩, hj.2.2.1, fun i' j' a1 a2 a3 a4 => ?_⟩, rfl, rfl⟩
      by_cases e : i' < i
      · exact hall i' j' a1 e a2 a3 a4
      · by_cases h0 : j - b = 0
        · omega
        · omega
    · have ej := hj.uniq m hb.1 hj3
      subst ej
      have g1 := hj.1
      have g2 := hj.2.1
      have g3 := hj2.1
      have g4 := hj2.2.1
      refine ⟨⟨by omega, by omega⟩, ⟨by omega, by omega⟩, fun hle => ?_, fun hgt => ?_⟩
      · refine hP (b, i + 1, M1) ⟨⟨by show 1 ≤ i + 1; omega, by show i + 1 ≤ D 73 + 2; omega⟩, ⟨hb.1, by show b < i + 1; omega⟩, rfl, j, hj, fun i' j' a1 a2 a3 a4 a5 => ?_⟩ (by show (D 73 + 2 - (i + 1)).toNat < (D 73 + 2 - i).toNat; omega)
        have a2' : i' < i + 1 := a2
        show j' - i' < j - b ∨ (j' - i' = j - b ∧ b ≤ i')
        by_cases e : i' = i
        · subst e; have := hj2.le m (by omega) a3 a4 a5; omega
        · exact hall i' j' a1 (by omega) a3 a4 a5
      · refine hP (i, i + 1, M1) ⟨⟨by show 1 ≤ i + 1; omega, by show i + 1 ≤ D 73 + 2; omega⟩, ⟨by show 0 ≤ i; omega, by show i < i + 1; omega⟩, rfl, j2, hj2, fun i' j' a1 a2 a3 a4 a5 => ?_⟩ (by show (D 73 + 2 - (i + 1)).toNat < (D 73 + 2 - i).toNat; omega)
        have a2' : i' < i + 1 := a2
        show j' - i' < j2 - i ∨ (j' - i' = j2 - i ∧ i ≤ i')
        by_cases e : i' = i
        · subst e; have := hj2.le m (by omega) a3 a4 a5; omega
        · have := hall i' j' a1 (by omega) a3 a4 a5; omega
  · have hex : ∃ j, gfi (FD D) (D 73 + 2) 0 j := by
      have h00 := m.1 0 (by omega) (by omega)
      apply Classical.byContradiction
      intro hno
      have : ∀ k : Nat, (k : Int) ≤ D 73 + 2 → FD D 0 (k : Int) := by
        intro k
        induction k with
        | zero => intro _; exact h00
        | succ k ih =>
          intro hk
          apply Classical.byContradiction
          intro hnf
          exact hno ⟨(k : Int), by omega, by omega, ih (by omega), Or.inr (fun h => hnf (by rw [show ((k + 1 : Nat) : Int) = (k : Int) + 1 by omega]; exact h))⟩
      have h2 := this (D 73 + 2).toNat (by omega)
      rw [show (((D 73 + 2).toNat : Nat) : Int) = D 73 + 2 by omega] at h2
      exact hno ⟨D 73 + 2, by omega, Int.le_refl _, h2, Or.inl rfl⟩
    obtain ⟨j, hj⟩ := hex
    refine ⟨⟨Int.le_refl _, by show (1 : Int) ≤ D 73 + 2; omega⟩, ⟨Int.le_refl _, by show (0 : Int) < 1; decide⟩, rfl, j, hj, fun i' j' a1 a2 a3 a4 a5 => ?_⟩
    have a2' : i' < 1 := a2
    have : i' = 0 := by omega
    subst this
    have := hj.le m (by omega) a3 a4 a5
    show j' - 0 < j - 0 ∨ (j' - 0 = j - 0 ∧ (0 : Int) ≤ 0)
    omega
theorem o_weakest (s : csc M) (r : drep M 13 D) (v : dvl D) (q : ∀ r o M', eqq M M' → csc M' → rwo M M' o → s_weakest D r o → Q r M') : w_X11_weakest 0 M Q := by
  have hn := v.2.2.1
  unfold w_X11_weakest
  refine t_lineRead s r v (fun M1 e1 s1 rd g st f => ?_)
  have m := f.2.2.2.2.1
  have r1 : drep M1 13 D := r.eq (fun a a1 a2 => e1.row (by omega))
  have h18 : M1 18 1 = D 73 := r1.2.1.2.1
  have pc := post_c s e1
  unfold w_X11_weakest_17
  refine pj_lp_inv (fun y : Int × Int × Int × Int × pj_M => (0 ≤ y.2.2.2.1 ∧ y.2.2.2.1 ≤ D 73 + 2) ∧ y.2.2.2.2 = M1 ∧ (y.2.2.2.1 = 0 → y.2.2.1 = 1048576) ∧ (y.2.2.2.1 ≠ 0 → (0 ≤ y.1 ∧ y.1 < y.2.2.2.1) ∧ (1 ≤ y.2.2.1 ∧ y.2.2.1 ≤ 16) ∧ lgw (FD D) (D 73 + 2) y.1 y.2.1 (y.2.1 + y.2.2.1) ∧ ∀ p, 0 ≤ p → p < y.2.2.2.1 → ∃ i' j', lgw (FD D) (D 73 + 2) p i' j' ∧ y.2.2.1 ≤ j' - i' ∧ (p < y.1 → y.2.2.1 < j' - i'))) (fun y => (D 73 + 2 - y.2.2.2.1).toNat) ?_ (0, 0, 1048576, 0, M1) ⟨⟨Int.le_refl _, by show (0 : Int) ≤ D 73 + 2; omega⟩, rfl, fun _ => rfl, fun h => absurd rfl h⟩
  rintro ⟨wo, wb, sh, p, Mx⟩ ⟨hp, hM, hz, hnz⟩ P hP
  dsimp only at hp hM hz hnz hP ⊢
  have hM' := hM.symm
  subst hM'
  unfold w_X11_weakest_17b
  rw [rc_2, rk_1, h18]
  refine ⟨⟨by omega, by omega⟩, ⟨by omega, by omega⟩, fun hend => ?_, fun hgo => t_beginOfLongestWith f ⟨hp.1, by omega⟩ (fun hno => ?_) (fun i j hl => ?_)⟩
  · obtain ⟨a1, a2, a3, a4⟩ := hnz (by omega)
    have a5 := a3.1
    refine ⟨⟨by omega, by omega⟩, ⟨by omega, by omega⟩, t_tellTwo (fun M3 e3 hrow => ?_)⟩
    refine q wo (some [wb, wb + sh]) M3 (pc.1.tr (eqq.o e3)) (s1.o e3) hrow (Or.inr ⟨⟨a1.1, by omega⟩, wb, wb + sh, a3, rfl, fun p' p1 p2 => ?_⟩)
    obtain ⟨i', j', b1, b2, b3⟩ := a4 p' p1 (by omega)
    exact ⟨i', j', b1, by omega, fun h => by have := b3 h; omega⟩
  · exact ⟨⟨by decide, by decide⟩, fun h => absurd rfl h, fun _ => q (-2) none M1 pc.1 s1 pc.2 (Or.inl ⟨rfl, rfl, p, hp.1, by omega, hno⟩)⟩
  · have hl1 := hl.1
    refine ⟨⟨by omega, by omega⟩, fun hne => t_greatestFitting f ⟨hl1.1, by omega⟩ (fun j2 hj2 => ?_), fun h => by omega⟩
    have ej := hl.gfi.uniq m hl1.1 hj2
    subst ej
    have shb : sh = 1048576 ∨ (1 ≤ sh ∧ sh ≤ 16) := by
      by_cases e : p = 0
      · exact Or.inl (hz e)
      · exact Or.inr (hnz e).2.1
    refine ⟨⟨by omega, by omega⟩, ⟨by omega, by omega⟩, fun hle => ?_, fun hgt => ?_⟩
    · have hp0 : p ≠ 0 := fun e => by have := hz e; omega
      obtain ⟨a1, a2, a3, a4⟩ := hnz hp0
      refine hP (wo, wb, sh, p + 1, M1) ⟨⟨by show 0 ≤ p + 1; omega, by show p + 1 ≤ D 73 + 2; omega⟩, rfl, fun h => by have : p + 1 = 0 := h; omega, fun _ => ⟨⟨a1.1, by show wo < p + 1; omega⟩, a2, a3, fun p' p1 p2 => ?_⟩⟩ (by show (D 73 + 2 - (p + 1)).toNat < (D 73 + 2 - p).toNat; omega)
      have p2' : p' < p + 1 := p2
      by_cases e : p' = p
      · subst e; exact ⟨i, j, hl, hle, fun h => by have h' : p' < wo := h; omega⟩
      · exact a4 p' p1 (by omega)
    · refine hP (p, i, j - i, p + 1, M1) ⟨⟨by show 0 ≤ p + 1; omega, by show p + 1 ≤ D 73 + 2; omega⟩, rfl, fun h => by have : p + 1 = 0 := h; omega, fun _ => ⟨⟨hp.1, by show p < p + 1; omega⟩, ⟨by show 1 ≤ j - i; omega, by show j - i ≤ 16; omega⟩, by show lgw (FD D) (D 73 + 2) p i (i + (j - i)); rw [show i + (j - i) = j by omega]; exact hl, fun p' p1 p2 => ?_⟩⟩ (by show (D 73 + 2 - (p + 1)).toNat < (D 73 + 2 - p).toNat; omega)
      have p2' : p' < p + 1 := p2
      show ∃ i' j', lgw (FD D) (D 73 + 2) p' i' j' ∧ j - i ≤ j' - i' ∧ (p' < p → j - i < j' - i')
      by_cases e : p' = p
      · subst e; exact ⟨i, j, hl, Int.le_refl _, fun h => by omega⟩
      · have hp0 : p ≠ 0 := by omega
        obtain ⟨i', j', b1, b2, b3⟩ := (hnz hp0).2.2.2 p' p1 (by omega)
        exact ⟨i', j', b1, by omega, fun h => by omega⟩
theorem o_wide {k : Int} (s : csc M) (r : drep M 13 D) (v : dvl D) (hk : pj_in k) (q : ∀ r o M', eqq M M' → csc M' → rwo M M' o → s_wide D k r o → Q r M') : w_X11_wide 0 k M Q := by
  have hn := v.2.2.1
  unfold w_X11_wide
  rw [rc_2, rk_1, show M 18 1 = D 73 from r.2.1.2.1]
  rintro z rfl
  have no : ¬ (1 ≤ k ∧ k ≤ D 73 + 2) → Q (-1) M := fun h => q (-1) none M eqq.rf s ⟨rfl, rfl⟩ ⟨fun _ => ⟨rfl, rfl⟩, fun h' => absurd h' h⟩
  refine ⟨hk, fun h => no (by omega), fun h1 => ⟨hk, ⟨by omega, by omega⟩, fun hle => t_lineRead s r v (fun M1 e1 s1 rd g st f => ?_), fun h => no (by omega)⟩⟩
  rintro M2 rfl
  have hkk : 1 ≤ k ∧ k ≤ D 73 + 2 := by omega
  unfold w_X11_wide_41
  refine pj_lp_inv (fun y : Int × Int × pj_M => ∃ (i : Nat) (l : List Int), y.2.1 = (i : Int) ∧ (i : Int) + k ≤ D 73 + 3 ∧ eqo M1 y.2.2 ∧ rws y.2.2 l ∧ y.1 = wcn (FD D) k i ∧ wfs (FD D) k (i : Int) l) (fun y => (D 73 + 3 - k - y.2.1).toNat) ?_ (0, 0, _) ⟨0, [], rfl, by show (0 : Int) + k ≤ _; omega, eqo.z, rws.nil, rfl, Or.inl ⟨fun i h1 h2 => by have : i < 0 := h2; omega, rfl⟩⟩
  rintro ⟨c, _, M2⟩ ⟨i, l, h2, hi, e2, rw2, hc, hl⟩ P hP
  dsimp only at h2 e2 rw2 hc hP ⊢
  subst h2
  have h19 : M2 (115 + 19) = M1 (115 + 19) := e2.row (by decide) (by decide)
  unfold w_X11_wide_41b
  refine ⟨⟨by omega, by omega⟩, ⟨by omega, by omega⟩, fun hend => ?_, fun hgo => t_leastFitting f.1 ⟨by omega, by omega⟩ ?_⟩
  · refine q c (some l) M2 ((eqq.c (Or.inl rfl) e1).tr (eqq.o e2)) (s1.o e2) rw2 ⟨fun h => absurd hkk h, fun _ => ⟨?_, l, rfl, ?_⟩⟩
    · rw [hc, show (D 73 + 3 - k).toNat = i by omega]
    · rw [show D 73 + 3 - k = (i : Int) by omega]; exact hl
  · rw [h19]
    have hb := f.2.2.2.1 (108 + ((i : Int) + k))
    have hf := f.2.2.2.2.2 (i : Int) ((i : Int) + k) (by omega) (by omega) (by omega)
    have hcast : ((i + 1 : Nat) : Int) = (i : Int) + 1 := by omega
    refine ⟨⟨by omega, by omega⟩, ⟨by omega, by omega⟩, fun hlt => ?_, fun hge => ?_⟩
    · have nf : ¬ FD D (i : Int) ((i : Int) + k) := fun h => by have := hf.mpr h; omega
      have hlb := rw2.2.1
      rw [rw2.1]
      refine ⟨⟨by omega, by omega⟩, fun hne => ?_, fun h0 => ⟨⟨by omega, by omega⟩, ?_⟩⟩
      · refine hP (c, (i : Int) + 1, M2) ⟨i + 1, l, by show (i : Int) + 1 = _; omega, by omega, e2, rw2, by show c = _; rw [wcn_s.2 nf]; exact hc, ?_⟩ (by show (D 73 + 3 - k - ((i : Int) + 1)).toNat < (D 73 + 3 - k - (i : Int)).toNat; omega)
        rcases hl with ⟨_, h5⟩ | ⟨x, a1, a2, a3, a4, a5⟩
        · rw [h5] at hne; exact absurd rfl hne
        · exact Or.inr ⟨x, a1, by omega, a3, a4, a5⟩
      · have hl0 : l = [] := by cases l with
          | nil => rfl
          | cons a b => exfalso; have : ((b.length + 1 : Nat) : Int) = 0 := h0; omega
        subst hl0
        refine t_tellMore rw2 (by decide) (fun M3 e3 rw3 => ?_)
        refine hP (c, (i : Int) + 1, M3) ⟨i + 1, [(i : Int)], by show (i : Int) + 1 = _; omega, by omega, e2.tr e3, rw3, by show c = _; rw [wcn_s.2 nf]; exact hc, ?_⟩ (by show (D 73 + 3 - k - ((i : Int) + 1)).toNat < (D 73 + 3 - k - (i : Int)).toNat; omega)
        rcases hl with ⟨h5, _⟩ | ⟨x, a1, a2, a3, a4, a5⟩
        · exact Or.inr ⟨(i : Int), by omega, by omega, nf, fun i' b1 b2 => h5 i' b1 b2, rfl⟩
        · cases a5
    · have yf : FD D (i : Int) ((i : Int) + k) := hf.mp (by omega)
      refine hP (c + 1, (i : Int) + 1, M2) ⟨i + 1, l, by show (i : Int) + 1 = _; omega, by omega, e2, rw2, by show c + 1 = _; rw [wcn_s.1 yf, hc], ?_⟩ (by show (D 73 + 3 - k - ((i : Int) + 1)).toNat < (D 73 + 3 - k - (i : Int)).toNat; omega)
      rcases hl with ⟨h5, h6⟩ | ⟨x, a1, a2, a3, a4, a5⟩
      · refine Or.inl ⟨fun i' b1 b2 => ?_, h6⟩
        by_cases e : i' = (i : Int)
        · rw [e]; exact yf
        · exact h5 i' b1 (by omega)
      · exact Or.inr ⟨x, a1, by omega, a3, a4, a5⟩
end
