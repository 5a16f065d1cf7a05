def sgn (c : Int) : Prop := 97 ≤ c ∧ c ≤ 104
theorem t_isSign {M : pj_M} {c : Int} {Q : Int → pj_M → Prop} (hc : pj_in c) (q : ∀ r, (r = 0 ∨ r = 1) → (r = 1 ↔ sgn c) → Q r M) : w_X9_isSign c M Q :=
  ⟨hc, fun h => q 0 (Or.inl rfl) (by unfold sgn; omega), fun h => ⟨hc, fun h' => q 0 (Or.inl rfl) (by unfold sgn; omega), fun h' => q 1 (Or.inr rfl) (by unfold sgn; omega)⟩⟩
/-- where a text isn't a line -/
def misL (T : Int → Int) (n r : Int) : Prop := (r = -1 ∧ n ≤ 14 ∧ ∀ p, 0 ≤ p → p < n → sgn (T p)) ∨ (0 ≤ r ∧ r < n ∧ (14 ≤ r ∨ ¬ sgn (T r)) ∧ r ≤ 14 ∧ ∀ p, 0 ≤ p → p < r → sgn (T p))
theorem misL.uniq {T : Int → Int} {n r r' : Int} (h : misL T n r) (h' : misL T n r') : r = r' := by
  rcases h with ⟨a1, a2, a3⟩ | ⟨a1, a2, a3, a4, a5⟩ <;> rcases h' with ⟨b1, b2, b3⟩ | ⟨b1, b2, b3, b4, b5⟩
  · omega
  · exfalso; rcases b3 with h | h
    · omega
    · exact h (a3 r' b1 b2)
  · exfalso; rcases a3 with h | h
    · omega
    · exact h (b3 r a1 a2)
  · apply Int.le_antisymm
    · apply Int.not_lt.mp; intro hlt
      rcases b3 with h | h
      · omega
      · exact h (a5 r' b1 hlt)
    · apply Int.not_lt.mp; intro hlt
      rcases a3 with h | h
      · omega
      · exact h (b5 r a1 hlt)
theorem misL.congr {T T' : Int → Int} {n r : Int} (h : misL T n r) (e : leq n T T') : misL T' n r := by
  rcases h with ⟨a1, a2, a3⟩ | ⟨a1, a2, a3, a4, a5⟩
  · exact Or.inl ⟨a1, a2, fun p p1 p2 => by rw [← e p p1 p2]; exact a3 p p1 p2⟩
  · exact Or.inr ⟨a1, a2, by rw [← e r a1 a2]; exact a3, a4, fun p p1 p2 => by rw [← e p p1 (by omega)]; exact a5 p p1 p2⟩
section
variable {M : pj_M} {D : Int → Int} {H K : Int → Int → Int}
theorem t_misfitOfLine {Q : Int → pj_M → Prop} (ht : (0 ≤ M 1 1 ∧ M 1 1 ≤ 80) ∧ ∀ k, 0 ≤ M 2 k ∧ M 2 k ≤ 255) (q : ∀ r, misL (M 2) (M 1 1) r → Q r M) : w_X9_misfitOfLine 1 M Q := by
  unfold w_X9_misfitOfLine w_X9_misfitOfLine_2
  refine pj_lp_inv (fun y : Int × pj_M => (0 ≤ y.1 ∧ y.1 ≤ M 1 1 ∧ y.1 ≤ 14) ∧ y.2 = M ∧ ∀ p, 0 ≤ p → p < y.1 → sgn (M 2 p)) (fun y => (M 1 1 - y.1).toNat) ?_ (0, M) ⟨⟨Int.le_refl _, ht.1.1, by show (0 : Int) ≤ 14; decide⟩, rfl, fun p p1 p2 => by have : p < 0 := p2; omega⟩
  rintro ⟨p, Mx⟩ ⟨hp, hM, hall⟩ P hP
  dsimp only at hp hM hall hP ⊢
  have hM' := hM.symm
  subst hM'
  unfold w_X9_misfitOfLine_2b
  rw [rt_0]
  have hc := ht.2 p
  refine ⟨⟨by omega, by omega⟩, ⟨by omega, by omega⟩, fun hend => q (-1) (Or.inl ⟨rfl, by omega, fun x x1 x2 => hall x x1 (by omega)⟩), fun hgo => ⟨⟨by omega, by omega⟩, fun h14 => q p (Or.inr ⟨hp.1, by omega, Or.inl h14, hp.2.2, hall⟩), fun h14 => ⟨⟨by omega, by omega⟩, t_isSign ⟨by omega, by omega⟩ (fun t ht' hiff => ⟨in01 ht', fun h => ?_, fun h => q p (Or.inr ⟨hp.1, by omega, Or.inr (fun hs => by have := hiff.mpr hs; omega), hp.2.2, hall⟩)⟩)⟩⟩⟩
  refine hP (p + 1, M) ⟨⟨by show 0 ≤ p + 1; omega, by show p + 1 ≤ M 1 1; omega, by show p + 1 ≤ 14; omega⟩, rfl, fun x x1 x2 => ?_⟩ (by show (M 1 1 - (p + 1)).toNat < (M 1 1 - p).toNat; omega)
  have x2' : x < p + 1 := x2
  by_cases e : x = p
  · rw [e]; exact hiff.mp (by omega)
  · exact hall x x1 (by omega)
/-- the text is cleared -/
theorem CI.clear (ci : CI M D H K) : CI (pj_up M 1 1 0) D H K := ci.text (fun a a1 a2 => pu_row a1) ⟨by rw [pu_eq]; exact ⟨by decide, by decide⟩, fun k => by rw [pu_ne (by decide)]; exact ci.2.2.2.2.2.1.2 k⟩
theorem o_line {Q : Int → pj_M → Prop} (ci : CI M D H K) (q0 : ∀ r, misL (M 2) (M 1 1) r → r ≠ -1 → ∀ M', (∀ a, a ≠ 1 → M' a = M a) → M' 1 1 = 0 → CI M' D H K → Q (-1 - r) M')
    (q1 : misL (M 2) (M 1 1) (-1) → ∀ M', (∀ a, a = 0 ∨ a = 2 ∨ a = 114 ∨ 186 ≤ a → M' a = M a) → M' 1 1 = 0 → M' 31 2 = min (M 31 2 + 1) 10 → (∀ D' H', chd D D' (M 1 1) (fun x => M 2 x - 97) → dvl D' → psh (M 31 2) H H' D → CI M' D' H' K) → Q (M 1 1) M') : w_X11_line 0 M Q := by
  have ht := ci.2.2.2.2.2.1
  unfold w_X11_line
  rw [rc_0, rc_5, rc_2, rk_1]
  refine t_misfitOfLine ht (fun r hr => ?_)
  have hrb : -1 ≤ r ∧ r ≤ 80 := by rcases hr with ⟨h, _⟩ | ⟨h1, h2, _⟩ <;> omega
  refine ⟨⟨by omega, by omega⟩, fun hne => ?_, fun heq => ?_⟩
  · unfold w_X11_line_38 w_X9_clear w_X11_cannotStand
    rw [rc_0]
    rintro M1 rfl
    refine ⟨⟨by omega, by omega⟩, fun _ => q0 r hr hne _ (fun a ha => pu_row ha) pu_eq ci.clear, fun h => absurd h hne⟩
  · subst heq
    obtain ⟨c1, ⟨c2, cv⟩, c3, c4, c5, c6, c7, c8⟩ := ci
    refine t_pushH (H' := fun i => if i = min (M 31 2 + 1) 10 - 1 then D else if M 31 2 < 10 then H i else H (i + 1)) (Or.inl rfl) c4 c2 cv (fun _ _ _ => rfl) (fun M1 e1 h1 z1 => ?_)
    have hn14 : M 1 1 ≤ 14 ∧ ∀ p, 0 ≤ p → p < M 1 1 → sgn (M 2 p) := by
      rcases hr with ⟨_, h2, h3⟩ | ⟨h1, _⟩
      · exact ⟨h2, h3⟩
      · omega
    have r1 : drep M1 13 D := c2.eq (fun a a1 a2 => e1 a (by omega))
    unfold w_X9_copyLineTo
    rw [e1 1 (by omega)]
    refine t_min ⟨by omega, by omega⟩ ⟨by decide, by decide⟩ (fun z hz hz1 hz2 => ?_)
    have hzn : z = M 1 1 := by omega
    subst hzn
    rintro M3 rfl
    unfold w_X9_copyLineTo_15
    have z18 : pj_up M1 18 1 (M 1 1) 18 1 = M 1 1 := pu_eq
    have z19 : pj_up M1 18 1 (M 1 1) 19 = M1 19 := pu_row (by decide)
    refine pj_lp_inv (fun y : Int × pj_M => (0 ≤ y.1 ∧ y.1 ≤ M 1 1) ∧ (∀ a, a ≠ 18 → a ≠ 19 → y.2 a = M1 a) ∧ y.2 18 1 = M 1 1 ∧ (∀ x, 0 ≤ y.2 19 x ∧ y.2 19 x ≤ 7) ∧ ∀ x, 0 ≤ x → x < y.1 → y.2 19 x = M 2 x - 97) (fun y => (M 1 1 - y.1).toNat) ?_ (0, _) ⟨⟨Int.le_refl _, ht.1.1⟩, fun a a1 a2 => pu_row a1, z18, by show ∀ x, 0 ≤ pj_up M1 18 1 (M 1 1) 19 x ∧ pj_up M1 18 1 (M 1 1) 19 x ≤ 7; rw [z19]; exact r1.2.1.1.2, fun x x1 x2 => by have : x < 0 := x2; omega⟩
    rintro ⟨p, M4⟩ ⟨hp, e4, n4, b4, w4⟩ P hP
    dsimp only at hp e4 n4 b4 w4 hP ⊢
    unfold w_X9_copyLineTo_15b
    rw [rt_0, rl_0, n4]
    refine ⟨⟨by omega, by omega⟩, ⟨by omega, by omega⟩, fun hend => ?_, fun hgo => ⟨⟨by omega, by omega⟩, ⟨by omega, by omega⟩, ?_⟩⟩
    · unfold w_X11_line_38 w_X9_clear
      rw [rc_0, rc_2, rk_1]
      rintro M5 rfl
      have row5 : ∀ a, a ≠ 1 → a ≠ 18 → a ≠ 19 → pj_up M4 1 1 0 a = M1 a := fun a a1 a2 a3 => by rw [pu_row a1]; exact e4 a a2 a3
      have n5 : pj_up M4 1 1 0 18 1 = M 1 1 := by rw [pu_ne (by decide)]; exact n4
      refine ⟨⟨by decide, by decide⟩, fun h => absurd rfl h, fun _ => ?_⟩
      rw [n5]
      have e31 : pj_up M4 1 1 0 31 = M1 31 := row5 31 (by decide) (by decide) (by decide)
      refine q1 hr _ (fun a ha => by rw [row5 a (by omega) (by omega) (by omega)]; exact e1 a (by omega)) pu_eq (by rw [e31, z1]) (fun D' H' hc hv hps => ⟨c1.eq (fun a ha => by rw [row5 a (by omega) (by omega) (by omega)]; exact e1 a (by omega)), ⟨?_, hv⟩, c3.eq (fun a a1 a2 => by rw [row5 a (by omega) (by omega) (by omega)]; exact e1 a (by omega)), ?_, kpt.eq c5 (fun a a1 a2 => by rw [row5 a (by omega) (by omega) (by omega)]; exact e1 a (by omega)) (by rw [row5 114 (by omega) (by omega) (by omega)]; exact e1 114 (by omega)), ⟨by rw [pu_eq]; exact ⟨by decide, by decide⟩, fun k => by rw [row5 2 (by decide) (by decide) (by decide), e1 2 (by omega)]; exact ht.2 k⟩, c7.eq (fun a a1 a2 => by rw [row5 a (by omega) (by omega) (by omega)]; exact e1 a (by omega)), ?_⟩)
      · have z19' : pj_up M4 1 1 0 19 = M4 19 := pu_row (by decide)
        refine r1.line cv (n := M 1 1) (w := fun x => M 2 x - 97) (fun a a1 a2 a3 a4 => row5 a (by omega) (by omega) (by omega)) ⟨by rw [show pj_up M4 1 1 0 (13 + 5) 1 = M 1 1 from n5]; omega, fun x => by rw [show pj_up M4 1 1 0 (13 + 5 + 1) = M4 19 from z19']; exact b4 x⟩ n5 (fun x x1 x2 => ?_) hc
        rw [show pj_up M4 1 1 0 (13 + 6) = M4 19 from z19']; exact w4 x x1 (by omega)
      · refine (h1.congr (H' := H') (fun i i1 i2 => ?_)).eq (fun a a1 a2 => row5 a (by omega) (by omega) (by omega))
        rw [z1] at i2
        exact hps i i1 i2
      · obtain ⟨l, hl⟩ := c8
        refine ⟨l, hl.eq ?_ ?_⟩
        · rw [row5 186 (by omega) (by omega) (by omega)]; exact e1 186 (by omega)
        · rw [row5 0 (by omega) (by omega) (by omega), e1 0 (by omega)]
    · rw [e4 2 (by decide) (by decide), e1 2 (by omega)]
      rintro M8 rfl
      have hs := hn14.2 p hp.1 (by omega)
      unfold sgn at hs
      refine hP (p + 1, _) ⟨⟨by show 0 ≤ p + 1; omega, by show p + 1 ≤ M 1 1; omega⟩, fun a a1 a2 => ?_, ?_, fun x => ?_, fun x x1 x2 => ?_⟩ (by show (M 1 1 - (p + 1)).toNat < (M 1 1 - p).toNat; omega)
      · show pj_up M4 19 p _ a = _
        rw [pu_row a2]; exact e4 a a1 a2
      · show pj_up M4 19 p (M 2 p - 97) 18 1 = _
        rw [pu_ne (by decide)]; exact n4
      · show 0 ≤ pj_up M4 19 p (M 2 p - 97) 19 x ∧ pj_up M4 19 p (M 2 p - 97) 19 x ≤ 7
        rw [pu_if]; split
        · omega
        · exact b4 x
      · have x2' : x < p + 1 := x2
        show pj_up M4 19 p (M 2 p - 97) 19 x = _
        by_cases e : x = p
        · rw [e, pu_eq]
        · rw [pu_nk e]; exact w4 x x1 (by omega)
end
/-- where a text isn't pairs of brackets -/
def okP (T : Int → Int) (p : Int) : Prop := p < 6 ∧ sgn (T p) ∧ ∀ p', 0 ≤ p' → p' < p → T p' ≠ T p
def misP (T : Int → Int) (n r : Int) : Prop := ((r = -1 ∧ n % 2 = 0 ∨ r = n ∧ n % 2 ≠ 0) ∧ ∀ p, 0 ≤ p → p < n → okP T p) ∨ (0 ≤ r ∧ r < n ∧ ¬ okP T r ∧ ∀ p, 0 ≤ p → p < r → okP T p)
theorem misP.uniq {T : Int → Int} {n r r' : Int} (h : misP T n r) (h' : misP T n r') : r = r' := by
  rcases h with ⟨a1, a2⟩ | ⟨a1, a2, a3, a4⟩ <;> rcases h' with ⟨b1, b2⟩ | ⟨b1, b2, b3, b4⟩
  · omega
  · exact absurd (a2 r' b1 b2) b3
  · exact absurd (b2 r a1 a2) a3
  · apply Int.le_antisymm
    · apply Int.not_lt.mp; intro hlt; exact b3 (a4 r' b1 hlt)
    · apply Int.not_lt.mp; intro hlt; exact a3 (b4 r a1 hlt)
theorem okP.congr {T T' : Int → Int} {n p : Int} (e : leq n T T') (hp : 0 ≤ p) (hp2 : p < n) : okP T p ↔ okP T' p := by
  unfold okP
  rw [e p hp hp2]
  constructor
  · rintro ⟨a, b, c⟩; exact ⟨a, b, fun x x1 x2 => by rw [← e x x1 (by omega)]; exact c x x1 x2⟩
  · rintro ⟨a, b, c⟩; exact ⟨a, b, fun x x1 x2 => by rw [e x x1 (by omega)]; exact c x x1 x2⟩
theorem misP.congr {T T' : Int → Int} {n r : Int} (h : misP T n r) (e : leq n T T') : misP T' n r := by
  rcases h with ⟨a1, a2⟩ | ⟨a1, a2, a3, a4⟩
  · exact Or.inl ⟨a1, fun p p1 p2 => (okP.congr e p1 p2).mp (a2 p p1 p2)⟩
  · exact Or.inr ⟨a1, a2, fun h => a3 ((okP.congr e a1 a2).mpr h), fun p p1 p2 => (okP.congr e p1 (by omega)).mp (a4 p p1 p2)⟩
