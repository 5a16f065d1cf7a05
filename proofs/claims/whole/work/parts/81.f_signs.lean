/-- costs of nothing that are nothing -/
theorem kw_nil {G : gr_G} : ∀ {d x : Nat}, kwd G kz d x 0 0 0 → gr_y G 8 x []
  | 0, _, h => h.elim
  | d + 1, x, ⟨k, h1, h2, h3⟩ => by
    refine gr_y_iff.mpr ⟨k, h1, h2, ?_⟩
    have : ∀ ss : List Nat, kq1 kz (kwd G kz d) ss 0 0 0 → gr_sq 8 (gr_y G 8) ss [] := by
      intro ss
      induction ss with
      | nil => exact fun _ => rfl
      | cons s ss ih =>
        rintro ⟨m, a, b, g1, g2, g3, g4, g5⟩
        have hm : m = 0 := by omega
        have ha : a = 0 := by omega
        have hb : b = 0 := by omega
        subst hm; subst ha; subst hb
        refine ⟨[], [], rfl, ?_, ih g5⟩
        rcases g4 with ⟨_, _, g4⟩ | ⟨g4, g6⟩
        · rcases g4 with ⟨_, g4⟩ | ⟨g4, _⟩ | ⟨g4, _⟩ <;> omega
        · exact Or.inr ⟨g4, kw_nil g6⟩
    exact this _ (kq_0.mp h3)
theorem kw_nil2 {G : gr_G} : ∀ {d x : Nat}, gr_yd G 8 d x [] → kwd G kz d x 0 0 0
  | 0, _, h => h.elim
  | d + 1, x, ⟨k, h1, h2, h3⟩ => by
    refine ⟨k, h1, h2, kq_0.mpr ?_⟩
    have : ∀ ss : List Nat, gr_sq 8 (gr_yd G 8 d) ss [] → kq1 kz (kwd G kz d) ss 0 0 0 := by
      intro ss
      induction ss with
      | nil => exact fun _ => ⟨rfl, rfl⟩
      | cons s ss ih =>
        rintro ⟨u, v, e, g1, g2⟩
        obtain ⟨rfl, rfl⟩ := List.append_eq_nil_iff.mp e.symm
        refine ⟨0, 0, 0, Nat.le_refl _, Nat.le_refl _, rfl, ?_, ih g2⟩
        rcases g1 with ⟨_, g1⟩ | ⟨g1, g3⟩
        · cases g1
        · exact Or.inr ⟨g1, kw_nil2 g3⟩
    exact this _ h3
theorem fsh.nil {M : pj_M} {b : Nat} (h : fsh M b) {x : Nat} (hx : x < 6) : M (b + 5) (x : Int) = 0 ↔ gr_y (gof M b) 8 x [] := by
  rcases h x hx with ⟨m, g1, g2, ⟨⟨d, g3⟩, g4⟩⟩ | ⟨g1, g2⟩
  · constructor
    · intro h0
      have : m = 0 := by omega
      subst this
      exact kw_nil g3
    · rintro ⟨d', hd'⟩
      have := g4 0 ⟨d', kw_nil2 hd'⟩
      omega
  · exact ⟨fun h => by omega, fun h => absurd ⟨[], h⟩ g2⟩
theorem gr_pre1 {P : Nat → List Nat → Prop} {t : Nat} : ∀ {ss v : List Nat}, gr_sq 8 P ss (t :: v) → ∃ a s c, ss = a ++ s :: c ∧ gr_sq 8 P a [] ∧ ((s < 8 ∧ s = t) ∨ (8 ≤ s ∧ ∃ y, P (s - 8) (t :: y)))
  | [], v, h => by cases h
  | s :: ss, v, ⟨x, y, e, h1, h2⟩ => by
    cases x with
    | nil =>
      rw [List.nil_append] at e
      subst e
      obtain ⟨a, s', c, g1, g2, g3⟩ := gr_pre1 h2
      exact ⟨s :: a, s', c, by rw [g1]; rfl, ⟨[], [], rfl, h1, g2⟩, g3⟩
    | cons x0 x =>
      rw [List.cons_append] at e
      injection e with e1 e2
      subst e1
      refine ⟨[], s, ss, rfl, rfl, ?_⟩
      rcases h1 with ⟨g1, g2⟩ | ⟨g1, g2⟩
      · injection g2 with g3 _
        exact Or.inl ⟨g1, g3.symm⟩
      · exact Or.inr ⟨g1, x, g2⟩
theorem gr_suf1 {P : Nat → List Nat → Prop} {t : Nat} : ∀ {ss v : List Nat}, gr_sq 8 P ss (v ++ [t]) → ∃ a s c, ss = a ++ s :: c ∧ gr_sq 8 P c [] ∧ ((s < 8 ∧ s = t) ∨ (8 ≤ s ∧ ∃ y, P (s - 8) (y ++ [t])))
  | [], v, h => by have h2 : v ++ [t] = [] := h; simp at h2
  | s :: ss, v, ⟨x, y, e, h1, h2⟩ => by
    rcases List.eq_nil_or_concat y with rfl | ⟨y', t', rfl⟩
    · rw [List.append_nil] at e
      subst e
      refine ⟨[], s, ss, rfl, h2, ?_⟩
      rcases h1 with ⟨g1, g2⟩ | ⟨g1, g2⟩
      · have : t = s := by
          have := congrArg List.getLast? g2
          simpa using this
        exact Or.inl ⟨g1, this.symm⟩
      · exact Or.inr ⟨g1, v, g2⟩
    · rw [List.concat_eq_append] at e h2
      rw [← List.append_assoc] at e
      have e2 : t = t' := by
        have := congrArg List.getLast? e
        simpa using this
      subst e2
      obtain ⟨a, s', c, g1, g2, g3⟩ := gr_suf1 h2
      exact ⟨s :: a, s', c, by rw [g1]; rfl, g2, g3⟩
theorem gr_mem1 {P : Nat → List Nat → Prop} {t : Nat} : ∀ {ss w : List Nat}, gr_sq 8 P ss w → t ∈ w → ∃ s, s ∈ ss ∧ ((s < 8 ∧ s = t) ∨ (8 ≤ s ∧ ∃ y, P (s - 8) y ∧ t ∈ y))
  | [], w, h, ht => by have h2 : w = [] := h; subst h2; cases ht
  | s :: ss, w, ⟨x, y, e, h1, h2⟩, ht => by
    subst e
    rcases List.mem_append.mp ht with ht | ht
    · refine ⟨s, List.mem_cons_self .., ?_⟩
      rcases h1 with ⟨g1, g2⟩ | ⟨g1, g2⟩
      · subst g2
        exact Or.inl ⟨g1, (List.mem_singleton.mp ht).symm⟩
      · exact Or.inr ⟨g1, x, g2, ht⟩
    · obtain ⟨s', g1, g2⟩ := gr_mem1 h2 ht
      exact ⟨s', List.mem_cons_of_mem _ g1, g2⟩
theorem gr_if_mem {G : gr_G} {x t : Nat} : gr_if G 8 x [t] ↔ ∃ w, gr_y G 8 x w ∧ t ∈ w := by
  constructor
  · rintro ⟨v, w, h⟩
    exact ⟨_, h, by simp⟩
  · rintro ⟨w, h, ht⟩
    obtain ⟨u, v, rfl⟩ := List.append_of_mem ht
    exact ⟨u, v, by simpa using h⟩
/-- a row of sets of signs -/
def b8 (M : pj_M) (a : Nat) : Prop := ∀ x, 0 ≤ x → x < 6 → 0 ≤ M a x ∧ M a x < 256
/-- a symbol has a sign, by a row -/
def fsg (M : pj_M) (a : Nat) (s : Int) (t : Nat) : Prop := (s < 8 ∧ s = (t : Int)) ∨ (8 ≤ s ∧ tbit (M a (s - 8)) t)
theorem t_signsOfF {M : pj_M} {a : Nat} {s : Int} {Q : Int → pj_M → Prop} (ha : (pj_sh a).2 = 6) (h8 : b8 M a) (hs : 0 ≤ s ∧ s ≤ 13) (q : ∀ R : Nat, R < 256 → (∀ t, R.testBit t = true ↔ fsg M a s t) → Q (R : Int) M) : w_X3_signsOf a s M Q := by
  unfold w_X3_signsOf
  rw [ha]
  refine ⟨⟨by omega, by omega⟩, fun h => ⟨⟨by omega, by omega⟩, ?_⟩, fun h => ?_⟩
  · have hv := h8 (s - 8) (by omega) (by omega)
    obtain ⟨v, hv2⟩ : ∃ v : Nat, M a (s - 8) = (v : Int) := ⟨_, (Int.toNat_of_nonneg hv.1).symm⟩
    rw [hv2] at hv ⊢
    refine q v (by omega) (fun t => ?_)
    unfold fsg tbit
    rw [hv2, Int.toNat_natCast]
    exact ⟨fun h2 => Or.inr ⟨h, h2⟩, fun h2 => h2.elim (fun h3 => by omega) (fun h3 => h3.2)⟩
  · obtain ⟨n, rfl⟩ : ∃ n : Nat, s = (n : Int) := ⟨_, (Int.toNat_of_nonneg hs.1).symm⟩
    rw [pb_one (by omega)]
    refine q (2 ^ n) (show 2 ^ n < 2 ^ 8 from Nat.pow_lt_pow_right (by decide) (by omega)) (fun t => ?_)
    rw [Nat.testBit_two_pow, decide_eq_true_iff]
    unfold fsg
    constructor
    · rintro rfl; exact Or.inl ⟨by omega, rfl⟩
    · rintro (⟨_, h2⟩ | ⟨h2, _⟩) <;> omega
/-- a symbol can vanish -/
def fvn (M : pj_M) (b : Nat) (s : Int) : Prop := 8 ≤ s ∧ M (b + 5) (s - 8) = 0
theorem t_canVanish {M : pj_M} {b : Nat} {s : Int} {Q : Int → pj_M → Prop} (hb : isF b) (hv : fvs M b) (hs : 0 ≤ s ∧ s ≤ 13) (q : ∀ r : Int, (r = 0 ∨ r = 1) → (r = 1 ↔ fvn M b s) → Q r M) : w_X3_canVanish (b + 4) s M Q := by
  unfold w_X3_canVanish
  rw [ff_0 hb]
  refine ⟨⟨by omega, by omega⟩, fun h => q 0 (Or.inl rfl) ⟨fun h => absurd h (by decide), fun h2 => by have := h2.1; omega⟩, fun h => ⟨⟨by omega, by omega⟩, ?_⟩⟩
  have := hv (s - 8) (by omega) (by omega)
  exact ⟨⟨by omega, by omega⟩, fun h2 => q 0 (Or.inl rfl) ⟨fun h => absurd h (by decide), fun h3 => absurd h3.2 h2⟩, fun h2 => q 1 (Or.inr rfl) ⟨fun _ => ⟨by omega, h2⟩, fun _ => rfl⟩⟩
/-- what an alternative adds: signs that begin, that end, that are in it -/
def fB (M : pj_M) (b : Nat) (k z : Int) (n t : Nat) : Prop := ∃ i : Nat, i < n ∧ (∀ j : Nat, j < i → fvn M b (M (b + 3) (k * 4 + (j : Int)))) ∧ fsg M (b + 6) (M (b + 3) (k * 4 + (i : Int))) t
def fE (M : pj_M) (b : Nat) (k z : Int) (n t : Nat) : Prop := ∃ i : Nat, i < n ∧ (∀ j : Nat, j < i → fvn M b (M (b + 3) (k * 4 + (z - 1 - (j : Int))))) ∧ fsg M (b + 7) (M (b + 3) (k * 4 + (z - 1 - (i : Int)))) t
def fN (M : pj_M) (b : Nat) (k z : Int) (n t : Nat) : Prop := ∃ i : Nat, i < n ∧ fsg M (b + 8) (M (b + 3) (k * 4 + (i : Int))) t
theorem t_addSigns {M : pj_M} {b : Nat} {k : Int} {Q : Int → pj_M → Prop} (hb : isF b) (v : gvl M b) (hv : fvs M b) (h6 : b8 M (b + 6)) (h7 : b8 M (b + 7)) (h8 : b8 M (b + 8)) (hk : 0 ≤ k ∧ k < 12)
    (q : ∀ (r : Int) (B E I : Nat), B < 256 → E < 256 → I < 256 → (r = 0 ∨ r = 1) →
      (∀ t, B.testBit t = true ↔ tbit (M (b + 6) (M (b + 1) k)) t ∨ fB M b k (M (b + 2) k) (M (b + 2) k).toNat t) → (∀ t, E.testBit t = true ↔ tbit (M (b + 7) (M (b + 1) k)) t ∨ fE M b k (M (b + 2) k) (M (b + 2) k).toNat t) → (∀ t, I.testBit t = true ↔ tbit (M (b + 8) (M (b + 1) k)) t ∨ fN M b k (M (b + 2) k) (M (b + 2) k).toNat t) →
      (r = 0 ↔ (B : Int) = M (b + 6) (M (b + 1) k) ∧ (E : Int) = M (b + 7) (M (b + 1) k) ∧ (I : Int) = M (b + 8) (M (b + 1) k)) →
      Q r (pj_up (pj_up (pj_up M (b + 6) (M (b + 1) k) (B : Int)) (b + 7) (M (b + 1) k) (E : Int)) (b + 8) (M (b + 1) k) (I : Int))) : w_X3_addSigns (b + 4) b k M Q := by
  have hz := v.2.2.1 k
  have ho := v.2.1 k
  have g6 := h6 (M (b + 1) k) (by omega) (by omega)
  have g7 := h7 (M (b + 1) k) (by omega) (by omega)
  have g8 := h8 (M (b + 1) k) (by omega) (by omega)
  unfold w_X3_addSigns
  rw [gf_0 hb, gf_1 hb, ff_1 hb, ff_2 hb, ff_3 hb]
  refine ⟨hk, ?_⟩
  rintro z2 rfl
  refine ⟨hk, ?_⟩
  rintro z4 rfl
  refine ⟨⟨by omega, by omega⟩, ?_⟩
  rintro z6 rfl
  refine ⟨⟨by omega, by omega⟩, ?_⟩
  rintro z8 rfl
  refine ⟨⟨by omega, by omega⟩, ?_⟩
  rintro z10 rfl
  obtain ⟨B0, eB0⟩ : ∃ n : Nat, M (b + 6) (M (b + 1) k) = (n : Int) := ⟨_, (Int.toNat_of_nonneg g6.1).symm⟩
  obtain ⟨E0, eE0⟩ : ∃ n : Nat, M (b + 7) (M (b + 1) k) = (n : Int) := ⟨_, (Int.toNat_of_nonneg g7.1).symm⟩
  obtain ⟨I0, eI0⟩ : ∃ n : Nat, M (b + 8) (M (b + 1) k) = (n : Int) := ⟨_, (Int.toNat_of_nonneg g8.1).symm⟩
  rw [eB0] at g6; rw [eE0] at g7; rw [eI0] at g8
  unfold w_X3_addSigns_53
  refine pj_lp_inv (fun y : Int × Int × Int × Int × Int × Int × pj_M => ∃ B E I n : Nat, y.1 = (B : Int) ∧ y.2.1 = (E : Int) ∧ y.2.2.1 = (I : Int) ∧ y.2.2.2.2.2.1 = (n : Int) ∧ y.2.2.2.2.2.2 = M ∧ (n : Int) ≤ M (b + 2) k ∧ B < 256 ∧ E < 256 ∧ I < 256 ∧ (y.2.2.2.1 = 0 ∨ y.2.2.2.1 = 1) ∧ (y.2.2.2.2.1 = 0 ∨ y.2.2.2.2.1 = 1) ∧ (y.2.2.2.1 = 1 ↔ ∀ j : Nat, j < n → fvn M b (M (b + 3) (k * 4 + (j : Int)))) ∧ (y.2.2.2.2.1 = 1 ↔ ∀ j : Nat, j < n → fvn M b (M (b + 3) (k * 4 + (M (b + 2) k - 1 - (j : Int))))) ∧ (∀ t, B.testBit t = true ↔ B0.testBit t = true ∨ fB M b k (M (b + 2) k) n t) ∧ (∀ t, E.testBit t = true ↔ E0.testBit t = true ∨ fE M b k (M (b + 2) k) n t) ∧ (∀ t, I.testBit t = true ↔ I0.testBit t = true ∨ fN M b k (M (b + 2) k) n t)) (fun y => (M (b + 2) k - y.2.2.2.2.2.1).toNat) ?_ (M (b + 6) (M (b + 1) k), M (b + 7) (M (b + 1) k), M (b + 8) (M (b + 1) k), 1, 1, 0, M) ⟨B0, E0, I0, 0, eB0, eE0, eI0, rfl, rfl, by show (0 : Int) ≤ _; omega, by omega, by omega, by omega, Or.inr rfl, Or.inr rfl, ⟨fun _ j h => absurd h (Nat.not_lt_zero _), fun _ => rfl⟩, ⟨fun _ j h => absurd h (Nat.not_lt_zero _), fun _ => rfl⟩, fun t => ⟨Or.inl, fun h => h.resolve_right (fun ⟨i, h, _⟩ => absurd h (Nat.not_lt_zero _))⟩, fun t => ⟨Or.inl, fun h => h.resolve_right (fun ⟨i, h, _⟩ => absurd h (Nat.not_lt_zero _))⟩, fun t => ⟨Or.inl, fun h => h.resolve_right (fun ⟨i, h, _⟩ => absurd h (Nat.not_lt_zero _))⟩⟩
  rintro ⟨x6, x7, x8, x9, x10, x11, M1⟩ ⟨B, E, I, n, e1, e2, e3, e4, e5, hn, hB, hE, hI, a9, a10, f9, f10, bB, bE, bI⟩ P hP
  dsimp only at e1 e2 e3 e4 e5 a9 a10 f9 f10 hP ⊢
  subst e1; subst e2; subst e3; subst e4; subst e5
  unfold w_X3_addSigns_53b
  rw [gf_2 hb, ff_1 hb, ff_2 hb, ff_3 hb]
  refine ⟨⟨by omega, by omega⟩, ⟨by omega, by omega⟩, fun hend => ?_, fun hend => ⟨⟨by omega, by omega⟩, ?_⟩⟩
  · have hnz : n = (M1 (b + 2) k).toNat := by omega
    subst hnz
    have fin : ∀ y : Int, (y = 0 ∨ y = 1) → (y = 0 ↔ (B : Int) = M1 (b + 6) (M1 (b + 1) k) ∧ (E : Int) = M1 (b + 7) (M1 (b + 1) k) ∧ (I : Int) = M1 (b + 8) (M1 (b + 1) k)) → w_X3_addSigns_235 (b + 4) (M1 (b + 1) k) (B : Int) (E : Int) (I : Int) y Q M1 := by
      intro y hy hyy
      unfold w_X3_addSigns_235
      rw [ff_1 hb, ff_2 hb, ff_3 hb]
      refine ⟨⟨by omega, by omega⟩, ?_⟩
      rintro M17 rfl
      refine ⟨⟨by omega, by omega⟩, ?_⟩
      rintro M19 rfl
      refine ⟨⟨by omega, by omega⟩, ?_⟩
      rintro M21 rfl
      refine ⟨hy, q y B E I hB hE hI hy (fun t => ?_) (fun t => ?_) (fun t => ?_) hyy⟩
      · rw [bB]; unfold tbit; rw [eB0, Int.toNat_natCast]
      · rw [bE]; unfold tbit; rw [eE0, Int.toNat_natCast]
      · rw [bI]; unfold tbit; rw [eI0, Int.toNat_natCast]
    have one : ∀ (_ : ¬ ((B : Int) = M1 (b + 6) (M1 (b + 1) k) ∧ (E : Int) = M1 (b + 7) (M1 (b + 1) k) ∧ (I : Int) = M1 (b + 8) (M1 (b + 1) k))), w_X3_addSigns_230 (b + 4) (M1 (b + 1) k) (B : Int) (E : Int) (I : Int) Q M1 := fun h => by
      unfold w_X3_addSigns_230
      exact fin 1 (Or.inr rfl) ⟨fun h => absurd h (by decide), fun h2 => absurd h2 h⟩
    refine ⟨⟨by omega, by omega⟩, ⟨by omega, by omega⟩, ⟨by rw [eB0]; omega, by rw [eB0]; omega⟩, fun h => one (fun h2 => h h2.1), fun h1 => ⟨⟨by omega, by omega⟩, ⟨by omega, by omega⟩, ⟨by rw [eE0]; omega, by rw [eE0]; omega⟩, fun h => one (fun h2 => h h2.2.1), fun h2 => ⟨⟨by omega, by omega⟩, ⟨by omega, by omega⟩, ⟨by rw [eI0]; omega, by rw [eI0]; omega⟩, fun h3 => fin 0 (Or.inl rfl) ⟨fun _ => ⟨h1, h2, h3⟩, fun _ => rfl⟩, fun h => one (fun h2 => h h2.2.2)⟩⟩⟩
  · rintro z30 rfl
    have hl := v.2.2.2.1 (k * 4 + (n : Int))
    have hr := v.2.2.2.1 (k * 4 + (M1 (b + 2) k - 1 - (n : Int)))
    rw [show k * 4 + M1 (b + 2) k - 1 - (n : Int) = k * 4 + (M1 (b + 2) k - 1 - (n : Int)) by omega]
    refine ⟨⟨by omega, by omega⟩, ?_⟩
    rintro z32 rfl
    have step : ∀ (A F : Int → Prop) (m : Nat) (a a' : Int), (a = 1 ↔ ∀ j : Nat, j < m → F (j : Int)) → (a' = 1 ↔ a = 1 ∧ F (m : Int)) → (a' = 1 ↔ ∀ j : Nat, j < m + 1 → F (j : Int)) := by
      intro A F m a a' h1 h2
      rw [h2, h1]
      constructor
      · rintro ⟨g1, g2⟩ j hj
        by_cases e : j = m
        · subst e; exact g2
        · exact g1 j (by omega)
      · intro g; exact ⟨fun j hj => g j (by omega), g m (by omega)⟩
    have next : ∀ (B' E' I' : Nat) (a e : Int), B' < 256 → E' < 256 → I' < 256 → (a = 0 ∨ a = 1) → (e = 0 ∨ e = 1) → (a = 1 ↔ x9 = 1 ∧ fvn M1 b (M1 (b + 3) (k * 4 + (n : Int)))) → (e = 1 ↔ x10 = 1 ∧ fvn M1 b (M1 (b + 3) (k * 4 + (M1 (b + 2) k - 1 - (n : Int))))) → (∀ t, B'.testBit t = true ↔ B.testBit t = true ∨ (x9 = 1 ∧ fsg M1 (b + 6) (M1 (b + 3) (k * 4 + (n : Int))) t)) → (∀ t, E'.testBit t = true ↔ E.testBit t = true ∨ (x10 = 1 ∧ fsg M1 (b + 7) (M1 (b + 3) (k * 4 + (M1 (b + 2) k - 1 - (n : Int)))) t)) → (∀ t, I'.testBit t = true ↔ I.testBit t = true ∨ fsg M1 (b + 8) (M1 (b + 3) (k * 4 + (n : Int))) t) → P ((B' : Int), (E' : Int), (I' : Int), a, e, (n : Int) + 1, M1) := by
      intro B' E' I' a e c1 c2 c3 c4 c5 c6 c7 c8 c9 c10
      refine hP ((B' : Int), (E' : Int), (I' : Int), a, e, (n : Int) + 1, M1) ⟨B', E', I', n + 1, rfl, rfl, rfl, by show (n : Int) + 1 = _; omega, rfl, by omega, c1, c2, c3, c4, c5, step (fun _ => True) (fun j => fvn M1 b (M1 (b + 3) (k * 4 + j))) n x9 a f9 c6, step (fun _ => True) (fun j => fvn M1 b (M1 (b + 3) (k * 4 + (M1 (b + 2) k - 1 - j)))) n x10 e f10 c7, fun t => ?_, fun t => ?_, fun t => ?_⟩ (by show (M1 (b + 2) k - ((n : Int) + 1)).toNat < (M1 (b + 2) k - (n : Int)).toNat; omega)
      · rw [c8, bB, f9]
        constructor
        · rintro ((h | ⟨i, d1, d2, d3⟩) | ⟨d1, d2⟩)
          · exact Or.inl h
          · exact Or.inr ⟨i, by omega, d2, d3⟩
          · exact Or.inr ⟨n, by omega, d1, d2⟩
        · rintro (h | ⟨i, d1, d2, d3⟩)
          · exact Or.inl (Or.inl h)
          · by_cases e0 : i = n
            · subst e0; exact Or.inr ⟨d2, d3⟩
            · exact Or.inl (Or.inr ⟨i, by omega, d2, d3⟩)
      · rw [c9, bE, f10]
        constructor
        · rintro ((h | ⟨i, d1, d2, d3⟩) | ⟨d1, d2⟩)
          · exact Or.inl h
          · exact Or.inr ⟨i, by omega, d2, d3⟩
          · exact Or.inr ⟨n, by omega, d1, d2⟩
        · rintro (h | ⟨i, d1, d2, d3⟩)
          · exact Or.inl (Or.inl h)
          · by_cases e0 : i = n
            · subst e0; exact Or.inr ⟨d2, d3⟩
            · exact Or.inl (Or.inr ⟨i, by omega, d2, d3⟩)
      · rw [c10, bI]
        constructor
        · rintro ((h | ⟨i, d1, d3⟩) | d2)
          · exact Or.inl h
          · exact Or.inr ⟨i, by omega, d3⟩
          · exact Or.inr ⟨n, by omega, d2⟩
        · rintro (h | ⟨i, d1, d3⟩)
          · exact Or.inl (Or.inl h)
          · by_cases e0 : i = n
            · subst e0; exact Or.inr d3
            · exact Or.inl (Or.inr ⟨i, by omega, d3⟩)
    -- what is left, from the last on
    have s168 : ∀ (B' E' I' : Nat) (a : Int), B' < 256 → E' < 256 → I' < 256 → (a = 0 ∨ a = 1) → (a = 1 ↔ x9 = 1 ∧ fvn M1 b (M1 (b + 3) (k * 4 + (n : Int)))) → (∀ t, B'.testBit t = true ↔ B.testBit t = true ∨ (x9 = 1 ∧ fsg M1 (b + 6) (M1 (b + 3) (k * 4 + (n : Int))) t)) → (∀ t, E'.testBit t = true ↔ E.testBit t = true ∨ (x10 = 1 ∧ fsg M1 (b + 7) (M1 (b + 3) (k * 4 + (M1 (b + 2) k - 1 - (n : Int)))) t)) → (∀ t, I'.testBit t = true ↔ I.testBit t = true ∨ fsg M1 (b + 8) (M1 (b + 3) (k * 4 + (n : Int))) t) → w_X3_addSigns_168 (b + 4) b (M1 (b + 1) k) (k * 4) (M1 (b + 2) k) (B' : Int) (E' : Int) (I' : Int) x10 (n : Int) (M1 (b + 3) (k * 4 + (M1 (b + 2) k - 1 - (n : Int)))) a (fun x1 x2 x3 x4 x5 x6 M => P (x1, x2, x3, x4, x5, x6, M)) Q M1 := by
      intro B' E' I' a c1 c2 c3 c4 c6 c8 c9 c10
      unfold w_X3_addSigns_168 w_X3_addSigns_188 w_X3_addSigns_189
      refine ⟨⟨by omega, by omega⟩, fun h0 => next B' E' I' a 0 c1 c2 c3 c4 (Or.inl rfl) c6 ⟨fun h => absurd h (by decide), fun h => by omega⟩ c8 c9 c10, fun h0 => ?_⟩
      refine t_canVanish hb hv hr (fun r r0 r1 => ⟨⟨by omega, by omega⟩, fun h => next B' E' I' a 0 c1 c2 c3 c4 (Or.inl rfl) c6 ⟨fun h => absurd h (by decide), fun h2 => by have := r1.mpr h2.2; omega⟩ c8 c9 c10, fun h => next B' E' I' a 1 c1 c2 c3 c4 (Or.inr rfl) c6 ⟨fun _ => ⟨by omega, r1.mp (by omega)⟩, fun _ => rfl⟩ c8 c9 c10⟩)
    have s132 : ∀ (B' E1 : Nat), B' < 256 → E1 < 256 → (∀ t, B'.testBit t = true ↔ B.testBit t = true ∨ (x9 = 1 ∧ fsg M1 (b + 6) (M1 (b + 3) (k * 4 + (n : Int))) t)) → (∀ t, (E ||| E1).testBit t = true ↔ E.testBit t = true ∨ (x10 = 1 ∧ fsg M1 (b + 7) (M1 (b + 3) (k * 4 + (M1 (b + 2) k - 1 - (n : Int)))) t)) → w_X3_addSigns_132 (b + 4) b (M1 (b + 1) k) (k * 4) (M1 (b + 2) k) (B' : Int) (I : Int) x9 x10 (n : Int) (M1 (b + 3) (k * 4 + (n : Int))) (M1 (b + 3) (k * 4 + (M1 (b + 2) k - 1 - (n : Int)))) (E : Int) (E1 : Int) (fun x1 x2 x3 x4 x5 x6 M => P (x1, x2, x3, x4, x5, x6, M)) Q M1 := by
      intro B' E1 c1 c2 c8 c9
      unfold w_X3_addSigns_132 w_X3_addSigns_167
      rw [pb_or (by omega) (by omega), ff_3 hb]
      rintro z36 rfl
      refine t_signsOfF (ff_s3 hb) h8 hl (fun R hR bR => ?_)
      rw [pb_or (by omega) (by omega)]
      rintro z39 rfl
      have hEE : E ||| E1 < 256 := Nat.or_lt_two_pow (n := 8) hE c2
      have hII : I ||| R < 256 := Nat.or_lt_two_pow (n := 8) hI hR
      have c10 : ∀ t, (I ||| R).testBit t = true ↔ I.testBit t = true ∨ fsg M1 (b + 8) (M1 (b + 3) (k * 4 + (n : Int))) t := fun t => by rw [Nat.testBit_or, Bool.or_eq_true, bR]
      refine ⟨⟨by omega, by omega⟩, fun h0 => s168 B' _ _ 0 c1 hEE hII (Or.inl rfl) ⟨fun h => absurd h (by decide), fun h => by omega⟩ c8 c9 c10, fun h0 => ?_⟩
      exact t_canVanish hb hv hl (fun r r0 r1 => ⟨⟨by omega, by omega⟩, fun h => s168 B' _ _ 0 c1 hEE hII (Or.inl rfl) ⟨fun h => absurd h (by decide), fun h2 => by have := r1.mpr h2.2; omega⟩ c8 c9 c10, fun h => s168 B' _ _ 1 c1 hEE hII (Or.inr rfl) ⟨fun _ => ⟨by omega, r1.mp (by omega)⟩, fun _ => rfl⟩ c8 c9 c10⟩)
    have s109 : ∀ B1 : Nat, B1 < 256 → (∀ t, (B ||| B1).testBit t = true ↔ B.testBit t = true ∨ (x9 = 1 ∧ fsg M1 (b + 6) (M1 (b + 3) (k * 4 + (n : Int))) t)) → w_X3_addSigns_109 (b + 4) b (M1 (b + 1) k) (k * 4) (M1 (b + 2) k) (E : Int) (I : Int) x9 x10 (n : Int) (M1 (b + 3) (k * 4 + (n : Int))) (M1 (b + 3) (k * 4 + (M1 (b + 2) k - 1 - (n : Int)))) (B : Int) (B1 : Int) (fun x1 x2 x3 x4 x5 x6 M => P (x1, x2, x3, x4, x5, x6, M)) Q M1 := by
      intro B1 c1 c8
      unfold w_X3_addSigns_109
      rw [pb_or (by omega) (by omega), ff_2 hb]
      rintro z34 rfl
      have hBB : B ||| B1 < 256 := Nat.or_lt_two_pow (n := 8) hB c1
      refine ⟨⟨by omega, by omega⟩, fun h0 => ?_, fun h0 => t_signsOfF (ff_s2 hb) h7 hr (fun R hR bR => s132 _ R hBB hR c8 (fun t => ?_))⟩
      · have := s132 _ 0 hBB (by decide) c8 (fun t => by rw [Nat.or_zero]; exact ⟨Or.inl, fun h => h.resolve_right (fun h => by omega)⟩)
        exact this
      · rw [Nat.testBit_or, Bool.or_eq_true, bR]
        exact ⟨fun h => h.elim Or.inl (fun h => Or.inr ⟨by omega, h⟩), fun h => h.elim Or.inl (fun h => Or.inr h.2)⟩
    refine ⟨⟨by omega, by omega⟩, fun h0 => ?_, fun h0 => t_signsOfF (ff_s1 hb) h6 hl (fun R hR bR => s109 R hR (fun t => ?_))⟩
    · have := s109 0 (by decide) (fun t => by rw [Nat.or_zero]; exact ⟨Or.inl, fun h => h.resolve_right (fun h => by omega)⟩)
      exact this
    · rw [Nat.testBit_or, Bool.or_eq_true, bR]
      exact ⟨fun h => h.elim Or.inl (fun h => Or.inr ⟨by omega, h⟩), fun h => h.elim Or.inl (fun h => Or.inr h.2)⟩
