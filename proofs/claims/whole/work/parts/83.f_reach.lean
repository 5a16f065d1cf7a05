/-- what comes of a capital, in some steps -/
def grd (G : gr_G) (st : Nat) : Nat → Nat → Prop
  | 0, x => x = st
  | d + 1, x => grd G st d x ∨ ∃ k, k < G.1 ∧ grd G st d (G.2.1 k) ∧ (x + 8) ∈ G.2.2 k
def grc (G : gr_G) (st x : Nat) : Prop := ∃ d, grd G st d x
theorem grd_mono {G : gr_G} {st d d' x : Nat} (hd : d ≤ d') (h : grd G st d x) : grd G st d' x := by
  induction hd with
  | refl => exact h
  | step _ ih => exact Or.inl ih
theorem grd_stable {G : gr_G} {st d : Nat} (h : ∀ x, grd G st (d + 1) x → grd G st d x) : ∀ e x, grd G st e x → grd G st d x
  | 0, x, hx => grd_mono (Nat.zero_le d) hx
  | e + 1, x, hx => by
    rcases hx with hx | ⟨k, h1, h2, h3⟩
    · exact grd_stable h e x hx
    · exact h x (Or.inr ⟨k, h1, grd_stable h e _ h2, h3⟩)
theorem grd_few {G : gr_G} {st N : Nat} (hst : st < N) (hN : ∀ k x, k < G.1 → (x + 8) ∈ G.2.2 k → x < N) : ∀ n, (∃ d, d ≤ n ∧ ∀ x, grd G st (d + 1) x → grd G st d x) ∨ ∃ g, (∀ x, x < N → g.testBit x = true → grd G st n x) ∧ n + 1 ≤ bcn g N
  | 0 => by
    refine Or.inr ⟨0 ||| 2 ^ st, fun x _ h => ?_, ?_⟩
    · rw [pb_set] at h
      simp at h
      exact h.symm
    · have := bcn_lt (v := 0) (w := 0 ||| 2 ^ st) (p := st) (fun i h => by simp at h) (by simp) (by rw [pb_set]; simp) N hst
      omega
  | n + 1 => by
    rcases grd_few hst hN n with ⟨d, h1, h2⟩ | ⟨g, h1, h2⟩
    · exact Or.inl ⟨d, by omega, h2⟩
    · by_cases hs : ∀ x, grd G st (n + 1) x → grd G st n x
      · exact Or.inl ⟨n, by omega, hs⟩
      · have hs2 : ∃ x, grd G st (n + 1) x ∧ ¬ grd G st n x := by
          refine Classical.byContradiction fun hno => hs fun x hx => Classical.byContradiction fun hu => hno ⟨x, hx, hu⟩
        obtain ⟨x, hx, hnx⟩ := hs2
        have hxN : x < N := by
          rcases hx with hx | ⟨k, k1, k2, k3⟩
          · exact absurd hx hnx
          · exact hN k x k1 k3
        have hgx : g.testBit x = false := by
          by_cases hb : g.testBit x = true
          · exact absurd (h1 x hxN hb) hnx
          · simpa using hb
        refine Or.inr ⟨g ||| 2 ^ x, fun y hy hb => ?_, ?_⟩
        · rw [pb_set, Bool.or_eq_true, decide_eq_true_iff] at hb
          rcases hb with hb | rfl
          · exact Or.inl (h1 y hy hb)
          · exact hx
        · have := bcn_lt (v := g) (w := g ||| 2 ^ x) (p := x) (fun i h => by rw [Nat.testBit_or, h]; rfl) hgx (by rw [pb_set]; simp) N hxN
          omega
theorem grc_6 {G : gr_G} {st x : Nat} (hst : st < 6) (hN : ∀ k x, k < G.1 → (x + 8) ∈ G.2.2 k → x < 6) (h : grc G st x) : grd G st 6 x := by
  obtain ⟨e, he⟩ := h
  rcases grd_few hst hN 6 with ⟨d, h1, h2⟩ | ⟨g, h1, h2⟩
  · exact grd_mono h1 (grd_stable h2 e x he)
  · have := bcn_le g 6
    omega
theorem t_capitalsIn {M : pj_M} {b : Nat} {k : Int} {Q : Int → pj_M → Prop} (hb : isF b) (v : gvl M b) (hk : 0 ≤ k ∧ k < 12) (q : ∀ R : Nat, R < 64 → (∀ x, R.testBit x = true ↔ ∃ i : Int, 0 ≤ i ∧ i < M (b + 2) k ∧ M (b + 3) (k * 4 + i) = (x : Int) + 8) → Q (R : Int) M) : w_X3_capitalsIn b k M Q := by
  have hz := v.2.2.1 k
  unfold w_X3_capitalsIn w_X3_capitalsIn_4
  refine pj_lp_inv (fun y : Int × Int × pj_M => ∃ R n : Nat, y.1 = (R : Int) ∧ y.2.1 = (n : Int) ∧ (n : Int) ≤ M (b + 2) k ∧ y.2.2 = M ∧ R < 64 ∧ ∀ x, R.testBit x = true ↔ ∃ i : Int, 0 ≤ i ∧ i < (n : Int) ∧ M (b + 3) (k * 4 + i) = (x : Int) + 8) (fun y => (M (b + 2) k - y.2.1).toNat) ?_ (0, 0, M) ⟨0, 0, rfl, rfl, by show (0 : Int) ≤ _; omega, rfl, by decide, fun x => ⟨fun h => by simp at h, fun ⟨i, h1, h2, _⟩ => by omega⟩⟩
  rintro ⟨x2, x3, M1⟩ ⟨R, n, e1, e2, hn, e3, hR, bR⟩ P hP
  dsimp only at e1 e2 e3 hP ⊢
  subst e1; subst e2; subst e3
  unfold w_X3_capitalsIn_4b
  rw [gf_1 hb, gf_2 hb]
  refine ⟨hk, ⟨by omega, by omega⟩, ⟨by omega, by omega⟩, fun h => q R hR (fun x => ?_), fun h => ⟨⟨by omega, by omega⟩, ?_⟩⟩
  · rw [bR]
    constructor
    · rintro ⟨i, i1, i2, i3⟩; exact ⟨i, i1, by omega, i3⟩
    · rintro ⟨i, i1, i2, i3⟩; exact ⟨i, i1, by omega, i3⟩
  · rintro z5 rfl
    have hs := v.2.2.2.1 (k * 4 + (n : Int))
    have next : ∀ R' : Nat, R' < 64 → (∀ x, R'.testBit x = true ↔ R.testBit x = true ∨ M1 (b + 3) (k * 4 + (n : Int)) = (x : Int) + 8) → P ((R' : Int), (n : Int) + 1, M1) := by
      intro R' h1 h2
      refine hP ((R' : Int), (n : Int) + 1, M1) ⟨R', n + 1, rfl, by show (n : Int) + 1 = _; omega, by omega, rfl, h1, fun x => ?_⟩ (by show (M1 (b + 2) k - ((n : Int) + 1)).toNat < (M1 (b + 2) k - (n : Int)).toNat; omega)
      rw [h2, bR]
      constructor
      · rintro (⟨i, i1, i2, i3⟩ | h)
        · exact ⟨i, i1, by omega, i3⟩
        · exact ⟨(n : Int), by omega, by omega, h⟩
      · rintro ⟨i, i1, i2, i3⟩
        by_cases e : i = (n : Int)
        · subst e; exact Or.inr i3
        · exact Or.inl ⟨i, i1, by omega, i3⟩
    refine ⟨⟨by omega, by omega⟩, fun h8 => next R hR (fun x => ⟨Or.inl, fun h => h.resolve_right (fun h => by omega)⟩), fun h8 => ?_⟩
    obtain ⟨m, hm⟩ : ∃ m : Nat, M1 (b + 3) (k * 4 + (n : Int)) - 8 = (m : Int) := ⟨(M1 (b + 3) (k * 4 + (n : Int)) - 8).toNat, by omega⟩
    rw [hm]
    have hpow : 2 ^ m < 2 ^ 6 := Nat.pow_lt_pow_right (by decide) (by omega)
    rw [pb_one (by omega), pb_or (by omega) (by omega)]
    rintro z7 rfl
    refine next (R ||| 2 ^ m) (Nat.or_lt_two_pow (n := 6) hR hpow) (fun x => ?_)
    rw [pb_set, Bool.or_eq_true, decide_eq_true_iff]
    constructor
    · rintro (h | h)
      · exact Or.inl h
      · exact Or.inr (by omega)
    · rintro (h | h)
      · exact Or.inl h
      · exact Or.inr (by omega)
/-- what comes of the start is right -/
def frc (M : pj_M) (b : Nat) : Prop := ∃ R : Nat, M (b + 4) 4 = (R : Int) ∧ R < 64 ∧ ∀ x, R.testBit x = true ↔ grc (gof M b) (M b 4).toNat x
theorem gof_mem {M : pj_M} {b k s : Nat} : s ∈ (gof M b).2.2 k ↔ ∃ t : Int, 0 ≤ t ∧ t < M (b + 2) (k : Int) ∧ (M (b + 3) ((k : Int) * 4 + t)).toNat = s := sg_mem (w := gs_ M b (k : Int)) (i := 0) (j := M (b + 2) (k : Int)) (x := s)
theorem t_findReached {M : pj_M} {b : Nat} {Q : pj_M → Prop} (hb : isF b) (v : gvl M b) (q : ∀ R : Nat, R < 64 → (∀ x, R.testBit x = true ↔ grc (gof M b) (M b 4).toNat x) → Q (pj_up M (b + 4) 4 (R : Int))) : w_X3_findReached (b + 4) b M Q := by
  unfold w_X3_findReached
  have hst : 0 ≤ M b 4 ∧ M b 4 ≤ 5 := by rw [v.2.2.2.2]; exact v.2.1 0
  obtain ⟨st, hst2⟩ : ∃ n : Nat, M b 4 = (n : Int) := ⟨_, (Int.toNat_of_nonneg hst.1).symm⟩
  rw [hst2, pb_one (by omega)]
  rintro M1 rfl
  have hN : ∀ k x, k < (gof M b).1 → (x + 8) ∈ (gof M b).2.2 k → x < 6 := by
    intro k x _ hx
    obtain ⟨t, t1, t2, t3⟩ := gof_mem.mp hx
    have := v.2.2.2.1 ((k : Int) * 4 + t)
    omega
  have hpow : 2 ^ st < 2 ^ 6 := Nat.pow_lt_pow_right (by decide) (by omega)
  have up2 : ∀ x y : Int, pj_up (pj_up M (b + 4) 4 x) (b + 4) 4 y = pj_up M (b + 4) 4 y := by
    intro x y; funext b' j'; simp only [pu_if]; split <;> rfl
  have rb : ∀ (y : Int) (a : Nat), a ≠ b + 4 → pj_up M (b + 4) 4 y a = M a := fun y a h => funext fun x => pu_ne h
  have hn12 := v.1
  unfold w_X3_findReached_12
  refine pj_lp_inv (fun y : Int × pj_M => ∃ n R : Nat, y.1 = (n : Int) ∧ n ≤ 6 ∧ y.2 = pj_up M (b + 4) 4 (R : Int) ∧ R < 64 ∧ (∀ x, R.testBit x = true → grc (gof M b) st x) ∧ ∀ x, grd (gof M b) st n x → R.testBit x = true) (fun y => (6 - y.1).toNat) ?_ (0, pj_up M (b + 4) 4 ((2 ^ st : Nat) : Int)) ⟨0, 2 ^ st, rfl, by decide, rfl, by omega, fun x h => ?_, fun x h => ?_⟩
  rotate_left
  · rw [Nat.testBit_two_pow, decide_eq_true_iff] at h
    exact ⟨0, h.symm⟩
  · rw [Nat.testBit_two_pow, decide_eq_true_iff]
    exact (show x = st from h).symm
  rintro ⟨x2, M2⟩ ⟨n, R, e1, hn, e2, hR, s1, s2⟩ P hP
  dsimp only at e1 e2 hP ⊢
  subst e1; subst e2
  unfold w_X3_findReached_12b
  refine ⟨⟨by omega, by omega⟩, fun h6 => ?_, fun h6 => ?_⟩
  · refine q R hR (fun x => ?_)
    rw [hst2, Int.toNat_natCast]
    refine ⟨s1 x, fun h => s2 x ?_⟩
    rw [show n = 6 by omega]
    exact grc_6 (by omega) hN h
  unfold w_X3_findReached_20
  refine pj_lp_inv (fun y : Int × pj_M => ∃ k R' : Nat, y.1 = (k : Int) ∧ (k : Int) ≤ M b 3 ∧ y.2 = pj_up M (b + 4) 4 (R' : Int) ∧ R' < 64 ∧ (∀ x, R'.testBit x = true → grc (gof M b) st x) ∧ (∀ x, R.testBit x = true → R'.testBit x = true) ∧ ∀ k' : Nat, k' < k → R.testBit ((gof M b).2.1 k') = true → ∀ x, (x + 8) ∈ (gof M b).2.2 k' → R'.testBit x = true) (fun y => (M b 3 - y.1).toNat) ?_ (0, pj_up M (b + 4) 4 (R : Int)) ⟨0, R, rfl, by show (0 : Int) ≤ _; omega, rfl, hR, s1, fun _ h => h, fun k' h => absurd h (Nat.not_lt_zero _)⟩
  rintro ⟨x3, M3⟩ ⟨k, R', e1, hk, e2, hR', t1, t2, t3⟩ P2 hP2
  dsimp only at e1 e2 hP2 ⊢
  subst e1; subst e2
  have ho := v.2.1 (k : Int)
  obtain ⟨o, ho2⟩ : ∃ n : Nat, M (b + 1) (k : Int) = (n : Int) := ⟨_, (Int.toNat_of_nonneg ho.1).symm⟩
  have hown : (gof M b).2.1 k = o := by show (M (b + 1) (k : Int)).toNat = o; omega
  unfold w_X3_findReached_20b
  rw [rb _ b (by omega), gf_0 hb, rb _ (b + 1) (by omega), pu_eq, ho2, pb_bit (by omega) (by omega)]
  refine ⟨⟨by omega, by omega⟩, ⟨by omega, by omega⟩, fun hend => ?_, fun hend => ⟨⟨by omega, by omega⟩, ?_⟩⟩
  · refine hP ((n : Int) + 1, _) ⟨n + 1, R', by show (n : Int) + 1 = _; omega, by omega, rfl, hR', t1, fun x hx => ?_⟩ (by show (6 - ((n : Int) + 1)).toNat < (6 - (n : Int)).toNat; omega)
    rcases hx with hx | ⟨k', k1, k2, k3⟩
    · exact t2 x (s2 x hx)
    · have hk1 : k' < (M b 3).toNat := k1
      exact t3 k' (by omega) (s2 _ k2) x k3
  · have next : ∀ R9 : Nat, R9 < 64 → (∀ x, R9.testBit x = true → grc (gof M b) st x) → (∀ x, R'.testBit x = true → R9.testBit x = true) → (R.testBit o = true → ∀ x, (x + 8) ∈ (gof M b).2.2 k → R9.testBit x = true) → P2 ((k : Int) + 1, pj_up M (b + 4) 4 (R9 : Int)) := by
      intro R9 h1 h2 h3 h4
      refine hP2 ((k : Int) + 1, _) ⟨k + 1, R9, by show (k : Int) + 1 = _; omega, by omega, rfl, h1, h2, fun x h => h3 x (t2 x h), fun k' hk' hb' x hx => ?_⟩ (by show (M b 3 - ((k : Int) + 1)).toNat < (M b 3 - (k : Int)).toNat; omega)
      by_cases e : k' = k
      · subst e; exact h4 (by rw [← hown]; exact hb') x hx
      · exact h3 x (t3 k' (by omega) hb' x hx)
    by_cases hbo : R'.testBit o = true
    · rw [if_pos hbo]
      refine ⟨⟨by decide, by decide⟩, fun h => absurd h (by decide), fun _ => ?_⟩
      have v3 : gvl (pj_up M (b + 4) 4 (R' : Int)) b := by
        unfold gvl
        rw [rb _ b (by omega), rb _ (b + 1) (by omega), rb _ (b + 2) (by omega), rb _ (b + 3) (by omega)]
        exact v
      refine t_capitalsIn hb v3 ⟨by omega, by omega⟩ (fun C hC bC => ?_)
      rw [rb _ (b + 2) (by omega), rb _ (b + 3) (by omega)] at bC
      rw [pb_or (by omega) (by omega), up2]
      rintro M9 rfl
      have hin : ∀ x, C.testBit x = true ↔ (x + 8) ∈ (gof M b).2.2 k := by
        intro x
        rw [bC, gof_mem]
        constructor
        · rintro ⟨i, i1, i2, i3⟩; exact ⟨i, i1, i2, by omega⟩
        · rintro ⟨i, i1, i2, i3⟩
          have := v.2.2.2.1 ((k : Int) * 4 + i)
          exact ⟨i, i1, i2, by omega⟩
      refine next (R' ||| C) (Nat.or_lt_two_pow (n := 6) hR' hC) (fun x hx => ?_) (fun x hx => by rw [Nat.testBit_or, hx]; rfl) (fun _ x hx => by rw [Nat.testBit_or, (hin x).mpr hx]; simp)
      rw [Nat.testBit_or, Bool.or_eq_true] at hx
      rcases hx with hx | hx
      · exact t1 x hx
      · obtain ⟨d, hd⟩ := t1 o hbo
        exact ⟨d + 1, Or.inr ⟨k, by show k < (M b 3).toNat; omega, by rw [hown]; exact hd, (hin x).mp hx⟩⟩
    · rw [if_neg hbo]
      exact ⟨⟨by decide, by decide⟩, fun _ => next R' hR' t1 (fun _ h => h) (fun h => absurd (t2 o h) hbo), fun h => absurd rfl h⟩
/-- all facts are right -/
def fok (M : pj_M) (b : Nat) : Prop := fsh M b ∧ fsn M b ∧ frc M b
theorem t_learnF {M : pj_M} {b : Nat} {Q : pj_M → Prop} (hb : isF b) (v : gvl M b) (q : ∀ M', eqf b M M' → fok M' b → Q M') : w_X3_learn (b + 4) b M Q := by
  unfold w_X3_learn
  refine t_findShortest hb v (fun M1 e1 r1 f1 => t_findSigns hb (v.eqf e1) f1 (fun M2 e2 r2 f2 => t_findReached hb ((v.eqf e1).eqf e2) (fun R hR bR => ?_)))
  have e3 : eqf b M2 (pj_up M2 (b + 4) 4 (R : Int)) := eqf.up ⟨by omega, by omega⟩
  have r3 : ∀ a, a ≠ b + 4 → pj_up M2 (b + 4) 4 (R : Int) a = M2 a := fun a h => funext fun x => pu_ne h
  refine q _ ((e1.tr e2).tr e3) ⟨?_, ?_, R, pu_eq, hR, ?_⟩
  · unfold fsh
    rw [gof.eqf e3, gof.eqf e2, r3 _ (by omega), r2 _ (by omega) (by omega) (by omega)]; exact f1
  · unfold fsn b8
    rw [gof.eqf e3, r3 _ (by omega), r3 _ (by omega), r3 _ (by omega)]; exact f2
  · rw [gof.eqf e3, r3 b (by omega)]; exact bR
theorem fok.eq {M M' : pj_M} {b : Nat} (h : fok M b) (e : ∀ a, b ≤ a → a ≤ b + 8 → M' a = M a) : fok M' b := by
  have eg : gof M' b = gof M b := by
    unfold gof; rw [e b (by omega) (by omega), e (b + 1) (by omega) (by omega), e (b + 2) (by omega) (by omega), e (b + 3) (by omega) (by omega)]
  unfold fok fsh fsn b8 frc at *
  rw [eg, e b (by omega) (by omega), e (b + 4) (by omega) (by omega), e (b + 5) (by omega) (by omega), e (b + 6) (by omega) (by omega), e (b + 7) (by omega) (by omega), e (b + 8) (by omega) (by omega)]
  exact h
