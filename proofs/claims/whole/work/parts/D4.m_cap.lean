section
variable {M : pj_M} {Q : Int → pj_M → Prop}
theorem t_manyOf {x : Int} (v : vg (M 204)) (hx : pj_in x) (q : Q (alc (M 204) x (M 204 0).toNat) M) : w_X12_manyOf 203 x M Q := by
  have hn := v.1
  unfold w_X12_manyOf w_X12_manyOf_4
  refine pj_lp_inv (fun y : Int × Int × pj_M => ∃ k : Nat, y.2.1 = (k : Int) ∧ (k : Int) ≤ M 204 0 ∧ y.1 = alc (M 204) x k ∧ y.2.2 = M) (fun y => (M 204 0 - y.2.1).toNat) ?_ (0, 0, M) ⟨0, rfl, by omega, rfl, rfl⟩
  rintro ⟨x2, _, Mx⟩ ⟨k, h1, hk, h2, hM⟩ P hP
  dsimp only at h1 h2 hM hP ⊢
  subst h1
  have hM' := hM.symm
  subst hM'
  unfold w_X12_manyOf_4b w_X12_alt
  rw [rm_0]
  refine ⟨⟨by omega, by omega⟩, ⟨by omega, by omega⟩, fun hend => ?_, fun hgo => ?_⟩
  · rw [h2, show k = (M 204 0).toNat by omega]; exact q
  · have ho := v.2.1 (k : Int) (by omega) (by omega)
    have nx : ∀ y, y = (if M 204 (1 + 6 * (k : Int)) = x then 1 else 0) → P (x2 + y, (k : Int) + 1, M) := fun y hy => hP (x2 + y, (k : Int) + 1, M) ⟨k + 1, by show (k : Int) + 1 = _; omega, by omega, by show x2 + y = alc (M 204) x k + _; rw [h2, hy], rfl⟩ (by show (M 204 0 - ((k : Int) + 1)).toNat < (M 204 0 - (k : Int)).toNat; omega)
    exact ⟨⟨by omega, by omega⟩, ⟨by omega, by omega⟩, hx, fun h => nx 0 (by rw [if_neg h]), fun h => nx 1 (by rw [if_pos h])⟩
theorem grc_step {G : gr_G} {st k x : Nat} (hk : k < G.1) (h : grc G st (G.2.1 k)) (hx : x + 8 ∈ G.2.2 k) : grc G st x := by
  obtain ⟨d, hd⟩ := h
  exact ⟨d + 1, Or.inr ⟨k, hk, hd, hx⟩⟩
theorem grc_closed {G : gr_G} {st R : Nat} (h0 : R.testBit st = true) (hc : ∀ k, k < G.1 → R.testBit (G.2.1 k) = true → ∀ x, x + 8 ∈ G.2.2 k → R.testBit x = true) : ∀ d x, grd G st d x → R.testBit x = true
  | 0, x, h => by rw [show x = st from h]; exact h0
  | d + 1, x, h => by
    rcases h with h | ⟨k, h1, h2, h3⟩
    · exact grc_closed h0 hc d x h
    · exact hc k h1 (grc_closed h0 hc d _ h2) x h3
theorem or_le {a c : Nat} : a ≤ a ||| 2 ^ c := Nat.left_le_or
theorem or_has {a c : Nat} : (a ||| 2 ^ c).testBit c = true := by rw [pb_set]; simp
theorem or_keep {a c i : Nat} (h : a.testBit i = true) : (a ||| 2 ^ c).testBit i = true := by rw [pb_set, h]; rfl
theorem or_inv {a c i : Nat} (h : (a ||| 2 ^ c).testBit i = true) : a.testBit i = true ∨ i = c := by
  rw [pb_set, Bool.or_eq_true, decide_eq_true_iff] at h
  rcases h with h | h
  · exact Or.inl h
  · exact Or.inr h.symm
theorem t_comesOfStart (ok : mt_ok M 204) (v : vg (M 204)) (q : ∀ R : Nat, R < 64 → (∀ x, R.testBit x = true ↔ grc (gr_of (M 204)) (M 204 1).toNat x) → Q (R : Int) M) : w_X12_comesOfStart 203 M Q := by
  have hn := v.1
  have hst := v.2.1 0 (by decide) (by decide)
  rw [show (1 : Int) + 6 * 0 = 1 by decide] at hst
  obtain ⟨st, hst2⟩ : ∃ st : Nat, M 204 1 = (st : Int) := ⟨(M 204 1).toNat, by omega⟩
  rw [hst2, Int.toNat_natCast] at q
  unfold w_X12_comesOfStart w_X12_start w_X12_alt
  refine ⟨204, ⟨ok.1, by decide⟩, ⟨by decide, by decide⟩, ?_⟩
  dsimp only
  rw [show (1 : Int) + 6 * 0 = 1 by decide, hst2, pb_one (by omega)]
  rintro z rfl
  have hp0 : 2 ^ st < 2 ^ 6 := Nat.pow_lt_pow_right (by decide) (by omega)
  unfold w_X12_comesOfStart_9
  refine pj_lp_inv (fun y : Int × Int × pj_M => ∃ R : Nat, y.1 = (R : Int) ∧ R < 64 ∧ y.2.2 = M ∧ R.testBit st = true ∧ (∀ x, R.testBit x = true → grc (gr_of (M 204)) st x) ∧ (y.2.1 = -1 ∨ ∃ was : Nat, y.2.1 = (was : Int) ∧ was ≤ R ∧ (was = R → ∀ k, k < (gr_of (M 204)).1 → R.testBit ((gr_of (M 204)).2.1 k) = true → ∀ x, x + 8 ∈ (gr_of (M 204)).2.2 k → R.testBit x = true))) (fun y => (if y.2.1 = -1 then 200 else 0) + (64 - y.1.toNat) + (64 - y.2.1.toNat)) ?_ (((2 ^ st : Nat) : Int), -1, M) ⟨2 ^ st, rfl, hp0, rfl, by rw [Nat.testBit_two_pow]; simp, fun x hx => by rw [Nat.testBit_two_pow, decide_eq_true_iff] at hx; exact ⟨0, hx.symm⟩, Or.inl rfl⟩
  rintro ⟨_, x2, Mx⟩ ⟨R, h1, hR, hM, h0, hs, hw⟩ P hP
  dsimp only at h1 hM hw hP ⊢
  subst h1
  have hM' := hM.symm
  subst hM'
  unfold w_X12_comesOfStart_9b
  refine ⟨by rcases hw with h | ⟨w, h, h2, _⟩ <;> rw [h] <;> exact ⟨by omega, by omega⟩, ⟨by omega, by omega⟩, fun he => ?_, fun hne => ?_⟩
  · refine q R hR (fun x => ⟨hs x, fun ⟨d, hd⟩ => ?_⟩)
    rcases hw with h | ⟨w, h, h2, h3⟩
    · omega
    · exact grc_closed h0 (h3 (by omega)) d x hd
  · unfold w_X12_comesOfStart_18
    refine pj_lp_inv (fun y : Int × Int × pj_M => ∃ R' k : Nat, y.1 = (R' : Int) ∧ y.2.1 = (k : Int) ∧ (k : Int) ≤ M 204 0 ∧ R' < 64 ∧ y.2.2 = M ∧ R ≤ R' ∧ R'.testBit st = true ∧ (∀ x, R'.testBit x = true → grc (gr_of (M 204)) st x) ∧ (R' = R → ∀ k', k' < k → R.testBit ((gr_of (M 204)).2.1 k') = true → ∀ x, x + 8 ∈ (gr_of (M 204)).2.2 k' → R.testBit x = true)) (fun y => (M 204 0 - y.2.1).toNat) ?_ ((R : Int), 0, M) ⟨R, 0, rfl, rfl, by omega, hR, rfl, Nat.le_refl _, h0, hs, fun _ k' h => absurd h (Nat.not_lt_zero _)⟩
    rintro ⟨_, _, Mx⟩ ⟨R1, k, h1, h2, hk, hR1, hM, hle, h01, hs1, hc1⟩ P1 hP1
    dsimp only at h1 h2 hM hP1 ⊢
    subst h1; subst h2
    have hM' := hM.symm
    subst hM'
    unfold w_X12_comesOfStart_18b
    rw [rm_0]
    refine ⟨⟨by omega, by omega⟩, ⟨by omega, by omega⟩, fun hend => ?_, fun hgo => ?_⟩
    · refine hP ((R1 : Int), (R : Int), M) ⟨R1, rfl, hR1, rfl, h01, hs1, Or.inr ⟨R, rfl, hle, fun e k' hk' => ?_⟩⟩ ?_
      · subst e
        have : k' < (M 204 0).toNat := hk'
        exact hc1 rfl k' (by omega)
      · show (if (R : Int) = -1 then 200 else 0) + (64 - (R1 : Int).toNat) + (64 - (R : Int).toNat) < (if x2 = -1 then 200 else 0) + (64 - (R : Int).toNat) + (64 - x2.toNat)
        rw [if_neg (by omega)]
        rcases hw with h | ⟨w, h, h2, _⟩
        · rw [if_pos h]; omega
        · rw [if_neg (by omega)]; omega
    · have ho := v.2.1 (k : Int) (by omega) (by omega)
      have hz := v.2.2.1 (k : Int) (by omega) (by omega)
      obtain ⟨o, ho2⟩ : ∃ o : Nat, M 204 (1 + 6 * (k : Int)) = (o : Int) := ⟨(M 204 (1 + 6 * (k : Int))).toNat, by omega⟩
      have hoo : (gr_of (M 204)).2.1 k = o := by show (M 204 (1 + 6 * (k : Int))).toNat = o; rw [ho2]; exact Int.toNat_natCast o
      unfold w_X12_comesOfStart_31
      refine pj_lp_inv (fun y : Int × Int × pj_M => ∃ R' i : Nat, y.1 = (R' : Int) ∧ y.2.1 = (i : Int) ∧ (i : Int) ≤ mt_sz M 204 (k : Int) ∧ R' < 64 ∧ y.2.2 = M ∧ R ≤ R' ∧ R1 ≤ R' ∧ R'.testBit st = true ∧ (∀ x, R'.testBit x = true → grc (gr_of (M 204)) st x) ∧ (R' = R → R.testBit o = true → ∀ i' : Nat, i' < i → ∀ x : Nat, mt_sm M 204 (k : Int) (i' : Int) = (x : Int) + 8 → R.testBit x = true)) (fun y => (mt_sz M 204 (k : Int) - y.2.1).toNat) ?_ ((R1 : Int), 0, M) ⟨R1, 0, rfl, rfl, hz.1, hR1, rfl, hle, Nat.le_refl _, h01, hs1, fun _ _ i' h => absurd h (Nat.not_lt_zero _)⟩
      rintro ⟨_, _, Mx⟩ ⟨R2, i, h1, h2, hi, hR2, hM, hle2, hle3, h02, hs2, hc2⟩ P2 hP2
      dsimp only at h1 h2 hM hP2 ⊢
      subst h1; subst h2
      have hM' := hM.symm
      subst hM'
      unfold w_X12_comesOfStart_31b w_X12_alt
      have hzz : mt_sz M 204 (k : Int) = M 204 (1 + 6 * (k : Int) + 1) := rfl
      refine t_longOf ok ⟨by omega, by omega⟩ ⟨⟨by omega, by omega⟩, ?_, fun hend => ?_, fun hgo2 => ?_⟩
      · have : mt_sz M 204 (k : Int) ≤ 4 := hz.2
        exact ⟨by omega, by omega⟩
      · refine hP1 ((R2 : Int), (k : Int) + 1, M) ⟨R2, k + 1, rfl, by show (k : Int) + 1 = _; omega, by omega, hR2, rfl, hle2, h02, hs2, fun e k' hk' hb x hx => ?_⟩ (by show (M 204 0 - ((k : Int) + 1)).toNat < (M 204 0 - (k : Int)).toNat; omega)
        by_cases e2 : k' = k
        · subst e2
          obtain ⟨s, s1, s2, s3⟩ := (gr_of_mem v (by omega)).mp hx
          rw [hoo] at hb
          refine hc2 e hb s.toNat (by omega) x ?_
          show M 204 (1 + 6 * (k' : Int) + 2 + ((s.toNat : Nat) : Int)) = _
          rw [show ((s.toNat : Nat) : Int) = s by omega, s3]; omega
        · exact hc1 (by omega) k' (by omega) hb x hx
      · dsimp only
        rw [rm_0, ho2]
        have hz4 : mt_sz M 204 (k : Int) ≤ 4 := hz.2
        have hsm := ok.2.2.2.2.1 (k : Int) (i : Int) (by omega) (by omega) (by omega) (by omega)
        have nx : ∀ R9 : Nat, R9 < 64 → R2 ≤ R9 → R9.testBit st = true → (∀ x, R9.testBit x = true → grc (gr_of (M 204)) st x) → (R9 = R → R.testBit o = true → ∀ x : Nat, mt_sm M 204 (k : Int) (i : Int) = (x : Int) + 8 → R.testBit x = true) → P2 ((R9 : Int), (i : Int) + 1, M) := by
          intro R9 g1 g2 g3 g4 g5
          refine hP2 ((R9 : Int), (i : Int) + 1, M) ⟨R9, i + 1, rfl, by show (i : Int) + 1 = _; omega, by omega, g1, rfl, by omega, by omega, g3, g4, fun e hb i' hi' x hx => ?_⟩ (by show (mt_sz M 204 (k : Int) - ((i : Int) + 1)).toNat < (mt_sz M 204 (k : Int) - (i : Int)).toNat; omega)
          by_cases e2 : i' = i
          · subst e2; exact g5 e hb x hx
          · exact hc2 (by omega) hb i' (by omega) x hx
        refine ⟨⟨by omega, by omega⟩, t_has (by omega) (by omega) (fun r r0 r1 => ⟨in01 r0, fun hr => nx R2 hR2 (Nat.le_refl _) h02 hs2 (fun e hb => ?_), fun hr => ?_⟩)⟩
        · rw [e] at r1; have := r1.mpr hb; omega
        · have hbo : R2.testBit o = true := r1.mp (r0.resolve_left hr)
          refine t_symbolOf ok ⟨by omega, by omega⟩ ⟨by omega, by omega⟩ ⟨⟨by omega, by omega⟩, fun hlt => nx R2 hR2 (Nat.le_refl _) h02 hs2 (fun e hb x hx => by omega), fun hge => t_symbolOf ok ⟨by omega, by omega⟩ ⟨by omega, by omega⟩ ?_⟩
          obtain ⟨c, hc⟩ : ∃ c : Nat, mt_sm M 204 (k : Int) (i : Int) - 8 = (c : Int) := ⟨(mt_sm M 204 (k : Int) (i : Int) - 8).toNat, by omega⟩
          have hp : 2 ^ c < 2 ^ 6 := Nat.pow_lt_pow_right (by decide) (by omega)
          rw [hc, pb_one (by omega), pb_or (by omega) (by omega)]
          rintro z rfl
          refine nx (R2 ||| 2 ^ c) (Nat.or_lt_two_pow (n := 6) hR2 hp) or_le (or_keep h02) (fun x hx => ?_) (fun e hb x hx => ?_)
          · rcases or_inv hx with h | h
            · exact hs2 x h
            · subst h
              refine grc_step (k := k) (by show k < (M 204 0).toNat; omega) (by rw [hoo]; exact hs2 o hbo) ((gr_of_mem v (by omega)).mpr ⟨(i : Int), by omega, hgo2 |> fun h => by have : mt_sz M 204 (k : Int) = M 204 (1 + 6 * (k : Int) + 1) := rfl; omega, ?_⟩)
              have : mt_sm M 204 (k : Int) (i : Int) = M 204 (1 + 6 * (k : Int) + 2 + (i : Int)) := rfl
              omega
          · rw [show x = c by omega, ← e]; exact or_has
end
