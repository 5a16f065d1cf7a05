section
variable {M : pj_M} {Q : Int → pj_M → Prop}
theorem gr_if_sym {G : gr_G} {k s t : Nat} (hk : k < G.1) (hs : s ∈ G.2.2 k) (hg : gr_gs G 8 (G.2.2 k)) (h : (s < 8 ∧ s = t) ∨ (8 ≤ s ∧ gr_if G 8 (s - 8) [t])) : gr_if G 8 (G.2.1 k) [t] := by
  obtain ⟨a, b, e⟩ := List.append_of_mem hs
  have ha : gr_gs G 8 a := fun x hx h8 => hg x (by rw [e]; exact List.mem_append_left _ hx) h8
  have hb : gr_gs G 8 b := fun x hx h8 => hg x (by rw [e]; exact List.mem_append_right _ (List.mem_cons_of_mem _ hx)) h8
  refine gr_if_of hk rfl e ?_ ha hb
  rcases h with ⟨h1, h2⟩ | h
  · exact Or.inl ⟨h1, Or.inr (by rw [h2])⟩
  · exact Or.inr h
theorem sgn_closed {D : Int → Int} {good S B : Nat} (v : vg D) (hok : md_ok D good) (hc : ∀ k, k < (gr_of D).1 → S.testBit ((gr_of D).2.1 k) = true → md_g D good (k : Int) → ∀ s, s ∈ (gr_of D).2.2 k → (s < 8 → B.testBit s = true) ∧ (8 ≤ s → S.testBit (s - 8) = true)) {t : Nat} : ∀ (d y : Nat) (w : List Nat), gr_yd (gr_of D) 8 d y w → S.testBit y = true → t ∈ w → B.testBit t = true
  | 0, _, _, h, _, _ => h.elim
  | d + 1, y, w, ⟨k, h1, h2, h3⟩, hy, ht => by
    have hk : k < 12 := by have : k < (D 0).toNat := h1; have := v.1; omega
    have hg : gr_gs (gr_of D) 8 ((gr_of D).2.2 k) := gr_gs_sq.mpr ⟨w, gr_sq_mono (fun c w h => ⟨d, h⟩) h3⟩
    have hm := md_gs_g v hk (fun c c1 c2 => (hok.2 c c1).mpr c2) hg
    obtain ⟨s, s1, s2⟩ := gr_mem1 h3 ht
    have := hc k h1 (by rw [h2]; exact hy) hm s s1
    rcases s2 with ⟨a1, a2⟩ | ⟨a1, w', a2, a3⟩
    · rw [← a2]; exact this.1 a1
    · exact sgn_closed v hok hc d _ w' a2 (this.2 a1) a3
theorem t_signsOf {b good x : Nat} (ok : mt_ok M b) (v : vg (M b)) (h12 : M 203 12 = (good : Int)) (hok : md_ok (M b) good) (hx : x < 6) (q : ∀ R : Nat, R < 256 → (∀ t, R.testBit t = true ↔ gr_if (gr_of (M b)) 8 x [t]) → Q (R : Int) M) : w_X12_signsOf 203 (x : Int) M Q := by
  have hn := v.1
  have hb1 := ok.1
  have hol := ok.2.1
  have hsh : 73 ≤ (pj_sh b).2 := by rcases ok.2.2.1 with h | h <;> rw [h] <;> decide
  have go : ∀ S0 : Nat, S0 < 64 → (∀ y, S0.testBit y = true → gr_gd (gr_of (M b)) 8 y ∧ ∀ t, gr_if (gr_of (M b)) 8 y [t] → gr_if (gr_of (M b)) 8 x [t]) → (gr_gd (gr_of (M b)) 8 x → S0.testBit x = true) → w_X12_signsOf_18 203 (S0 : Int) Q M := by
    intro S0 hS0 hs0 hg0
    unfold w_X12_signsOf_18 w_X12_signsOf_24
    refine pj_lp_inv (fun y : Int × Int × Int × pj_M => ∃ S B : Nat, y.1 = (S : Int) ∧ y.2.2.1 = (B : Int) ∧ S < 64 ∧ B < 256 ∧ y.2.2.2 = M ∧ (gr_gd (gr_of (M b)) 8 x → S.testBit x = true) ∧ (∀ y, S.testBit y = true → gr_gd (gr_of (M b)) 8 y ∧ ∀ t, gr_if (gr_of (M b)) 8 y [t] → gr_if (gr_of (M b)) 8 x [t]) ∧ (∀ t, B.testBit t = true → gr_if (gr_of (M b)) 8 x [t]) ∧ (y.2.1 = -1 ∨ ∃ was : Nat, y.2.1 = (was : Int) ∧ was ≤ S ∧ (was = S → ∀ k, k < (gr_of (M b)).1 → S.testBit ((gr_of (M b)).2.1 k) = true → md_g (M b) good (k : Int) → ∀ s, s ∈ (gr_of (M b)).2.2 k → (s < 8 → B.testBit s = true) ∧ (8 ≤ s → S.testBit (s - 8) = true)))) (fun y => (if y.2.1 = -1 then 200 else 0) + (64 - y.1.toNat) + (64 - y.2.1.toNat)) ?_ ((S0 : Int), -1, 0, M) ⟨S0, 0, rfl, rfl, hS0, by decide, rfl, hg0, hs0, fun t h => by simp at h, Or.inl rfl⟩
    rintro ⟨_, x3, _, Mx⟩ ⟨S, B, h1, h2, hS, hB, hM, hg, hs, hbs, hw⟩ P hP
    dsimp only at h1 h2 hM hw hP ⊢
    subst h1; subst h2
    have hM' := hM.symm
    subst hM'
    unfold w_X12_signsOf_24b
    refine ⟨by rcases hw with h | ⟨w, h, h2, _⟩ <;> rw [h] <;> exact ⟨by omega, by omega⟩, ⟨by omega, by omega⟩, fun he => ?_, fun hne => ?_⟩
    · refine q B hB (fun t => ⟨hbs t, fun ht => ?_⟩)
      rcases hw with h | ⟨w, h, h2, h3⟩
      · omega
      · obtain ⟨u, ⟨d, hu⟩, htu⟩ := gr_if_mem.mp ht
        exact sgn_closed v hok (h3 (by omega)) d x u hu (hg ⟨u, d, hu⟩) htu
    · unfold w_X12_signsOf_34
      refine pj_lp_inv (fun y : Int × Int × Int × pj_M => ∃ S' B' k : Nat, y.1 = (S' : Int) ∧ y.2.1 = (B' : Int) ∧ y.2.2.1 = (k : Int) ∧ (k : Int) ≤ M b 0 ∧ S' < 64 ∧ B' < 256 ∧ y.2.2.2 = M ∧ S ≤ S' ∧ (gr_gd (gr_of (M b)) 8 x → S'.testBit x = true) ∧ (∀ y, S'.testBit y = true → gr_gd (gr_of (M b)) 8 y ∧ ∀ t, gr_if (gr_of (M b)) 8 y [t] → gr_if (gr_of (M b)) 8 x [t]) ∧ (∀ t, B'.testBit t = true → gr_if (gr_of (M b)) 8 x [t]) ∧ (S' = S → ∀ k', k' < k → S.testBit ((gr_of (M b)).2.1 k') = true → md_g (M b) good (k' : Int) → ∀ s, s ∈ (gr_of (M b)).2.2 k' → (s < 8 → B'.testBit s = true) ∧ (8 ≤ s → S.testBit (s - 8) = true))) (fun y => (M b 0 - y.2.2.1).toNat) ?_ ((S : Int), (B : Int), 0, M) ⟨S, B, 0, rfl, rfl, rfl, by omega, hS, hB, rfl, Nat.le_refl _, hg, hs, hbs, fun _ k' h => absurd h (Nat.not_lt_zero _)⟩
      rintro ⟨_, _, _, Mx⟩ ⟨S1, B1, k, h1, h2, h3, hk, hS1, hB1, hM, hle, hg1, hs1, hbs1, hc1⟩ P1 hP1
      dsimp only at h1 h2 h3 hM hP1 ⊢
      subst h1; subst h2; subst h3
      have hM' := hM.symm
      subst hM'
      unfold w_X12_signsOf_34b w_X12_alt
      refine ⟨b, ⟨hb1, hol⟩, ⟨by omega, by omega⟩, ⟨by omega, by omega⟩, fun hend => ?_, fun hgo => ⟨b, ⟨hb1, hol⟩, ?_⟩⟩
      · refine hP ((S1 : Int), (S : Int), (B1 : Int), M) ⟨S1, B1, rfl, rfl, hS1, hB1, rfl, hg1, hs1, hbs1, Or.inr ⟨S, rfl, hle, fun e k' hk' => ?_⟩⟩ ?_
        · subst e
          have : k' < (M b 0).toNat := hk'
          exact hc1 rfl k' (by omega)
        · show (if (S : Int) = -1 then 200 else 0) + (64 - (S1 : Int).toNat) + (64 - (S : Int).toNat) < (if x3 = -1 then 200 else 0) + (64 - (S : Int).toNat) + (64 - x3.toNat)
          rw [if_neg (by omega)]
          rcases hw with h | ⟨w, h, h2, _⟩
          · rw [if_pos h]; omega
          · rw [if_neg (by omega)]; omega
      · have hk12 : k < 12 := by omega
        have ho := v.2.1 (k : Int) (by omega) (by omega)
        have hz := v.2.2.1 (k : Int) (by omega) (by omega)
        have hz4 : mt_sz M b (k : Int) ≤ 4 := hz.2
        obtain ⟨o, ho2⟩ : ∃ o : Nat, M b (1 + 6 * (k : Int)) = (o : Int) := ⟨(M b (1 + 6 * (k : Int))).toNat, by omega⟩
        have hoo : (gr_of (M b)).2.1 k = o := by show (M b (1 + 6 * (k : Int))).toNat = o; rw [ho2]; exact Int.toNat_natCast o
        dsimp only
        rw [ho2]
        have nx : ∀ S9 B9 : Nat, S9 < 64 → B9 < 256 → S1 ≤ S9 → (∀ t, B1.testBit t = true → B9.testBit t = true) → (gr_gd (gr_of (M b)) 8 x → S9.testBit x = true) → (∀ y, S9.testBit y = true → gr_gd (gr_of (M b)) 8 y ∧ ∀ t, gr_if (gr_of (M b)) 8 y [t] → gr_if (gr_of (M b)) 8 x [t]) → (∀ t, B9.testBit t = true → gr_if (gr_of (M b)) 8 x [t]) → (S9 = S → S.testBit o = true → md_g (M b) good (k : Int) → ∀ s, s ∈ (gr_of (M b)).2.2 k → (s < 8 → B9.testBit s = true) ∧ (8 ≤ s → S.testBit (s - 8) = true)) → P1 ((S9 : Int), (B9 : Int), (k : Int) + 1, M) := by
          intro S9 B9 g1 g2 g3 g4 g5 g6 g7 g8
          refine hP1 ((S9 : Int), (B9 : Int), (k : Int) + 1, M) ⟨S9, B9, k + 1, rfl, rfl, by show (k : Int) + 1 = _; omega, by omega, g1, g2, rfl, by omega, g5, g6, g7, fun e k' hk' hb hm s hss => ?_⟩ (by show (M b 0 - ((k : Int) + 1)).toNat < (M b 0 - (k : Int)).toNat; omega)
          by_cases e2 : k' = k
          · subst e2; rw [hoo] at hb; exact g8 e hb hm s hss
          · have := hc1 (by omega) k' (by omega) hb hm s hss
            exact ⟨fun h => g4 _ (this.1 h), this.2⟩
        refine ⟨⟨by omega, by omega⟩, t_has (by omega) (by omega) (fun r r0 r1 => ⟨in01 r0, fun hr => nx S1 B1 hS1 hB1 (Nat.le_refl _) (fun _ h => h) hg1 hs1 hbs1 (fun e hb => by rw [e] at r1; have := r1.mpr hb; omega), fun hr => ⟨b, ⟨hb1, hol⟩, ?_⟩⟩)⟩
        have hbo : S1.testBit o = true := r1.mp (r0.resolve_left hr)
        refine t_isGood hsh v h12 hok.1 ⟨by omega, by omega⟩ (fun r2 r20 r21 => ⟨in01 r20, fun hr2 => ?_, fun hr2 => nx S1 B1 hS1 hB1 (Nat.le_refl _) (fun _ h => h) hg1 hs1 hbs1 (fun e hb hm => by have := r21.mpr hm; omega)⟩)
        have hmg : md_g (M b) good (k : Int) := r21.mp (r20.resolve_left hr2)
        have hgs : gr_gs (gr_of (M b)) 8 ((gr_of (M b)).2.2 k) := md_g_gs v hk12 (fun c c1 c2 => (hok.2 c c1).mp c2) hmg
        have hkG : k < (gr_of (M b)).1 := by show k < (M b 0).toNat; omega
        unfold w_X12_signsOf_81
        refine pj_lp_inv (fun y : Int × Int × Int × pj_M => ∃ S' B' i : Nat, y.1 = (S' : Int) ∧ y.2.1 = (B' : Int) ∧ y.2.2.1 = (i : Int) ∧ (i : Int) ≤ mt_sz M b (k : Int) ∧ S' < 64 ∧ B' < 256 ∧ y.2.2.2 = M ∧ S1 ≤ S' ∧ (∀ t, B1.testBit t = true → B'.testBit t = true) ∧ (gr_gd (gr_of (M b)) 8 x → S'.testBit x = true) ∧ (∀ y, S'.testBit y = true → gr_gd (gr_of (M b)) 8 y ∧ ∀ t, gr_if (gr_of (M b)) 8 y [t] → gr_if (gr_of (M b)) 8 x [t]) ∧ (∀ t, B'.testBit t = true → gr_if (gr_of (M b)) 8 x [t]) ∧ (S' = S → ∀ i' s : Nat, i' < i → mt_sm M b (k : Int) (i' : Int) = (s : Int) → (s < 8 → B'.testBit s = true) ∧ (8 ≤ s → S.testBit (s - 8) = true))) (fun y => (mt_sz M b (k : Int) - y.2.2.1).toNat) ?_ ((S1 : Int), (B1 : Int), 0, M) ⟨S1, B1, 0, rfl, rfl, rfl, hz.1, hS1, hB1, rfl, Nat.le_refl _, fun _ h => h, hg1, hs1, hbs1, fun _ i' s h => absurd h (Nat.not_lt_zero _)⟩
        rintro ⟨_, _, _, Mx⟩ ⟨S2, B2, i, h1, h2, h3, hi, hS2, hB2, hM, hle2, hB12, hg2, hs2, hbs2, hc2⟩ P2 hP2
        dsimp only at h1 h2 h3 hM hP2 ⊢
        subst h1; subst h2; subst h3
        have hM' := hM.symm
        subst hM'
        unfold w_X12_signsOf_81b
        refine t_longOf ok ⟨by omega, by omega⟩ ⟨⟨by omega, by omega⟩, ⟨by omega, by omega⟩, fun hend => nx S2 B2 hS2 hB2 hle2 hB12 hg2 hs2 hbs2 (fun e hb hm s hss => ?_), fun hgo2 => ?_⟩
        · obtain ⟨u, u1, u2, u3⟩ := (gr_of_mem v hk12).mp hss
          have hsz : mt_sz M b (k : Int) = M b (1 + 6 * (k : Int) + 1) := rfl
          refine hc2 e u.toNat s (by omega) ?_
          show M b (1 + 6 * (k : Int) + 2 + ((u.toNat : Nat) : Int)) = _
          rw [show ((u.toNat : Nat) : Int) = u by omega]; exact u3
        · have hsm := ok.2.2.2.2.1 (k : Int) (i : Int) (by omega) (by omega) (by omega) (by omega)
          obtain ⟨sy, hsy⟩ : ∃ sy : Nat, mt_sm M b (k : Int) (i : Int) = (sy : Int) := ⟨(mt_sm M b (k : Int) (i : Int)).toNat, by omega⟩
          have hsym : sy ∈ (gr_of (M b)).2.2 k := (gr_of_mem v hk12).mpr ⟨(i : Int), by omega, by have : mt_sz M b (k : Int) = M b (1 + 6 * (k : Int) + 1) := rfl; omega, hsy⟩
          have nx2 : ∀ S9 B9 : Nat, S9 < 64 → B9 < 256 → S2 ≤ S9 → (∀ t, B2.testBit t = true → B9.testBit t = true) → (gr_gd (gr_of (M b)) 8 x → S9.testBit x = true) → (∀ y, S9.testBit y = true → gr_gd (gr_of (M b)) 8 y ∧ ∀ t, gr_if (gr_of (M b)) 8 y [t] → gr_if (gr_of (M b)) 8 x [t]) → (∀ t, B9.testBit t = true → gr_if (gr_of (M b)) 8 x [t]) → (S9 = S → (sy < 8 → B9.testBit sy = true) ∧ (8 ≤ sy → S.testBit (sy - 8) = true)) → P2 ((S9 : Int), (B9 : Int), (i : Int) + 1, M) := by
            intro S9 B9 g1 g2 g3 g4 g5 g6 g7 g8
            refine hP2 ((S9 : Int), (B9 : Int), (i : Int) + 1, M) ⟨S9, B9, i + 1, rfl, rfl, by show (i : Int) + 1 = _; omega, by omega, g1, g2, rfl, by omega, fun t h => g4 t (hB12 t h), g5, g6, g7, fun e i' s hi' hss => ?_⟩ (by show (mt_sz M b (k : Int) - ((i : Int) + 1)).toNat < (mt_sz M b (k : Int) - (i : Int)).toNat; omega)
            by_cases e2 : i' = i
            · subst e2
              have : s = sy := by omega
              rw [this]; exact g8 e
            · have := hc2 (by omega) i' s (by omega) hss
              exact ⟨fun h => g4 _ (this.1 h), this.2⟩
          refine t_symbolOf ok ⟨by omega, by omega⟩ ⟨by omega, by omega⟩ ⟨⟨by omega, by omega⟩, fun hge => t_symbolOf ok ⟨by omega, by omega⟩ ⟨by omega, by omega⟩ ?_, fun hlt => t_symbolOf ok ⟨by omega, by omega⟩ ⟨by omega, by omega⟩ ?_⟩
          · obtain ⟨c, hc⟩ : ∃ c : Nat, sy = c + 8 := ⟨sy - 8, by omega⟩
            have hp : 2 ^ c < 2 ^ 6 := Nat.pow_lt_pow_right (by decide) (by omega)
            rw [show mt_sm M b (k : Int) (i : Int) - 8 = (c : Int) by omega, pb_one (by omega), pb_or (by omega) (by omega)]
            rintro z rfl
            refine nx2 (S2 ||| 2 ^ c) B2 (Nat.or_lt_two_pow (n := 6) hS2 hp) hB2 or_le (fun _ h => h) (fun h => or_keep (hg2 h)) (fun y hy => ?_) hbs2 (fun e => ⟨fun h => by omega, fun _ => by rw [← e, show sy - 8 = c by omega]; exact or_has⟩)
            rcases or_inv hy with h | h
            · exact hs2 y h
            · subst h
              have h8 := hgs sy hsym (by omega)
              rw [show sy - 8 = y by omega] at h8
              refine ⟨h8, fun t ht => (hs1 o hbo).2 t ?_⟩
              rw [← hoo]
              exact gr_if_sym hkG hsym hgs (Or.inr ⟨by omega, by rw [show sy - 8 = y by omega]; exact ht⟩)
          · have hp : 2 ^ sy < 2 ^ 8 := Nat.pow_lt_pow_right (by decide) (by omega)
            rw [hsy, pb_one (by omega), pb_or (by omega) (by omega)]
            rintro z rfl
            refine nx2 S2 (B2 ||| 2 ^ sy) hS2 (Nat.or_lt_two_pow (n := 8) hB2 hp) (Nat.le_refl _) (fun _ h => or_keep h) hg2 hs2 (fun t ht => ?_) (fun e => ⟨fun _ => or_has, fun h => by omega⟩)
            rcases or_inv ht with h | h
            · exact hbs2 t h
            · subst h
              refine (hs1 o hbo).2 t ?_
              rw [← hoo]
              exact gr_if_sym hkG hsym hgs (Or.inl ⟨by omega, rfl⟩)
  unfold w_X12_signsOf
  rw [h12]
  refine t_has (by have := hok.1; omega) (by omega) (fun r r0 r1 => ⟨in01 r0, fun hr => go 0 (by decide) (fun y h => by simp at h) (fun h => by have := r1.mpr ((hok.2 x hx).mpr h); omega), fun hr => ?_⟩)
  have hgx : gr_gd (gr_of (M b)) 8 x := (hok.2 x hx).mp (r1.mp (r0.resolve_left hr))
  rw [pb_one (by omega)]
  refine go (2 ^ x) (show 2 ^ x < 2 ^ 6 from Nat.pow_lt_pow_right (by decide) hx) (fun y hy => ?_) (fun _ => by rw [Nat.testBit_two_pow]; simp)
  rw [Nat.testBit_two_pow, decide_eq_true_iff] at hy
  subst hy
  exact ⟨hgx, fun t h => h⟩
end
