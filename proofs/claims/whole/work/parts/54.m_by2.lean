theorem t_beginsBy {M : pj_M} {b : Nat} {k i j : Int} {Q : Int → pj_M → Prop} (ok : mt_ok M b) (b4 : bz M 214) (hk : 0 ≤ k ∧ k < 12) (hi : 0 ≤ i) (hij : i ≤ j) (hj : j ≤ 15)
    (q : ∀ r M', eqx M M' → bz M' 214 → (r = 0 ∨ r = 1) → (r = 1 ↔ i = j ∨ ∃ n : Nat, (n : Int) < mt_sz M b k ∧ ∃ m, i ≤ m ∧ m ≤ j ∧ mt_R M b k i (fun m => m = i) 0 n m ∧ mt_pt M 211 (mt_sm M b k (n : Int)) m j) → Q r M') : w_X12_beginsBy 203 k i j M Q := by
  have hz := ok.2.2.2.1 k hk.1 hk.2
  unfold w_X12_beginsBy
  refine ⟨⟨by omega, by omega⟩, ⟨by omega, by omega⟩, fun hne => ?_, fun he => q 1 M eqx.rf b4 (Or.inr rfl) ⟨fun _ => Or.inl he, fun _ => rfl⟩⟩
  refine t_onlyAt hi hij hj b4 (fun M1 e1 c1 r1 => ?_)
  unfold w_X12_beginsBy_16
  refine pj_lp_inv (fun p : Int × pj_M => ∃ n : Nat, p.1 = (n : Int) ∧ (n : Int) ≤ mt_sz M b k ∧ eqx M p.2 ∧ bz p.2 214 ∧ (∀ m, i ≤ m → m ≤ j → (p.2 214 m = 1 ↔ mt_R M b k i (fun m => m = i) 0 n m)) ∧ ∀ n' : Nat, n' < n → ∀ m, i ≤ m → m ≤ j → mt_R M b k i (fun m => m = i) 0 n' m → ¬ mt_pt M 211 (mt_sm M b k (n' : Int)) m j) (fun p => (mt_sz M b k - p.1).toNat) ?_ (0, M1) ⟨0, rfl, by show (0 : Int) ≤ _; omega, e1, c1, r1, fun n' h => absurd h (Nat.not_lt_zero _)⟩
  rintro ⟨x4, M2⟩ ⟨n, h0, h1, e2, c2, r2, f2⟩ P hP
  dsimp only at h0 h1 e2 c2 r2 f2 hP ⊢
  subst h0
  unfold w_X12_beginsBy_16b
  refine t_longOf (ok.eqx e2) hk ?_
  rw [mt_sz.eqx e2 ok.2.2.1]
  refine ⟨⟨by omega, by omega⟩, ⟨by omega, by omega⟩, fun hc => q 0 M2 e2 c2 (Or.inl rfl) ⟨fun h => absurd h (by decide), ?_⟩, fun hc => ?_⟩
  · rintro (h | ⟨n', h1, m, a1, a2, a3, a4⟩)
    · exact absurd h hne
    · exact absurd a4 (f2 n' (by omega) m a1 a2 a3)
  · have hs : 0 ≤ (n : Int) ∧ (n : Int) < 4 := by omega
    have hsm := ok.2.2.2.2.1 k (n : Int) hk.1 hk.2 hs.1 hs.2
    unfold w_X12_beginsBy_29
    refine pj_lp_inv (fun p : Int × pj_M => i ≤ p.1 ∧ p.1 ≤ j + 1 ∧ p.2 = M2 ∧ ∀ m, i ≤ m → m < p.1 → mt_R M b k i (fun m => m = i) 0 n m → ¬ mt_pt M 211 (mt_sm M b k (n : Int)) m j) (fun p => (j + 1 - p.1).toNat) ?_ (i, M2) ⟨Int.le_refl _, by show i ≤ j + 1; omega, rfl, fun m h1 h2 => absurd h1 (by have : m < i := h2; omega)⟩
    rintro ⟨x5, M3⟩ ⟨g1, g2, gM, g3⟩ P2 hP2
    dsimp only at g1 g2 gM g3 hP2 ⊢
    subst gM
    simp only [w_X12_beginsBy_29b, rm_16, rm_19]
    have next : x5 ≤ j → (mt_R M b k i (fun m => m = i) 0 n x5 → ¬ mt_pt M 211 (mt_sm M b k (n : Int)) x5 j) → P2 (x5 + 1, M3) := by
      intro hle hno
      refine hP2 (x5 + 1, M3) ⟨by show i ≤ x5 + 1; omega, by show x5 + 1 ≤ j + 1; omega, rfl, fun m a1 a2 a3 => ?_⟩ (by show (j + 1 - (x5 + 1)).toNat < (j + 1 - x5).toNat; omega)
      by_cases hm : m = x5
      · subst hm; exact hno a3
      · exact g3 m a1 (by have : m < x5 + 1 := a2; omega) a3
    refine ⟨⟨by omega, by omega⟩, ⟨by omega, by omega⟩, fun hc2 => ?_, fun hc2 => ⟨⟨by omega, by omega⟩, bz_in c2 _, fun hr => ?_, fun hr => ?_⟩⟩
    · have h5 := t_goR (s0 := 0) (n := n) (R0 := fun m => m = i) (Q := fun M4 => P ((n : Int) + 1, M4)) ok hk (by omega) hi hij hj e2 c2 r2 (fun M4 e4 c4 r4 => hP ((n : Int) + 1, M4) ⟨n + 1, by show (n : Int) + 1 = _; omega, by omega, e4, c4, r4, fun n' h m a1 a2 a3 => ?_⟩ (by show (mt_sz M b k - ((n : Int) + 1)).toNat < (mt_sz M b k - (n : Int)).toNat; omega))
      · rw [Int.zero_add] at h5
        exact h5
      · by_cases hn : n' = n
        · subst hn; exact g3 m a1 (by omega) a3
        · exact f2 n' (by omega) m a1 a2 a3
    · exact next (by omega) (fun h => absurd ((r2 x5 g1 (by omega)).mpr h) (by omega))
    · have ok3 := ok.eqx e2
      refine t_symbolOf ok3 hk hs ?_
      rw [mt_sm.eqx e2 ok.2.2.1]
      refine t_part hsm (by omega) hj (by decide) ok3.2.2.2.2.2.2.1 ok3.2.2.2.2.2.1 ok3.2.2.2.2.2.2.2.2.2 (fun r h0 h1 => ⟨by rcases h0 with h | h <;> rw [h] <;> exact ⟨by decide, by decide⟩, fun hr0 => next (by omega) (fun _ h => ?_), fun hr1 => q 1 M3 e2 c2 (Or.inr rfl) ⟨fun _ => Or.inr ⟨n, by omega, x5, g1, by omega, (r2 x5 g1 (by omega)).mp (bz_ne c2 hr), ?_⟩, fun _ => rfl⟩⟩)
      · have := h1.mpr ((mt_pt.eqx e2 (by decide) (by decide) _ _ _).mpr h)
        omega
      · exact (mt_pt.eqx e2 (by decide) (by decide) _ _ _).mp (h1.mp (h0.resolve_left hr1))
/-- reach is laid by a table: what a symbol takes in part from i on -/
theorem t_lay17 {M M1 : pj_M} {b : Nat} {k i j s : Int} {P : Int → pj_M → Prop} {E : pj_M → Prop} (ok : mt_ok M b) (hk : 0 ≤ k ∧ k < 12) (hs : 0 ≤ s ∧ s < 4) (hi : 0 ≤ i) (hij : i ≤ j) (hj : j ≤ 15) (e1 : eqx M M1) (c1 : bz M1 214)
    (F : (Int → pj_M → Prop) → Int → pj_M → Prop) (hF : ∀ (K : Int → pj_M → Prop) (x5 : Int) (M2 : pj_M), i ≤ x5 → x5 ≤ j + 1 → (j < x5 → E M2) → (¬ j < x5 → w_X12_symbolOf 203 k s M2 (fun t M3 => w_X12_part 203 212 t i x5 M3 (fun t2 M4 => (t2 = 0 ∨ t2 = 1) ∧ (0 ≤ x5 ∧ x5 < 16) ∧ ∀ M5, M5 = pj_up M4 214 x5 t2 → K (x5 + 1) M5))) → F K x5 M2)
    (q : ∀ M', eqx M M' → bz M' 214 → (∀ m, i ≤ m → m ≤ j → (M' 214 m = 1 ↔ mt_pt M 212 (mt_sm M b k s) i m)) → E M') : pj_lp (fun (K : Int × pj_M → Prop) (p : Int × pj_M) => F (fun x M => K (x, M)) p.1 p.2) (i, M1) := by
  refine pj_lp_inv (fun p : Int × pj_M => i ≤ p.1 ∧ p.1 ≤ j + 1 ∧ eqx M p.2 ∧ bz p.2 214 ∧ ∀ m, i ≤ m → m < p.1 → (p.2 214 m = 1 ↔ mt_pt M 212 (mt_sm M b k s) i m)) (fun p => (j + 1 - p.1).toNat) ?_ (i, M1) ⟨Int.le_refl _, by show i ≤ j + 1; omega, e1, c1, fun m h1 h2 => absurd h1 (by have : m < i := h2; omega)⟩
  rintro ⟨x5, M2⟩ ⟨g1, g2, e2, c2, r2⟩ P2 hP2
  dsimp only at g1 g2 e2 c2 r2 hP2 ⊢
  refine hF _ x5 M2 g1 g2 (fun hc => q M2 e2 c2 (fun m a1 a2 => r2 m a1 (by omega))) (fun hc => ?_)
  have ok3 := ok.eqx e2
  have hsm := ok.2.2.2.2.1 k s hk.1 hk.2 hs.1 hs.2
  refine t_symbolOf ok3 hk hs ?_
  rw [mt_sm.eqx e2 ok.2.2.1]
  refine t_part hsm (by omega) (by omega) (by decide) ok3.2.2.2.2.2.2.2.1 ok3.2.2.2.2.2.1 ok3.2.2.2.2.2.2.2.2.2 (fun r h0 h1 => ⟨h0, ⟨by omega, by omega⟩, fun M5 e5 => ?_⟩)
  subst e5
  refine hP2 (x5 + 1, _) ⟨by show i ≤ x5 + 1; omega, by show x5 + 1 ≤ j + 1; omega, e2.tr eqx.up, bz_up c2 h0, fun m a1 a2 => ?_⟩ (by show (j + 1 - (x5 + 1)).toNat < (j + 1 - x5).toNat; omega)
  show pj_up M2 214 x5 r 214 m = 1 ↔ _
  by_cases hm : m = x5
  · subst hm; rw [pu_eq, h1]; exact mt_pt.eqx e2 (by decide) (by decide) _ _ _
  · rw [pu_nk hm]; exact r2 m a1 (by have : m < x5 + 1 := a2; omega)
theorem t_endsBy {M : pj_M} {b : Nat} {k i j : Int} {Q : Int → pj_M → Prop} (ok : mt_ok M b) (b4 : bz M 214) (hk : 0 ≤ k ∧ k < 12) (hi : 0 ≤ i) (hij : i ≤ j) (hj : j ≤ 15)
    (q : ∀ r M', eqx M M' → bz M' 214 → (r = 0 ∨ r = 1) → (r = 1 ↔ i = j ∨ ∃ s : Nat, (s : Int) < mt_sz M b k ∧ mt_R M b k i (fun m => mt_pt M 212 (mt_sm M b k (s : Int)) i m) ((s : Int) + 1) ((mt_sz M b k).toNat - (s + 1)) j) → Q r M') : w_X12_endsBy 203 k i j M Q := by
  have hz := ok.2.2.2.1 k hk.1 hk.2
  unfold w_X12_endsBy
  refine ⟨⟨by omega, by omega⟩, ⟨by omega, by omega⟩, fun hne => ?_, fun he => q 1 M eqx.rf b4 (Or.inr rfl) ⟨fun _ => Or.inl he, fun _ => rfl⟩⟩
  unfold w_X12_endsBy_10
  refine pj_lp_inv (fun p : Int × pj_M => ∃ s : Nat, p.1 = (s : Int) ∧ (s : Int) ≤ mt_sz M b k ∧ eqx M p.2 ∧ bz p.2 214 ∧ ∀ s' : Nat, s' < s → ¬ mt_R M b k i (fun m => mt_pt M 212 (mt_sm M b k (s' : Int)) i m) ((s' : Int) + 1) ((mt_sz M b k).toNat - (s' + 1)) j) (fun p => (mt_sz M b k - p.1).toNat) ?_ (0, M) ⟨0, rfl, by show (0 : Int) ≤ _; omega, eqx.rf, b4, fun n' h => absurd h (Nat.not_lt_zero _)⟩
  rintro ⟨x4, M2⟩ ⟨s, h0, h1, e2, c2, f2⟩ P hP
  dsimp only at h0 h1 e2 c2 f2 hP ⊢
  subst h0
  unfold w_X12_endsBy_10b
  refine t_longOf (ok.eqx e2) hk ?_
  rw [mt_sz.eqx e2 ok.2.2.1]
  refine ⟨⟨by omega, by omega⟩, ⟨by omega, by omega⟩, fun hc => q 0 M2 e2 c2 (Or.inl rfl) ⟨fun h => absurd h (by decide), ?_⟩, fun hc => ?_⟩
  · rintro (h | ⟨s', h1, a3⟩)
    · exact absurd h hne
    · exact absurd a3 (f2 s' (by omega))
  · unfold w_X12_endsBy_23
    refine t_lay17 (E := fun M3 => w_X12_endsBy_66 203 k i j (s : Int) (fun x M => P (x, M)) Q ((s : Int) + 1) M3) (P := fun _ _ => True) (s := (s : Int)) ok hk (by omega) hi hij hj e2 c2 (fun K x5 M3 => w_X12_endsBy_23b 203 k i j (s : Int) (fun x M => P (x, M)) Q K x5 M3) (fun K x5 M3 a1 a2 hE hS => ?_) (fun M3 e3 c3 r3 => ?_)
    · simp only [w_X12_endsBy_23b, rm_17, rm_19]
      exact ⟨⟨by omega, by omega⟩, ⟨by omega, by omega⟩, hE, hS⟩
    · unfold w_X12_endsBy_66
      refine pj_lp_inv (fun p : Int × pj_M => ∃ n : Nat, p.1 = (s : Int) + 1 + (n : Int) ∧ p.1 ≤ mt_sz M b k ∧ eqx M p.2 ∧ bz p.2 214 ∧ ∀ m, i ≤ m → m ≤ j → (p.2 214 m = 1 ↔ mt_R M b k i (fun m => mt_pt M 212 (mt_sm M b k (s : Int)) i m) ((s : Int) + 1) n m)) (fun p => (mt_sz M b k - p.1).toNat) ?_ ((s : Int) + 1, M3) ⟨0, by show (s : Int) + 1 = _; omega, by show (s : Int) + 1 ≤ _; omega, e3, c3, r3⟩
      rintro ⟨x5, M4⟩ ⟨n, g0, g1, e4, c4, r4⟩ P2 hP2
      dsimp only at g0 g1 e4 c4 r4 hP2 ⊢
      subst g0
      unfold w_X12_endsBy_66b
      refine t_longOf (ok.eqx e4) hk ?_
      rw [mt_sz.eqx e4 ok.2.2.1]
      refine ⟨⟨by omega, by omega⟩, ⟨by omega, by omega⟩, fun hc2 => ?_, fun hc2 => ?_⟩
      · simp only [rm_19]
        have hn : (mt_sz M b k).toNat - (s + 1) = n := by omega
        refine ⟨⟨by omega, by omega⟩, bz_in c4 _, fun hr => ?_, fun hr => q 1 M4 e4 c4 (Or.inr rfl) ⟨fun _ => Or.inr ⟨s, by omega, ?_⟩, fun _ => rfl⟩⟩
        · refine hP ((s : Int) + 1, M4) ⟨s + 1, by show (s : Int) + 1 = _; omega, by omega, e4, c4, fun s' h => ?_⟩ (by show (mt_sz M b k - ((s : Int) + 1)).toNat < (mt_sz M b k - (s : Int)).toNat; omega)
          by_cases hs : s' = s
          · subst hs
            rw [hn, ← r4 j hij (Int.le_refl _)]
            omega
          · exact f2 s' (by omega)
        · rw [hn]
          exact (r4 j hij (Int.le_refl _)).mp (bz_ne c4 hr)
      · exact t_goR (s0 := (s : Int) + 1) (n := n) (Q := fun M5 => P2 ((s : Int) + 1 + (n : Int) + 1, M5)) ok hk (by omega) hi hij hj e4 c4 r4 (fun M5 e5 c5 r5 => hP2 ((s : Int) + 1 + (n : Int) + 1, M5) ⟨n + 1, by show (s : Int) + 1 + (n : Int) + 1 = _; omega, by show (s : Int) + 1 + (n : Int) + 1 ≤ _; omega, e5, c5, r5⟩ (by show (mt_sz M b k - ((s : Int) + 1 + (n : Int) + 1)).toNat < (mt_sz M b k - ((s : Int) + 1 + (n : Int))).toNat; omega))
theorem t_holdsBy {M : pj_M} {b : Nat} {k i j : Int} {Q : Int → pj_M → Prop} (ok : mt_ok M b) (b4 : bz M 214) (hk : 0 ≤ k ∧ k < 12) (hi : 0 ≤ i) (hij : i ≤ j) (hj : j ≤ 15)
    (q : ∀ r M', eqx M M' → bz M' 214 → (r = 0 ∨ r = 1) → (r = 1 ↔ i = j ∨ (∃ s : Nat, (s : Int) < mt_sz M b k ∧ mt_pt M 213 (mt_sm M b k (s : Int)) i j) ∨ ∃ s n : Nat, (s : Int) + 1 + (n : Int) < mt_sz M b k ∧ ∃ m, i ≤ m ∧ m ≤ j ∧ mt_R M b k i (fun m => mt_pt M 212 (mt_sm M b k (s : Int)) i m) ((s : Int) + 1) n m ∧ mt_pt M 211 (mt_sm M b k ((s : Int) + 1 + (n : Int))) m j) → Q r M') : w_X12_holdsBy 203 k i j M Q := by
  have hz := ok.2.2.2.1 k hk.1 hk.2
  unfold w_X12_holdsBy
  refine ⟨⟨by omega, by omega⟩, ⟨by omega, by omega⟩, fun hne => ?_, fun he => q 1 M eqx.rf b4 (Or.inr rfl) ⟨fun _ => Or.inl he, fun _ => rfl⟩⟩
  unfold w_X12_holdsBy_10
  refine pj_lp_inv (fun p : Int × pj_M => ∃ s : Nat, p.1 = (s : Int) ∧ (s : Int) ≤ mt_sz M b k ∧ p.2 = M ∧ ∀ s' : Nat, s' < s → ¬ mt_pt M 213 (mt_sm M b k (s' : Int)) i j) (fun p => (mt_sz M b k - p.1).toNat) ?_ (0, M) ⟨0, rfl, by show (0 : Int) ≤ _; omega, rfl, fun n' h => absurd h (Nat.not_lt_zero _)⟩
  rintro ⟨x4, M1⟩ ⟨s, h0, h1, hM, f1⟩ P0 hP0
  dsimp only at h0 h1 hM f1 hP0 ⊢
  subst h0
  subst hM
  unfold w_X12_holdsBy_10b
  refine t_longOf ok hk ?_
  refine ⟨⟨by omega, by omega⟩, ⟨by omega, by omega⟩, fun hc0 => ?_, fun hc0 => ?_⟩
  rotate_left
  · have hs : 0 ≤ (s : Int) ∧ (s : Int) < 4 := by omega
    refine t_symbolOf ok hk hs ?_
    simp only [rm_18]
    refine t_part (ok.2.2.2.2.1 k _ hk.1 hk.2 hs.1 hs.2) (by omega) hj (by decide) ok.2.2.2.2.2.2.2.2.1 ok.2.2.2.2.2.1 ok.2.2.2.2.2.2.2.2.2 (fun r h0 h1 => ⟨by rcases h0 with h | h <;> rw [h] <;> exact ⟨by decide, by decide⟩, fun hr => ?_, fun hr => q 1 M1 eqx.rf b4 (Or.inr rfl) ⟨fun _ => Or.inr (Or.inl ⟨s, by omega, h1.mp (h0.resolve_left hr)⟩), fun _ => rfl⟩⟩)
    refine hP0 ((s : Int) + 1, M1) ⟨s + 1, by show (s : Int) + 1 = _; omega, by omega, rfl, fun s' h => ?_⟩ (by show (mt_sz M1 b k - ((s : Int) + 1)).toNat < (mt_sz M1 b k - (s : Int)).toNat; omega)
    by_cases hs : s' = s
    · subst hs; rw [← h1]; omega
    · exact f1 s' (by omega)
  clear hP0 P0
  have fa : ∀ s' : Nat, (s' : Int) < mt_sz M1 b k → ¬ mt_pt M1 213 (mt_sm M1 b k (s' : Int)) i j := fun s' h => f1 s' (by omega)
  unfold w_X12_holdsBy_51
  refine pj_lp_inv (fun p : Int × pj_M => ∃ s : Nat, p.1 = (s : Int) ∧ (s : Int) ≤ mt_sz M1 b k ∧ eqx M1 p.2 ∧ bz p.2 214 ∧ ∀ s' n : Nat, s' < s → (s' : Int) + 1 + (n : Int) < mt_sz M1 b k → ∀ m, i ≤ m → m ≤ j → mt_R M1 b k i (fun m => mt_pt M1 212 (mt_sm M1 b k (s' : Int)) i m) ((s' : Int) + 1) n m → ¬ mt_pt M1 211 (mt_sm M1 b k ((s' : Int) + 1 + (n : Int))) m j) (fun p => (mt_sz M1 b k - p.1).toNat) ?_ (0, M1) ⟨0, rfl, by show (0 : Int) ≤ _; omega, eqx.rf, b4, fun n' _ h => absurd h (Nat.not_lt_zero _)⟩
  clear h1 f1 hc0 s
  rintro ⟨x4, M2⟩ ⟨s, h0, h1, e2, c2, f2⟩ P hP
  dsimp only at h0 h1 e2 c2 f2 hP ⊢
  subst h0
  unfold w_X12_holdsBy_51b
  refine t_longOf (ok.eqx e2) hk ?_
  rw [mt_sz.eqx e2 ok.2.2.1]
  refine ⟨⟨by omega, by omega⟩, ⟨by omega, by omega⟩, fun hc => q 0 M2 e2 c2 (Or.inl rfl) ⟨fun h => absurd h (by decide), ?_⟩, fun hc => ?_⟩
  · rintro (h | ⟨s', h1, h2⟩ | ⟨s', n, h1, m, a1, a2, a3, a4⟩)
    · exact absurd h hne
    · exact absurd h2 (fa s' h1)
    · exact absurd a4 (f2 s' n (by omega) h1 m a1 a2 a3)
  · unfold w_X12_holdsBy_64
    refine t_lay17 (E := fun M3 => w_X12_holdsBy_107 203 k i j (s : Int) (fun x M => P (x, M)) Q ((s : Int) + 1) M3) (P := fun _ _ => True) (s := (s : Int)) ok hk (by omega) hi hij hj e2 c2 (fun K x5 M3 => w_X12_holdsBy_64b 203 k i j (s : Int) (fun x M => P (x, M)) Q K x5 M3) (fun K x5 M3 a1 a2 hE hS => ?_) (fun M3 e3 c3 r3 => ?_)
    · simp only [w_X12_holdsBy_64b, rm_17, rm_19]
      exact ⟨⟨by omega, by omega⟩, ⟨by omega, by omega⟩, hE, hS⟩
    · unfold w_X12_holdsBy_107
      refine pj_lp_inv (fun p : Int × pj_M => ∃ n : Nat, p.1 = (s : Int) + 1 + (n : Int) ∧ p.1 ≤ mt_sz M1 b k ∧ eqx M1 p.2 ∧ bz p.2 214 ∧ (∀ m, i ≤ m → m ≤ j → (p.2 214 m = 1 ↔ mt_R M1 b k i (fun m => mt_pt M1 212 (mt_sm M1 b k (s : Int)) i m) ((s : Int) + 1) n m)) ∧ ∀ n' : Nat, n' < n → ∀ m, i ≤ m → m ≤ j → mt_R M1 b k i (fun m => mt_pt M1 212 (mt_sm M1 b k (s : Int)) i m) ((s : Int) + 1) n' m → ¬ mt_pt M1 211 (mt_sm M1 b k ((s : Int) + 1 + (n' : Int))) m j) (fun p => (mt_sz M1 b k - p.1).toNat) ?_ ((s : Int) + 1, M3) ⟨0, by show (s : Int) + 1 = _; omega, by show (s : Int) + 1 ≤ _; omega, e3, c3, r3, fun n' h => absurd h (Nat.not_lt_zero _)⟩
      rintro ⟨x5, M4⟩ ⟨n, g0, g1, e4, c4, r4, f4⟩ P2 hP2
      dsimp only at g0 g1 e4 c4 r4 f4 hP2 ⊢
      subst g0
      unfold w_X12_holdsBy_107b
      refine t_longOf (ok.eqx e4) hk ?_
      rw [mt_sz.eqx e4 ok.2.2.1]
      refine ⟨⟨by omega, by omega⟩, ⟨by omega, by omega⟩, fun hc2 => ?_, fun hc2 => ?_⟩
      · refine hP ((s : Int) + 1, M4) ⟨s + 1, by show (s : Int) + 1 = _; omega, by omega, e4, c4, fun s' n' h h2 m a1 a2 a3 => ?_⟩ (by show (mt_sz M1 b k - ((s : Int) + 1)).toNat < (mt_sz M1 b k - (s : Int)).toNat; omega)
        by_cases hs : s' = s
        · subst hs; exact f4 n' (by omega) m a1 a2 a3
        · exact f2 s' n' (by omega) h2 m a1 a2 a3
      · have hs : 0 ≤ (s : Int) + 1 + (n : Int) ∧ (s : Int) + 1 + (n : Int) < 4 := by omega
        have hsm := ok.2.2.2.2.1 k _ hk.1 hk.2 hs.1 hs.2
        unfold w_X12_holdsBy_120
        refine pj_lp_inv (fun p : Int × pj_M => i ≤ p.1 ∧ p.1 ≤ j + 1 ∧ p.2 = M4 ∧ ∀ m, i ≤ m → m < p.1 → mt_R M1 b k i (fun m => mt_pt M1 212 (mt_sm M1 b k (s : Int)) i m) ((s : Int) + 1) n m → ¬ mt_pt M1 211 (mt_sm M1 b k ((s : Int) + 1 + (n : Int))) m j) (fun p => (j + 1 - p.1).toNat) ?_ (i, M4) ⟨Int.le_refl _, by show i ≤ j + 1; omega, rfl, fun m h1 h2 => absurd h1 (by have : m < i := h2; omega)⟩
        rintro ⟨x6, M5⟩ ⟨a1, a2, aM, a3⟩ P3 hP3
        dsimp only at a1 a2 aM a3 hP3 ⊢
        subst aM
        simp only [w_X12_holdsBy_120b, rm_16, rm_19]
        have next : x6 ≤ j → (mt_R M1 b k i (fun m => mt_pt M1 212 (mt_sm M1 b k (s : Int)) i m) ((s : Int) + 1) n x6 → ¬ mt_pt M1 211 (mt_sm M1 b k ((s : Int) + 1 + (n : Int))) x6 j) → P3 (x6 + 1, M5) := by
          intro hle hno
          refine hP3 (x6 + 1, M5) ⟨by show i ≤ x6 + 1; omega, by show x6 + 1 ≤ j + 1; omega, rfl, fun m b1 b2 b3 => ?_⟩ (by show (j + 1 - (x6 + 1)).toNat < (j + 1 - x6).toNat; omega)
          by_cases hm : m = x6
          · subst hm; exact hno b3
          · exact a3 m b1 (by have : m < x6 + 1 := b2; omega) b3
        refine ⟨⟨by omega, by omega⟩, ⟨by omega, by omega⟩, fun hc3 => ?_, fun hc3 => ⟨⟨by omega, by omega⟩, bz_in c4 _, fun hr => ?_, fun hr => ?_⟩⟩
        · refine t_goR (s0 := (s : Int) + 1) (n := n) (Q := fun M6 => P2 ((s : Int) + 1 + (n : Int) + 1, M6)) ok hk hs hi hij hj e4 c4 r4 (fun M6 e6 c6 r6 => hP2 ((s : Int) + 1 + (n : Int) + 1, M6) ⟨n + 1, by show (s : Int) + 1 + (n : Int) + 1 = _; omega, by show (s : Int) + 1 + (n : Int) + 1 ≤ _; omega, e6, c6, r6, fun n' h m b1 b2 b3 => ?_⟩ (by show (mt_sz M1 b k - ((s : Int) + 1 + (n : Int) + 1)).toNat < (mt_sz M1 b k - ((s : Int) + 1 + (n : Int))).toNat; omega))
          by_cases hn : n' = n
          · subst hn; exact a3 m b1 (by omega) b3
          · exact f4 n' (by omega) m b1 b2 b3
        · exact next (by omega) (fun h => absurd ((r4 x6 a1 (by omega)).mpr h) (by omega))
        · have ok3 := ok.eqx e4
          refine t_symbolOf ok3 hk hs ?_
          rw [mt_sm.eqx e4 ok.2.2.1]
          refine t_part hsm (by omega) hj (by decide) ok3.2.2.2.2.2.2.1 ok3.2.2.2.2.2.1 ok3.2.2.2.2.2.2.2.2.2 (fun r h0 h1 => ⟨by rcases h0 with h | h <;> rw [h] <;> exact ⟨by decide, by decide⟩, fun hr0 => next (by omega) (fun _ h => ?_), fun hr1 => q 1 M5 e4 c4 (Or.inr rfl) ⟨fun _ => Or.inr (Or.inr ⟨s, n, by omega, x6, a1, by omega, (r4 x6 a1 (by omega)).mp (bz_ne c4 hr), ?_⟩), fun _ => rfl⟩⟩)
          · have := h1.mpr ((mt_pt.eqx e4 (by decide) (by decide) _ _ _).mpr h)
            omega
          · exact (mt_pt.eqx e4 (by decide) (by decide) _ _ _).mp (h1.mp (h0.resolve_left hr1))
