/-- a grammar as it lies in a row -/
def gr_of (D : Int → Int) : gr_G := ((D 0).toNat, fun k => (D (1 + (6 * (k : Int)))).toNat, fun k => (List.range (D ((1 + (6 * (k : Int))) + 1)).toNat).map (fun (i : Nat) => (D (((1 + (6 * (k : Int))) + 2) + (i : Int))).toNat))
/-- a row is a grammar's (it may have no sentence) -/
def vg (D : Int → Int) : Prop := (1 ≤ D 0 ∧ D 0 ≤ 12) ∧ (∀ k, 0 ≤ k → k < 12 → 0 ≤ D (1 + (6 * k)) ∧ D (1 + (6 * k)) ≤ 5) ∧ (∀ k, 0 ≤ k → k < 12 → 0 ≤ D ((1 + (6 * k)) + 1) ∧ D ((1 + (6 * k)) + 1) ≤ 4) ∧ ∀ k s, 0 ≤ k → k < 12 → 0 ≤ s → s < 4 → 0 ≤ D (((1 + (6 * k)) + 2) + s) ∧ D (((1 + (6 * k)) + 2) + s) ≤ 13
theorem gr_of_mem {D : Int → Int} {k x : Nat} (v : vg D) (hk : k < 12) : x ∈ (gr_of D).2.2 k ↔ ∃ s : Int, 0 ≤ s ∧ s < D ((1 + (6 * (k : Int))) + 1) ∧ D (((1 + (6 * (k : Int))) + 2) + s) = (x : Int) := by
  have hz := v.2.2.1 (k : Int) (by omega) (by omega)
  show x ∈ List.map _ _ ↔ _
  rw [List.mem_map]
  constructor
  · rintro ⟨i, hi, e⟩
    have hi := List.mem_range.mp hi
    have h2 := v.2.2.2 (k : Int) (i : Int) (by omega) (by omega) (by omega) (by omega)
    exact ⟨(i : Int), by omega, by omega, by omega⟩
  · rintro ⟨s, h1, h2, h3⟩
    have h4 := v.2.2.2 (k : Int) s (by omega) (by omega) (by omega) (by omega)
    refine ⟨s.toNat, List.mem_range.mpr (by omega), ?_⟩
    rw [show ((s.toNat : Nat) : Int) = s by omega]
    omega
/-- an alternative all of whose capitals have their bit -/
def md_g (D : Int → Int) (good : Nat) (k : Int) : Prop := ∀ s, 0 ≤ s → s < D ((1 + (6 * k)) + 1) → 8 ≤ D (((1 + (6 * k)) + 2) + s) → good.testBit (D (((1 + (6 * k)) + 2) + s) - 8).toNat = true
theorem t_isGood {M : pj_M} {b good : Nat} {k : Int} {Q : Int → pj_M → Prop} (hb : 73 ≤ (pj_sh b).2) (v : vg (M b)) (hg : M 203 12 = (good : Int)) (hgl : good < 64) (hk : 0 ≤ k ∧ k < 12) (q : ∀ r, (r = 0 ∨ r = 1) → (r = 1 ↔ md_g (M b) good k) → Q r M) : w_X12_isGood 203 b k M Q := by
  have hz := v.2.2.1 k hk.1 hk.2
  unfold w_X12_isGood w_X12_isGood_2
  refine pj_lp_inv (fun p : Int × pj_M => 0 ≤ p.1 ∧ p.1 ≤ M b ((1 + (6 * k)) + 1) ∧ p.2 = M ∧ ∀ s, 0 ≤ s → s < p.1 → 8 ≤ M b (((1 + (6 * k)) + 2) + s) → good.testBit (M b (((1 + (6 * k)) + 2) + s) - 8).toNat = true) (fun p => (M b ((1 + (6 * k)) + 1) - p.1).toNat) ?_ (0, M) ⟨Int.le_refl _, hz.1, rfl, fun s h1 h2 => absurd h1 (by have : s < 0 := h2; omega)⟩
  rintro ⟨x3, M1⟩ ⟨h1, h2, hM, h3⟩ P hP
  dsimp only at h1 h2 hM h3 hP ⊢
  subst hM
  simp only [w_X12_isGood_2b, w_X12_alt]
  refine ⟨⟨by omega, by omega⟩, ⟨by omega, by omega⟩, ⟨by omega, by omega⟩, fun hc => q 1 (Or.inr rfl) ⟨fun _ s a1 a2 a3 => h3 s a1 (by omega) a3, fun _ => rfl⟩, fun hc => ?_⟩
  have hs := v.2.2.2 k x3 hk.1 hk.2 h1 (by omega)
  have next : (8 ≤ M1 b (((1 + (6 * k)) + 2) + x3) → good.testBit (M1 b (((1 + (6 * k)) + 2) + x3) - 8).toNat = true) → P (x3 + 1, M1) := fun h => hP (x3 + 1, M1) ⟨by show 0 ≤ x3 + 1; omega, by show x3 + 1 ≤ _; omega, rfl, fun s a1 a2 a3 => by
    by_cases e : s = x3
    · subst e; exact h a3
    · exact h3 s a1 (by have : s < x3 + 1 := a2; omega) a3⟩ (by show (M1 b ((1 + (6 * k)) + 1) - (x3 + 1)).toNat < (M1 b ((1 + (6 * k)) + 1) - x3).toNat; omega)
  refine ⟨⟨by omega, by omega⟩, ⟨by omega, by omega⟩, fun h8 => next (fun h => by omega), fun h8 => ⟨⟨by omega, by omega⟩, ?_⟩⟩
  obtain ⟨c, hc8⟩ : ∃ c : Nat, M1 b (((1 + (6 * k)) + 2) + x3) - 8 = (c : Int) := ⟨(M1 b (((1 + (6 * k)) + 2) + x3) - 8).toNat, by omega⟩
  rw [hc8, hg]
  refine t_has (by omega) (by omega) (fun r r0 r1 => ⟨by rcases r0 with h | h <;> rw [h] <;> exact ⟨by decide, by decide⟩, fun hr => next (fun _ => ?_), fun hr => q 0 (Or.inl rfl) ⟨fun h => absurd h (by decide), fun h => ?_⟩⟩)
  · rw [hc8, Int.toNat_natCast]
    exact r1.mp (r0.resolve_left hr)
  · exfalso
    have := h x3 h1 (by omega) (by omega)
    rw [hc8, Int.toNat_natCast, ← r1] at this
    omega
/-- the set of capitals that yield something, as bits -/
def md_ok (D : Int → Int) (good : Nat) : Prop := good < 64 ∧ ∀ c : Nat, c < 6 → (good.testBit c = true ↔ gr_gd (gr_of D) 8 c)
theorem md_g_gs {D : Int → Int} {good k : Nat} (v : vg D) (hk : k < 12) (h : ∀ c : Nat, c < 6 → good.testBit c = true → gr_gd (gr_of D) 8 c) (hg : md_g D good (k : Int)) : gr_gs (gr_of D) 8 ((gr_of D).2.2 k) := by
  intro x hx h8
  obtain ⟨s, h1, h2, h3⟩ := (gr_of_mem v hk).mp hx
  have hz := v.2.2.1 (k : Int) (by omega) (by omega)
  have h4 := v.2.2.2 (k : Int) s (by omega) (by omega) h1 (by omega)
  have := hg s h1 h2 (by omega)
  refine h (x - 8) (by omega) ?_
  rwa [h3, show ((x : Int) - 8).toNat = x - 8 by omega] at this
theorem md_gs_g {D : Int → Int} {good k : Nat} (v : vg D) (hk : k < 12) (h : ∀ c : Nat, c < 6 → gr_gd (gr_of D) 8 c → good.testBit c = true) (hg : gr_gs (gr_of D) 8 ((gr_of D).2.2 k)) : md_g D good (k : Int) := by
  intro s h1 h2 h3
  have hz := v.2.2.1 (k : Int) (by omega) (by omega)
  have h4 := v.2.2.2 (k : Int) s (by omega) (by omega) h1 (by omega)
  have hm : (D (((1 + (6 * (k : Int))) + 2) + s)).toNat ∈ (gr_of D).2.2 k := (gr_of_mem v hk).mpr ⟨s, h1, h2, by omega⟩
  have := h ((D (((1 + (6 * (k : Int))) + 2) + s)).toNat - 8) (by omega) (hg _ hm (by omega))
  rwa [show (D (((1 + (6 * (k : Int))) + 2) + s)).toNat - 8 = (D (((1 + (6 * (k : Int))) + 2) + s) - 8).toNat by omega] at this
/-- closed sets of bits have all capitals that yield something -/
theorem md_closed {D : Int → Int} {good : Nat} (v : vg D) (hc : ∀ k : Nat, k < (D 0).toNat → md_g D good (k : Int) → good.testBit (D (1 + (6 * (k : Int)))).toNat = true) : ∀ (d c : Nat) (w : List Nat), gr_yd (gr_of D) 8 d c w → good.testBit c = true
  | 0, _, _, h => h.elim
  | d + 1, c, w, ⟨k, h1, h2, h3⟩ => by
    have hk : k < 12 := by have : k < (D 0).toNat := h1; have := v.1; omega
    have hz := v.2.2.1 (k : Int) (by omega) (by omega)
    have := hc k h1 (fun s a1 a2 a3 => by
      have h4 := v.2.2.2 (k : Int) s (by omega) (by omega) a1 (by omega)
      have hm : (D (((1 + (6 * (k : Int))) + 2) + s)).toNat ∈ (gr_of D).2.2 k := (gr_of_mem v hk).mpr ⟨s, a1, a2, by omega⟩
      obtain ⟨x, y, e⟩ := List.append_of_mem hm
      rw [e] at h3
      obtain ⟨u, w2, -, -, u2, v2, -, hs, -⟩ := gr_sq_app.mp h3
      rcases hs with hs | ⟨-, hs⟩
      · omega
      · have := md_closed v hc d _ _ hs
        rwa [show (D (((1 + (6 * (k : Int))) + 2) + s)).toNat - 8 = (D (((1 + (6 * (k : Int))) + 2) + s) - 8).toNat by omega] at this)
    rwa [show (D (1 + (6 * (k : Int)))).toNat = c from h2] at this
theorem t_layGood {M : pj_M} {b : Nat} {Q : pj_M → Prop} (hb : 73 ≤ (pj_sh b).2) (hb2 : b ≠ 203) (v : vg (M b)) (q : ∀ good : Nat, md_ok (M b) good → Q (pj_up M 203 12 (good : Int))) : w_X12_layGood 203 b M Q := by
  unfold w_X12_layGood
  rintro M0 rfl
  unfold w_X12_layGood_7
  -- the state: a set of bits that are sound; was: 0 - 1, or a set below
  refine pj_lp_inv (fun p : Int × pj_M => ∃ good : Nat, p.2 = pj_up M 203 12 (good : Int) ∧ good < 64 ∧ (∀ c : Nat, c < 6 → good.testBit c = true → gr_gd (gr_of (M b)) 8 c) ∧ ((p.1 = -1 ∧ good = 0) ∨ (∃ was : Nat, p.1 = (was : Int) ∧ was ≤ good ∧ (was = good → ∀ k : Nat, k < (M b 0).toNat → md_g (M b) good (k : Int) → good.testBit (M b (1 + (6 * (k : Int)))).toNat = true)))) (fun p => (if p.1 = -1 then 200 else 0) + (64 - (p.2 203 12).toNat) + (64 - p.1.toNat)) ?_ (-1, pj_up M 203 12 0) ⟨0, rfl, by decide, fun c _ h => by simp at h, Or.inl ⟨rfl, rfl⟩⟩
  rintro ⟨x2, M1⟩ ⟨good, hM, hg, hsnd, hwas⟩ P hP
  dsimp only at hM hwas hP ⊢
  subst hM
  have e12 : ∀ gd : Int, pj_up M 203 12 gd 203 12 = gd := fun gd => pu_eq
  unfold w_X12_layGood_7b
  rw [e12]
  refine ⟨?_, ⟨by omega, by omega⟩, fun hc => ?_, fun hc => ?_⟩
  · rcases hwas with ⟨h, -⟩ | ⟨was, h, h2, -⟩ <;> rw [h] <;> exact ⟨by omega, by omega⟩
  · refine q good ⟨hg, fun c hc6 => ⟨hsnd c hc6, fun hgd => ?_⟩⟩
    rcases hwas with ⟨h, h2⟩ | ⟨was, h, h2, h3⟩
    · omega
    · obtain ⟨w, d, hd⟩ := hgd
      exact md_closed v (h3 (by omega)) d c w hd
  · rintro z rfl
    unfold w_X12_layGood_22
    -- one round; g2: the set now
    refine pj_lp_inv (fun p : Int × pj_M => 0 ≤ p.1 ∧ p.1 ≤ M b 0 ∧ ∃ g2 : Nat, p.2 = pj_up M 203 12 (g2 : Int) ∧ g2 < 64 ∧ good ≤ g2 ∧ (∀ c : Nat, c < 6 → g2.testBit c = true → gr_gd (gr_of (M b)) 8 c) ∧ (g2 = good → ∀ k : Nat, (k : Int) < p.1 → md_g (M b) good (k : Int) → good.testBit (M b (1 + (6 * (k : Int)))).toNat = true)) (fun p => (M b 0 - p.1).toNat) ?_ (0, pj_up M 203 12 (good : Int)) ⟨Int.le_refl _, by show 0 ≤ M b 0; have := v.1; omega, good, rfl, hg, Nat.le_refl _, hsnd, fun _ k h => absurd h (by show ¬ (k : Int) < 0; omega)⟩
    rintro ⟨x3, M2⟩ ⟨h1, h2, g2, hM2, g3, g4, g5, g6⟩ P2 hP2
    dsimp only at h1 h2 hM2 g6 hP2 ⊢
    subst hM2
    have rb : ∀ (gd x : Int), pj_up M 203 12 gd b x = M b x := fun gd x => pu_ne hb2
    have hn := v.1
    unfold w_X12_layGood_22b
    simp only [rb]
    refine ⟨⟨by omega, by omega⟩, ⟨by omega, by omega⟩, ⟨by omega, by omega⟩, fun hc2 => ?_, fun hc2 => ?_⟩
    · refine hP ((good : Int), pj_up M 203 12 (g2 : Int)) ⟨g2, rfl, g3, g5, Or.inr ⟨good, rfl, g4, fun e k hk => ?_⟩⟩ ?_
      · subst e
        exact g6 rfl k (by omega)
      · show (if (good : Int) = -1 then 200 else 0) + (64 - (pj_up M 203 12 (g2 : Int) 203 12).toNat) + (64 - (good : Int).toNat) < (if x2 = -1 then 200 else 0) + (64 - (pj_up M 203 12 (good : Int) 203 12).toNat) + (64 - x2.toNat)
        simp only [e12]
        have h9 : ¬ ((good : Int) = -1) := by omega
        rw [if_neg h9]
        rcases hwas with ⟨h, h3⟩ | ⟨was, h, h3, -⟩
        · rw [if_pos h]; omega
        · rw [if_neg (by omega)]
          omega
    · obtain ⟨k, rfl⟩ : ∃ k : Nat, x3 = (k : Int) := ⟨x3.toNat, by omega⟩
      have hko := v.2.1 (k : Int) (by omega) (by omega)
      have next : ∀ g9 : Nat, g9 < 64 → good ≤ g9 → (∀ c : Nat, c < 6 → g9.testBit c = true → gr_gd (gr_of (M b)) 8 c) → (g9 = good → g2 = good ∧ (md_g (M b) good (k : Int) → good.testBit (M b (1 + (6 * (k : Int)))).toNat = true)) → P2 ((k : Int) + 1, pj_up M 203 12 (g9 : Int)) := by
        intro g9 a1 a2 a3 a4
        refine hP2 ((k : Int) + 1, _) ⟨by show 0 ≤ (k : Int) + 1; omega, by show (k : Int) + 1 ≤ M b 0; omega, g9, rfl, a1, a2, a3, fun e k' hk' => ?_⟩ (by show (M b 0 - ((k : Int) + 1)).toNat < (M b 0 - (k : Int)).toNat; omega)
        by_cases e2 : k' = k
        · subst e2; exact (a4 e).2
        · exact g6 (a4 e).1 k' (by have : (k' : Int) < (k : Int) + 1 := hk'; omega)
      refine t_isGood hb (by show vg (fun x => pj_up M 203 12 _ b x); simp only [rb]; exact v) (e12 _) g3 ⟨by omega, by omega⟩ (fun r r0 r1 => ⟨by rcases r0 with h | h <;> rw [h] <;> exact ⟨by decide, by decide⟩, fun hr => ?_, fun hr => ?_⟩)
      · refine next g2 g3 g4 g5 (fun e => ⟨e, fun h => ?_⟩)
        exfalso
        have : r = 1 := r1.mpr (by show md_g (fun x => pj_up M 203 12 _ b x) _ _; simp only [rb]; rw [e]; exact h)
        omega
      · simp only [w_X12_alt, rb, e12]
        refine ⟨⟨by omega, by omega⟩, ?_⟩
        obtain ⟨c, hc⟩ : ∃ c : Nat, M b (1 + (6 * (k : Int))) = (c : Int) := ⟨(M b (1 + (6 * (k : Int)))).toNat, by omega⟩
        rw [hc]
        have hpow : 2 ^ c < 2 ^ 6 := Nat.pow_lt_pow_right (by decide) (by omega)
        have e9 : pj_or (g2 : Int) (pj_shl 1 (c : Int)) = ((g2 ||| 2 ^ c : Nat) : Int) := by
          rw [pb_one (by omega)]
          exact pb_or (by omega) (by omega)
        rw [e9]
        rintro M3 rfl
        have e10 : ∀ x : Int, pj_up (pj_up M 203 12 (g2 : Int)) 203 12 x = pj_up M 203 12 x := by
          intro x; funext b' j'; simp only [pu_if]; split <;> rfl
        rw [e10]
        have hgk : md_g (M b) g2 (k : Int) := by
          have h := r1.mp (r0.resolve_left hr)
          have h' : md_g (fun x => pj_up M 203 12 (g2 : Int) b x) g2 (k : Int) := h
          simp only [rb] at h'
          exact h'
        have hle : g2 ≤ g2 ||| 2 ^ c := Nat.left_le_or
        refine next (g2 ||| 2 ^ c) (Nat.or_lt_two_pow (n := 6) g3 hpow) (by omega) (fun c' hc' hb' => ?_) (fun e => ?_)
        · rw [pb_set] at hb'
          rcases Bool.or_eq_true_iff.mp hb' with h | h
          · exact g5 c' hc' h
          · have : c = c' := by simpa using h
            subst this
            exact gr_gd_iff.mpr ⟨k, by show k < (M b 0).toNat; omega, by show (M b (1 + (6 * (k : Int)))).toNat = c; omega, md_g_gs v (by omega) g5 hgk⟩
        · have e2 : g2 = good := by omega
          refine ⟨e2, fun _ => ?_⟩
          rw [hc, Int.toNat_natCast, ← e, pb_set]
          simp
