theorem bcn_9 {R : Nat} (h : R < 256) : bcn R 9 = bcn R 8 := by
  rw [bcn_s, Nat.testBit_lt_two_pow (show R < 2 ^ 8 from h)]
  rfl
theorem rwsm.p {M M' : pj_M} {l : List Int} (h : rwsm M l) (e : eqp M M') : rwsm M' l := by
  unfold rwsm at *
  rw [e.at (show (206 : Nat) < 203 ∨ 206 = 204 ∨ 206 = 205 ∨ 206 = 206 ∨ _ by omega), e 203 4 (by unfold mpk; omega)]
  exact h
theorem eqp.n {M M' : pj_M} {b : Nat} (hb : ∀ x, ¬ mpk b x) (h : ∀ a, a ≠ b → M' a = M a) : eqp M M' := fun c x hc => by
  rw [h c (fun e => by subst e; exact hb x hc)]
section
variable {M : pj_M} {Q : Int → pj_M → Prop}
theorem t_power {c n : Nat} (hc : c ≤ 8) (hn : n ≤ 5) (q : Q ((c ^ n : Nat) : Int) M) : w_X12_power (c : Int) (n : Int) M Q := by
  unfold w_X12_power w_X12_power_4
  refine pj_lp_inv (fun y : Int × Int × pj_M => ∃ k : Nat, y.2.1 = (k : Int) ∧ k ≤ n ∧ y.1 = ((c ^ k : Nat) : Int) ∧ y.2.2 = M) (fun y => ((n : Int) - y.2.1).toNat) ?_ (1, 0, M) ⟨0, rfl, by omega, rfl, rfl⟩
  rintro ⟨a, _, Mx⟩ ⟨k, h1, hk, h2, h3⟩ P hP
  dsimp only at h1 h2 h3 hP ⊢
  subst h1 h2
  have h3' := h3.symm
  subst h3'
  unfold w_X12_power_4b
  refine ⟨⟨by omega, by omega⟩, ⟨by omega, by omega⟩, fun hend => ?_, fun hgo => ?_⟩
  · rw [show k = n by omega]; exact q
  · refine hP (_, (k : Int) + 1, M) ⟨k + 1, by show (k : Int) + 1 = _; omega, by omega, ?_, rfl⟩ (by show ((n : Int) - ((k : Int) + 1)).toNat < ((n : Int) - (k : Int)).toNat; omega)
    show ((c ^ k : Nat) : Int) * (c : Int) = ((c ^ (k + 1) : Nat) : Int)
    rw [Nat.pow_succ]; norm_cast
theorem t_layRow {R k n : Nat} {Q : pj_M → Prop} (hR : R < 256) (hn : n ≤ 5) (hk : k < (bcn R 8) ^ n) (q : ∀ M', (∀ a, a ≠ 208 → M' a = M a) → leq (n : Int) (M' 208) (wdf R k n) → Q M') : w_X12_layRow 203 (k : Int) (n : Int) (R : Int) M Q := by
  have hc8 := bcn_le R 8
  have hkb := pw_b hc8 hn
  unfold w_X12_layRow
  refine t_bits (by omega) ?_
  rw [bcn_9 hR]
  unfold w_X12_layRow_14
  refine pj_lp_inv (fun y : Int × Int × pj_M => ∃ m : Nat, y.2.1 = (m : Int) - 1 ∧ m ≤ n ∧ y.1 = ((k / (bcn R 8) ^ (n - m) : Nat) : Int) ∧ (∀ a, a ≠ 208 → y.2.2 a = M a) ∧ ∀ p, (m : Int) ≤ p → p < (n : Int) → y.2.2 208 p = wdf R k n p) (fun y => (y.2.1 + 1).toNat) ?_ ((k : Int), (n : Int) - 1, M) ⟨n, rfl, Nat.le_refl _, by show (k : Int) = _; rw [Nat.sub_self, Nat.pow_zero, Nat.div_one], fun _ _ => rfl, fun p h1 h2 => by omega⟩
  rintro ⟨_, _, M1⟩ ⟨m, h1, hm, h2, e1, w1⟩ P hP
  dsimp only at h1 h2 e1 w1 hP ⊢
  subst h1 h2
  unfold w_X12_layRow_14b
  refine ⟨⟨by omega, by omega⟩, fun hend => ?_, fun hgo => ?_⟩
  · have : m = 0 := by omega
    subst this
    exact q M1 e1 (fun p p1 p2 => w1 p (by omega) p2)
  · have hcp : 0 < bcn R 8 := by
      rcases Nat.eq_zero_or_pos (bcn R 8) with h0 | h0
      · rw [h0, Nat.zero_pow (by omega)] at hk; omega
      · exact h0
    have hle : k / (bcn R 8) ^ (n - m) ≤ k := Nat.div_le_self _ _
    generalize hq : k / (bcn R 8) ^ (n - m) = t at hle ⊢
    have hr : pj_rem (t : Int) (bcn R 8 : Int) = ((t % bcn R 8 : Nat) : Int) := by rw [pd_rem ⟨by omega, by omega⟩ ⟨by omega, by omega⟩]; norm_cast
    have hd : pj_div (t : Int) (bcn R 8 : Int) = ((t / bcn R 8 : Nat) : Int) := by rw [pd_div ⟨by omega, by omega⟩ ⟨by omega, by omega⟩]; norm_cast
    have hml := Nat.mod_lt t hcp
    refine ⟨⟨by omega, by omega⟩, fun _ => ⟨⟨by omega, by omega⟩, by omega, ?_⟩, fun h => by omega⟩
    unfold w_X12_layRow_33
    refine ⟨⟨by omega, by omega⟩, fun _ => ⟨⟨by omega, by omega⟩, by omega, ?_⟩, fun h => by omega⟩
    unfold w_X12_layRow_49
    rw [hr, hd]
    unfold w_X12_layRow_54
    refine pj_lp_inv (fun y : Int × Int × pj_M => ∃ s : Nat, y.2.1 = (s : Int) ∧ bcn R s ≤ t % bcn R 8 ∧ y.1 = ((t % bcn R 8 : Nat) : Int) - (bcn R s : Int) ∧ s < 8 ∧ y.2.2 = M1) (fun y => (8 - y.2.1).toNat) ?_ (((t % bcn R 8 : Nat) : Int), 0, M1) ⟨0, rfl, by show 0 ≤ _; omega, by show _ = _ - ((0 : Nat) : Int); omega, by omega, rfl⟩
    rintro ⟨x7, _, Mx⟩ ⟨s, h1, hs, h7, hs8, h3⟩ P1 hP1
    dsimp only at h1 h7 h3 hP1 ⊢
    subst h1 h7
    have h3' := h3.symm
    subst h3'
    have hbs := bcn_s (v := R) (n := s)
    unfold w_X12_layRow_54b
    refine t_has (by omega) (by omega) (fun r hr1 hr2 => ⟨in01 hr1, fun h0 => ?_, fun h0 => ⟨⟨by omega, by omega⟩, fun hz => ⟨⟨by omega, by omega⟩, ?_⟩, fun hnz => ?_⟩⟩)
    · have hb : ¬ R.testBit s = true := fun h => by have := hr2.mpr h; omega
      rw [if_neg hb] at hbs
      have s8 : s + 1 < 8 := by
        apply Nat.lt_of_not_le; intro h
        have e8 : s + 1 = 8 := by omega
        rw [e8] at hbs; omega
      exact hP1 (_, (s : Int) + 1, M1) ⟨s + 1, by show (s : Int) + 1 = _; omega, by omega, by show _ = _ - (bcn R (s + 1) : Int); rw [hbs]; omega, s8, rfl⟩ (by show (8 - ((s : Int) + 1)).toNat < (8 - (s : Int)).toNat; omega)
    · have hb : R.testBit s = true := hr2.mp (by omega)
      have hsv : ltf R (t % bcn R 8) = s := by rw [show t % bcn R 8 = bcn R s by omega]; exact ltf_eq hs8 hb
      rw [rm_10]
      rintro M7 rfl
      refine hP (_, (m : Int) - 1 + (-1), _) ⟨m - 1, by show (m : Int) - 1 + (-1) = _; omega, by omega, ?_, fun a ha => (pu_row ha).trans (e1 a ha), fun p p1 p2 => ?_⟩ (by show ((m : Int) - 1 + (-1) + 1).toNat < ((m : Int) - 1 + 1).toNat; omega)
      · show ((t / bcn R 8 : Nat) : Int) = _
        rw [show n - (m - 1) = n - m + 1 by omega, Nat.pow_succ, ← Nat.div_div_eq_div_mul, hq]
      · show pj_up M1 208 ((m : Int) - 1) (s : Int) 208 p = _
        by_cases e : p = (m : Int) - 1
        · rw [e, pu_eq]
          unfold wdf
          rw [show ((m : Int) - 1).toNat = m - 1 by omega, show n - 1 - (m - 1) = n - m by omega, hq, hsv]
        · rw [pu_nk e]; exact w1 p (by omega) p2
    · have hb : R.testBit s = true := hr2.mp (by omega)
      rw [if_pos hb] at hbs
      have s8 : s + 1 < 8 := by
        apply Nat.lt_of_not_le; intro h
        have e8 : s + 1 = 8 := by omega
        rw [e8] at hbs; omega
      exact hP1 (_, (s : Int) + 1, M1) ⟨s + 1, by show (s : Int) + 1 = _; omega, by omega, by show _ + (-1) = _ - (bcn R (s + 1) : Int); rw [hbs]; omega, s8, rfl⟩ (by show (8 - ((s : Int) + 1)).toNat < (8 - (s : Int)).toNat; omega)
theorem t_layWord2 {r1 : Nat} {a0 n : Int} {Q : pj_M → Prop} (s : msc M) (hr : r1 ≠ 203 ∧ r1 ≠ 209) (ha : 0 ≤ a0) (hn : 0 ≤ n ∧ n ≤ 14) (hs : a0 + n ≤ ((pj_sh r1).2 : Int)) (hb : ∀ p, 0 ≤ p → p < n → 0 ≤ M r1 (a0 + p) ∧ M r1 (a0 + p) ≤ 7) (q : ∀ M', (∀ a x, a ≠ 209 → ¬ (a = 203 ∧ x = 14) → M' a x = M a x) → msc M' → M' 203 14 = n → leq n (M' 209) (fun p => M r1 (a0 + p)) → Q M') : w_X12_layWord 203 r1 a0 n M Q := by
  unfold w_X12_layWord
  rintro M1 rfl
  unfold w_X12_layWord_8
  refine pj_lp_inv (fun y : Int × pj_M => (0 ≤ y.1 ∧ y.1 ≤ n) ∧ (∀ a x, a ≠ 209 → ¬ (a = 203 ∧ x = 14) → y.2 a x = M a x) ∧ msc y.2 ∧ y.2 203 14 = n ∧ ∀ p, 0 ≤ p → p < y.1 → y.2 209 p = M r1 (a0 + p)) (fun y => (n - y.1).toNat) ?_ (0, _) ⟨⟨Int.le_refl _, hn.1⟩, fun a x a1 a2 => by show pj_up M 203 14 n a x = _; rw [pu_if, if_neg a2], s.up, by show pj_up M 203 14 n 203 14 = n; exact pu_eq, fun p p1 p2 => by have : p < 0 := p2; omega⟩
  rintro ⟨p, M2⟩ ⟨hp, r2, s2, n2, w2⟩ P hP
  dsimp only at hp r2 s2 n2 w2 hP ⊢
  unfold w_X12_layWord_8b
  rw [rm_13]
  refine ⟨⟨by omega, by omega⟩, ⟨by omega, by omega⟩, fun hend => q M2 r2 s2 n2 (fun x x1 x2 => w2 x x1 (by omega)), fun hgo => ⟨⟨by omega, by omega⟩, ⟨by omega, by omega⟩, ?_⟩⟩
  rw [r2 r1 _ hr.2 (fun e => hr.1 e.1)]
  rintro M6 rfl
  have hb' := hb p hp.1 (by omega)
  refine hP (p + 1, _) ⟨⟨by show 0 ≤ p + 1; omega, by show p + 1 ≤ n; omega⟩, fun a x a1 a2 => ?_, s2.w hb', ?_, fun x x1 x2 => ?_⟩ (by show (n - (p + 1)).toNat < (n - p).toNat; omega)
  · show pj_up M2 209 p _ a x = _
    rw [pu_ne a1]; exact r2 a x a1 a2
  · show pj_up M2 209 p (M r1 (a0 + p)) 203 14 = n
    rw [pu_ne (by decide)]; exact n2
  · have x2' : x < p + 1 := x2
    show pj_up M2 209 p (M r1 (a0 + p)) 209 x = _
    by_cases e : x = p
    · rw [e, pu_eq]
    · rw [pu_nk e]; exact w2 x x1 (by omega)
theorem t_isOf {b : Nat} {n : Int} (s : msc M) (hb : b = 204 ∨ b = 224) (v : vg (M b)) (hn : 0 ≤ n ∧ n ≤ 5) (hw : ∀ p, 0 ≤ p → p < n → 0 ≤ M 208 p ∧ M 208 p ≤ 7) (q : ∀ r M', (r = 0 ∨ r = 1) → eqp M M' → M' 208 = M 208 → M' 224 = M 224 → msc M' → (r = 1 ↔ gr_y (gr_of (M b)) 8 (M b 1).toNat (sg (M 208) 0 n)) → Q r M') : w_X12_isOf 203 b n M Q := by
  have hol : pj_ol b 1 95 := by rcases hb with h | h <;> rw [h] <;> decide
  have h73 : 73 ≤ (pj_sh b).2 := by rw [hol.1]; decide
  have hb3 : b ≠ 203 := by omega
  unfold w_X12_isOf
  rintro M1 rfl
  have gb : pj_up M 203 11 (b : Int) b = M b := pu_row hb3
  refine ⟨b, ⟨pu_eq, hol⟩, t_layGood h73 hb3 (by rw [gb]; exact v) (fun good hok => ?_)⟩
  rw [gb] at hok
  rw [rm_10]
  have f3 : ∀ a, a ≠ 203 → pj_up (pj_up M 203 11 (b : Int)) 203 12 (good : Int) a = M a := fun a ha => by rw [pu_row ha, pu_row ha]
  have s3 : msc (pj_up (pj_up M 203 11 (b : Int)) 203 12 (good : Int)) := s.up.up
  have h11 : pj_up (pj_up M 203 11 (b : Int)) 203 12 (good : Int) 203 11 = (b : Int) := by rw [pu_nk (by decide), pu_eq]
  have h12 : pj_up (pj_up M 203 11 (b : Int)) 203 12 (good : Int) 203 12 = (good : Int) := pu_eq
  have e3 : eqp M (pj_up (pj_up M 203 11 (b : Int)) 203 12 (good : Int)) := (eqp.up (by unfold mpk; omega)).tr (eqp.up (by unfold mpk; omega))
  generalize pj_up (pj_up M 203 11 (b : Int)) 203 12 (good : Int) = M3 at f3 s3 h11 h12 e3 ⊢
  have w3 : M3 208 = M 208 := f3 208 (by decide)
  refine t_layWord2 s3 (by decide) (by decide) ⟨hn.1, by omega⟩ (by rw [show (pj_sh 208).2 = 80 by decide]; omega) (fun p p1 p2 => by rw [w3, Int.zero_add]; exact hw p p1 p2) (fun M5 r5 s5 n5 w5 => ?_)
  have f5 : ∀ a, a ≠ 203 → a ≠ 209 → M5 a = M a := fun a a1 a2 => by rw [← f3 a a1]; exact funext fun x => r5 a x a2 (fun e => a1 e.1)
  have e5 : eqp M3 M5 := fun c x hc => r5 c x (fun e => by subst e; revert hc; unfold mpk; omega) (fun e => by obtain ⟨e1, e2⟩ := e; subst e1; subst e2; revert hc; unfold mpk; omega)
  have g5 : M5 b = M b := f5 b hb3 (by omega)
  have v5 : vg (M5 b) := by rw [g5]; exact v
  have k11 : M5 203 11 = (b : Int) := by rw [r5 203 11 (by decide) (by decide)]; exact h11
  have k12 : M5 203 12 = (good : Int) := by rw [r5 203 12 (by decide) (by decide)]; exact h12
  rw [rm_15]
  refine t_lay0 (wl := n) (mkok k11 hb v5 s5) s5.2.2.2.2.1 v5 k12 (by rw [g5]; exact hok) n5 ⟨hn.1, by omega⟩ (fun M7 e7 b0 b4 tb => ?_)
  have g7 : M7 b = M b := by rw [← g5]; exact funext fun x => e7 b x (by omega) (by omega) (by omega)
  have k7 : M7 203 11 = (b : Int) := by rw [e7 203 11 (by decide) (by decide) (by decide)]; exact k11
  have hst := v.2.1 0 (by decide) (by decide)
  rw [show (1 : Int) + 6 * 0 = 1 by decide] at hst
  unfold w_X12_start w_X12_alt
  refine ⟨b, ⟨k7, hol⟩, ⟨by decide, by decide⟩, ?_⟩
  dsimp only
  rw [show (1 : Int) + 6 * 0 = 1 by decide, g7]
  unfold w_X12_cell
  have ht := tb (M b 1).toNat 0 n (by omega) (Int.le_refl _) hn.1 (Int.le_refl _)
  have hwd : mt_w M5 0 n = sg (M 208) 0 n := sg_congr (fun x x1 x2 => by
    have := w5 x x1 x2
    rw [this]; show M3 208 (0 + x) = _; rw [w3, Int.zero_add])
  rw [g5, hwd] at ht
  unfold mt_tb at ht
  rw [Int.toNat_of_nonneg hst.1] at ht
  have hv := b0 (16 * (16 * M b 1 + 0) + n)
  refine ⟨⟨by omega, by omega⟩, hv, q _ M7 hv ((e3.tr e5).tr (eqp.t (Or.inl rfl) e7)) ?_ ?_ ?_ ht⟩
  · rw [← f5 208 (by decide) (by decide)]; exact funext fun x => e7 208 x (by decide) (by decide) (by decide)
  · rw [← f5 224 (by decide) (by decide)]; exact funext fun x => e7 224 x (by decide) (by decide) (by decide)
  · obtain ⟨z1, z2, z3, z4, z5, z6⟩ := s5
    have rb : ∀ a, a ≠ 210 → a ≠ 214 → a ≠ 215 → M7 a = M5 a := fun a a1 a2 a3 => funext fun x => e7 a x a1 a2 a3
    refine ⟨b0, ?_, ?_, ?_, b4, ?_⟩
    · unfold bz; rw [rb 211 (by decide) (by decide) (by decide)]; exact z2
    · unfold bz; rw [rb 212 (by decide) (by decide) (by decide)]; exact z3
    · unfold bz; rw [rb 213 (by decide) (by decide) (by decide)]; exact z4
    · rw [rb 209 (by decide) (by decide) (by decide)]; exact z6
theorem t_signsNow {b : Nat} (s : msc M) (hb : b = 204 ∨ b = 224) (v : vg (M b)) (q : ∀ (R : Nat) M', eqp M M' → (∀ a, a ≠ 203 → M' a = M a) → msc M' → sgD (M b) R → Q (R : Int) M') : w_X12_signsNow 203 b M Q := by
  have hol : pj_ol b 1 95 := by rcases hb with h | h <;> rw [h] <;> decide
  have h73 : 73 ≤ (pj_sh b).2 := by rw [hol.1]; decide
  have hb3 : b ≠ 203 := by omega
  unfold w_X12_signsNow
  rintro M1 rfl
  have gb : pj_up M 203 11 (b : Int) b = M b := pu_row hb3
  refine ⟨b, ⟨pu_eq, hol⟩, t_layGood h73 hb3 (by rw [gb]; exact v) (fun good hok => ?_)⟩
  rw [gb] at hok
  have f3 : ∀ a, a ≠ 203 → pj_up (pj_up M 203 11 (b : Int)) 203 12 (good : Int) a = M a := fun a ha => by rw [pu_row ha, pu_row ha]
  have s3 : msc (pj_up (pj_up M 203 11 (b : Int)) 203 12 (good : Int)) := s.up.up
  have h11 : pj_up (pj_up M 203 11 (b : Int)) 203 12 (good : Int) 203 11 = (b : Int) := by rw [pu_nk (by decide), pu_eq]
  have h12 : pj_up (pj_up M 203 11 (b : Int)) 203 12 (good : Int) 203 12 = (good : Int) := pu_eq
  have e3 : eqp M (pj_up (pj_up M 203 11 (b : Int)) 203 12 (good : Int)) := (eqp.up (by unfold mpk; omega)).tr (eqp.up (by unfold mpk; omega))
  generalize pj_up (pj_up M 203 11 (b : Int)) 203 12 (good : Int) = M3 at f3 s3 h11 h12 e3 ⊢
  have g3 : M3 b = M b := f3 b hb3
  have v3 : vg (M3 b) := by rw [g3]; exact v
  have hst := v.2.1 0 (by decide) (by decide)
  rw [show (1 : Int) + 6 * 0 = 1 by decide] at hst
  unfold w_X12_start w_X12_alt
  refine ⟨b, ⟨h11, hol⟩, ⟨by decide, by decide⟩, ?_⟩
  dsimp only
  rw [show (1 : Int) + 6 * 0 = 1 by decide, g3]
  obtain ⟨y, hy⟩ : ∃ y : Nat, M b 1 = (y : Int) := ⟨(M b 1).toNat, by omega⟩
  rw [hy]
  refine t_signsOf (mkok h11 hb v3 s3) v3 h12 (by rw [g3]; exact hok) (by omega) (fun R hR hbit => q R M3 e3 f3 s3 ⟨hR, fun t => ?_⟩)
  rw [hbit t, g3, hy, Int.toNat_natCast]
end
