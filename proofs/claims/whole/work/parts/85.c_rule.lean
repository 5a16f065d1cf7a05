theorem cg_0 {c : Nat} (h : isC c) : isF (c + 1) := by
  unfold isF; unfold isC at h; omega
def upI (z : Int) : Int := if 8 ≤ z then z - 8 + 10 else z
theorem upI_b {z : Int} (h : 0 ≤ z ∧ z ≤ 13) : 0 ≤ upI z ∧ upI z ≤ 15 := by unfold upI; split <;> omega
theorem upI_n {z : Int} (h : 0 ≤ z) : (upI z).toNat = upS z.toNat := by
  unfold upI upS
  by_cases h8 : 8 ≤ z
  · rw [if_pos h8, if_neg (by omega)]; omega
  · rw [if_neg h8, if_pos (by omega)]
theorem sg_map {w : Int → Int} {i j : Int} (h : ∀ x, i ≤ x → x < j → 0 ≤ w x) : sg (fun x => upI (w x)) i j = (sg w i j).map upS := by
  unfold sg
  rw [List.map_map]
  apply List.map_congr_left
  intro t ht
  rw [List.mem_range] at ht
  exact upI_n (h _ (by omega) (by omega))
theorem sg_rev {w : Int → Int} {z : Int} : sg (fun i => w (z - 1 - i)) 0 z = (sg w 0 z).reverse := by
  apply List.ext_getElem?
  intro t
  by_cases ht : t < (z - 0).toNat
  · rw [sg_get ht, List.getElem?_reverse (by rw [sg_len]; exact ht), sg_len, sg_get (by omega), show z - 1 - (0 + (t : Int)) = 0 + (((z - 0).toNat - 1 - t : Nat) : Int) by omega]
  · rw [List.getElem?_eq_none (by rw [sg_len]; omega), List.getElem?_eq_none (by rw [List.length_reverse, sg_len]; omega)]
/-- rows of a chart hold what they may -/
def cw (M : pj_M) (c : Nat) : Prop := (∀ k, 0 ≤ M (c + 10) k ∧ M (c + 10) k ≤ 6) ∧ (∀ k, 0 ≤ M (c + 11) k ∧ M (c + 11) k ≤ 4) ∧ (∀ x, 0 ≤ M (c + 12) x ∧ M (c + 12) x ≤ 15) ∧ (∀ k, 0 ≤ M (c + 13) k ∧ M (c + 13) k < 64) ∧ (∀ x, 0 ≤ M (c + 14) x ∧ M (c + 14) x ≤ 9) ∧ csan M c
/-- which symbol of an alternative comes at a place of a rule -/
def cfr (M : pj_M) (c : Nat) (z i : Int) : Int := if M c 8 = 0 then i else z - 1 - i
/-- a rule is an alternative -/
def crq (M : pj_M) (c : Nat) (r k : Int) : Prop := M (c + 10) r = M (c + 2) k ∧ M (c + 11) r = M (c + 3) k ∧ (∀ i, 0 ≤ i → i < M (c + 3) k → M (c + 12) (r * 4 + i) = upI (M (c + 4) (k * 4 + cfr M c (M (c + 3) k) i)))
def crs (M : pj_M) (c : Nat) (r : Int) : Prop := ∀ s, 0 ≤ s → s < M (c + 11) r → 10 ≤ M (c + 12) (r * 4 + s) → tbit (M (c + 13) r) (M (c + 12) (r * 4 + s) - 10).toNat
theorem t_addRule {M : pj_M} {c : Nat} {k : Int} {Q : pj_M → Prop} (hc : isC c) (v : gvl M (c + 1)) (w : cw M c) (hR : 0 ≤ M c 6 ∧ M c 6 ≤ 11) (hT : M c 8 = 0 ∨ M c 8 = 1) (hk : 0 ≤ k ∧ k < 12)
    (q : ∀ M', cw M' c → M' c 6 = M c 6 + 1 → crq M' c (M c 6) k → crs M' c (M c 6) → (∀ a x, ¬ (a = c ∧ x = 6) → ¬ (a = c + 10 ∧ x = M c 6) → ¬ (a = c + 11 ∧ x = M c 6) → ¬ (a = c + 12 ∧ M c 6 * 4 ≤ x) → ¬ (a = c + 13 ∧ x = M c 6) → M' a x = M a x) → Q M') : w_X0_addRule c k M Q := by
  have hF := cg_0 hc
  have g0 : pj_rf (c + 1) 0 = c + 2 := gf_0 hF
  have g1 : pj_rf (c + 1) 1 = c + 3 := gf_1 hF
  have g2 : pj_rf (c + 1) 2 = c + 4 := gf_2 hF
  have hz := v.2.2.1 k
  have ho := v.2.1 k
  rw [show c + 1 + 2 = c + 3 by omega] at hz
  rw [show c + 1 + 1 = c + 2 by omega] at ho
  unfold w_X0_addRule
  rw [cr_0 hc, g1]
  refine ⟨hk, ?_⟩
  rintro z2 rfl
  unfold w_X0_addRule_12
  refine pj_lp_inv (fun y : Int × pj_M => ∃ n : Nat, y.1 = (n : Int) ∧ (n : Int) ≤ M (c + 3) k ∧ (∀ a x, ¬ (a = c + 12 ∧ M c 6 * 4 ≤ x) → y.2 a x = M a x) ∧ (∀ x, 0 ≤ y.2 (c + 12) x ∧ y.2 (c + 12) x ≤ 15) ∧ ∀ i, 0 ≤ i → i < (n : Int) → y.2 (c + 12) (M c 6 * 4 + i) = upI (M (c + 4) (k * 4 + cfr M c (M (c + 3) k) i))) (fun y => (M (c + 3) k - y.1).toNat) ?_ (0, M) ⟨0, rfl, by show (0 : Int) ≤ _; omega, fun _ _ _ => rfl, w.2.2.1, fun i h1 h2 => by omega⟩
  rintro ⟨x3, M1⟩ ⟨n, e1, hn, h1, h2, h3⟩ P hP
  dsimp only at e1 h1 h2 h3 hP ⊢
  subst e1
  have r1 : ∀ a, a ≠ c + 12 → M1 a = M a := fun a h => funext fun x => h1 a x (fun e => h e.1)
  unfold w_X0_addRule_12b
  rw [cr_0 hc, g0, cr_2 hc, cr_3 hc, cr_5 hc, r1 c (by omega), r1 (c + 2) (by omega)]
  refine ⟨⟨by omega, by omega⟩, ⟨by omega, by omega⟩, fun hend => ⟨hk, ⟨by omega, by omega⟩, ?_⟩, fun hend => ?_⟩
  · rintro M7 rfl
    rw [show pj_up M1 (c + 10) (M c 6) (M (c + 2) k) c 6 = M c 6 by rw [pu_ne (by omega), r1 c (by omega)]]
    refine ⟨⟨by omega, by omega⟩, ?_⟩
    rintro M9 rfl
    generalize hM9 : pj_up (pj_up M1 (c + 10) (M c 6) (M (c + 2) k)) (c + 11) (M c 6) (M (c + 3) k) = M9
    have r9 : ∀ a, a ≠ c + 10 → a ≠ c + 11 → a ≠ c + 12 → M9 a = M a := fun a a1 a2 a3 => funext fun x => by rw [← hM9, pu_ne a2, pu_ne a1, r1 a a3]
    have v9 : gvl M9 (c + 1) := by
      unfold gvl
      rw [r9 _ (by omega) (by omega) (by omega), r9 _ (by omega) (by omega) (by omega), r9 _ (by omega) (by omega) (by omega), r9 _ (by omega) (by omega) (by omega)]
      exact v
    refine t_capitalsIn hF v9 hk (fun U hU bU => ?_)
    rw [r9 (c + 1 + 2) (by omega) (by omega) (by omega), r9 (c + 1 + 3) (by omega) (by omega) (by omega)] at bU
    rw [r9 c (by omega) (by omega) (by omega)]
    refine ⟨⟨by omega, by omega⟩, ?_⟩
    rintro M13 rfl M14 rfl
    rw [show pj_up M9 (c + 13) (M c 6) (U : Int) c 6 = M c 6 by rw [pu_ne (by omega), r9 c (by omega) (by omega) (by omega)]]
    generalize hM8 : pj_up (pj_up M9 (c + 13) (M c 6) (U : Int)) c 6 (M c 6 + 1) = M8
    have m12 : M8 (c + 12) = M1 (c + 12) := funext fun x => by rw [← hM8, pu_ne (by omega), pu_ne (by omega), ← hM9, pu_ne (by omega), pu_ne (by omega)]
    have m10 : ∀ x, M8 (c + 10) x = if x = M c 6 then M (c + 2) k else M (c + 10) x := fun x => by
      rw [← hM8, pu_ne (by omega), pu_ne (by omega), ← hM9, pu_ne (by omega), pu_if]
      by_cases e : x = M c 6
      · rw [if_pos ⟨rfl, e⟩, if_pos e]
      · rw [if_neg (fun h => e h.2), if_neg e, r1 _ (by omega)]
    have m11 : ∀ x, M8 (c + 11) x = if x = M c 6 then M (c + 3) k else M (c + 11) x := fun x => by
      rw [← hM8, pu_ne (by omega), pu_ne (by omega), ← hM9, pu_if]
      by_cases e : x = M c 6
      · rw [if_pos ⟨rfl, e⟩, if_pos e]
      · rw [if_neg (fun h => e h.2), if_neg e, pu_ne (by omega), r1 _ (by omega)]
    have m13 : ∀ x, M8 (c + 13) x = if x = M c 6 then (U : Int) else M (c + 13) x := fun x => by
      rw [← hM8, pu_ne (by omega), pu_if]
      by_cases e : x = M c 6
      · rw [if_pos ⟨rfl, e⟩, if_pos e]
      · rw [if_neg (fun h => e h.2), if_neg e, r9 _ (by omega) (by omega) (by omega)]
    have mo : ∀ a, a ≠ c → a ≠ c + 10 → a ≠ c + 11 → a ≠ c + 12 → a ≠ c + 13 → M8 a = M a := fun a a1 a2 a3 a4 a5 => funext fun x => by rw [← hM8, pu_ne a1, pu_ne a5, r9 a a2 a3 a4]
    have m8 : M8 c 8 = M c 8 := by rw [← hM8, pu_nk (by decide), pu_ne (by omega), r9 c (by omega) (by omega) (by omega)]
    obtain ⟨w1, w2, w3, w4, w5, w6, w7, w8, w9, w10⟩ := w
    refine q M8 ⟨fun x => ?_, fun x => ?_, fun x => by rw [m12]; exact h2 x, fun x => ?_, fun x => by rw [mo _ (by omega) (by omega) (by omega) (by omega) (by omega)]; exact w5 x, fun x => by rw [mo _ (by omega) (by omega) (by omega) (by omega) (by omega)]; exact w6 x, fun x => by rw [mo _ (by omega) (by omega) (by omega) (by omega) (by omega)]; exact w7 x, fun x => by rw [mo _ (by omega) (by omega) (by omega) (by omega) (by omega)]; exact w8 x, fun x => by rw [mo _ (by omega) (by omega) (by omega) (by omega) (by omega)]; exact w9 x, fun x => by rw [mo _ (by omega) (by omega) (by omega) (by omega) (by omega)]; exact w10 x⟩ (by rw [← hM8, pu_eq]) ⟨?_, ?_, fun i i1 i2 => ?_⟩ (fun s s1 s2 s3 => ?_) (fun a x a1 a2 a3 a4 a5 => ?_)
    · rw [m10]; split
      · omega
      · exact w1 x
    · rw [m11]; split
      · omega
      · exact w2 x
    · rw [m13]; split
      · omega
      · exact w4 x
    · rw [m10, if_pos rfl, mo _ (by omega) (by omega) (by omega) (by omega) (by omega)]
    · rw [m11, if_pos rfl, mo _ (by omega) (by omega) (by omega) (by omega) (by omega)]
    · rw [mo (c + 3) (by omega) (by omega) (by omega) (by omega) (by omega)] at i2 ⊢
      unfold cfr
      rw [m8, m12, mo (c + 4) (by omega) (by omega) (by omega) (by omega) (by omega)]
      exact h3 i i1 (by omega)
    · rw [m11, if_pos rfl] at s2
      rw [m12, h3 s s1 (by omega)] at s3 ⊢
      rw [m13, if_pos rfl]
      unfold tbit
      rw [Int.toNat_natCast, bU]
      have hf : 0 ≤ cfr M c (M (c + 3) k) s ∧ cfr M c (M (c + 3) k) s < M (c + 3) k := by unfold cfr; split <;> omega
      have hsy := v.2.2.2.1 (k * 4 + cfr M c (M (c + 3) k) s)
      rw [show c + 1 + 3 = c + 4 by omega] at hsy ⊢
      refine ⟨cfr M c (M (c + 3) k) s, hf.1, hf.2, ?_⟩
      unfold upI at s3 ⊢
      by_cases h8 : 8 ≤ M (c + 4) (k * 4 + cfr M c (M (c + 3) k) s)
      · rw [if_pos h8]; omega
      · rw [if_neg h8] at s3; omega
    · by_cases e12 : a = c + 12
      · subst e12
        rw [m12]; exact h1 _ x a4
      · by_cases e10 : a = c + 10
        · subst e10; rw [m10, if_neg (fun h => a2 ⟨rfl, h⟩)]
        · by_cases e11 : a = c + 11
          · subst e11; rw [m11, if_neg (fun h => a3 ⟨rfl, h⟩)]
          · by_cases e13 : a = c + 13
            · subst e13; rw [m13, if_neg (fun h => a5 ⟨rfl, h⟩)]
            · by_cases ec : a = c
              · subst ec
                rw [← hM8, pu_nk (fun h => a1 ⟨rfl, h⟩), pu_ne (by omega), r9 a (by omega) (by omega) (by omega)]
              · rw [mo a ec e10 e11 e12 e13]
  · have go : ∀ y0 : Int, y0 = cfr M c (M (c + 3) k) (n : Int) → w_X0_addRule_33 c k (M (c + 3) k) (n : Int) y0 (fun x1 M => P (x1, M)) Q M1 := by
      rintro y0 rfl
      have hf : 0 ≤ cfr M c (M (c + 3) k) (n : Int) ∧ cfr M c (M (c + 3) k) (n : Int) < M (c + 3) k := by unfold cfr; split <;> omega
      unfold w_X0_addRule_33
      rw [cr_0 hc, g2, cr_4 hc, r1 (c + 4) (by omega), r1 c (by omega)]
      refine ⟨⟨by omega, by omega⟩, ?_⟩
      rintro z17 rfl
      have hsy := v.2.2.2.1 (k * 4 + cfr M c (M (c + 3) k) (n : Int))
      rw [show c + 1 + 3 = c + 4 by omega] at hsy
      have put : ∀ y2 : Int, y2 = upI (M (c + 4) (k * 4 + cfr M c (M (c + 3) k) (n : Int))) → w_X0_addRule_83 c k (M (c + 3) k) (n : Int) (c + 12) (M c 6 * 4 + (n : Int)) y2 (fun x1 M => P (x1, M)) Q M1 := by
        rintro y2 rfl
        have hub := upI_b hsy
        unfold w_X0_addRule_83
        refine ⟨⟨by omega, by omega⟩, ?_⟩
        rintro M20 rfl
        refine hP ((n : Int) + 1, _) ⟨n + 1, by show (n : Int) + 1 = _; omega, by omega, fun a x ha => ?_, fun x => ?_, fun i i1 i2 => ?_⟩ (by show (M (c + 3) k - ((n : Int) + 1)).toNat < (M (c + 3) k - (n : Int)).toNat; omega)
        · show pj_up M1 (c + 12) _ _ a x = _
          rw [pu_if, if_neg (fun e => ha ⟨e.1, by omega⟩)]; exact h1 a x ha
        · show 0 ≤ pj_up M1 (c + 12) _ _ (c + 12) x ∧ pj_up M1 (c + 12) _ _ (c + 12) x ≤ 15
          rw [pu_if]
          split
          · exact hub
          · exact h2 x
        · show pj_up M1 (c + 12) _ _ (c + 12) (M c 6 * 4 + i) = _
          by_cases e : i = (n : Int)
          · subst e; rw [pu_eq]
          · rw [pu_nk (by omega)]; exact h3 i i1 (by omega)
      refine ⟨⟨by omega, by omega⟩, fun h8 => put _ (by unfold upI; rw [if_pos h8]), fun h8 => put _ (by unfold upI; rw [if_neg h8])⟩
    refine ⟨by rcases hT with h | h <;> rw [h] <;> exact ⟨by decide, by decide⟩, fun h0 => go _ (by unfold cfr; rw [if_pos h0]), fun h0 => go _ (by unfold cfr; rw [if_neg h0])⟩
/-- the frame -/
def cfm (M : pj_M) (c : Nat) (r : Int) : Prop := M (c + 10) r = 6 ∧ M (c + 11) r = 3 ∧ M (c + 12) (r * 4 + 0) = (if M c 8 = 0 then 8 else 9) ∧ M (c + 12) (r * 4 + 1) = 10 + M (c + 1) 4 ∧ M (c + 12) (r * 4 + 2) = (if M c 8 = 0 then 9 else 8)
theorem t_addFrame {M : pj_M} {c : Nat} {Q : pj_M → Prop} (hc : isC c) (v : gvl M (c + 1)) (w : cw M c) (hR : 0 ≤ M c 6 ∧ M c 6 ≤ 12) (hT : M c 8 = 0 ∨ M c 8 = 1)
    (q : ∀ M', cw M' c → M' c 6 = M c 6 + 1 → cfm M' c (M c 6) → crs M' c (M c 6) → (∀ a x, ¬ (a = c ∧ x = 6) → ¬ (a = c + 10 ∧ x = M c 6) → ¬ (a = c + 11 ∧ x = M c 6) → ¬ (a = c + 12 ∧ M c 6 * 4 ≤ x) → ¬ (a = c + 13 ∧ x = M c 6) → M' a x = M a x) → Q M') : w_X0_addFrame c M Q := by
  have hst : 0 ≤ M (c + 1) 4 ∧ M (c + 1) 4 ≤ 5 := by rw [v.2.2.2.2]; exact v.2.1 0
  obtain ⟨st, hst2⟩ : ∃ n : Nat, M (c + 1) 4 = (n : Int) := ⟨_, (Int.toNat_of_nonneg hst.1).symm⟩
  have main : ∀ f g : Int, (f = 8 ∨ f = 9) → (g = 8 ∨ g = 9) → f = (if M c 8 = 0 then 8 else 9) → g = (if M c 8 = 0 then 9 else 8) → (∀ M6 : pj_M, M6 c 6 = M c 6 → M6 (c + 1) 4 = M (c + 1) 4 → M6 = pj_up (pj_up M (c + 12) (M c 6 * 4) f) (c + 12) (M c 6 * 4 + 1) (10 + M (c + 1) 4) → w_X0_addFrame_66 c (c + 12) (M c 6 * 4 + 2) g Q M6) := by
    intro f g hf hg ef eg M6 h6 h14 hM6
    unfold w_X0_addFrame_66
    rw [cr_0 hc, cr_2 hc, cr_3 hc, cr_5 hc]
    refine ⟨⟨by omega, by omega⟩, ?_⟩
    rintro M9 rfl
    rw [show pj_up M6 (c + 12) (M c 6 * 4 + 2) g c 6 = M c 6 by rw [pu_ne (by omega), h6]]
    refine ⟨⟨by omega, by omega⟩, ?_⟩
    rintro M11 rfl
    rw [show pj_up (pj_up M6 (c + 12) (M c 6 * 4 + 2) g) (c + 10) (M c 6) 6 c 6 = M c 6 by rw [pu_ne (by omega), pu_ne (by omega), h6]]
    refine ⟨⟨by omega, by omega⟩, ?_⟩
    rintro M13 rfl
    rw [show pj_up (pj_up (pj_up M6 (c + 12) (M c 6 * 4 + 2) g) (c + 10) (M c 6) 6) (c + 11) (M c 6) 3 c 6 = M c 6 by rw [pu_ne (by omega), pu_ne (by omega), pu_ne (by omega), h6], show pj_up (pj_up (pj_up M6 (c + 12) (M c 6 * 4 + 2) g) (c + 10) (M c 6) 6) (c + 11) (M c 6) 3 (c + 1) 4 = (st : Int) by rw [pu_ne (by omega), pu_ne (by omega), pu_ne (by omega), h14, hst2], pb_one (by omega)]
    refine ⟨⟨by omega, by omega⟩, ?_⟩
    rintro M15 rfl M16 rfl
    rw [show pj_up (pj_up (pj_up (pj_up M6 (c + 12) (M c 6 * 4 + 2) g) (c + 10) (M c 6) 6) (c + 11) (M c 6) 3) (c + 13) (M c 6) ((2 ^ st : Nat) : Int) c 6 = M c 6 by rw [pu_ne (by omega), pu_ne (by omega), pu_ne (by omega), pu_ne (by omega), h6]]
    generalize hM8 : pj_up (pj_up (pj_up (pj_up (pj_up M6 (c + 12) (M c 6 * 4 + 2) g) (c + 10) (M c 6) 6) (c + 11) (M c 6) 3) (c + 13) (M c 6) ((2 ^ st : Nat) : Int)) c 6 (M c 6 + 1) = M8
    have hpow : 2 ^ st < 2 ^ 6 := Nat.pow_lt_pow_right (by decide) (by omega)
    have all : ∀ a x, M8 a x = if a = c ∧ x = 6 then M c 6 + 1 else if a = c + 13 ∧ x = M c 6 then ((2 ^ st : Nat) : Int) else if a = c + 11 ∧ x = M c 6 then 3 else if a = c + 10 ∧ x = M c 6 then 6 else if a = c + 12 ∧ x = M c 6 * 4 + 2 then g else if a = c + 12 ∧ x = M c 6 * 4 + 1 then 10 + M (c + 1) 4 else if a = c + 12 ∧ x = M c 6 * 4 then f else M a x := by
      intro a x
      rw [← hM8, hM6]
      simp only [pu_if]
    have far : ∀ a, a ≠ c → a ≠ c + 10 → a ≠ c + 11 → a ≠ c + 12 → a ≠ c + 13 → M8 a = M a := fun a a1 a2 a3 a4 a5 => funext fun x => by
      rw [all, if_neg (fun h => a1 h.1), if_neg (fun h => a5 h.1), if_neg (fun h => a3 h.1), if_neg (fun h => a2 h.1), if_neg (fun h => a4 h.1), if_neg (fun h => a4 h.1), if_neg (fun h => a4 h.1)]
    have m8 : M8 c 8 = M c 8 := by
      rw [all, if_neg (by omega), if_neg (by omega), if_neg (by omega), if_neg (by omega), if_neg (by omega), if_neg (by omega), if_neg (by omega)]
    have c120 : M8 (c + 12) (M c 6 * 4 + 0) = f := by
      rw [all, if_neg (by omega), if_neg (by omega), if_neg (by omega), if_neg (by omega), if_neg (by omega), if_neg (by omega), if_pos ⟨rfl, by omega⟩]
    have c121 : M8 (c + 12) (M c 6 * 4 + 1) = 10 + M (c + 1) 4 := by
      rw [all, if_neg (by omega), if_neg (by omega), if_neg (by omega), if_neg (by omega), if_neg (by omega), if_pos ⟨rfl, rfl⟩]
    have c122 : M8 (c + 12) (M c 6 * 4 + 2) = g := by
      rw [all, if_neg (by omega), if_neg (by omega), if_neg (by omega), if_neg (by omega), if_pos ⟨rfl, rfl⟩]
    have c11 : M8 (c + 11) (M c 6) = 3 := by rw [all, if_neg (by omega), if_neg (by omega), if_pos ⟨rfl, rfl⟩]
    have c10 : M8 (c + 10) (M c 6) = 6 := by rw [all, if_neg (by omega), if_neg (by omega), if_neg (by omega), if_pos ⟨rfl, rfl⟩]
    have c13 : M8 (c + 13) (M c 6) = ((2 ^ st : Nat) : Int) := by rw [all, if_neg (by omega), if_pos ⟨rfl, rfl⟩]
    obtain ⟨w1, w2, w3, w4, w5, w6, w7, w8, w9, w10⟩ := w
    refine q M8 ⟨fun x => ?_, fun x => ?_, fun x => ?_, fun x => ?_, fun x => by rw [far _ (by omega) (by omega) (by omega) (by omega) (by omega)]; exact w5 x, fun x => by rw [far _ (by omega) (by omega) (by omega) (by omega) (by omega)]; exact w6 x, fun x => by rw [far _ (by omega) (by omega) (by omega) (by omega) (by omega)]; exact w7 x, fun x => by rw [far _ (by omega) (by omega) (by omega) (by omega) (by omega)]; exact w8 x, fun x => by rw [far _ (by omega) (by omega) (by omega) (by omega) (by omega)]; exact w9 x, fun x => by rw [far _ (by omega) (by omega) (by omega) (by omega) (by omega)]; exact w10 x⟩ (by rw [all, if_pos ⟨rfl, rfl⟩]) ⟨c10, c11, ?_, ?_, ?_⟩ (fun s s1 s2 s3 => ?_) (fun a x a1 a2 a3 a4 a5 => ?_)
    · rw [all, if_neg (by omega), if_neg (by omega), if_neg (by omega)]
      split
      · exact ⟨by decide, by decide⟩
      · rw [if_neg (by omega), if_neg (by omega), if_neg (by omega)]; exact w1 x
    · rw [all, if_neg (by omega), if_neg (by omega)]
      split
      · exact ⟨by decide, by decide⟩
      · rw [if_neg (by omega), if_neg (by omega), if_neg (by omega), if_neg (by omega)]; exact w2 x
    · rw [all, if_neg (by omega), if_neg (by omega), if_neg (by omega), if_neg (by omega)]
      split
      · omega
      · split
        · omega
        · split
          · omega
          · exact w3 x
    · rw [all, if_neg (by omega)]
      split
      · exact ⟨Int.natCast_nonneg _, by have h9 : 2 ^ st < 64 := hpow; exact_mod_cast h9⟩
      · rw [if_neg (by omega), if_neg (by omega), if_neg (by omega), if_neg (by omega), if_neg (by omega)]; exact w4 x
    · rw [c120, m8]; exact ef
    · rw [c121, far _ (by omega) (by omega) (by omega) (by omega) (by omega)]
    · rw [c122, m8]; exact eg
    · rw [c11] at s2
      rw [c13]
      unfold tbit
      rw [Int.toNat_natCast, Nat.testBit_two_pow, decide_eq_true_iff]
      have hs : s = 0 ∨ s = 1 ∨ s = 2 := by omega
      rcases hs with rfl | rfl | rfl
      · rw [c120] at s3; omega
      · rw [c121, hst2]; omega
      · rw [c122] at s3; omega
    · rw [all, if_neg a1, if_neg a5, if_neg a3, if_neg a2, if_neg (fun h => a4 ⟨h.1, by omega⟩), if_neg (fun h => a4 ⟨h.1, by omega⟩), if_neg (fun h => a4 ⟨h.1, by omega⟩)]
  unfold w_X0_addFrame
  rintro z1 rfl
  have run : ∀ f : Int, (f = 8 ∨ f = 9) → f = (if M c 8 = 0 then 8 else 9) → w_X0_addFrame_26 c (M c 6 * 4) (c + 12) (M c 6 * 4) f Q M := by
    intro f hf ef
    unfold w_X0_addFrame_26
    rw [cr_0 hc, cr_4 hc]
    refine ⟨⟨by omega, by omega⟩, ?_⟩
    rintro M4 rfl
    refine ⟨⟨by omega, by omega⟩, ?_⟩
    rintro M6 rfl
    rw [show pj_up M (c + 12) (M c 6 * 4) f (c + 1) 4 = M (c + 1) 4 from pu_ne (by omega)]
    have e8 : pj_up (pj_up M (c + 12) (M c 6 * 4) f) (c + 12) (M c 6 * 4 + 1) (10 + M (c + 1) 4) c 8 = M c 8 := by rw [pu_ne (by omega), pu_ne (by omega)]
    rw [e8]
    refine ⟨by rcases hT with h | h <;> rw [h] <;> exact ⟨by decide, by decide⟩, fun h0 => main f 9 hf (Or.inr rfl) ef (by rw [if_pos h0]) _ (by rw [pu_ne (by omega), pu_ne (by omega)]) (by rw [pu_ne (by omega), pu_ne (by omega)]) rfl, fun h0 => main f 8 hf (Or.inl rfl) ef (by rw [if_neg h0]) _ (by rw [pu_ne (by omega), pu_ne (by omega)]) (by rw [pu_ne (by omega), pu_ne (by omega)]) rfl⟩
  rw [cr_4 hc]
  exact ⟨by rcases hT with h | h <;> rw [h] <;> exact ⟨by decide, by decide⟩, fun h0 => run 8 (Or.inl rfl) (by rw [if_pos h0]), fun h0 => run 9 (Or.inr rfl) (by rw [if_neg h0])⟩
