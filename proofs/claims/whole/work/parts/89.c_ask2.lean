theorem rw_2 : pj_rf 183 2 = 185 := by decide +kernel
theorem clk.y0 {M : pj_M} {c x : Nat} {u : List Nat} (h : clk M c) (h8 : M c 8 = 0) (hx : x < 6) : gr_y (gc M c) 10 x u ↔ gr_y (gof M (c + 1)) 8 x u := by
  rw [h.y hx]; unfold ctg; rw [if_pos h8]
theorem t_isSentence {M : pj_M} {c : Nat} {n : Int} {Q : Int → pj_M → Prop} (lk : clk M c) (h8 : M c 8 = 0) (hn : 0 ≤ n ∧ n ≤ 5) (hw : ∀ x, 0 ≤ x → x < n → 0 ≤ M 185 x ∧ M 185 x ≤ 7) (q : ∀ r M', (r = 0 ∨ r = 1) → eqd c M M' → clk M' c → (r = 1 ↔ gr_y (gof M (c + 1)) 8 (M (c + 1) 4).toNat (sg (M 185) 0 n)) → Q r M') : w_X0_isSentence c 183 n M Q := by
  have hc := lk.2.1.1.1
  have hc2 : c = 115 ∨ c = 135 ∨ c = 155 := hc
  have hst := lk.2.2.1.st
  unfold w_X0_isSentence w_X0_isSentence_2
  refine pj_lp_inv (fun y : Int × pj_M => (0 ≤ y.1 ∧ y.1 ≤ n) ∧ cst y.2 c ∧ eqd c M y.2 ∧ y.1 ≤ y.2 c 11 ∧ ∀ p, 0 ≤ p → p < y.1 → y.2 (c + 14) p = M 185 p) (fun y => (n - y.1).toNat) ?_ (0, M) ⟨⟨Int.le_refl _, hn.1⟩, lk.2.1, eqd.rf, lk.2.1.2.1.1.1, fun p h1 h2 => by dsimp only at h2; omega⟩
  rintro ⟨i, M1⟩ ⟨h1, s1, e1, z1, p1⟩ P hP
  dsimp only at h1 s1 e1 z1 p1 hP ⊢
  unfold w_X0_isSentence_2b
  refine ⟨⟨by omega, by omega⟩, ⟨by omega, by omega⟩, fun h => t_cut s1 ⟨by omega, by omega⟩ (fun M2 s2 e2 p2 z2 y2 => ?_), fun h => ⟨⟨by omega, by omega⟩, ?_⟩⟩
  · have hin : i = n := by omega
    subst hin
    have ed := e1.tr e2
    have er : ∀ a, c + 1 ≤ a → a ≤ c + 4 → M2 a = M a := fun a a1 a2 => ed.row (by omega) (by omega)
    rw [cr_0 hc, er (c + 1) (by omega) (by omega)]
    obtain ⟨st, hs⟩ : ∃ st : Nat, M (c + 1) 4 = (st : Int) := ⟨_, (Int.toNat_of_nonneg hst.1).symm⟩
    obtain ⟨m, rfl⟩ : ∃ m : Nat, i = (m : Int) := ⟨i.toNat, by omega⟩
    rw [hs]
    refine t_yieldsWhole (i := 0) s2 (by omega) (by decide) (by omega) (fun r hr hiff => ⟨hr, q r M2 hr ed (lk.dyn ed s2) ?_⟩)
    have k2 := lk.dyn ed s2
    rw [hiff, hs, Int.toNat_natCast, k2.y0 (by rw [ed.c (by decide) (by decide)]; exact h8) (by omega), gof.eq (fun a a1 a2 => er a a1 (by omega))]
    have : tkw M2 c 0 m = sg (M 185) 0 (m : Int) := sg_congr (fun p a1 a2 => by
      rw [p2]
      exact p1 p a1 a2)
    rw [this]
    exact ⟨fun h => h.2, fun h => ⟨Nat.zero_le _, h⟩⟩
  · rw [rw_2, e1.row (show (185 : Nat) < c + 14 ∨ c + 19 < 185 by omega) (by omega)]
    refine t_layC s1 ⟨by omega, by omega⟩ z1 (by have := hw i h1.1 (by omega); omega) (fun M2 s2 e2 z2 p2 f2 => ?_)
    refine hP (i + 1, M2) ⟨⟨by show 0 ≤ i + 1; omega, by show i + 1 ≤ n; omega⟩, s2, e1.tr e2, z2, fun p a1 a2 => ?_⟩ (by show (n - (i + 1)).toNat < (n - i).toNat; omega)
    show M2 (c + 14) p = _
    have a2' : p < i + 1 := a2
    by_cases e : p = i
    · rw [e]; exact f2
    · rw [p2 p a1 (by omega)]; exact p1 p a1 (by omega)
/-- a token that is tried behind a piece -/
def tkn (edge : Int) (s : Nat) : Nat := if s = 8 then edge.toNat else s
theorem t_followers {M : pj_M} {c : Nat} {t n edge : Int} {w : Int → Int} {i j : Nat} {Q : Int → pj_M → Prop} (rd : crd M c t w n) (hn : 0 ≤ n ∧ n ≤ 14) (ht : t = 0 ∨ t = 1) (he : edge = if t = 0 then 9 else 8) (hw : ∀ x, 0 ≤ w x ∧ w x ≤ 7) (hij : i ≤ j) (hj : (j : Int) ≤ n + 2)
    (q : ∀ (R : Nat) M', R < 512 → eqd c M M' → clk M' c → ((i < j ∧ (j : Int) = n + 2) → R = 0) → (¬ (i < j ∧ (j : Int) = n + 2) → ∀ s, s < 9 → (R.testBit s = true ↔ fr_in (gof M (c + 1)) (M (c + 1) 4).toNat (if t = 0 then sg (crow t w n) (i : Int) (j : Int) ++ [tkn edge s] else (sg (crow t w n) (i : Int) (j : Int) ++ [tkn edge s]).reverse))) → Q (R : Int) M') : w_X0_followers c (i : Int) (j : Int) edge M Q := by
  obtain ⟨lk, h7, h8, h11, h12, tok⟩ := rd
  have hc := lk.2.1.1.1
  have e89 : edge = 8 ∨ edge = 9 := by rcases ht with h | h <;> rw [h] at he <;> simp at he <;> omega
  have last : ∀ p : Int, 0 ≤ p → p < n + 2 → (crow t w n p = edge ↔ p = n + 1) := by
    intro p p1 p2
    unfold crow fr_w
    have hwp := hw (p - 1)
    have hwq := hw (n + 1 - p - 1)
    rcases ht with h | h
    · rw [if_pos h]; rw [if_pos h] at he; subst he
      by_cases a : p = 0
      · rw [if_pos a]; omega
      · rw [if_neg a]
        by_cases b : p = n + 1
        · rw [if_pos b]; omega
        · rw [if_neg b]; omega
    · rw [if_neg (by omega)]; rw [if_neg (by omega)] at he; subst he
      by_cases a : p = n + 1
      · rw [if_pos (by omega)]; omega
      · rw [if_neg (by omega)]
        by_cases b : p = 0
        · rw [if_pos (by omega)]; omega
        · rw [if_neg (by omega)]; omega
  have main : ¬ (i < j ∧ (j : Int) = n + 2) → w_X0_followers_19 c (i : Int) (j : Int) edge Q M := by
    intro hnl
    unfold w_X0_followers_19 w_X0_followers_25
    refine pj_lp_inv (fun y : Int × Int × pj_M => ∃ R s : Nat, y.1 = (R : Int) ∧ y.2.1 = (s : Int) ∧ s ≤ 9 ∧ R < 512 ∧ cst y.2.2 c ∧ eqd c M y.2.2 ∧ (j : Int) ≤ y.2.2 c 11 ∧ (j : Int) ≤ y.2.2 c 12 ∧ (∀ p : Int, 0 ≤ p → p < (j : Int) → y.2.2 (c + 14) p = crow t w n p) ∧ ∀ s', s' < 9 → (R.testBit s' = true ↔ s' < s ∧ fr_in (gof M (c + 1)) (M (c + 1) 4).toNat (if t = 0 then sg (crow t w n) (i : Int) (j : Int) ++ [tkn edge s'] else (sg (crow t w n) (i : Int) (j : Int) ++ [tkn edge s']).reverse))) (fun y => (9 - y.2.1).toNat) ?_ (0, 0, M) ⟨0, 0, rfl, rfl, by decide, by decide, lk.2.1, eqd.rf, by show (j : Int) ≤ M c 11; omega, by show (j : Int) ≤ M c 12; omega, fun p p1 p2 => tok p p1 (by omega), fun s' hs' => by simp⟩
    rintro ⟨_, _, M1⟩ ⟨R, s, h1, h2, hs, hR, s1, e1, z1, y1, k1, b1⟩ P hP
    dsimp only at h1 h2 s1 e1 z1 y1 k1 hP ⊢
    subst h1 h2
    unfold w_X0_followers_25b
    refine ⟨⟨by omega, by omega⟩, fun h => ?_, fun h => t_cut s1 ⟨by omega, by omega⟩ (fun M2 s2 e2 p2 z2 y2 => ?_)⟩
    · refine q R M1 hR e1 (lk.dyn e1 s1) (fun h => absurd h hnl) (fun _ s' hs' => ?_)
      rw [b1 s' hs']
      exact ⟨fun h => h.2, fun h => ⟨by omega, h⟩⟩
    · -- one token
      have one : ∀ tk : Int, tk = (tkn edge s : Int) → 0 ≤ tk ∧ tk ≤ 9 → w_X0_followers_51 c (i : Int) (j : Int) edge (R : Int) (s : Int) c tk (fun x4 x5 M => P (x4, x5, M)) Q M2 := by
        intro tk htk htb
        unfold w_X0_followers_51
        refine t_push s2 (by omega) htb (fun M3 s3 e3 p3 f3 z3 y3 => ?_)
        obtain ⟨ok, tkk, sn, gd, hx, hpb, hpx⟩ := s3
        rw [show (j : Int) + 1 = ((j + 1 : Nat) : Int) by omega]
        refine t_fillParts ok tkk sn gd (by omega) (fun q' h => hx q' (by omega)) (fun q' h => hpx q' (by omega)) (fun M4 e4 s4 h4 x4 => t_leastFitting hc ⟨by omega, by omega⟩ ?_)
        have st4 := cst_fill (q := j + 1) ⟨ok, tkk, sn, gd, hx, hpb, hpx⟩ (by omega) e4 s4 h4 x4
        have ed4 : eqd c M M4 := ((e1.tr e2).tr e3).tr (eqd.v e4)
        have k4 := lk.dyn ed4 st4
        have h14 : M4 (c + 14) = M3 (c + 14) := e4.row (by omega) (by omega) (by omega) (by omega)
        have tw : tkw M4 c i (j + 1) = sg (crow t w n) (i : Int) (j : Int) ++ [tkn edge s] := by
          show sg (M4 (c + 14)) (i : Int) ((j + 1 : Nat) : Int) = _
          rw [← sg_app (m := (j : Int)) (by omega) (by omega), show ((j + 1 : Nat) : Int) = (j : Int) + 1 by omega, sg_one, h14]
          rw [show M3 (c + 14) (j : Int) = tk by rw [← f3, z2, Int.min_eq_left z1], htk, Int.toNat_natCast]
          congr 1
          exact sg_congr (fun p a1 a2 => by rw [p3 p (by omega), p2]; exact k1 p (by omega) a2)
        have hv := (st4.2.2.2.2.2.2 (j + 1) (by omega) 6 i (by decide)).2 (by omega)
        have hfit := hv.2
        rw [tw, k4.fit, ed4.c (show (8 : Int) ≠ 11 by decide) (by decide), h8, gof.eq (fun a a1 a2 => ed4.row (by omega) (by omega)), ed4.row (show c + 1 < c + 14 ∨ _ by omega) (by omega)] at hfit
        rw [show ((6 : Nat) : Int) * 18 + ((j + 1 : Nat) : Int) = 108 + ((j + 1 : Nat) : Int) by omega] at hfit
        have hb19 := st4.2.2.1.2.2.2.2 (108 + ((j + 1 : Nat) : Int))
        have nxt : ∀ R' : Nat, R' < 512 → (∀ s', s' < 9 → (R'.testBit s' = true ↔ R.testBit s' = true ∨ (s' = s ∧ M4 (c + 19) (108 + ((j + 1 : Nat) : Int)) ≤ (i : Int)))) → P ((R' : Int), (s : Int) + 1, M4) := by
          intro R' hR' hb'
          refine hP ((R' : Int), (s : Int) + 1, M4) ⟨R', s + 1, rfl, by show (s : Int) + 1 = _; omega, by omega, hR', st4, ed4, by show (j : Int) ≤ M4 c 11; rw [e4.c (by decide), z3]; omega, by show (j : Int) ≤ M4 c 12; rw [h4]; omega, fun p a1 a2 => ?_, fun s' hs' => ?_⟩ (by show (9 - ((s : Int) + 1)).toNat < (9 - (s : Int)).toNat; omega)
          · show M4 (c + 14) p = _
            rw [h14, p3 p (by omega), p2]; exact k1 p a1 a2
          · rw [hb' s' hs', b1 s' hs', hfit]
            constructor
            · rintro (⟨a1, a2⟩ | ⟨rfl, a2⟩)
              · exact ⟨by omega, a2⟩
              · exact ⟨by omega, a2⟩
            · rintro ⟨a1, a2⟩
              by_cases e : s' = s
              · subst e; exact Or.inr ⟨rfl, a2⟩
              · exact Or.inl ⟨by omega, a2⟩
        refine ⟨⟨by omega, by omega⟩, ⟨by omega, by omega⟩, fun hlt => nxt R hR (fun s' hs' => ⟨Or.inl, fun h => h.elim id (fun h => by omega)⟩), fun hle => ⟨⟨by omega, by omega⟩, fun h8' => ?_, fun h8' => ?_⟩⟩
        · unfold w_X0_followers_91
          have hs8 : s < 8 := by omega
          rw [pb_one (by omega), pb_or (by omega) (by have : 2 ^ s < 2 ^ 8 := Nat.pow_lt_pow_right (by decide) hs8; omega)]
          rintro z rfl
          refine nxt (R ||| 2 ^ s) (Nat.or_lt_two_pow (n := 9) hR (Nat.pow_lt_pow_right (by decide) (by omega))) (fun s' hs' => ?_)
          rw [pb_set, Bool.or_eq_true, decide_eq_true_iff]
          exact ⟨fun h => h.elim Or.inl (fun h => Or.inr ⟨h.symm, by omega⟩), fun h => h.elim Or.inl (fun h => Or.inr h.1.symm)⟩
        · unfold w_X0_followers_91
          have hs8 : s = 8 := by omega
          rw [show (256 : Int) = ((2 ^ 8 : Nat) : Int) from rfl, pb_or (by omega) (by decide)]
          rintro z rfl
          refine nxt (R ||| 2 ^ 8) (Nat.or_lt_two_pow (n := 9) hR (by decide)) (fun s' hs' => ?_)
          rw [pb_set, Bool.or_eq_true, decide_eq_true_iff]
          exact ⟨fun h => h.elim Or.inl (fun h => Or.inr ⟨by omega, by omega⟩), fun h => h.elim Or.inl (fun h => Or.inr (by omega))⟩
      refine ⟨⟨by omega, by omega⟩, fun h => one (s : Int) ?_ ⟨by omega, by omega⟩, fun h => one edge ?_ ⟨by omega, by omega⟩⟩
      · unfold tkn; rw [if_neg (by omega)]
      · unfold tkn; rw [if_pos (by omega), Int.toNat_of_nonneg (by omega)]
  unfold w_X0_followers
  refine ⟨⟨by omega, by omega⟩, ⟨by omega, by omega⟩, fun h => main (by omega), fun h => ⟨⟨by omega, by omega⟩, ?_, ⟨by omega, by omega⟩, ?_, ?_⟩⟩
  · rw [cr_9 hc]; have := lk.2.1.2.1.2.1 ((j : Int) - 1); exact ⟨by omega, by omega⟩
  · intro hne
    rw [cr_9 hc, tok _ (by omega) (by omega), last _ (by omega) (by omega)] at hne
    exact main (by omega)
  · intro heq
    rw [cr_9 hc, tok _ (by omega) (by omega), last _ (by omega) (by omega)] at heq
    exact q 0 M (by decide) eqd.rf lk (fun _ => rfl) (fun h => absurd ⟨by omega, by omega⟩ h)
/-- what facts tell -/
theorem t_signsOfSentences {M : pj_M} {c : Nat} {Q : Int → pj_M → Prop} (lk : clk M c) (q : ∀ R : Nat, R < 256 → (∀ t, R.testBit t = true ↔ gr_if (gof M (c + 1)) 8 (M (c + 1) 4).toNat [t]) → Q (R : Int) M) : w_X0_signsOfSentences c M Q := by
  have hc := lk.2.1.1.1
  have hst := lk.2.2.1.st
  have hF : isF (c + 1) := by rcases hc with h | h | h <;> rw [h] <;> simp [isF]
  obtain ⟨st, hs⟩ : ∃ st : Nat, M (c + 1) 4 = (st : Int) := ⟨_, (Int.toNat_of_nonneg hst.1).symm⟩
  unfold w_X0_signsOfSentences
  have h3 := ff_3 hF
  rw [cr_0 hc, cr_1 hc, h3, hs]
  have fs := lk.2.2.2.1.2.1
  have b := fs.1.2.2 (st : Int) (by omega) (by omega)
  have h := fun t => (fs.2 st t (by omega)).2.2
  obtain ⟨v, hv⟩ : ∃ v : Nat, M (c + 1 + 8) (st : Int) = (v : Int) := ⟨_, (Int.toNat_of_nonneg b.1).symm⟩
  rw [hs, Int.toNat_natCast] at q
  rw [hv] at b ⊢
  refine ⟨⟨by omega, by omega⟩, q v (by omega) (fun t => ?_)⟩
  have := h t
  unfold tbit at this
  rw [hv, Int.toNat_natCast] at this
  exact this
