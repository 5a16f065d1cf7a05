theorem rpn.gr {D D' w : Int → Int} {n r : Int} (h : rpn D' w n r) (g : gr_eq (gr_of D') (gr_of D)) (h1 : D' 1 = D 1) : rpn D w n r := by
  have e : pfit (gr_of D') (D' 1).toNat w n = pfit (gr_of D) (D 1).toNat w n := by
    funext i j
    rw [h1]
    exact propext (fr_in_eq g _ _)
  unfold rpn at *
  rw [e] at h
  exact h
theorem ndn.gr {D D' w : Int → Int} {n r : Int} (h : ndn D' w n r) (g : gr_eq (gr_of D') (gr_of D)) (h1 : D' 1 = D 1) : ndn D w n r := by
  unfold ndn at *
  rw [g.wl, h1] at h
  exact h
def eqV (M M' : pj_M) : Prop := ∀ c, (c < 203 ∨ c = 205 ∨ c = 222 ∨ c = 223 ∨ 227 < c) → M' c = M c
theorem eqV.tr {M M1 M2 : pj_M} (h : eqV M M1) (h2 : eqV M1 M2) : eqV M M2 := fun c h3 => (h2 c h3).trans (h c h3)
theorem eqV.p {M M' : pj_M} (h : eqp M M') : eqV M M' := fun c hc => h.at (by omega)
theorem eqV.t {M M' : pj_M} (h : eqt2 M M') : eqV M M' := fun c hc => h.row (by omega) (by omega)
section
variable {M : pj_M} {T : Int → Int} {n : Int} {Q : Int → pj_M → Prop}
/-- the end of a day: it is told -/
theorem t_day154 {j : Nat} {y1 : Int} {Q : Int → pj_M → Prop} (s : msc M) (v : dvl (M 204)) (hy : pj_in y1) (q : ∀ M' c, eqV M M' → msc M' → M' 203 2 = M 203 2 → M' 203 34 = M 203 34 → M' 204 = M 204 → M' 225 = M 225 → rwsm M' [y1, c] → rpn (M 204) (lw (M 204)) (M 204 73) c → Q (j : Int) M') : w_X12_day_154 203 (j : Int) 203 y1 Q (pj_up M 203 4 0) := by
  unfold w_X12_day_154
  refine t_tellM (l := []) rwsm.nil (by decide) (fun M1 e1 r1 => ?_)
  have e01 : eqt2 M M1 := eqt2.z.tr e1
  have g1 : M1 204 = M 204 := e01.row (by decide) (by decide)
  have v1 : dvl (M1 204) := by rw [g1]; exact v
  have hn := v.2.2.1
  refine t_reportWithout (p := 0) (s.t e01) v1 ⟨Int.le_refl _, by rw [g1]; exact hn.1⟩ (fun r M2 e2 s2 _ hr hrp _ => ?_)
  refine ⟨⟨by omega, by omega⟩, t_tellM (r1.p e2) (by simp) (fun M3 e3 r3 => ?_)⟩
  have hrp' := hrp rfl
  rw [g1] at hrp'
  refine q M3 r (((eqV.t e01).tr (eqV.p e2)).tr (eqV.t e3)) (s2.t e3) ?_ ?_ ?_ ?_ r3 hrp'
  · rw [e3 203 2 (by decide) (by decide), e2 203 2 (by unfold mpk; omega), e01 203 2 (by decide) (by decide)]
  · rw [e3 203 34 (by decide) (by decide), e2 203 34 (by unfold mpk; omega), e01 203 34 (by decide) (by decide)]
  · rw [e3.row (by decide) (by decide), e2.at (by omega), g1]
  · rw [e3.row (by decide) (by decide), e2.at (by omega), e01.row (by decide) (by decide)]
theorem m_day (sc : msc M) (v : dvl (M 204)) (hu : 0 ≤ M 203 34 ∧ M 203 34 ≤ 10) (hn : M 203 2 = n) (hb : 0 ≤ n ∧ n ≤ 80) (ht : ∀ k, 0 ≤ k → k < n → T k = pj_and (M 205 k) 255 ∧ -128 ≤ M 205 k ∧ M 205 k ≤ 127)
    (q0 : ∀ r, misD T n r → r ≠ -1 → ∀ M', eqT M M' → msc M' → M' 203 2 = 0 → Q (-1 - r) M')
    (q1 : misD T n (-1) → ∀ M' k f c, s_day (M 204) T n k f c → eqV M M' → msc M' → M' 203 2 = 0 → rwsm M' [f, c] → chd (M 204) (M' 204) (dLn T (M 204 73) (lw (M 204)) k).1 (dLn T (M 204 73) (lw (M 204)) k).2 → dvl (M' 204) → (k = 0 → M' 225 = M 225 ∧ M' 203 34 = M 203 34) → (k ≠ 0 → pshm M (M 204) M') → Q (k : Int) M') : w_X12_day 203 M Q := by
  unfold w_X12_day
  rintro M0 rfl
  refine t_begin (T := T) (n := n) (by rw [pu_nk (by decide)]; exact hn) hb (fun k k1 k2 => by rw [pu_ne (by decide)]; exact ht k k1 k2) (fun M1 r1 h7 h8 h2 f1 => ?_)
  have F1 : ∀ a x, ¬ (a = 203 ∧ (x = 2 ∨ x = 5 ∨ x = 6 ∨ x = 7 ∨ x = 8)) → M1 a x = M a x := fun a x ha => by rw [f1 a x (by omega), pu_if, if_neg (by omega)]
  clear f1
  have fr : ∀ M3, eqA M1 M3 → ∀ a x, a ≠ 227 → ¬ (a = 203 ∧ (x = 2 ∨ x = 5 ∨ x = 6 ∨ x = 7 ∨ x = 8)) → M3 a x = M a x := fun M3 e3 a x a1 a2 => by rw [e3 a x a1 (by omega)]; exact F1 a x a2
  have k2 : ∀ M3, eqA M1 M3 → M3 203 2 = 0 := fun M3 e3 => by rw [e3 203 2 (by decide) (by decide)]; exact h2
  unfold w_X12_day_11
  refine pj_lp_inv (fun y : Int × pj_M => eqA M1 y.2 ∧ ((∃ k p : Nat, y.1 = (k : Int) ∧ dgd T n y.2 p ∧ (p : Int) = dPs T k ∧ (dst T p).1 = 0 ∧ 3 * k ≤ p ∧ ∀ j : Nat, j < k → y.2 227 (3 * (j : Int)) = dkd (T (dPs T j)) ∧ y.2 227 (3 * (j : Int) + 1) = dPl T (dPs T j) ∧ y.2 227 (3 * (j : Int) + 2) = dSg T (dPs T j) ∧ (0 ≤ dPl T (dPs T j) ∧ dPl T (dPs T j) ≤ 99) ∧ (0 ≤ dSg T (dPs T j) ∧ dSg T (dPs T j) ≤ 7) ∧ dPs T j < n) ∨ dbd T n y.2)) (fun y => (n - y.2 203 7).toNat + (if y.2 203 8 = -1 then 1 else 0)) ?_ (0, M1) ⟨eqA.rf, Or.inl ⟨0, 0, rfl, ⟨r1, h8, h7, fun p' h => absurd h (Nat.not_lt_zero _)⟩, rfl, rfl, Nat.le_refl _, fun j h => absurd h (Nat.not_lt_zero _)⟩⟩
  rintro ⟨x1, M2⟩ ⟨e2, hor⟩ P hP
  dsimp only at e2 hor hP ⊢
  unfold w_X12_day_11b
  rcases hor with ⟨K, p, hx, g2, hp, hd0, h3k, acts⟩ | b2
  · subst hx
    have r2 := g2.1
    have n2 := r2.1
    have a7 := g2.2.2.1
    have p7 := r2.2.2.1
    refine t_fine r2 (fun t ht hi => ⟨in01 ht, fun h0 => by have := hi.mpr g2.2.1; omega, fun _ => ?_⟩)
    rw [n2, a7]
    refine ⟨⟨by omega, by omega⟩, ⟨by omega, by omega⟩, fun hle => ?_, fun hlt => ?_⟩
    · -- all is read
      have hpn : (p : Int) = n := by omega
      have hm : misD T n (-1) := Or.inl ⟨Or.inl ⟨rfl, by rw [← hpn, Int.toNat_natCast]; exact hd0⟩, fun p' hp' => g2.2.2.2 p' (by omega)⟩
      unfold w_X12_day_42
      refine t_wasRight r2 (fun h => absurd g2.2.1 h) (fun _ _ => ⟨⟨by decide, by decide⟩, fun _ => ?_, fun h => absurd h (by decide)⟩) (fun _ h => by omega)
      have g4 : M2 204 = M 204 := funext fun x => fr M2 e2 204 x (by decide) (by omega)
      have g34 : M2 203 34 = M 203 34 := fr M2 e2 203 34 (by decide) (by decide)
      have g25 : M2 225 = M 225 := funext fun x => fr M2 e2 225 x (by decide) (by omega)
      have V2 : eqV M M2 := fun c hc => funext fun x => fr M2 e2 c x (by omega) (by omega)
      have s2 : msc M2 := sc.eq (fun a a1 a2 => funext fun x => fr M2 e2 a x (by omega) (by omega))
      unfold w_X12_day_58
      refine pj_lp_inv (fun y : Int × pj_M => (0 ≤ y.1 ∧ y.1 ≤ 95) ∧ (∀ a, a ≠ 226 → y.2 a = M2 a) ∧ ∀ u, 0 ≤ u → u < y.1 → y.2 226 u = M 204 u) (fun y => (95 - y.1).toNat) ?_ (0, M2) ⟨⟨by simp, by simp⟩, fun _ _ => rfl, fun u u1 u2 => by have : u < 0 := u2; omega⟩
      rintro ⟨d, M3⟩ ⟨hd, f3, w3⟩ P3 hP3
      dsimp only at hd f3 w3 hP3 ⊢
      unfold w_X12_day_58b
      rw [rm_0, rm_35]
      refine ⟨⟨by omega, by omega⟩, fun hend => ?_, fun hgo => ⟨⟨by omega, by omega⟩, ⟨by omega, by omega⟩, ?_⟩⟩
      · have V3 : eqV M M3 := V2.tr (fun c hc => f3 c (by omega))
        have s3 : msc M3 := s2.eq (fun a a1 a2 => f3 a (by omega))
        have g34' : M3 204 = M 204 := (f3 204 (by decide)).trans g4
        -- the end, after j acts
        have fin : ∀ (M4 : pj_M) (j : Nat) (f : Int), j ≤ K → (∀ a, a ≠ 204 → M4 a = M3 a) → dvl (M4 204) → chd (M 204) (M4 204) (dLn T (M 204 73) (lw (M 204)) j).1 (dLn T (M 204 73) (lw (M 204)) j).2 → dyr T n (M 204 73) (lw (M 204)) j f → ((K ≤ j → f = 0) ∧ (¬ K ≤ j → f = 1)) → w_X12_day_130 203 (K : Int) (j : Int) Q M4 := by
          intro M4 j f hj f4 v4 c4 dy hf
          have V4 : eqV M M4 := V3.tr (fun c hc => f4 c (by omega))
          have s4 : msc M4 := s3.eq (fun a a1 a2 => f4 a (by omega))
          have z34 : M4 203 34 = M 203 34 := by rw [f4 203 (by decide), f3 203 (by decide)]; exact g34
          have z2 : M4 203 2 = 0 := by rw [f4 203 (by decide), f3 203 (by decide)]; exact k2 M2 e2
          have z25 : M4 225 = M 225 := by rw [f4 225 (by decide), f3 225 (by decide)]; exact g25
          have gr4 : gr_eq (gr_of (M4 204)) (gr_of (M 204)) := gr_of_eq (fun x hx => c4.2.2 x (Or.inl hx)) v.1
          have one4 : M4 204 1 = M 204 1 := c4.2.2 1 (Or.inl (by decide))
          have last : ∀ M5, eqV M4 M5 → msc M5 → M5 203 2 = 0 → M5 204 = M4 204 → (j = 0 → M5 225 = M 225 ∧ M5 203 34 = M 203 34) → (j ≠ 0 → pshm M (M 204) M5) → w_X12_day_138 203 (K : Int) (j : Int) Q M5 := by
            intro M5 V5 s5 z5 g5 j0 j1
            have v5 : dvl (M5 204) := by rw [g5]; exact v4
            unfold w_X12_day_138
            rintro M6 rfl
            have tl : ∀ y1, y1 = f → pj_in y1 → w_X12_day_154 203 (j : Int) 203 y1 Q (pj_up M5 203 4 0) := by
              intro y1 hy hin
              refine t_day154 s5 v5 hin (fun M7 c V7 s7 y2 y34 y4 y25 r7 rp => ?_)
              subst hy
              have rp' : rpn (M 204) (dLn T (M 204 73) (lw (M 204)) j).2 (dLn T (M 204 73) (lw (M 204)) j).1 c := by
                rw [g5] at rp
                have r1 := rp.gr gr4 one4
                rw [c4.1] at r1
                exact r1.congr c4.2.1
              refine q1 hm M7 j y1 c ⟨dy, rp'⟩ ((V4.tr V5).tr V7) s7 (by rw [y2]; exact z5) r7 (by rw [y4, g5]; exact c4) (by rw [y4, g5]; exact v4) (fun h => ?_) (fun h => ?_)
              · rw [y25, y34]; exact j0 h
              · have := j1 h
                unfold pshm at this ⊢
                rw [y25, y34]; exact this
            refine ⟨⟨by omega, by omega⟩, ⟨by omega, by omega⟩, fun hle => tl 0 (hf.1 (by omega)).symm ⟨by decide, by decide⟩, fun hgt => tl 1 (hf.2 (by omega)).symm ⟨by decide, by decide⟩⟩
          unfold w_X12_day_130
          refine ⟨⟨by omega, by omega⟩, fun hle => last M4 (fun _ _ => rfl) s4 z2 rfl (fun _ => ⟨z25, z34⟩) (fun h => by omega), fun hgt => t_note (by rw [z34]; exact hu) (fun M5 f5 p5 => ?_)⟩
          refine last M5 (fun c hc => funext fun x => f5 c x (by omega) (by omega)) (s4.eq (fun a a1 a2 => funext fun x => f5 a x (by omega) (by omega))) (by rw [f5 203 2 (by decide) (by decide)]; exact z2) (funext fun x => f5 204 x (by decide) (by omega)) (fun h => by omega) (fun _ => ?_)
          unfold pshm at p5 ⊢
          rw [z34, z25] at p5
          refine ⟨p5.1, fun i x i1 i2 x1 x2 => ?_⟩
          rw [p5.2 i x i1 i2 x1 x2, f4 226 (by decide), w3 x x1 (by omega)]
        unfold w_X12_day_84
        refine pj_lp_inv (fun y : Int × pj_M => ∃ j : Nat, y.1 = (j : Int) ∧ j ≤ K ∧ (∀ a, a ≠ 204 → y.2 a = M3 a) ∧ dvl (y.2 204) ∧ chd (M 204) (y.2 204) (dLn T (M 204 73) (lw (M 204)) j).1 (dLn T (M 204 73) (lw (M 204)) j).2 ∧ ∀ i : Nat, i < j → dPs T i < n ∧ 0 ≤ dAn T (M 204 73) (lw (M 204)) i) (fun y => ((K : Int) - y.1).toNat) ?_ (0, M3) ⟨0, rfl, Nat.zero_le _, fun _ _ => rfl, by show dvl (M3 204); rw [g34']; exact v, by show chd (M 204) (M3 204) (M 204 73) (lw (M 204)); rw [g34']; exact ⟨rfl, fun _ _ _ => rfl, fun _ _ => rfl⟩, fun i h => absurd h (Nat.not_lt_zero _)⟩
        rintro ⟨_, M4⟩ ⟨j, hj, hjK, f4, v4, c4, don⟩ P4 hP4
        dsimp only at hj f4 v4 c4 hP4 ⊢
        subst hj
        unfold w_X12_day_84b
        rw [rm_36]
        refine ⟨⟨by omega, by omega⟩, ⟨by omega, by omega⟩, fun hle => ?_, fun hlt => ⟨⟨by omega, by omega⟩, ⟨by omega, by omega⟩, ⟨by omega, by omega⟩, ?_⟩⟩
        · have hjK' : j = K := by omega
          subst hjK'
          exact fin M4 j 0 (Nat.le_refl _) f4 v4 c4 ⟨don, Or.inl ⟨rfl, by omega⟩⟩ ⟨fun _ => rfl, fun h => absurd (Nat.le_refl _) h⟩
        · obtain ⟨b1, b2, b3, b4, b5, b6⟩ := acts j (by omega)
          have m27 : M4 227 = M2 227 := by rw [f4 227 (by decide), f3 227 (by decide)]
          rw [m27, b1, b2, b3]
          have hkb : 0 ≤ dkd (T (dPs T j)) ∧ dkd (T (dPs T j)) ≤ 2 := by unfold dkd; split; decide; split; decide; decide
          obtain ⟨l1, l2, l3⟩ := lop_congr (k := dkd (T (dPs T j))) (p := dPl T (dPs T j)) (s := dSg T (dPs T j)) (n := M4 204 73) (w := lw (M4 204)) (w' := (dLn T (M 204 73) (lw (M 204)) j).2) (by rw [c4.1]; exact c4.2.1)
          rw [c4.1] at l1 l2 l3
          have hAn : (lop (dkd (T (dPs T j))) (dPl T (dPs T j)) (dSg T (dPs T j)) (M4 204 73) (lw (M4 204))).1 = dAn T (M 204 73) (lw (M 204)) j := by rw [c4.1]; exact l1
          refine t_act v4 hkb ⟨by omega, by omega⟩ ⟨by omega, by omega⟩ (fun h => by unfold dSg; rw [if_pos h]) (fun hneg => ⟨⟨by decide, by decide⟩, fun _ => ?_, fun h => absurd rfl h⟩) (fun hpos M5 a5 => ⟨⟨by decide, by decide⟩, fun h => absurd h (by decide), fun _ => ?_⟩)
          · rw [hAn] at hneg
            exact fin M4 j 1 hjK f4 v4 c4 ⟨don, Or.inr ⟨rfl, b6, hneg⟩⟩ ⟨fun h => by omega, fun _ => rfl⟩
          · rw [hAn] at hpos
            obtain ⟨a51, a52, a53⟩ := a5
            rw [c4.1] at a51
            refine hP4 ((j : Int) + 1, M5) ⟨j + 1, by show (j : Int) + 1 = _; omega, by omega, fun a ha => (a53 a ha).trans (f4 a ha), a52, ?_, fun i hi => ?_⟩ (by show ((K : Int) - ((j : Int) + 1)).toNat < ((K : Int) - (j : Int)).toNat; omega)
            · show chd (M 204) (M5 204) (lop (dkd (T (dPs T j))) (dPl T (dPs T j)) (dSg T (dPs T j)) (dLn T (M 204 73) (lw (M 204)) j).1 (dLn T (M 204 73) (lw (M 204)) j).2).2.1 (lop (dkd (T (dPs T j))) (dPl T (dPs T j)) (dSg T (dPs T j)) (dLn T (M 204 73) (lw (M 204)) j).1 (dLn T (M 204 73) (lw (M 204)) j).2).2.2
              rw [← l2]
              refine ⟨a51.1, fun x x1 x2 => (a51.2.1 x x1 x2).trans (l3 x x1 x2), fun x hx => (a51.2.2 x hx).trans (c4.2.2 x hx)⟩
            · by_cases e : i = j
              · rw [e]; exact ⟨b6, hpos⟩
              · exact don i (by omega)
      · rintro M4 rfl
        refine hP3 (d + 1, _) ⟨⟨by show 0 ≤ d + 1; omega, by show d + 1 ≤ 95; omega⟩, fun a ha => (pu_row ha).trans (f3 a ha), fun u u1 u2 => ?_⟩ (by show (95 - (d + 1)).toNat < (95 - d).toNat; omega)
        have u2' : u < d + 1 := u2
        show pj_up M3 226 d (M3 204 d) 226 u = _
        by_cases e : u = d
        · rw [e, pu_eq, f3 204 (by decide), g4]
        · rw [pu_nk e]; exact w3 u u1 (by omega)
    · have hlt' : (p : Int) < n := by omega
      refine t_readAct g2 hlt' hd0 ⟨by omega, by omega⟩ (fun M3 e3 b3 a3 => ?_) (fun M3 L hL hL2 e3 g3 hd3 y1 y2 y3 y4 y5 y6 => ?_)
      · refine hP ((K : Int) + 1, M3) ⟨e2.tr e3, Or.inr b3⟩ ?_
        show (n - M3 203 7).toNat + (if M3 203 8 = -1 then 1 else 0) < (n - M2 203 7).toNat + (if M2 203 8 = -1 then 1 else 0)
        rw [if_neg b3.2.1, if_pos g2.2.1]; omega
      · have hps : dPs T (K + 1) = ((p + L : Nat) : Int) := by
          show dPs T K + dln (T (dPs T K)) = _
          rw [← hp, hL]; omega
        refine hP ((K : Int) + 1, M3) ⟨e2.tr e3, Or.inl ⟨K + 1, p + L, by show (K : Int) + 1 = _; omega, g3, hps.symm, hd3, by omega, fun j hj => ?_⟩⟩ ?_
        · show M3 227 (3 * (j : Int)) = _ ∧ M3 227 (3 * (j : Int) + 1) = _ ∧ M3 227 (3 * (j : Int) + 2) = _ ∧ _
          by_cases e : j = K
          · rw [e, ← hp]; exact ⟨y1, y2, y3, y4, y5, hlt'⟩
          · obtain ⟨b1, b2, b3, b4, b5, b6⟩ := acts j (by omega)
            rw [y6 _ (by omega), y6 _ (by omega), y6 _ (by omega)]
            exact ⟨b1, b2, b3, b4, b5, b6⟩
        · show (n - M3 203 7).toNat + (if M3 203 8 = -1 then 1 else 0) < (n - M2 203 7).toNat + (if M2 203 8 = -1 then 1 else 0)
          have := g3.2.2.1
          rw [if_pos g3.2.1, if_pos g2.2.1]; omega
  · refine t_fine b2.1 (fun t ht hi => ⟨in01 ht, fun h0 => ?_, fun hne => absurd (hi.mp (by omega)) b2.2.1⟩)
    unfold w_X12_day_42
    refine t_wasRight b2.1 (fun _ => ⟨⟨by decide, by decide⟩, fun h => absurd rfl h, fun _ => ?_⟩) (fun he => absurd he b2.2.1) (fun he => absurd he b2.2.1)
    refine q0 _ b2.2.2 b2.2.1 M2 (fun a x a1 a2 => fr M2 e2 a x ?_ ?_) (sc.eq (fun a a1 a2 => funext fun x => fr M2 e2 a x (by omega) (by omega))) (k2 M2 e2)
    · rintro rfl; revert a1; unfold mpk; omega
    · rintro ⟨rfl, h⟩; revert a1; unfold mpk; omega
end
