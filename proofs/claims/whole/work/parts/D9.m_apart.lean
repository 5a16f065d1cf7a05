theorem vg_eq0 {D D' : Int → Int} (h : ∀ x, 0 ≤ x → x < 73 → D' x = D x) (v : vg D) : vg D' := by
  obtain ⟨h1, h2, h3, h4⟩ := v
  refine ⟨by rw [h 0 (by decide) (by decide)]; exact h1, fun k k1 k2 => by rw [h _ (by omega) (by omega)]; exact h2 k k1 k2, fun k k1 k2 => by rw [h _ (by omega) (by omega)]; exact h3 k k1 k2, fun k s k1 k2 s1 s2 => by rw [h _ (by omega) (by omega)]; exact h4 k s k1 k2 s1 s2⟩
theorem gr_of_eq0 {D D' : Int → Int} (h : ∀ x, 0 ≤ x → x < 73 → D' x = D x) (v : vg D) : gr_eq (gr_of D') (gr_of D) := by
  have hn := v.1
  refine ⟨by show (D' 0).toNat = (D 0).toNat; rw [h 0 (by decide) (by decide)], fun k hk => ?_⟩
  have hk' : k < (D' 0).toNat := hk
  rw [h 0 (by decide) (by decide)] at hk'
  have hz := v.2.2.1 (k : Int) (by omega) (by omega)
  refine ⟨by show (D' (1 + 6 * (k : Int))).toNat = (D (1 + 6 * (k : Int))).toNat; rw [h _ (by omega) (by omega)], ?_⟩
  rw [gr_of_sg, gr_of_sg, h (1 + 6 * (k : Int) + 1) (by omega) (by omega)]
  exact sg_congr (fun s s1 s2 => h _ (by omega) (by omega))
theorem dvl_eq0 {D D' : Int → Int} (h : ∀ x, 0 ≤ x → x < 95 → D' x = D x) (v : dvl D) : dvl D' := by
  obtain ⟨h1, h2, h3, h4, h5⟩ := v
  have hlt : ∀ x, 0 ≤ x → x < 73 → D' x = D x := fun x x1 x2 => h x x1 (by omega)
  refine ⟨vg_eq0 hlt h1, ?_, by rw [h 73 (by decide) (by decide)]; exact h3, fun x x1 x2 => by rw [h _ (by omega) (by omega)]; exact h4 x x1 x2, ?_⟩
  · rw [(gr_of_eq0 hlt h1).gd, hlt 1 (by decide) (by decide)]; exact h2
  · obtain ⟨a1, a2, a3⟩ := h5
    rw [h 88 (by decide) (by decide)]
    refine ⟨a1, fun i i1 i2 => by show 0 ≤ D' (89 + i) ∧ D' (89 + i) ≤ 7; rw [h _ (by omega) (by omega)]; exact a2 i i1 i2, fun i j i1 i2 j1 j2 ee => a3 i j i1 i2 j1 j2 ?_⟩
    have ee' : D' (89 + i) = D' (89 + j) := ee
    rw [h _ (by omega) (by omega), h _ (by omega) (by omega)] at ee'
    exact ee'
section
variable {M : pj_M} {Q : Int → pj_M → Prop}
theorem m_apart {E : Int → Int} {i n : Int} (s : msc M) (v : dvl (M 204)) (hi : pj_in i) (hn : pj_in n) (hkb : ∀ x, M 223 x = 0 ∨ M 223 x = 1) (hE : 0 ≤ i → i < 2 → M 223 i ≠ 0 → dvl E ∧ ∀ x, 0 ≤ x → x < 95 → M 222 (95 * i + x) = E x)
    (q : ∀ r o M', eqm M M' → msc M' → rwm M M' o → s_apart (M 223 i) (M 204) E i n r o → Q r M') : w_X12_apart 203 i n M Q := by
  unfold w_X12_apart
  rintro M1 rfl
  have no : ¬ (0 ≤ i ∧ i < 2 ∧ 0 ≤ n ∧ n ≤ 5) → Q (-1) (pj_up M 203 5 0) := fun h => q (-1) none _ (eqm.p eqp.z) s.up (rwm.p eqp.z) ⟨fun _ => ⟨rfl, rfl⟩, fun h' => absurd h' h⟩
  refine t_in hi ⟨by decide, by decide⟩ ⟨by decide, by decide⟩ (fun t ht hiff => ⟨in01 ht, fun h => no (fun h' => by have := hiff.mpr ⟨h'.1, by omega⟩; omega), fun h => ?_⟩)
  have hib := hiff.mp (by omega)
  refine t_in hn ⟨by decide, by decide⟩ ⟨by decide, by decide⟩ (fun t2 ht2 hiff2 => ⟨in01 ht2, fun h => ?_, fun h => no (fun h' => by have := hiff2.mpr ⟨h'.2.2.1, h'.2.2.2⟩; omega)⟩)
  have hnb := hiff2.mp (by omega)
  have all : 0 ≤ i ∧ i < 2 ∧ 0 ≤ n ∧ n ≤ 5 := by omega
  have z223 : pj_up M 203 5 0 223 = M 223 := pu_row (by decide)
  rw [rm_31, z223]
  refine ⟨⟨by omega, by omega⟩, in01 (hkb i), fun hne => ?_, fun hz => q (-3) none _ (eqm.p eqp.z) s.up (rwm.p eqp.z) ⟨fun h => absurd all h, fun _ => ⟨fun _ => ⟨rfl, rfl⟩, fun h => absurd hz h⟩⟩⟩
  obtain ⟨vE, hEv⟩ := hE (by omega) (by omega) hne
  obtain ⟨m, rfl⟩ : ∃ m : Nat, n = (m : Int) := ⟨n.toNat, by omega⟩
  have hm : ((m : Int)).toNat = m := by omega
  unfold w_X12_apart_39
  refine pj_lp_inv (fun y : Int × pj_M => (0 ≤ y.1 ∧ y.1 ≤ 95) ∧ (∀ a, a ≠ 224 → y.2 a = pj_up M 203 5 0 a) ∧ ∀ x, 0 ≤ x → x < y.1 → y.2 224 x = E x) (fun y => (95 - y.1).toNat) ?_ (0, _) ⟨⟨by simp, by simp⟩, fun a _ => rfl, fun x x1 x2 => by have : x < 0 := x2; omega⟩
  rintro ⟨c, M2⟩ ⟨hc, f2, o2⟩ P hP
  dsimp only at hc f2 o2 hP ⊢
  unfold w_X12_apart_39b
  rw [rm_0, rm_30, rm_32]
  refine ⟨⟨by omega, by omega⟩, fun hend => ?_, fun hgo => ⟨⟨by omega, by omega⟩, ⟨by omega, by omega⟩, ?_⟩⟩
  · have s2 : msc M2 := s.up.eq (fun a a1 a2 => f2 a (by omega))
    have e2 : eqp M M2 := eqp.z.tr (eqp.n (b := 224) (fun x => by unfold mpk; omega) f2)
    have g2 : M2 204 = M 204 := e2.at (by omega)
    have oE : ∀ x, 0 ≤ x → x < 73 → M2 224 x = E x := fun x x1 x2 => o2 x x1 (by omega)
    refine t_signsNow (b := 204) s2 (Or.inl rfl) (by rw [g2]; exact v.1) (fun RD M3 e3 f3 s3 hRD => ?_)
    rw [g2] at hRD
    have o3 : M3 224 = M2 224 := f3 224 (by decide)
    have v3 : vg (M3 224) := by rw [o3]; exact vg_eq0 oE vE.1
    refine t_signsNow (b := 224) s3 (Or.inr rfl) v3 (fun RE M4 e4 f4 s4 hRE => ?_)
    have o4 : M4 224 = M2 224 := (f4 224 (by decide)).trans o3
    have grE : gr_eq (gr_of (M2 224)) (gr_of E) := gr_of_eq0 oE vE.1
    rw [o3] at hRE
    have hE1 : M2 224 1 = E 1 := oE 1 (by decide) (by decide)
    have stE : ∀ R m k, stD (M2 224) R m k ↔ stD E R m k := fun R m k => by unfold stD; rw [grE.y, hE1]
    have e24 : eqp M M4 := (e2.tr e3).tr e4
    rw [pb_or (by have := hRD.1; omega) (by have := hRE.1; omega)]
    rintro z rfl
    have hR : (RD ||| RE) < 256 ∧ ∀ t, (RD ||| RE).testBit t = true ↔ (gr_if (gr_of (M 204)) 8 (M 204 1).toNat [t] ∨ gr_if (gr_of E) 8 (E 1).toNat [t]) := ⟨Nat.or_lt_two_pow (n := 8) hRD.1 hRE.1, fun t => by rw [Nat.testBit_or, Bool.or_eq_true, hRD.2 t, hRE.2 t, grE.if, hE1]⟩
    generalize RD ||| RE = R at hR ⊢
    refine t_bits (by have := hR.1; omega) ?_
    rw [bcn_9 hR.1]
    refine t_power (bcn_le R 8) (by omega) ?_
    have hpb := pw_b (bcn_le R 8) (show m ≤ 5 by omega)
    refine ⟨⟨by omega, by omega⟩, fun hle => ?_, fun hgt => q (-4) none M4 (eqm.p e24) s4 (rwm.p e24) ⟨fun h => absurd all h, fun _ => ⟨fun h => absurd h hne, fun _ => ⟨R, hR, fun _ => ⟨rfl, rfl⟩, fun h => by rw [hm] at h; omega⟩⟩⟩⟩
    unfold w_X12_apart_106
    refine pj_lp_inv (fun y : Int × pj_M => ∃ t : Nat, y.1 = (t : Int) ∧ t ≤ m + 1 ∧ eqp M y.2 ∧ msc y.2 ∧ y.2 224 = M2 224 ∧ ∀ m' k' : Nat, m' < t → k' < (bcn R 8) ^ m' → ¬ dif (M 204) E R m' k') (fun y => ((m : Int) + 1 - y.1).toNat) ?_ (0, M4) ⟨0, rfl, Nat.zero_le _, e24, s4, o4, fun m' k' h => absurd h (Nat.not_lt_zero _)⟩
    rintro ⟨_, M5⟩ ⟨t, h1, ht, e5, s5, o5, hno⟩ P1 hP1
    dsimp only at h1 e5 s5 o5 hP1 ⊢
    subst h1
    unfold w_X12_apart_106b
    refine ⟨⟨by omega, by omega⟩, ⟨by omega, by omega⟩, fun hend => ?_, fun hgo => ?_⟩
    · exact q (-2) none M5 (eqm.p e5) s5 (rwm.p e5) ⟨fun h => absurd all h, fun _ => ⟨fun h => absurd h hne, fun _ => ⟨R, hR, fun h => by rw [hm] at h; omega, fun _ => Or.inl ⟨rfl, rfl, fun m' k' a1 a2 => hno m' k' (by omega) a2⟩⟩⟩⟩
    refine t_bits (by have := hR.1; omega) ?_
    rw [bcn_9 hR.1]
    refine t_power (bcn_le R 8) (by omega) ?_
    have hpt := pw_b (bcn_le R 8) (show t ≤ 5 by omega)
    unfold w_X12_apart_126
    refine pj_lp_inv (fun y : Int × pj_M => ∃ k : Nat, y.1 = (k : Int) ∧ k ≤ (bcn R 8) ^ t ∧ eqp M y.2 ∧ msc y.2 ∧ y.2 224 = M2 224 ∧ ∀ k' : Nat, k' < k → ¬ dif (M 204) E R t k') (fun y => ((((bcn R 8) ^ t : Nat) : Int) - y.1).toNat) ?_ (0, M5) ⟨0, rfl, Nat.zero_le _, e5, s5, o5, fun k' h => absurd h (Nat.not_lt_zero _)⟩
    rintro ⟨_, M6⟩ ⟨k, h1, hk, e6, s6, o6, hnk⟩ P2 hP2
    dsimp only at h1 e6 s6 o6 hP2 ⊢
    subst h1
    unfold w_X12_apart_126b
    refine ⟨⟨by omega, by omega⟩, ⟨by omega, by omega⟩, fun hend => ?_, fun hgo2 => t_layRow hR.1 (by omega) (by omega) (fun M7 f7 w7 => ?_)⟩
    · have : k = (bcn R 8) ^ t := by omega
      subst this
      refine hP1 ((t : Int) + 1, M6) ⟨t + 1, by show (t : Int) + 1 = _; omega, by omega, e6, s6, o6, fun m' k' a1 a2 => ?_⟩ (by show ((m : Int) + 1 - ((t : Int) + 1)).toNat < ((m : Int) + 1 - (t : Int)).toNat; omega)
      by_cases e : m' = t
      · subst e; exact hnk k' a2
      · exact hno m' k' (by omega) a2
    · rw [rm_0, rm_32]
      have e7 : eqp M M7 := e6.tr (eqp.n (b := 208) (fun x => by unfold mpk; omega) f7)
      have s7 : msc M7 := s6.eq (fun a a1 a2 => f7 a (by omega))
      have g7 : M7 204 = M 204 := e7.at (by omega)
      have o7 : M7 224 = M2 224 := (f7 224 (by decide)).trans o6
      refine t_isOf s7 (Or.inl rfl) (by rw [g7]; exact v.1) ⟨by omega, by omega⟩ (fun p p1 p2 => by rw [w7 p p1 p2]; exact wdf_b p) (fun t1 M8 ht1 e8 w8 o8 s8 hi1 => ?_)
      have o8' : M8 224 = M2 224 := o8.trans o7
      refine t_isOf s8 (Or.inr rfl) (by rw [o8']; exact vg_eq0 oE vE.1) ⟨by omega, by omega⟩ (fun p p1 p2 => by rw [w8, w7 p p1 p2]; exact wdf_b p) (fun t2 M9 ht2 e9 w9 o9 s9 hi2 => ?_)
      have hsg : sg (M7 208) 0 (t : Int) = sg (wdf R k t) 0 (t : Int) := sg_congr w7
      rw [g7, hsg] at hi1
      rw [w8, hsg, o8', grE.y, hE1] at hi2
      have e79 : eqp M M9 := (e7.tr e8).tr e9
      have o9' : M9 224 = M2 224 := o9.trans o8'
      have hd : dif (M 204) E R t k ↔ t1 ≠ t2 := by
        unfold dif stD
        rw [← hi1, ← hi2]
        rcases ht1 with h | h <;> rcases ht2 with h' | h' <;> rw [h, h'] <;> decide
      refine ⟨in01 ht1, in01 ht2, fun hne2 => ?_, fun heq => ?_⟩
      · rintro M10 rfl
        have hb : tru (stD (M 204) R t k) t1 := by
          unfold stD
          rcases ht1 with h | h
          · exact Or.inr ⟨h, fun h' => by have := hi1.mpr h'; omega⟩
          · exact Or.inl ⟨h, hi1.mp h⟩
        unfold w_X12_apart_180
        refine pj_lp_inv (fun y : Int × pj_M => ∃ j : Nat, y.1 = (j : Int) ∧ j ≤ t ∧ eqt2 M9 y.2 ∧ rwsm y.2 (wls (wdf R k t) j)) (fun y => ((t : Int) - y.1).toNat) ?_ (0, _) ⟨0, rfl, Nat.zero_le _, eqt2.z, rwsm.nil⟩
        rintro ⟨_, M11⟩ ⟨j, h1, hj, e11, r11⟩ P3 hP3
        dsimp only at h1 e11 r11 hP3 ⊢
        subst h1
        unfold w_X12_apart_180b
        have lst : ∀ b, tru (stD (M 204) R t k) b → w_X12_apart_216 (t : Int) 203 b Q M11 ∨ j < t := by
          intro b hb'
          by_cases hjt : j < t
          · exact Or.inr hjt
          · left
            have : j = t := by omega
            subst this
            unfold w_X12_apart_216
            refine t_tellM r11 (by rw [wls_len]; omega) (fun M12 e12 r12 => ?_)
            exact q (j : Int) (some (wls (wdf R k j) j ++ [b])) M12 (((eqm.p e79).tr (eqm.t e11)).tr (eqm.t e12)) ((s9.t e11).t e12) r12 ⟨fun h => absurd all h, fun _ => ⟨fun h => absurd h hne, fun _ => ⟨R, hR, fun h => by rw [hm] at h; omega, fun _ => Or.inr ⟨j, k, rfl, by omega, by omega, hd.mpr hne2, hnk, hno, b, hb', rfl⟩⟩⟩⟩
        refine ⟨⟨by omega, by omega⟩, ⟨by omega, by omega⟩, fun hend => ⟨in01 ht1, fun h0 => ?_, fun h0 => ?_⟩, fun hgo3 => ⟨⟨by omega, by omega⟩, ?_⟩⟩
        · exact (lst 0 (by rw [← h0]; exact hb)).resolve_right (by omega)
        · exact (lst 1 (by rw [show (1 : Int) = t1 by omega]; exact hb)).resolve_right (by omega)
        · have hval : M11 208 (j : Int) = wdf R k t (j : Int) := by rw [e11.row (by decide) (by decide), w9, w8, w7 (j : Int) (by omega) (by omega)]
          rw [rm_10, hval]
          have hwb := wdf_b (R := R) (k := k) (m := t) (j : Int)
          refine ⟨⟨by omega, by omega⟩, t_tellM r11 (by rw [wls_len]; omega) (fun M12 e12 r12 => hP3 ((j : Int) + 1, M12) ⟨j + 1, by show (j : Int) + 1 = _; omega, by omega, e11.tr e12, by rw [wls_s]; exact r12⟩ (by show ((t : Int) - ((j : Int) + 1)).toNat < ((t : Int) - (j : Int)).toNat; omega))⟩
      · refine hP2 ((k : Int) + 1, M9) ⟨k + 1, by show (k : Int) + 1 = _; omega, by omega, e79, s9, o9', fun k' hk' => ?_⟩ (by show ((((bcn R 8) ^ t : Nat) : Int) - ((k : Int) + 1)).toNat < ((((bcn R 8) ^ t : Nat) : Int) - (k : Int)).toNat; omega)
        by_cases e : k' = k
        · rw [e, hd]; exact fun h => h heq
        · exact hnk k' (by omega)
  · rintro M3 rfl
    have hval : M2 222 (95 * i + c) = E c := by rw [f2 222 (by decide), pu_row (show (222 : Nat) ≠ 203 by decide)]; exact hEv c hc.1 (by omega)
    rw [hval]
    refine hP (c + 1, _) ⟨⟨by show 0 ≤ c + 1; omega, by show c + 1 ≤ 95; omega⟩, fun a ha => (pu_row ha).trans (f2 a ha), fun x x1 x2 => ?_⟩ (by show (95 - (c + 1)).toNat < (95 - c).toNat; omega)
    have x2' : x < c + 1 := x2
    show pj_up M2 224 c (E c) 224 x = _
    by_cases e : x = c
    · rw [e, pu_eq]
    · rw [pu_nk e]; exact o2 x x1 (by omega)
end
