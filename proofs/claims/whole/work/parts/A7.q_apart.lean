theorem knw.up {M M' : pj_M} {c c' : Nat} {D : Int → Int} (h : knw M c D) (hc' : isC c') (hne : c ≠ c') (e : eqc c' M M') : knw M' c D := h.eq (fun a a1 a2 => e.row (by
  have h1 : c = 115 ∨ c = 135 ∨ c = 155 := h.1.2.1.1.1
  have h2 : c' = 115 ∨ c' = 135 ∨ c' = 155 := hc'
  omega))
/-- words of one length -/
theorem t_findApart {M : pj_M} {D E : Int → Int} {R m : Nat} {Q : Int → pj_M → Prop} (s : csc M) (kd : knw M 135 D) (ke : knw M 155 E) (al : alp M R) (hm : m ≤ 5)
    (q0 : ∀ M', eqq M M' → csc M' → knw M' 135 D → knw M' 155 E → alp M' R → M' 186 = M 186 → M' 0 = M 0 → (∀ k, k < (bcn R 8) ^ m → ¬ dif D E R m k) → Q 0 M')
    (q1 : ∀ M' k b, eqq M M' → csc M' → k < (bcn R 8) ^ m → dif D E R m k → (∀ k', k' < k → ¬ dif D E R m k') → tru (stD D R m k) b → rws M' (wls (wdf R k m) m ++ [b]) → Q 1 M') : w_X11_findApart 0 (m : Int) M Q := by
  unfold w_X11_findApart
  rw [rc_13]
  refine t_howMany al hm ?_
  have hpb := pw_b (bcn_le R 8) hm
  unfold w_X11_findApart_11
  refine pj_lp_inv (fun y : Int × pj_M => ∃ k : Nat, y.1 = (k : Int) ∧ k ≤ (bcn R 8) ^ m ∧ eqq M y.2 ∧ csc y.2 ∧ knw y.2 135 D ∧ knw y.2 155 E ∧ alp y.2 R ∧ y.2 186 = M 186 ∧ y.2 0 = M 0 ∧ ∀ k', k' < k → ¬ dif D E R m k') (fun y => ((((bcn R 8) ^ m : Nat) : Int) - y.1).toNat) ?_ (0, M) ⟨0, rfl, Nat.zero_le _, eqq.rf, s, kd, ke, al, rfl, rfl, fun k' h => absurd h (Nat.not_lt_zero _)⟩
  rintro ⟨_, M1⟩ ⟨k, h1, hk, e1, s1, kd1, ke1, al1, h186, h00, hno⟩ P hP
  dsimp only at h1 e1 s1 kd1 ke1 al1 h186 h00 hP ⊢
  subst h1
  unfold w_X11_findApart_11b
  rw [rc_13, rc_9, rc_10]
  refine ⟨⟨by omega, by omega⟩, ⟨by omega, by omega⟩, fun hend => ?_, fun hgo => t_spell al1 hm (by omega) (fun M2 e2 al2 w2 => ?_)⟩
  · have : k = (bcn R 8) ^ m := by omega
    subst this
    exact q0 M1 e1 s1 kd1 ke1 al1 h186 h00 hno
  · have c135 : isC 135 := Or.inr (Or.inl rfl)
    have c155 : isC 155 := Or.inr (Or.inr rfl)
    refine t_isSt (R := R) (k := k) (s1.eq (fun a ha => e2.row (by omega))) (kd1.eq (fun a a1 a2 => e2.row (by omega))) hm w2 (fun t1 M3 ht1 e3 s3 kd3 hi1 => ?_)
    have ke3 : knw M3 155 E := (ke1.eq (fun a a1 a2 => e2.row (by omega))).up c135 (by decide) e3
    have w3 : leq (m : Int) (M3 185) (wdf R k m) := fun p p1 p2 => by rw [e3.row (show (185 : Nat) < 135 ∨ 135 + 19 < 185 by decide)]; exact w2 p p1 p2
    refine t_isSt (R := R) (k := k) s3 ke3 hm w3 (fun t2 M4 ht2 e4 s4 ke4 hi2 => ?_)
    have kd4 : knw M4 135 D := kd3.up c155 (by decide) e4
    have al4 : alp M4 R := (al2.eq (e3.row (by decide)) (e3.row (by decide))).eq (e4.row (by decide)) (e4.row (by decide))
    have q4 : eqq M M4 := ((e1.tr (eqq.w e2)).tr (eqq.c c135 e3)).tr (eqq.c c155 e4)
    have w4 : leq (m : Int) (M4 185) (wdf R k m) := fun p p1 p2 => by rw [e4.row (show (185 : Nat) < 155 ∨ 155 + 19 < 185 by decide)]; exact w3 p p1 p2
    have g186 : M4 186 = M 186 := by rw [e4.row (by decide), e3.row (by decide), e2.row (by decide), h186]
    have g0 : M4 0 = M 0 := by rw [e4.row (by decide), e3.row (by decide), e2.row (by decide), h00]
    have hd : dif D E R m k ↔ t1 ≠ t2 := by
      unfold dif
      rw [← hi1, ← hi2]
      rcases ht1 with h | h <;> rcases ht2 with h' | h' <;> rw [h, h'] <;> decide
    refine ⟨in01 ht1, in01 ht2, fun heq => ?_, fun hne => ?_⟩
    · refine hP ((k : Int) + 1, M4) ⟨k + 1, by show (k : Int) + 1 = _; omega, by omega, q4, s4, kd4, ke4, al4, g186, g0, fun k' hk' => ?_⟩ (by show ((((bcn R 8) ^ m : Nat) : Int) - ((k : Int) + 1)).toNat < ((((bcn R 8) ^ m : Nat) : Int) - (k : Int)).toNat; omega)
      by_cases e : k' = k
      · rw [e, hd]; exact fun h => h heq
      · exact hno k' (by omega)
    · rintro M5 rfl
      have z185 : pj_up M4 0 15 0 185 = M4 185 := pu_row (by decide)
      have w5 : leq (m : Int) (pj_up M4 0 15 0 185) (wdf R k m) := by rw [z185]; exact w4
      refine t_tellWord rws.nil hm (by show 0 + m ≤ 39; omega) (fun p p1 p2 => ?_) (fun M6 e6 r6 => ?_)
      · rw [w5 p p1 p2]; unfold wdf; have := ltf_8 (R := R) (k := (k / bcn R 8 ^ (m - 1 - p.toNat)) % bcn R 8); exact ⟨by omega, by omega⟩
      · rw [wls_congr w5] at r6
        have q6 : eqq M M6 := (q4.tr (eqq.o eqo.z)).tr (eqq.o e6)
        have s6 : csc M6 := (s4.o eqo.z).o e6
        have fin : ∀ b, tru (stD D R m k) b → w_X11_findApart_77 0 b Q M6 := by
          intro b hb
          unfold w_X11_findApart_77
          refine t_tellMore r6 (by show ([] ++ wls _ m).length < 40; rw [List.length_append, wls_len]; show 0 + m < 40; omega) (fun M7 e7 r7 => ?_)
          exact q1 M7 k b (q6.tr (eqq.o e7)) (s6.o e7) (by omega) (hd.mpr hne) hno hb r7
        refine ⟨in01 ht1, fun h0 => fin 0 (Or.inr ⟨rfl, fun h => by have := hi1.mpr h; omega⟩), fun h0 => fin 1 (Or.inl ⟨rfl, hi1.mp (by omega)⟩)⟩
theorem o_apart {M : pj_M} {D E : Int → Int} {Q : Int → pj_M → Prop} {i n : Int} (s : csc M) (r : drep M 13 D) (v : dvl D) (hi : pj_in i) (hn : pj_in n) (hkb : ∀ x, M 114 x = 0 ∨ M 114 x = 1) (hE : 0 ≤ i → i < 2 → M 114 i ≠ 0 → drep M (187 + 8 * i.toNat) E ∧ dvl E)
    (q : ∀ r o M', eqq M M' → csc M' → rwo M M' o → s_apart (M 114 i) D E i n r o → Q r M') : w_X11_apart 0 i n M Q := by
  have no : ¬ (0 ≤ i ∧ i < 2 ∧ 0 ≤ n ∧ n ≤ 5) → Q (-1) M := fun h => q (-1) none M eqq.rf s ⟨rfl, rfl⟩ ⟨fun _ => ⟨rfl, rfl⟩, fun h' => absurd h' h⟩
  unfold w_X11_apart
  rw [rc_2, rk_0, rc_9, rc_10, rc_13, rc_6, rc_7]
  refine ⟨hi, fun h => no (by omega), fun h0 => ⟨hi, fun h => no (by omega), fun h2 => ⟨hn, fun h => no (by omega), fun h3 => ⟨hn, fun h5 => ?_, fun h => no (by omega)⟩⟩⟩⟩
  have all : 0 ≤ i ∧ i < 2 ∧ 0 ≤ n ∧ n ≤ 5 := by omega
  refine ⟨⟨by omega, by omega⟩, in01 (hkb i), fun hne => ?_, fun hz => ?_⟩
  · obtain ⟨rE, vE⟩ := hE (by omega) (by omega) hne
    obtain ⟨j, rfl⟩ : ∃ j : Nat, i = (j : Int) := ⟨i.toNat, by omega⟩
    obtain ⟨m, rfl⟩ : ∃ m : Nat, n = (m : Int) := ⟨n.toNat, by omega⟩
    rw [Int.toNat_natCast] at rE ⊢
    have hdk := dcell_k j (by omega)
    have c135 : isC 135 := Or.inr (Or.inl rfl)
    have c155 : isC 155 := Or.inr (Or.inr rfl)
    refine t_learnD (c := 135) (d := 13) c135 s dcell_13 (by decide) r v (fun M1 e1 s1 k1 a7 a8 g1 st1 => ⟨⟨by omega, by omega⟩, ?_⟩)
    have kd1 : knw M1 135 D := ⟨k1, a7, a8, g1, st1⟩
    rw [hdk.2, hdk.1.1]
    refine t_learnD (c := 155) (d := 187 + 8 * j) c155 s1 hdk.1 (by omega) (rE.eq (fun a a1 a2 => e1.row (by omega))) vE (fun M2 e2 s2 k2 b7 b8 g2 st2 => ?_)
    have kd2 : knw M2 135 D := kd1.up c155 (by decide) e2
    have ke2 : knw M2 155 E := ⟨k2, b7, b8, g2, st2⟩
    refine t_signsD kd2 (fun RD hRD => t_signsD ke2 (fun RE hRE => ?_))
    rw [pb_or (by have := hRD.1; omega) (by have := hRE.1; omega)]
    have hR : (RD ||| RE) < 256 ∧ ∀ t, (RD ||| RE).testBit t = true ↔ (gr_if (gr_of D) 8 (D 1).toNat [t] ∨ gr_if (gr_of E) 8 (E 1).toNat [t]) := ⟨Nat.or_lt_two_pow (n := 8) hRD.1 hRE.1, fun t => by rw [Nat.testBit_or, Bool.or_eq_true, hRD.2 t, hRE.2 t]⟩
    generalize RD ||| RE = R at hR ⊢
    refine t_useLetters hR.1 (fun M3 e3 al3 => t_howMany al3 (by omega) ?_)
    have hpb := pw_b (bcn_le R 8) (show m ≤ 5 by omega)
    have hm : ((m : Int)).toNat = m := by omega
    have q3 : eqq M M3 := ((eqq.c c135 e1).tr (eqq.c c155 e2)).tr (eqq.w e3)
    have s3 : csc M3 := s2.eq (fun a ha => e3.row (by omega))
    have kd3 : knw M3 135 D := kd2.eq (fun a a1 a2 => e3.row (by omega))
    have ke3 : knw M3 155 E := ke2.eq (fun a a1 a2 => e3.row (by omega))
    have g186 : M3 186 = M 186 := by rw [e3.row (by decide), e2.row (by decide), e1.row (by decide)]
    have g0 : M3 0 = M 0 := by rw [e3.row (by decide), e2.row (by decide), e1.row (by decide)]
    refine ⟨⟨by omega, by omega⟩, fun hle => ?_, fun hgt => ?_⟩
    · unfold w_X11_apart_105
      refine pj_lp_inv (fun y : Int × pj_M => ∃ t : Nat, y.1 = (t : Int) ∧ t ≤ m + 1 ∧ eqq M y.2 ∧ csc y.2 ∧ knw y.2 135 D ∧ knw y.2 155 E ∧ alp y.2 R ∧ y.2 186 = M 186 ∧ y.2 0 = M 0 ∧ ∀ m' k' : Nat, m' < t → k' < (bcn R 8) ^ m' → ¬ dif D E R m' k') (fun y => ((m : Int) + 1 - y.1).toNat) ?_ (0, M3) ⟨0, rfl, Nat.zero_le _, q3, s3, kd3, ke3, al3, g186, g0, fun m' k' h => absurd h (Nat.not_lt_zero _)⟩
      rintro ⟨_, M4⟩ ⟨t, h1, ht, e4, s4, kd4, ke4, al4, f186, f0, hno⟩ P hP
      dsimp only at h1 e4 s4 kd4 ke4 al4 f186 f0 hP ⊢
      subst h1
      unfold w_X11_apart_105b
      refine ⟨⟨by omega, by omega⟩, ⟨by omega, by omega⟩, fun hend => ?_, fun hgo => t_findApart s4 kd4 ke4 al4 (by omega) (fun M5 e5 s5 kd5 ke5 al5 z186 z0 hn5 => ?_) (fun M5 k b e5 s5 hk hd hn5 hb r5 => ?_)⟩
      · refine q (-2) none M4 e4 s4 ⟨f186, by rw [f0]⟩ ⟨fun h => absurd all h, fun _ => ⟨fun h => absurd h hne, fun _ => ⟨R, hR, fun h => by rw [hm] at h; omega, fun _ => Or.inl ⟨rfl, rfl, fun m' k' a1 a2 => hno m' k' (by omega) a2⟩⟩⟩⟩
      · refine ⟨⟨by decide, by decide⟩, fun _ => ?_, fun h => absurd rfl h⟩
        refine hP ((t : Int) + 1, M5) ⟨t + 1, by show (t : Int) + 1 = _; omega, by omega, e4.tr e5, s5, kd5, ke5, al5, z186.trans f186, z0.trans f0, fun m' k' a1 a2 => ?_⟩ (by show ((m : Int) + 1 - ((t : Int) + 1)).toNat < ((m : Int) + 1 - (t : Int)).toNat; omega)
        by_cases e : m' = t
        · subst e; exact hn5 k' a2
        · exact hno m' k' (by omega) a2
      · refine ⟨⟨by decide, by decide⟩, fun h => absurd h (by decide), fun _ => ?_⟩
        exact q (t : Int) (some (wls (wdf R k t) t ++ [b])) M5 (e4.tr e5) s5 r5 ⟨fun h => absurd all h, fun _ => ⟨fun h => absurd h hne, fun _ => ⟨R, hR, fun h => by rw [hm] at h; omega, fun _ => Or.inr ⟨t, k, rfl, by omega, hk, hd, hn5, hno, b, hb, rfl⟩⟩⟩⟩
    · exact q (-4) none M3 q3 s3 ⟨g186, by rw [g0]⟩ ⟨fun h => absurd all h, fun _ => ⟨fun h => absurd h hne, fun _ => ⟨R, hR, fun _ => ⟨rfl, rfl⟩, fun h => by rw [hm] at h; omega⟩⟩⟩
  · exact q (-3) none M eqq.rf s ⟨rfl, rfl⟩ ⟨fun h => absurd all h, fun _ => ⟨fun _ => ⟨rfl, rfl⟩, fun h => absurd hz h⟩⟩
