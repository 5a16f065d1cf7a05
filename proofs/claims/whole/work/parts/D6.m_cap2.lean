theorem msc.w {M : pj_M} {p v : Int} (h : msc M) (hv : 0 ≤ v ∧ v ≤ 7) : msc (pj_up M 209 p v) := by
  obtain ⟨s1, s3, s4, s5, s6, s7⟩ := h
  have rb : ∀ a, a ≠ 209 → bz M a → bz (pj_up M 209 p v) a := fun a ha h x => by rw [pu_ne ha]; exact h x
  refine ⟨rb 210 (by decide) s1, rb 211 (by decide) s3, rb 212 (by decide) s4, rb 213 (by decide) s5, rb 214 (by decide) s6, fun x => ?_⟩
  rw [pu_if]; split
  · exact hv
  · exact s7 x
theorem or_z {R : Nat} (h : R < 2147483648) : pj_or (R : Int) 0 = (R : Int) := by
  have := pb_or (a := R) (b := 0) h (by decide)
  rw [Nat.or_zero] at this
  exact this
section
variable {M : pj_M} {Q : Int → pj_M → Prop}
theorem t_edgesOf {x : Nat} {side : Int} (s : msc M) (v : vg (M 204)) (hx : x < 6) (hs : side = 0 ∨ side = 1) (q : ∀ (R : Nat) M', eqp M M' → msc M' → R < 256 → (∀ t, R.testBit t = true ↔ gsort (gr_of (M 204)) 8 (side + 1) x [t]) → Q (R : Int) M') : w_X12_edgesOf 203 (x : Int) side M Q := by
  have h8 : ∀ t, gsort (gr_of (M 204)) 8 (side + 1) x [t] → t < 8 := by
    intro t ht
    unfold gsort at ht
    rcases hs with h | h
    · rw [h, if_neg (by decide), if_pos (by decide)] at ht
      obtain ⟨u, hu⟩ := ht
      exact gr_y_lt hu t (by simp)
    · rw [h, if_neg (by decide), if_neg (by decide), if_pos (by decide)] at ht
      obtain ⟨u, hu⟩ := ht
      exact gr_y_lt hu t (by simp)
  unfold w_X12_edgesOf w_X12_edgesOf_5
  refine pj_lp_inv (fun y : Int × Int × pj_M => ∃ R k : Nat, y.1 = (R : Int) ∧ y.2.1 = (k : Int) ∧ k ≤ 8 ∧ R < 256 ∧ eqp M y.2.2 ∧ msc y.2.2 ∧ ∀ t, R.testBit t = true ↔ t < k ∧ gsort (gr_of (M 204)) 8 (side + 1) x [t]) (fun y => (8 - y.2.1).toNat) ?_ (0, 0, M) ⟨0, 0, rfl, rfl, by decide, by decide, eqp.rf, s, fun t => by simp⟩
  rintro ⟨_, _, M2⟩ ⟨R, k, h1, h2, hk, hR, e2, s2, hb⟩ P hP
  dsimp only at h1 h2 e2 s2 hP ⊢
  subst h1; subst h2
  unfold w_X12_edgesOf_5b
  refine ⟨⟨by omega, by omega⟩, fun hend => q R M2 e2 s2 hR (fun t => ⟨fun h => ((hb t).mp h).2, fun h => (hb t).mpr ⟨by have := h8 t h; omega, h⟩⟩), fun hgo => ?_⟩
  rintro M3 rfl M4 rfl
  rw [rm_13]
  have s4 : msc (pj_up (pj_up M2 203 14 1) 209 0 (k : Int)) := (s2.up).w ⟨by omega, by omega⟩
  have e4 : eqp M2 (pj_up (pj_up M2 203 14 1) 209 0 (k : Int)) := (eqp.up (by unfold mpk; omega)).tr (eqp.up (by unfold mpk; omega))
  have g4 : (pj_up (pj_up M2 203 14 1) 209 0 (k : Int)) 204 = M 204 := ((e2.tr e4).at (by omega))
  refine t_layTables (wl := 1) s4 (by rw [g4]; exact v) (by rw [pu_ne (by decide), pu_eq]) ⟨by decide, by decide⟩ (fun M5 e5 e9 mt => ?_)
  have g5 : M5 204 = M 204 := (e5.at (by omega)).trans g4
  have ee := (e2.tr e4).tr e5
  have tb := mt.2.2.2.2.2 x 0 1 hx (Int.le_refl _) (by decide) (Int.le_refl _)
  have hw : mt_w M5 0 1 = [k] := by
    show sg (M5 209) 0 (0 + 1) = _
    rw [sg_one, e9, pu_eq, Int.toNat_natCast]
  rw [g5, hw] at tb
  have s5 := mt.2.2.2.2.1
  have hp7 : 2 ^ k < 256 := Nat.lt_of_le_of_lt (Nat.pow_le_pow_right (by decide) (show k ≤ 7 by omega)) (by decide)
  have ask : ∀ T : Nat, (T = 211 ∨ T = 212) → (mt_tb M5 T x 0 1 ↔ gsort (gr_of (M 204)) 8 (side + 1) x [k]) → w_X12_edgesOf_44 203 (x : Int) side (R : Int) (k : Int) T (fun (x3 : Int) (x4 : Int) (M : pj_M) => P (x3, x4, M)) Q M5 := by
    intro T hT h1
    unfold w_X12_edgesOf_44 w_X12_cell w_X12_edgesOf_67
    have hbz : bz M5 T := by rcases hT with e | e <;> rw [e]; exact s5.2.1; exact s5.2.2.1
    have hv := hbz (16 * (16 * (x : Int) + 0) + 1)
    unfold mt_tb at h1
    refine ⟨⟨by omega, by omega⟩, in01 hv, fun h0 => ?_, fun h0 => ?_⟩
    · rintro z rfl
      rw [or_z (by omega)]
      refine hP ((R : Int), (k : Int) + 1, M5) ⟨R, k + 1, rfl, by show (k : Int) + 1 = _; omega, by omega, hR, ee, s5, fun t => ?_⟩ (by show (8 - ((k : Int) + 1)).toNat < (8 - (k : Int)).toNat; omega)
      rw [hb t]
      constructor
      · rintro ⟨a, b⟩; exact ⟨by omega, b⟩
      · rintro ⟨a, b⟩
        refine ⟨?_, b⟩
        by_cases e : t = k
        · subst e; have := h1.mpr b; omega
        · omega
    · rintro z rfl
      rw [pb_one (by omega), pb_or (by omega) (by omega)]
      refine hP (((R ||| 2 ^ k : Nat) : Int), (k : Int) + 1, M5) ⟨R ||| 2 ^ k, k + 1, rfl, by show (k : Int) + 1 = _; omega, by omega, Nat.or_lt_two_pow (n := 8) hR hp7, ee, s5, fun t => ?_⟩ (by show (8 - ((k : Int) + 1)).toNat < (8 - (k : Int)).toNat; omega)
      have hk1 := h1.mp (by omega)
      rw [pb_set, Bool.or_eq_true, decide_eq_true_iff, hb t]
      constructor
      · rintro (⟨a, b⟩ | e)
        · exact ⟨by omega, b⟩
        · subst e; exact ⟨by omega, hk1⟩
      · rintro ⟨a, b⟩
        by_cases e : k = t
        · exact Or.inr e
        · exact Or.inl ⟨by omega, b⟩
  rw [rm_16, rm_17]
  refine ⟨by rcases hs with h | h <;> rw [h] <;> exact ⟨by decide, by decide⟩, fun hne => ask 212 (Or.inr rfl) ?_, fun h0 => ask 211 (Or.inl rfl) ?_⟩
  · have : side = 1 := by omega
    unfold gsort
    rw [this, if_neg (by decide), if_neg (by decide), if_pos (by decide)]
    exact tb.2.2.1
  · unfold gsort
    rw [h0, if_neg (by decide), if_pos (by decide)]
    exact tb.2.1
theorem t_shortest {x : Nat} (s : msc M) (h11 : M 203 11 = 204) (v : vg (M 204)) (mg : mgd M) (hx : x < 6) (hg : gr_gd (gr_of (M 204)) 8 x) (q : ∀ (n : Nat) M', eqp M M' → msc M' → n ≤ 16399 → kl (gr_of (M 204)) kz x 0 0 n → Q (n : Int) M') : w_X12_shortest 203 (x : Int) M Q := by
  unfold w_X12_shortest
  rintro M1 rfl
  have g1 : pj_up M 203 14 0 204 = M 204 := z204
  refine t_neededOf (wl := 0) (mkok (b := 204) (by rw [pu_nk (by decide)]; exact h11) (Or.inl rfl) (by rw [g1]; exact v) s.up) (by rw [g1]; exact v) (mg.eq g1 (pu_nk (by decide))) pu_eq (by decide) (fun M2 e2 hx2 => ?_)
  rw [g1] at hx2
  obtain ⟨n, k1, k2⟩ := kl_ex (W := mW (pj_up M 203 14 0)) (vg_6 v) (vg_4 v) (Nat.le_refl 0) hg
  have hC := hx2 x 0 0 n hx (Nat.le_refl _) (Nat.le_refl _) k1 (by omega)
  unfold w_X12_cell
  rw [rm_25]
  refine ⟨⟨by omega, by omega⟩, ?_⟩
  have hC' : M2 219 (16 * (16 * (x : Int) + 0) + 0) = (n : Int) := hC
  rw [hC']
  refine q n M2 ((eqp.up (by unfold mpk; omega)).tr e2.p) (s.up.eq (fun a a1 a2 => e2 a (by omega) (by omega) (by omega))) (by omega) (kl_cw (fun m hm => absurd hm (Nat.not_lt_zero _)) k1)
theorem m_capital {x what : Int} (s : msc M) (v : dvl (M 204)) (hx : pj_in x) (hw : pj_in what) (q : ∀ r o M', eqm M M' → msc M' → rwm M M' o → s_capital (M 204) x what r o → Q r M') : w_X12_capital 203 x what M Q := by
  unfold w_X12_capital
  rintro M1 rfl
  have v1 : dvl (pj_up M 203 5 0 204) := by rw [z204]; exact v
  have no : ¬ (0 ≤ what ∧ what ≤ 7 ∧ isCp (M 204) x) → Q (-1) (pj_up M 203 5 0) := fun h => q (-1) none _ (eqm.p eqp.z) s.up (rwm.p eqp.z) ⟨rfl, fun _ => rfl, fun h' => absurd h' h⟩
  refine t_in hw ⟨by decide, by decide⟩ ⟨by decide, by decide⟩ (fun t ht hiff => ⟨in01 ht, fun h => no (fun h' => by have := hiff.mpr ⟨h'.1, h'.2.1⟩; omega), fun h => ?_⟩)
  have hwb := hiff.mp (by omega)
  refine t_hasRuled v1 hx (fun t2 ht2 hi2 => ⟨in01 ht2, fun h => ?_, fun h => no (fun h' => by rw [z204] at hi2; have := hi2.mpr h'.2.2; omega)⟩)
  rw [z204] at hi2
  have hcp := hi2.mp (by omega)
  have all : 0 ≤ what ∧ what ≤ 7 ∧ isCp (M 204) x := ⟨hwb.1, hwb.2, hcp⟩
  have hxb := hcp.1
  have hxb2 := hcp.2.1
  obtain ⟨y, rfl⟩ : ∃ y : Nat, x = (y : Int) := ⟨x.toNat, by omega⟩
  rintro M3 rfl
  rw [rm_0]
  have g3 : pj_up (pj_up M 203 5 0) 203 11 ((204 : Nat) : Int) 204 = M 204 := by rw [z204, z204]
  refine ⟨204, ⟨pu_eq, by decide⟩, t_layGood (by decide) (by decide) (by rw [g3]; exact v.1) (fun good hok => ?_)⟩
  rw [g3] at hok
  have g4 : pj_up (pj_up (pj_up M 203 5 0) 203 11 ((204 : Nat) : Int)) 203 12 (good : Int) 204 = M 204 := by rw [z204, g3]
  have s4 : msc (pj_up (pj_up (pj_up M 203 5 0) 203 11 ((204 : Nat) : Int)) 203 12 (good : Int)) := s.up.up.up
  have e4 : eqp M (pj_up (pj_up (pj_up M 203 5 0) 203 11 ((204 : Nat) : Int)) 203 12 (good : Int)) := (eqp.z.tr (eqp.up (by unfold mpk; omega))).tr (eqp.up (by unfold mpk; omega))
  have h11 : pj_up (pj_up (pj_up M 203 5 0) 203 11 ((204 : Nat) : Int)) 203 12 (good : Int) 203 11 = 204 := by rw [pu_nk (by decide), pu_eq]; rfl
  have h12 : pj_up (pj_up (pj_up M 203 5 0) 203 11 ((204 : Nat) : Int)) 203 12 (good : Int) 203 12 = (good : Int) := pu_eq
  generalize pj_up (pj_up (pj_up M 203 5 0) 203 11 ((204 : Nat) : Int)) 203 12 (good : Int) = M4 at g4 s4 e4 h11 h12 ⊢
  have mg4 : mgd M4 := ⟨good, h12, by rw [g4]; exact hok⟩
  have v4 : vg (M4 204) := by rw [g4]; exact v.1
  have ok4 : mt_ok M4 204 := mkok h11 (Or.inl rfl) v4 s4
  rw [h12]
  refine t_has (by have := hok.1; omega) (by omega) (fun t5 ht5 hi5 => ?_)
  have hgd : t5 = 1 ↔ gr_gd (gr_of (M 204)) 8 y := hi5.trans (hok.2 y (by omega))
  have dn : ∀ r M', eqp M M' → msc M' → (what ≠ 0 → capsp (gr_of (M 204)) (M 204 1).toNat y what r) → (what = 0 → r = alc (M 204) (y : Int) (M 204 0).toNat) → Q r M' := fun r M' e' s' h1 h2 => q r none M' (eqm.p e') s' (rwm.p e') ⟨rfl, fun h' => absurd all h', fun _ => ⟨h2, by rw [Int.toNat_natCast]; exact h1⟩⟩
  have w4 : pj_in t5 := in01 ht5
  refine ⟨hw, fun n0 => ⟨hw, fun n1 => ⟨hw, fun n2 => ⟨hw, fun n3 => ⟨w4, fun hg => ?_, fun hg => ?_⟩, fun e3 => ⟨w4, fun hg => ?_, fun hg => ?_⟩⟩, fun e2 => ?_⟩, fun e1 => ⟨w4, fun hg => ?_, fun hg => ?_⟩⟩, fun e0 => ?_⟩
  · have gd := hgd.mp (by omega)
    refine ⟨hw, fun n4 => ⟨hw, fun n7 => ?_, fun e7 => ?_⟩, fun e4' => ?_⟩
    · refine t_edgesOf (side := what - 5) s4 v4 (by omega) (by omega) (fun R M5 e5 s5 hR hb => dn _ M5 (e4.tr e5) s5 (fun _ => ⟨fun h => by omega, fun h => by omega, fun h => by omega, fun _ => Or.inr ⟨gd, fun h => absurd h n4, fun h => ⟨R, rfl, hR, fun t => ?_⟩, fun h => ⟨R, rfl, hR, fun t => ?_⟩, fun h => absurd h n7⟩⟩) (fun h => absurd h n0))
      · rw [hb t, g4, h]
        unfold gsort
        rw [if_neg (by decide), if_pos (by decide)]
      · rw [hb t, g4, h]
        unfold gsort
        rw [if_neg (by decide), if_neg (by decide), if_pos (by decide)]
    · refine t_signsOf ok4 v4 h12 (by rw [g4]; exact hok) (by omega) (fun R hR hb => dn _ M4 e4 s4 (fun _ => ⟨fun h => by omega, fun h => by omega, fun h => by omega, fun _ => Or.inr ⟨gd, fun h => by omega, fun h => by omega, fun h => by omega, fun h => ⟨R, rfl, hR, fun t => ?_⟩⟩⟩) (fun h => absurd h n0))
      rw [hb t, g4]
    · refine t_shortest s4 h11 v4 mg4 (by omega) (by rw [g4]; exact gd) (fun n M5 e5 s5 hn hk => dn _ M5 (e4.tr e5) s5 (fun _ => ⟨fun h => by omega, fun h => by omega, fun h => by omega, fun _ => Or.inr ⟨gd, fun h => ⟨n, rfl, by rw [g4] at hk; exact hk⟩, fun h => by omega, fun h => by omega, fun h => by omega⟩⟩) (fun h => absurd h n0))
  · have gd : ¬ gr_gd (gr_of (M 204)) 8 y := fun h => by have := hgd.mpr h; omega
    exact dn _ M4 e4 s4 (fun _ => ⟨fun h => by omega, fun h => by omega, fun h => by omega, fun _ => Or.inl ⟨rfl, gd⟩⟩) (fun h => absurd h n0)
  · have gd : ¬ gr_gd (gr_of (M 204)) 8 y := fun h => by have := hgd.mpr h; omega
    refine dn _ M4 e4 s4 (fun _ => ⟨fun h => by omega, fun h => by omega, fun h => Or.inr ⟨rfl, fun hk => gd ?_⟩, fun h => by omega⟩) (fun h => absurd h n0)
    obtain ⟨d, hd⟩ := hk.1
    exact kw_gd hd
  · have gd := hgd.mp (by omega)
    refine t_shortest s4 h11 v4 mg4 (by omega) (by rw [g4]; exact gd) (fun n M5 e5 s5 hn hk => ?_)
    rw [g4] at hk
    refine ⟨⟨by omega, by omega⟩, fun hne => dn _ M5 (e4.tr e5) s5 (fun _ => ⟨fun h => by omega, fun h => by omega, fun h => Or.inr ⟨rfl, fun hk0 => ?_⟩, fun h => by omega⟩) (fun h => absurd h n0), fun hz => dn _ M5 (e4.tr e5) s5 (fun _ => ⟨fun h => by omega, fun h => by omega, fun h => Or.inl ⟨rfl, ?_⟩, fun h => by omega⟩) (fun h => absurd h n0)⟩
    · have := kl_uniq hk hk0; omega
    · rw [show n = 0 by omega] at hk; exact hk
  · refine t_comesOfStart ok4 v4 (fun R hR hb => t_has (by omega) (by omega) (fun t6 ht6 hi6 => ⟨in01 ht6, fun hz => ?_, fun hnz => ?_⟩))
    · exact dn _ M4 e4 s4 (fun _ => ⟨fun h => by omega, fun h => Or.inr ⟨rfl, fun hg => by rw [g4] at hb; have := hi6.mpr ((hb y).mpr hg); omega⟩, fun h => by omega, fun h => by omega⟩) (fun h => absurd h n0)
    · exact dn _ M4 e4 s4 (fun _ => ⟨fun h => by omega, fun h => Or.inl ⟨rfl, by rw [g4] at hb; exact (hb y).mp (hi6.mp (by omega))⟩, fun h => by omega, fun h => by omega⟩) (fun h => absurd h n0)
  · have gd : ¬ gr_gd (gr_of (M 204)) 8 y := fun h => by have := hgd.mpr h; omega
    exact dn _ M4 e4 s4 (fun _ => ⟨fun h => Or.inr ⟨rfl, gd⟩, fun h => by omega, fun h => by omega, fun h => by omega⟩) (fun h => absurd h n0)
  · have gd := hgd.mp (by omega)
    exact dn _ M4 e4 s4 (fun _ => ⟨fun h => Or.inl ⟨rfl, gd⟩, fun h => by omega, fun h => by omega, fun h => by omega⟩) (fun h => absurd h n0)
  · refine t_manyOf v4 hx ?_
    rw [g4]
    exact dn _ M4 e4 s4 (fun h => absurd e0 h) (fun _ => rfl)
end
