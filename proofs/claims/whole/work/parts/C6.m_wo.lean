section
variable {M : pj_M} {Q : Int → pj_M → Prop}
/-- how many pieces without a place (0: with all) -/
theorem t_rw61 {wl : Int} {w : Int → Int} (s : msc M) (v : dvl (M 204)) (h14 : M 203 14 = wl) (hwl : 0 ≤ wl ∧ wl ≤ 14) (hw : leq wl (M 209) w) (q : ∀ r M', eqp M M' → mft M' wl (pfit (gr_of (M 204)) (M 204 1).toNat w wl) → M' 209 = M 209 → (0 ≤ r ∧ r ≤ 16) → rpn (M 204) w wl r → Q r M') : w_X12_reportWithout_61 203 Q M := by
  unfold w_X12_reportWithout_61
  refine t_layT s v h14 ⟨hwl.1, by omega⟩ hw (fun M2 e2 e9 f2 => t_layReport (bh := fun j => j) f2 hwl (Or.inl rfl) (fun j _ h => ⟨Int.le_refl _, h⟩) (fun _ _ => rfl) (fun h => absurd h (by decide)) (fun M3 l e3 r3 hl hr => ?_))
  rw [r3.1]
  exact q _ M3 (e2.tr e3.p) (f2.z e3) ((e3.row (by decide) (by decide)).trans e9) ⟨by omega, by omega⟩ ⟨l, hl, rfl, hr⟩
theorem t_reportWithout {p : Int} (s : msc M) (v : dvl (M 204)) (hp : 0 ≤ p ∧ p ≤ M 204 73) (q : ∀ r M', eqp M M' → msc M' → (p = 0 → mft M' (M 204 73) (FD (M 204)) ∧ leq (M 204 73) (M' 209) (lw (M 204))) → (0 ≤ r ∧ r ≤ 16) → (p = 0 → rpn (M 204) (lw (M 204)) (M 204 73) r) → (p ≠ 0 → rpn (M 204) (delf (lw (M 204)) p) (M 204 73 - 1) r) → Q r M') : w_X12_reportWithout 203 p M Q := by
  have hn := v.2.2.1
  unfold w_X12_reportWithout
  rw [rm_0]
  refine t_layWord s (by decide) (by decide) hn (by rw [show (pj_sh 204).2 = 95 by decide]; show 74 + M 204 73 ≤ 95; omega) (fun x x1 x2 => v.2.2.2.1 x x1 (by omega)) (fun M1 e1 r1 s1 n1 _ w1 => ?_)
  have e204 : M1 204 = M 204 := r1 204 (by decide) (by decide)
  have v1 : dvl (M1 204) := by rw [e204]; exact v
  refine ⟨⟨by omega, by omega⟩, fun hle => ?_, fun hgt => ?_⟩
  · have hp0 : p = 0 := by omega
    refine t_rw61 (w := lw (M 204)) s1 v1 n1 hn w1 (fun r M2 e2 f2 e9 hr hrp => ?_)
    rw [e204] at f2 hrp
    exact q r M2 (e1.tr e2) f2.1.2.2.2.2.1 (fun _ => ⟨f2, by rw [e9]; exact w1⟩) hr (fun _ => hrp) (fun h => absurd hp0 h)
  · have hp1 : 1 ≤ p := by omega
    unfold w_X12_reportWithout_23
    refine pj_lp_inv (fun y : Int × pj_M => (p ≤ y.1 ∧ y.1 ≤ M 204 73) ∧ eqp M y.2 ∧ msc y.2 ∧ y.2 204 = M 204 ∧ y.2 203 14 = M 204 73 ∧ (∀ x, 0 ≤ x → x < p - 1 → y.2 209 x = lw (M 204) x) ∧ (∀ x, p - 1 ≤ x → x < y.1 - 1 → y.2 209 x = lw (M 204) (x + 1)) ∧ ∀ x, y.1 ≤ x → x < M 204 73 → y.2 209 x = lw (M 204) x) (fun y => (M 204 73 - y.1).toNat) ?_ (p, M1) ⟨⟨Int.le_refl _, hp.2⟩, e1, s1, e204, n1, fun x x1 x2 => w1 x x1 (by omega), fun x x1 x2 => by have : x < p - 1 := x2; omega, fun x x1 x2 => w1 x (by have : p ≤ x := x1; omega) x2⟩
    rintro ⟨i, M2⟩ ⟨hi, e2, s2, g2, n2, lo, mid, up⟩ P hP
    dsimp only at hi e2 s2 g2 n2 lo mid up hP ⊢
    unfold w_X12_reportWithout_23b
    rw [n2, rm_13]
    refine ⟨⟨by omega, by omega⟩, ⟨by omega, by omega⟩, fun hend => ?_, fun hgo => ⟨⟨by omega, by omega⟩, ⟨by omega, by omega⟩, ?_⟩⟩
    · rintro M10 rfl
      have z9 : pj_up M2 203 14 (M 204 73 - 1) 209 = M2 209 := pu_row (by decide)
      refine t_rw61 (wl := M 204 73 - 1) (w := delf (lw (M 204)) p) s2.up (by rw [z204, g2]; exact v) pu_eq ⟨by omega, by omega⟩ (fun x x1 x2 => ?_) (fun r M3 e3 f3 _ hr hrp => ?_)
      · rw [z9]
        show M2 209 x = delf (lw (M 204)) p x
        unfold delf
        by_cases a1 : x < p - 1
        · rw [if_pos a1]; exact lo x x1 a1
        · rw [if_neg a1]; exact mid x (by omega) (by omega)
      · rw [z204, g2] at hrp
        exact q r M3 ((e2.tr (eqp.up (by unfold mpk; omega))).tr e3) f3.1.2.2.2.2.1 (fun h => by omega) hr (fun h => by omega) (fun _ => hrp)
    · rintro M13 rfl
      have hb := s2.2.2.2.2.2 i
      refine hP (i + 1, _) ⟨⟨by show p ≤ i + 1; omega, by show i + 1 ≤ M 204 73; omega⟩, e2.tr (eqp.up (by unfold mpk; omega)), ?_, ?_, ?_, fun x x1 x2 => ?_, fun x x1 x2 => ?_, fun x x1 x2 => ?_⟩ (by show (M 204 73 - (i + 1)).toNat < (M 204 73 - i).toNat; omega)
      · have rb : ∀ a, a ≠ 209 → bz M2 a → bz (pj_up M2 209 (i - 1) (M2 209 i)) a := fun a ha h x => by rw [pu_ne ha]; exact h x
        obtain ⟨a1, a2, a3, a4, a5, a6⟩ := s2
        refine ⟨rb 210 (by decide) a1, rb 211 (by decide) a2, rb 212 (by decide) a3, rb 213 (by decide) a4, rb 214 (by decide) a5, fun x => ?_⟩
        show 0 ≤ pj_up M2 209 (i - 1) (M2 209 i) 209 x ∧ pj_up M2 209 (i - 1) (M2 209 i) 209 x ≤ 7
        rw [pu_if]; split
        · exact hb
        · exact a6 x
      · show pj_up M2 209 (i - 1) (M2 209 i) 204 = _
        rw [pu_row (by decide)]; exact g2
      · show pj_up M2 209 (i - 1) (M2 209 i) 203 14 = _
        rw [pu_ne (by decide)]; exact n2
      · show pj_up M2 209 (i - 1) (M2 209 i) 209 x = _
        rw [pu_nk (by omega)]; exact lo x x1 x2
      · have x2' : x < i + 1 - 1 := x2
        show pj_up M2 209 (i - 1) (M2 209 i) 209 x = _
        by_cases e : x = i - 1
        · rw [e, pu_eq, show i - 1 + 1 = i by omega]; exact up i (Int.le_refl _) (by omega)
        · rw [pu_nk e]; exact mid x x1 (by omega)
      · have x1' : i + 1 ≤ x := x1
        show pj_up M2 209 (i - 1) (M2 209 i) 209 x = _
        rw [pu_nk (by omega)]; exact up x (by omega) x2
theorem m_without {p : Int} (s : msc M) (v : dvl (M 204)) (hp : pj_in p) (q : ∀ r o M', eqm M M' → msc M' → rwm M M' o → s_without (M 204) p r o → Q r M') : w_X12_without 203 p M Q := by
  have hn := v.2.2.1
  unfold w_X12_without
  rintro M1 rfl
  have v1 : dvl (pj_up M 203 5 0 204) := by rw [z204]; exact v
  rw [rm_0, z204]
  refine t_in hp ⟨by decide, by decide⟩ ⟨by omega, by omega⟩ (fun t ht hiff => ⟨in01 ht, fun h => ?_, fun h => ?_⟩)
  · have hpp : 1 ≤ p ∧ p ≤ M 204 73 := hiff.mp (by omega)
    refine t_reportWithout s.up v1 ⟨Int.le_refl _, by rw [z204]; omega⟩ (fun r1 M2 e2 s2 _ hr1 hrp1 _ => ?_)
    rw [z204] at hrp1
    have ee : eqp M M2 := eqp.z.tr e2
    have e204 : M2 204 = M 204 := ee.at (by omega)
    refine t_reportWithout s2 (by rw [e204]; exact v) ⟨by omega, by rw [e204]; omega⟩ (fun r2 M3 e3 s3 _ hr2 _ hrp2 => ?_)
    rw [e204] at hrp2
    rintro M9 rfl
    refine ⟨⟨by omega, by omega⟩, t_tellM rwsm.nil (by decide) (fun M4 e4 r4 => ?_)⟩
    exact q r2 (some [r1 - r2]) M4 (((eqm.p ee).tr (eqm.p e3)).tr ((eqm.t eqt2.z).tr (eqm.t e4))) ((s3.t eqt2.z).t e4) r4 ⟨fun h => absurd hpp h, fun _ => ⟨hrp2 (by omega), r1, hrp1 rfl, rfl⟩⟩
  · exact q (-1) none _ (eqm.p eqp.z) s.up (rwm.p eqp.z) ⟨fun _ => ⟨rfl, rfl⟩, fun h' => by have := hiff.mpr h'; omega⟩
theorem m_blames (s : msc M) (v : dvl (M 204)) (q : ∀ r o M', eqm M M' → msc M' → rwm M M' o → s_blames (M 204) r o → Q r M') : w_X12_blames 203 M Q := by
  have hn := v.2.2.1
  unfold w_X12_blames
  rintro M1 rfl
  rw [rm_0, z204]
  refine ⟨⟨by omega, by omega⟩, fun hne => ?_, fun h0 => q (-2) none _ (eqm.p eqp.z) s.up (rwm.p eqp.z) ⟨fun _ => ⟨rfl, rfl⟩, fun h => absurd h0 h⟩⟩
  unfold w_X12_blames_24
  refine pj_lp_inv (fun y : Int × Int × Int × pj_M => (1 ≤ y.2.2.1 ∧ y.2.2.1 ≤ M 204 73 + 1) ∧ eqp M y.2.2.2 ∧ msc y.2.2.2 ∧ (y.2.2.1 = 1 → y.1 = -1 ∧ y.2.1 = 0) ∧ (y.2.2.1 ≠ 1 → (1 ≤ y.1 ∧ y.1 < y.2.2.1) ∧ (0 ≤ y.2.1 ∧ y.2.1 ≤ 16) ∧ rpn (M 204) (delf (lw (M 204)) y.1) (M 204 73 - 1) y.2.1 ∧ (∀ p x, 1 ≤ p → p < y.1 → rpn (M 204) (delf (lw (M 204)) p) (M 204 73 - 1) x → y.2.1 < x) ∧ ∀ p x, 1 ≤ p → p < y.2.2.1 → rpn (M 204) (delf (lw (M 204)) p) (M 204 73 - 1) x → y.2.1 ≤ x)) (fun y => (M 204 73 + 1 - y.2.2.1).toNat) ?_ (-1, 0, 1, _) ⟨⟨Int.le_refl _, by show (1 : Int) ≤ M 204 73 + 1; omega⟩, eqp.z, s.up, fun _ => ⟨rfl, rfl⟩, fun h => absurd rfl h⟩
  rintro ⟨best, few, p, M2⟩ ⟨hp, e2, s2, hi1, hi2⟩ P hP
  dsimp only at hp e2 s2 hi1 hi2 hP ⊢
  have e204 : M2 204 = M 204 := e2.at (by omega)
  have bf : (best = -1 ∧ few = 0 ∧ p = 1) ∨ (1 ≤ best ∧ best < p ∧ 0 ≤ few ∧ few ≤ 16 ∧ p ≠ 1) := by
    by_cases e : p = 1
    · have := hi1 e; left; omega
    · have h := hi2 e; right; have h1 := h.1; have h2 := h.2.1; omega
  unfold w_X12_blames_24b
  rw [rm_0, e204]
  refine ⟨⟨by omega, by omega⟩, ⟨by omega, by omega⟩, fun hend => ?_, fun hgo => ?_⟩
  · have hp1 : p ≠ 1 := by omega
    obtain ⟨a1, a2, a3, a4, a5⟩ := hi2 hp1
    rintro M5 rfl
    refine ⟨⟨by omega, by omega⟩, t_tellM rwsm.nil (by decide) (fun M4 e4 r4 => ?_)⟩
    exact q best (some [few]) M4 ((eqm.p e2).tr ((eqm.t eqt2.z).tr (eqm.t e4))) ((s2.t eqt2.z).t e4) r4 ⟨fun h => absurd h hne, fun _ => ⟨⟨a1.1, by omega⟩, few, rfl, a3, a4, fun p' x h1 h2 => a5 p' x h1 (by omega)⟩⟩
  · refine t_reportWithout s2 (by rw [e204]; exact v) ⟨by omega, by rw [e204]; omega⟩ (fun c2 M3 e3 s3 _ hc2 _ hrp => ?_)
    rw [e204] at hrp
    have hr2 := hrp (by omega)
    have put : (best = -1 ∨ c2 < few) → P (p, c2, p + 1, M3) := by
      intro hor
      refine hP (p, c2, p + 1, M3) ⟨⟨by show 1 ≤ p + 1; omega, by show p + 1 ≤ M 204 73 + 1; omega⟩, e2.tr e3, s3, fun h => by have : p + 1 = 1 := h; omega, fun _ => ⟨⟨hp.1, by show p < p + 1; omega⟩, hc2, hr2, fun p' x g1 g2 g3 => ?_, fun p' x g1 g2 g3 => ?_⟩⟩ (by show (M 204 73 + 1 - (p + 1)).toNat < (M 204 73 + 1 - p).toNat; omega)
      · have g2' : p' < p := g2
        have hp1 : p ≠ 1 := by omega
        have := (hi2 hp1).2.2.2.2 p' x g1 (by omega) g3
        show c2 < x
        omega
      · have g2' : p' < p + 1 := g2
        show c2 ≤ x
        by_cases e : p' = p
        · subst e; have := rpn.uniq v (by omega) g3 hr2; omega
        · have hp1 : p ≠ 1 := by omega
          have := (hi2 hp1).2.2.2.2 p' x g1 (by omega) g3
          omega
    unfold w_X12_blames_56
    refine ⟨⟨by omega, by omega⟩, fun hm => put (Or.inl hm), fun hm => ⟨⟨by omega, by omega⟩, ⟨by omega, by omega⟩, fun hlt => put (Or.inr hlt), fun hge => ?_⟩⟩
    have hp1 : p ≠ 1 := by omega
    obtain ⟨a1, a2, a3, a4, a5⟩ := hi2 hp1
    refine hP (best, few, p + 1, M3) ⟨⟨by show 1 ≤ p + 1; omega, by show p + 1 ≤ M 204 73 + 1; omega⟩, e2.tr e3, s3, fun h => by have : p + 1 = 1 := h; omega, fun _ => ⟨⟨a1.1, by show best < p + 1; omega⟩, a2, a3, a4, fun p' x g1 g2 g3 => ?_⟩⟩ (by show (M 204 73 + 1 - (p + 1)).toNat < (M 204 73 + 1 - p).toNat; omega)
    have g2' : p' < p + 1 := g2
    by_cases e : p' = p
    · subst e
      have := rpn.uniq v (by omega) g3 hr2
      show few ≤ x
      omega
    · exact a5 p' x g1 (by omega) g3
end
