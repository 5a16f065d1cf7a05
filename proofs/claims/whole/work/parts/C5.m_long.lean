section
variable {M : pj_M} {Q : Int → pj_M → Prop}
theorem m_wide {k : Int} (s : msc M) (v : dvl (M 204)) (hk : pj_in k) (q : ∀ r o M', eqm M M' → msc M' → rwm M M' o → s_wide (M 204) k r o → Q r M') : w_X12_wide 203 k M Q := by
  have hn := v.2.2.1
  unfold w_X12_wide
  rintro M1 rfl
  have v1 : dvl (pj_up M 203 5 0 204) := by rw [z204]; exact v
  rw [rm_0, z204]
  refine t_in hk ⟨by decide, by decide⟩ ⟨by omega, by omega⟩ (fun t ht hiff => ⟨in01 ht, fun h => ?_, fun h => ?_⟩)
  · have hkk : 1 ≤ k ∧ k ≤ M 204 73 + 2 := hiff.mp (by omega)
    have e0 : M 204 73 = pj_up M 203 5 0 204 73 := by rw [z204]
    rw [show pj_up M 203 5 0 204 = M 204 from z204, e0]
    refine t_layAll s.up v1 (fun M2 e2 f2 => ?_)
    rw [z204] at f2
    have ee : eqp M M2 := eqp.z.tr e2
    rintro M3 rfl
    unfold w_X12_wide_44
    refine pj_lp_inv (fun y : Int × Int × pj_M => ∃ (i : Nat) (l : List Int), y.2.1 = (i : Int) ∧ (i : Int) + k ≤ M 204 73 + 3 ∧ eqt2 M2 y.2.2 ∧ rwsm y.2.2 l ∧ y.1 = wcn (FD (M 204)) k i ∧ wfs (FD (M 204)) k (i : Int) l) (fun y => (M 204 73 + 3 - k - y.2.1).toNat) ?_ (0, 0, _) ⟨0, [], rfl, by show (0 : Int) + k ≤ _; omega, eqt2.z, rwsm.nil, rfl, Or.inl ⟨fun i h1 h2 => by have : i < 0 := h2; omega, rfl⟩⟩
    rintro ⟨c, _, M4⟩ ⟨i, l, h2, hi, e4, rw4, hc, hl⟩ P hP
    dsimp only at h2 e4 rw4 hc hP ⊢
    subst h2
    have f4 := f2.t e4
    unfold w_X12_wide_44b
    rw [show M4 203 14 = M 204 73 from f4.1.2.1]
    refine ⟨⟨by omega, by omega⟩, ⟨by omega, by omega⟩, fun hend => ?_, fun hgo => t_isF f4 (by omega) (by omega) (by omega) (fun t2 ht2 hi2 => ⟨in01 ht2, fun hz => ?_, fun hne => ?_⟩)⟩
    · refine q c (some l) M4 ((eqm.p ee).tr (eqm.t e4)) f4.1.2.2.2.2.1 rw4 ⟨fun h => absurd hkk h, fun _ => ⟨?_, l, rfl, ?_⟩⟩
      · rw [hc, show (M 204 73 + 3 - k).toNat = i by omega]
      · rw [show M 204 73 + 3 - k = (i : Int) by omega]; exact hl
    · have nf : ¬ FD (M 204) (i : Int) ((i : Int) + k) := fun h => by have := hi2.mpr h; omega
      have hlb := rw4.2.1
      rw [rw4.1]
      refine ⟨⟨by omega, by omega⟩, fun hne => ?_, fun h0 => ⟨⟨by omega, by omega⟩, ?_⟩⟩
      · refine hP (c, (i : Int) + 1, M4) ⟨i + 1, l, by show (i : Int) + 1 = _; omega, by omega, e4, rw4, by show c = _; rw [wcn_s.2 nf]; exact hc, ?_⟩ (by show (M 204 73 + 3 - k - ((i : Int) + 1)).toNat < (M 204 73 + 3 - k - (i : Int)).toNat; omega)
        rcases hl with ⟨_, h5⟩ | ⟨x, a1, a2, a3, a4, a5⟩
        · rw [h5] at hne; exact absurd rfl hne
        · exact Or.inr ⟨x, a1, by omega, a3, a4, a5⟩
      · have hl0 : l = [] := by cases l with
          | nil => rfl
          | cons a b => exfalso; have : ((b.length + 1 : Nat) : Int) = 0 := h0; omega
        subst hl0
        refine t_tellM rw4 (by decide) (fun M5 e5 rw5 => ?_)
        refine hP (c, (i : Int) + 1, M5) ⟨i + 1, [(i : Int)], by show (i : Int) + 1 = _; omega, by omega, e4.tr e5, rw5, by show c = _; rw [wcn_s.2 nf]; exact hc, ?_⟩ (by show (M 204 73 + 3 - k - ((i : Int) + 1)).toNat < (M 204 73 + 3 - k - (i : Int)).toNat; omega)
        rcases hl with ⟨h5, _⟩ | ⟨x, a1, a2, a3, a4, a5⟩
        · exact Or.inr ⟨(i : Int), by omega, by omega, nf, fun i' b1 b2 => h5 i' b1 b2, rfl⟩
        · cases a5
    · have yf := hi2.mp (by omega)
      refine hP (c + 1, (i : Int) + 1, M4) ⟨i + 1, l, by show (i : Int) + 1 = _; omega, by omega, e4, rw4, by show c + 1 = _; rw [wcn_s.1 yf, hc], ?_⟩ (by show (M 204 73 + 3 - k - ((i : Int) + 1)).toNat < (M 204 73 + 3 - k - (i : Int)).toNat; omega)
      rcases hl with ⟨h5, h6⟩ | ⟨x, a1, a2, a3, a4, a5⟩
      · refine Or.inl ⟨fun i' b1 b2 => ?_, h6⟩
        by_cases e : i' = (i : Int)
        · rw [e]; exact yf
        · exact h5 i' b1 (by omega)
      · exact Or.inr ⟨x, a1, by omega, a3, a4, a5⟩
  · exact q (-1) none _ (eqm.p eqp.z) s.up (rwm.p eqp.z) ⟨fun _ => ⟨rfl, rfl⟩, fun h' => by have := hiff.mpr h'; omega⟩
/-- the longest with a place (any, if below 0) -/
def lgx (F : Int → Int → Prop) (n2 p : Int) (X : Int → Int → Prop) (a b : Int) : Prop := (0 ≤ a ∧ a ≤ b ∧ b ≤ n2) ∧ (a = b → a = 0) ∧ (a < b → F a b ∧ (p < 0 ∨ (a ≤ p ∧ p < b)) ∧ X a b) ∧ ∀ i j, 0 ≤ i → i < j → j ≤ n2 → X i j → (p < 0 ∨ (i ≤ p ∧ p < j)) → F i j → j - i < b - a ∨ (j - i = b - a ∧ a ≤ i)
theorem t_longestWith {p wl : Int} {F : Int → Int → Prop} (f : mft M wl F) (hwl : 0 ≤ wl ∧ wl ≤ 14) (hp : -1 ≤ p ∧ p ≤ wl + 1) (q : ∀ M', eqz M M' → lgx F (wl + 2) p (fun _ _ => True) (M' 203 28) (M' 203 29) → Q (M' 203 29 - M' 203 28) M') : w_X12_longestWith 203 p M Q := by
  have h14 : M 203 14 = wl := f.1.2.1
  unfold w_X12_longestWith
  rintro M1 rfl M2 rfl
  unfold w_X12_longestWith_12
  refine pj_lp_inv (fun y : Int × pj_M => (0 ≤ y.1 ∧ y.1 ≤ wl + 3) ∧ eqz M y.2 ∧ lgx F (wl + 2) p (fun i _ => i < y.1) (y.2 203 28) (y.2 203 29)) (fun y => (wl + 3 - y.1).toNat) ?_ (0, _) ⟨⟨Int.le_refl _, by show (0 : Int) ≤ wl + 3; omega⟩, (eqz.up (Or.inr ⟨rfl, Or.inr (Or.inl rfl)⟩)).tr (eqz.up (Or.inr ⟨rfl, Or.inr (Or.inr rfl)⟩)), ?_⟩
  · rintro ⟨i, M3⟩ ⟨hi, e3, hl⟩ P hP
    dsimp only at hi e3 hl hP ⊢
    have e14 : ∀ M', eqz M M' → M' 203 14 = wl := fun M' e => by rw [e 203 14 (by omega)]; exact h14
    unfold w_X12_longestWith_12b
    rw [e14 M3 e3]
    refine ⟨⟨by omega, by omega⟩, ⟨by omega, by omega⟩, fun hend => ?_, fun hgo => ?_⟩
    · refine q M3 e3 ⟨hl.1, hl.2.1, fun h => ⟨(hl.2.2.1 h).1, (hl.2.2.1 h).2.1, trivial⟩, fun i' j' a1 a2 a3 _ a5 a6 => hl.2.2.2 i' j' a1 a2 a3 (by omega) a5 a6⟩
    · unfold w_X12_longestWith_26
      refine pj_lp_inv (fun y : Int × pj_M => (i < y.1 ∧ y.1 ≤ wl + 3) ∧ eqz M y.2 ∧ lgx F (wl + 2) p (fun i' j' => i' < i ∨ (i' = i ∧ j' < y.1)) (y.2 203 28) (y.2 203 29)) (fun y => (wl + 3 - y.1).toNat) ?_ (i + 1, M3) ⟨⟨by show i < i + 1; omega, by show i + 1 ≤ wl + 3; omega⟩, e3, hl.1, hl.2.1, fun h => ⟨(hl.2.2.1 h).1, (hl.2.2.1 h).2.1, Or.inl (hl.2.2.1 h).2.2⟩, fun i' j' a1 a2 a3 a4 a5 a6 => hl.2.2.2 i' j' a1 a2 a3 (by rcases a4 with h | ⟨h, h'⟩; exact h; have h'' : j' < i + 1 := h'; omega) a5 a6⟩
      rintro ⟨j, M4⟩ ⟨hj, e4, hl4⟩ P2 hP2
      dsimp only at hj e4 hl4 hP2 ⊢
      unfold w_X12_longestWith_26b
      rw [e14 M4 e4]
      refine ⟨⟨by omega, by omega⟩, ⟨by omega, by omega⟩, fun hend => ?_, fun hgo2 => ?_⟩
      · exact hP (i + 1, M4) ⟨⟨by show 0 ≤ i + 1; omega, by show i + 1 ≤ wl + 3; omega⟩, e4, hl4.1, hl4.2.1, fun h => ⟨(hl4.2.2.1 h).1, (hl4.2.2.1 h).2.1, by show M4 203 28 < i + 1; rcases (hl4.2.2.1 h).2.2 with h' | h' <;> omega⟩, fun i' j' a1 a2 a3 a4 a5 a6 => hl4.2.2.2 i' j' a1 a2 a3 (by have a4' : i' < i + 1 := a4; rcases Int.lt_or_le i' i with h | h; exact Or.inl h; exact Or.inr ⟨by omega, by omega⟩) a5 a6⟩ (by show (wl + 3 - (i + 1)).toNat < (wl + 3 - i).toNat; omega)
      · have skip : (¬ (p < 0 ∨ (i ≤ p ∧ p < j)) ∨ ¬ F i j ∨ j - i ≤ M4 203 29 - M4 203 28) → P2 (j + 1, M4) := by
          intro hsk
          refine hP2 (j + 1, M4) ⟨⟨by show i < j + 1; omega, by show j + 1 ≤ wl + 3; omega⟩, e4, hl4.1, hl4.2.1, fun h => ⟨(hl4.2.2.1 h).1, (hl4.2.2.1 h).2.1, by rcases (hl4.2.2.1 h).2.2 with h' | ⟨h', h''⟩; exact Or.inl h'; exact Or.inr ⟨h', by show M4 203 29 < j + 1; omega⟩⟩, fun i' j' a1 a2 a3 a4 a5 a6 => ?_⟩ (by show (wl + 3 - (j + 1)).toNat < (wl + 3 - j).toNat; omega)
          rcases a4 with h | ⟨h, h'⟩
          · exact hl4.2.2.2 i' j' a1 a2 a3 (Or.inl h) a5 a6
          · have h'' : j' < j + 1 := h'
            by_cases e : j' = j
            · subst e; subst h
              show j' - i' < M4 203 29 - M4 203 28 ∨ (j' - i' = M4 203 29 - M4 203 28 ∧ M4 203 28 ≤ i')
              rcases hsk with hs | hs | hs
              · exact absurd a5 hs
              · exact absurd a6 hs
              · rcases Int.lt_or_le (M4 203 28) (M4 203 29) with hlt | hge
                · have hx := (hl4.2.2.1 hlt).2.2
                  have hx' : M4 203 28 < i' ∨ (M4 203 28 = i' ∧ M4 203 29 < j') := hx
                  omega
                · have := hl4.1; omega
            · exact hl4.2.2.2 i' j' a1 a2 a3 (Or.inr ⟨h, by omega⟩) a5 a6
        have h50 : (p < 0 ∨ (i ≤ p ∧ p < j)) → w_X12_longestWith_55 203 p i j 1 (fun x2 M => P (x2, M)) (fun x3 M => P2 (x3, M)) Q M4 := by
          intro hin
          unfold w_X12_longestWith_55
          have hb := hl4.1
          refine ⟨⟨by decide, by decide⟩, fun h => absurd h (by decide), fun _ => ⟨⟨by omega, by omega⟩, ⟨by omega, by omega⟩, fun hle => skip (Or.inr (Or.inr hle)), fun hgt => t_isF (f.z e4) hi.1 (by omega) (by omega) (fun t ht hi2 => ⟨in01 ht, fun hne => ?_, fun hz => skip (Or.inr (Or.inl (fun h => by have := hi2.mpr h; omega)))⟩)⟩⟩
          rintro M14 rfl M15 rfl
          have z28 : pj_up (pj_up M4 203 28 i) 203 29 j 203 28 = i := by rw [pu_nk (by decide), pu_eq]
          have z29 : pj_up (pj_up M4 203 28 i) 203 29 j 203 29 = j := pu_eq
          refine hP2 (j + 1, _) ⟨⟨by show i < j + 1; omega, by show j + 1 ≤ wl + 3; omega⟩, (e4.tr (eqz.up (Or.inr ⟨rfl, Or.inr (Or.inl rfl)⟩))).tr (eqz.up (Or.inr ⟨rfl, Or.inr (Or.inr rfl)⟩)), ?_⟩ (by show (wl + 3 - (j + 1)).toNat < (wl + 3 - j).toNat; omega)
          show lgx F (wl + 2) p (fun i' j' => i' < i ∨ (i' = i ∧ j' < j + 1)) (pj_up (pj_up M4 203 28 i) 203 29 j 203 28) (pj_up (pj_up M4 203 28 i) 203 29 j 203 29)
          rw [z28, z29]
          refine ⟨⟨hi.1, by omega, by omega⟩, fun h => by omega, fun _ => ⟨hi2.mp (by omega), hin, Or.inr ⟨rfl, by omega⟩⟩, fun i' j' a1 a2 a3 a4 a5 a6 => ?_⟩
          rcases a4 with h | ⟨h, h'⟩
          · have := hl4.2.2.2 i' j' a1 a2 a3 (Or.inl h) a5 a6; omega
          · by_cases e : j' = j
            · subst e; omega
            · have := hl4.2.2.2 i' j' a1 a2 a3 (Or.inr ⟨h, by omega⟩) a5 a6; omega
        have h54 : ¬ (p < 0 ∨ (i ≤ p ∧ p < j)) → w_X12_longestWith_55 203 p i j 0 (fun x2 M => P (x2, M)) (fun x3 M => P2 (x3, M)) Q M4 := by
          intro hout
          unfold w_X12_longestWith_55
          exact ⟨⟨by decide, by decide⟩, fun _ => skip (Or.inl hout), fun h => absurd rfl h⟩
        unfold w_X12_longestWith_50 w_X12_longestWith_54
        exact ⟨⟨by omega, by omega⟩, fun hneg => h50 (Or.inl hneg), fun hge => ⟨⟨by omega, by omega⟩, ⟨by omega, by omega⟩, fun hlt => h54 (by omega), fun hle => ⟨⟨by omega, by omega⟩, ⟨by omega, by omega⟩, fun hle2 => h54 (by omega), fun hgt2 => h50 (Or.inr ⟨by omega, by omega⟩)⟩⟩⟩
  · show lgx F (wl + 2) p (fun i _ => i < 0) (pj_up (pj_up M 203 28 0) 203 29 0 203 28) (pj_up (pj_up M 203 28 0) 203 29 0 203 29)
    rw [pu_eq, pu_nk (by decide), pu_eq]
    exact ⟨⟨Int.le_refl _, Int.le_refl _, by omega⟩, fun _ => rfl, fun h => absurd h (Int.lt_irrefl _), fun i j a1 _ _ a4 => by have : i < 0 := a4; omega⟩
theorem m_longest (s : msc M) (v : dvl (M 204)) (q : ∀ r o M', eqm M M' → msc M' → rwm M M' o → s_longest (M 204) r o → Q r M') : w_X12_longest 203 M Q := by
  have hn := v.2.2.1
  unfold w_X12_longest
  rintro M1 rfl
  have v1 : dvl (pj_up M 203 5 0 204) := by rw [z204]; exact v
  rw [rm_0]
  refine t_layAll s.up v1 (fun M2 e2 f2 => ?_)
  rw [z204] at f2
  have ee : eqp M M2 := eqp.z.tr e2
  have m := f2.2.1
  refine t_longestWith f2 hn ⟨by decide, by omega⟩ (fun M3 e3 hl => ?_)
  rintro M4 rfl
  have z28 : pj_up M3 203 4 0 203 28 = M3 203 28 := pu_nk (by decide)
  have z29 : pj_up M3 203 4 0 203 29 = M3 203 29 := pu_nk (by decide)
  rw [z28]
  have hb := hl.1
  refine ⟨⟨by omega, by omega⟩, t_tellM rwsm.nil (by decide) (fun M5 e5 r5 => ?_)⟩
  rw [e5 203 29 (by decide) (by decide), z29]
  refine ⟨⟨by omega, by omega⟩, t_tellM r5 (by show 1 < 40; decide) (fun M6 e6 r6 => ?_)⟩
  refine q _ (some [M3 203 28, M3 203 29]) M6 ((((eqm.p ee).tr (eqm.p e3.p)).tr (eqm.t eqt2.z)).tr ((eqm.t e5).tr (eqm.t e6))) ((((f2.z e3).t eqt2.z).t e5).t e6).1.2.2.2.2.1 r6 ⟨_, _, ⟨hb, ?_, fun i j a1 a2 a3 a4 => ?_⟩, rfl, rfl⟩
  · rcases Int.lt_or_le (M3 203 28) (M3 203 29) with h | h
    · exact (hl.2.2.1 h).1
    · have : M3 203 28 = M3 203 29 := by omega
      rw [this]; exact m.1 _ (by omega) (by omega)
  · rcases Int.lt_or_le i j with h | h
    · exact hl.2.2.2 i j a1 h a3 trivial (Or.inl (by decide)) a4
    · rcases Int.lt_or_le (M3 203 28) (M3 203 29) with h' | h'
      · left; omega
      · right; have := hl.2.1 (by omega); omega
theorem m_weakest (s : msc M) (v : dvl (M 204)) (q : ∀ r o M', eqm M M' → msc M' → rwm M M' o → s_weakest (M 204) r o → Q r M') : w_X12_weakest 203 M Q := by
  have hn := v.2.2.1
  unfold w_X12_weakest
  rintro M1 rfl
  have v1 : dvl (pj_up M 203 5 0 204) := by rw [z204]; exact v
  rw [rm_0]
  refine t_layAll s.up v1 (fun M2 e2 f2 => ?_)
  rw [z204] at f2
  have ee : eqp M M2 := eqp.z.tr e2
  have toW : ∀ p a b, 0 ≤ p → a < b → lgx (FD (M 204)) (M 204 73 + 2) p (fun _ _ => True) a b → lgw (FD (M 204)) (M 204 73 + 2) p a b := by
    intro p a b hp hab h
    have h1 := (h.2.2.1 hab)
    have h2 := h.1
    exact ⟨⟨h2.1, by omega, by omega, h2.2.2⟩, h1.1, fun i' j' b1 b2 b3 b4 b5 => h.2.2.2 i' j' b1 (by omega) b4 trivial (Or.inr ⟨b2, b3⟩) b5⟩
  unfold w_X12_weakest_22
  refine pj_lp_inv (fun y : Int × Int × Int × pj_M => (0 ≤ y.2.2.1 ∧ y.2.2.1 ≤ M 204 73 + 2) ∧ eqz M2 y.2.2.2 ∧ (y.2.2.1 = 0 → y.1 = -1) ∧ (y.2.2.1 ≠ 0 → (0 ≤ y.1 ∧ y.1 < y.2.2.1) ∧ (1 ≤ y.2.1 ∧ y.2.1 ≤ 16) ∧ (∃ i j, lgw (FD (M 204)) (M 204 73 + 2) y.1 i j ∧ j - i = y.2.1) ∧ ∀ p, 0 ≤ p → p < y.2.2.1 → ∃ i' j', lgw (FD (M 204)) (M 204 73 + 2) p i' j' ∧ y.2.1 ≤ j' - i' ∧ (p < y.1 → y.2.1 < j' - i'))) (fun y => (M 204 73 + 2 - y.2.2.1).toNat) ?_ (-1, 0, 0, M2) ⟨⟨Int.le_refl _, by show (0 : Int) ≤ M 204 73 + 2; omega⟩, eqz.rf, fun _ => rfl, fun h => absurd rfl h⟩
  rintro ⟨wo, le, p, M3⟩ ⟨hp, e3, hz, hnz⟩ P hP
  dsimp only at hp e3 hz hnz hP ⊢
  have f3 := f2.z e3
  unfold w_X12_weakest_22b
  rw [show M3 203 14 = M 204 73 from f3.1.2.1]
  refine ⟨⟨by omega, by omega⟩, ⟨by omega, by omega⟩, fun hend => ?_, fun hgo => ?_⟩
  · obtain ⟨a1, a2, ⟨i0, j0, a3, a3'⟩, a4⟩ := hnz (by omega)
    refine t_longestWith f3 hn ⟨by omega, by omega⟩ (fun M4 e4 hl => ?_)
    have hlt : M4 203 28 < M4 203 29 := by
      rcases Int.lt_or_le (M4 203 28) (M4 203 29) with h | h
      · exact h
      · exfalso
        have g := a3.1
        have := hl.2.2.2 i0 j0 g.1 (by omega) g.2.2.2 trivial (Or.inr ⟨g.2.1, g.2.2.1⟩) a3.2.1
        omega
    have hw := toW wo _ _ a1.1 hlt hl
    obtain ⟨u1, u2⟩ := hw.uniq a3
    rintro M5 rfl
    have z28 : pj_up M4 203 4 0 203 28 = M4 203 28 := pu_nk (by decide)
    have z29 : pj_up M4 203 4 0 203 29 = M4 203 29 := pu_nk (by decide)
    rw [z28]
    have hb := hl.1
    refine ⟨⟨by omega, by omega⟩, t_tellM rwsm.nil (by decide) (fun M6 e6 r6 => ?_)⟩
    rw [e6 203 29 (by decide) (by decide), z29]
    refine ⟨⟨by omega, by omega⟩, t_tellM r6 (by show 1 < 40; decide) (fun M7 e7 r7 => ?_)⟩
    refine q wo (some [M4 203 28, M4 203 29]) M7 (((((eqm.p ee).tr (eqm.p e3.p)).tr (eqm.p e4.p)).tr (eqm.t eqt2.z)).tr ((eqm.t e6).tr (eqm.t e7))) ((((f3.z e4).t eqt2.z).t e6).t e7).1.2.2.2.2.1 r7 (Or.inr ⟨⟨a1.1, by omega⟩, _, _, hw, rfl, fun p' p1 p2 => ?_⟩)
    obtain ⟨i', j', b1, b2, b3⟩ := a4 p' p1 (by omega)
    exact ⟨i', j', b1, by omega, fun h => by have := b3 h; omega⟩
  · refine t_longestWith f3 hn ⟨by omega, by omega⟩ (fun M4 e4 hl => ?_)
    have hb := hl.1
    refine ⟨⟨by omega, by omega⟩, fun hne => ?_, fun h0 => ?_⟩
    · have hlt : M4 203 28 < M4 203 29 := by omega
      have hw := toW p _ _ hp.1 hlt hl
      have put : (wo = -1 ∨ M4 203 29 - M4 203 28 < le) → P (p, M4 203 29 - M4 203 28, p + 1, M4) := by
        intro hor
        refine hP (p, M4 203 29 - M4 203 28, p + 1, M4) ⟨⟨by show 0 ≤ p + 1; omega, by show p + 1 ≤ M 204 73 + 2; omega⟩, e3.tr e4, fun h => by have : p + 1 = 0 := h; omega, fun _ => ⟨⟨hp.1, by show p < p + 1; omega⟩, ⟨by show 1 ≤ M4 203 29 - M4 203 28; omega, by show M4 203 29 - M4 203 28 ≤ 16; omega⟩, ⟨_, _, hw, rfl⟩, fun p' p1 p2 => ?_⟩⟩ (by show (M 204 73 + 2 - (p + 1)).toNat < (M 204 73 + 2 - p).toNat; omega)
        have p2' : p' < p + 1 := p2
        show ∃ i' j', lgw (FD (M 204)) (M 204 73 + 2) p' i' j' ∧ M4 203 29 - M4 203 28 ≤ j' - i' ∧ (p' < p → M4 203 29 - M4 203 28 < j' - i')
        by_cases e : p' = p
        · subst e; exact ⟨_, _, hw, Int.le_refl _, fun h => by omega⟩
        · have hp0 : p ≠ 0 := by omega
          obtain ⟨i', j', b1, b2, b3⟩ := (hnz hp0).2.2.2 p' p1 (by omega)
          have hwo := (hnz hp0).1
          exact ⟨i', j', b1, by omega, fun h => by omega⟩
      have wob : -1 ≤ wo ∧ wo ≤ 16 ∧ 0 ≤ le ∧ le ≤ 16 ∨ p = 0 := by
        by_cases e : p = 0
        · exact Or.inr e
        · have := hnz e; have h1 := this.1; have h2 := this.2.1; left; omega
      unfold w_X12_weakest_61
      have win : pj_in wo := by
        by_cases e : p = 0
        · rw [hz e]; exact ⟨by decide, by decide⟩
        · have := (hnz e).1; exact ⟨by omega, by omega⟩
      refine ⟨win, fun hm1 => put (Or.inl hm1), fun hm1 => ?_⟩
      have hp0 : p ≠ 0 := fun e => hm1 (hz e)
      obtain ⟨a1, a2, a3, a4⟩ := hnz hp0
      refine ⟨⟨by omega, by omega⟩, ⟨by omega, by omega⟩, fun hlt2 => put (Or.inr hlt2), fun hge => ?_⟩
      refine hP (wo, le, p + 1, M4) ⟨⟨by show 0 ≤ p + 1; omega, by show p + 1 ≤ M 204 73 + 2; omega⟩, e3.tr e4, fun h => by have : p + 1 = 0 := h; omega, fun _ => ⟨⟨a1.1, by show wo < p + 1; omega⟩, a2, a3, fun p' p1 p2 => ?_⟩⟩ (by show (M 204 73 + 2 - (p + 1)).toNat < (M 204 73 + 2 - p).toNat; omega)
      have p2' : p' < p + 1 := p2
      by_cases e : p' = p
      · subst e; exact ⟨_, _, hw, by show le ≤ _; omega, fun h => by have h' : p' < wo := h; omega⟩
      · exact a4 p' p1 (by omega)
    · refine q (-2) none M4 (((eqm.p ee).tr (eqm.p e3.p)).tr (eqm.p e4.p)) (f3.z e4).1.2.2.2.2.1 (rwm.p ((ee.tr e3.p).tr e4.p)) (Or.inl ⟨rfl, rfl, p, hp.1, by omega, fun i' j' b1 b2 b3 b4 b5 => ?_⟩)
      have := hl.2.2.2 i' j' b1 (by omega) b4 trivial (Or.inr ⟨b2, b3⟩) b5
      omega
end
