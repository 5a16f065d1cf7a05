/-- what a question leaves of the model -/
def mpm (c : Nat) (x : Int) : Prop := c < 203 ∨ c = 204 ∨ c = 205 ∨ c = 222 ∨ c = 223 ∨ c = 225 ∨ 227 < c ∨ (c = 203 ∧ (x = 2 ∨ x = 34))
def eqm (M M' : pj_M) : Prop := ∀ c x, mpm c x → M' c x = M c x
theorem eqm.rf {M : pj_M} : eqm M M := fun _ _ _ => rfl
theorem eqm.tr {M M1 M2 : pj_M} (h : eqm M M1) (h2 : eqm M1 M2) : eqm M M2 := fun c x h3 => (h2 c x h3).trans (h c x h3)
theorem eqm.up {M : pj_M} {a : Nat} {k v : Int} (h : ¬ mpm a k) : eqm M (pj_up M a k v) := fun c x hc => by
  rw [pu_if, if_neg]
  rintro ⟨rfl, rfl⟩
  exact h hc
theorem eqm.p {M M' : pj_M} (h : eqp M M') : eqm M M' := fun c x hc => h c x (by unfold mpm at hc; unfold mpk; omega)
theorem eqm.at {M M' : pj_M} (h : eqm M M') {c : Nat} (hc : c < 203 ∨ c = 204 ∨ c = 205 ∨ c = 222 ∨ c = 223 ∨ c = 225 ∨ 227 < c) : M' c = M c := funext fun x => h c x (by unfold mpm; omega)
def rwsm (M : pj_M) (l : List Int) : Prop := M 203 4 = (l.length : Int) ∧ l.length ≤ 40 ∧ ∀ (k : Nat) (x : Int), l[k]? = some x → M 206 (k : Int) = x
def rwm (M M' : pj_M) : Option (List Int) → Prop
  | none => M' 206 = M 206 ∧ M' 203 4 = M 203 4
  | some l => rwsm M' l
theorem rwm.p {M M' : pj_M} (h : eqp M M') : rwm M M' none := ⟨h.at (by omega), h 203 4 (by unfold mpk; omega)⟩
/-- the model tells what fits -/
def mft (M : pj_M) (wl : Int) (F : Int → Int → Prop) : Prop := mtabs M wl ∧ fmn (wl + 2) F ∧ ∀ i j, 0 ≤ i → i ≤ j → j ≤ wl + 2 → (mf (gr_of (M 204)) (M 204 1).toNat (M 209) wl i j ↔ F i j)
theorem msc.eq {M M' : pj_M} (h : msc M) (e : ∀ a, 209 ≤ a → a ≤ 214 → M' a = M a) : msc M' := by
  unfold msc bz at *
  rw [e 209 (by decide) (by decide), e 210 (by decide) (by decide), e 211 (by decide) (by decide), e 212 (by decide) (by decide), e 213 (by decide) (by decide), e 214 (by decide) (by decide)]
  exact h
theorem mtabs.eq {M M' : pj_M} {wl : Int} (h : mtabs M wl) (e : ∀ a, a = 204 ∨ (209 ≤ a ∧ a ≤ 214) → M' a = M a) (e11 : M' 203 11 = M 203 11) (e14 : M' 203 14 = M 203 14) : mtabs M' wl := by
  obtain ⟨h1, h2, h3, h4, h5, h6⟩ := h
  refine ⟨by rw [e11]; exact h1, by rw [e14]; exact h2, h3, by rw [e 204 (by omega)]; exact h4, h5.eq (fun a a1 a2 => e a (by omega)), fun c i j a1 a2 a3 a4 => ?_⟩
  have hw : mt_w M' i j = mt_w M i j := by show sg (M' 209) i j = sg (M 209) i j; rw [e 209 (by omega)]
  unfold mt_tb
  rw [hw, e 204 (by omega), e 210 (by omega), e 211 (by omega), e 212 (by omega), e 213 (by omega)]
  exact h6 c i j a1 a2 a3 a4
theorem mft.eq {M M' : pj_M} {wl : Int} {F : Int → Int → Prop} (h : mft M wl F) (e : ∀ a, a = 204 ∨ (209 ≤ a ∧ a ≤ 214) → M' a = M a) (e11 : M' 203 11 = M 203 11) (e14 : M' 203 14 = M 203 14) : mft M' wl F :=
  ⟨h.1.eq e e11 e14, h.2.1, fun i j a1 a2 a3 => by rw [e 204 (by omega), e 209 (by omega)]; exact h.2.2 i j a1 a2 a3⟩
theorem t_isF {M : pj_M} {wl i j : Int} {F : Int → Int → Prop} {Q : Int → pj_M → Prop} (h : mft M wl F) (hi : 0 ≤ i) (hij : i ≤ j) (hj : j ≤ wl + 2) (q : ∀ r, (r = 0 ∨ r = 1) → (r = 1 ↔ F i j) → Q r M) : w_X12_isFit 203 i j M Q :=
  t_isFit h.1 hi hij hj (fun r hr hiff => q r hr (hiff.trans (h.2.2 i j hi hij hj)))
theorem t_layT {M : pj_M} {wl : Int} {w : Int → Int} {Q : pj_M → Prop} (s : msc M) (v : dvl (M 204)) (h14 : M 203 14 = wl) (hwl : 0 ≤ wl ∧ wl ≤ 15) (hw : leq wl (M 209) w) (q : ∀ M', eqp M M' → M' 209 = M 209 → mft M' wl (pfit (gr_of (M 204)) (M 204 1).toNat w wl) → Q M') : w_X12_layTables 203 M Q := by
  refine t_layTables s v.1 h14 hwl (fun M' e e9 mt => q M' e e9 ⟨mt, pfit_mn v.2.1, fun i j i1 i2 i3 => ?_⟩)
  rw [e.at (show (204 : Nat) < 203 ∨ 204 = 204 ∨ _ by omega), e9, mf_fr v.2.1 hwl.1 (fun p _ _ => s.2.2.2.2.2 p) i1 i2 i3]
  exact pfit_congr (gr_eq.rf _) hw i1 i3
theorem t_layWord {M : pj_M} {r1 : Nat} {a0 n : Int} {Q : pj_M → Prop} (s : msc M) (hr : r1 ≠ 203 ∧ r1 ≠ 209) (ha : 0 ≤ a0) (hn : 0 ≤ n ∧ n ≤ 14) (hs : a0 + n ≤ ((pj_sh r1).2 : Int)) (hb : ∀ p, 0 ≤ p → p < n → 0 ≤ M r1 (a0 + p) ∧ M r1 (a0 + p) ≤ 7) (q : ∀ M', eqp M M' → (∀ a, a ≠ 203 → a ≠ 209 → M' a = M a) → msc M' → M' 203 14 = n → M' 203 11 = M 203 11 → leq n (M' 209) (fun p => M r1 (a0 + p)) → Q M') : w_X12_layWord 203 r1 a0 n M Q := by
  unfold w_X12_layWord
  rintro M1 rfl
  unfold w_X12_layWord_8
  refine pj_lp_inv (fun y : Int × pj_M => (0 ≤ y.1 ∧ y.1 ≤ n) ∧ eqp M y.2 ∧ (∀ a, a ≠ 203 → a ≠ 209 → y.2 a = M a) ∧ msc y.2 ∧ y.2 203 14 = n ∧ y.2 203 11 = M 203 11 ∧ ∀ p, 0 ≤ p → p < y.1 → y.2 209 p = M r1 (a0 + p)) (fun y => (n - y.1).toNat) ?_ (0, _) ⟨⟨Int.le_refl _, hn.1⟩, eqp.up (by unfold mpk; omega), fun a a1 a2 => pu_row a1, s.up, by show pj_up M 203 14 n 203 14 = n; exact pu_eq, by show pj_up M 203 14 n 203 11 = M 203 11; exact pu_nk (by decide), fun p p1 p2 => by have : p < 0 := p2; omega⟩
  rintro ⟨p, M2⟩ ⟨hp, e2, r2, s2, n2, g2, w2⟩ P hP
  dsimp only at hp e2 r2 s2 n2 g2 w2 hP ⊢
  unfold w_X12_layWord_8b
  rw [rm_13]
  refine ⟨⟨by omega, by omega⟩, ⟨by omega, by omega⟩, fun hend => q M2 e2 r2 s2 n2 g2 (fun x x1 x2 => w2 x x1 (by omega)), fun hgo => ⟨⟨by omega, by omega⟩, ⟨by omega, by omega⟩, ?_⟩⟩
  rw [r2 r1 hr.1 hr.2]
  rintro M6 rfl
  have hb' := hb p hp.1 (by omega)
  refine hP (p + 1, _) ⟨⟨by show 0 ≤ p + 1; omega, by show p + 1 ≤ n; omega⟩, e2.tr (eqp.up (by unfold mpk; omega)), fun a a1 a2 => ?_, ?_, ?_, ?_, fun x x1 x2 => ?_⟩ (by show (n - (p + 1)).toNat < (n - p).toNat; omega)
  · show pj_up M2 209 p _ a = _
    rw [pu_row a2]; exact r2 a a1 a2
  · obtain ⟨s1, s3, s4, s5, s6, s7⟩ := s2
    have rb : ∀ a, a ≠ 209 → bz M2 a → bz (pj_up M2 209 p (M r1 (a0 + p))) a := fun a ha h x => by rw [pu_ne ha]; exact h x
    refine ⟨rb 210 (by decide) s1, rb 211 (by decide) s3, rb 212 (by decide) s4, rb 213 (by decide) s5, rb 214 (by decide) s6, fun x => ?_⟩
    · show 0 ≤ pj_up M2 209 p (M r1 (a0 + p)) 209 x ∧ pj_up M2 209 p (M r1 (a0 + p)) 209 x ≤ 7
      rw [pu_if]; split
      · exact hb'
      · exact s7 x
  · show pj_up M2 209 p (M r1 (a0 + p)) 203 14 = n
    rw [pu_ne (by decide)]; exact n2
  · show pj_up M2 209 p (M r1 (a0 + p)) 203 11 = _
    rw [pu_ne (by decide)]; exact g2
  · have x2' : x < p + 1 := x2
    show pj_up M2 209 p (M r1 (a0 + p)) 209 x = _
    by_cases e : x = p
    · rw [e, pu_eq]
    · rw [pu_nk e]; exact w2 x x1 (by omega)
theorem t_layAll {M : pj_M} {Q : pj_M → Prop} (s : msc M) (v : dvl (M 204)) (q : ∀ M', eqp M M' → mft M' (M 204 73) (FD (M 204)) → Q M') : w_X12_layAll 203 (M 204 73) M Q := by
  have hn := v.2.2.1
  unfold w_X12_layAll
  rw [rm_0]
  refine t_layWord s (by decide) (by decide) hn (by show 74 + M 204 73 ≤ ((pj_sh 204).2 : Int); rw [show (pj_sh 204).2 = 95 by decide]; omega) (fun p p1 p2 => v.2.2.2.1 p p1 (by omega)) (fun M1 e1 r1 s1 n1 _ w1 => ?_)
  have e204 : M1 204 = M 204 := r1 204 (by decide) (by decide)
  refine t_layT (w := lw (M 204)) s1 (by rw [e204]; exact v) n1 ⟨by omega, by omega⟩ w1 (fun M2 e2 _ f2 => ?_)
  rw [e204] at f2
  exact q M2 (e1.tr e2) f2
theorem eqp.z {M : pj_M} {v : Int} : eqp M (pj_up M 203 5 v) := eqp.up (by unfold mpk; omega)
theorem z204 {M : pj_M} {k v : Int} : pj_up M 203 k v 204 = M 204 := pu_row (by decide)
section
variable {M : pj_M} {Q : Int → pj_M → Prop}
theorem t_isPieceM {i j : Int} (v : dvl (M 204)) (hi : pj_in i) (hj : pj_in j) (q : ∀ r, (r = 0 ∨ r = 1) → (r = 1 ↔ isPc (M 204) i j) → Q r M) : w_X12_isPiece 203 i j M Q := by
  have hn := v.2.2.1
  unfold w_X12_isPiece isPc at *
  rw [rm_0]
  exact ⟨hi, fun h => q 0 (Or.inl rfl) (by omega), fun h => ⟨hj, hi, fun h' => q 0 (Or.inl rfl) (by omega), fun h' => ⟨hj, ⟨by omega, by omega⟩, fun h2 => q 0 (Or.inl rfl) (by omega), fun h2 => q 1 (Or.inr rfl) (by omega)⟩⟩⟩
theorem m_fits {i j : Int} (s : msc M) (v : dvl (M 204)) (hi : pj_in i) (hj : pj_in j) (q : ∀ r o M', eqm M M' → msc M' → rwm M M' o → s_fits (M 204) i j r o → Q r M') : w_X12_fits 203 i j M Q := by
  unfold w_X12_fits
  rintro M1 rfl
  have v1 : dvl (pj_up M 203 5 0 204) := by rw [z204]; exact v
  refine t_isPieceM v1 hi hj (fun t ht hiff => ⟨in01 ht, fun h => ?_, fun h => ?_⟩)
  · rw [z204] at hiff
    have hp : isPc (M 204) i j := hiff.mp (by omega)
    rw [rm_0]
    refine t_layAll s.up v1 (fun M2 e2 f2 => ?_)
    rw [z204] at f2
    refine t_isF f2 hp.1 hp.2.1 hp.2.2 (fun t2 ht2 hi2 => ?_)
    have ee : eqp M M2 := eqp.z.tr e2
    exact ⟨in01 ht2, fun h => q 0 none M2 (eqm.p ee) f2.1.2.2.2.2.1 (rwm.p ee) ⟨rfl, fun h' => absurd hp h', fun _ => Or.inr ⟨rfl, fun hf => by have := hi2.mpr hf; omega⟩⟩, fun h => q 1 none M2 (eqm.p ee) f2.1.2.2.2.2.1 (rwm.p ee) ⟨rfl, fun h' => absurd hp h', fun _ => Or.inl ⟨rfl, hi2.mp (by omega)⟩⟩⟩
  · rw [z204] at hiff
    exact q (-1) none _ (eqm.p eqp.z) s.up (rwm.p eqp.z) ⟨rfl, fun _ => rfl, fun hp => by have := hiff.mpr hp; omega⟩
theorem m_onwards {i : Int} (s : msc M) (v : dvl (M 204)) (hi : pj_in i) (q : ∀ r o M', eqm M M' → msc M' → rwm M M' o → s_onwards (M 204) i r o → Q r M') : w_X12_onwards 203 i M Q := by
  have hn := v.2.2.1
  unfold w_X12_onwards
  rintro M1 rfl
  have v1 : dvl (pj_up M 203 5 0 204) := by rw [z204]; exact v
  rw [rm_0, z204]
  refine t_in hi ⟨by decide, by decide⟩ ⟨by omega, by omega⟩ (fun t ht hiff => ⟨in01 ht, fun h => ?_, fun h => ?_⟩)
  · have hp : 0 ≤ i ∧ i ≤ M 204 73 + 2 := hiff.mp (by omega)
    have hpc : isPc (M 204) i i := ⟨hp.1, Int.le_refl _, hp.2⟩
    rw [show pj_up M 203 5 0 204 = M 204 from z204]
    have e0 : M 204 73 = pj_up M 203 5 0 204 73 := by rw [z204]
    rw [e0]
    refine t_layAll s.up v1 (fun M2 e2 f2 => ?_)
    rw [z204] at f2
    have ee : eqp M M2 := eqp.z.tr e2
    have e204 : M2 204 = M 204 := ee.at (by omega)
    have m := f2.2.1
    unfold w_X12_onwards_37
    refine pj_lp_inv (fun y : Int × pj_M => i ≤ y.1 ∧ y.1 ≤ M 204 73 + 2 ∧ FD (M 204) i y.1 ∧ y.2 = M2) (fun y => (M 204 73 + 2 - y.1).toNat) ?_ (i, M2) ⟨Int.le_refl _, hp.2, m.1 i hp.1 hp.2, rfl⟩
    rintro ⟨x, Mx⟩ ⟨h1, h2, h3, h4⟩ P hP
    dsimp only at h1 h2 h3 h4 hP ⊢
    have h4' := h4.symm
    subst h4'
    unfold w_X12_onwards_37b
    rw [rm_0, e204]
    refine ⟨⟨by omega, by omega⟩, ⟨by omega, by omega⟩, fun hend => ?_, fun hgo => t_isF f2 hp.1 (by omega) (by omega) (fun t2 ht2 hi2 => ⟨in01 ht2, fun h => ?_, fun h => ?_⟩)⟩
    · exact q x none M2 (eqm.p ee) f2.1.2.2.2.2.1 (rwm.p ee) ⟨rfl, fun h' => absurd hpc h', fun _ => ⟨h1, h2, h3, Or.inl (by omega)⟩⟩
    · exact q x none M2 (eqm.p ee) f2.1.2.2.2.2.1 (rwm.p ee) ⟨rfl, fun h' => absurd hpc h', fun _ => ⟨h1, h2, h3, Or.inr (fun hf => by have := hi2.mpr hf; omega)⟩⟩
    · exact hP (x + 1, M2) ⟨by show i ≤ x + 1; omega, by show x + 1 ≤ M 204 73 + 2; omega, hi2.mp (by omega), rfl⟩ (by show (M 204 73 + 2 - (x + 1)).toNat < (M 204 73 + 2 - x).toNat; omega)
  · exact q (-1) none _ (eqm.p eqp.z) s.up (rwm.p eqp.z) ⟨rfl, fun _ => rfl, fun hp => by have := hiff.mpr ⟨hp.1, hp.2.2⟩; omega⟩
theorem m_back {j : Int} (s : msc M) (v : dvl (M 204)) (hj : pj_in j) (q : ∀ r o M', eqm M M' → msc M' → rwm M M' o → s_back (M 204) j r o → Q r M') : w_X12_back 203 j M Q := by
  have hn := v.2.2.1
  unfold w_X12_back
  rintro M1 rfl
  have v1 : dvl (pj_up M 203 5 0 204) := by rw [z204]; exact v
  rw [rm_0, z204]
  refine t_in hj ⟨by decide, by decide⟩ ⟨by omega, by omega⟩ (fun t ht hiff => ⟨in01 ht, fun h => ?_, fun h => ?_⟩)
  · have hp : 0 ≤ j ∧ j ≤ M 204 73 + 2 := hiff.mp (by omega)
    have hpc : isPc (M 204) j j := ⟨hp.1, Int.le_refl _, hp.2⟩
    rw [show pj_up M 203 5 0 204 = M 204 from z204]
    have e0 : M 204 73 = pj_up M 203 5 0 204 73 := by rw [z204]
    rw [e0]
    refine t_layAll s.up v1 (fun M2 e2 f2 => ?_)
    rw [z204] at f2
    have ee : eqp M M2 := eqp.z.tr e2
    have m := f2.2.1
    unfold w_X12_back_37
    refine pj_lp_inv (fun y : Int × pj_M => 0 ≤ y.1 ∧ y.1 ≤ j ∧ FD (M 204) y.1 j ∧ y.2 = M2) (fun y => y.1.toNat) ?_ (j, M2) ⟨hp.1, Int.le_refl _, m.1 j hp.1 hp.2, rfl⟩
    rintro ⟨x, Mx⟩ ⟨h1, h2, h3, h4⟩ P hP
    dsimp only at h1 h2 h3 h4 hP ⊢
    have h4' := h4.symm
    subst h4'
    have fin : (x = 0 ∨ ¬ FD (M 204) (x - 1) j) → Q x M2 := fun hor => q x none M2 (eqm.p ee) f2.1.2.2.2.2.1 (rwm.p ee) ⟨rfl, fun h' => absurd hpc h', fun _ => ⟨h1, h2, fun i i1 i2 => ⟨fun hle => m.2 x j i j h1 hle i2 (Int.le_refl _) hp.2 h3, fun hf => by
      apply Int.not_lt.mp; intro hlt
      rcases hor with h | h
      · omega
      · exact h (m.2 i j (x - 1) j i1 (by omega) (by omega) (Int.le_refl _) hp.2 hf)⟩⟩⟩
    unfold w_X12_back_37b
    refine ⟨⟨by omega, by omega⟩, fun hend => fin (Or.inl (by omega)), fun hgo => t_isF f2 (by omega) (by omega) hp.2 (fun t2 ht2 hi2 => ⟨in01 ht2, fun h => fin (Or.inr (fun hf => by have := hi2.mpr hf; omega)), fun h => ?_⟩)⟩
    exact hP (x + (-1), M2) ⟨by show 0 ≤ x + (-1); omega, by show x + (-1) ≤ j; omega, by show FD (M 204) (x + (-1)) j; rw [show x + (-1) = x - 1 by omega]; exact hi2.mp (by omega), rfl⟩ (by show (x + (-1)).toNat < x.toNat; omega)
  · exact q (-1) none _ (eqm.p eqp.z) s.up (rwm.p eqp.z) ⟨rfl, fun _ => rfl, fun hp => by have := hiff.mpr ⟨hp.1, hp.2.2⟩; omega⟩
theorem m_sentence (s : msc M) (v : dvl (M 204)) (q : ∀ r o M', eqm M M' → msc M' → rwm M M' o → s_sentence (M 204) r o → Q r M') : w_X12_sentence 203 M Q := by
  have hn := v.2.2.1
  unfold w_X12_sentence
  rintro M1 rfl
  have v1 : dvl (pj_up M 203 5 0 204) := by rw [z204]; exact v
  rw [rm_0]
  refine t_layAll s.up v1 (fun M2 e2 f2 => ?_)
  rw [z204] at f2
  have ee : eqp M M2 := eqp.z.tr e2
  rw [show M2 204 = M 204 from ee.at (by omega)]
  refine t_isF f2 (by decide) (by omega) (Int.le_refl _) (fun t2 ht2 hi2 => ?_)
  exact ⟨in01 ht2, fun h => q 0 none M2 (eqm.p ee) f2.1.2.2.2.2.1 (rwm.p ee) ⟨rfl, Or.inr ⟨rfl, fun hf => by have := hi2.mpr hf; omega⟩⟩, fun h => q 1 none M2 (eqm.p ee) f2.1.2.2.2.2.1 (rwm.p ee) ⟨rfl, Or.inl ⟨rfl, hi2.mp (by omega)⟩⟩⟩
end
