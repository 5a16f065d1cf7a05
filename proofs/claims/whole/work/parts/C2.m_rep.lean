/-- pieces as the model lays them -/
def mpa (M : pj_M) (a : lP) : Prop := M 203 22 = (a.length : Int) ∧ ∀ (k : Nat) (x : Int × Int), a[k]? = some x → M 216 (2 * (k : Int)) = x.1 ∧ M 216 (2 * (k : Int) + 1) = x.2
/-- only what is told, or laid aside, has changed -/
def eqz (M M' : pj_M) : Prop := ∀ a x, ¬ (a = 216 ∨ a = 203 ∧ (x = 22 ∨ x = 28 ∨ x = 29)) → M' a x = M a x
theorem eqz.rf {M : pj_M} : eqz M M := fun _ _ _ => rfl
theorem eqz.tr {M M1 M2 : pj_M} (h : eqz M M1) (h2 : eqz M1 M2) : eqz M M2 := fun a x h3 => (h2 a x h3).trans (h a x h3)
theorem eqz.up {M : pj_M} {a : Nat} {k v : Int} (h : a = 216 ∨ a = 203 ∧ (k = 22 ∨ k = 28 ∨ k = 29)) : eqz M (pj_up M a k v) := fun b x hb => by
  rw [pu_if, if_neg]
  rintro ⟨rfl, rfl⟩
  exact hb h
theorem eqz.row {M M' : pj_M} {a : Nat} (h : eqz M M') (h1 : a ≠ 216) (h2 : a ≠ 203) : M' a = M a := funext fun x => h a x (by omega)
theorem eqz.p {M M' : pj_M} (h : eqz M M') : eqp M M' := fun c x hc => h c x (by unfold mpk at hc; omega)
theorem mft.z {M M' : pj_M} {wl : Int} {F : Int → Int → Prop} (h : mft M wl F) (e : eqz M M') : mft M' wl F := h.eq (fun a ha => e.row (by omega) (by omega)) (e 203 11 (by omega)) (e 203 14 (by omega))
theorem t_put {M : pj_M} {a : lP} {i j : Int} {Q : pj_M → Prop} (h : mpa M a) (hl : a.length < 32) (q : ∀ M', eqz M M' → mpa M' (a ++ [(i, j)]) → Q M') : w_X12_put 203 i j M Q := by
  obtain ⟨h2, hx⟩ := h
  unfold w_X12_put
  rw [rm_21, h2]
  refine ⟨⟨by omega, by omega⟩, ?_⟩
  rintro M2 rfl
  rw [pu_ne (show (203 : Nat) ≠ 216 by decide), h2]
  refine ⟨⟨by omega, by omega⟩, ?_⟩
  rintro M4 rfl M5 rfl
  rw [pu_ne (show (203 : Nat) ≠ 216 by decide), pu_ne (show (203 : Nat) ≠ 216 by decide), h2]
  refine q _ (((eqz.up (Or.inl rfl)).tr (eqz.up (Or.inl rfl))).tr (eqz.up (Or.inr ⟨rfl, Or.inl rfl⟩))) ⟨?_, fun k x hk => ?_⟩
  · rw [pu_eq, List.length_append]; show (a.length : Int) + 1 = ((a.length + 1 : Nat) : Int); omega
  · have r216 : ∀ y, pj_up (pj_up (pj_up M 216 (2 * (a.length : Int)) i) 216 (2 * (a.length : Int) + 1) j) 203 22 ((a.length : Int) + 1) 216 y = pj_up (pj_up M 216 (2 * (a.length : Int)) i) 216 (2 * (a.length : Int) + 1) j 216 y := fun y => pu_ne (by decide)
    rw [r216, r216]
    by_cases e : k < a.length
    · rw [List.getElem?_append_left e] at hk
      have := hx k x hk
      rw [pu_nk (by omega), pu_nk (by omega), pu_nk (by omega), pu_nk (by omega)]
      exact this
    · rw [List.getElem?_append_right (by omega)] at hk
      have : k = a.length := by
        apply Classical.byContradiction; intro hne
        rw [List.getElem?_eq_none (by simp; omega)] at hk; cases hk
      subst this
      simp at hk
      subst hk
      rw [pu_nk (by omega), pu_eq, pu_eq]; exact ⟨rfl, rfl⟩
theorem mpa.nil {M : pj_M} : mpa (pj_up M 203 22 0) [] := ⟨pu_eq, fun k x h => by simp at h⟩
theorem t_layReport {M : pj_M} {wl led : Int} {F : Int → Int → Prop} {bh : Int → Int} {Q : pj_M → Prop} (f : mft M wl F) (hwl : 0 ≤ wl ∧ wl ≤ 14) (hl : led = 0 ∨ led = 1) (hbh : ∀ j, 1 ≤ j → j ≤ wl + 2 → j ≤ bh j ∧ bh j ≤ wl + 2) (h0 : led = 0 → ∀ j, bh j = j)
    (h1 : led = 1 → ∀ (M' : pj_M) (j : Int) (Q' : Int → pj_M → Prop), eqz M M' → 1 ≤ j → j ≤ wl + 2 → Q' (bh j) M' → w_X12_behind 203 j M' Q')
    (q : ∀ M' l, eqz M M' → mpa M' l → l.length ≤ 16 → rpt F (wl + 2) bh l 0 → Q M') : w_X12_layReport 203 led M Q := by
  have m := f.2.1
  have hwl2 : M 203 14 = wl := f.1.2.1
  unfold w_X12_layReport
  rintro M1 rfl z2 hz2
  rw [pu_nk (by decide), hwl2] at hz2
  subst hz2
  unfold w_X12_layReport_14
  refine pj_lp_inv (fun y : Int × pj_M => ∃ a : lP, (0 ≤ y.1 ∧ y.1 ≤ wl + 2) ∧ (a.length : Int) ≤ y.1 ∧ eqz M y.2 ∧ mpa y.2 a ∧ ∀ l, rpt F (wl + 2) bh l y.1 → rpt F (wl + 2) bh (a ++ l) 0) (fun y => (wl + 3 - y.1).toNat) ?_ (0, _) ⟨[], ⟨Int.le_refl _, by show (0 : Int) ≤ wl + 2; omega⟩, by show (([] : lP).length : Int) ≤ 0; decide, eqz.up (Or.inr ⟨rfl, Or.inl rfl⟩), mpa.nil, fun l h => h⟩
  rintro ⟨p, M2⟩ ⟨a, hp, hal, e2, ra, hrest⟩ P hP
  dsimp only at hp hal e2 ra hrest hP ⊢
  have f2 := f.z e2
  unfold w_X12_layReport_14b
  refine ⟨⟨by omega, by omega⟩, ⟨by omega, by omega⟩, fun h => by omega, fun _ => ?_⟩
  unfold w_X12_layReport_22
  refine pj_lp_inv (fun y : Int × pj_M => (p ≤ y.1 ∧ y.1 ≤ wl + 3) ∧ y.2 = M2 ∧ ∀ j', p ≤ j' → j' < y.1 → F p j') (fun y => (wl + 3 - y.1).toNat) ?_ (p, M2) ⟨⟨Int.le_refl _, by show p ≤ wl + 3; omega⟩, rfl, fun j' a1 a2 => by have : j' < p := a2; omega⟩
  rintro ⟨j, Mx⟩ ⟨hj, hM, hall⟩ P2 hP2
  dsimp only at hj hM hall hP2 ⊢
  have hM' := hM.symm
  subst hM'
  unfold w_X12_layReport_22b
  refine ⟨⟨by omega, by omega⟩, ⟨by omega, by omega⟩, fun hend => ?_, fun hgo => t_isF f2 hp.1 (by omega) (by omega) (fun t ht hi => ⟨in01 ht, fun hz => ?_, fun hne => ?_⟩)⟩
  · unfold w_X12_layReport_44
    refine ⟨⟨by omega, by omega⟩, ⟨by omega, by omega⟩, fun h => by omega, fun _ => ?_⟩
    refine q M2 a e2 ra (by omega) ?_
    have := hrest [] (hall (wl + 2) hp.2 (by omega))
    rwa [List.append_nil] at this
  · have nf : ¬ F p j := fun h => by have := hi.mpr h; omega
    have hpj : p < j := by
      rcases Int.lt_or_le p j with h | h
      · exact h
      · exfalso; have : j = p := by omega
        exact nf (by rw [this]; exact m.1 p hp.1 hp.2)
    unfold w_X12_layReport_44
    refine ⟨⟨by omega, by omega⟩, ⟨by omega, by omega⟩, fun _ => ?_, fun h => by omega⟩
    unfold w_X12_layReport_55
    refine pj_lp_inv (fun y : Int × pj_M => (p ≤ y.1 ∧ y.1 ≤ j) ∧ y.2 = M2 ∧ (y.1 < j → F (y.1 + 1) j)) (fun y => (y.1 + 1).toNat) ?_ (j, M2) ⟨⟨by show p ≤ j; omega, Int.le_refl _⟩, rfl, fun h => absurd h (Int.lt_irrefl _)⟩
    rintro ⟨i, Mx⟩ ⟨hi1, hM3, hF1⟩ P3 hP3
    dsimp only at hi1 hM3 hF1 hP3 ⊢
    have hM3' := hM3.symm
    subst hM3'
    unfold w_X12_layReport_55b
    refine t_isF f2 (by omega) hi1.2 (by omega) (fun t3 ht3 hi3 => ⟨in01 ht3, fun hz3 => ?_, fun hne3 => ?_⟩)
    · have nfi : ¬ F i j := fun h => by have := hi3.mpr h; omega
      have hij : i < j := by
        rcases Int.lt_or_le i j with h | h
        · exact h
        · exfalso; have : i = j := by omega
          exact nfi (by rw [this]; exact m.1 j (by omega) (by omega))
      have hbj := hbh j (by omega) (by omega)
      refine t_put ra (by omega) (fun M4 e4 r4 => ?_)
      have nxt : P (bh j, M4) := by
        refine hP (bh j, M4) ⟨a ++ [(i, j)], ⟨by show 0 ≤ bh j; omega, by show bh j ≤ wl + 2; omega⟩, ?_, e2.tr e4, r4, fun l hl => ?_⟩ (by show (wl + 3 - bh j).toNat < (wl + 3 - p).toNat; omega)
        · show ((a ++ [(i, j)]).length : Int) ≤ bh j
          rw [List.length_append]; show ((a.length + 1 : Nat) : Int) ≤ bh j; omega
        · rw [List.append_assoc]
          exact hrest _ ⟨⟨hpj, by omega⟩, nf, hall (j - 1) (by omega) (by omega), ⟨by omega, hij, nfi, hF1 hij⟩, hl⟩
      unfold w_X12_layReport_95
      refine ⟨in01 hl, fun hz4 => ?_, fun hn4 => ?_⟩
      · rw [h0 hz4 j] at nxt; exact nxt
      · exact h1 (by omega) M4 j _ (e2.tr e4) (by omega) (by omega) nxt
    · have yf := hi3.mp (by omega)
      have hpi : p < i := by
        rcases Int.lt_or_le p i with h | h
        · exact h
        · exfalso; have : i = p := by omega
          rw [this] at yf; exact nf yf
      refine hP3 (i + (-1), M2) ⟨⟨by show p ≤ i + (-1); omega, by show i + (-1) ≤ j; omega⟩, rfl, fun _ => ?_⟩ (by show (i + (-1) + 1).toNat < (i + 1).toNat; omega)
      show F (i + (-1) + 1) j
      rw [show i + (-1) + 1 = i by omega]; exact yf
  · refine hP2 (j + 1, M2) ⟨⟨by show p ≤ j + 1; omega, by show j + 1 ≤ wl + 3; omega⟩, rfl, fun j' a1 a2 => ?_⟩ (by show (wl + 3 - (j + 1)).toNat < (wl + 3 - j).toNat; omega)
    have a2' : j' < j + 1 := a2
    by_cases e : j' = j
    · rw [e]; exact hi.mp (by omega)
    · exact hall j' a1 (by omega)
/-- numbers are told by the model -/
def eqt2 (M M' : pj_M) : Prop := ∀ a x, a ≠ 206 → ¬ (a = 203 ∧ x = 4) → M' a x = M a x
theorem eqt2.rf {M : pj_M} : eqt2 M M := fun _ _ _ _ => rfl
theorem eqt2.tr {M M1 M2 : pj_M} (h : eqt2 M M1) (h2 : eqt2 M1 M2) : eqt2 M M2 := fun a x h3 h4 => (h2 a x h3 h4).trans (h a x h3 h4)
theorem eqt2.row {M M' : pj_M} {a : Nat} (h : eqt2 M M') (h1 : a ≠ 206) (h2 : a ≠ 203) : M' a = M a := funext fun x => h a x h1 (fun e => h2 e.1)
theorem eqt2.z {M : pj_M} {v : Int} : eqt2 M (pj_up M 203 4 v) := fun a x _ h => by rw [pu_if, if_neg h]
theorem eqm.t {M M' : pj_M} (h : eqt2 M M') : eqm M M' := fun c x hc => h c x (by unfold mpm at hc; omega) (by unfold mpm at hc; omega)
theorem msc.t {M M' : pj_M} (h : msc M) (e : eqt2 M M') : msc M' := h.eq (fun a a1 a2 => e.row (by omega) (by omega))
theorem mft.t {M M' : pj_M} {wl : Int} {F : Int → Int → Prop} (h : mft M wl F) (e : eqt2 M M') : mft M' wl F := h.eq (fun a ha => e.row (by omega) (by omega)) (e 203 11 (by decide) (by decide)) (e 203 14 (by decide) (by decide))
theorem rwsm.nil {M : pj_M} : rwsm (pj_up M 203 4 0) [] := ⟨pu_eq, by decide, fun k x h => by simp at h⟩
theorem t_tellM {M : pj_M} {l : List Int} {x : Int} {Q : pj_M → Prop} (h : rwsm M l) (hl : l.length < 40) (q : ∀ M', eqt2 M M' → rwsm M' (l ++ [x]) → Q M') : w_X12_tell 203 x M Q := by
  obtain ⟨h1, h2, h3⟩ := h
  unfold w_X12_tell
  rw [rm_3, h1]
  refine ⟨⟨by omega, by omega⟩, ?_⟩
  rintro M3 rfl M4 rfl
  rw [pu_ne (show (203 : Nat) ≠ 206 by decide), h1]
  refine q _ (fun a y ha hb => ?_) ⟨?_, ?_, fun k y hk => ?_⟩
  · rw [pu_if, if_neg hb, pu_ne ha]
  · rw [pu_eq, List.length_append]; show (l.length : Int) + 1 = ((l.length + 1 : Nat) : Int); omega
  · rw [List.length_append]; show l.length + 1 ≤ 40; omega
  · rw [pu_ne (by decide)]
    by_cases e : k < l.length
    · rw [List.getElem?_append_left e] at hk
      rw [pu_nk (by omega)]; exact h3 k y hk
    · rw [List.getElem?_append_right (by omega)] at hk
      have : k = l.length := by
        apply Classical.byContradiction; intro hne
        rw [List.getElem?_eq_none (by simp; omega)] at hk; cases hk
      subst this
      simp at hk
      rw [pu_eq]; exact hk
theorem flt_get : ∀ (l : lP) (k : Nat) (x : Int × Int), l[k]? = some x → (flt l)[2 * k]? = some x.1 ∧ (flt l)[2 * k + 1]? = some x.2
  | [], k, x, h => by simp at h
  | y :: l, 0, x, h => by
    have h' : y = x := by simpa using h
    subst h'; exact ⟨rfl, rfl⟩
  | y :: l, k + 1, x, h => by
    have h' : l[k]? = some x := by simpa using h
    have := flt_get l k x h'
    rw [show 2 * (k + 1) = 2 * k + 1 + 1 by omega]
    exact this
theorem t_tellPiecesM {M : pj_M} {l : lP} {Q : pj_M → Prop} (h : mpa M l) (hl : l.length ≤ 16) (hb : ∀ x ∈ l, pj_in x.1 ∧ pj_in x.2) (q : ∀ M', eqt2 M M' → rwsm M' (flt l) → Q M') : w_X12_tellPieces 203 M Q := by
  unfold w_X12_tellPieces
  rintro M0 rfl
  unfold w_X12_tellPieces_7
  have hfl := flt_len l
  refine pj_lp_inv (fun y : Int × pj_M => ∃ k : Nat, y.1 = (k : Int) ∧ k ≤ 2 * l.length ∧ eqt2 M y.2 ∧ rwsm y.2 ((flt l).take k)) (fun y => (2 * (l.length : Int) - y.1).toNat) ?_ (0, _) ⟨0, rfl, by omega, eqt2.z, rwsm.nil⟩
  rintro ⟨_, M1⟩ ⟨k, h1, hk, e1, r1⟩ P hP
  dsimp only at h1 e1 r1 hP ⊢
  subst h1
  have e22 : M1 203 22 = (l.length : Int) := by rw [e1 203 22 (by decide) (by decide)]; exact h.1
  unfold w_X12_tellPieces_7b
  rw [rm_21, e22]
  refine ⟨⟨by omega, by omega⟩, ⟨by omega, by omega⟩, fun hend => ?_, fun hgo => ?_⟩
  · rw [List.take_of_length_le (by omega)] at r1
    exact q M1 e1 r1
  · have hkl : k < (flt l).length := by omega
    have hv : M1 216 (k : Int) = (flt l)[k] ∧ pj_in (flt l)[k] := by
      rw [e1.row (show (216 : Nat) ≠ 206 by decide) (by decide)]
      have hj : k / 2 < l.length := by omega
      have hx := h.2 (k / 2) l[k / 2] (List.getElem?_eq_getElem hj)
      have hg := flt_get l (k / 2) l[k / 2] (List.getElem?_eq_getElem hj)
      have hbx := hb l[k / 2] (List.getElem_mem hj)
      by_cases ev : k % 2 = 0
      · have e2 : 2 * (k / 2) = k := by omega
        have h1 := hg.1
        rw [show 2 * (k / 2) = k by omega, List.getElem?_eq_getElem hkl] at h1
        have h1' : (flt l)[k] = l[k / 2].1 := by injection h1
        rw [h1', show (k : Int) = 2 * ((k / 2 : Nat) : Int) by omega]
        exact ⟨hx.1, hbx.1⟩
      · have h1 := hg.2
        rw [show 2 * (k / 2) + 1 = k by omega, List.getElem?_eq_getElem hkl] at h1
        have h1' : (flt l)[k] = l[k / 2].2 := by injection h1
        rw [h1', show (k : Int) = 2 * ((k / 2 : Nat) : Int) + 1 by omega]
        exact ⟨hx.2, hbx.2⟩
    rw [hv.1]
    refine ⟨⟨by omega, by omega⟩, hv.2, t_tellM r1 (by rw [List.length_take]; omega) (fun M2 e2 r2 => ?_)⟩
    refine hP ((k : Int) + 1, M2) ⟨k + 1, by show (k : Int) + 1 = _; omega, by omega, e1.tr e2, ?_⟩ (by show (2 * (l.length : Int) - ((k : Int) + 1)).toNat < (2 * (l.length : Int) - (k : Int)).toNat; omega)
    show rwsm M2 ((flt l).take (k + 1))
    rw [List.take_succ_eq_append_getElem hkl]; exact r2
section
variable {M : pj_M} {Q : Int → pj_M → Prop}
theorem m_report (s : msc M) (v : dvl (M 204)) (q : ∀ r o M', eqm M M' → msc M' → rwm M M' o → s_report (M 204) r o → Q r M') : w_X12_report 203 M Q := by
  have hn := v.2.2.1
  unfold w_X12_report
  rintro M1 rfl
  have v1 : dvl (pj_up M 203 5 0 204) := by rw [z204]; exact v
  rw [rm_0]
  refine t_layAll s.up v1 (fun M2 e2 f2 => ?_)
  rw [z204] at f2
  have ee : eqp M M2 := eqp.z.tr e2
  refine t_layReport (bh := fun j => j) f2 hn (Or.inl rfl) (fun j _ h => ⟨Int.le_refl _, h⟩) (fun _ _ => rfl) (fun h => absurd h (by decide)) (fun M3 l e3 r3 hl hr => t_tellPiecesM r3 hl (rpt.b (by omega) (fun j _ h => ⟨Int.le_refl _, h⟩) l 0 (Int.le_refl _) hr) (fun M4 e4 r4 => ?_))
  rw [e4 203 22 (by decide) (by decide), r3.1]
  exact q _ (some (flt l)) M4 (((eqm.p ee).tr (eqm.p e3.p)).tr (eqm.t e4)) ((f2.z e3).t e4).1.2.2.2.2.1 r4 ⟨l, hl, hr, rfl, rfl⟩
end
