/-- the line of a desk's row, and what fits -/
def lw (D : Int → Int) : Int → Int := fun x => D (74 + x)
def FD (D : Int → Int) : Int → Int → Prop := pfit (gr_of D) (D 1).toNat (lw D) (D 73)
/-- a row that is a desk -/
def dvl (D : Int → Int) : Prop := vg D ∧ gr_gd (gr_of D) 8 (D 1).toNat ∧ (0 ≤ D 73 ∧ D 73 ≤ 14) ∧ (∀ x, 0 ≤ x → x < 14 → 0 ≤ D (74 + x) ∧ D (74 + x) ≤ 7) ∧ pds (fun k => D (89 + k)) (D 88)
/-- where the parts of a desk lie -/
def dcell (d : Nat) : Prop := pj_rf d 0 = d + 1 ∧ pj_rf d 1 = d + 5 ∧ pj_rf d 2 = d + 7 ∧ gcell (d + 1) ∧ lcell (d + 5)
theorem dcell_13 : dcell 13 := by unfold dcell gcell lcell; decide
theorem dcell_21 : dcell 21 := by unfold dcell gcell lcell; decide
theorem dcell_187 : dcell 187 := by unfold dcell gcell lcell; decide
theorem dcell_195 : dcell 195 := by unfold dcell gcell lcell; decide
theorem dcell_h : ∀ i : Nat, i < 10 → dcell (33 + 8 * i) ∧ pj_rf 32 i = 33 + 8 * i := by unfold dcell gcell lcell; decide
theorem dcell_k : ∀ i : Nat, i < 2 → dcell (187 + 8 * i) ∧ pj_rf 113 i = 187 + 8 * i := by unfold dcell gcell lcell; decide
/-- told: which capitals have a rule -/
def tld (D : Int → Int) (z : Int) : Prop := ∃ R : Nat, z = (R : Int) ∧ R < 64 ∧ ∀ x, R.testBit x = true ↔ ∃ k : Int, 0 ≤ k ∧ k < D 0 ∧ D (1 + 6 * k) = (x : Int)
theorem tld.uniq {D : Int → Int} {z z' : Int} (h : tld D z) (h' : tld D z') : z = z' := by
  obtain ⟨R, rfl, _, h1⟩ := h
  obtain ⟨R', rfl, _, h2⟩ := h'
  have : R = R' := Nat.eq_of_testBit_eq (fun i => by
    have a := h1 i
    have b := h2 i
    rw [← b] at a
    cases h3 : R.testBit i <;> cases h4 : R'.testBit i <;> simp_all)
  rw [this]
/-- a desk of the class holds a row -/
def drep (M : pj_M) (d : Nat) (D : Int → Int) : Prop :=
  (gvl M (d + 1) ∧ M (d + 1) 3 = D 0 ∧ (∀ k, 0 ≤ k → k < D 0 → M (d + 2) k = D (1 + 6 * k) ∧ M (d + 3) k = D (1 + 6 * k + 1) ∧ ∀ s, 0 ≤ s → s < D (1 + 6 * k + 1) → M (d + 4) (k * 4 + s) = D (1 + 6 * k + 2 + s)) ∧ M (d + 1) 4 = D 1 ∧ tld D (M (d + 1) 5)) ∧
  (lvl M (d + 5) ∧ M (d + 5) 1 = D 73 ∧ leq (D 73) (M (d + 6)) (lw D)) ∧
  M d 3 = D 88 ∧ leq (2 * D 88) (M (d + 7)) (fun k => D (89 + k))
theorem drep.eq {M M' : pj_M} {d : Nat} {D : Int → Int} (h : drep M d D) (e : ∀ a, d ≤ a → a ≤ d + 7 → M' a = M a) : drep M' d D := by
  unfold drep lvl at *
  rw [e d (by omega) (by omega), e (d + 1) (by omega) (by omega), e (d + 2) (by omega) (by omega), e (d + 3) (by omega) (by omega), e (d + 4) (by omega) (by omega), e (d + 5) (by omega) (by omega), e (d + 5 + 1) (by omega) (by omega), e (d + 7) (by omega) (by omega)]
  exact ⟨⟨h.1.1.eq (fun a a1 a2 => e a (by omega) (by omega)), h.1.2⟩, h.2⟩
theorem drep.congr {M : pj_M} {d : Nat} {D D' : Int → Int} (h : drep M d D) (e : ∀ x, 0 ≤ x → x < 95 → D' x = D x) (v : dvl D) : drep M d D' := by
  obtain ⟨⟨h1, h2, h3, h4, R, h5, h6, h7⟩, ⟨h8, h9, h10⟩, h11, h12⟩ := h
  have hn := v.1.1
  have e0 : D' 0 = D 0 := e 0 (by decide) (by decide)
  have e73 : D' 73 = D 73 := e 73 (by decide) (by decide)
  have e88 : D' 88 = D 88 := e 88 (by decide) (by decide)
  have hl := v.2.2.1
  have hp := v.2.2.2.2.1
  refine ⟨⟨h1, by rw [e0]; exact h2, fun k k1 k2 => ?_, by rw [e 1 (by decide) (by decide)]; exact h4, R, h5, h6, fun x => ?_⟩, ⟨h8, by rw [e73]; exact h9, fun x x1 x2 => ?_⟩, by rw [e88]; exact h11, fun k k1 k2 => ?_⟩
  · rw [e0] at k2
    have hz := v.1.2.2.1 k k1 (by omega)
    obtain ⟨g1, g2, g3⟩ := h3 k k1 k2
    rw [e (1 + 6 * k) (by omega) (by omega), e (1 + 6 * k + 1) (by omega) (by omega)]
    refine ⟨g1, g2, fun s s1 s2 => ?_⟩
    rw [e (1 + 6 * k + 2 + s) (by omega) (by omega)]
    exact g3 s s1 s2
  · rw [h7 x]
    constructor
    · rintro ⟨k, k1, k2, k3⟩
      exact ⟨k, k1, by rw [e0]; exact k2, by rw [e (1 + 6 * k) (by omega) (by omega)]; exact k3⟩
    · rintro ⟨k, k1, k2, k3⟩
      rw [e0] at k2
      exact ⟨k, k1, k2, by rw [← e (1 + 6 * k) (by omega) (by omega)]; exact k3⟩
  · rw [e73] at x2
    show M (d + 6) x = D' (74 + x)
    rw [e (74 + x) (by omega) (by omega)]
    exact h10 x x1 x2
  · rw [e88] at k2
    show M (d + 7) k = D' (89 + k)
    rw [e (89 + k) (by omega) (by omega)]
    exact h12 k k1 k2
theorem drep.gr {M : pj_M} {d : Nat} {D : Int → Int} (h : drep M d D) (v : dvl D) : gr_eq (gof M (d + 1)) (gr_of D) := by
  obtain ⟨⟨h1, h2, h3, _⟩, _⟩ := h
  have hn := v.1.1
  refine ⟨by show (M (d + 1) 3).toNat = (D 0).toNat; rw [h2], fun k hk => ?_⟩
  have hk' : k < (M (d + 1) 3).toNat := hk
  obtain ⟨g1, g2, g3⟩ := h3 (k : Int) (by omega) (by omega)
  refine ⟨by show (M (d + 2) (k : Int)).toNat = (D (1 + 6 * (k : Int))).toNat; rw [g1], ?_⟩
  rw [gr_of_sg]
  show sg (fun s => M (d + 4) ((k : Int) * 4 + s)) 0 (M (d + 3) (k : Int)) = _
  rw [g2]
  exact sg_congr (fun s s1 s2 => g3 s s1 s2)
theorem drep.gd {M : pj_M} {d : Nat} {D : Int → Int} (h : drep M d D) (v : dvl D) : gr_gd (gof M (d + 1)) 8 (M (d + 1) 4).toNat := by
  rw [(h.gr v).gd, h.1.2.2.2.1]; exact v.2.1
/-- a desk may be written -/
def dwf (M : pj_M) (d : Nat) : Prop := gwb M (d + 1) ∧ (∀ x, 0 ≤ M (d + 6) x ∧ M (d + 6) x ≤ 7)
theorem drep.wf {M : pj_M} {d : Nat} {D : Int → Int} (h : drep M d D) : dwf M d := ⟨h.1.1.w, h.2.1.1.2⟩
theorem dwf.eq {M M' : pj_M} {d : Nat} (h : dwf M d) (e : ∀ a, d ≤ a → a ≤ d + 7 → M' a = M a) : dwf M' d :=
  ⟨h.1.eq (fun a a1 a2 => e a (by omega) (by omega)), by rw [e (d + 6) (by omega) (by omega)]; exact h.2⟩
def eqk (d : Nat) (M M' : pj_M) : Prop := ∀ a x, ¬ (d ≤ a ∧ a ≤ d + 7) → M' a x = M a x
theorem eqk.row {d a : Nat} {M M' : pj_M} (h : eqk d M M') (h2 : a < d ∨ d + 7 < a) : M' a = M a := funext fun x => h a x (by omega)
theorem t_copyFromD {M : pj_M} {d d' : Nat} {D : Int → Int} {Q : pj_M → Prop} (hd : dcell d) (hd' : dcell d') (hn : d + 7 < d' ∨ d' + 7 < d) (w : dwf M d) (r : drep M d' D) (v : dvl D) (q : ∀ M', eqk d M M' → drep M' d D → Q M') : w_X1_copyFrom d d' M Q := by
  obtain ⟨c0, c1, c2, cg, cl⟩ := hd
  obtain ⟨c0', c1', c2', cg', cl'⟩ := hd'
  have hv := v.1.1
  unfold w_X1_copyFrom
  rw [c0, c0', c1, c1', c2, c2']
  refine t_copyFromG cg cg' (by omega) (fun M1 e1 o1 z1 s1 a1 st1 t1 => ?_)
  have r1 : ∀ a, a < d + 1 ∨ d + 4 < a → M1 a = M a := fun a ha => funext fun x => e1 a x (by omega)
  have rr1 : drep M1 d' D := r.eq (fun a a1 a2 => r1 a (by omega))
  refine t_copyFromL cl cl' (by omega) (by rw [r1 (d + 5 + 1) (by omega)]; exact w.2) rr1.2.1.1 (fun M2 e2 vl2 n2 w2 => ?_)
  rintro M3 rfl M4 rfl
  have r2 : ∀ a, a < d + 5 ∨ d + 6 < a → M2 a = M1 a := fun a ha => e2.row (by omega)
  obtain ⟨⟨g1, g2, g3, g4, g5⟩, ⟨l1, l2, l3⟩, p1, p2⟩ := r
  have hp := v.2.2.2.2.1
  have cpr : ∀ a, a ≠ d + 7 → pj_cp M2 (d' + 7) (d + 7) 6 a = M2 a := fun a ha => funext fun x => by rw [cp_if, if_neg (fun h => ha h.1)]
  generalize hM4 : pj_up (pj_cp M2 (d' + 7) (d + 7) 6) d 3 (pj_cp M2 (d' + 7) (d + 7) 6 d' 3) = M4
  have m4 : ∀ a, a ≠ d + 7 → a ≠ d → M4 a = M2 a := fun a h1 h2 => by rw [← hM4, pu_row h2, cpr a h1]
  have gM : ∀ a, d + 1 ≤ a → a ≤ d + 4 → M4 a = M1 a := fun a a1 a2 => by rw [m4 a (by omega) (by omega), r2 a (by omega)]
  refine q M4 (fun a x ha => ?_) ⟨⟨⟨by rw [gM _ (by omega) (by omega), a1]; exact g1.1, fun k => ?_, fun k => ?_, fun x => ?_, ?_⟩, by rw [gM _ (by omega) (by omega), a1]; exact g2, fun k k1 k2 => ?_, by rw [gM _ (by omega) (by omega), st1]; exact g4, by rw [gM _ (by omega) (by omega), t1]; exact g5⟩, ⟨⟨by rw [m4 _ (by omega) (by omega)]; exact vl2.1, by rw [m4 _ (by omega) (by omega)]; exact vl2.2⟩, ?_, fun x x1 x2 => ?_⟩, ?_, fun k k1 k2 => ?_⟩
  · rw [m4 a (by omega) (by omega), r2 a (by omega), r1 a (by omega)]
  · rw [gM (d + 1 + 1) (by omega) (by omega), o1 k]; split
    · exact g1.2.1 k
    · exact w.1.1 k
  · rw [gM (d + 1 + 2) (by omega) (by omega), z1 k]; split
    · exact g1.2.2.1 k
    · exact w.1.2.1 k
  · rw [gM (d + 1 + 3) (by omega) (by omega), s1 x]; split
    · exact g1.2.2.2.1 x
    · exact w.1.2.2 x
  · rw [gM (d + 1) (by omega) (by omega), gM (d + 1 + 1) (by omega) (by omega), st1, o1 0, if_pos (by omega)]; exact g1.2.2.2.2
  · obtain ⟨b1, b2, b3⟩ := g3 k k1 k2
    have hz := v.1.2.2.1 k k1 (by omega)
    rw [gM (d + 2) (by omega) (by omega), gM (d + 3) (by omega) (by omega), gM (d + 4) (by omega) (by omega)]
    refine ⟨?_, ?_, fun s s1' s2 => ?_⟩
    · have := o1 k; rw [if_pos (by omega)] at this; exact this.trans b1
    · have := z1 k; rw [if_pos (by omega)] at this; exact this.trans b2
    · have := s1 (k * 4 + s); rw [if_pos (by omega)] at this; exact this.trans (b3 s s1' s2)
  · rw [m4 _ (by omega) (by omega), n2, r1 (d' + 5) (by omega)]; exact l2
  · rw [m4 _ (by omega) (by omega)]
    have h := w2 x x1 (by rw [r1 (d' + 5) (by omega), l2]; exact x2)
    rw [r1 (d' + 5 + 1) (by omega)] at h
    exact h.trans (l3 x x1 x2)
  · rw [← hM4, pu_eq, cpr d' (by omega), r2 d' (by omega), r1 d' (by omega)]; exact p1
  · rw [← hM4, pu_ne (by omega), cp_if, if_pos ⟨rfl, k1, by omega⟩, r2 (d' + 7) (by omega), r1 (d' + 7) (by omega)]; exact p2 k k1 k2
/-- the history: an index in the ring -/
def hix (t i : Int) : Nat := ((t + 9 - i) % 10).toNat
def hst (M : pj_M) (H : Int → Int → Int) : Prop := (0 ≤ M 31 1 ∧ M 31 1 < 10) ∧ (0 ≤ M 31 2 ∧ M 31 2 ≤ 10) ∧ (∀ i : Nat, i < 10 → dwf M (33 + 8 * i)) ∧ ∀ i, 0 ≤ i → i < M 31 2 → drep M (33 + 8 * hix (M 31 1) i) (H (M 31 2 - 1 - i)) ∧ dvl (H (M 31 2 - 1 - i))
theorem hix_lt {t i : Int} : hix t i < 10 := by unfold hix; omega
theorem rh_0 : pj_rf 31 0 = 32 := by decide
theorem t_pushH {M : pj_M} {d : Nat} {D : Int → Int} {H H' : Int → Int → Int} {Q : pj_M → Prop} (hd : d = 13 ∨ d = 21) (h : hst M H) (r : drep M d D) (v : dvl D)
    (hH : ∀ i, 0 ≤ i → i < min (M 31 2 + 1) 10 → H' i = if i = min (M 31 2 + 1) 10 - 1 then D else if M 31 2 < 10 then H i else H (i + 1))
    (q : ∀ M', (∀ a, a < 31 ∨ 112 < a → M' a = M a) → hst M' H' → M' 31 2 = min (M 31 2 + 1) 10 → Q M') : w_X6_push 31 d M Q := by
  obtain ⟨ht, hs, hw, hr⟩ := h
  obtain ⟨t, ht1⟩ : ∃ t : Nat, M 31 1 = (t : Int) := ⟨(M 31 1).toNat, by omega⟩
  have hdc := dcell_h t (by omega)
  have hdd : dcell d := by rcases hd with h | h <;> rw [h]; exact dcell_13; exact dcell_21
  unfold w_X6_push
  rw [rh_0, ht1, Int.toNat_natCast, hdc.2]
  refine ⟨⟨by omega, by omega⟩, t_copyFromD hdc.1 hdd (by omega) (hw t (by omega)) r v (fun M1 e1 r1 => ?_)⟩
  have e31 : M1 31 = M 31 := e1.row (by omega)
  rw [e31, ht1, pd_rem ⟨by omega, by omega⟩ ⟨by decide, by decide⟩]
  rintro M2 rfl
  rw [pu_nk (show (2 : Int) ≠ 1 by decide), e31]
  refine t_min ⟨by omega, by omega⟩ ⟨by decide, by decide⟩ (fun z hz z1 z2 => ?_)
  have hz' : z = min (M 31 2 + 1) 10 := by omega
  rintro M3 rfl
  generalize hM3 : pj_up (pj_up M1 31 1 (((t : Int) + 1) % 10)) 31 2 z = M3
  have row : ∀ a, a ≠ 31 → M3 a = M1 a := fun a ha => by rw [← hM3, pu_row ha, pu_row ha]
  have m1 : M3 31 1 = ((t : Int) + 1) % 10 := by rw [← hM3, pu_nk (by decide), pu_eq]
  have m2 : M3 31 2 = z := by rw [← hM3, pu_eq]
  refine q M3 (fun a ha => ?_) ⟨by rw [m1]; omega, by rw [m2]; omega, fun i hi => ?_, fun i i1 i2 => ?_⟩ (by rw [m2]; exact hz')
  · rw [row a (by omega)]; exact e1.row (by omega)
  · by_cases e : i = t
    · subst e; exact r1.wf.eq (fun a a1 a2 => row a (by omega))
    · exact (hw i hi).eq (fun a a1 a2 => by rw [row a (by omega)]; exact e1.row (by omega))
  · rw [m2] at i2 ⊢
    rw [m1]
    have hHi := hH (z - 1 - i) (by omega) (by omega)
    by_cases e : i = 0
    · subst e
      rw [if_pos (by omega)] at hHi
      rw [hHi]
      have : hix (((t : Int) + 1) % 10) 0 = t := by unfold hix; omega
      rw [this]
      exact ⟨r1.eq (fun a a1 a2 => row a (by omega)), v⟩
    · rw [if_neg (by omega)] at hHi
      obtain ⟨g1, g2⟩ := hr (i - 1) (by omega) (by omega)
      have hx : hix (((t : Int) + 1) % 10) i = hix (M 31 1) (i - 1) := by unfold hix; omega
      have hlt : hix (M 31 1) (i - 1) < 10 := hix_lt
      have hne : hix (M 31 1) (i - 1) ≠ t := by unfold hix; omega
      rw [hx]
      have hHe : H' (z - 1 - i) = H (M 31 2 - 1 - (i - 1)) := by
        rw [hHi]
        by_cases c : M 31 2 < 10
        · rw [if_pos c]; congr 1; omega
        · rw [if_neg c]; congr 1; omega
      rw [hHe]
      exact ⟨g1.eq (fun a a1 a2 => by rw [row a (by omega)]; exact e1.row (by omega)), g2⟩
theorem t_popH {M : pj_M} {H : Int → Int → Int} {Q : Int → pj_M → Prop} (h : hst M H) (w : dwf M 13)
    (q0 : M 31 2 = 0 → Q 0 M) (q1 : 0 < M 31 2 → ∀ M', (∀ a, a < 13 ∨ (20 < a ∧ a < 31) ∨ 112 < a → M' a = M a) → drep M' 13 (H (M 31 2 - 1)) → dvl (H (M 31 2 - 1)) → hst M' H → M' 31 2 = M 31 2 - 1 → Q 1 M') : w_X6_pop 31 13 M Q := by
  obtain ⟨ht, hs, hw, hr⟩ := h
  unfold w_X6_pop
  refine ⟨⟨by omega, by omega⟩, fun hne => ?_, fun h0 => q0 h0⟩
  rw [pd_rem ⟨by omega, by omega⟩ ⟨by decide, by decide⟩]
  rintro M1 rfl
  have hz := hr 0 (Int.le_refl _) (by omega)
  rw [show M 31 2 - 1 - 0 = M 31 2 - 1 by omega] at hz
  have hlt : hix (M 31 1) 0 < 10 := hix_lt
  have hx : (M 31 1 + 10 - 1) % 10 = (hix (M 31 1) 0 : Int) := by unfold hix; omega
  have hdc := dcell_h (hix (M 31 1) 0) hlt
  rw [pu_eq, rh_0, hx, Int.toNat_natCast, hdc.2]
  generalize hi : hix (M 31 1) 0 = t at *
  have row1 : ∀ a, a ≠ 31 → pj_up M 31 1 (t : Int) a = M a := fun a ha => pu_row ha
  refine ⟨⟨by omega, by omega⟩, t_copyFromD dcell_13 hdc.1 (by omega) (w.eq (fun a a1 a2 => row1 a (by omega))) (hz.1.eq (fun a a1 a2 => row1 a (by omega))) hz.2 (fun M2 e2 r2 => ?_)⟩
  have e31 : M2 31 = pj_up M 31 1 (t : Int) 31 := e2.row (by omega)
  rw [e31, pu_nk (show (2 : Int) ≠ 1 by decide)]
  rintro M3 rfl
  have row : ∀ a, a ≠ 31 → a < 13 ∨ 20 < a → pj_up M2 31 2 (M 31 2 - 1) a = M a := fun a h1 h2 => by rw [pu_row h1, e2.row (by omega), row1 a h1]
  have m1 : pj_up M2 31 2 (M 31 2 - 1) 31 1 = (t : Int) := by rw [pu_nk (by decide), e31, pu_eq]
  refine q1 (by omega) _ (fun a ha => row a (by omega) (by omega)) (r2.eq (fun a a1 a2 => pu_row (by omega))) hz.2 ⟨by rw [m1]; omega, by rw [pu_eq]; omega, fun i hi' => (hw i hi').eq (fun a a1 a2 => row a (by omega) (by omega)), fun i i1 i2 => ?_⟩ pu_eq
  rw [pu_eq] at i2 ⊢
  rw [m1]
  obtain ⟨g1, g2⟩ := hr (i + 1) (by omega) (by omega)
  have hx2 : hix (t : Int) i = hix (M 31 1) (i + 1) := by rw [← hi]; unfold hix; omega
  have hlt2 : hix (M 31 1) (i + 1) < 10 := hix_lt
  rw [hx2, show M 31 2 - 1 - 1 - i = M 31 2 - 1 - (i + 1) by omega]
  exact ⟨g1.eq (fun a a1 a2 => row a (by omega) (by omega)), g2⟩
