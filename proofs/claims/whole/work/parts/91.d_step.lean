theorem rd_0 : pj_rf 175 0 = 176 := by decide
theorem rd_1 : pj_rf 175 1 = 177 := by decide
/-- the costs that are known -/
def dC (M : pj_M) (x p q : Nat) : Int := M 176 ((((x : Int) * 15) + (q : Int)) * 15 + (p : Int))
def dP (M : pj_M) : kP := fun x p q a => dC M x p q = (a : Int) ∧ a < 1048576
/-- what is behind, of an alternative -/
def bb (W : Nat → Nat) (P : kP) (ss : List Nat) (q : Nat) (B : Int → Int) : Prop := ∀ p : Nat, p ≤ q → (0 ≤ B (p : Int) ∧ B (p : Int) ≤ 1048576) ∧ (B (p : Int) < 1048576 → kq1 W P ss p q (B (p : Int)).toNat) ∧ ∀ a : Nat, kq1 W P ss p q a → B (p : Int) ≤ (a : Int)
def eqb (M M' : pj_M) : Prop := ∀ a x, a ≠ 177 → M' a x = M a x
theorem eqb.rf {M : pj_M} : eqb M M := fun _ _ _ => rfl
theorem eqb.tr {M M1 M2 : pj_M} (h : eqb M M1) (h2 : eqb M1 M2) : eqb M M2 := fun a x h3 => (h2 a x h3).trans (h a x h3)
theorem eqb.up {M : pj_M} {k v : Int} : eqb M (pj_up M 177 k v) := fun _ _ h => pu_ne h
theorem eqb.row {M M' : pj_M} {a : Nat} (h : eqb M M') (h2 : a ≠ 177) : M' a = M a := funext fun x => h a x h2
theorem dC.eqb {M M' : pj_M} (h : eqb M M') (x p q : Nat) : dC M' x p q = dC M x p q := h 176 _ (by decide)
theorem dP.eqb {M M' : pj_M} (h : eqb M M') : dP M' = dP M := by
  funext x p q a; unfold dP; rw [dC.eqb h]
def dcb (M : pj_M) (q : Nat) : Prop := ∀ x p q' : Nat, x < 6 → p ≤ q' → q' ≤ q → 0 ≤ dC M x p q' ∧ dC M x p q' ≤ 1048576
theorem t_stepCapital {M : pj_M} {x q s : Nat} {W : Nat → Nat} {ss : List Nat} {Q : pj_M → Prop} (hx : x < 6) (hs : s = x + 8) (hq : q < 15) (hc : dcb M q) (hB : bb W (dP M) ss q (M 177)) (k : ∀ M', eqb M M' → bb W (dP M) (s :: ss) q (M' 177) → Q M') : w_X2_stepCapital 175 (x : Int) (q : Int) M Q := by
  unfold w_X2_stepCapital w_X2_stepCapital_2
  refine pj_lp_inv (fun y : Int × pj_M => ∃ p : Nat, y.1 = (p : Int) ∧ p ≤ q + 1 ∧ eqb M y.2 ∧ (∀ p' : Nat, p ≤ p' → y.2 177 (p' : Int) = M 177 (p' : Int)) ∧ ∀ p' : Nat, p' < p → (0 ≤ y.2 177 (p' : Int) ∧ y.2 177 (p' : Int) ≤ 1048576) ∧ (y.2 177 (p' : Int) < 1048576 → kq1 W (dP M) (s :: ss) p' q (y.2 177 (p' : Int)).toNat) ∧ ∀ a : Nat, kq1 W (dP M) (s :: ss) p' q a → y.2 177 (p' : Int) ≤ (a : Int)) (fun y => ((q : Int) + 1 - y.1).toNat) ?_ (0, M) ⟨0, rfl, by omega, eqb.rf, fun _ _ => rfl, fun p' h => absurd h (Nat.not_lt_zero _)⟩
  rintro ⟨_, M1⟩ ⟨p, h1, hp, e1, o1, n1⟩ P hP
  dsimp only at h1 e1 o1 n1 hP ⊢
  subst h1
  unfold w_X2_stepCapital_2b
  refine ⟨⟨by omega, by omega⟩, ⟨by omega, by omega⟩, fun h => k M1 e1 (fun p' hp' => n1 p' (by omega)), fun h => ?_⟩
  unfold w_X2_cell w_X2_stepCapital_23
  have hpq : p ≤ q := by omega
  refine pj_lp_inv (fun y : Int × Int × Int × pj_M => ∃ r : Nat, y.2.2.1 = (r : Int) ∧ p ≤ r ∧ r ≤ q + 1 ∧ y.2.1 = ((((x : Int) * 15) + (r : Int)) * 15 + (p : Int)) ∧ y.2.2.2 = M1 ∧ (0 ≤ y.1 ∧ y.1 ≤ 1048576) ∧ (y.1 < 1048576 → ∃ m : Nat, p ≤ m ∧ m < r ∧ y.1 = dC M x p m + M 177 (m : Int)) ∧ ∀ m : Nat, p ≤ m → m < r → y.1 ≤ dC M x p m + M 177 (m : Int)) (fun y => ((q : Int) + 1 - y.2.2.1).toNat) ?_ (1048576, ((((x : Int) * 15) + (p : Int)) * 15 + (p : Int)), (p : Int), M1) ⟨p, rfl, Nat.le_refl _, by omega, rfl, rfl, ⟨by show (0 : Int) ≤ 1048576; decide, Int.le_refl _⟩, fun h => absurd h (Int.lt_irrefl _), fun m h1 h2 => by omega⟩
  rintro ⟨l, _, _, _⟩ ⟨r, h2, hr1, hr2, h3, h4, hl, ls, lc⟩ P' hP'
  dsimp only at h2 h3 h4 hl ls lc hP' ⊢
  subst h2 h3
  have h4' := h4.symm
  subst h4'
  unfold w_X2_stepCapital_23b
  rw [rd_0, rd_1]
  refine ⟨⟨by omega, by omega⟩, ⟨by omega, by omega⟩, fun h => ⟨⟨by omega, by omega⟩, ?_⟩, fun h => ⟨⟨by omega, by omega⟩, ⟨by omega, by omega⟩, ?_⟩⟩
  · rintro M2 rfl
    have hr : r = q + 1 := by omega
    subst hr
    refine hP ((p : Int) + 1, _) ⟨p + 1, by show (p : Int) + 1 = _; omega, by omega, e1.tr eqb.up, fun p' hp' => ?_, fun p' hp' => ?_⟩ (by show ((q : Int) + 1 - ((p : Int) + 1)).toNat < ((q : Int) + 1 - (p : Int)).toNat; omega)
    · show pj_up M1 177 (p : Int) l 177 (p' : Int) = _
      rw [pu_nk (by omega)]; exact o1 p' (by omega)
    · show (0 ≤ pj_up M1 177 (p : Int) l 177 (p' : Int) ∧ pj_up M1 177 (p : Int) l 177 (p' : Int) ≤ 1048576) ∧ (pj_up M1 177 (p : Int) l 177 (p' : Int) < 1048576 → kq1 W (dP M) (s :: ss) p' q (pj_up M1 177 (p : Int) l 177 (p' : Int)).toNat) ∧ ∀ a : Nat, kq1 W (dP M) (s :: ss) p' q a → pj_up M1 177 (p : Int) l 177 (p' : Int) ≤ (a : Int)
      by_cases e : p' = p
      · subst e
        rw [pu_eq]
        refine ⟨hl, fun hlt => ?_, fun a ha => ?_⟩
        · obtain ⟨m, a1, a2, a3⟩ := ls hlt
          have b1 := hc x p' m hx a1 (by omega)
          have b2 := hB m (by omega)
          refine ⟨m, (dC M x p' m).toNat, (M 177 (m : Int)).toNat, a1, by omega, by omega, Or.inr ⟨by omega, ?_⟩, b2.2.1 (by omega)⟩
          rw [show s - 8 = x by omega]
          exact ⟨by omega, by omega⟩
        · obtain ⟨m, a1, b1, c1, c2, c3, c4, c5⟩ := ha
          rcases c4 with ⟨c4, _⟩ | ⟨c4, c6⟩
          · omega
          · rw [show s - 8 = x by omega] at c6
            have b2 := (hB m (by omega)).2.2 b1 c5
            have b3 := lc m c1 (by omega)
            have b4 := c6.1
            omega
      · rw [pu_nk (by omega)]; exact n1 p' (by omega)
  · rw [o1 r (by omega)]
    have b1 := hc x p r hx hr1 (by omega)
    have b2 := (hB r (by omega)).1
    have hcell : M1 176 ((((x : Int) * 15) + (r : Int)) * 15 + (p : Int)) = dC M x p r := e1 176 _ (by decide)
    rw [hcell]
    refine t_min ⟨by omega, by omega⟩ ⟨by omega, by omega⟩ (fun v hv hv1 hv2 => ?_)
    refine hP' (v, _, (r : Int) + 1, M1) ⟨r + 1, by show (r : Int) + 1 = _; omega, by omega, by omega, ?_, rfl, ⟨by show 0 ≤ v; omega, by show v ≤ 1048576; omega⟩, fun hlt => ?_, fun m m1 m2 => ?_⟩ (by show ((q : Int) + 1 - ((r : Int) + 1)).toNat < ((q : Int) + 1 - (r : Int)).toNat; omega)
    · show ((((x : Int) * 15) + (r : Int)) * 15 + (p : Int)) + 15 = _
      omega
    · have hlt' : v < 1048576 := hlt
      rcases hv with h | h
      · obtain ⟨m, a1, a2, a3⟩ := ls (by omega)
        exact ⟨m, a1, by omega, by show v = _; omega⟩
      · exact ⟨r, hr1, by omega, by show v = _; omega⟩
    · show v ≤ _
      by_cases e : m = r
      · subst e; omega
      · have := lc m m1 (by omega); omega
theorem t_stepSign {M : pj_M} {l q s : Nat} {W : Nat → Nat} {ss : List Nat} {Q : pj_M → Prop} (hl : lcell l) (hl2 : l + 1 < 175) (vl : lvl M l) (hW : ∀ m : Nat, W m = (M (l + 1) (m : Int)).toNat) (hs : s < 8) (hq : q < 15) (hB : bb W (dP M) ss q (M 177)) (k : ∀ M', eqb M M' → bb W (dP M) (s :: ss) q (M' 177) → Q M') : w_X2_stepSign 175 (s : Int) l (q : Int) M Q := by
  unfold w_X2_stepSign w_X2_stepSign_3
  refine pj_lp_inv (fun y : Int × pj_M => ∃ p : Nat, y.1 = (p : Int) ∧ p ≤ q + 1 ∧ eqb M y.2 ∧ (∀ p' : Nat, p ≤ p' → y.2 177 (p' : Int) = M 177 (p' : Int)) ∧ ∀ p' : Nat, p' < p → (0 ≤ y.2 177 (p' : Int) ∧ y.2 177 (p' : Int) ≤ 1048576) ∧ (y.2 177 (p' : Int) < 1048576 → kq1 W (dP M) (s :: ss) p' q (y.2 177 (p' : Int)).toNat) ∧ ∀ a : Nat, kq1 W (dP M) (s :: ss) p' q a → y.2 177 (p' : Int) ≤ (a : Int)) (fun y => ((q : Int) + 1 - y.1).toNat) ?_ (0, M) ⟨0, rfl, by omega, eqb.rf, fun _ _ => rfl, fun p' h => absurd h (Nat.not_lt_zero _)⟩
  rintro ⟨_, M1⟩ ⟨p, h1, hp, e1, o1, n1⟩ P hP
  dsimp only at h1 e1 o1 n1 hP ⊢
  subst h1
  unfold w_X2_stepSign_3b
  refine ⟨⟨by omega, by omega⟩, ⟨by omega, by omega⟩, fun h => k M1 e1 (fun p' hp' => n1 p' (by omega)), fun h => ⟨⟨by omega, by omega⟩, ?_⟩⟩
  have hpq : p ≤ q := by omega
  rw [rd_1, o1 p (Nat.le_refl _)]
  have hBp := hB p hpq
  refine t_min ⟨by decide, by decide⟩ ⟨by omega, by omega⟩ (fun v0 hv0 hv1 hv2 => ?_)
  unfold w_X2_stepSign_34
  -- what a stretch of the line costs
  refine pj_lp_inv (fun y : Int × Int × Int × pj_M => ∃ r : Nat, y.2.2.1 = (r : Int) ∧ p < r ∧ r ≤ q + 1 ∧ y.2.2.2 = M1 ∧ ((y.2.1 = 1 ∧ ∃ m, p ≤ m ∧ m + 1 < r ∧ W m = s) ∨ (y.2.1 = 0 ∧ ∀ m, p ≤ m → m + 1 < r → W m ≠ s)) ∧ (0 ≤ y.1 ∧ y.1 ≤ 1048576) ∧ (y.1 < 1048576 → ∃ m a : Nat, p ≤ m ∧ m < r ∧ kt W s p m a ∧ y.1 = (a : Int) + M 177 (m : Int)) ∧ ∀ m a : Nat, p ≤ m → m < r → kt W s p m a → y.1 ≤ (a : Int) + M 177 (m : Int)) (fun y => ((q : Int) + 1 - y.2.2.1).toNat) ?_ (v0, 0, (p : Int) + 1, M1) ⟨p + 1, by show (p : Int) + 1 = _; omega, by omega, by omega, rfl, Or.inr ⟨rfl, fun m h1 h2 => by omega⟩, ⟨by show 0 ≤ v0; omega, by show v0 ≤ 1048576; omega⟩, fun h => ⟨p, 1, Nat.le_refl _, by omega, ⟨Nat.le_refl _, Or.inl ⟨rfl, rfl⟩⟩, by show v0 = _; have h' : v0 < 1048576 := h; omega⟩, fun m a h1 h2 h3 => ?_⟩
  · rintro ⟨l0, sp, _, _⟩ ⟨r, h2, hr1, hr2, h4, hsp, hl0, ls, lc⟩ P' hP'
    dsimp only at h2 h4 hsp hl0 ls lc hP' ⊢
    subst h2
    have h4' := h4.symm
    subst h4'
    have hsp01 : sp = 1 ∨ sp = 0 := hsp.elim (fun h => Or.inl h.1) (fun h => Or.inr h.1)
    have hspw := fun _ : Unit => hsp
    clear hsp
    unfold w_X2_stepSign_34b
    rw [rd_1, hl, e1.row (show l + 1 ≠ 177 by omega)]
    refine ⟨⟨by omega, by omega⟩, ⟨by omega, by omega⟩, fun h => ⟨⟨by omega, by omega⟩, ?_⟩, fun h => ⟨⟨by omega, by omega⟩, ?_, ⟨by omega, by omega⟩, ?_, ?_⟩⟩
    · rintro M2 rfl
      have hr : r = q + 1 := by omega
      subst hr
      refine hP ((p : Int) + 1, _) ⟨p + 1, by show (p : Int) + 1 = _; omega, by omega, e1.tr eqb.up, fun p' hp' => ?_, fun p' hp' => ?_⟩ (by show ((q : Int) + 1 - ((p : Int) + 1)).toNat < ((q : Int) + 1 - (p : Int)).toNat; omega)
      · show pj_up M1 177 (p : Int) l0 177 (p' : Int) = _
        rw [pu_nk (by omega)]; exact o1 p' (by omega)
      · show (0 ≤ pj_up M1 177 (p : Int) l0 177 (p' : Int) ∧ pj_up M1 177 (p : Int) l0 177 (p' : Int) ≤ 1048576) ∧ (pj_up M1 177 (p : Int) l0 177 (p' : Int) < 1048576 → kq1 W (dP M) (s :: ss) p' q (pj_up M1 177 (p : Int) l0 177 (p' : Int)).toNat) ∧ ∀ a : Nat, kq1 W (dP M) (s :: ss) p' q a → pj_up M1 177 (p : Int) l0 177 (p' : Int) ≤ (a : Int)
        by_cases e : p' = p
        · subst e
          rw [pu_eq]
          refine ⟨hl0, fun hlt => ?_, fun a ha => ?_⟩
          · obtain ⟨m, a, a1, a2, a3, a4⟩ := ls hlt
            have b2 := hB m (by omega)
            exact ⟨m, a, (M 177 (m : Int)).toNat, a1, by omega, by omega, Or.inl ⟨hs, a3⟩, b2.2.1 (by omega)⟩
          · obtain ⟨m, a1, b1, c1, c2, c3, c4, c5⟩ := ha
            rcases c4 with ⟨c4, c6⟩ | ⟨c4, c6⟩
            · have b2 := (hB m (by omega)).2.2 b1 c5
              have b3 := lc m a1 c1 (by omega) c6
              omega
            · omega
        · rw [pu_nk (by omega)]; exact n1 p' (by omega)
    · have := vl.2 ((r : Int) - 1); exact ⟨by omega, by omega⟩
    · intro hne
      have hWr : W (r - 1) ≠ s := by
        rw [hW, show (((r - 1 : Nat) : Int)) = (r : Int) - 1 by omega]
        have := vl.2 ((r : Int) - 1)
        omega
      unfold w_X2_stepSign_56
      rw [rd_1, o1 r (by omega)]
      have b2 := (hB r (by omega)).1
      refine ⟨⟨by omega, by omega⟩, t_min ⟨by omega, by omega⟩ ⟨by omega, by omega⟩ (fun v hv hv1 hv2 => ?_)⟩
      have hkt : ∀ a : Nat, kt W s p r a ↔ (a : Int) = (r : Int) - (p : Int) - sp := by
        intro a
        unfold kt
        rcases hspw () with ⟨h5, m, m1, m2, m3⟩ | ⟨h5, h6⟩
        · constructor
          · rintro ⟨_, ⟨h7, _⟩ | ⟨_, _, h7⟩ | ⟨_, h7, _⟩⟩
            · omega
            · omega
            · exact absurd m3 (h7 m m1 (by omega))
          · intro h7
            exact ⟨by omega, Or.inr (Or.inl ⟨by omega, ⟨m, m1, by omega, m3⟩, by omega⟩)⟩
        · have hno : ∀ m, p ≤ m → m < r → W m ≠ s := fun m m1 m2 => by
            by_cases e : m = r - 1
            · rw [e]; exact hWr
            · exact h6 m m1 (by omega)
          constructor
          · rintro ⟨_, ⟨h7, _⟩ | ⟨_, ⟨m, m1, m2, m3⟩, _⟩ | ⟨_, _, h7⟩⟩
            · omega
            · exact absurd m3 (hno m m1 m2)
            · omega
          · intro h7
            exact ⟨by omega, Or.inr (Or.inr ⟨by omega, hno, by omega⟩)⟩
      refine hP' (v, sp, (r : Int) + 1, M1) ⟨r + 1, by show (r : Int) + 1 = _; omega, by omega, by omega, rfl, ?_, ⟨by show 0 ≤ v; omega, by show v ≤ 1048576; omega⟩, fun hlt => ?_, fun m a m1 m2 m3 => ?_⟩ (by show ((q : Int) + 1 - ((r : Int) + 1)).toNat < ((q : Int) + 1 - (r : Int)).toNat; omega)
      · show (sp = 1 ∧ ∃ m, p ≤ m ∧ m + 1 < r + 1 ∧ W m = s) ∨ (sp = 0 ∧ ∀ m, p ≤ m → m + 1 < r + 1 → W m ≠ s)
        rcases hspw () with ⟨h5, m, m1, m2, m3⟩ | ⟨h5, h6⟩
        · exact Or.inl ⟨h5, m, m1, by omega, m3⟩
        · refine Or.inr ⟨h5, fun m m1 m2 => ?_⟩
          by_cases e : m = r - 1
          · rw [e]; exact hWr
          · exact h6 m m1 (by omega)
      · have hlt' : v < 1048576 := hlt
        rcases hv with h | h
        · obtain ⟨m, a, a1, a2, a3, a4⟩ := ls (by omega)
          exact ⟨m, a, a1, by omega, a3, by show v = _; omega⟩
        · refine ⟨r, ((r : Int) - (p : Int) - sp).toNat, by omega, by omega, (hkt _).mpr ?_, ?_⟩
          · omega
          · show v = _
            omega
      · show v ≤ _
        by_cases e : m = r
        · subst e; have := (hkt a).mp m3; omega
        · have := lc m a m1 (by omega) m3; omega
    · intro heq
      have hWr : W (r - 1) = s := by
        rw [hW, show (((r - 1 : Nat) : Int)) = (r : Int) - 1 by omega]
        omega
      unfold w_X2_stepSign_56
      rw [rd_1, o1 r (by omega)]
      have b2 := (hB r (by omega)).1
      refine ⟨⟨by omega, by omega⟩, t_min ⟨by omega, by omega⟩ ⟨by omega, by omega⟩ (fun v hv hv1 hv2 => ?_)⟩
      have hkt : ∀ a : Nat, kt W s p r a ↔ (a : Int) = (r : Int) - (p : Int) - 1 := by
        intro a
        unfold kt
        constructor
        · rintro ⟨_, ⟨h7, _⟩ | ⟨_, _, h7⟩ | ⟨_, h7, _⟩⟩
          · omega
          · omega
          · exact absurd hWr (h7 (r - 1) (by omega) (by omega))
        · intro h7
          exact ⟨by omega, Or.inr (Or.inl ⟨by omega, ⟨r - 1, by omega, by omega, hWr⟩, by omega⟩)⟩
      refine hP' (v, 1, (r : Int) + 1, M1) ⟨r + 1, by show (r : Int) + 1 = _; omega, by omega, by omega, rfl, Or.inl ⟨rfl, r - 1, by omega, by omega, hWr⟩, ⟨by show 0 ≤ v; omega, by show v ≤ 1048576; omega⟩, fun hlt => ?_, fun m a m1 m2 m3 => ?_⟩ (by show ((q : Int) + 1 - ((r : Int) + 1)).toNat < ((q : Int) + 1 - (r : Int)).toNat; omega)
      · have hlt' : v < 1048576 := hlt
        rcases hv with h | h
        · obtain ⟨m, a, a1, a2, a3, a4⟩ := ls (by omega)
          exact ⟨m, a, a1, by omega, a3, by show v = _; omega⟩
        · refine ⟨r, ((r : Int) - (p : Int) - 1).toNat, by omega, by omega, (hkt _).mpr ?_, ?_⟩
          · omega
          · show v = _
            omega
      · show v ≤ _
        by_cases e : m = r
        · subst e; have := (hkt a).mp m3; omega
        · have := lc m a m1 (by omega) m3; omega
  · have : m = p := by omega
    subst this
    have ha : a = 1 := by
      rcases h3.2 with h | ⟨h, _⟩ | ⟨h, _⟩
      · exact h.2
      · omega
      · omega
    show v0 ≤ _
    omega
