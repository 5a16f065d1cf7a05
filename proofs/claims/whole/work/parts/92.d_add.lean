/-- the symbols of a chart's alternative, as a grammar's -/
def dsy (M : pj_M) (c r : Nat) : Int → Int := fun i => if M (c + 12) ((r : Int) * 4 + i) < 10 then M (c + 12) ((r : Int) * 4 + i) else M (c + 12) ((r : Int) * 4 + i) - 2
def dL (M : pj_M) (c r : Nat) : List Nat := sg (dsy M c r) 0 (M (c + 11) (r : Int))
def eqn (M M' : pj_M) : Prop := ∀ a x, a ≠ 176 → a ≠ 177 → M' a x = M a x
theorem eqn.rf {M : pj_M} : eqn M M := fun _ _ _ _ => rfl
theorem eqn.tr {M M1 M2 : pj_M} (h : eqn M M1) (h2 : eqn M1 M2) : eqn M M2 := fun a x h3 h4 => (h2 a x h3 h4).trans (h a x h3 h4)
theorem eqn.b {M M' : pj_M} (h : eqb M M') : eqn M M' := fun a x _ h3 => h a x h3
theorem eqn.row {M M' : pj_M} {a : Nat} (h : eqn M M') (h2 : a < 176 ∨ 177 < a) : M' a = M a := funext fun x => h a x (by omega) (by omega)
theorem eqn.up {M : pj_M} {k v : Int} : eqn M (pj_up M 176 k v) := fun _ _ h _ => pu_ne h
/-- what an alternative costs, of what is known -/
def dB (W : Nat → Nat) (P : kP) (ss : List Nat) (q : Nat) (B : Int → Int) : Prop := ∀ p : Nat, p ≤ q → (0 ≤ B (p : Int) ∧ B (p : Int) ≤ 1048576) ∧ (B (p : Int) < 1048576 → kq W P ss p q (B (p : Int)).toNat) ∧ ∀ a : Nat, kq W P ss p q a → B (p : Int) ≤ (a : Int)
theorem dix {x p q x' p' q' : Nat} (h1 : p < 15) (h2 : q < 15) (h3 : p' < 15) (h4 : q' < 15) (h : ((((x : Int) * 15) + (q : Int)) * 15 + (p : Int)) = ((((x' : Int) * 15) + (q' : Int)) * 15 + (p' : Int))) : x = x' ∧ p = p' ∧ q = q' := by omega
theorem t_addCosts {M : pj_M} {c l q r o : Nat} {W : Nat → Nat} {Q : Int → pj_M → Prop} (ok : cok M c) (hl : lcell l) (hl2 : l + 1 < 175) (vl : lvl M l) (hW : ∀ m : Nat, W m = (M (l + 1) (m : Int)).toNat) (hq : q < 15) (hr : r < 13) (ho : M (c + 10) (r : Int) = (o : Int)) (ho6 : o < 6)
    (hsy : ∀ i, 0 ≤ i → i < M (c + 11) (r : Int) → M (c + 12) ((r : Int) * 4 + i) < 8 ∨ 10 ≤ M (c + 12) ((r : Int) * 4 + i)) (hcb : dcb M q)
    (k : ∀ (res : Int) (M' : pj_M) (B : Int → Int), (res = 0 ∨ res = 1) → eqn M M' → dB W (dP M) (dL M c r) q B → (∀ x p q' : Nat, p < 15 → q' < 15 → dC M' x p q' = if x = o ∧ q' = q ∧ p ≤ q ∧ B (p : Int) < dC M x p q' then B (p : Int) else dC M x p q') → (res = 0 → ∀ p : Nat, p ≤ q → dC M o p q ≤ B (p : Int)) → Q res M') : w_X2_addCosts 175 c l (r : Int) (q : Int) M Q := by
  have hc := ok.1
  have hc2 : c = 115 ∨ c = 135 ∨ c = 155 := hc
  have hz := ok.2.2.2.1 (r : Int)
  obtain ⟨z, hz1⟩ : ∃ z : Nat, M (c + 11) (r : Int) = (z : Int) := ⟨_, (Int.toNat_of_nonneg hz.1).symm⟩
  rw [hz1] at hz hsy
  -- the last loop: what is less is taken
  have merge : ∀ M1, eqb M M1 → dB W (dP M) (dL M c r) q (M1 177) → w_X2_addCosts_144 175 (q : Int) ((((o : Int) * 15) + (q : Int)) * 15) Q 0 0 M1 := by
    intro M1 e1 hB
    unfold w_X2_addCosts_144
    refine pj_lp_inv (fun y : Int × Int × pj_M => ∃ p : Nat, y.2.1 = (p : Int) ∧ p ≤ q + 1 ∧ (y.1 = 0 ∨ y.1 = 1) ∧ eqn M1 y.2.2 ∧ y.2.2 177 = M1 177 ∧ (∀ x p' q' : Nat, p' < 15 → q' < 15 → dC y.2.2 x p' q' = if x = o ∧ q' = q ∧ p' < p ∧ M1 177 (p' : Int) < dC M x p' q' then M1 177 (p' : Int) else dC M x p' q') ∧ (y.1 = 0 → ∀ p' : Nat, p' < p → dC M o p' q ≤ M1 177 (p' : Int))) (fun y => ((q : Int) + 1 - y.2.1).toNat) ?_ (0, 0, M1) ⟨0, rfl, by omega, Or.inl rfl, eqn.rf, rfl, fun x p' q' _ _ => by
      rw [if_neg (by omega)]; exact dC.eqb e1 x p' q', fun _ p' h => absurd h (Nat.not_lt_zero _)⟩
    rintro ⟨ch, _, M2⟩ ⟨p, h1, hp, hch, e2, h177, hcells, hno⟩ P hP
    dsimp only at h1 hch e2 h177 hcells hno hP ⊢
    subst h1
    unfold w_X2_addCosts_144b
    rw [rd_0, rd_1, h177]
    refine ⟨⟨by omega, by omega⟩, ⟨by omega, by omega⟩, fun h => ⟨hch, ?_⟩, fun h => ⟨⟨by omega, by omega⟩, ⟨by omega, by omega⟩, ?_, ?_, ?_, ?_⟩⟩
    · refine k ch M2 (M1 177) hch ((eqn.b e1).tr e2) hB (fun x p' q' g1 g2 => ?_) (fun h0 p' hp' => hno h0 p' (by omega))
      rw [hcells x p' q' g1 g2]
      by_cases hcond : x = o ∧ q' = q ∧ p' ≤ q ∧ M1 177 (p' : Int) < dC M x p' q'
      · rw [if_pos hcond, if_pos ⟨hcond.1, hcond.2.1, by omega, hcond.2.2.2⟩]
      · rw [if_neg hcond, if_neg (fun h' => hcond ⟨h'.1, h'.2.1, by omega, h'.2.2.2⟩)]
    · have := (hB p (by omega)).1; exact ⟨by omega, by omega⟩
    · have h0 : M2 176 ((((o : Int) * 15) + (q : Int)) * 15 + (p : Int)) = dC M o p q := by
        have := hcells o p q (by omega) (by omega)
        rw [if_neg (by omega)] at this; exact this
      rw [h0]
      have := hcb o p q ho6 (by omega) (Nat.le_refl _); exact ⟨by omega, by omega⟩
    · intro hle
      have h0 : M2 176 ((((o : Int) * 15) + (q : Int)) * 15 + (p : Int)) = dC M o p q := by
        have := hcells o p q (by omega) (by omega)
        rw [if_neg (by omega)] at this; exact this
      rw [h0] at hle
      refine hP (ch, (p : Int) + 1, M2) ⟨p + 1, by show (p : Int) + 1 = _; omega, by omega, hch, e2, h177, fun x p' q' g1 g2 => ?_, fun h0' p' hp' => ?_⟩ (by show ((q : Int) + 1 - ((p : Int) + 1)).toNat < ((q : Int) + 1 - (p : Int)).toNat; omega)
      · show dC M2 x p' q' = _
        rw [hcells x p' q' g1 g2]
        by_cases hcond : x = o ∧ q' = q ∧ p' < p ∧ M1 177 (p' : Int) < dC M x p' q'
        · rw [if_pos hcond, if_pos ⟨hcond.1, hcond.2.1, by omega, hcond.2.2.2⟩]
        · rw [if_neg hcond, if_neg]
          rintro ⟨g3, g4, g5, g6⟩
          by_cases e : p' = p
          · subst e g3 g4; omega
          · exact hcond ⟨g3, g4, by omega, g6⟩
      · by_cases e : p' = p
        · subst e; exact hle
        · exact hno h0' p' (by omega)
    · intro hgt
      refine ⟨⟨by omega, by omega⟩, ⟨by omega, by omega⟩, ?_⟩
      rintro M3 rfl
      have h0 : M2 176 ((((o : Int) * 15) + (q : Int)) * 15 + (p : Int)) = dC M o p q := by
        have := hcells o p q (by omega) (by omega)
        rw [if_neg (by omega)] at this; exact this
      rw [h0] at hgt
      refine hP (1, (p : Int) + 1, _) ⟨p + 1, by show (p : Int) + 1 = _; omega, by omega, Or.inr rfl, e2.tr eqn.up, ?_, fun x p' q' g1 g2 => ?_, fun h0' => absurd h0' (by show ¬ (1 : Int) = 0; decide)⟩ (by show ((q : Int) + 1 - ((p : Int) + 1)).toNat < ((q : Int) + 1 - (p : Int)).toNat; omega)
      · funext y
        show pj_up M2 176 ((((o : Int) * 15) + (q : Int)) * 15 + (p : Int)) (M1 177 (p : Int)) 177 y = _
        rw [pu_ne (by decide), h177]
      · show pj_up M2 176 ((((o : Int) * 15) + (q : Int)) * 15 + (p : Int)) (M1 177 (p : Int)) 176 ((((x : Int) * 15) + (q' : Int)) * 15 + (p' : Int)) = _
        by_cases e : x = o ∧ p' = p ∧ q' = q
        · obtain ⟨rfl, rfl, rfl⟩ := e
          rw [pu_eq, if_pos ⟨rfl, rfl, by omega, by omega⟩]
        · rw [pu_nk (fun h' => e (by obtain ⟨a1, a2, a3⟩ := dix (by omega) (by omega) (by omega) (by omega) h'; exact ⟨a1, a2, a3⟩))]
          show dC M2 x p' q' = _
          rw [hcells x p' q' g1 g2]
          by_cases hcond : x = o ∧ q' = q ∧ p' < p ∧ M1 177 (p' : Int) < dC M x p' q'
          · rw [if_pos hcond, if_pos ⟨hcond.1, hcond.2.1, by omega, hcond.2.2.2⟩]
          · rw [if_neg hcond, if_neg]
            rintro ⟨g3, g4, g5, g6⟩
            exact hcond ⟨g3, g4, by omega, g6⟩
  -- the symbols, from the last on
  have symbols : ∀ M1, eqb M M1 → (z ≠ 0 → bb W (dP M) [] q (M1 177)) → (z = 0 → ∀ p : Nat, p ≤ q → M1 177 (p : Int) = (q : Int) - (p : Int)) → w_X2_addCosts_71 175 c l (r : Int) (q : Int) Q ((z : Int) - 1) M1 := by
    intro M1 e1 hB0 hB1
    unfold w_X2_addCosts_71
    refine pj_lp_inv (fun y : Int × pj_M => ∃ i : Nat, y.1 = (i : Int) - 1 ∧ i ≤ z ∧ eqb M y.2 ∧ (z ≠ 0 → bb W (dP M) (sg (dsy M c r) (i : Int) (z : Int)) q (y.2 177)) ∧ (z = 0 → ∀ p : Nat, p ≤ q → y.2 177 (p : Int) = (q : Int) - (p : Int))) (fun y => (y.1 + 1).toNat) ?_ ((z : Int) - 1, M1) ⟨z, rfl, Nat.le_refl _, e1, fun h => by rw [sg_nil]; exact hB0 h, hB1⟩
    rintro ⟨_, M2⟩ ⟨i, h1, hi, e2, b0, b1⟩ P hP
    dsimp only at h1 e2 b0 b1 hP ⊢
    subst h1
    unfold w_X2_addCosts_71b
    rw [cr_2 hc, cr_4 hc, e2.row (show c + 10 ≠ 177 by omega), e2.row (show c + 12 ≠ 177 by omega), ho]
    refine ⟨⟨by omega, by omega⟩, fun h => ⟨⟨by omega, by omega⟩, ?_⟩, fun h => ⟨⟨by omega, by omega⟩, ?_⟩⟩
    · unfold w_X2_cell
      have hi0 : i = 0 := by omega
      subst hi0
      refine merge M2 e2 (fun p hp => ?_)
      by_cases hz0 : z = 0
      · have hv := b1 hz0 p hp
        have hnil : dL M c r = [] := by unfold dL; rw [hz1, hz0]; exact sg_nil _ _
        rw [hv, hnil]
        refine ⟨⟨by omega, by omega⟩, fun _ => Or.inl ⟨rfl, hp, by omega⟩, fun a ha => ?_⟩
        rcases ha with ⟨_, _, ha⟩ | ⟨ha, _⟩
        · omega
        · exact absurd rfl ha
      · have hb := b0 hz0 p hp
        have hne : dL M c r ≠ [] := by unfold dL; rw [hz1]; exact sg_ne (by omega)
        have hd : dL M c r = sg (dsy M c r) ((0 : Nat) : Int) (z : Int) := by unfold dL; rw [hz1]; rfl
        refine ⟨hb.1, fun hlt => Or.inr ⟨hne, by rw [hd]; exact hb.2.1 hlt⟩, fun a ha => ?_⟩
        rcases ha with ⟨ha, _⟩ | ⟨_, ha⟩
        · exact absurd ha hne
        · rw [hd] at ha; exact hb.2.2 a ha
    · rintro zz hzz
      have hzb := ok.2.2.2.2.1 ((r : Int) * 4 + ((i : Int) - 1))
      have hsz := hsy ((i : Int) - 1) (by omega) (by omega)
      rw [← hzz] at hzb hsz
      have hcons : sg (dsy M c r) ((i : Int) - 1) (z : Int) = (dsy M c r ((i : Int) - 1)).toNat :: sg (dsy M c r) (i : Int) (z : Int) := by
        rw [sg_cons (by omega), show (i : Int) - 1 + 1 = (i : Int) by omega]
      have hcast : ((i - 1 : Nat) : Int) = (i : Int) - 1 := by omega
      have hcb2 : dcb M2 q := fun x p q' g1 g2 g3 => by rw [dC.eqb e2]; exact hcb x p q' g1 g2 g3
      have nxt : ∀ M3, eqb M2 M3 → bb W (dP M2) ((dsy M c r ((i : Int) - 1)).toNat :: sg (dsy M c r) (i : Int) (z : Int)) q (M3 177) → P ((i : Int) - 1 + (-1), M3) := by
        intro M3 e3 hb3
        refine hP ((i : Int) - 1 + (-1), M3) ⟨i - 1, by show (i : Int) - 1 + (-1) = _; omega, by omega, e2.tr e3, fun _ => ?_, fun h0 => by omega⟩ (by show ((i : Int) - 1 + (-1) + 1).toNat < ((i : Int) - 1 + 1).toNat; omega)
        rw [hcast, hcons, ← dP.eqb e2]; exact hb3
      have hb2 : bb W (dP M2) (sg (dsy M c r) (i : Int) (z : Int)) q (M2 177) := by rw [dP.eqb e2]; exact b0 (by omega)
      refine ⟨⟨by omega, by omega⟩, fun hge => ?_, fun hlt => ?_⟩
      · obtain ⟨x, hx⟩ : ∃ x : Nat, zz - 10 = (x : Int) := ⟨(zz - 10).toNat, by omega⟩
        rw [hx]
        refine t_stepCapital (s := x + 8) (by omega) rfl hq hcb2 hb2 (fun M3 e3 hb3 => nxt M3 e3 ?_)
        rw [show (dsy M c r ((i : Int) - 1)).toNat = x + 8 by unfold dsy; rw [← hzz, if_neg (by omega)]; omega]
        exact hb3
      · obtain ⟨x, hx⟩ : ∃ x : Nat, zz = (x : Int) := ⟨zz.toNat, by omega⟩
        have hx8 : x < 8 := by omega
        rw [hx]
        have vl2 : lvl M2 l := by
          refine ⟨?_, ?_⟩
          · rw [e2 l 1 (by omega)]; exact vl.1
          · rw [e2.row (show l + 1 ≠ 177 by omega)]; exact vl.2
        refine t_stepSign hl hl2 vl2 (fun m => by rw [hW, e2.row (show l + 1 ≠ 177 by omega)]) hx8 hq hb2 (fun M3 e3 hb3 => nxt M3 e3 ?_)
        rw [show (dsy M c r ((i : Int) - 1)).toNat = x by unfold dsy; rw [← hzz, if_pos (by omega)]; omega]
        exact hb3
  -- the begin
  have init : ∀ e : Int, (e = 1 ↔ z = 0) → (e = 0 ∨ e = 1) → w_X2_addCosts_14 175 c l (r : Int) (q : Int) e Q M := by
    intro e he he2
    unfold w_X2_addCosts_14 w_X2_addCosts_19
    refine pj_lp_inv (fun y : Int × pj_M => ∃ p : Nat, y.1 = (p : Int) ∧ p ≤ q + 1 ∧ eqb M y.2 ∧ ∀ p' : Nat, p' < p → y.2 177 (p' : Int) = if p' = q ∨ e = 1 then (q : Int) - (p' : Int) else 1048576) (fun y => ((q : Int) + 1 - y.1).toNat) ?_ (0, M) ⟨0, rfl, by omega, eqb.rf, fun p' h => absurd h (Nat.not_lt_zero _)⟩
    rintro ⟨_, M1⟩ ⟨p, h1, hp, e1, b1⟩ P hP
    dsimp only at h1 e1 b1 hP ⊢
    subst h1
    have nxt : ∀ v : Int, v = (if p = q ∨ e = 1 then (q : Int) - (p : Int) else 1048576) → p ≤ q → w_X2_addCosts_54 175 c l (r : Int) (q : Int) e (p : Int) 177 (p : Int) v (fun x6 M => P (x6, M)) Q M1 := by
      intro v hv hpq
      unfold w_X2_addCosts_54
      refine ⟨⟨by omega, by omega⟩, ?_⟩
      rintro M2 rfl
      refine hP ((p : Int) + 1, _) ⟨p + 1, by show (p : Int) + 1 = _; omega, by omega, e1.tr eqb.up, fun p' hp' => ?_⟩ (by show ((q : Int) + 1 - ((p : Int) + 1)).toNat < ((q : Int) + 1 - (p : Int)).toNat; omega)
      show pj_up M1 177 (p : Int) v 177 (p' : Int) = _
      by_cases e' : p' = p
      · subst e'; rw [pu_eq]; exact hv
      · rw [pu_nk (by omega)]; exact b1 p' (by omega)
    unfold w_X2_addCosts_19b
    rw [rd_1, cr_3 hc, e1.row (show c + 11 ≠ 177 by omega), hz1]
    refine ⟨⟨by omega, by omega⟩, ⟨by omega, by omega⟩, fun h => ⟨⟨by omega, by omega⟩, ?_⟩, fun h => ⟨⟨by omega, by omega⟩, ⟨by omega, by omega⟩, fun hpq => ?_, fun hpq => ⟨by rcases he2 with g | g <;> rw [g] <;> exact ⟨by decide, by decide⟩, fun h0 => ?_, fun h0 => ?_⟩⟩⟩
    · rintro z6 rfl
      refine symbols M1 e1 (fun hz0 p' hp' => ?_) (fun hz0 p' hp' => ?_)
      · rw [b1 p' (by omega)]
        have he0 : ¬ e = 1 := fun h => hz0 (he.mp h)
        by_cases hpq : p' = q
        · rw [if_pos (Or.inl hpq)]
          exact ⟨⟨by omega, by omega⟩, fun _ => ⟨hpq, by omega⟩, fun a ha => by omega⟩
        · rw [if_neg (by omega)]
          exact ⟨⟨by decide, by decide⟩, fun h => absurd h (Int.lt_irrefl _), fun a ha => absurd ha.1 hpq⟩
      · rw [b1 p' (by omega), if_pos (Or.inr (he.mpr hz0))]
    · unfold w_X2_addCosts_44
      exact nxt _ (by rw [if_pos (Or.inl (by omega))]) (by omega)
    · exact nxt _ (by rw [if_neg (by omega)]) (by omega)
    · unfold w_X2_addCosts_44
      exact nxt _ (by rw [if_pos (Or.inr (by omega))]) (by omega)
  unfold w_X2_addCosts
  rw [cr_3 hc, hz1]
  exact ⟨⟨by omega, by omega⟩, ⟨by omega, by omega⟩, fun h => init 0 (by omega) (Or.inl rfl), fun h => init 1 (by omega) (Or.inr rfl)⟩
