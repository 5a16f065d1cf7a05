/-- only what the row of tokens makes has changed -/
def eqd (c : Nat) (M M' : pj_M) : Prop := ∀ a x, ¬ (c + 14 ≤ a ∧ a ≤ c + 19) → ¬ (a = c ∧ (x = 11 ∨ x = 12)) → M' a x = M a x
theorem eqd.rf {c : Nat} {M : pj_M} : eqd c M M := fun _ _ _ _ => rfl
theorem eqd.tr {c : Nat} {M M1 M2 : pj_M} (h : eqd c M M1) (h2 : eqd c M1 M2) : eqd c M M2 := fun a x h3 h4 => (h2 a x h3 h4).trans (h a x h3 h4)
theorem eqd.up {c a : Nat} {M : pj_M} {k v : Int} (h : (c + 14 ≤ a ∧ a ≤ c + 19) ∨ (a = c ∧ (k = 11 ∨ k = 12))) : eqd c M (pj_up M a k v) := fun b x h1 h2 => by
  rw [pu_if, if_neg]
  rintro ⟨rfl, rfl⟩
  rcases h with h | h
  · exact h1 h
  · exact h2 h
theorem eqd.row {c a : Nat} {M M' : pj_M} (h : eqd c M M') (h1 : a < c + 14 ∨ c + 19 < a) (h2 : a ≠ c) : M' a = M a := funext fun x => h a x (by omega) (fun e => h2 e.1)
theorem eqd.c {c : Nat} {M M' : pj_M} {x : Int} (h : eqd c M M') (h1 : x ≠ 11) (h2 : x ≠ 12) : M' c x = M c x := h c x (by omega) (fun e => e.2.elim h1 h2)
theorem eqd.w {c : Nat} {M M' : pj_M} (h : eqw c M M') : eqd c M M' := fun a x h1 _ => h a x (by omega)
theorem eqd.v {c : Nat} {M M' : pj_M} (h : eqv c M M') : eqd c M M' := fun a x h1 h2 => h a x (by omega) (by omega) (by omega) (fun e => h2 ⟨e.1, Or.inr e.2⟩)
theorem cok.eqd {c : Nat} {M M' : pj_M} (h : cok M c) (e : eqd c M M') : cok M' c := by
  unfold cok at *
  rw [e.c (show (6 : Int) ≠ 11 by decide) (by decide), e.row (show c + 10 < c + 14 ∨ _ by omega) (by omega), e.row (show c + 11 < c + 14 ∨ _ by omega) (by omega), e.row (show c + 12 < c + 14 ∨ _ by omega) (by omega), e.row (show c + 13 < c + 14 ∨ _ by omega) (by omega)]
  exact h
theorem gc.eqd {c : Nat} {M M' : pj_M} (e : eqd c M M') : gc M' c = gc M c := by
  unfold gc
  rw [e.c (show (6 : Int) ≠ 11 by decide) (by decide), e.row (show c + 10 < c + 14 ∨ _ by omega) (by omega), e.row (show c + 11 < c + 14 ∨ _ by omega) (by omega), e.row (show c + 12 < c + 14 ∨ _ by omega) (by omega)]
theorem cgood.eqd {c : Nat} {M M' : pj_M} (h : cgood M c) (e : eqd c M M') : cgood M' c := by
  unfold cgood cgd at *
  rw [gc.eqd e, e.c (show (6 : Int) ≠ 11 by decide) (by decide), e.row (show c + 6 < c + 14 ∨ _ by omega) (by omega), e.row (show c + 11 < c + 14 ∨ _ by omega) (by omega), e.row (show c + 12 < c + 14 ∨ _ by omega) (by omega)]
  exact h
theorem tkw_congr {M M' : pj_M} {c p q : Nat} (h : ∀ x : Int, 0 ≤ x → x < (q : Int) → M' (c + 14) x = M (c + 14) x) : tkw M' c p q = tkw M c p q := sg_congr fun x h1 h2 => h x (by omega) h2
theorem cx.tr {M M' : pj_M} {c q : Nat} (h : cx M c q) (e : gc M' c = gc M c) (h14 : ∀ x : Int, 0 ≤ x → x < (q : Int) → M' (c + 14) x = M (c + 14) x) (h16 : M' (c + 16) = M (c + 16)) : cx M' c q := by
  intro x p hx
  rw [e, tkw_congr h14, h16]; exact h x p hx
theorem cpx.tr {M M' : pj_M} {c q : Nat} (h : cpx M c q) (e : gc M' c = gc M c) (h14 : ∀ x : Int, 0 ≤ x → x < (q : Int) → M' (c + 14) x = M (c + 14) x) (h17 : M' (c + 17) = M (c + 17)) (h18 : M' (c + 18) = M (c + 18)) (h19 : M' (c + 19) = M (c + 19)) : cpx M' c q := by
  intro x p hx
  rw [e, tkw_congr h14, h17, h18, h19]; exact h x p hx
/-- a chart whose rules are laid is right -/
def cst (M : pj_M) (c : Nat) : Prop := cok M c ∧ ctk M c ∧ csan M c ∧ cgood M c ∧ (∀ q : Nat, (q : Int) ≤ M c 11 → cx M c q) ∧ (-1 ≤ M c 12 ∧ M c 12 ≤ M c 11) ∧ (∀ q : Nat, (q : Int) ≤ M c 12 → cpx M c q)
theorem t_cut {M : pj_M} {c : Nat} {l : Int} {Q : pj_M → Prop} (st : cst M c) (hl : 0 ≤ l ∧ l ≤ 17) (qq : ∀ M', cst M' c → eqd c M M' → M' (c + 14) = M (c + 14) → M' c 11 = min l (M c 11) → M' c 12 = min l (M c 12) → Q M') : w_X0_cut c l M Q := by
  obtain ⟨ok, tk, sn, gd, hx, hp, hpx⟩ := st
  have hc := ok.1
  have h17 := tk.1
  unfold w_X0_cut
  refine ⟨⟨by omega, by omega⟩, ⟨by omega, by omega⟩, fun hlt => ?_, fun hge => qq M ⟨ok, tk, sn, gd, hx, hp, hpx⟩ eqd.rf rfl (by omega) (by omega)⟩
  rintro M3 rfl
  rw [show pj_up M c 11 l c 12 = M c 12 from pu_nk (by decide)]
  refine t_min ⟨by omega, by omega⟩ ⟨by omega, by omega⟩ (fun t5 g1 g2 g3 => ?_)
  rintro M6 rfl
  obtain ⟨ln, hln⟩ : ∃ n : Nat, l = (n : Int) := ⟨_, (Int.toNat_of_nonneg hl.1).symm⟩
  subst hln
  generalize hM6 : pj_up (pj_up M c 11 (ln : Int)) c 12 t5 = M6
  have r6 : ∀ a, a ≠ c → M6 a = M a := fun a h => funext fun x => by rw [← hM6, pu_ne h, pu_ne h]
  have c11 : M6 c 11 = (ln : Int) := by rw [← hM6, pu_nk (by decide), pu_eq]
  have c12 : M6 c 12 = t5 := by rw [← hM6, pu_eq]
  have e6 : eqd c M M6 := by rw [← hM6]; exact (eqd.up (Or.inr ⟨rfl, Or.inl rfl⟩)).tr (eqd.up (Or.inr ⟨rfl, Or.inr rfl⟩))
  unfold w_X0_cut_28
  refine pj_lp_inv (fun y : Int × pj_M => ∃ n : Nat, y.1 = (n : Int) ∧ n ≤ 10 ∧ (∀ a x, a ≠ c + 15 → y.2 a x = M6 a x) ∧ bs18 y.2 (c + 15) ∧ ∀ t : Int, 0 ≤ t → t < 10 → ∀ p, (tbit (y.2 (c + 15) t) p ↔ tbit (M (c + 15) t) p ∧ (t < (n : Int) → p < ln))) (fun y => (10 - y.1).toNat) ?_ (0, M6) ⟨0, rfl, by decide, fun _ _ _ => rfl, fun x => by show 0 ≤ M6 _ x ∧ M6 _ x < _; rw [r6 _ (by omega)]; exact sn.1 x, fun t h1 h2 p => by show tbit (M6 _ t) p ↔ _; rw [r6 _ (by omega)]; exact ⟨fun h => ⟨h, fun h3 => by omega⟩, fun h => h.1⟩⟩
  rintro ⟨x2, M1⟩ ⟨n, e1, a1, a2, a3, a4⟩ P hP
  dsimp only at e1 a2 a3 a4 hP ⊢
  subst e1
  unfold w_X0_cut_28b
  rw [cr_10 hc]
  refine ⟨⟨by omega, by omega⟩, fun h10 => ?_, fun h10 => ⟨⟨by omega, by omega⟩, ⟨by omega, by omega⟩, ?_⟩⟩
  · have row1 : ∀ a, a ≠ c → a ≠ c + 15 → M1 a = M a := fun a h1 h2 => (funext fun x => a2 a x h2 : M1 a = M6 a).trans (r6 a h1)
    have eM : eqd c M M1 := e6.tr (fun a x h1 h2 => a2 a x (by omega))
    have m11 : M1 c 11 = (ln : Int) := (a2 c 11 (by omega)).trans c11
    have m12 : M1 c 12 = t5 := (a2 c 12 (by omega)).trans c12
    refine qq M1 ⟨ok.eqd eM, ?_, ?_, gd.eqd eM, fun q hq => ?_, by omega, fun q hq => ?_⟩ eM (row1 _ (by omega) (by omega)) (by omega) (by omega)
    · refine ⟨by omega, by rw [row1 (c + 14) (by omega) (by omega)]; exact tk.2.1, a3, fun t p h1 h2 => ?_⟩
      rw [a4 t h1 h2, tk.2.2.2 t p h1 h2, m11, row1 (c + 14) (by omega) (by omega)]
      constructor
      · rintro ⟨⟨g1, g2⟩, g3⟩
        exact ⟨by have := g3 (by omega); omega, g2⟩
      · rintro ⟨g1, g2⟩
        exact ⟨⟨by omega, g2⟩, fun _ => by omega⟩
    · obtain ⟨b1, b2, b3, b4, b5⟩ := sn
      refine ⟨a3, fun x => ?_, fun x => ?_, fun x => ?_, fun x => ?_⟩
      · rw [row1 _ (by omega) (by omega)]; exact b2 x
      · rw [row1 _ (by omega) (by omega)]; exact b3 x
      · rw [row1 _ (by omega) (by omega)]; exact b4 x
      · rw [row1 _ (by omega) (by omega)]; exact b5 x
    · exact (hx q (by omega)).tr (gc.eqd eM) (fun x _ _ => by rw [row1 (c + 14) (by omega) (by omega)]) (row1 _ (by omega) (by omega))
    · exact (hpx q (by omega)).tr (gc.eqd eM) (fun x _ _ => by rw [row1 (c + 14) (by omega) (by omega)]) (row1 _ (by omega) (by omega)) (row1 _ (by omega) (by omega)) (row1 _ (by omega) (by omega))
  · rintro M10 rfl
    have hpow : 2 ^ ln ≤ 2 ^ 17 := Nat.pow_le_pow_right (by decide) (by omega)
    have hpos := Nat.two_pow_pos ln
    have hv := a3 (n : Int)
    obtain ⟨v, hv2⟩ : ∃ v : Nat, M1 (c + 15) (n : Int) = (v : Int) := ⟨_, (Int.toNat_of_nonneg hv.1).symm⟩
    rw [hv2] at hv
    rw [hv2, pb_one (by omega), show ((2 ^ ln : Nat) : Int) - 1 = ((2 ^ ln - 1 : Nat) : Int) by omega, pb_and (by omega) (by omega)]
    have hle : v &&& (2 ^ ln - 1) ≤ v := Nat.and_le_left
    refine hP ((n : Int) + 1, _) ⟨n + 1, by show (n : Int) + 1 = _; omega, by omega, fun a x h => by show pj_up M1 (c + 15) _ _ a x = _; rw [pu_ne h]; exact a2 a x h, bs18_up a3 (by omega), fun t h1 h2 p => ?_⟩ (by show (10 - ((n : Int) + 1)).toNat < (10 - (n : Int)).toNat; omega)
    show tbit (pj_up M1 (c + 15) (n : Int) _ (c + 15) t) p ↔ _
    by_cases e : t = (n : Int)
    · subst e
      have h4 := a4 (n : Int) h1 h2 p
      rw [hv2] at h4
      rw [pu_eq]
      unfold tbit at h4 ⊢
      rw [Int.toNat_natCast] at h4 ⊢
      rw [Nat.testBit_and, Nat.testBit_two_pow_sub_one, Bool.and_eq_true, decide_eq_true_iff, h4]
      constructor
      · rintro ⟨⟨g1, g2⟩, g3⟩; exact ⟨g1, fun _ => g3⟩
      · rintro ⟨g1, g2⟩; exact ⟨⟨g1, fun h => by omega⟩, g2 (by omega)⟩
    · rw [pu_nk e, a4 t h1 h2 p]
      constructor
      · rintro ⟨g1, g2⟩; exact ⟨g1, fun h => g2 (by omega)⟩
      · rintro ⟨g1, g2⟩; exact ⟨g1, fun h => g2 (by omega)⟩
theorem t_push {M : pj_M} {c : Nat} {t : Int} {Q : pj_M → Prop} (st : cst M c) (hl : M c 11 < 17) (ht : 0 ≤ t ∧ t ≤ 9) (qq : ∀ M', cst M' c → eqd c M M' → (∀ x, x ≠ M c 11 → M' (c + 14) x = M (c + 14) x) → M' (c + 14) (M c 11) = t → M' c 11 = M c 11 + 1 → M' c 12 = M c 12 → Q M') : w_X0_push c t M Q := by
  obtain ⟨ok, tk, sn, gd, hx, hp, hpx⟩ := st
  have hc := ok.1
  have h17 := tk.1
  obtain ⟨s, hs⟩ : ∃ n : Nat, M c 11 = (n : Int) := ⟨_, (Int.toNat_of_nonneg h17.1).symm⟩
  unfold w_X0_push
  rw [cr_9 hc, cr_10 hc]
  refine ⟨⟨by omega, by omega⟩, fun _ => ⟨⟨by omega, by omega⟩, ?_⟩, fun h => absurd hl h⟩
  rintro M3 rfl
  refine ⟨⟨by omega, by omega⟩, ⟨by omega, by omega⟩, ?_⟩
  rintro M6 rfl M7 rfl
  rw [show pj_up M (c + 14) (M c 11) t c 11 = M c 11 from pu_ne (by omega), show pj_up M (c + 14) (M c 11) t (c + 15) t = M (c + 15) t from pu_ne (by omega)]
  rw [show pj_up (pj_up M (c + 14) (M c 11) t) (c + 15) t (pj_or (M (c + 15) t) (pj_shl 1 (M c 11))) c 11 = M c 11 by rw [pu_ne (by omega), pu_ne (by omega)]]
  have hv := sn.1 t
  obtain ⟨v, hv2⟩ : ∃ v : Nat, M (c + 15) t = (v : Int) := ⟨_, (Int.toNat_of_nonneg hv.1).symm⟩
  rw [hv2] at hv
  have hpow : 2 ^ s ≤ 2 ^ 16 := Nat.pow_le_pow_right (by decide) (by omega)
  rw [hv2, hs, pb_one (by omega), pb_or (by omega) (by omega)]
  have hvs : v ||| 2 ^ s < 262144 := Nat.or_lt_two_pow (n := 18) (show v < 2 ^ 18 by omega) (by omega)
  generalize hM7 : pj_up (pj_up (pj_up M (c + 14) (s : Int) t) (c + 15) t ((v ||| 2 ^ s : Nat) : Int)) c 11 ((s : Int) + 1) = M7
  have r7 : ∀ a, a ≠ c → a ≠ c + 14 → a ≠ c + 15 → M7 a = M a := fun a h1 h2 h3 => funext fun x => by rw [← hM7, pu_ne h1, pu_ne h3, pu_ne h2]
  have c14 : ∀ x, x ≠ (s : Int) → M7 (c + 14) x = M (c + 14) x := fun x h => by rw [← hM7, pu_ne (by omega), pu_ne (by omega), pu_nk h]
  have c14s : M7 (c + 14) (s : Int) = t := by rw [← hM7, pu_ne (by omega), pu_ne (by omega), pu_eq]
  have c15 : ∀ x, x ≠ t → M7 (c + 15) x = M (c + 15) x := fun x h => by rw [← hM7, pu_ne (by omega), pu_nk h, pu_ne (by omega)]
  have c15s : M7 (c + 15) t = ((v ||| 2 ^ s : Nat) : Int) := by rw [← hM7, pu_ne (by omega), pu_eq]
  have c11 : M7 c 11 = (s : Int) + 1 := by rw [← hM7, pu_eq]
  have c12 : M7 c 12 = M c 12 := by rw [← hM7, pu_nk (by decide), pu_ne (by omega), pu_ne (by omega)]
  have e7 : eqd c M M7 := by rw [← hM7]; exact ((eqd.up (Or.inl ⟨by omega, by omega⟩)).tr (eqd.up (Or.inl ⟨by omega, by omega⟩))).tr (eqd.up (Or.inr ⟨rfl, Or.inl rfl⟩))
  have b15 : bs18 M7 (c + 15) := fun x => by
    by_cases e : x = t
    · subst e; rw [c15s]; omega
    · rw [c15 x e]; exact sn.1 x
  have tk7 : ctk M7 c := by
    refine ⟨by omega, fun x => ?_, b15, fun u p h1 h2 => ?_⟩
    · by_cases e : x = (s : Int)
      · rw [e, c14s]; omega
      · rw [c14 x e]; exact tk.2.1 x
    · have hold := tk.2.2.2 u p h1 h2
      rw [c11]
      by_cases e : p = s
      · subst e
        rw [c14s]
        by_cases e2 : u = t
        · subst e2
          rw [c15s]
          unfold tbit
          rw [Int.toNat_natCast, pb_set]
          simp; omega
        · rw [c15 u e2, hold]
          constructor
          · rintro ⟨g1, -⟩; omega
          · rintro ⟨-, g2⟩; exact absurd g2.symm e2
      · rw [c14 _ (by omega)]
        have : tbit (M7 (c + 15) u) p ↔ tbit (M (c + 15) u) p := by
          by_cases e2 : u = t
          · subst e2
            rw [c15s, hv2]
            unfold tbit
            rw [Int.toNat_natCast, Int.toNat_natCast, pb_set, Bool.or_eq_true, decide_eq_true_iff]
            exact ⟨fun h => h.resolve_right (fun h => e h.symm), Or.inl⟩
          · rw [c15 u e2]
        rw [this, hold]
        constructor
        · rintro ⟨g1, g2⟩; exact ⟨by omega, g2⟩
        · rintro ⟨g1, g2⟩; exact ⟨by omega, g2⟩
  refine t_fillWhole (q := s + 1) (ok.eqd e7) tk7 (fun x => by rw [r7 _ (by omega) (by omega) (by omega)]; exact sn.2.1 x) (by rw [c11]; omega) (fun q' hq' => (hx q' (by omega)).tr (gc.eqd e7) (fun x g1 g2 => c14 x (by omega)) (r7 _ (by omega) (by omega) (by omega))) (fun M8 g1 g2 g3 => ?_)
  have e8 : eqd c M M8 := e7.tr (eqd.w g1)
  have m11 : M8 c 11 = (s : Int) + 1 := (g1 c 11 (by omega)).trans c11
  have m12 : M8 c 12 = M c 12 := (g1 c 12 (by omega)).trans c12
  have m14 : M8 (c + 14) = M7 (c + 14) := g1.row (by omega)
  refine qq M8 ⟨ok.eqd e8, tk7.eqw g1, ?_, gd.eqd e8, fun q hq => g3 q (by omega), by omega, fun q hq => ?_⟩ e8 (fun x h => by rw [m14]; exact c14 x (by omega)) (by rw [m14]; exact hs ▸ c14s) (by omega) m12
  · obtain ⟨b1, b2, b3, b4, b5⟩ := sn
    refine ⟨fun x => ?_, g2, fun x => ?_, fun x => ?_, fun x => ?_⟩
    · rw [g1.row (show c + 15 ≠ c + 16 by omega)]; exact b15 x
    · rw [g1.row (show c + 17 ≠ c + 16 by omega), r7 _ (by omega) (by omega) (by omega)]; exact b3 x
    · rw [g1.row (show c + 18 ≠ c + 16 by omega), r7 _ (by omega) (by omega) (by omega)]; exact b4 x
    · rw [g1.row (show c + 19 ≠ c + 16 by omega), r7 _ (by omega) (by omega) (by omega)]; exact b5 x
  · exact (hpx q (by omega)).tr (gc.eqd e8) (fun x h1 h2 => by rw [m14]; exact c14 x (by omega)) ((g1.row (by omega)).trans (r7 _ (by omega) (by omega) (by omega))) ((g1.row (by omega)).trans (r7 _ (by omega) (by omega) (by omega))) ((g1.row (by omega)).trans (r7 _ (by omega) (by omega) (by omega)))
theorem t_layC {M : pj_M} {c : Nat} {i t : Int} {Q : pj_M → Prop} (st : cst M c) (hi : 0 ≤ i ∧ i < 17) (hi2 : i ≤ M c 11) (ht : 0 ≤ t ∧ t ≤ 9) (qq : ∀ M', cst M' c → eqd c M M' → i + 1 ≤ M' c 11 → (∀ x, 0 ≤ x → x < i → M' (c + 14) x = M (c + 14) x) → M' (c + 14) i = t → Q M') : w_X0_lay c i t M Q := by
  have hc := st.1.1
  have h17 := st.2.1.1
  have h14 := st.2.1.2.1 i
  have go : w_X0_lay_19 c i t Q M := by
    unfold w_X0_lay_19
    refine t_cut st ⟨by omega, by omega⟩ (fun M1 s1 e1 f1 g1 g2 => t_push s1 (by omega) ht (fun M2 s2 e2 f2 f3 g3 g4 => qq M2 s2 (e1.tr e2) (by omega) (fun x h1 h2 => ?_) ?_))
    · rw [f2 x (by omega), f1]
    · rw [show M1 c 11 = i by omega] at f3; exact f3
  unfold w_X0_lay
  rw [cr_9 hc]
  exact ⟨⟨by omega, by omega⟩, ⟨by omega, by omega⟩, fun _ => go, fun h => ⟨⟨by omega, by omega⟩, ⟨by omega, by omega⟩, ⟨by omega, by omega⟩, fun _ => go, fun h2 => qq M st eqd.rf (by omega) (fun _ _ _ => rfl) h2⟩⟩
