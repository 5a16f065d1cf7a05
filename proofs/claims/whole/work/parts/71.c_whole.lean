theorem pb_andn {a b : Nat} (ha : a < 2147483648) (hb : b < 2147483648) : ∃ v : Nat, pj_and (a : Int) (pj_xor (b : Int) (-1)) = (v : Int) ∧ v ≤ a ∧ ∀ i, v.testBit i = (a.testBit i && !(b.testBit i)) := by
  have e1 : (pj_I (-1)).toBitVec = BitVec.allOnes 32 := by decide
  have e2 : (pj_I (a : Int) &&& pj_I (pj_xor (b : Int) (-1))).toBitVec = (pj_I (a : Int)).toBitVec &&& ~~~(pj_I (b : Int)).toBitVec := by
    unfold pj_xor
    rw [pj_of, Int32.toBitVec_and, Int32.toBitVec_xor, e1, BitVec.xor_allOnes]
  have e3 : ((pj_I (a : Int)).toBitVec &&& ~~~(pj_I (b : Int)).toBitVec).toNat ≤ a := by
    rw [BitVec.toNat_and, pb_tn ha]; exact Nat.and_le_left
  refine ⟨((pj_I (a : Int)).toBitVec &&& ~~~(pj_I (b : Int)).toBitVec).toNat, ?_, e3, fun i => ?_⟩
  · unfold pj_and
    exact pb_int (by rw [e2]) (Nat.lt_of_le_of_lt e3 ha)
  · rw [BitVec.testBit_toNat, BitVec.getLsbD_and, BitVec.getLsbD_not, ← BitVec.testBit_toNat, ← BitVec.testBit_toNat, pb_tn ha, pb_tn hb]
    by_cases hi : i < 32
    · simp [hi]
    · have : a.testBit i = false := Nat.testBit_lt_two_pow (Nat.lt_of_lt_of_le ha (Nat.le_trans (show 2147483648 ≤ 2 ^ 32 by decide) (Nat.pow_le_pow_right (by decide) (by omega))))
      simp [hi, this]
/-- the rules of a chart are sane -/
def cok (M : pj_M) (c : Nat) : Prop := isC c ∧ (0 ≤ M c 6 ∧ M c 6 ≤ 13) ∧ (∀ k, 0 ≤ M (c + 10) k ∧ M (c + 10) k ≤ 6) ∧ (∀ k, 0 ≤ M (c + 11) k ∧ M (c + 11) k ≤ 4) ∧ (∀ x, 0 ≤ M (c + 12) x ∧ M (c + 12) x ≤ 15) ∧ (∀ k, 0 ≤ M (c + 13) k ∧ M (c + 13) k < 64) ∧ (∀ k s, 0 ≤ k → k < M c 6 → 0 ≤ s → s < M (c + 11) k → 10 ≤ M (c + 12) (k * 4 + s) → tbit (M (c + 13) k) (M (c + 12) (k * 4 + s) - 10).toNat)
/-- its tokens, and where they stand -/
def ctk (M : pj_M) (c : Nat) : Prop := (0 ≤ M c 11 ∧ M c 11 ≤ 17) ∧ (∀ x, 0 ≤ M (c + 14) x ∧ M (c + 14) x ≤ 9) ∧ bs18 M (c + 15) ∧ ∀ (t : Int) (p : Nat), 0 ≤ t → t < 10 → (tbit (M (c + 15) t) p ↔ (p : Int) < M c 11 ∧ M (c + 14) (p : Int) = t)
def gc (M : pj_M) (c : Nat) : gr_G := ((M c 6).toNat, fun k => (M (c + 10) (k : Int)).toNat, fun k => sg (fun s => M (c + 12) ((k : Int) * 4 + s)) 0 (M (c + 11) (k : Int)))
abbrev tkw (M : pj_M) (c : Nat) (p q : Nat) : List Nat := sg (M (c + 14)) (p : Int) (q : Int)
/-- only whole has changed -/
def eqw (c : Nat) (M M' : pj_M) : Prop := ∀ a x, a ≠ c + 16 → M' a x = M a x
theorem eqw.rf {c : Nat} {M : pj_M} : eqw c M M := fun _ _ _ => rfl
theorem eqw.tr {c : Nat} {M M1 M2 : pj_M} (h : eqw c M M1) (h2 : eqw c M1 M2) : eqw c M M2 := fun a x h3 => (h2 a x h3).trans (h a x h3)
theorem eqw.up {c : Nat} {M : pj_M} {k v : Int} : eqw c M (pj_up M (c + 16) k v) := fun a x h => pu_ne h
theorem eqw.row {c a : Nat} {M M' : pj_M} (h : eqw c M M') (ha : a ≠ c + 16) : M' a = M a := funext fun x => h a x ha
theorem cok.eqw {c : Nat} {M M' : pj_M} (h : cok M c) (e : eqw c M M') : cok M' c := by
  unfold cok at *
  rw [e.row (show c ≠ c + 16 by omega), e.row (show c + 10 ≠ c + 16 by omega), e.row (show c + 11 ≠ c + 16 by omega), e.row (show c + 12 ≠ c + 16 by omega), e.row (show c + 13 ≠ c + 16 by omega)]
  exact h
theorem ctk.eqw {c : Nat} {M M' : pj_M} (h : ctk M c) (e : eqw c M M') : ctk M' c := by
  unfold ctk bs18 at *
  rw [e.row (show c ≠ c + 16 by omega), e.row (show c + 14 ≠ c + 16 by omega), e.row (show c + 15 ≠ c + 16 by omega)]
  exact h
theorem gc.eqw {c : Nat} {M M' : pj_M} (e : eqw c M M') : gc M' c = gc M c := by
  unfold gc
  rw [e.row (show c ≠ c + 16 by omega), e.row (show c + 10 ≠ c + 16 by omega), e.row (show c + 11 ≠ c + 16 by omega), e.row (show c + 12 ≠ c + 16 by omega)]
theorem cR_empty {M : pj_M} {c : Nat} {k z : Int} {E0 : Nat → Prop} {n : Nat} (h : ∀ p, ¬ cR M c k z E0 n p) : ∀ m, ∀ p, ¬ cR M c k z E0 (n + m) p
  | 0, p => h p
  | m + 1, p => fun ⟨q, _, h2⟩ => cR_empty h m q h2
theorem t_addWhole {M : pj_M} {c q : Nat} {k : Int} {Q : Int → pj_M → Prop} (ok : cok M c) (tk : ctk M c) (hw : bs18 M (c + 16)) (hq : M c 11 = (q : Int)) (hk : 0 ≤ k ∧ k < M c 6)
    (qq : ∀ (r : Int) (B v : Nat), B < 262144 → M (c + 16) (M (c + 10) k * 18 + (q : Int)) = (v : Int) → (∀ p, B.testBit p = true ↔ cR M c k (M (c + 11) k) (fun x => x = q) (M (c + 11) k).toNat p) → (r = 0 ∨ r = 1) → (r = 1 ↔ ∃ p, B.testBit p = true ∧ v.testBit p = false) → Q r (pj_up M (c + 16) (M (c + 10) k * 18 + (q : Int)) ((v ||| B : Nat) : Int))) : w_X0_addWhole c k M Q := by
  have hc := ok.1
  have hR := ok.2.1
  have hq17 : q ≤ 17 := by have := tk.1; omega
  have hz := ok.2.2.2.1 k
  unfold w_X0_addWhole
  rw [cr_3 hc, hq, pb_one (by omega)]
  rintro z1 rfl
  refine ⟨⟨by omega, by omega⟩, ?_⟩
  rintro z3 rfl
  have hpow : 2 ^ q ≤ 2 ^ 17 := Nat.pow_le_pow_right (by decide) hq17
  -- the end, behind all symbols
  have last : ∀ B : Nat, B < 262144 → (∀ p, B.testBit p = true ↔ cR M c k (M (c + 11) k) (fun x => x = q) (M (c + 11) k).toNat p) → w_X0_addWhole_46 c k (B : Int) Q M := by
    intro B hB hbit
    have ho := ok.2.2.1 k
    unfold w_X0_addWhole_46
    rw [cr_2 hc, cr_13 hc, hq]
    refine ⟨⟨by omega, by omega⟩, ?_⟩
    rintro z6 rfl
    have hv := hw (M (c + 10) k * 18 + (q : Int))
    obtain ⟨v, hv2⟩ : ∃ v : Nat, M (c + 16) (M (c + 10) k * 18 + (q : Int)) = (v : Int) := ⟨_, (Int.toNat_of_nonneg hv.1).symm⟩
    rw [hv2] at hv
    obtain ⟨w, hw1, hw2, hw3⟩ := pb_andn (a := B) (b := v) (by omega) (by omega)
    rw [hv2, hw1]
    have fin : ∀ y : Int, (y = 0 ∨ y = 1) → (y = 1 ↔ ∃ p, B.testBit p = true ∧ v.testBit p = false) → w_X0_addWhole_79 c (B : Int) (M (c + 10) k * 18 + (q : Int)) y Q M := by
      intro y hy hyy
      unfold w_X0_addWhole_79
      rw [cr_13 hc, hv2, pb_or (by omega) (by omega)]
      refine ⟨⟨by omega, by omega⟩, ⟨by omega, by omega⟩, ?_⟩
      rintro M9 rfl
      exact ⟨hy, qq y B v hB hv2 hbit hy hyy⟩
    refine ⟨⟨by omega, by omega⟩, ⟨by omega, by omega⟩, fun h0 => fin 0 (Or.inl rfl) ⟨fun h => absurd h (by decide), ?_⟩, fun h0 => fin 1 (Or.inr rfl) ⟨fun _ => ?_, fun _ => rfl⟩⟩
    · rintro ⟨p, h1, h2⟩
      have : w.testBit p = true := by rw [hw3, h1, h2]; rfl
      have hw0 : w = 0 := by omega
      rw [hw0] at this; simp at this
    · have hw0 : w ≠ 0 := by omega
      obtain ⟨p, hp⟩ := Nat.exists_testBit_of_ne_zero hw0
      rw [hw3, Bool.and_eq_true] at hp
      exact ⟨p, hp.1, by simpa using hp.2⟩
  unfold w_X0_addWhole_16
  refine pj_lp_inv (fun y : Int × Int × pj_M => ∃ a n : Nat, y.1 = (a : Int) ∧ y.2.1 = M (c + 11) k - 1 - (n : Int) ∧ (n : Int) ≤ M (c + 11) k ∧ y.2.2 = M ∧ a < 262144 ∧ ∀ p, a.testBit p = true ↔ cR M c k (M (c + 11) k) (fun x => x = q) n p) (fun y => (y.2.1 + 1).toNat) ?_ (((2 ^ q : Nat) : Int), M (c + 11) k - 1, M) ⟨2 ^ q, 0, rfl, by show M (c + 11) k - 1 = _; omega, by show (0 : Int) ≤ _; omega, rfl, by omega, fun p => ?_⟩
  · rintro ⟨x2, x3, M1⟩ ⟨a, n, e1, e2, hn, e3, ha, hbit⟩ P hP
    dsimp only at e1 e2 e3 hP ⊢
    subst e1; subst e2; subst e3
    unfold w_X0_addWhole_16b
    rw [cr_4 hc]
    refine ⟨⟨by omega, by omega⟩, fun h0 => last a ha (fun p => ?_), fun h0 => ⟨⟨by omega, by omega⟩, fun ha0 => last a ha (fun p => ?_), fun ha0 => ⟨⟨by omega, by omega⟩, ?_⟩⟩⟩
    · rw [hbit, show (M1 (c + 11) k).toNat = n by omega]
    · have hemp : ∀ p, ¬ cR M1 c k (M1 (c + 11) k) (fun x => x = q) n p := fun p h => by
        rw [← hbit, show a = 0 by omega] at h; simp at h
      have h2 := cR_empty hemp ((M1 (c + 11) k).toNat - n) p
      rw [show n + ((M1 (c + 11) k).toNat - n) = (M1 (c + 11) k).toNat by omega] at h2
      rw [show a = 0 by omega]
      exact ⟨fun h => by simp at h, fun h => absurd h h2⟩
    · have hsy := ok.2.2.2.2.1 (k * 4 + (M1 (c + 11) k - 1 - (n : Int)))
      refine t_stepBack hc ⟨by omega, by omega⟩ ha hw tk.2.2.1 (fun R hRl hRb => ?_)
      refine hP ((R : Int), M1 (c + 11) k - 1 - (n : Int) + (-1), M1) ⟨R, n + 1, rfl, by show M1 (c + 11) k - 1 - (n : Int) + (-1) = _; omega, by omega, rfl, hRl, fun p => ?_⟩ (by show (M1 (c + 11) k - 1 - (n : Int) + (-1) + 1).toNat < (M1 (c + 11) k - 1 - (n : Int) + 1).toNat; omega)
      rw [hRb]
      constructor
      · rintro ⟨q', h1, h2⟩; exact ⟨q', h2, (hbit q').mp h1⟩
      · rintro ⟨q', h1, h2⟩; exact ⟨q', (hbit q').mpr h2, h1⟩
  · rw [Nat.testBit_two_pow]
    show decide (q = p) = true ↔ p = q
    simp [eq_comm]
