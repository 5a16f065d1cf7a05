theorem pd_bmod {x : Int} (h : 0 ≤ x ∧ x ≤ 2147483647) : x.bmod (2 ^ 32) = x := Int.bmod_eq_of_le (by show -(4294967296 : Int) / 2 ≤ x; omega) (by show x < (4294967296 + 1 : Int) / 2; omega)
theorem pd_div {x y : Int} (hx : 0 ≤ x ∧ x ≤ 2147483647) (hy : 0 < y ∧ y ≤ 2147483647) : pj_div x y = x / y := by
  unfold pj_div
  rw [Int32.toInt_div, pj_toInt ⟨by omega, by omega⟩, pj_toInt ⟨by omega, by omega⟩, Int.tdiv_eq_ediv_of_nonneg hx.1]
  have h1 : 0 ≤ x / y := Int.ediv_nonneg hx.1 (by omega)
  have h2 : x / y ≤ x := Int.ediv_le_self _ hx.1
  exact pd_bmod ⟨h1, by omega⟩
theorem pd_rem {x y : Int} (hx : 0 ≤ x ∧ x ≤ 2147483647) (hy : 0 < y ∧ y ≤ 2147483647) : pj_rem x y = x % y := by
  have hd := pd_div hx hy
  unfold pj_div at hd
  unfold pj_rem
  have h1 : 0 ≤ x / y := Int.ediv_nonneg hx.1 (by omega)
  have h2 : x / y * y ≤ x := Int.ediv_mul_le x (by omega)
  have h3 : 0 ≤ x / y * y := Int.mul_nonneg h1 (by omega)
  have h4 := Int.emod_def x y
  have h5 : y * (x / y) = x / y * y := Int.mul_comm _ _
  rw [Int32.toInt_sub, Int32.toInt_mul, hd, pj_toInt ⟨by omega, by omega⟩, pj_toInt ⟨by omega, by omega⟩, pd_bmod ⟨h3, by omega⟩, pd_bmod ⟨by omega, by omega⟩, h4, h5]
/-- a row is turned round -/
theorem t_turn {M : pj_M} {r : Nat} {n : Nat} {Q : pj_M → Prop} (hr : r = 179 ∨ r = 180) (hn : M 178 2 = (n : Int)) (hn2 : n ≤ 16) (q : ∀ M', (∀ a, a ≠ r → M' a = M a) → (∀ k : Nat, k < n → M' r (k : Int) = M r ((n : Int) - 1 - (k : Int))) → Q M') : w_X8_turn 178 r M Q := by
  have hsh : (((pj_sh r).2 : Nat) : Int) = 16 := by rcases hr with h | h <;> rw [h] <;> decide
  unfold w_X8_turn w_X8_turn_2
  refine pj_lp_inv (fun y : Int × pj_M => ∃ k : Nat, y.1 = (k : Int) ∧ 2 * k ≤ n ∧ (∀ a, a ≠ r → y.2 a = M a) ∧ ∀ t : Nat, t < n → y.2 r (t : Int) = if t < k ∨ n - 1 - t < k then M r ((n : Int) - 1 - (t : Int)) else M r (t : Int)) (fun y => ((n : Int) - 2 * y.1).toNat) ?_ (0, M) ⟨0, rfl, by omega, fun _ _ => rfl, fun t ht => by rw [if_neg (by omega)]⟩
  rintro ⟨_, M1⟩ ⟨k, h1, hk, e1, c1⟩ P hP
  dsimp only at h1 e1 c1 hP ⊢
  subst h1
  unfold w_X8_turn_2b
  have hM : M1 178 = M 178 := e1 178 (by omega)
  rw [hM, hn, hsh, pd_div ⟨by omega, by omega⟩ ⟨by decide, by decide⟩]
  refine ⟨⟨by omega, by omega⟩, ⟨by omega, by omega⟩, fun hend => ?_, fun hend => ?_⟩
  · refine q M1 e1 (fun t ht => ?_)
    rw [c1 t ht]
    by_cases hc : t < k ∨ n - 1 - t < k
    · rw [if_pos hc]
    · rw [if_neg hc]
      congr 1
      omega
  · rintro z3 rfl
    refine ⟨⟨by omega, by omega⟩, ?_⟩
    rintro z5 rfl
    refine ⟨⟨by omega, by omega⟩, ⟨by omega, by omega⟩, ?_⟩
    rintro M8 rfl
    refine ⟨⟨by omega, by omega⟩, ?_⟩
    rintro M10 rfl
    refine hP ((k : Int) + 1, _) ⟨k + 1, by show (k : Int) + 1 = _; omega, by omega, fun a ha => ?_, fun t ht => ?_⟩ (by show ((n : Int) - 2 * ((k : Int) + 1)).toNat < ((n : Int) - 2 * (k : Int)).toNat; omega)
    · show pj_up (pj_up M1 r _ _) r _ _ a = _
      funext y
      rw [pu_ne ha, pu_ne ha, e1 a ha]
    · show pj_up (pj_up M1 r (k : Int) (M1 r ((n : Int) - 1 - (k : Int)))) r ((n : Int) - 1 - (k : Int)) (M1 r (k : Int)) r (t : Int) = _
      have ck := c1 k (by omega)
      rw [if_neg (by omega)] at ck
      have co := c1 (n - 1 - k) (by omega)
      rw [if_neg (by omega), show ((n - 1 - k : Nat) : Int) = (n : Int) - 1 - (k : Int) by omega] at co
      by_cases ea : (t : Int) = (n : Int) - 1 - (k : Int)
      · rw [ea, pu_eq, ck, if_pos (by omega)]
        congr 1
        omega
      · rw [pu_nk ea]
        by_cases eb : t = k
        · subst eb
          rw [pu_eq, co, if_pos (by omega)]
        · rw [pu_nk (by omega), c1 t ht]
          by_cases hc : t < k ∨ n - 1 - t < k
          · rw [if_pos hc, if_pos (by omega)]
          · rw [if_neg hc, if_neg (by omega)]
theorem t_fromRight {M : pj_M} {c : Nat} {n2 : Int} {F : Int → Int → Prop} {Q : pj_M → Prop} (hf : cft M c n2 F) (q : ∀ M' l, eqr M M' → M' 181 = M 181 → M' 182 = M 182 → rpa M' l.reverse → l.length ≤ 16 → rbk F l n2 → Q M') : w_X8_fromRight 178 c M Q := by
  have hff := hf
  obtain ⟨hc, h11, hn, hb, m, ht⟩ := hf
  have hc2 : c = 115 ∨ c = 135 ∨ c = 155 := hc
  unfold w_X8_fromRight
  have z181 : pj_up M 178 2 0 181 = M 181 := pu_row (by decide)
  have z182 : pj_up M 178 2 0 182 = M 182 := pu_row (by decide)
  rintro M0 rfl z2 hz2
  rw [pu_ne (show c ≠ 178 by omega), h11] at hz2
  subst hz2
  unfold w_X8_fromRight_12
  have fin : ∀ M1 a, eqr M M1 → M1 181 = M 181 → M1 182 = M 182 → rpa M1 a → a.length ≤ 16 → rbk F a z2 → w_X8_fromRight_58 178 Q M1 := by
    intro M1 a e1 e181 e182 ra hal hr
    unfold w_X8_fromRight_58
    rw [rr_0, rr_1]
    refine t_turn (Or.inl rfl) ra.1 hal (fun M2 e2 c2 => t_turn (n := a.length) (Or.inr rfl) (by rw [e2 178 (by decide)]; exact ra.1) hal (fun M3 e3 c3 => ?_))
    refine q M3 a (fun b x hb' => ?_) ?_ ?_ ⟨?_, fun k x hk => ?_⟩ hal hr
    · rw [e3 b (by omega), e2 b (by omega)]; exact e1 b x hb'
    · rw [e3 181 (by decide), e2 181 (by decide)]; exact e181
    · rw [e3 182 (by decide), e2 182 (by decide)]; exact e182
    · rw [e3 178 (by decide), e2 178 (by decide), List.length_reverse]; exact ra.1
    · have hk2 : k < a.length := by
        apply Classical.byContradiction; intro hne
        rw [List.getElem?_eq_none (by rw [List.length_reverse]; omega)] at hk; cases hk
      rw [List.getElem?_reverse hk2] at hk
      have := ra.2 _ x hk
      rw [show ((a.length - 1 - k : Nat) : Int) = (a.length : Int) - 1 - (k : Int) by omega] at this
      rw [e3 179 (by decide), c2 k hk2, c3 k hk2, e2 180 (by decide)]
      exact this
  refine pj_lp_inv (fun y : Int × Int × pj_M => ∃ a : lP, y.2.1 = (a.length : Int) ∧ (0 ≤ y.1 ∧ y.1 + (a.length : Int) ≤ 16 ∧ y.1 ≤ z2) ∧ eqr M y.2.2 ∧ y.2.2 181 = M 181 ∧ y.2.2 182 = M 182 ∧ rpa y.2.2 a ∧ ∀ l, rbk F l y.1 → rbk F (a ++ l) z2) (fun y => (16 - y.2.1).toNat) ?_ (z2, 0, _) ⟨[], rfl, ⟨by show (0 : Int) ≤ z2; omega, by show z2 + 0 ≤ 16; omega, Int.le_refl _⟩, eqr.up (by decide), z181, z182, rpa.nil, fun l h => h⟩
  rintro ⟨p, _, M1⟩ ⟨a, h1, hp, e1, e181, e182, ra, hrest⟩ P hP
  dsimp only at h1 hp e1 e181 e182 ra hrest hP ⊢
  subst h1
  unfold w_X8_fromRight_12b
  have h19 : M1 (c + 19) = M (c + 19) := e1.row (by omega)
  refine ⟨⟨by omega, by omega⟩, fun hend => ?_, fun hend => t_leastFitting hc ⟨by omega, by omega⟩ ?_⟩
  · have hp0 : p = 0 := by omega
    subst hp0
    have := hrest [] (m.1 0 (by omega) (by omega))
    rw [List.append_nil] at this
    exact fin M1 a e1 e181 e182 ra (by omega) this
  · rw [h19]
    have hL := hb (108 + p)
    refine ⟨⟨by omega, by omega⟩, fun hle => ?_, fun hgt => t_leastFitting hc ⟨by omega, by omega⟩ ?_⟩
    · have := hrest [] ((ht 0 p (by omega) (by omega) (by omega)).mp hle)
      rw [List.append_nil] at this
      exact fin M1 a e1 e181 e182 ra (by omega) this
    · rw [h19]
      have hFp := (ht p p (by omega) (Int.le_refl _) (by omega)).mpr (m.1 p (by omega) (by omega))
      generalize hi : M (c + 19) (108 + p) - 1 = i at *
      have n1 : ¬ F i p := fun h => by have := (ht i p (by omega) (by omega) (by omega)).mpr h; omega
      have n2' : F (i + 1) p := (ht (i + 1) p (by omega) (by omega) (by omega)).mp (by omega)
      refine t_greatestFitting (hff.eqr e1) ⟨by omega, by omega⟩ (fun j hg => t_addR ra (by omega) (fun M2 e2 g181 g182 r2 => ?_))
      have hjp : j < p := by
        apply Int.not_le.mp; intro hle
        exact n1 ((hg.iff m (by omega) (by omega) (by omega)).mpr hle)
      have hnj : ¬ F i (j + 1) := by
        rcases hg.2.2.2 with h | h
        · omega
        · exact h
      refine hP (i, (a.length : Int) + 1, M2) ⟨a ++ [(i, j + 1)], ?_, ⟨by show 0 ≤ i; omega, ?_, by show i ≤ z2; omega⟩, e1.tr e2, g181.trans e181, g182.trans e182, r2, fun l hl => ?_⟩ (by show (16 - ((a.length : Int) + 1)).toNat < (16 - (a.length : Int)).toNat; omega)
      · show (a.length : Int) + 1 = ((a ++ [(i, j + 1)]).length : Int)
        rw [List.length_append]
        show (a.length : Int) + 1 = ((a.length + 1 : Nat) : Int)
        omega
      · show i + ((a ++ [(i, j + 1)]).length : Int) ≤ 16
        rw [List.length_append]
        show i + ((a.length + 1 : Nat) : Int) ≤ 16
        omega
      · rw [List.append_assoc]
        refine hrest _ ⟨⟨by omega, by omega, n1, n2'⟩, ⟨by have := hg.1; omega, by omega, hnj, ?_⟩, hl⟩
        rw [show j + 1 - 1 = j by omega]; exact hg.2.2.1
