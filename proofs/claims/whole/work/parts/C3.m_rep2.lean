section
variable {M : pj_M} {Q : Int → pj_M → Prop}
theorem m_backwards (s : msc M) (v : dvl (M 204)) (q : ∀ r o M', eqm M M' → msc M' → rwm M M' o → s_backwards (M 204) r o → Q r M') : w_X12_backwards 203 M Q := by
  have hn := v.2.2.1
  unfold w_X12_backwards
  rintro M1 rfl
  have v1 : dvl (pj_up M 203 5 0 204) := by rw [z204]; exact v
  rw [rm_0]
  refine t_layAll s.up v1 (fun M2 e2 f2 => ?_)
  rw [z204] at f2
  have ee : eqp M M2 := eqp.z.tr e2
  have m := f2.2.1
  have h14 : M2 203 14 = M 204 73 := f2.1.2.1
  rintro M4 rfl z5 hz5
  rw [pu_nk (by decide), h14] at hz5
  subst hz5
  -- told from the last on
  have fin : ∀ (M5 : pj_M) (a : lP), eqz M2 M5 → mpa M5 a → a.length ≤ 16 → rbk (FD (M 204)) a (M 204 73 + 2) → w_X12_backwards_88 203 Q M5 := by
    intro M5 a e5 r5 hal hr
    unfold w_X12_backwards_88
    rintro M7 rfl z8 hz8
    rw [pu_nk (by decide), r5.1] at hz8
    subst hz8
    unfold w_X12_backwards_100
    refine pj_lp_inv (fun y : Int × pj_M => ∃ k : Nat, y.1 = (k : Int) - 1 ∧ k ≤ a.length ∧ eqt2 M5 y.2 ∧ rwsm y.2 (flt (a.drop k).reverse)) (fun y => (y.1 + 1).toNat) ?_ ((a.length : Int) - 1, _) ⟨a.length, rfl, Nat.le_refl _, eqt2.z, by rw [List.drop_length]; exact rwsm.nil⟩
    rintro ⟨_, M6⟩ ⟨k, h1, hk, e6, r6⟩ P hP
    dsimp only at h1 e6 r6 hP ⊢
    subst h1
    unfold w_X12_backwards_100b
    rw [rm_21]
    refine ⟨⟨by omega, by omega⟩, fun hend => ?_, fun hgo => ?_⟩
    · have hk0 : k = 0 := by omega
      subst hk0
      rw [List.drop_zero] at r6
      rw [e6 203 22 (by decide) (by decide), r5.1]
      exact q _ (some (flt a.reverse)) M6 (((eqm.p ee).tr (eqm.p e5.p)).tr (eqm.t e6)) ((f2.z e5).t e6).1.2.2.2.2.1 r6 ⟨a, hal, hr, rfl, rfl⟩
    · have hkl : k - 1 < a.length := by omega
      have hx := r5.2 (k - 1) a[k - 1] (List.getElem?_eq_getElem hkl)
      have hb := rbk.b a _ (by omega) hr a[k - 1] (List.getElem_mem hkl)
      rw [show 2 * ((k - 1 : Nat) : Int) = 2 * ((k : Int) - 1) by omega] at hx
      have hlen : (flt (a.drop k).reverse).length = 2 * (a.length - k) := by rw [flt_len, List.length_reverse, List.length_drop]
      rw [e6.row (show (216 : Nat) ≠ 206 by decide) (by decide), hx.1]
      refine ⟨⟨by omega, by omega⟩, hb.1, t_tellM r6 (by omega) (fun M7 e7 r7 => ?_)⟩
      rw [(e6.tr e7).row (show (216 : Nat) ≠ 206 by decide) (by decide), hx.2]
      refine ⟨⟨by omega, by omega⟩, hb.2, t_tellM r7 (by rw [List.length_append, hlen]; show 2 * (a.length - k) + 1 < 40; omega) (fun M8 e8 r8 => ?_)⟩
      refine hP ((k : Int) - 1 + (-1), M8) ⟨k - 1, by show (k : Int) - 1 + (-1) = _; omega, by omega, (e6.tr e7).tr e8, ?_⟩ (by show ((k : Int) - 1 + (-1) + 1).toNat < ((k : Int) - 1 + 1).toNat; omega)
      have hd : a.drop (k - 1) = a[k - 1] :: a.drop k := by
        have := List.drop_eq_getElem_cons hkl
        rw [show k - 1 + 1 = k by omega] at this; exact this
      show rwsm M8 (flt (a.drop (k - 1)).reverse)
      rw [hd, List.reverse_cons, flt_app]
      rw [List.append_assoc] at r8
      exact r8
  unfold w_X12_backwards_28
  refine pj_lp_inv (fun y : Int × pj_M => ∃ a : lP, (0 ≤ y.1 ∧ y.1 ≤ M 204 73 + 2) ∧ y.1 + (a.length : Int) ≤ 16 ∧ eqz M2 y.2 ∧ mpa y.2 a ∧ ∀ l, rbk (FD (M 204)) l y.1 → rbk (FD (M 204)) (a ++ l) (M 204 73 + 2)) (fun y => (y.1 + 1).toNat) ?_ (M 204 73 + 2, _) ⟨[], ⟨by show 0 ≤ M 204 73 + 2; omega, Int.le_refl _⟩, by show M 204 73 + 2 + (([] : lP).length : Int) ≤ 16; show M 204 73 + 2 + 0 ≤ 16; omega, eqz.up (Or.inr ⟨rfl, Or.inl rfl⟩), mpa.nil, fun l h => h⟩
  rintro ⟨x, M5⟩ ⟨a, hx, hal, e5, r5, hrest⟩ P hP
  dsimp only at hx hal e5 r5 hrest hP ⊢
  have f5 := f2.z e5
  unfold w_X12_backwards_28b
  refine ⟨⟨by omega, by omega⟩, fun h => by omega, fun _ => ?_⟩
  unfold w_X12_backwards_34
  refine pj_lp_inv (fun y : Int × pj_M => (-1 ≤ y.1 ∧ y.1 ≤ x) ∧ y.2 = M5 ∧ (y.1 < x → FD (M 204) (y.1 + 1) x)) (fun y => (y.1 + 1).toNat) ?_ (x, M5) ⟨⟨by show -1 ≤ x; omega, Int.le_refl _⟩, rfl, fun h => absurd h (Int.lt_irrefl _)⟩
  rintro ⟨i, Mx⟩ ⟨hi, hM, hF⟩ P2 hP2
  dsimp only at hi hM hF hP2 ⊢
  have hM' := hM.symm
  subst hM'
  unfold w_X12_backwards_34b
  refine ⟨⟨by omega, by omega⟩, fun hneg => ?_, fun hpos => t_isF f5 (by omega) hi.2 (by omega) (fun t ht hi' => ⟨in01 ht, fun hz => ?_, fun hne => ?_⟩)⟩
  · unfold w_X12_backwards_53
    refine ⟨⟨by omega, by omega⟩, fun h => by omega, fun _ => ?_⟩
    have h0 : FD (M 204) 0 x := by have := hF (by omega); rw [show i + 1 = 0 by omega] at this; exact this
    have := hrest [] h0
    rw [List.append_nil] at this
    exact fin M5 a e5 r5 (by omega) this
  · have nf : ¬ FD (M 204) i x := fun h => by have := hi'.mpr h; omega
    have hix : i < x := by
      rcases Int.lt_or_le i x with h | h
      · exact h
      · exfalso; have : i = x := by omega
        exact nf (by rw [this]; exact m.1 x hx.1 hx.2)
    unfold w_X12_backwards_53
    refine ⟨⟨by omega, by omega⟩, fun _ => ?_, fun h => by omega⟩
    unfold w_X12_backwards_62
    refine pj_lp_inv (fun y : Int × pj_M => (i ≤ y.1 ∧ y.1 ≤ x) ∧ y.2 = M5 ∧ (i < y.1 → FD (M 204) i (y.1 - 1))) (fun y => (x - y.1).toNat) ?_ (i, M5) ⟨⟨Int.le_refl _, by show i ≤ x; omega⟩, rfl, fun h => absurd h (Int.lt_irrefl _)⟩
    rintro ⟨j, Mx⟩ ⟨hj, hM3, hFj⟩ P3 hP3
    dsimp only at hj hM3 hFj hP3 ⊢
    have hM3' := hM3.symm
    subst hM3'
    unfold w_X12_backwards_62b
    refine t_isF f5 (by omega) hj.1 (by omega) (fun t3 ht3 hi3 => ⟨in01 ht3, fun hz3 => ?_, fun hne3 => ?_⟩)
    · have nfj : ¬ FD (M 204) i j := fun h => by have := hi3.mpr h; omega
      have hij : i < j := by
        rcases Int.lt_or_le i j with h | h
        · exact h
        · exfalso; have : i = j := by omega
          exact nfj (by rw [← this]; exact m.1 i (by omega) (by omega))
      refine t_put r5 (by omega) (fun M6 e6 r6 => ?_)
      refine hP (i, M6) ⟨a ++ [(i, j)], ⟨by show 0 ≤ i; omega, by show i ≤ M 204 73 + 2; omega⟩, ?_, e5.tr e6, r6, fun l hl => ?_⟩ (by show (i + 1).toNat < (x + 1).toNat; omega)
      · show i + ((a ++ [(i, j)]).length : Int) ≤ 16
        rw [List.length_append]; show i + ((a.length + 1 : Nat) : Int) ≤ 16; omega
      · rw [List.append_assoc]
        exact hrest _ ⟨⟨by omega, hix, nf, hF hix⟩, ⟨hij, hj.2, nfj, hFj hij⟩, hl⟩
    · have yf := hi3.mp (by omega)
      have hjx : j < x := by
        rcases Int.lt_or_le j x with h | h
        · exact h
        · exfalso; have : j = x := by omega
          rw [this] at yf; exact nf yf
      refine hP3 (j + 1, M5) ⟨⟨by show i ≤ j + 1; omega, by show j + 1 ≤ x; omega⟩, rfl, fun _ => ?_⟩ (by show (x - (j + 1)).toNat < (x - j).toNat; omega)
      show FD (M 204) i (j + 1 - 1)
      rw [show j + 1 - 1 = j by omega]; exact yf
  · refine hP2 (i + (-1), M5) ⟨⟨by show -1 ≤ i + (-1); omega, by show i + (-1) ≤ x; omega⟩, rfl, fun _ => ?_⟩ (by show (i + (-1) + 1).toNat < (i + 1).toNat; omega)
    show FD (M 204) (i + (-1) + 1) x
    rw [show i + (-1) + 1 = i by omega]; exact hi'.mp (by omega)
theorem m_least (s : msc M) (v : dvl (M 204)) (q : ∀ r o M', eqm M M' → msc M' → rwm M M' o → s_least (M 204) r o → Q r M') : w_X12_least 203 M Q := by
  have hn := v.2.2.1
  unfold w_X12_least
  rintro M1 rfl
  have v1 : dvl (pj_up M 203 5 0 204) := by rw [z204]; exact v
  rw [rm_0]
  refine t_layAll s.up v1 (fun M2 e2 f2 => ?_)
  rw [z204] at f2
  have ee : eqp M M2 := eqp.z.tr e2
  have m := f2.2.1
  have h14 : ∀ M', eqz M2 M' → M' 203 14 = M 204 73 := fun M' e => by rw [e 203 14 (by omega)]; exact f2.1.2.1
  rintro M4 rfl
  unfold w_X12_least_23
  -- of one begin there is at most one
  have one : ∀ x y : Int × Int, lst1 (FD (M 204)) (M 204 73 + 2) x → lst1 (FD (M 204)) (M 204 73 + 2) y → x.1 = y.1 → x = y := by
    intro x y hx hy e
    have : x.2 = y.2 := by
      apply Int.le_antisymm
      · apply Int.not_lt.mp; intro hlt
        have a := hx.1; have b := hy.1
        exact hy.2.1 (m.2 x.1 (x.2 - 1) y.1 y.2 (by omega) (by omega) (by omega) (by omega) (by omega) hx.2.2.2)
      · apply Int.not_lt.mp; intro hlt
        have a := hx.1; have b := hy.1
        exact hx.2.1 (m.2 y.1 (y.2 - 1) x.1 x.2 (by omega) (by omega) (by omega) (by omega) (by omega) hy.2.2.2)
    exact Prod.ext e this
  refine pj_lp_inv (fun y : Int × pj_M => ∃ a : lP, (0 ≤ y.1 ∧ y.1 ≤ M 204 73 + 3) ∧ (a.length : Int) ≤ y.1 ∧ a.length ≤ 16 ∧ eqz M2 y.2 ∧ mpa y.2 a ∧ a.Pairwise (fun a b => a.1 < b.1) ∧ ∀ x, x ∈ a ↔ lst1 (FD (M 204)) (M 204 73 + 2) x ∧ x.1 < y.1) (fun y => (M 204 73 + 3 - y.1).toNat) ?_ (0, _) ⟨[], ⟨Int.le_refl _, by show (0 : Int) ≤ M 204 73 + 3; omega⟩, by show (([] : lP).length : Int) ≤ 0; decide, by decide, eqz.up (Or.inr ⟨rfl, Or.inl rfl⟩), mpa.nil, List.Pairwise.nil, fun x => ⟨fun h => absurd h List.not_mem_nil, fun h => by
    have h1 := h.1.1
    have h2 : x.1 < 0 := h.2
    omega⟩⟩
  rintro ⟨i, M5⟩ ⟨a, hi, hal, ha16, e5, r5, hs, hm⟩ P hP
  dsimp only at hi hal e5 r5 hm hP ⊢
  unfold w_X12_least_23b
  rw [h14 M5 e5]
  refine ⟨⟨by omega, by omega⟩, ⟨by omega, by omega⟩, fun hend => ?_, fun hgo => ?_⟩
  · have hls : lsts (FD (M 204)) (M 204 73 + 2) a := ⟨hs, fun x => (hm x).trans ⟨fun h => h.1, fun h => ⟨h, by have := h.1; omega⟩⟩⟩
    refine t_tellPiecesM r5 ha16 (hls.b (by omega)) (fun M6 e6 r6 => ?_)
    rw [e6 203 22 (by decide) (by decide), r5.1]
    exact q _ (some (flt a)) M6 (((eqm.p ee).tr (eqm.p e5.p)).tr (eqm.t e6)) ((f2.z e5).t e6).1.2.2.2.2.1 r6 ⟨a, ha16, hls, rfl, rfl⟩
  · unfold w_X12_least_37
    refine pj_lp_inv (fun y : Int × pj_M => ∃ b : lP, (i < y.1 ∧ y.1 ≤ M 204 73 + 3) ∧ eqz M2 y.2 ∧ mpa y.2 b ∧ b.Pairwise (fun a b => a.1 < b.1) ∧ (b = a ∨ ∃ j, b = a ++ [(i, j)]) ∧ ∀ x, x ∈ b ↔ lst1 (FD (M 204)) (M 204 73 + 2) x ∧ (x.1 < i ∨ (x.1 = i ∧ x.2 < y.1))) (fun y => (M 204 73 + 3 - y.1).toNat) ?_ (i + 1, M5) ⟨a, ⟨by show i < i + 1; omega, by show i + 1 ≤ M 204 73 + 3; omega⟩, e5, r5, hs, Or.inl rfl, fun x => (hm x).trans ⟨fun h => ⟨h.1, Or.inl h.2⟩, fun h => ⟨h.1, by
      have h1 := h.1.1
      rcases h.2 with h2 | ⟨h2, h3⟩
      · exact h2
      · have h3' : x.2 < i + 1 := h3
        omega⟩⟩⟩
    rintro ⟨j, M6⟩ ⟨b, hj, e6, r6, hsb, hba, hmb⟩ P2 hP2
    dsimp only at hj e6 r6 hmb hP2 ⊢
    have f6 := f2.z e6
    unfold w_X12_least_37b
    rw [h14 M6 e6]
    have hblen : b.length ≤ a.length + 1 := by
      rcases hba with h | ⟨j, h⟩ <;> rw [h]
      · omega
      · rw [List.length_append]; exact Nat.le_refl _
    refine ⟨⟨by omega, by omega⟩, ⟨by omega, by omega⟩, fun hend => ?_, fun hgo2 => ?_⟩
    · have hb16 : b.length ≤ 16 := by
        rcases hba with h | ⟨jj, h⟩
        · rw [h]; exact ha16
        · have hmem : (i, jj) ∈ b := by rw [h]; exact List.mem_append.mpr (Or.inr (List.mem_singleton.mpr rfl))
          have hx := ((hmb (i, jj)).mp hmem).1.1
          have hx1 : i < jj ∧ jj ≤ M 204 73 + 2 := ⟨hx.2.1, hx.2.2⟩
          omega
      refine hP (i + 1, M6) ⟨b, ⟨by show 0 ≤ i + 1; omega, by show i + 1 ≤ M 204 73 + 3; omega⟩, by show (b.length : Int) ≤ i + 1; omega, hb16, e6, r6, hsb, fun x => (hmb x).trans ⟨fun h => ⟨h.1, by show x.1 < i + 1; rcases h.2 with h2 | h2 <;> omega⟩, fun h => ⟨h.1, ?_⟩⟩⟩ (by show (M 204 73 + 3 - (i + 1)).toNat < (M 204 73 + 3 - i).toNat; omega)
      have h2 : x.1 < i + 1 := h.2
      have h1 := h.1.1
      rcases Int.lt_or_le x.1 i with h3 | h3
      · exact Or.inl h3
      · exact Or.inr ⟨by omega, by omega⟩
    · -- the next end
      have skip : ¬ lst1 (FD (M 204)) (M 204 73 + 2) (i, j) → P2 (j + 1, M6) := by
        intro hno
        refine hP2 (j + 1, M6) ⟨b, ⟨by show i < j + 1; omega, by show j + 1 ≤ M 204 73 + 3; omega⟩, e6, r6, hsb, hba, fun x => (hmb x).trans ⟨fun h => ⟨h.1, by rcases h.2 with h2 | h2; exact Or.inl h2; exact Or.inr ⟨h2.1, by show x.2 < j + 1; omega⟩⟩, fun h => ⟨h.1, ?_⟩⟩⟩ (by show (M 204 73 + 3 - (j + 1)).toNat < (M 204 73 + 3 - j).toNat; omega)
        rcases h.2 with h2 | ⟨h2, h3⟩
        · exact Or.inl h2
        · have h3' : x.2 < j + 1 := h3
          by_cases e : x.2 = j
          · exfalso; apply hno
            have : x = (i, j) := Prod.ext h2 e
            rw [← this]; exact h.1
          · exact Or.inr ⟨h2, by omega⟩
      refine t_isF f6 hi.1 (by omega) (by omega) (fun t ht hi1 => ⟨in01 ht, fun hne => skip (fun h => h.2.1 (hi1.mp (by omega))), fun hz => ?_⟩)
      have n1 : ¬ FD (M 204) i j := fun h => by have := hi1.mpr h; omega
      refine t_isF f6 (by omega) (by omega) (by omega) (fun t2 ht2 hi2 => ⟨in01 ht2, fun hz2 => skip (fun h => by have := hi2.mpr h.2.2.1; omega), fun hne2 => ?_⟩)
      refine t_isF f6 hi.1 (by omega) (by omega) (fun t3 ht3 hi3 => ⟨in01 ht3, fun hz3 => skip (fun h => by have := hi3.mpr h.2.2.2; omega), fun hne3 => ?_⟩)
      have new : lst1 (FD (M 204)) (M 204 73 + 2) (i, j) := ⟨⟨hi.1, by show i < j; omega, by show j ≤ M 204 73 + 2; omega⟩, n1, hi2.mp (by omega), hi3.mp (by omega)⟩
      have hbb : b = a := by
        rcases hba with h | ⟨j', h⟩
        · exact h
        · exfalso
          have hmem : (i, j') ∈ b := by rw [h]; exact List.mem_append.mpr (Or.inr (List.mem_singleton.mpr rfl))
          obtain ⟨h1, h2⟩ := (hmb (i, j')).mp hmem
          have he := one (i, j') (i, j) h1 new rfl
          have : j' = j := by injection he
          rcases h2 with h2 | ⟨_, h2⟩
          · have h2' : i < i := h2; omega
          · have h2' : j' < j := h2; omega
      refine t_put r6 (by omega) (fun M7 e7 r7 => ?_)
      refine hP2 (j + 1, M7) ⟨b ++ [(i, j)], ⟨by show i < j + 1; omega, by show j + 1 ≤ M 204 73 + 3; omega⟩, e6.tr e7, r7, ?_, Or.inr ⟨j, by rw [hbb]⟩, fun x => ?_⟩ (by show (M 204 73 + 3 - (j + 1)).toNat < (M 204 73 + 3 - j).toNat; omega)
      · rw [List.pairwise_append]
        refine ⟨hsb, List.pairwise_singleton .., fun x hx y hy => ?_⟩
        rw [List.mem_singleton] at hy
        subst hy
        rw [hbb] at hx
        exact ((hm x).mp hx).2
      · rw [List.mem_append, List.mem_singleton, hmb]
        constructor
        · rintro (⟨g1, g2⟩ | rfl)
          · refine ⟨g1, ?_⟩
            rcases g2 with g2 | ⟨g2, g3⟩
            · exact Or.inl g2
            · exact Or.inr ⟨g2, by show x.2 < j + 1; omega⟩
          · exact ⟨new, Or.inr ⟨rfl, by show j < j + 1; omega⟩⟩
        · rintro ⟨g1, g2⟩
          rcases g2 with g2 | ⟨g2, g3⟩
          · exact Or.inl ⟨g1, Or.inl g2⟩
          · have g3' : x.2 < j + 1 := g3
            by_cases e : x.2 = j
            · exact Or.inr (Prod.ext g2 e)
            · exact Or.inl ⟨g1, Or.inr ⟨g2, by omega⟩⟩
end
