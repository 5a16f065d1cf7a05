/-- a capital that has a rule -/
def isCp (D : Int → Int) (x : Int) : Prop := 0 ≤ x ∧ x < 6 ∧ ∃ k : Int, 0 ≤ k ∧ k < D 0 ∧ D (1 + 6 * k) = x
theorem t_hasG {M : pj_M} {D : Int → Int} {x : Int} {Q : Int → pj_M → Prop} (h : tld D (M 14 5)) (hx : pj_in x) (q : ∀ r, (r = 0 ∨ r = 1) → (r = 1 ↔ isCp D x) → Q r M) : w_X4_has 14 x M Q := by
  obtain ⟨R, h1, h2, h3⟩ := h
  unfold w_X4_has
  refine ⟨hx, fun h => q 0 (Or.inl rfl) ⟨fun h => by omega, fun h' => by have := h'.1; omega⟩, fun h => ⟨hx, fun h6 => q 0 (Or.inl rfl) ⟨fun h => by omega, fun h' => by have := h'.2.1; omega⟩, fun h6 => ?_⟩⟩
  obtain ⟨y, rfl⟩ : ∃ y : Nat, x = (y : Int) := ⟨x.toNat, by omega⟩
  rw [h1, pb_bit (by omega) (by omega)]
  by_cases e : R.testBit y = true
  · rw [e]
    exact ⟨⟨by decide, by decide⟩, fun h => absurd h (by decide), fun _ => q 1 (Or.inr rfl) ⟨fun _ => ⟨by omega, by omega, (h3 y).mp e⟩, fun _ => rfl⟩⟩
  · rw [if_neg e]
    exact ⟨⟨by decide, by decide⟩, fun _ => q 0 (Or.inl rfl) ⟨fun h => absurd h (by decide), fun h => absurd ((h3 y).mpr h.2.2) e⟩, fun h => absurd rfl h⟩
/-- the tokens of a piece -/
def plD (D : Int → Int) (i j : Int) : List Nat := sg (fr_w (lw D) (D 73)) i j
def hasE (D : Int → Int) (i j : Int) : Prop := i < j ∧ (i = 0 ∨ j = D 73 + 2)
def s_yields (D : Int → Int) (x sort i j r : Int) (o : Option (List Int)) : Prop := o = none ∧ (¬ (0 ≤ sort ∧ sort ≤ 3 ∧ isCp D x ∧ isPc D i j ∧ ¬ hasE D i j) → r = -1) ∧ (0 ≤ sort ∧ sort ≤ 3 ∧ isCp D x ∧ isPc D i j ∧ ¬ hasE D i j → tru (gsort (gr_of D) 8 sort x.toNat (plD D i j)) r)
/-- what may stand behind, or ahead -/
def s_fol (D : Int → Int) (ahead : Prop) (i j r : Int) (o : Option (List Int)) : Prop := (¬ isPc D i j → r = -1 ∧ o = none) ∧ (isPc D i j → (¬ FD D i j → r = -2 ∧ o = none) ∧ (FD D i j → ∃ R : Nat, r = (R : Int) ∧ R < 512 ∧ o = some [(bcn R 9 : Int)] ∧
  (¬ ahead → (i < j ∧ j = D 73 + 2 → R = 0) ∧ (¬ (i < j ∧ j = D 73 + 2) → ∀ s, s < 9 → (R.testBit s = true ↔ fr_in (gr_of D) (D 1).toNat (plD D i j ++ [tkn 9 s])))) ∧
  (ahead → (i < j ∧ i = 0 → R = 0) ∧ (¬ (i < j ∧ i = 0) → ∀ s, s < 9 → (R.testBit s = true ↔ fr_in (gr_of D) (D 1).toNat (tkn 8 s :: plD D i j))))))
theorem bits_eq {R R' n : Nat} (h : R < 2 ^ n) (h' : R' < 2 ^ n) (e : ∀ s, s < n → (R.testBit s = true ↔ R'.testBit s = true)) : R = R' := Nat.eq_of_testBit_eq (fun i => by
  by_cases hi : i < n
  · have := e i hi
    cases h3 : R.testBit i <;> cases h4 : R'.testBit i <;> simp_all
  · rw [Nat.testBit_lt_two_pow (Nat.lt_of_lt_of_le h (Nat.pow_le_pow_right (by decide) (by omega))), Nat.testBit_lt_two_pow (Nat.lt_of_lt_of_le h' (Nat.pow_le_pow_right (by decide) (by omega)))])
theorem s_fol.uniq {D : Int → Int} {ah : Prop} {i j r r' : Int} {o o' : Option (List Int)} (h : s_fol D ah i j r o) (h' : s_fol D ah i j r' o') : r = r' ∧ o = o' := by
  by_cases hp : isPc D i j
  · by_cases hf : FD D i j
    · obtain ⟨R, r1, r2, r3, r4, r5⟩ := (h.2 hp).2 hf
      obtain ⟨R', r1', r2', r3', r4', r5'⟩ := (h'.2 hp).2 hf
      have : R = R' := by
        by_cases ha : ah
        · by_cases he : i < j ∧ i = 0
          · rw [(r5 ha).1 he, (r5' ha).1 he]
          · exact bits_eq (n := 9) r2 r2' (fun s hs => ((r5 ha).2 he s hs).trans ((r5' ha).2 he s hs).symm)
        · by_cases he : i < j ∧ j = D 73 + 2
          · rw [(r4 ha).1 he, (r4' ha).1 he]
          · exact bits_eq (n := 9) r2 r2' (fun s hs => ((r4 ha).2 he s hs).trans ((r4' ha).2 he s hs).symm)
      rw [r1, r1', r3, r3', this]; exact ⟨rfl, rfl⟩
    · obtain ⟨a1, a2⟩ := (h.2 hp).1 hf
      obtain ⟨b1, b2⟩ := (h'.2 hp).1 hf
      exact ⟨a1.trans b1.symm, a2.trans b2.symm⟩
  · obtain ⟨a1, a2⟩ := h.1 hp
    obtain ⟨b1, b2⟩ := h'.1 hp
    exact ⟨a1.trans b1.symm, a2.trans b2.symm⟩
theorem crow_rev {t : Int} {w : Int → Int} {n : Int} {i j : Int} (ht : t ≠ 0) (hi : 0 ≤ i) (hij : i ≤ j) : (sg (crow t w n) i j).reverse = sg (fr_w w n) (n + 2 - j) (n + 2 - i) := by
  apply List.ext_getElem?
  intro s
  by_cases hs : s < (j - i).toNat
  · rw [List.getElem?_reverse (by rw [sg_len]; exact hs), sg_len, sg_get (by omega), sg_get (by omega)]
    unfold crow
    rw [if_neg ht, show n + 1 - (i + (((j - i).toNat - 1 - s : Nat) : Int)) = n + 2 - j + (s : Int) by omega]
  · rw [List.getElem?_eq_none (by rw [List.length_reverse, sg_len]; omega), List.getElem?_eq_none (by rw [sg_len]; omega)]
theorem drep.pl {M : pj_M} {D : Int → Int} (r : drep M 13 D) {i j : Int} (hi : 0 ≤ i) (hj : j ≤ D 73 + 2) : sg (fr_w (M 19) (D 73)) i j = plD D i j := sg_congr (fun p p1 p2 => by
  unfold fr_w
  by_cases a : p = 0
  · rw [if_pos a, if_pos a]
  · rw [if_neg a, if_neg a]
    by_cases b : p = D 73 + 1
    · rw [if_pos b, if_pos b]
    · rw [if_neg b, if_neg b]; exact r.2.1.2.2 (p - 1) (by omega) (by omega))
section
variable {M : pj_M} {D : Int → Int} {Q : Int → pj_M → Prop}
theorem o_yields {x sort i j : Int} (s : csc M) (r : drep M 13 D) (v : dvl D) (hx : pj_in x) (hs : pj_in sort) (hi : pj_in i) (hj : pj_in j) (q : ∀ r o M', eqq M M' → csc M' → rwo M M' o → s_yields D x sort i j r o → Q r M') : w_X11_yields 0 x sort i j M Q := by
  have hn := v.2.2.1
  have h18 : M 18 1 = D 73 := r.2.1.2.1
  have no : ¬ (0 ≤ sort ∧ sort ≤ 3 ∧ isCp D x ∧ isPc D i j ∧ ¬ hasE D i j) → Q (-1) M := fun h => q (-1) none M eqq.rf s ⟨rfl, rfl⟩ ⟨rfl, fun _ => rfl, fun h' => absurd h' h⟩
  unfold w_X11_yields
  rw [rc_2, rk_0]
  refine ⟨hs, fun h => no (fun h' => by have := h'.1; omega), fun h0 => ⟨hs, fun h => no (fun h' => by have := h'.2.1; omega), fun h3 => t_hasG r.1.2.2.2.2 hx (fun t ht hiff => ⟨in01 ht, fun h => no (fun h' => by have := hiff.mpr h'.2.2.1; omega), fun h => ?_⟩)⟩⟩
  have hcp : isCp D x := hiff.mp (by omega)
  refine t_isPiece h18 hn hi hj (fun t2 ht2 hiff2 => ⟨in01 ht2, fun h => no (fun h' => by have := hiff2.mpr h'.2.2.2.1; omega), fun h => ?_⟩)
  have hp : isPc D i j := hiff2.mp (by omega)
  have hp' := hp
  unfold isPc at hp'
  have edge : hasE D i j → Q (-1) M := fun he => no (fun h' => h'.2.2.2.2 he)
  have go : ¬ hasE D i j → w_X11_lineRead 0 M (fun (t13 : Nat) (M12 : pj_M) => w_X0_yieldsPart t13 x sort i j M12 (fun (t15 : Int) (M14 : pj_M) => (pj_in t15) ∧ ((t15 = 0 → Q 0 M14) ∧ (¬ t15 = 0 → Q 1 M14)))) := by
    intro hne
    refine t_lineRead s r v (fun M' e s' rd g st f => ?_)
    obtain ⟨y, rfl⟩ : ∃ y : Nat, x = (y : Int) := ⟨x.toNat, by have := hcp.1; omega⟩
    obtain ⟨a, rfl⟩ : ∃ a : Nat, i = (a : Int) := ⟨i.toNat, by omega⟩
    obtain ⟨b, rfl⟩ : ∃ b : Nat, j = (b : Int) := ⟨j.toNat, by omega⟩
    have hy6 : y < 6 := by have := hcp.2.1; omega
    have h12 := rd.2.2.2.2.1
    refine t_yieldsPart rd.1.2.1 ⟨by omega, by omega⟩ (by omega) (by omega) (by omega) (fun t3 ht3 hiff3 => ?_)
    have pc := post_c s e
    have key : t3 = 1 ↔ gsort (gr_of D) 8 sort y (plD D (a : Int) (b : Int)) := by
      rw [hiff3, gsort_eq (H := gr_of D) (T' := 8) (fun w => by rw [rd.1.y0 rd.2.2.1 hy6, g.y])]
      have : tkw M' 115 a b = plD D (a : Int) (b : Int) := by
        rw [← r.pl (by omega) (by omega)]
        exact sg_congr (fun p p1 p2 => by rw [rd.2.2.2.2.2 p (by omega) (by omega)]; unfold crow; rw [if_pos rfl])
      rw [this]
    have all : 0 ≤ sort ∧ sort ≤ 3 ∧ isCp D (y : Int) ∧ isPc D (a : Int) (b : Int) ∧ ¬ hasE D (a : Int) (b : Int) := ⟨by omega, by omega, hcp, hp, hne⟩
    exact ⟨in01 ht3, fun h => q 0 none M' pc.1 s' pc.2 ⟨rfl, fun h' => absurd all h', fun _ => Or.inr ⟨rfl, fun hf => by rw [Int.toNat_natCast] at hf; have := key.mpr hf; omega⟩⟩, fun h => q 1 none M' pc.1 s' pc.2 ⟨rfl, fun h' => absurd all h', fun _ => Or.inl ⟨rfl, by rw [Int.toNat_natCast]; exact key.mp (by omega)⟩⟩⟩
  unfold w_X11_hasEdge
  rw [rc_2, rk_1, h18]
  refine ⟨hi, hj, fun hle => ⟨⟨by decide, by decide⟩, fun _ => go (fun he => by have := he.1; omega), fun h => absurd rfl h⟩, fun hlt => ⟨hi, fun hz => ⟨⟨by decide, by decide⟩, fun h => absurd h (by decide), fun _ => edge ⟨by omega, Or.inl hz⟩⟩, fun hz => ⟨hj, ⟨by omega, by omega⟩, fun hne => ⟨⟨by decide, by decide⟩, fun _ => go (fun he => by rcases he.2 with h | h <;> omega), fun h => absurd rfl h⟩, fun heq => ⟨⟨by decide, by decide⟩, fun h => absurd h (by decide), fun _ => edge ⟨by omega, Or.inr heq⟩⟩⟩⟩⟩
theorem tell_fol {c : Nat} {t : Int} {M1 : pj_M} {i j i0 j0 edge : Int} (hc : isC c) (ht : t = 0 ∨ t = 1) (he : edge = if t = 0 then 9 else 8) (s1 : csc M1) (r : drep M 13 D) (v : dvl D) (e1 : eqc c M M1) (rd : crd M1 c t (M 19) (D 73)) (g : gr_eq (gof M1 (c + 1)) (gr_of D)) (st : M1 (c + 1) 4 = D 1) (hp : isPc D i0 j0) (hij : t = 0 → i = i0 ∧ j = j0) (hij1 : t = 1 → i = D 73 + 2 - j0 ∧ j = D 73 + 2 - i0)
    (hf : M1 (c + 19) (108 + j) ≤ i ↔ FD D i0 j0) (q : ∀ r o M', eqq M M' → csc M' → rwo M M' o → s_fol D (t = 1) i0 j0 r o → Q r M') : w_X11_tellFollowers 0 c i j edge M1 Q := by
  have hn := v.2.2.1
  have hp' := hp
  unfold isPc at hp'
  have hcc : c = 115 ∨ c = 135 ∨ c = 155 := hc
  have hb := rd.b19 (108 + j)
  have hr : 0 ≤ i ∧ i ≤ j ∧ j ≤ D 73 + 2 := by
    rcases ht with h | h
    · have := hij h; omega
    · have := hij1 h; omega
  unfold w_X11_tellFollowers
  refine t_leastFitting hc ⟨by omega, by omega⟩ ⟨⟨by omega, by omega⟩, ⟨by omega, by omega⟩, fun hle => ?_, fun hgt => ?_⟩
  · obtain ⟨a, rfl⟩ : ∃ a : Nat, i = (a : Int) := ⟨i.toNat, by omega⟩
    obtain ⟨b, rfl⟩ : ∃ b : Nat, j = (b : Int) := ⟨j.toNat, by omega⟩
    have hw : ∀ x, 0 ≤ M 19 x ∧ M 19 x ≤ 7 := r.2.1.1.2
    refine t_followers rd hn ht he hw (by omega) (by omega) (fun R M2 hR e2 k2 hz hbit => t_bits hR ⟨⟨by omega, ?_⟩, t_tellOne (fun M3 e3 hrow => ?_)⟩)
    · have := bcn_le R 9; omega
    · have ec : eqc c M1 M2 := eqc.d e2
      have s2 : csc M2 := s1.c hc ec k2 (by rw [e2.c (by decide) (by decide)]; exact rd.2.1)
      refine q _ (some [(bcn R 9 : Int)]) M3 (((eqq.c hc e1).tr (eqq.c hc ec)).tr (eqq.o e3)) (s2.o e3) hrow ⟨fun h => absurd hp h, fun _ => ⟨fun h => absurd (hf.mp hle) h, fun _ => ⟨R, rfl, hR, rfl, fun h1 => ?_, fun h1 => ?_⟩⟩⟩
      · have h0 : t = 0 := by omega
        obtain ⟨hi, hj⟩ := hij h0
        refine ⟨fun h => hz ⟨by omega, by omega⟩, fun h s hs => ?_⟩
        rw [hbit (by omega) s hs, fr_in_eq g, st, if_pos h0]
        have : sg (crow t (M 19) (D 73)) (a : Int) (b : Int) = plD D i0 j0 := by
          rw [← hi, ← hj, ← r.pl (by omega) (by omega)]
          exact sg_congr (fun p _ _ => by unfold crow; rw [if_pos h0])
        rw [this, he, if_pos h0]
      · obtain ⟨hi, hj⟩ := hij1 h1
        refine ⟨fun h => hz ⟨by omega, by omega⟩, fun h s hs => ?_⟩
        rw [hbit (by omega) s hs, fr_in_eq g, st, if_neg (by omega), List.reverse_append, crow_rev (by omega) (by omega) (by omega)]
        have : sg (fr_w (M 19) (D 73)) (D 73 + 2 - (b : Int)) (D 73 + 2 - (a : Int)) = plD D i0 j0 := by
          rw [← r.pl (by omega) (by omega)]
          congr 1 <;> omega
        rw [this, he, if_neg (by omega)]
        exact Iff.rfl
  · exact q (-2) none M1 (eqq.c hc e1) s1 ⟨e1.row (by omega), by rw [e1.row (show (0 : Nat) < c ∨ _ by omega)]⟩ ⟨fun h => absurd hp h, fun _ => ⟨fun _ => ⟨rfl, rfl⟩, fun h => absurd (hf.mpr h) hgt⟩⟩
theorem o_next {i j : Int} (s : csc M) (r : drep M 13 D) (v : dvl D) (hi : pj_in i) (hj : pj_in j) (q : ∀ r o M', eqq M M' → csc M' → rwo M M' o → s_fol D ((0 : Int) = 1) i j r o → Q r M') : w_X11_next 0 i j M Q := by
  unfold w_X11_next
  have hn := v.2.2.1
  refine t_isPiece r.2.1.2.1 hn hi hj (fun t ht hiff => ⟨in01 ht, fun h => ?_, fun h => ?_⟩)
  · have hp : isPc D i j := hiff.mp (by omega)
    refine t_lineRead s r v (fun M1 e1 s1 rd g st f => ?_)
    exact tell_fol (t := 0) (Or.inl rfl) (Or.inl rfl) rfl s1 r v e1 rd g st hp (fun _ => ⟨rfl, rfl⟩) (fun h => absurd h (by decide)) (f.2.2.2.2.2 i j hp.1 hp.2.1 hp.2.2) q
  · exact q (-1) none M eqq.rf s ⟨rfl, rfl⟩ ⟨fun _ => ⟨rfl, rfl⟩, fun hp => by have := hiff.mpr hp; omega⟩
theorem o_ahead {i j : Int} (s : csc M) (r : drep M 13 D) (v : dvl D) (hi : pj_in i) (hj : pj_in j) (q : ∀ r o M', eqq M M' → csc M' → rwo M M' o → s_fol D ((1 : Int) = 1) i j r o → Q r M') : w_X11_ahead 0 i j M Q := by
  unfold w_X11_ahead
  have hn := v.2.2.1
  refine t_isPiece r.2.1.2.1 hn hi hj (fun t ht hiff => ⟨in01 ht, fun h => ?_, fun h => ?_⟩)
  · have hp : isPc D i j := hiff.mp (by omega)
    have hp' := hp
    unfold isPc at hp'
    rw [rc_2, rk_0, rk_1, rc_10, show M 18 1 = D 73 from r.2.1.2.1]
    rintro z rfl
    refine t_readD (c := 155) (t := 1) (w := lw D) (n := D 73) (Or.inr (Or.inr rfl)) s r v (Or.inl rfl) r.2.1.1 r.2.1.2.1 r.2.1.2.2 (Or.inr rfl) (fun M1 e1 s1 rd g st _ f => ?_)
    have hf := (f rfl).2.2.2.2.2 (D 73 + 2 - j) (D 73 + 2 - i) (by omega) (by omega) (by omega)
    dsimp only at hf
    rw [show D 73 + 2 - (D 73 + 2 - i) = i by omega, show D 73 + 2 - (D 73 + 2 - j) = j by omega] at hf
    exact tell_fol (t := 1) (Or.inr (Or.inr rfl)) (Or.inr rfl) rfl s1 r v e1 rd g st hp (fun h => absurd h (by decide)) (fun _ => ⟨rfl, rfl⟩) hf q
  · exact q (-1) none M eqq.rf s ⟨rfl, rfl⟩ ⟨fun _ => ⟨rfl, rfl⟩, fun hp => by have := hiff.mpr hp; omega⟩
end
