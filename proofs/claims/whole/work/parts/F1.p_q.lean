theorem CI.lo {M M' : pj_M} {D : Int → Int} {H K : Int → Int → Int} (h : CI M D H K) (e : ∀ a, a < 203 → M' a = M a) : CI M' D H K := by
  obtain ⟨h1, h2, h3, h4, h5, h6, h7, l, h8⟩ := h
  refine ⟨h1.eq (fun a ha => e a (by omega)), ⟨h2.1.eq (fun a a1 a2 => e a (by omega)), h2.2⟩, h3.eq (fun a a1 a2 => e a (by omega)), h4.eq (fun a a1 a2 => e a (by omega)), kpt.eq h5 (fun a a1 a2 => e a (by omega)) (e 114 (by decide)), by rw [e 1 (by decide), e 2 (by decide)]; exact h6, h7.eq (fun a a1 a2 => e a (by omega)), l, h8.eq (e 186 (by decide)) (by rw [e 0 (by decide)])⟩
theorem CI.cg {M : pj_M} {D D' : Int → Int} {H H' K K' : Int → Int → Int} (h : CI M D H K) (hD : ∀ x, 0 ≤ x → x < 95 → D' x = D x) (hH : ∀ i, 0 ≤ i → i < M 31 2 → ∀ x, 0 ≤ x → x < 95 → H' i x = H i x) (hK : ∀ i : Nat, i < 2 → M 114 (i : Int) = 1 → ∀ x, 0 ≤ x → x < 95 → K' (i : Int) x = K (i : Int) x) : CI M D' H' K' := by
  obtain ⟨h1, h2, h3, h4, h5, h6, h7, h8⟩ := h
  refine ⟨h1, ⟨h2.1.congr hD h2.2, dvl_eq0 hD h2.2⟩, h3, ⟨h4.1, h4.2.1, h4.2.2.1, fun i i1 i2 => ?_⟩, ⟨h5.1, fun i hi => ⟨(h5.2 i hi).1, fun hk => ?_⟩⟩, h6, h7, h8⟩
  · obtain ⟨g1, g2⟩ := h4.2.2.2 i i1 i2
    have e := hH (M 31 2 - 1 - i) (by omega) (by omega)
    exact ⟨g1.congr e g2, dvl_eq0 e g2⟩
  · obtain ⟨g1, g2⟩ := (h5.2 i hi).2 hk
    have e := hK i hi hk
    exact ⟨g1.congr e g2, dvl_eq0 e g2⟩
/-- class and model are in the same state -/
def INV (M : pj_M) : Prop := CI M (M 204) (fun i x => M 225 (95 * i + x)) (fun i x => M 222 (95 * i + x)) ∧ msc M ∧ (M 203 2 = M 1 1 ∧ (∀ x, -128 ≤ M 205 x ∧ M 205 x ≤ 127) ∧ ∀ k, 0 ≤ k → k < M 1 1 → M 2 k = pj_and (M 205 k) 255) ∧ M 203 34 = M 31 2 ∧ (∀ x, M 223 x = M 114 x) ∧ ∃ l, rws M l ∧ rwsm M l
section
variable {M : pj_M}
theorem INV.cs (h : INV M) : csc M := h.1.1
theorem INV.dr (h : INV M) : drep M 13 (M 204) := h.1.2.1.1
theorem INV.v (h : INV M) : dvl (M 204) := h.1.2.1.2
theorem INV.m (h : INV M) : msc M := h.2.1
theorem INV.m1 (h : INV M) {M1 : pj_M} (e : eqq M M1) : msc M1 := h.2.1.eq (fun a a1 a2 => e.row (by omega))
/-- questions leave it -/
theorem INV.q (h : INV M) {M1 M2 : pj_M} {o : Option (List Int)} (e1 : eqq M M1) (s1 : csc M1) (w1 : rwo M M1 o) (e2 : eqm M1 M2) (s2 : msc M2) (w2 : rwm M1 M2 o) : INV M2 := by
  obtain ⟨h1, h2, ⟨h3, h3a, h3b⟩, h4, h5, l, h6, h7⟩ := h
  have c1 := (h1.q e1 s1 w1).lo (M' := M2) (fun a ha => e2.at (by omega))
  have up : ∀ a, a = 204 ∨ a = 205 ∨ a = 222 ∨ a = 223 ∨ a = 225 → M2 a = M a := fun a ha => (e2.at (by omega)).trans (e1.row (by omega))
  have lo : ∀ a, (0 < a ∧ a < 29) ∨ (31 ≤ a ∧ a ≤ 114) → M2 a = M a := fun a ha => (e2.at (by omega)).trans (e1.row (by omega))
  have f2 : M2 203 2 = M 203 2 := (e2 203 2 (by unfold mpm; omega)).trans (e1 203 2 (by unfold kpq; omega))
  have f34 : M2 203 34 = M 203 34 := (e2 203 34 (by unfold mpm; omega)).trans (e1 203 34 (by unfold kpq; omega))
  refine ⟨by rw [up 204 (by omega), up 225 (by omega), up 222 (by omega)]; exact c1, s2, ⟨by rw [f2, lo 1 (by omega)]; exact h3, by rw [up 205 (by omega)]; exact h3a, by rw [up 205 (by omega), lo 1 (by omega), lo 2 (by omega)]; exact h3b⟩, by rw [f34, lo 31 (by omega)]; exact h4, by rw [up 223 (by omega), lo 114 (by omega)]; exact h5, ?_⟩
  cases o with
  | none =>
    refine ⟨l, (h6.eq w1.1 w1.2).eq (e2.at (by omega)) (by rw [e2.at (c := 0) (by omega)]), ?_⟩
    unfold rwsm at *
    rw [w2.1, w2.2, e1.row (show (0 < 206 ∧ 206 < 29) ∨ _ by omega), e1 203 4 (by unfold kpq; omega)]
    exact h7
  | some l' =>
    have w1' : rws M1 l' := w1
    exact ⟨l', w1'.eq (e2.at (by omega)) (by rw [e2.at (c := 0) (by omega)]), w2⟩
theorem uq_fits {D : Int → Int} {i j r r' : Int} {o o' : Option (List Int)} (_ : dvl D) (h : s_fits D i j r o) (h' : s_fits D i j r' o') : r = r' ∧ o = o' := by
  refine ⟨?_, h.1.trans h'.1.symm⟩
  by_cases hp : isPc D i j
  · exact (h.2.2 hp).uniq (h'.2.2 hp)
  · rw [h.2.1 hp, h'.2.1 hp]
theorem uq_onwards {D : Int → Int} {i r r' : Int} {o o' : Option (List Int)} (v : dvl D) (h : s_onwards D i r o) (h' : s_onwards D i r' o') : r = r' ∧ o = o' := by
  refine ⟨?_, h.1.trans h'.1.symm⟩
  by_cases hp : isPc D i i
  · exact (h.2.2 hp).uniq (pfit_mn v.2.1) hp.1 (h'.2.2 hp)
  · rw [h.2.1 hp, h'.2.1 hp]
theorem uq_back {D : Int → Int} {j r r' : Int} {o o' : Option (List Int)} (_ : dvl D) (h : s_back D j r o) (h' : s_back D j r' o') : r = r' ∧ o = o' := by
  refine ⟨?_, h.1.trans h'.1.symm⟩
  by_cases hp : isPc D j j
  · obtain ⟨a1, a2, a3⟩ := h.2.2 hp
    obtain ⟨b1, b2, b3⟩ := h'.2.2 hp
    have x1 := (a3 r' b1 b2).mpr ((b3 r' b1 b2).mp (Int.le_refl _))
    have x2 := (b3 r a1 a2).mpr ((a3 r a1 a2).mp (Int.le_refl _))
    omega
  · rw [h.2.1 hp, h'.2.1 hp]
theorem uq_sentence {D : Int → Int} {r r' : Int} {o o' : Option (List Int)} (_ : dvl D) (h : s_sentence D r o) (h' : s_sentence D r' o') : r = r' ∧ o = o' := ⟨h.2.uniq h'.2, h.1.trans h'.1.symm⟩
theorem uq_fol {D : Int → Int} {ah : Prop} {i j r r' : Int} {o o' : Option (List Int)} (_ : dvl D) (h : s_fol D ah i j r o) (h' : s_fol D ah i j r' o') : r = r' ∧ o = o' := s_fol.uniq h h'
theorem uq_yields {D : Int → Int} {x sort i j r r' : Int} {o o' : Option (List Int)} (_ : dvl D) (h : s_yields D x sort i j r o) (h' : s_yields D x sort i j r' o') : r = r' ∧ o = o' := by
  refine ⟨?_, h.1.trans h'.1.symm⟩
  by_cases hp : 0 ≤ sort ∧ sort ≤ 3 ∧ isCp D x ∧ isPc D i j ∧ ¬ hasE D i j
  · exact (h.2.2 hp).uniq (h'.2.2 hp)
  · rw [h.2.1 hp, h'.2.1 hp]
theorem uq_report {D : Int → Int} {r r' : Int} {o o' : Option (List Int)} (v : dvl D) (h : s_report D r o) (h' : s_report D r' o') : r = r' ∧ o = o' := by
  obtain ⟨l, h1, h2, h3, h4⟩ := h
  obtain ⟨l', g1, g2, g3, g4⟩ := h'
  have hn := v.2.2.1
  have e : l = l' := h2.uniq (pfit_mn v.2.1) (fun j _ h => ⟨Int.le_refl _, h⟩) l l' 0 (Int.le_refl _) (by omega) g2
  subst e
  exact ⟨h3.trans g3.symm, h4.trans g4.symm⟩
theorem uq_led {D : Int → Int} {r r' : Int} {o o' : Option (List Int)} (v : dvl D) (h : s_led D r o) (h' : s_led D r' o') : r = r' ∧ o = o' := by
  obtain ⟨l, h1, h2, h3, h4⟩ := h
  obtain ⟨l', g1, g2, g3, g4⟩ := h'
  have hn := v.2.2.1
  have e : l = l' := h2.uniq (pfit_mn v.2.1) (bhm_b hn.1) l l' 0 (Int.le_refl _) (by omega) g2
  subst e
  exact ⟨h3.trans g3.symm, h4.trans g4.symm⟩
theorem uq_backwards {D : Int → Int} {r r' : Int} {o o' : Option (List Int)} (v : dvl D) (h : s_backwards D r o) (h' : s_backwards D r' o') : r = r' ∧ o = o' := by
  obtain ⟨l, h1, h2, h3, h4⟩ := h
  obtain ⟨l', g1, g2, g3, g4⟩ := h'
  have hn := v.2.2.1
  have e : l = l' := rbk.uniq (pfit_mn v.2.1) l l' _ (by omega) (Int.le_refl _) h2 g2
  subst e
  exact ⟨h3.trans g3.symm, h4.trans g4.symm⟩
theorem uq_least {D : Int → Int} {r r' : Int} {o o' : Option (List Int)} (_ : dvl D) (h : s_least D r o) (h' : s_least D r' o') : r = r' ∧ o = o' := by
  obtain ⟨l, h1, h2, h3, h4⟩ := h
  obtain ⟨l', g1, g2, g3, g4⟩ := h'
  have e : l = l' := h2.uniq g2
  subst e
  exact ⟨h3.trans g3.symm, h4.trans g4.symm⟩
theorem uq_mate {D : Int → Int} {p r r' : Int} {o o' : Option (List Int)} (_ : dvl D) (h : s_mate D p r o) (h' : s_mate D p r' o') : r = r' ∧ o = o' := by
  by_cases hp : 1 ≤ p ∧ p ≤ D 73
  · by_cases h0 : mtD D p = 0
    · have a := (h.2 hp).1 h0
      have b := (h'.2 hp).1 h0
      exact ⟨a.1.trans b.1.symm, a.2.trans b.2.symm⟩
    · have a := (h.2 hp).2 h0
      have b := (h'.2 hp).2 h0
      exact ⟨a.1.trans b.1.symm, a.2.trans b.2.symm⟩
  · have a := h.1 hp
    have b := h'.1 hp
    exact ⟨a.1.trans b.1.symm, a.2.trans b.2.symm⟩
theorem uq_needed {D : Int → Int} {r r' : Int} {o o' : Option (List Int)} (v : dvl D) (h : s_needed D r o) (h' : s_needed D r' o') : r = r' ∧ o = o' := by
  obtain ⟨h1, c, h2, h3⟩ := h
  obtain ⟨g1, c', g2, g3⟩ := h'
  have e := h2.uniq v v.2.2.1.1 g2
  subst e
  exact ⟨h1.uniq g1, h3.trans g3.symm⟩
theorem uq_without {D : Int → Int} {p r r' : Int} {o o' : Option (List Int)} (v : dvl D) (h : s_without D p r o) (h' : s_without D p r' o') : r = r' ∧ o = o' := by
  by_cases hp : 1 ≤ p ∧ p ≤ D 73
  · obtain ⟨h1, c, h2, h3⟩ := h.2 hp
    obtain ⟨g1, c', g2, g3⟩ := h'.2 hp
    have e := h2.uniq v v.2.2.1.1 g2
    have e2 := h1.uniq v (by omega) g1
    subst e
    subst e2
    exact ⟨rfl, h3.trans g3.symm⟩
  · have a := h.1 hp
    have b := h'.1 hp
    exact ⟨a.1.trans b.1.symm, a.2.trans b.2.symm⟩
theorem uq_blames {D : Int → Int} {r r' : Int} {o o' : Option (List Int)} (v : dvl D) (h : s_blames D r o) (h' : s_blames D r' o') : r = r' ∧ o = o' := s_blames.uniq v h h'
theorem uq_longest {D : Int → Int} {r r' : Int} {o o' : Option (List Int)} (_ : dvl D) (h : s_longest D r o) (h' : s_longest D r' o') : r = r' ∧ o = o' := by
  obtain ⟨i, j, h1, h2, h3⟩ := h
  obtain ⟨i', j', g1, g2, g3⟩ := h'
  obtain ⟨rfl, rfl⟩ := h1.uniq g1
  exact ⟨h2.trans g2.symm, h3.trans g3.symm⟩
theorem uq_weakest {D : Int → Int} {r r' : Int} {o o' : Option (List Int)} (_ : dvl D) (h : s_weakest D r o) (h' : s_weakest D r' o') : r = r' ∧ o = o' := s_weakest.uniq h h'
theorem uq_wide {D : Int → Int} {k r r' : Int} {o o' : Option (List Int)} (_ : dvl D) (h : s_wide D k r o) (h' : s_wide D k r' o') : r = r' ∧ o = o' := by
  by_cases hp : 1 ≤ k ∧ k ≤ D 73 + 2
  · obtain ⟨h1, l, h2, h3⟩ := h.2 hp
    obtain ⟨g1, l', g2, g3⟩ := h'.2 hp
    have e := h3.uniq g3
    subst e
    exact ⟨h1.trans g1.symm, h2.trans g2.symm⟩
  · have a := h.1 hp
    have b := h'.1 hp
    exact ⟨a.1.trans b.1.symm, a.2.trans b.2.symm⟩
theorem uq_capital {D : Int → Int} {x what r r' : Int} {o o' : Option (List Int)} (_ : dvl D) (h : s_capital D x what r o) (h' : s_capital D x what r' o') : r = r' ∧ o = o' := by
  refine ⟨?_, h.1.trans h'.1.symm⟩
  by_cases hp : 0 ≤ what ∧ what ≤ 7 ∧ isCp D x
  · by_cases h0 : what = 0
    · rw [(h.2.2 hp).1 h0, (h'.2.2 hp).1 h0]
    · exact ((h.2.2 hp).2 h0).uniq ⟨by omega, hp.2.1⟩ ((h'.2.2 hp).2 h0)
  · rw [h.2.1 hp, h'.2.1 hp]
theorem uq_sentences {D : Int → Int} {n r r' : Int} {o o' : Option (List Int)} (_ : dvl D) (h : s_sentences D n r o) (h' : s_sentences D n r' o') : r = r' ∧ o = o' := s_sentences.uniq h h'
theorem uq_years {D : Int → Int} {seed n r r' : Int} {o o' : Option (List Int)} (v : dvl D) (hY : 0 ≤ (yrs seed (D 73) (lw D) n.toNat).2.2.1) (h : s_years D seed n r o) (h' : s_years D seed n r' o') : r = r' ∧ o = o' := by
  by_cases hp : 1 ≤ n ∧ n ≤ 20
  · obtain ⟨h1, z, h2, h3⟩ := h.2 hp
    obtain ⟨g1, z', g2, g3⟩ := h'.2 hp
    have e := h2.uniq g2
    subst e
    exact ⟨h1.uniq v hY g1, h3.trans g3.symm⟩
  · have a := h.1 hp
    have b := h'.1 hp
    exact ⟨a.1.trans b.1.symm, a.2.trans b.2.symm⟩
theorem yrs_nn {seed n : Int} {w : Int → Int} (hn : 0 ≤ n) : ∀ k : Nat, 0 ≤ (yrs seed n w k).2.2.1
  | 0 => hn
  | k + 1 => by
    have ih := yrs_nn (seed := seed) (w := w) hn k
    have key : ∀ (a p s m : Int) (u : Int → Int), 0 ≤ m → 0 ≤ (lop a p s m u).2.1 := by
      intro a p s m u hm
      unfold lop
      split
      · split
        · split <;> exact hm
        · exact hm
      · split
        · split
          · split
            · exact hm
            · show 0 ≤ m + 1; omega
          · exact hm
        · split
          · rename_i h; show 0 ≤ m - 1; omega
          · exact hm
    show 0 ≤ (yr1 (yrs seed n w k)).2.2.1
    unfold yr1
    split
    · exact key _ _ _ _ _ ih
    · exact key _ _ _ _ _ ih
theorem p_fits {i j : Int} (inv : INV M) (hi : pj_in i) (hj : pj_in j) : w_X11_fits 0 i j M (fun r M1 => w_X12_fits 203 i j M1 (fun r2 M2 => r2 = r ∧ INV M2)) := by
  refine o_fits inv.cs inv.dr inv.v hi hj (fun r o M1 e1 s1 w1 sp => ?_)
  have g1 : M1 204 = M 204 := e1.row (by omega)
  refine m_fits (inv.m1 e1) (by rw [g1]; exact inv.v) hi hj (fun r2 o2 M2 e2 s2 w2 sp2 => ?_)
  rw [g1] at sp2
  obtain ⟨rfl, rfl⟩ := uq_fits inv.v sp2 sp
  exact ⟨rfl, inv.q e1 s1 w1 e2 s2 w2⟩
theorem p_onwards {i : Int} (inv : INV M) (hi : pj_in i) : w_X11_onwards 0 i M (fun r M1 => w_X12_onwards 203 i M1 (fun r2 M2 => r2 = r ∧ INV M2)) := by
  refine o_onwards inv.cs inv.dr inv.v hi (fun r o M1 e1 s1 w1 sp => ?_)
  have g1 : M1 204 = M 204 := e1.row (by omega)
  refine m_onwards (inv.m1 e1) (by rw [g1]; exact inv.v) hi (fun r2 o2 M2 e2 s2 w2 sp2 => ?_)
  rw [g1] at sp2
  obtain ⟨rfl, rfl⟩ := uq_onwards inv.v sp2 sp
  exact ⟨rfl, inv.q e1 s1 w1 e2 s2 w2⟩
theorem p_back {j : Int} (inv : INV M) (hj : pj_in j) : w_X11_back 0 j M (fun r M1 => w_X12_back 203 j M1 (fun r2 M2 => r2 = r ∧ INV M2)) := by
  refine o_back inv.cs inv.dr inv.v hj (fun r o M1 e1 s1 w1 sp => ?_)
  have g1 : M1 204 = M 204 := e1.row (by omega)
  refine m_back (inv.m1 e1) (by rw [g1]; exact inv.v) hj (fun r2 o2 M2 e2 s2 w2 sp2 => ?_)
  rw [g1] at sp2
  obtain ⟨rfl, rfl⟩ := uq_back inv.v sp2 sp
  exact ⟨rfl, inv.q e1 s1 w1 e2 s2 w2⟩
theorem p_sentence (inv : INV M)  : w_X11_sentence 0 M (fun r M1 => w_X12_sentence 203 M1 (fun r2 M2 => r2 = r ∧ INV M2)) := by
  refine o_sentence inv.cs inv.dr inv.v  (fun r o M1 e1 s1 w1 sp => ?_)
  have g1 : M1 204 = M 204 := e1.row (by omega)
  refine m_sentence (inv.m1 e1) (by rw [g1]; exact inv.v)  (fun r2 o2 M2 e2 s2 w2 sp2 => ?_)
  rw [g1] at sp2
  obtain ⟨rfl, rfl⟩ := uq_sentence inv.v sp2 sp
  exact ⟨rfl, inv.q e1 s1 w1 e2 s2 w2⟩
theorem p_next {i j : Int} (inv : INV M) (hi : pj_in i) (hj : pj_in j) : w_X11_next 0 i j M (fun r M1 => w_X12_next 203 i j M1 (fun r2 M2 => r2 = r ∧ INV M2)) := by
  refine o_next inv.cs inv.dr inv.v hi hj (fun r o M1 e1 s1 w1 sp => ?_)
  have g1 : M1 204 = M 204 := e1.row (by omega)
  refine m_next (inv.m1 e1) (by rw [g1]; exact inv.v) hi hj (fun r2 o2 M2 e2 s2 w2 sp2 => ?_)
  rw [g1] at sp2
  obtain ⟨rfl, rfl⟩ := uq_fol inv.v sp2 sp
  exact ⟨rfl, inv.q e1 s1 w1 e2 s2 w2⟩
theorem p_ahead {i j : Int} (inv : INV M) (hi : pj_in i) (hj : pj_in j) : w_X11_ahead 0 i j M (fun r M1 => w_X12_ahead 203 i j M1 (fun r2 M2 => r2 = r ∧ INV M2)) := by
  refine o_ahead inv.cs inv.dr inv.v hi hj (fun r o M1 e1 s1 w1 sp => ?_)
  have g1 : M1 204 = M 204 := e1.row (by omega)
  refine m_ahead (inv.m1 e1) (by rw [g1]; exact inv.v) hi hj (fun r2 o2 M2 e2 s2 w2 sp2 => ?_)
  rw [g1] at sp2
  obtain ⟨rfl, rfl⟩ := uq_fol inv.v sp2 sp
  exact ⟨rfl, inv.q e1 s1 w1 e2 s2 w2⟩
theorem p_yields {x sort i j : Int} (inv : INV M) (hx : pj_in x) (hsort : pj_in sort) (hi : pj_in i) (hj : pj_in j) : w_X11_yields 0 x sort i j M (fun r M1 => w_X12_yields 203 x sort i j M1 (fun r2 M2 => r2 = r ∧ INV M2)) := by
  refine o_yields inv.cs inv.dr inv.v hx hsort hi hj (fun r o M1 e1 s1 w1 sp => ?_)
  have g1 : M1 204 = M 204 := e1.row (by omega)
  refine m_yields (inv.m1 e1) (by rw [g1]; exact inv.v) hx hsort hi hj (fun r2 o2 M2 e2 s2 w2 sp2 => ?_)
  rw [g1] at sp2
  obtain ⟨rfl, rfl⟩ := uq_yields inv.v sp2 sp
  exact ⟨rfl, inv.q e1 s1 w1 e2 s2 w2⟩
theorem p_report (inv : INV M)  : w_X11_report 0 M (fun r M1 => w_X12_report 203 M1 (fun r2 M2 => r2 = r ∧ INV M2)) := by
  refine o_report inv.cs inv.dr inv.v  (fun r o M1 e1 s1 w1 sp => ?_)
  have g1 : M1 204 = M 204 := e1.row (by omega)
  refine m_report (inv.m1 e1) (by rw [g1]; exact inv.v)  (fun r2 o2 M2 e2 s2 w2 sp2 => ?_)
  rw [g1] at sp2
  obtain ⟨rfl, rfl⟩ := uq_report inv.v sp2 sp
  exact ⟨rfl, inv.q e1 s1 w1 e2 s2 w2⟩
theorem p_backwards (inv : INV M)  : w_X11_backwards 0 M (fun r M1 => w_X12_backwards 203 M1 (fun r2 M2 => r2 = r ∧ INV M2)) := by
  refine o_backwards inv.cs inv.dr inv.v  (fun r o M1 e1 s1 w1 sp => ?_)
  have g1 : M1 204 = M 204 := e1.row (by omega)
  refine m_backwards (inv.m1 e1) (by rw [g1]; exact inv.v)  (fun r2 o2 M2 e2 s2 w2 sp2 => ?_)
  rw [g1] at sp2
  obtain ⟨rfl, rfl⟩ := uq_backwards inv.v sp2 sp
  exact ⟨rfl, inv.q e1 s1 w1 e2 s2 w2⟩
theorem p_led (inv : INV M)  : w_X11_led 0 M (fun r M1 => w_X12_led 203 M1 (fun r2 M2 => r2 = r ∧ INV M2)) := by
  refine o_led inv.cs inv.dr inv.v  (fun r o M1 e1 s1 w1 sp => ?_)
  have g1 : M1 204 = M 204 := e1.row (by omega)
  refine m_led (inv.m1 e1) (by rw [g1]; exact inv.v)  (fun r2 o2 M2 e2 s2 w2 sp2 => ?_)
  rw [g1] at sp2
  obtain ⟨rfl, rfl⟩ := uq_led inv.v sp2 sp
  exact ⟨rfl, inv.q e1 s1 w1 e2 s2 w2⟩
theorem p_least (inv : INV M)  : w_X11_least 0 M (fun r M1 => w_X12_least 203 M1 (fun r2 M2 => r2 = r ∧ INV M2)) := by
  refine o_least inv.cs inv.dr inv.v  (fun r o M1 e1 s1 w1 sp => ?_)
  have g1 : M1 204 = M 204 := e1.row (by omega)
  refine m_least (inv.m1 e1) (by rw [g1]; exact inv.v)  (fun r2 o2 M2 e2 s2 w2 sp2 => ?_)
  rw [g1] at sp2
  obtain ⟨rfl, rfl⟩ := uq_least inv.v sp2 sp
  exact ⟨rfl, inv.q e1 s1 w1 e2 s2 w2⟩
theorem p_mate {p : Int} (inv : INV M) (hp : pj_in p) : w_X11_mate 0 p M (fun r M1 => w_X12_mate 203 p M1 (fun r2 M2 => r2 = r ∧ INV M2)) := by
  refine o_mate inv.cs inv.dr inv.v hp (fun r o M1 e1 s1 w1 sp => ?_)
  have g1 : M1 204 = M 204 := e1.row (by omega)
  refine m_mate (inv.m1 e1) (by rw [g1]; exact inv.v) hp (fun r2 o2 M2 e2 s2 w2 sp2 => ?_)
  rw [g1] at sp2
  obtain ⟨rfl, rfl⟩ := uq_mate inv.v sp2 sp
  exact ⟨rfl, inv.q e1 s1 w1 e2 s2 w2⟩
theorem p_needed (inv : INV M)  : w_X11_needed 0 M (fun r M1 => w_X12_needed 203 M1 (fun r2 M2 => r2 = r ∧ INV M2)) := by
  refine o_needed inv.cs inv.dr inv.v  (fun r o M1 e1 s1 w1 sp => ?_)
  have g1 : M1 204 = M 204 := e1.row (by omega)
  refine m_needed (inv.m1 e1) (by rw [g1]; exact inv.v)  (fun r2 o2 M2 e2 s2 w2 sp2 => ?_)
  rw [g1] at sp2
  obtain ⟨rfl, rfl⟩ := uq_needed inv.v sp2 sp
  exact ⟨rfl, inv.q e1 s1 w1 e2 s2 w2⟩
theorem p_without {p : Int} (inv : INV M) (hp : pj_in p) : w_X11_without 0 p M (fun r M1 => w_X12_without 203 p M1 (fun r2 M2 => r2 = r ∧ INV M2)) := by
  refine o_without inv.cs inv.dr inv.v hp (fun r o M1 e1 s1 w1 sp => ?_)
  have g1 : M1 204 = M 204 := e1.row (by omega)
  refine m_without (inv.m1 e1) (by rw [g1]; exact inv.v) hp (fun r2 o2 M2 e2 s2 w2 sp2 => ?_)
  rw [g1] at sp2
  obtain ⟨rfl, rfl⟩ := uq_without inv.v sp2 sp
  exact ⟨rfl, inv.q e1 s1 w1 e2 s2 w2⟩
theorem p_blames (inv : INV M)  : w_X11_blames 0 M (fun r M1 => w_X12_blames 203 M1 (fun r2 M2 => r2 = r ∧ INV M2)) := by
  refine o_blames inv.cs inv.dr inv.v  (fun r o M1 e1 s1 w1 sp => ?_)
  have g1 : M1 204 = M 204 := e1.row (by omega)
  refine m_blames (inv.m1 e1) (by rw [g1]; exact inv.v)  (fun r2 o2 M2 e2 s2 w2 sp2 => ?_)
  rw [g1] at sp2
  obtain ⟨rfl, rfl⟩ := uq_blames inv.v sp2 sp
  exact ⟨rfl, inv.q e1 s1 w1 e2 s2 w2⟩
theorem p_longest (inv : INV M)  : w_X11_longest 0 M (fun r M1 => w_X12_longest 203 M1 (fun r2 M2 => r2 = r ∧ INV M2)) := by
  refine o_longest inv.cs inv.dr inv.v  (fun r o M1 e1 s1 w1 sp => ?_)
  have g1 : M1 204 = M 204 := e1.row (by omega)
  refine m_longest (inv.m1 e1) (by rw [g1]; exact inv.v)  (fun r2 o2 M2 e2 s2 w2 sp2 => ?_)
  rw [g1] at sp2
  obtain ⟨rfl, rfl⟩ := uq_longest inv.v sp2 sp
  exact ⟨rfl, inv.q e1 s1 w1 e2 s2 w2⟩
theorem p_weakest (inv : INV M)  : w_X11_weakest 0 M (fun r M1 => w_X12_weakest 203 M1 (fun r2 M2 => r2 = r ∧ INV M2)) := by
  refine o_weakest inv.cs inv.dr inv.v  (fun r o M1 e1 s1 w1 sp => ?_)
  have g1 : M1 204 = M 204 := e1.row (by omega)
  refine m_weakest (inv.m1 e1) (by rw [g1]; exact inv.v)  (fun r2 o2 M2 e2 s2 w2 sp2 => ?_)
  rw [g1] at sp2
  obtain ⟨rfl, rfl⟩ := uq_weakest inv.v sp2 sp
  exact ⟨rfl, inv.q e1 s1 w1 e2 s2 w2⟩
theorem p_wide {k : Int} (inv : INV M) (hk : pj_in k) : w_X11_wide 0 k M (fun r M1 => w_X12_wide 203 k M1 (fun r2 M2 => r2 = r ∧ INV M2)) := by
  refine o_wide inv.cs inv.dr inv.v hk (fun r o M1 e1 s1 w1 sp => ?_)
  have g1 : M1 204 = M 204 := e1.row (by omega)
  refine m_wide (inv.m1 e1) (by rw [g1]; exact inv.v) hk (fun r2 o2 M2 e2 s2 w2 sp2 => ?_)
  rw [g1] at sp2
  obtain ⟨rfl, rfl⟩ := uq_wide inv.v sp2 sp
  exact ⟨rfl, inv.q e1 s1 w1 e2 s2 w2⟩
theorem p_capital {x what : Int} (inv : INV M) (hx : pj_in x) (hwhat : pj_in what) : w_X11_capital 0 x what M (fun r M1 => w_X12_capital 203 x what M1 (fun r2 M2 => r2 = r ∧ INV M2)) := by
  refine o_capital inv.cs inv.dr inv.v hx hwhat (fun r o M1 e1 s1 w1 sp => ?_)
  have g1 : M1 204 = M 204 := e1.row (by omega)
  refine m_capital (inv.m1 e1) (by rw [g1]; exact inv.v) hx hwhat (fun r2 o2 M2 e2 s2 w2 sp2 => ?_)
  rw [g1] at sp2
  obtain ⟨rfl, rfl⟩ := uq_capital inv.v sp2 sp
  exact ⟨rfl, inv.q e1 s1 w1 e2 s2 w2⟩
theorem p_sentences {n : Int} (inv : INV M) (hn : pj_in n) : w_X11_sentences 0 n M (fun r M1 => w_X12_sentences 203 n M1 (fun r2 M2 => r2 = r ∧ INV M2)) := by
  refine o_sentences inv.cs inv.dr inv.v hn (fun r o M1 e1 s1 w1 sp => ?_)
  have g1 : M1 204 = M 204 := e1.row (by omega)
  refine m_sentences (inv.m1 e1) (by rw [g1]; exact inv.v) hn (fun r2 o2 M2 e2 s2 w2 sp2 => ?_)
  rw [g1] at sp2
  obtain ⟨rfl, rfl⟩ := uq_sentences inv.v sp2 sp
  exact ⟨rfl, inv.q e1 s1 w1 e2 s2 w2⟩
theorem p_years {seed n : Int} (inv : INV M) (hn : pj_in n) : w_X11_years 0 seed n M (fun r M1 => w_X12_years 203 seed n M1 (fun r2 M2 => r2 = r ∧ INV M2)) := by
  refine o_years inv.cs inv.dr inv.v hn (fun r o M1 e1 s1 w1 sp => ?_)
  have g1 : M1 204 = M 204 := e1.row (by omega)
  refine m_years (inv.m1 e1) (by rw [g1]; exact inv.v) hn (fun r2 o2 M2 e2 s2 w2 sp2 => ?_)
  rw [g1] at sp2
  obtain ⟨rfl, rfl⟩ := uq_years inv.v (yrs_nn inv.v.2.2.1.1 _) sp2 sp
  exact ⟨rfl, inv.q e1 s1 w1 e2 s2 w2⟩
theorem p_apart {i n : Int} (inv : INV M) (hi : pj_in i) (hn : pj_in n) : w_X11_apart 0 i n M (fun r M1 => w_X12_apart 203 i n M1 (fun r2 M2 => r2 = r ∧ INV M2)) := by
  have hkp := inv.1.2.2.2.2.1
  have hK : 0 ≤ i → i < 2 → M 114 i ≠ 0 → drep M (187 + 8 * i.toNat) (fun x => M 222 (95 * i + x)) ∧ dvl (fun x => M 222 (95 * i + x)) := by
    intro h0 h1 hne
    obtain ⟨j, rfl⟩ : ∃ j : Nat, i = (j : Int) := ⟨i.toNat, by omega⟩
    rw [Int.toNat_natCast]
    exact (hkp.2 j (by omega)).2 ((hkp.1 _).resolve_left hne)
  refine o_apart (E := fun x => M 222 (95 * i + x)) inv.cs inv.dr inv.v hi hn hkp.1 hK (fun r o M1 e1 s1 w1 sp => ?_)
  have g1 : M1 204 = M 204 := e1.row (by omega)
  have g3 : M1 223 = M 223 := e1.row (by omega)
  have g2 : M1 222 = M 222 := e1.row (by omega)
  have e3 : ∀ x, M1 223 x = M 114 x := fun x => by rw [g3]; exact inv.2.2.2.2.1 x
  refine m_apart (E := fun x => M 222 (95 * i + x)) (inv.m1 e1) (by rw [g1]; exact inv.v) hi hn (fun x => by rw [e3]; exact hkp.1 x) (fun h0 h1 hne => ⟨(hK h0 h1 (by rw [← e3]; exact hne)).2, fun x _ _ => by rw [g2]⟩) (fun r2 o2 M2 e2 s2 w2 sp2 => ?_)
  rw [g1, e3] at sp2
  obtain ⟨rfl, rfl⟩ := s_apart.uniq sp2 sp
  exact ⟨rfl, inv.q e1 s1 w1 e2 s2 w2⟩
theorem p_count {what : Int} (inv : INV M) (hw : pj_in what) : w_X11_count 0 what M (fun r M1 => w_X12_count 203 what M1 (fun r2 M2 => r2 = r ∧ INV M2)) := by
  refine o_count inv.cs inv.dr inv.v hw (fun r M1 e1 s1 w1 sp => ?_)
  have g1 : M1 204 = M 204 := e1.row (by omega)
  have g3 : M1 203 = M 203 := e1.row (by omega)
  refine m_count (inv.m1 e1) (by rw [g1]; exact inv.v) hw (fun r2 M2 e2 s2 w2 sp2 => ?_)
  obtain ⟨l, l1, l2⟩ := inv.2.2.2.2.2
  rw [g1, g3, inv.2.2.2.1, inv.2.2.1.1, l2.1, ← l1.1] at sp2
  exact ⟨s_count.uniq sp2 sp, inv.q (o := none) e1 s1 w1 e2 s2 w2⟩
end
