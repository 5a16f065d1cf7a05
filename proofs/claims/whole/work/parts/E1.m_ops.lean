section
variable {M : pj_M} {Q : Int → pj_M → Prop}
theorem t_refBecome {p s : Int} (v : dvl (M 204)) (hp : pj_in p) (hs : pj_in s) (q0 : ∀ r, r < 0 → r = (lop 0 p s (M 204 73) (lw (M 204))).1 → Q r M) (q1 : 1 ≤ p ∧ p ≤ M 204 73 → 0 ≤ s ∧ s < 8 → lw (M 204) (p - 1) ≠ s → Q 0 M) : w_X12_refusesBecome 203 p s M Q := by
  have hn := v.2.2.1
  unfold w_X12_refusesBecome
  rw [rm_0]
  have no : ¬ (1 ≤ p ∧ p ≤ M 204 73 ∧ 0 ≤ s ∧ s < 8) → Q (-1) M := fun h => q0 (-1) (by decide) (by unfold lop; rw [if_pos rfl, if_neg h])
  refine t_in hp ⟨by decide, by decide⟩ ⟨by omega, by omega⟩ (fun t ht hi => ⟨in01 ht, fun h => no (fun h' => by have := hi.mpr ⟨h'.1, h'.2.1⟩; omega), fun h => ?_⟩)
  have hpb := hi.mp (by omega)
  refine t_in hs ⟨by decide, by decide⟩ ⟨by decide, by decide⟩ (fun t2 ht2 hi2 => ⟨in01 ht2, fun h => ?_, fun h => no (fun h' => by have := hi2.mpr ⟨h'.2.2.1, by omega⟩; omega)⟩)
  have hsb := hi2.mp (by omega)
  have hb := v.2.2.2.1 (p - 1) (by omega) (by omega)
  have he : M 204 (74 + p - 1) = lw (M 204) (p - 1) := by show M 204 (74 + p - 1) = M 204 (74 + (p - 1)); congr 1; omega
  have hb' : 0 ≤ lw (M 204) (p - 1) ∧ lw (M 204) (p - 1) ≤ 7 := hb
  rw [he]
  refine ⟨⟨by omega, by omega⟩, ⟨by omega, by omega⟩, hs, fun hne => q1 hpb ⟨by omega, by omega⟩ hne, fun heq => q0 (-2) (by decide) ?_⟩
  unfold lop
  rw [if_pos rfl, if_pos ⟨hpb.1, hpb.2, by omega, by omega⟩, if_pos heq]
theorem t_refCome {p s : Int} (v : dvl (M 204)) (hp : pj_in p) (hs : pj_in s) (q0 : ∀ r, r < 0 → r = (lop 1 p s (M 204 73) (lw (M 204))).1 → Q r M) (q1 : 1 ≤ p ∧ p ≤ M 204 73 + 1 → 0 ≤ s ∧ s < 8 → M 204 73 < 14 → Q 0 M) : w_X12_refusesCome 203 p s M Q := by
  have hn := v.2.2.1
  unfold w_X12_refusesCome
  rw [rm_0]
  have no : ¬ (1 ≤ p ∧ p ≤ M 204 73 + 1 ∧ 0 ≤ s ∧ s < 8) → Q (-1) M := fun h => q0 (-1) (by decide) (by unfold lop; rw [if_neg (by decide), if_pos rfl, if_neg h])
  refine t_in hp ⟨by decide, by decide⟩ ⟨by omega, by omega⟩ (fun t ht hi => ⟨in01 ht, fun h => no (fun h' => by have := hi.mpr ⟨h'.1, h'.2.1⟩; omega), fun h => ?_⟩)
  have hpb := hi.mp (by omega)
  refine t_in hs ⟨by decide, by decide⟩ ⟨by decide, by decide⟩ (fun t2 ht2 hi2 => ⟨in01 ht2, fun h => ?_, fun h => no (fun h' => by have := hi2.mpr ⟨h'.2.2.1, by omega⟩; omega)⟩)
  have hsb := hi2.mp (by omega)
  refine ⟨⟨by omega, by omega⟩, fun hne => q1 hpb ⟨by omega, by omega⟩ (by omega), fun heq => q0 (-3) (by decide) ?_⟩
  unfold lop
  rw [if_neg (by decide), if_pos rfl, if_pos ⟨hpb.1, hpb.2, by omega, by omega⟩, if_pos (by omega)]
theorem lop_b {p s n : Int} {w : Int → Int} {k : Int} (hw : ∀ x, 0 ≤ x → x < n → 0 ≤ w x ∧ w x ≤ 7) (hn : 0 ≤ n ∧ n ≤ 14) : -3 ≤ (lop k p s n w).1 ∧ (lop k p s n w).1 ≤ 15 := by
  unfold lop
  by_cases h0 : k = 0
  · rw [if_pos h0]
    by_cases h1 : 1 ≤ p ∧ p ≤ n ∧ 0 ≤ s ∧ s < 8
    · rw [if_pos h1]
      have := hw (p - 1) (by omega) (by omega)
      split
      · simp
      · exact ⟨by show -3 ≤ w (p - 1); omega, by show w (p - 1) ≤ 15; omega⟩
    · rw [if_neg h1]; simp
  · rw [if_neg h0]
    by_cases h1 : k = 1
    · rw [if_pos h1]
      split
      · split
        · simp
        · exact ⟨by show -3 ≤ n + 1; omega, by show n + 1 ≤ 15; omega⟩
      · simp
    · rw [if_neg h1]
      split
      · exact ⟨by show -3 ≤ n - 1; omega, by show n - 1 ≤ 15; omega⟩
      · simp
theorem t_act {k p s : Int} (v : dvl (M 204)) (hk : 0 ≤ k ∧ k ≤ 2) (hp : pj_in p) (hs : pj_in s) (h2 : k = 2 → s = 0) (q0 : (lop k p s (M 204 73) (lw (M 204))).1 < 0 → Q 0 M) (q1 : 0 ≤ (lop k p s (M 204 73) (lw (M 204))).1 → ∀ M', actp M k p s M' → Q 1 M') : w_X12_act 203 k p s M Q := by
  have hn := v.2.2.1
  have kin : pj_in k := ⟨by omega, by omega⟩
  unfold w_X12_act
  refine ⟨kin, fun n0 => ⟨kin, fun n1 => ?_, fun e1 => ?_⟩, fun e0 => ?_⟩
  · have ek : k = 2 := by omega
    have es := h2 ek
    subst ek; subst es
    rw [rm_0]
    refine t_in hp ⟨by decide, by decide⟩ ⟨by omega, by omega⟩ (fun t ht hi => ⟨in01 ht, fun h => ?_, fun h => ?_⟩)
    · unfold w_X12_act_47
      refine ⟨⟨by decide, by decide⟩, fun h => absurd h (by decide), fun _ => q0 ?_⟩
      unfold lop
      rw [if_neg (by decide), if_neg (by decide), if_neg (fun h' => by have := hi.mpr h'; omega)]
      show (-1 : Int) < 0
      decide
    · have hpb := hi.mp (by omega)
      unfold w_X12_act_47
      refine ⟨⟨by decide, by decide⟩, fun _ => ⟨kin, fun _ => ⟨kin, fun _ => ?_, fun h => absurd h n1⟩, fun h => absurd h n0⟩, fun h => absurd (by decide) h⟩
      refine t_go v hpb (fun hl M' _ ha => q1 (by rw [hl]; omega) M' ha)
  · subst e1
    refine t_refCome v hp hs (fun r hr he => ?_) (fun hpb hsb h14 => ?_)
    · unfold w_X12_act_47
      refine ⟨?_, fun h => by omega, fun _ => q0 (by rw [← he]; exact hr)⟩
      have := lop_b (k := 1) (p := p) (s := s) (w := lw (M 204)) (fun x x1 x2 => v.2.2.2.1 x x1 (by omega)) hn
      rw [he]
      exact ⟨by omega, by omega⟩
    · unfold w_X12_act_47
      refine ⟨⟨by decide, by decide⟩, fun _ => ⟨kin, fun _ => ⟨kin, fun h => absurd rfl h, fun _ => ?_⟩, fun h => absurd h (by decide)⟩, fun h => absurd (by decide) h⟩
      exact t_come v hpb hsb h14 (fun hl M' _ ha => q1 (by rw [hl]; omega) M' ha)
  · subst e0
    refine t_refBecome v hp hs (fun r hr he => ?_) (fun hpb hsb hne => ?_)
    · unfold w_X12_act_47
      refine ⟨?_, fun h => by omega, fun _ => q0 (by rw [← he]; exact hr)⟩
      have := lop_b (k := 0) (p := p) (s := s) (w := lw (M 204)) (fun x x1 x2 => v.2.2.2.1 x x1 (by omega)) hn
      rw [he]
      exact ⟨by omega, by omega⟩
    · have hb := v.2.2.2.1 (p - 1) (by omega) (by omega)
      obtain ⟨a1, a2⟩ := a_become v hpb hsb hne
      unfold w_X12_act_47
      rw [rm_0]
      refine ⟨⟨by decide, by decide⟩, fun _ => ⟨kin, fun h => absurd rfl h, fun _ => ⟨⟨by omega, by omega⟩, ?_⟩⟩, fun h => absurd (by decide) h⟩
      rintro M1 rfl
      exact q1 (by rw [a1]; exact hb.1) _ a2
/-- what the model's changes of a line do -/
def mchp (M : pj_M) (k p s r : Int) (M' : pj_M) : Prop :=
  r = (lop k p s (M 204 73) (lw (M 204))).1 ∧ eqh M M' ∧ msc M' ∧ (r < 0 → M' 204 = M 204 ∧ M' 225 = M 225 ∧ M' 203 34 = M 203 34) ∧ (0 ≤ r → chd (M 204) (M' 204) (lop k p s (M 204 73) (lw (M 204))).2.1 (lop k p s (M 204 73) (lw (M 204))).2.2 ∧ dvl (M' 204) ∧ pshm M (M 204) M')
theorem mchp_no {k p s r : Int} (sc : msc M) (hr : r < 0) (he : r = (lop k p s (M 204 73) (lw (M 204))).1) : mchp M k p s r (pj_up M 203 5 0) :=
  ⟨he, eqh.up (by unfold mph; omega), sc.up, fun _ => ⟨z204, pu_row (by decide), pu_nk (by decide)⟩, fun h => by omega⟩
theorem mchp_yes {k p s r : Int} {M1 M2 : pj_M} (sc : msc M) (e1 : eqj (pj_up M 203 5 0) M1) (p1 : pshm (pj_up M 203 5 0) (pj_up M 203 5 0 204) M1) (a : actp M1 k p s M2) (hr : 0 ≤ r) (he : r = (lop k p s (M1 204 73) (lw (M1 204))).1) : mchp M k p s r M2 := by
  have g1 : M1 204 = M 204 := by rw [e1.row (by decide) (by decide) (by decide), z204]
  obtain ⟨a1, a2, a3⟩ := a
  rw [g1] at a1 he
  have e0 : eqh M (pj_up M 203 5 0) := eqh.up (by unfold mph; omega)
  refine ⟨he, (e0.tr e1.h).tr (eqh.n (b := 204) (fun x => by unfold mph; omega) a3), ?_, fun h => by omega, fun _ => ⟨a1, a2, ?_⟩⟩
  · exact (sc.up.j e1).eq (fun b b1 b2 => a3 b (by omega))
  · unfold pshm at p1 ⊢
    rw [a3 203 (by decide), a3 225 (by decide)]
    rw [pu_nk (show (34 : Int) ≠ 5 by decide), z204, pu_row (show (225 : Nat) ≠ 203 by decide)] at p1
    exact p1
theorem m_becomes {p s : Int} (sc : msc M) (v : dvl (M 204)) (hu : 0 ≤ M 203 34 ∧ M 203 34 ≤ 10) (hp : pj_in p) (hs : pj_in s) (q : ∀ r M', mchp M 0 p s r M' → Q r M') : w_X12_becomes 203 p s M Q := by
  have hn := v.2.2.1
  unfold w_X12_becomes
  rintro M0 rfl
  have v1 : dvl (pj_up M 203 5 0 204) := by rw [z204]; exact v
  refine t_refBecome v1 hp hs (fun r hr he => ?_) (fun hpb hsb hne => ?_)
  · rw [z204] at he
    have := lop_b (k := 0) (p := p) (s := s) (w := lw (M 204)) (fun x x1 x2 => v.2.2.2.1 x x1 (by omega)) hn
    refine ⟨?_, fun h => by omega, fun _ => q r _ (mchp_no sc hr he)⟩
    rw [he]
    exact ⟨by omega, by omega⟩
  · rw [z204] at hpb hne
    have hb := v.2.2.2.1 (p - 1) (by omega) (by omega)
    refine ⟨⟨by decide, by decide⟩, fun _ => t_change (by rw [pu_nk (by decide)]; exact hu) (fun M1 e1 p1 => ?_), fun h => absurd (by decide) h⟩
    have g1 : M1 204 = M 204 := by rw [e1.row (by decide) (by decide) (by decide), z204]
    rw [rm_0]
    refine ⟨⟨by omega, by omega⟩, ?_⟩
    rintro z rfl
    refine ⟨⟨by omega, by omega⟩, ?_⟩
    rintro M2 rfl
    have he : M1 204 (74 + p - 1) = lw (M1 204) (p - 1) := by show M1 204 (74 + p - 1) = M1 204 (74 + (p - 1)); congr 1; omega
    rw [he]
    obtain ⟨a1, a2⟩ := a_become (M := M1) (p := p) (s := s) (by rw [g1]; exact v) (by rw [g1]; exact hpb) hsb (by rw [g1]; exact hne)
    refine q _ _ (mchp_yes sc e1 p1 a2 ?_ a1.symm)
    rw [g1]; exact hb.1
theorem m_comes {p s : Int} (sc : msc M) (v : dvl (M 204)) (hu : 0 ≤ M 203 34 ∧ M 203 34 ≤ 10) (hp : pj_in p) (hs : pj_in s) (q : ∀ r M', mchp M 1 p s r M' → Q r M') : w_X12_comes 203 p s M Q := by
  have hn := v.2.2.1
  unfold w_X12_comes
  rintro M0 rfl
  have v1 : dvl (pj_up M 203 5 0 204) := by rw [z204]; exact v
  refine t_refCome v1 hp hs (fun r hr he => ?_) (fun hpb hsb h14 => ?_)
  · rw [z204] at he
    have := lop_b (k := 1) (p := p) (s := s) (w := lw (M 204)) (fun x x1 x2 => v.2.2.2.1 x x1 (by omega)) hn
    refine ⟨?_, fun h => by omega, fun _ => q r _ (mchp_no sc hr he)⟩
    rw [he]
    exact ⟨by omega, by omega⟩
  · rw [z204] at hpb h14
    refine ⟨⟨by decide, by decide⟩, fun _ => t_change (by rw [pu_nk (by decide)]; exact hu) (fun M1 e1 p1 => ?_), fun h => absurd (by decide) h⟩
    have g1 : M1 204 = M 204 := by rw [e1.row (by decide) (by decide) (by decide), z204]
    refine t_come (by rw [g1]; exact v) (by rw [g1]; exact hpb) hsb (by rw [g1]; exact h14) (fun hl M2 h73 a2 => ?_)
    rw [rm_0, h73]
    refine q _ _ (mchp_yes sc e1 p1 a2 ?_ hl.symm)
    rw [g1]; omega
theorem m_goes {p : Int} (sc : msc M) (v : dvl (M 204)) (hu : 0 ≤ M 203 34 ∧ M 203 34 ≤ 10) (hp : pj_in p) (q : ∀ r M', mchp M 2 p 0 r M' → Q r M') : w_X12_goes 203 p M Q := by
  have hn := v.2.2.1
  unfold w_X12_goes
  rintro M0 rfl
  rw [rm_0, z204]
  refine t_in hp ⟨by decide, by decide⟩ ⟨by omega, by omega⟩ (fun t ht hi => ⟨in01 ht, fun h => ?_, fun h => q (-1) _ (mchp_no sc (by decide) ?_)⟩)
  · have hpb := hi.mp (by omega)
    refine t_change (by rw [pu_nk (by decide)]; exact hu) (fun M1 e1 p1 => ?_)
    have g1 : M1 204 = M 204 := by rw [e1.row (by decide) (by decide) (by decide), z204]
    refine t_go (by rw [g1]; exact v) (by rw [g1]; exact hpb) (fun hl M2 h73 a2 => ?_)
    rw [h73]
    refine q _ _ (mchp_yes sc e1 p1 a2 ?_ hl.symm)
    rw [g1]; omega
  · unfold lop
    rw [if_neg (by decide), if_neg (by decide), if_neg (fun h' => by have := hi.mpr h'; omega)]
theorem m_undo (sc : msc M) (hu : 0 ≤ M 203 34 ∧ M 203 34 ≤ 10) (q0 : M 203 34 = 0 → ∀ M', eqm M M' → msc M' → rwm M M' none → Q (-1) M') (q1 : 0 < M 203 34 → ∀ M', eqh M M' → msc M' → M' 225 = M 225 → M' 203 34 = M 203 34 - 1 → (∀ x, 0 ≤ x → x < 95 → M' 204 x = M 225 (95 * (M 203 34 - 1) + x)) → Q (M 203 34 - 1) M') : w_X12_undo 203 M Q := by
  unfold w_X12_undo
  rintro M0 rfl
  have h34 : pj_up M 203 5 0 203 34 = M 203 34 := pu_nk (by decide)
  rw [h34]
  refine ⟨⟨by omega, by omega⟩, fun hne => ?_, fun h0 => q0 h0 _ (eqm.p eqp.z) sc.up (rwm.p eqp.z)⟩
  rintro M1 rfl
  unfold w_X12_undo_26
  have f0 : ∀ a, a ≠ 203 → pj_up (pj_up M 203 5 0) 203 34 (M 203 34 - 1) a = M a := fun a ha => by rw [pu_row ha, pu_row ha]
  have e0 : eqh M (pj_up (pj_up M 203 5 0) 203 34 (M 203 34 - 1)) := (eqh.up (by unfold mph; omega)).tr (eqh.up (by unfold mph; omega))
  have k0 : pj_up (pj_up M 203 5 0) 203 34 (M 203 34 - 1) 203 34 = M 203 34 - 1 := pu_eq
  generalize pj_up (pj_up M 203 5 0) 203 34 (M 203 34 - 1) = M1 at f0 e0 k0 ⊢
  refine pj_lp_inv (fun y : Int × pj_M => (0 ≤ y.1 ∧ y.1 ≤ 95) ∧ (∀ a, a ≠ 204 → y.2 a = M1 a) ∧ ∀ u, 0 ≤ u → u < y.1 → y.2 204 u = M 225 (95 * (M 203 34 - 1) + u)) (fun y => (95 - y.1).toNat) ?_ (0, M1) ⟨⟨by simp, by simp⟩, fun _ _ => rfl, fun u u1 u2 => by have : u < 0 := u2; omega⟩
  rintro ⟨c, M2⟩ ⟨hc, f2, w2⟩ P hP
  dsimp only at hc f2 w2 hP ⊢
  unfold w_X12_undo_26b
  have k2 : M2 203 34 = M 203 34 - 1 := by rw [f2 203 (by decide)]; exact k0
  rw [k2, rm_0, rm_33]
  refine ⟨⟨by omega, by omega⟩, fun hend => ?_, fun hgo => ⟨⟨by omega, by omega⟩, ⟨by omega, by omega⟩, ?_⟩⟩
  · refine q1 (by omega) M2 (e0.tr (eqh.n (b := 204) (fun x => by unfold mph; omega) f2)) (sc.eq (fun a a1 a2 => by rw [f2 a (by omega), f0 a (by omega)])) (by rw [f2 225 (by decide), f0 225 (by decide)]) k2 (fun x x1 x2 => w2 x x1 (by omega))
  · rintro M3 rfl
    refine hP (c + 1, _) ⟨⟨by show 0 ≤ c + 1; omega, by show c + 1 ≤ 95; omega⟩, fun a ha => (pu_row ha).trans (f2 a ha), fun u u1 u2 => ?_⟩ (by show (95 - (c + 1)).toNat < (95 - c).toNat; omega)
    have u2' : u < c + 1 := u2
    show pj_up M2 204 c (M2 225 (95 * (M 203 34 - 1) + c)) 204 u = _
    by_cases e : u = c
    · rw [e, pu_eq, f2 225 (by decide), f0 225 (by decide)]
    · rw [pu_nk e]; exact w2 u u1 (by omega)
theorem m_keep {i : Int} (sc : msc M) (hi : pj_in i) (q0 : ¬ (0 ≤ i ∧ i < 2) → ∀ M', eqm M M' → msc M' → rwm M M' none → Q 0 M') (q1 : 0 ≤ i ∧ i < 2 → ∀ M', (∀ a x, a ≠ 222 → a ≠ 223 → ¬ (a = 203 ∧ x = 5) → M' a x = M a x) → msc M' → (∀ x, M' 223 x = if x = i then 1 else M 223 x) → (∀ j x, 0 ≤ x → x < 95 → M' 222 (95 * j + x) = if j = i then M 204 x else M 222 (95 * j + x)) → Q 1 M') : w_X12_keep 203 i M Q := by
  unfold w_X12_keep
  rintro M0 rfl
  refine t_in hi ⟨by decide, by decide⟩ ⟨by decide, by decide⟩ (fun t ht hiff => ⟨in01 ht, fun h => ?_, fun h => q0 (fun h' => by have := hiff.mpr ⟨h'.1, by omega⟩; omega) _ (eqm.p eqp.z) sc.up (rwm.p eqp.z)⟩)
  have hib := hiff.mp (by omega)
  rw [rm_31]
  refine ⟨⟨by omega, by omega⟩, ?_⟩
  rintro M1 rfl
  unfold w_X12_keep_25
  have f0 : ∀ a x, a ≠ 223 → ¬ (a = 203 ∧ x = 5) → pj_up (pj_up M 203 5 0) 223 i 1 a x = M a x := fun a x a1 a2 => by rw [pu_ne a1, pu_if, if_neg a2]
  have k0 : ∀ x, pj_up (pj_up M 203 5 0) 223 i 1 223 x = if x = i then 1 else M 223 x := fun x => by
    by_cases e : x = i
    · rw [if_pos e, e, pu_eq]
    · rw [if_neg e, pu_nk e, pu_ne (by decide)]
  generalize pj_up (pj_up M 203 5 0) 223 i 1 = M1 at f0 k0 ⊢
  have r0 : ∀ a, a ≠ 223 → a ≠ 203 → M1 a = M a := fun a a1 a2 => funext fun x => f0 a x a1 (fun e => a2 e.1)
  refine pj_lp_inv (fun y : Int × pj_M => (0 ≤ y.1 ∧ y.1 ≤ 95) ∧ (∀ a, a ≠ 222 → y.2 a = M1 a) ∧ ∀ u, y.2 222 u = if 95 * i ≤ u ∧ u < 95 * i + y.1 then M 204 (u - 95 * i) else M 222 u) (fun y => (95 - y.1).toNat) ?_ (0, M1) ⟨⟨by simp, by simp⟩, fun _ _ => rfl, fun u => by rw [if_neg]; exact congrFun (r0 222 (by decide) (by decide)) u; show ¬ (95 * i ≤ u ∧ u < 95 * i + 0); omega⟩
  rintro ⟨c, M2⟩ ⟨hc, f2, w2⟩ P hP
  dsimp only at hc f2 w2 hP ⊢
  unfold w_X12_keep_25b
  rw [rm_0, rm_30]
  refine ⟨⟨by omega, by omega⟩, fun hend => ?_, fun hgo => ⟨⟨by omega, by omega⟩, ⟨by omega, by omega⟩, ?_⟩⟩
  · have : c = 95 := by omega
    subst this
    refine q1 ⟨by omega, by omega⟩ M2 (fun a x a1 a2 a3 => by rw [f2 a a1]; exact f0 a x a2 a3) (sc.eq (fun a a1 a2 => by rw [f2 a (by omega), r0 a (by omega) (by omega)])) (fun x => by rw [f2 223 (by decide)]; exact k0 x) (fun j x x1 x2 => ?_)
    rw [w2]
    by_cases e : j = i
    · rw [if_pos e, if_pos (by omega)]
      congr 1; omega
    · rw [if_neg e, if_neg (by omega)]
  · rintro M3 rfl
    refine hP (c + 1, _) ⟨⟨by show 0 ≤ c + 1; omega, by show c + 1 ≤ 95; omega⟩, fun a ha => (pu_row ha).trans (f2 a ha), fun u => ?_⟩ (by show (95 - (c + 1)).toNat < (95 - c).toNat; omega)
    show pj_up M2 222 (95 * i + c) (M2 204 c) 222 u = if 95 * i ≤ u ∧ u < 95 * i + (c + 1) then _ else _
    by_cases e : u = 95 * i + c
    · subst e
      rw [pu_eq, if_pos (by omega), f2 204 (by decide), r0 204 (by decide) (by decide), show 95 * i + c - 95 * i = c by omega]
    · rw [pu_nk e, w2 u]
      by_cases h : 95 * i ≤ u ∧ u < 95 * i + c
      · rw [if_pos h, if_pos (by omega)]
      · rw [if_neg h, if_neg (by omega)]
theorem m_again {i : Int} (sc : msc M) (hi : pj_in i) (hkb : ∀ x, M 223 x = 0 ∨ M 223 x = 1) (q0 : ¬ (0 ≤ i ∧ i < 2 ∧ M 223 i = 1) → ∀ M', eqm M M' → msc M' → rwm M M' none → Q 0 M') (q1 : 0 ≤ i ∧ i < 2 ∧ M 223 i = 1 → ∀ M', eqh M M' → msc M' → M' 203 34 = 0 → (∀ x, 0 ≤ x → x < 95 → M' 204 x = M 222 (95 * i + x)) → Q 1 M') : w_X12_again 203 i M Q := by
  unfold w_X12_again
  rintro M0 rfl
  have no : ¬ (0 ≤ i ∧ i < 2 ∧ M 223 i = 1) → Q 0 (pj_up M 203 5 0) := fun h => q0 h _ (eqm.p eqp.z) sc.up (rwm.p eqp.z)
  refine t_in hi ⟨by decide, by decide⟩ ⟨by decide, by decide⟩ (fun t ht hiff => ⟨in01 ht, fun h => no (fun h' => by have := hiff.mpr ⟨h'.1, by omega⟩; omega), fun h => ?_⟩)
  have hib := hiff.mp (by omega)
  have z223 : pj_up M 203 5 0 223 = M 223 := pu_row (by decide)
  rw [rm_31, z223]
  refine ⟨⟨by omega, by omega⟩, in01 (hkb i), fun hne => ?_, fun h0 => no (fun h' => by omega)⟩
  have h1 : M 223 i = 1 := (hkb i).resolve_left hne
  unfold w_X12_again_27
  have f0 : ∀ a, a ≠ 203 → pj_up M 203 5 0 a = M a := fun a ha => pu_row ha
  have e0 : eqh M (pj_up M 203 5 0) := eqh.up (by unfold mph; omega)
  generalize pj_up M 203 5 0 = M1 at f0 e0 ⊢
  refine pj_lp_inv (fun y : Int × pj_M => (0 ≤ y.1 ∧ y.1 ≤ 95) ∧ (∀ a, a ≠ 204 → y.2 a = M1 a) ∧ ∀ u, 0 ≤ u → u < y.1 → y.2 204 u = M 222 (95 * i + u)) (fun y => (95 - y.1).toNat) ?_ (0, M1) ⟨⟨by simp, by simp⟩, fun _ _ => rfl, fun u u1 u2 => by have : u < 0 := u2; omega⟩
  rintro ⟨c, M2⟩ ⟨hc, f2, w2⟩ P hP
  dsimp only at hc f2 w2 hP ⊢
  unfold w_X12_again_27b
  rw [rm_0, rm_30]
  refine ⟨⟨by omega, by omega⟩, fun hend => ?_, fun hgo => ⟨⟨by omega, by omega⟩, ⟨by omega, by omega⟩, ?_⟩⟩
  · rintro M3 rfl
    refine q1 ⟨by omega, by omega, h1⟩ _ ((e0.tr (eqh.n (b := 204) (fun x => by unfold mph; omega) f2)).tr (eqh.up (by unfold mph; omega))) ((sc.eq (fun a a1 a2 => by rw [f2 a (by omega), f0 a (by omega)])).up) pu_eq (fun x x1 x2 => by rw [pu_ne (by decide)]; exact w2 x x1 (by omega))
  · rintro M3 rfl
    refine hP (c + 1, _) ⟨⟨by show 0 ≤ c + 1; omega, by show c + 1 ≤ 95; omega⟩, fun a ha => (pu_row ha).trans (f2 a ha), fun u u1 u2 => ?_⟩ (by show (95 - (c + 1)).toNat < (95 - c).toNat; omega)
    have u2' : u < c + 1 := u2
    show pj_up M2 204 c (M2 222 (95 * i + c)) 204 u = _
    by_cases e : u = c
    · rw [e, pu_eq, f2 222 (by decide), f0 222 (by decide)]
    · rw [pu_nk e]; exact w2 u u1 (by omega)
end
