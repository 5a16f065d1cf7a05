/-- bits of signs -/
def bsig (P : Nat → Prop) (r : Int) : Prop := ∃ R : Nat, r = (R : Int) ∧ R < 256 ∧ ∀ t, R.testBit t = true ↔ P t
theorem bsig.uniq {P : Nat → Prop} {r r' : Int} (h : bsig P r) (h' : bsig P r') : r = r' := by
  obtain ⟨R, rfl, _, h1⟩ := h
  obtain ⟨R', rfl, _, h2⟩ := h'
  have : R = R' := Nat.eq_of_testBit_eq (fun i => by
    have a := h1 i
    have b := h2 i
    cases h3 : R.testBit i <;> cases h4 : R'.testBit i <;> simp_all)
  rw [this]
/-- what is said of a capital without a line -/
def capsp (G : gr_G) (st x : Nat) (what r : Int) : Prop :=
  (what = 1 → (r = 1 ∧ gr_gd G 8 x) ∨ (r = 0 ∧ ¬ gr_gd G 8 x)) ∧
  (what = 2 → (r = 1 ∧ grc G st x) ∨ (r = 0 ∧ ¬ grc G st x)) ∧
  (what = 3 → (r = 1 ∧ kl G kz x 0 0 0) ∨ (r = 0 ∧ ¬ kl G kz x 0 0 0)) ∧
  (4 ≤ what → (r = -2 ∧ ¬ gr_gd G 8 x) ∨ (gr_gd G 8 x ∧ (what = 4 → ∃ n : Nat, r = (n : Int) ∧ kl G kz x 0 0 n) ∧ (what = 5 → bsig (fun t => gr_pf G 8 x [t]) r) ∧ (what = 6 → bsig (fun t => gr_sf G 8 x [t]) r) ∧ (what = 7 → bsig (fun t => gr_if G 8 x [t]) r)))
theorem capsp.uniq {G : gr_G} {st x : Nat} {what r r' : Int} (hw : 1 ≤ what ∧ what ≤ 7) (h : capsp G st x what r) (h' : capsp G st x what r') : r = r' := by
  have w7 : what = 1 ∨ what = 2 ∨ what = 3 ∨ what = 4 ∨ what = 5 ∨ what = 6 ∨ what = 7 := by omega
  have w4 : what = 4 ∨ what = 5 ∨ what = 6 ∨ what = 7 → 4 ≤ what := by omega
  obtain ⟨a1, a2, a3, a4⟩ := h
  obtain ⟨b1, b2, b3, b4⟩ := h'
  rcases w7 with e1 | e2 | e3 | e4
  · rcases a1 e1 with ⟨h1, h2⟩ | ⟨h1, h2⟩ <;> rcases b1 e1 with ⟨g1, g2⟩ | ⟨g1, g2⟩ <;> first | exact h1.trans g1.symm | exact absurd h2 g2 | exact absurd g2 h2
  · rcases a2 e2 with ⟨h1, h2⟩ | ⟨h1, h2⟩ <;> rcases b2 e2 with ⟨g1, g2⟩ | ⟨g1, g2⟩ <;> first | exact h1.trans g1.symm | exact absurd h2 g2 | exact absurd g2 h2
  · rcases a3 e3 with ⟨h1, h2⟩ | ⟨h1, h2⟩ <;> rcases b3 e3 with ⟨g1, g2⟩ | ⟨g1, g2⟩ <;> first | exact h1.trans g1.symm | exact absurd h2 g2 | exact absurd g2 h2
  · rcases a4 (w4 e4) with ⟨h1, h2⟩ | ⟨h1, h2, h3, h4, h5⟩ <;> rcases b4 (w4 e4) with ⟨g1, g2⟩ | ⟨g1, g2, g3, g4, g5⟩
    · exact h1.trans g1.symm
    · exact absurd g1 h2
    · exact absurd h1 g2
    · rcases e4 with e4 | e5 | e6 | e7
      · obtain ⟨n, rfl, hn⟩ := h2 e4
        obtain ⟨m, rfl, hm⟩ := g2 e4
        rw [kl_uniq hn hm]
      · exact (h3 e5).uniq (g3 e5)
      · exact (h4 e6).uniq (g4 e6)
      · exact (h5 e7).uniq (g5 e7)
theorem t_yieldsSomething {M : pj_M} {b x : Nat} {Q : Int → pj_M → Prop} (hb : isF b) (fo : fok M b) (hx : x < 6) (q : ∀ r, (r = 0 ∨ r = 1) → (r = 1 ↔ gr_gd (gof M b) 8 x) → Q r M) : w_X3_yieldsSomething (b + 4) (x : Int) M Q := by
  unfold w_X3_yieldsSomething
  rw [ff_0 hb]
  have hg := fo.gd hx
  have hv : 0 ≤ M (b + 5) (x : Int) ∧ M (b + 5) (x : Int) ≤ 1048576 := by
    rcases fo.1 x hx with ⟨n, h1, h2, _⟩ | ⟨h1, _⟩ <;> omega
  refine ⟨⟨by omega, by omega⟩, ⟨by omega, by omega⟩, fun h => q 0 (Or.inl rfl) ⟨fun h => absurd h (by decide), fun h' => ?_⟩, fun h => q 1 (Or.inr rfl) ⟨fun _ => hg.mp (by omega), fun _ => rfl⟩⟩
  have := hg.mpr h'
  omega
theorem t_tell {M : pj_M} {b x : Nat} {what : Int} {Q : Int → pj_M → Prop} (hb : isF b) (fo : fok M b) (hx : x < 6) (hw : 1 ≤ what ∧ what ≤ 7) (q : ∀ r, capsp (gof M b) (M b 4).toNat x what r → Q r M) : w_X3_tell (b + 4) (x : Int) what M Q := by
  obtain ⟨fs, fn, fr⟩ := fo
  have win : pj_in what := ⟨by omega, by omega⟩
  have ix : (0 : Int) ≤ (x : Int) ∧ (x : Int) < 6 := ⟨by omega, by omega⟩
  unfold w_X3_tell
  have hz : M (b + 5) (x : Int) = 0 ↔ kl (gof M b) kz x 0 0 0 := by
    rcases fs x hx with ⟨n, h1, h2, h3⟩ | ⟨h1, h2⟩
    · constructor
      · intro h
        have : n = 0 := by omega
        rw [this] at h3; exact h3
      · intro h
        rw [h1, kl_uniq h3 h]; rfl
    · constructor
      · intro h; omega
      · intro h
        obtain ⟨d, hd⟩ := h.1
        exact absurd (kw_gd hd) h2
  have hv : 0 ≤ M (b + 5) (x : Int) ∧ M (b + 5) (x : Int) ≤ 1048576 := by
    rcases fs x hx with ⟨n, h1, h2, _⟩ | ⟨h1, _⟩ <;> omega
  have bits : ∀ a : Nat, b8 M a → ∀ P : Nat → Prop, (∀ t, tbit (M a (x : Int)) t ↔ P t) → bsig P (M a (x : Int)) := by
    intro a h8 P hP
    have hb := h8 (x : Int) (by omega) (by omega)
    exact ⟨(M a (x : Int)).toNat, by omega, by omega, hP⟩
  rw [ff_0 hb, ff_1 hb, ff_2 hb, ff_3 hb]
  refine ⟨win, fun n1 => ⟨win, fun n2 => ⟨win, fun n3 => t_yieldsSomething hb ⟨fs, fn, fr⟩ hx (fun r hr hg => ⟨by rcases hr with h | h <;> rw [h] <;> exact ⟨by decide, by decide⟩, fun h0 => ?_, fun h0 => ?_⟩), fun n3 => ⟨ix, ⟨by omega, by omega⟩, fun h => ?_, fun h => ?_⟩⟩, fun n2 => ?_⟩, fun n1 => t_yieldsSomething hb ⟨fs, fn, fr⟩ hx (fun r hr hg => ⟨by rcases hr with h | h <;> rw [h] <;> exact ⟨by decide, by decide⟩, fun h => ?_, fun h => ?_⟩)⟩
  · have g : gr_gd (gof M b) 8 x := hg.mp (by omega)
    have fin : ∀ r, (what = 4 → ∃ n : Nat, r = (n : Int) ∧ kl (gof M b) kz x 0 0 n) → (what = 5 → bsig (fun t => gr_pf (gof M b) 8 x [t]) r) → (what = 6 → bsig (fun t => gr_sf (gof M b) 8 x [t]) r) → (what = 7 → bsig (fun t => gr_if (gof M b) 8 x [t]) r) → Q r M := fun r h4 h5 h6 h7 => q r ⟨fun h => absurd h n1, fun h => absurd h n2, fun h => absurd h n3, fun _ => Or.inr ⟨g, h4, h5, h6, h7⟩⟩
    refine ⟨win, fun n4 => ⟨win, fun n5 => ⟨win, fun n6 => ⟨ix, fin _ (fun h => absurd h n4) (fun h => absurd h n5) (fun h => absurd h n6) (fun _ => bits _ fn.1.2.2 _ (fun t => (fn.2 x t hx).2.2))⟩, fun n6 => ⟨ix, fin _ (fun h => absurd h n4) (fun h => absurd h n5) (fun _ => bits _ fn.1.2.1 _ (fun t => (fn.2 x t hx).2.1)) (fun h => by omega)⟩⟩, fun n5 => ⟨ix, fin _ (fun h => absurd h n4) (fun _ => bits _ fn.1.1 _ (fun t => (fn.2 x t hx).1)) (fun h => by omega) (fun h => by omega)⟩⟩, fun n4 => ⟨ix, fin _ (fun _ => ?_) (fun h => by omega) (fun h => by omega) (fun h => by omega)⟩⟩
    rcases fs x hx with ⟨n, h1, h2, h3⟩ | ⟨h1, h2⟩
    · exact ⟨n, h1, h3⟩
    · exact absurd g h2
  · have g : ¬ gr_gd (gof M b) 8 x := fun g => by have := hg.mpr g; omega
    exact q (-2) ⟨fun h => absurd h n1, fun h => absurd h n2, fun h => absurd h n3, fun _ => Or.inl ⟨rfl, g⟩⟩
  · exact q 0 ⟨fun h => absurd h n1, fun h => absurd h n2, fun _ => Or.inr ⟨rfl, fun h' => h (hz.mpr h')⟩, fun h => by omega⟩
  · exact q 1 ⟨fun h => absurd h n1, fun h => absurd h n2, fun _ => Or.inl ⟨rfl, hz.mp h⟩, fun h => by omega⟩
  · obtain ⟨R, h1, h2, h3⟩ := fr
    rw [h1, pb_bit (by omega) (by omega)]
    refine q _ ⟨fun h => absurd h n1, fun _ => ?_, fun h => by omega, fun h => by omega⟩
    by_cases e : R.testBit x = true
    · rw [e]; exact Or.inl ⟨rfl, (h3 x).mp e⟩
    · rw [if_neg e]; exact Or.inr ⟨rfl, fun h => e ((h3 x).mpr h)⟩
  · exact q 0 ⟨fun _ => Or.inr ⟨rfl, fun g => by have := hg.mpr g; omega⟩, fun h => by omega, fun h => by omega, fun h => by omega⟩
  · exact q 1 ⟨fun _ => Or.inl ⟨rfl, hg.mp (by omega)⟩, fun h => by omega, fun h => by omega, fun h => by omega⟩
