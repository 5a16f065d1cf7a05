theorem sg_mem {w : Int → Int} {i j : Int} {x : Nat} : x ∈ sg w i j ↔ ∃ t : Int, i ≤ t ∧ t < j ∧ (w t).toNat = x := by
  unfold sg
  rw [List.mem_map]
  constructor
  · rintro ⟨n, h1, h2⟩
    rw [List.mem_range] at h1
    exact ⟨i + (n : Int), by omega, by omega, h2⟩
  · rintro ⟨t, h1, h2, h3⟩
    exact ⟨(t - i).toNat, by rw [List.mem_range]; omega, by rw [show i + (((t - i).toNat : Nat) : Int) = t by omega]; exact h3⟩
theorem sq_nil {P : Nat → List Nat → Prop} : ∀ {ss : List Nat}, gr_sq 8 P ss [] ↔ ∀ s ∈ ss, 8 ≤ s ∧ P (s - 8) []
  | [] => ⟨fun _ s h => absurd h (List.not_mem_nil), fun _ => rfl⟩
  | s :: ss => by
    constructor
    · rintro ⟨u, v, e, h1, h2⟩ s' hs'
      obtain ⟨rfl, rfl⟩ := List.append_eq_nil_iff.mp e.symm
      rcases List.mem_cons.mp hs' with rfl | hs'
      · rcases h1 with ⟨_, h1⟩ | h1
        · cases h1
        · exact h1
      · exact sq_nil.mp h2 s' hs'
    · intro h
      exact ⟨[], [], rfl, Or.inr (h s (List.mem_cons_self ..)), sq_nil.mpr (fun s' hs' => h s' (List.mem_cons_of_mem _ hs'))⟩
theorem fl_gd {M : pj_M} {b : Nat} {k : Int} (v : gvl M b) (h : fsh M b) : ∀ n : Nat, (fl M b k n < 1048576 → ∀ i : Int, 0 ≤ i → i < (n : Int) → 8 ≤ M (b + 3) (k * 4 + i) → gr_gd (gof M b) 8 (M (b + 3) (k * 4 + i) - 8).toNat) ∧ ((∀ i : Int, 0 ≤ i → i < (n : Int) → 8 ≤ M (b + 3) (k * 4 + i) → gr_gd (gof M b) 8 (M (b + 3) (k * 4 + i) - 8).toNat) → fl M b k n ≤ 16384 * (n : Int))
  | 0 => ⟨fun _ i h1 h2 => by omega, fun _ => by show (0 : Int) ≤ 16384 * 0; decide⟩
  | n + 1 => by
    obtain ⟨h1, h2⟩ := fl_gd (k := k) v h n
    have hb := fl_b (k := k) v h.vs n
    have h3 := v.2.2.2.1 (k * 4 + (n : Int))
    unfold fl
    by_cases h8 : M (b + 3) (k * 4 + (n : Int)) < 8
    · rw [if_pos h8]
      refine ⟨fun hl i i1 i2 i3 => ?_, fun hg => ?_⟩
      · by_cases e : i = (n : Int)
        · subst e; omega
        · exact h1 (by omega) i i1 (by omega) i3
      · have := h2 (fun i i1 i2 i3 => hg i i1 (by omega) i3)
        omega
    · rw [if_neg h8]
      have hx := h (M (b + 3) (k * 4 + (n : Int)) - 8).toNat (by omega)
      have hgd := h.gd (x := (M (b + 3) (k * 4 + (n : Int)) - 8).toNat) (by omega)
      rw [show (((M (b + 3) (k * 4 + (n : Int)) - 8).toNat : Nat) : Int) = M (b + 3) (k * 4 + (n : Int)) - 8 by omega] at hx hgd
      have hvs := h.vs (M (b + 3) (k * 4 + (n : Int)) - 8) (by omega) (by omega)
      refine ⟨fun hl i i1 i2 i3 => ?_, fun hg => ?_⟩
      · by_cases e : i = (n : Int)
        · subst e
          exact hgd.mp (by omega)
        · exact h1 (by omega) i i1 (by omega) i3
      · have := h2 (fun i i1 i2 i3 => hg i i1 (by omega) i3)
        rcases hx with ⟨m, m1, m2, _⟩ | ⟨m1, m2⟩
        · omega
        · exact absurd (hg (n : Int) (by omega) (by omega) (by omega)) m2
theorem fl_gs {M : pj_M} {b : Nat} {k : Nat} (v : gvl M b) (h : fsh M b) : min (fl M b (k : Int) (M (b + 2) (k : Int)).toNat) 1048576 < 1048576 ↔ gr_gs (gof M b) 8 ((gof M b).2.2 k) := by
  have hz := v.2.2.1 (k : Int)
  obtain ⟨h1, h2⟩ := fl_gd (k := (k : Int)) v h (M (b + 2) (k : Int)).toNat
  have hmem : ∀ s, s ∈ (gof M b).2.2 k ↔ ∃ t : Int, 0 ≤ t ∧ t < M (b + 2) (k : Int) ∧ (M (b + 3) ((k : Int) * 4 + t)).toNat = s := fun s => sg_mem (w := gs_ M b (k : Int)) (i := 0) (j := M (b + 2) (k : Int)) (x := s)
  constructor
  · intro hl s hs h8
    obtain ⟨t, t1, t2, rfl⟩ := (hmem s).mp hs
    have := h1 (by omega) t t1 (by omega) (by omega)
    rwa [show (M (b + 3) ((k : Int) * 4 + t)).toNat - 8 = (M (b + 3) ((k : Int) * 4 + t) - 8).toNat by omega]
  · intro hg
    have := h2 (fun i i1 i2 i3 => by
      have := hg _ ((hmem _).mpr ⟨i, i1, by omega, rfl⟩) (by omega)
      rwa [show (M (b + 3) ((k : Int) * 4 + i)).toNat - 8 = (M (b + 3) ((k : Int) * 4 + i) - 8).toNat by omega] at this)
    omega
/-- the sets of signs are right -/
def fsn (M : pj_M) (b : Nat) : Prop := (b8 M (b + 6) ∧ b8 M (b + 7) ∧ b8 M (b + 8)) ∧ ∀ x t : Nat, x < 6 → (tbit (M (b + 6) (x : Int)) t ↔ gr_pf (gof M b) 8 x [t]) ∧ (tbit (M (b + 7) (x : Int)) t ↔ gr_sf (gof M b) 8 x [t]) ∧ (tbit (M (b + 8) (x : Int)) t ↔ gr_if (gof M b) 8 x [t])
def fmu (M : pj_M) (b : Nat) : Nat → Nat
  | 0 => 0
  | x + 1 => fmu M b x + (bcn (M (b + 6) (x : Int)).toNat 8 + bcn (M (b + 7) (x : Int)).toNat 8 + bcn (M (b + 8) (x : Int)).toNat 8)
theorem fmu_le (M : pj_M) (b : Nat) : ∀ n, fmu M b n ≤ 24 * n
  | 0 => Nat.le_refl _
  | n + 1 => by
    have := fmu_le M b n
    have := bcn_le (M (b + 6) (n : Int)).toNat 8
    have := bcn_le (M (b + 7) (n : Int)).toNat 8
    have := bcn_le (M (b + 8) (n : Int)).toNat 8
    unfold fmu; omega
theorem bcn_ne {v w n : Nat} (h : ∀ i, v.testBit i = true → w.testBit i = true) (hw : w < 2 ^ n) : bcn v n ≤ bcn w n ∧ (w ≠ v → bcn v n < bcn w n) := by
  refine ⟨bcn_mono h n, fun hne => ?_⟩
  have : ∃ p, p < n ∧ w.testBit p = true ∧ v.testBit p = false := by
    refine Classical.byContradiction fun hno => hne (Nat.eq_of_testBit_eq fun i => ?_)
    by_cases h1 : w.testBit i = true
    · by_cases h2 : v.testBit i = true
      · rw [h1, h2]
      · refine absurd ⟨i, ?_, h1, by simpa using h2⟩ hno
        apply Nat.lt_of_not_le
        intro hle
        have : w.testBit i = false := Nat.testBit_lt_two_pow (Nat.lt_of_lt_of_le hw (Nat.pow_le_pow_right (by decide) hle))
        rw [this] at h1; cases h1
    · have h2 : ¬ v.testBit i = true := fun h2 => h1 (h i h2)
      rw [Bool.not_eq_true] at h1 h2
      rw [h1, h2]
  obtain ⟨p, p1, p2, p3⟩ := this
  exact bcn_lt h p3 p2 n p1
theorem fmu_up {M M' : pj_M} {b o B E I B0 E0 I0 : Nat} (hM : M' = pj_up (pj_up (pj_up M (b + 6) (o : Int) (B : Int)) (b + 7) (o : Int) (E : Int)) (b + 8) (o : Int) (I : Int)) (eB : M (b + 6) (o : Int) = (B0 : Int)) (eE : M (b + 7) (o : Int) = (E0 : Int)) (eI : M (b + 8) (o : Int) = (I0 : Int)) (hB : B < 256) (hE : E < 256) (hI : I < 256) (sB : ∀ i, B0.testBit i = true → B.testBit i = true) (sE : ∀ i, E0.testBit i = true → E.testBit i = true) (sI : ∀ i, I0.testBit i = true → I.testBit i = true) : ∀ n, fmu M b n ≤ fmu M' b n ∧ (¬ (B = B0 ∧ E = E0 ∧ I = I0) → o < n → fmu M b n < fmu M' b n)
  | 0 => ⟨Nat.le_refl _, fun _ h => absurd h (Nat.not_lt_zero _)⟩
  | n + 1 => by
    obtain ⟨ih1, ih2⟩ := fmu_up hM eB eE eI hB hE hI sB sE sI n
    unfold fmu
    by_cases e0 : n = o
    · subst e0
      rw [show M' (b + 6) (n : Int) = (B : Int) by rw [hM, pu_ne (by omega), pu_ne (by omega), pu_eq], show M' (b + 7) (n : Int) = (E : Int) by rw [hM, pu_ne (by omega), pu_eq], show M' (b + 8) (n : Int) = (I : Int) by rw [hM, pu_eq], eB, eE, eI]
      simp only [Int.toNat_natCast]
      obtain ⟨b1, b2⟩ := bcn_ne (n := 8) sB hB
      obtain ⟨e1, e2⟩ := bcn_ne (n := 8) sE hE
      obtain ⟨i1, i2⟩ := bcn_ne (n := 8) sI hI
      refine ⟨by omega, fun hne _ => ?_⟩
      by_cases c1 : B = B0
      · by_cases c2 : E = E0
        · have := i2 (fun c3 => hne ⟨c1, c2, c3⟩); omega
        · have := e2 c2; omega
      · have := b2 c1; omega
    · have c17 : ∀ a, M' a (n : Int) = M a (n : Int) := fun a => by rw [hM, pu_nk (by omega), pu_nk (by omega), pu_nk (by omega)]
      rw [c17, c17, c17]
      refine ⟨by omega, fun h1 h2 => ?_⟩
      have := ih2 h1 (by omega)
      omega
/-- an alternative adds no sign more -/
def fcl (M : pj_M) (b : Nat) (k : Int) : Prop := ∀ t, (fB M b k (M (b + 2) k) (M (b + 2) k).toNat t → tbit (M (b + 6) (M (b + 1) k)) t) ∧ (fE M b k (M (b + 2) k) (M (b + 2) k).toNat t → tbit (M (b + 7) (M (b + 1) k)) t) ∧ (fN M b k (M (b + 2) k) (M (b + 2) k).toNat t → tbit (M (b + 8) (M (b + 1) k)) t)
theorem fsg_s {M : pj_M} {a b : Nat} {s : Int} {t : Nat} {P : Nat → List Nat → Prop} (hs : 0 ≤ s ∧ s ≤ 13) (h : ∀ x : Nat, x < 6 → tbit (M a (x : Int)) t → P x [t]) (hf : fsg M a s t) : gr_sp 8 P s.toNat [t] := by
  rcases hf with ⟨h1, h2⟩ | ⟨h1, h2⟩
  · exact Or.inl ⟨by omega, Or.inr (by rw [show s.toNat = t by omega])⟩
  · refine Or.inr ⟨by omega, ?_⟩
    rw [show s.toNat - 8 = (s - 8).toNat by omega]
    exact h _ (by omega) (by rw [show (((s - 8).toNat : Nat) : Int) = s - 8 by omega]; exact h2)
theorem t_findSigns {M : pj_M} {b : Nat} {Q : pj_M → Prop} (hb : isF b) (v : gvl M b) (fs : fsh M b) (q : ∀ M', eqf b M M' → (∀ a, a ≠ b + 6 → a ≠ b + 7 → a ≠ b + 8 → M' a = M a) → fsn M' b → Q M') : w_X3_findSigns (b + 4) b M Q := by
  let St : Nat → pj_M → Prop := fun n M1 => (∀ a, a ≠ b + 6 → a ≠ b + 7 → a ≠ b + 8 → M1 a = M a) ∧ ∀ x : Nat, x < n → ((0 ≤ M1 (b + 6) (x : Int) ∧ M1 (b + 6) (x : Int) < 256) ∧ (0 ≤ M1 (b + 7) (x : Int) ∧ M1 (b + 7) (x : Int) < 256) ∧ (0 ≤ M1 (b + 8) (x : Int) ∧ M1 (b + 8) (x : Int) < 256)) ∧ ∀ t, (tbit (M1 (b + 6) (x : Int)) t → gr_pf (gof M b) 8 x [t]) ∧ (tbit (M1 (b + 7) (x : Int)) t → gr_sf (gof M b) 8 x [t]) ∧ (tbit (M1 (b + 8) (x : Int)) t → gr_if (gof M b) 8 x [t])
  have stf : ∀ n M1, St n M1 → eqf b M M1 := fun n M1 h a x ha => by rw [h.1 a (by omega) (by omega) (by omega)]
  have st8 : ∀ M1, St 6 M1 → b8 M1 (b + 6) ∧ b8 M1 (b + 7) ∧ b8 M1 (b + 8) := fun M1 h => by
    refine ⟨fun x h1 h2 => ?_, fun x h1 h2 => ?_, fun x h1 h2 => ?_⟩
    all_goals obtain ⟨n, rfl⟩ : ∃ n : Nat, x = (n : Int) := ⟨_, (Int.toNat_of_nonneg h1).symm⟩
    · exact (h.2 n (by omega)).1.1
    · exact (h.2 n (by omega)).1.2.1
    · exact (h.2 n (by omega)).1.2.2
  unfold w_X3_findSigns w_X3_findSigns_2
  refine pj_lp_inv (fun y : Int × pj_M => ∃ n : Nat, y.1 = (n : Int) ∧ n ≤ 6 ∧ St n y.2) (fun y => (6 - y.1).toNat) ?_ (0, M) ⟨0, rfl, by decide, fun _ _ _ _ => rfl, fun x h => absurd h (Nat.not_lt_zero _)⟩
  rintro ⟨x1, M0⟩ ⟨n0, e1, a1, a2⟩ P0 hP0
  dsimp only at e1 a2 hP0 ⊢
  subst e1
  unfold w_X3_findSigns_2b
  rw [ff_1 hb, ff_2 hb, ff_3 hb]
  refine ⟨⟨by omega, by omega⟩, fun hc0 => ?_, fun hc0 => ⟨⟨by omega, by omega⟩, ?_⟩⟩
  rotate_left
  · rintro M1 rfl
    refine ⟨⟨by omega, by omega⟩, ?_⟩
    rintro M2 rfl
    refine ⟨⟨by omega, by omega⟩, ?_⟩
    rintro M3 rfl
    generalize hM9 : pj_up (pj_up (pj_up M0 (b + 6) (n0 : Int) 0) (b + 7) (n0 : Int) 0) (b + 8) (n0 : Int) 0 = M9
    refine hP0 ((n0 : Int) + 1, M9) ⟨n0 + 1, by show (n0 : Int) + 1 = _; omega, by omega, fun a h1 h2 h3 => ?_, fun x h => ?_⟩ (by show (6 - ((n0 : Int) + 1)).toNat < (6 - (n0 : Int)).toNat; omega)
    · show M9 a = _
      rw [← a2.1 a h1 h2 h3, ← hM9]; exact funext fun x => by rw [pu_ne h3, pu_ne h2, pu_ne h1]
    · show ((0 ≤ M9 (b + 6) _ ∧ M9 (b + 6) _ < _) ∧ (0 ≤ M9 (b + 7) _ ∧ M9 (b + 7) _ < _) ∧ (0 ≤ M9 (b + 8) _ ∧ M9 (b + 8) _ < _)) ∧ ∀ t, (tbit (M9 (b + 6) _) t → _) ∧ (tbit (M9 (b + 7) _) t → _) ∧ (tbit (M9 (b + 8) _) t → _)
      by_cases e : x = n0
      · subst e
        rw [show M9 (b + 6) (x : Int) = 0 by rw [← hM9, pu_ne (by omega), pu_ne (by omega), pu_eq], show M9 (b + 7) (x : Int) = 0 by rw [← hM9, pu_ne (by omega), pu_eq], show M9 (b + 8) (x : Int) = 0 by rw [← hM9, pu_eq]]
        have h0 : ∀ t, ¬ tbit 0 t := fun t h => by unfold tbit at h; simp at h
        exact ⟨⟨⟨by decide, by decide⟩, ⟨by decide, by decide⟩, ⟨by decide, by decide⟩⟩, fun t => ⟨fun h => absurd h (h0 t), fun h => absurd h (h0 t), fun h => absurd h (h0 t)⟩⟩
      · have o9 : ∀ a, M9 a (x : Int) = M0 a (x : Int) := fun a => by rw [← hM9, pu_nk (by omega), pu_nk (by omega), pu_nk (by omega)]
        rw [o9, o9, o9]; exact a2.2 x (by omega)
  clear hP0 P0
  have hn6 : n0 = 6 := by omega
  subst hn6
  have hmem : ∀ (k : Nat) s, s ∈ (gof M b).2.2 k ↔ ∃ t : Int, 0 ≤ t ∧ t < M (b + 2) (k : Int) ∧ (M (b + 3) ((k : Int) * 4 + t)).toNat = s := fun k s => sg_mem (w := gs_ M b (k : Int)) (i := 0) (j := M (b + 2) (k : Int)) (x := s)
  have fin : ∀ M1, St 6 M1 → (∀ k : Nat, (k : Int) < M b 3 → gr_gs (gof M b) 8 ((gof M b).2.2 k) → fcl M1 b (k : Int)) → Q M1 := by
    intro M1 hS hcl
    have e1 := stf 6 M1 hS
    have r1 : M1 (b + 1) = M (b + 1) := hS.1 _ (by omega) (by omega) (by omega)
    have r2 : M1 (b + 2) = M (b + 2) := hS.1 _ (by omega) (by omega) (by omega)
    have r3 : M1 (b + 3) = M (b + 3) := hS.1 _ (by omega) (by omega) (by omega)
    have r5 : M1 (b + 5) = M (b + 5) := hS.1 _ (by omega) (by omega) (by omega)
    -- vanishing
    have van : ∀ (k : Nat) (P : Nat → List Nat → Prop) (i j t : Int), (∀ x w, P x w → gr_y (gof M b) 8 x w) → gr_sq 8 P (sg (gs_ M b (k : Int)) i j) [] → i ≤ t → t < j → fvn M1 b (M1 (b + 3) ((k : Int) * 4 + t)) := by
      intro k P i j t hP hq h1 h2
      have h3 := v.2.2.2.1 ((k : Int) * 4 + t)
      have h4 := sq_nil.mp hq (M (b + 3) ((k : Int) * 4 + t)).toNat (sg_mem.mpr ⟨t, h1, h2, rfl⟩)
      unfold fvn
      rw [r3, r5]
      refine ⟨by omega, ?_⟩
      have h5 := (fs.nil (x := (M (b + 3) ((k : Int) * 4 + t)).toNat - 8) (by omega)).mpr (hP _ _ h4.2)
      rwa [show (((M (b + 3) ((k : Int) * 4 + t)).toNat - 8 : Nat) : Int) = M (b + 3) ((k : Int) * 4 + t) - 8 by omega] at h5
    have com : ∀ (d x t : Nat), (∀ y, gr_yd (gof M b) 8 d x (t :: y) → tbit (M1 (b + 6) (x : Int)) t) ∧ (∀ y, gr_yd (gof M b) 8 d x (y ++ [t]) → tbit (M1 (b + 7) (x : Int)) t) ∧ (∀ w, gr_yd (gof M b) 8 d x w → t ∈ w → tbit (M1 (b + 8) (x : Int)) t) := by
      intro d
      induction d with
      | zero => exact fun _ _ => ⟨fun _ h => h.elim, fun _ h => h.elim, fun _ h _ => h.elim⟩
      | succ d ih =>
        intro x t
        have run : ∀ w, gr_yd (gof M b) 8 (d + 1) x w → ∃ k : Nat, (k : Int) < M b 3 ∧ M (b + 1) (k : Int) = (x : Int) ∧ fcl M1 b (k : Int) ∧ gr_sq 8 (gr_yd (gof M b) 8 d) (sg (gs_ M b (k : Int)) 0 (M (b + 2) (k : Int))) w := by
          rintro w ⟨k, k1, k2, k3⟩
          have hk : (k : Int) < M b 3 := by have : k < (M b 3).toNat := k1; omega
          have hown := v.2.1 (k : Int)
          refine ⟨k, hk, by have : (M (b + 1) (k : Int)).toNat = x := k2; omega, hcl k hk ?_, k3⟩
          exact gr_gs_sq.mpr ⟨w, gr_sq_mono (fun c w h => ⟨d, h⟩) k3⟩
        have sgn : ∀ (k : Nat) (a : Nat) (i : Int) (s : Nat), 0 ≤ i → (M (b + 3) ((k : Int) * 4 + i)).toNat = s → ((s < 8 ∧ s = t) ∨ (8 ≤ s ∧ tbit (M1 a ((s - 8 : Nat) : Int)) t)) → fsg M1 a (M1 (b + 3) ((k : Int) * 4 + i)) t := by
          intro k a i s hi hs h
          have h3 := v.2.2.2.1 ((k : Int) * 4 + i)
          rw [r3]
          rcases h with ⟨h4, h5⟩ | ⟨h4, h5⟩
          · exact Or.inl ⟨by omega, by omega⟩
          · refine Or.inr ⟨by omega, ?_⟩
            rwa [show M (b + 3) ((k : Int) * 4 + i) - 8 = ((s - 8 : Nat) : Int) by omega]
        refine ⟨fun y h => ?_, fun y h => ?_, fun w h ht => ?_⟩
        · obtain ⟨k, g1, g2, g3, g4⟩ := run _ h
          have hz := v.2.2.1 (k : Int)
          obtain ⟨a, s, c, c1, c2, c3⟩ := gr_pre1 g4
          obtain ⟨m, m1, m2, rfl, m4⟩ := sg_split (by omega) c1
          have hmz : m < M (b + 2) (k : Int) := by
            apply Classical.byContradiction; intro hh
            rw [show m = M (b + 2) (k : Int) by omega, sg_nil] at m4; cases m4
          rw [sg_cons hmz] at m4
          injection m4 with m5 m6
          have h5 := (g3 t).1
          rw [r1, r2, g2] at h5
          refine h5 ⟨m.toNat, by omega, fun j hj => ?_, ?_⟩
          · exact van k _ 0 m (j : Int) (fun x w h => ⟨d, h⟩) c2 (by omega) (by omega)
          · rw [show ((m.toNat : Nat) : Int) = m by omega]
            refine sgn k (b + 6) m s m1 m5.symm ?_
            rcases c3 with c3 | ⟨c3, y', c4⟩
            · exact Or.inl c3
            · exact Or.inr ⟨c3, (ih _ t).1 y' c4⟩
        · obtain ⟨k, g1, g2, g3, g4⟩ := run _ h
          have hz := v.2.2.1 (k : Int)
          obtain ⟨a, s, c, c1, c2, c3⟩ := gr_suf1 g4
          obtain ⟨m, m1, m2, rfl, m4⟩ := sg_split (by omega) c1
          have hmz : m < M (b + 2) (k : Int) := by
            apply Classical.byContradiction; intro hh
            rw [show m = M (b + 2) (k : Int) by omega, sg_nil] at m4; cases m4
          rw [sg_cons hmz] at m4
          injection m4 with m5 m6
          subst m6
          have h5 := (g3 t).2.1
          rw [r1, r2, g2] at h5
          refine h5 ⟨(M (b + 2) (k : Int) - 1 - m).toNat, by omega, fun j hj => ?_, ?_⟩
          · exact van k _ (m + 1) (M (b + 2) (k : Int)) (M (b + 2) (k : Int) - 1 - (j : Int)) (fun x w h => ⟨d, h⟩) c2 (by omega) (by omega)
          · rw [show M (b + 2) (k : Int) - 1 - (((M (b + 2) (k : Int) - 1 - m).toNat : Nat) : Int) = m by omega]
            refine sgn k (b + 7) m s m1 m5.symm ?_
            rcases c3 with c3 | ⟨c3, y', c4⟩
            · exact Or.inl c3
            · exact Or.inr ⟨c3, (ih _ t).2.1 y' c4⟩
        · obtain ⟨k, g1, g2, g3, g4⟩ := run _ h
          obtain ⟨s, c1, c2⟩ := gr_mem1 g4 ht
          obtain ⟨i, i1, i2, i3⟩ := sg_mem.mp c1
          have h5 := (g3 t).2.2
          rw [r1, r2, g2] at h5
          refine h5 ⟨i.toNat, by omega, ?_⟩
          rw [show ((i.toNat : Nat) : Int) = i by omega]
          refine sgn k (b + 8) i s i1 i3 ?_
          rcases c2 with c2 | ⟨c2, y', c3, c4⟩
          · exact Or.inl c2
          · exact Or.inr ⟨c2, (ih _ t).2.2 y' c3 c4⟩
    refine q M1 e1 hS.1 ⟨st8 M1 hS, fun x t hx => ?_⟩
    rw [gof.eqf e1]
    have h5 := (hS.2 x hx).2 t
    refine ⟨⟨h5.1, ?_⟩, ⟨h5.2.1, ?_⟩, ⟨h5.2.2, ?_⟩⟩
    · rintro ⟨y, d, hd⟩; exact (com d x t).1 y hd
    · rintro ⟨y, d, hd⟩; exact (com d x t).2.1 y hd
    · intro h
      obtain ⟨w, ⟨d, hd⟩, ht⟩ := gr_if_mem.mp h
      exact (com d x t).2.2 w hd ht
  unfold w_X3_findSigns_39
  refine pj_lp_inv (fun y : Int × Int × pj_M => ∃ r : Nat, y.2.1 = (r : Int) ∧ St 6 y.2.2 ∧ r ≤ fmu y.2.2 b 6 + 1 ∧ ((y.1 = 1 ∧ r ≤ fmu y.2.2 b 6) ∨ (y.1 = 0 ∧ ∀ k : Nat, (k : Int) < M b 3 → gr_gs (gof M b) 8 ((gof M b).2.2 k) → fcl y.2.2 b (k : Int)))) (fun y => (1000 - y.2.1).toNat) ?_ (1, 0, M0) ⟨0, rfl, a2, Nat.zero_le _, Or.inl ⟨rfl, Nat.zero_le _⟩⟩
  rintro ⟨x1, x2, M1⟩ ⟨r, e2, hS, hr1, hor⟩ P1 hP1
  dsimp only at e2 hS hr1 hor hP1 ⊢
  subst e2
  have hb6 := fmu_le M1 b 6
  unfold w_X3_findSigns_39b
  refine ⟨⟨by omega, by omega⟩, fun h => by omega, fun _ => ⟨by rcases hor with ⟨h, _⟩ | ⟨h, _⟩ <;> rw [h] <;> exact ⟨by decide, by decide⟩, fun h0 => ?_, fun h0 => ?_⟩⟩
  · rcases hor with ⟨h, _⟩ | ⟨_, h⟩
    · omega
    · exact fin M1 hS h
  have hr : r ≤ fmu M1 b 6 := by
    rcases hor with ⟨_, h⟩ | ⟨h, _⟩
    · exact h
    · exact absurd h h0
  unfold w_X3_findSigns_55
  refine pj_lp_inv (fun y : Int × Int × pj_M => ∃ k : Nat, y.2.1 = (k : Int) ∧ (k : Int) ≤ M b 3 ∧ St 6 y.2.2 ∧ ((y.1 = 0 ∧ y.2.2 = M1 ∧ ∀ k' : Nat, k' < k → gr_gs (gof M b) 8 ((gof M b).2.2 k') → fcl M1 b (k' : Int)) ∨ (y.1 = 1 ∧ fmu M1 b 6 < fmu y.2.2 b 6))) (fun y => (M b 3 - y.2.1).toNat) ?_ (0, 0, M1) ⟨0, rfl, by show (0 : Int) ≤ _; have := v.1; omega, hS, Or.inl ⟨rfl, rfl, fun k' h => absurd h (Nat.not_lt_zero _)⟩⟩
  rintro ⟨x1', x4, M2⟩ ⟨k, e3, d0, dS, d3⟩ P2 hP2
  dsimp only at e3 d0 dS d3 hP2 ⊢
  subst e3
  have eM2 := stf 6 M2 dS
  have v2 := v.eqf eM2
  have gM2 : gof M2 b = gof M b := gof.eqf eM2
  have r1 : M2 (b + 1) = M (b + 1) := dS.1 _ (by omega) (by omega) (by omega)
  have r2 : M2 (b + 2) = M (b + 2) := dS.1 _ (by omega) (by omega) (by omega)
  have r3 : M2 (b + 3) = M (b + 3) := dS.1 _ (by omega) (by omega) (by omega)
  have r5 : M2 (b + 5) = M (b + 5) := dS.1 _ (by omega) (by omega) (by omega)
  have fs2 : fsh M2 b := by
    unfold fsh
    rw [gM2, r5]; exact fs
  have hn12 := v.1
  unfold w_X3_findSigns_55b
  rw [dS.1 b (by omega) (by omega) (by omega)]
  refine ⟨⟨by omega, by omega⟩, ⟨by omega, by omega⟩, fun hend => ?_, fun hend => ?_⟩
  · rcases d3 with ⟨f1, f2, f3⟩ | ⟨f1, f2⟩
    · refine hP1 (x1', (r : Int) + 1, M2) ⟨r + 1, by show (r : Int) + 1 = _; omega, dS, by show r + 1 ≤ fmu M2 b 6 + 1; rw [f2]; omega, Or.inr ⟨f1, fun k' hk' hg => by show fcl M2 b _; rw [f2]; exact f3 k' (by omega) hg⟩⟩ (by show (1000 - ((r : Int) + 1)).toNat < (1000 - (r : Int)).toNat; omega)
    · refine hP1 (x1', (r : Int) + 1, M2) ⟨r + 1, by show (r : Int) + 1 = _; omega, dS, by show r + 1 ≤ fmu M2 b 6 + 1; omega, Or.inl ⟨f1, by show r + 1 ≤ fmu M2 b 6; omega⟩⟩ (by show (1000 - ((r : Int) + 1)).toNat < (1000 - (r : Int)).toNat; omega)
  · have ho2 := v.2.1 (k : Int)
    obtain ⟨b6, b7, b88⟩ := st8 M2 dS
    refine t_lengthOf hb v2 fs2.vs ⟨by omega, by omega⟩ (fun t ht => ?_)
    have hgs := fl_gs (k := k) v2 fs2
    rw [← ht, gM2] at hgs
    have hfb := fl_b (k := (k : Int)) v2 fs2.vs (M2 (b + 2) (k : Int)).toNat
    refine ⟨⟨by omega, by omega⟩, fun hle => ?_, fun hle => ?_⟩
    · refine hP2 (x1', (k : Int) + 1, M2) ⟨k + 1, by show (k : Int) + 1 = _; omega, by omega, dS, ?_⟩ (by show (M b 3 - ((k : Int) + 1)).toNat < (M b 3 - (k : Int)).toNat; omega)
      rcases d3 with ⟨f1, f2, f3⟩ | f
      · refine Or.inl ⟨f1, f2, fun k' hk' hg => ?_⟩
        by_cases e : k' = k
        · subst e; have := hgs.mpr hg; omega
        · exact f3 k' (by omega) hg
      · exact Or.inr f
    · have hgd := hgs.mp (by omega)
      obtain ⟨o, ho3⟩ : ∃ o : Nat, M (b + 1) (k : Int) = (o : Int) := ⟨_, (Int.toNat_of_nonneg ho2.1).symm⟩
      refine t_addSigns hb v2 fs2.vs b6 b7 b88 ⟨by omega, by omega⟩ (fun rr B E I hB hE hI r0 bB bE bI hrr => ?_)
      rw [r1, r2, ho3] at bB bE bI
      rw [r1, ho3] at hrr ⊢
      have oB := (dS.2 o (by omega)).1
      obtain ⟨B0, eB0⟩ : ∃ n : Nat, M2 (b + 6) (o : Int) = (n : Int) := ⟨_, (Int.toNat_of_nonneg oB.1.1).symm⟩
      obtain ⟨E0, eE0⟩ : ∃ n : Nat, M2 (b + 7) (o : Int) = (n : Int) := ⟨_, (Int.toNat_of_nonneg oB.2.1.1).symm⟩
      obtain ⟨I0, eI0⟩ : ∃ n : Nat, M2 (b + 8) (o : Int) = (n : Int) := ⟨_, (Int.toNat_of_nonneg oB.2.2.1).symm⟩
      have tb : ∀ (z n t : Nat), tbit (n : Int) t ↔ n.testBit t = true := fun z n t => by unfold tbit; rw [Int.toNat_natCast]
      rw [eB0] at bB hrr; rw [eE0] at bE hrr; rw [eI0] at bI hrr
      have hmu := fmu_up (M := M2) (b := b) (o := o) rfl eB0 eE0 eI0 hB hE hI (fun i h => (bB i).mpr (Or.inl ((tb 0 B0 i).mpr h))) (fun i h => (bE i).mpr (Or.inl ((tb 0 E0 i).mpr h))) (fun i h => (bI i).mpr (Or.inl ((tb 0 I0 i).mpr h))) 6
      generalize hM3 : pj_up (pj_up (pj_up M2 (b + 6) (o : Int) (B : Int)) (b + 7) (o : Int) (E : Int)) (b + 8) (o : Int) (I : Int) = M3
      rw [hM3] at hmu
      have hz := v.2.2.1 (k : Int)
      -- each addition is right
      have hown : (gof M b).2.1 k = o := by show (M (b + 1) (k : Int)).toNat = o; omega
      have hkG : k < (gof M b).1 := by show k < (M b 3).toNat; omega
      have hcut : ∀ i : Int, 0 ≤ i → i < M (b + 2) (k : Int) → (gof M b).2.2 k = sg (gs_ M b (k : Int)) 0 i ++ (M (b + 3) ((k : Int) * 4 + i)).toNat :: sg (gs_ M b (k : Int)) (i + 1) (M (b + 2) (k : Int)) := by
        intro i i1 i2
        show sg (gs_ M b (k : Int)) 0 (M (b + 2) (k : Int)) = _
        rw [← sg_app (w := gs_ M b (k : Int)) i1 (Int.le_of_lt i2), sg_cons i2]
      have gsub : ∀ i j : Int, 0 ≤ i → j ≤ M (b + 2) (k : Int) → gr_gs (gof M b) 8 (sg (gs_ M b (k : Int)) i j) := by
        intro i j i1 j1 s hs h8
        obtain ⟨t, t1, t2, t3⟩ := sg_mem.mp hs
        exact hgd s ((hmem k s).mpr ⟨t, by omega, by omega, t3⟩) h8
      have vanq : ∀ i j : Int, (∀ t : Int, i ≤ t → t < j → fvn M2 b (M2 (b + 3) ((k : Int) * 4 + t))) → gr_sq 8 (gr_y (gof M b) 8) (sg (gs_ M b (k : Int)) i j) [] := by
        intro i j h
        refine sq_nil.mpr (fun s hs => ?_)
        obtain ⟨t, t1, t2, rfl⟩ := sg_mem.mp hs
        have h3 := v.2.2.2.1 ((k : Int) * 4 + t)
        have h4 := h t t1 t2
        unfold fvn at h4
        rw [r3, r5] at h4
        show 8 ≤ (M (b + 3) ((k : Int) * 4 + t)).toNat ∧ gr_y (gof M b) 8 ((M (b + 3) ((k : Int) * 4 + t)).toNat - 8) []
        refine ⟨by omega, (fs.nil (by omega)).mp ?_⟩
        rw [show (((M (b + 3) ((k : Int) * 4 + t)).toNat - 8 : Nat) : Int) = M (b + 3) ((k : Int) * 4 + t) - 8 by omega]
        exact h4.2
      have sB : ∀ t, fB M2 b (k : Int) (M (b + 2) (k : Int)) (M (b + 2) (k : Int)).toNat t → gr_pf (gof M b) 8 o [t] := by
        rintro t ⟨i, i1, i2, i3⟩
        have h3 := v.2.2.2.1 ((k : Int) * 4 + (i : Int))
        rw [r3] at i3
        have := gr_pf_of hkG hown (hcut (i : Int) (by omega) (by omega)) (vanq 0 (i : Int) (fun t t1 t2 => by
          have := i2 t.toNat (by omega)
          rwa [show ((t.toNat : Nat) : Int) = t by omega] at this)) (fsg_s (b := b) h3 (fun x hx h => ((dS.2 x hx).2 t).1 h) i3) (gsub _ _ (by omega) (by omega))
        simpa using this
      have sE : ∀ t, fE M2 b (k : Int) (M (b + 2) (k : Int)) (M (b + 2) (k : Int)).toNat t → gr_sf (gof M b) 8 o [t] := by
        rintro t ⟨i, i1, i2, i3⟩
        have h3 := v.2.2.2.1 ((k : Int) * 4 + (M (b + 2) (k : Int) - 1 - (i : Int)))
        rw [r3] at i3
        have := gr_sf_of hkG hown (hcut (M (b + 2) (k : Int) - 1 - (i : Int)) (by omega) (by omega)) (fsg_s (b := b) h3 (fun x hx h => ((dS.2 x hx).2 t).2.1 h) i3) (vanq _ _ (fun t t1 t2 => by
          have := i2 (M (b + 2) (k : Int) - 1 - t).toNat (by omega)
          rwa [show M (b + 2) (k : Int) - 1 - (((M (b + 2) (k : Int) - 1 - t).toNat : Nat) : Int) = t by omega] at this)) (gsub _ _ (by omega) (by omega))
        simpa using this
      have sI : ∀ t, fN M2 b (k : Int) (M (b + 2) (k : Int)) (M (b + 2) (k : Int)).toNat t → gr_if (gof M b) 8 o [t] := by
        rintro t ⟨i, i1, i3⟩
        have h3 := v.2.2.2.1 ((k : Int) * 4 + (i : Int))
        rw [r3] at i3
        exact gr_if_of hkG hown (hcut (i : Int) (by omega) (by omega)) (fsg_s (b := b) h3 (fun x hx h => ((dS.2 x hx).2 t).2.2 h) i3) (gsub _ _ (by omega) (by omega)) (gsub _ _ (by omega) (by omega))
      have dS3 : St 6 M3 := by
        refine ⟨fun a h1 h2 h3 => ?_, fun x hx => ?_⟩
        · rw [← dS.1 a h1 h2 h3, ← hM3]; exact funext fun x => by rw [pu_ne h3, pu_ne h2, pu_ne h1]
        · by_cases e : x = o
          · subst e
            rw [show M3 (b + 6) (x : Int) = (B : Int) by rw [← hM3, pu_ne (by omega), pu_ne (by omega), pu_eq], show M3 (b + 7) (x : Int) = (E : Int) by rw [← hM3, pu_ne (by omega), pu_eq], show M3 (b + 8) (x : Int) = (I : Int) by rw [← hM3, pu_eq]]
            have h5 := (dS.2 x hx).2
            rw [eB0, eE0, eI0] at h5
            refine ⟨⟨⟨by omega, by omega⟩, ⟨by omega, by omega⟩, ⟨by omega, by omega⟩⟩, fun t => ⟨fun h => ?_, fun h => ?_, fun h => ?_⟩⟩
            · rcases (bB t).mp ((tb 0 B t).mp h) with h | h
              · exact (h5 t).1 h
              · exact sB t h
            · rcases (bE t).mp ((tb 0 E t).mp h) with h | h
              · exact (h5 t).2.1 h
              · exact sE t h
            · rcases (bI t).mp ((tb 0 I t).mp h) with h | h
              · exact (h5 t).2.2 h
              · exact sI t h
          · have o9 : ∀ a, M3 a (x : Int) = M2 a (x : Int) := fun a => by rw [← hM3, pu_nk (by omega), pu_nk (by omega), pu_nk (by omega)]
            rw [o9, o9, o9]; exact dS.2 x hx
      refine ⟨by rcases r0 with h | h <;> rw [h] <;> exact ⟨by decide, by decide⟩, fun hr0 => ?_, fun hr0 => ?_⟩
      · obtain ⟨s1, s2, s3⟩ := hrr.mp hr0
        have hsame : M3 = M2 := by
          rw [← hM3, s1, s2, s3, ← eB0, ← eE0, ← eI0]
          funext a' x'
          simp only [pu_if]
          split
          · rename_i h; rw [h.1, h.2]
          · split
            · rename_i h; rw [h.1, h.2]
            · split
              · rename_i h; rw [h.1, h.2]
              · rfl
        refine hP2 (x1', (k : Int) + 1, M3) ⟨k + 1, by show (k : Int) + 1 = _; omega, by omega, dS3, ?_⟩ (by show (M b 3 - ((k : Int) + 1)).toNat < (M b 3 - (k : Int)).toNat; omega)
        rcases d3 with ⟨f1, f2, f3⟩ | ⟨f1, f2⟩
        · refine Or.inl ⟨f1, hsame.trans f2, fun k' hk' hg => ?_⟩
          by_cases e : k' = k
          · subst e
            rw [← f2]
            intro t
            rw [r1, r2, ho3, eB0, eE0, eI0]
            have hBB : B = B0 := by omega
            have hEE : E = E0 := by omega
            have hII : I = I0 := by omega
            refine ⟨fun h => (tb 0 B0 t).mpr (hBB ▸ (bB t).mpr (Or.inr h)), fun h => (tb 0 E0 t).mpr (hEE ▸ (bE t).mpr (Or.inr h)), fun h => (tb 0 I0 t).mpr (hII ▸ (bI t).mpr (Or.inr h))⟩
          · exact f3 k' (by omega) hg
        · exact Or.inr ⟨f1, by show _ < fmu M3 b 6; rw [hsame]; exact f2⟩
      · refine hP2 (1, (k : Int) + 1, M3) ⟨k + 1, by show (k : Int) + 1 = _; omega, by omega, dS3, Or.inr ⟨rfl, ?_⟩⟩ (by show (M b 3 - ((k : Int) + 1)).toNat < (M b 3 - (k : Int)).toNat; omega)
        show fmu M1 b 6 < fmu M3 b 6
        have h9 := hmu.2 (fun h => hr0 (hrr.mpr ⟨by omega, by omega, by omega⟩)) (by omega)
        rcases d3 with ⟨f1, f2, f3⟩ | ⟨f1, f2⟩
        · rw [f2] at h9; exact h9
        · omega
