section MLAY2
variable {M : pj_M} {b good : Nat} {wl : Int}
/-- ends -/
theorem t_lay2 {Q : pj_M → Prop} (ok : mt_ok M b) (b4 : bz M 214) (v : vg (M b)) (hgd : M 203 12 = (good : Int)) (hok : md_ok (M b) good) (hwl : M 203 14 = wl) (hw1 : 0 ≤ wl ∧ wl ≤ 15)
    (x0 : ∀ c i j, c < 6 → 0 ≤ i → i ≤ j → j ≤ wl → (mt_tb M 210 c i j ↔ gr_y (gr_of (M b)) 8 c (mt_w M i j)))
    (q : ∀ M', eqt 212 M M' → bz M' 212 → bz M' 214 → (∀ c i j, c < 6 → 0 ≤ i → i ≤ j → j ≤ wl → (mt_tb M' 212 c i j ↔ gr_sf (gr_of (M b)) 8 c (mt_w M i j))) → Q M') : w_X12_layOne 203 2 212 M Q := by
  have hb := ok.2.2.1
  have hn := v.1
  refine t_layOne (gr_sf (gr_of (M b)) 8) (fun M1 k i j => i = j ∨ ∃ s : Nat, (s : Int) < mt_sz M1 b k ∧ mt_R M1 b k i (fun m => mt_pt M1 212 (mt_sm M1 b k (s : Int)) i m) ((s : Int) + 1) ((mt_sz M1 b k).toNat - (s + 1)) j) (Or.inr (Or.inr (Or.inl rfl))) ok b4 v hgd hok.1 hwl hw1 ?_ ?_ ?_ ?_ q
  · intro M1 M2 k i j e
    have h : ∀ s : Int, ∀ m, mt_pt M2 212 (mt_sm M2 b k s) i m ↔ mt_pt M1 212 (mt_sm M1 b k s) i m := fun s m => by rw [mt_sm.eqx e hb]; exact mt_pt.eqx e (by decide) (by decide) _ _ _
    simp only [mt_sz.eqx e hb]
    constructor
    · rintro (h1 | ⟨s, h1, h2⟩)
      · exact Or.inl h1
      · exact Or.inr ⟨s, h1, (mt_R.eqx e hb (h _) _ _).mp h2⟩
    · rintro (h1 | ⟨s, h1, h2⟩)
      · exact Or.inl h1
      · exact Or.inr ⟨s, h1, (mt_R.eqx e hb (h _) _ _).mpr h2⟩
  · intro M1 k i j Q' ok1 e1 c1 hk hi hij hj q'
    refine ⟨⟨by decide, by decide⟩, fun _ => ⟨⟨by decide, by decide⟩, fun _ => ⟨⟨by decide, by decide⟩, fun h => absurd trivial (by simp at h), fun _ => t_endsBy ok1 c1 hk hi hij (by omega) (fun r M2 h1 h2 h3 h4 => ⟨h3, q' r M2 h1 h2 h3 h4⟩)⟩, fun h => absurd h (by decide)⟩, fun h => absurd h (by decide)⟩
  · intro M1 k i j ok1 e1 hk hi hij hj hs hg hB
    obtain ⟨eb, ew⟩ := mt_same (Or.inr (Or.inr (Or.inl rfl))) hb e1
    have ew2 : ∀ m0 m, mt_w M1 m0 m = mt_w M m0 m := fun m0 m => by unfold mt_w; rw [ew]
    have hz := ok1.2.2.2.1 (k : Int) (by omega) (by omega)
    have hgs := mt_gs_of v hok hk hg
    rcases hB with rfl | ⟨s, h1, h4⟩
    · rw [show mt_w M i i = [] from sg_nil _ _]
      exact gr_sf_nil.mpr (gr_gd_iff.mpr ⟨k, by show k < (M b 0).toNat; omega, rfl, hgs⟩)
    · have x1 : ∀ c m0 m, c < 6 → i ≤ m0 → m0 ≤ m → m ≤ j → mt_tb M1 210 c m0 m → gr_y (gr_of (M b)) 8 c (mt_w M1 m0 m) := fun c m0 m a1 a2 a3 a4 a5 => by
        rw [ew2]
        refine (x0 c m0 m a1 (by omega) a3 (by omega)).mp ?_
        unfold mt_tb at a5 ⊢
        rw [← e1 210 _ (by decide) (by decide) (by decide)]; exact a5
      obtain ⟨m0, a1, a2, a3, a4⟩ := mt_R_s (P := gr_y (gr_of (M b)) 8) ok1 ⟨by omega, by omega⟩ (by omega) x1 _ j (by omega) hij (Int.le_refl _) h4
      have hsm := ok1.2.2.2.2.1 (k : Int) (s : Int) (by omega) (by omega) (by omega) (by omega)
      have h6 := mt_pt_s (P := gr_sf (gr_of (M b)) 8) hsm a1 ok1.2.2.2.2.2.2.2.2.2 (fun h8 h9 => by rw [ew2]; exact hs _ i m0 (by omega) (Int.le_refl _) a1 a2 h9) a3
      rw [show (s : Int) + 1 + (((mt_sz M1 b (k : Int)).toNat - (s + 1) : Nat) : Int) = mt_sz M1 b (k : Int) by omega, ew2] at a4
      rw [ew2] at h6
      have ealt := mt_alt (k := k) eb
      rw [sg_mid' h1] at ealt
      rw [show mt_w M i j = mt_w M i m0 ++ mt_w M m0 j from (sg_app a1 a2).symm]
      refine gr_sf_of (k := k) (by show k < (M b 0).toNat; omega) rfl ealt h6 a4 ?_
      intro s hsx
      exact hgs s (by rw [ealt]; exact List.mem_append_left _ hsx)
  · intro M1 i j ok1 e1 hi hij hj hex hcl c hc hy
    obtain ⟨eb, ew⟩ := mt_same (Or.inr (Or.inr (Or.inl rfl))) hb e1
    have ew2 : ∀ m0 m, mt_w M1 m0 m = mt_w M m0 m := fun m0 m => by unfold mt_w; rw [ew]
    have x1 : ∀ c m0 m, c < 6 → i ≤ m0 → m0 ≤ m → m ≤ j → gr_y (gr_of (M b)) 8 c (mt_w M1 m0 m) → mt_tb M1 210 c m0 m := fun c m0 m a1 a2 a3 a4 a5 => by
      rw [ew2] at a5
      have := (x0 c m0 m a1 (by omega) a3 (by omega)).mpr a5
      unfold mt_tb at this ⊢
      rw [e1 210 _ (by decide) (by decide) (by decide)]; exact this
    by_cases he : i = j
    · subst he
      rw [show mt_w M i i = [] from sg_nil _ _] at hy
      obtain ⟨k, h1, h2, h3⟩ := gr_gd_iff.mp (gr_sf_nil.mp hy)
      have hk : (k : Int) < M b 0 := by have : k < (M b 0).toNat := h1; omega
      have := hcl k hk (mt_g_of v hok hk h3) (Or.inl rfl)
      rwa [show (M b (1 + (6 * (k : Int)))).toNat = c from h2] at this
    · have key : ∀ d c, c < 6 → gr_sfd (gr_of (M b)) 8 d c (mt_w M i j) → mt_tb M1 212 c i j := by
        intro d
        induction d with
        | zero => rintro c _ ⟨_, h⟩; exact h.elim
        | succ d ih =>
          rintro c hc ⟨z, k, h1, h2, h3⟩
          have hk : (k : Int) < M b 0 := by have : k < (M b 0).toNat := h1; omega
          have hz := ok1.2.2.2.1 (k : Int) (by omega) (by omega)
          have hg := mt_g_of v hok hk (gr_gs_sq.mpr ⟨_, gr_sq_mono (fun _ _ h => ⟨d, h⟩) h3⟩)
          obtain ⟨a, s, bb, u1, u2, g1, g2, g3, g4, -⟩ := gr_sq_suf (sg_ne (by omega)) h3
          rw [mt_alt eb] at g1
          obtain ⟨n, n1, rfl, rfl, rfl⟩ := sg_mid hz.1 g1
          obtain ⟨m, m1, m2, rfl, rfl⟩ := sg_split hij g2
          have hsm := ok1.2.2.2.2.1 (k : Int) (n : Int) (by omega) (by omega) (by omega) (by omega)
          have := hcl k hk hg (Or.inr ⟨n, n1, mt_R_c (P := gr_y (gr_of (M b)) 8) ok1 ⟨by omega, by omega⟩ (by omega) x1 _ j m (by omega) m1 m2 (Int.le_refl _) (mt_pt_c (P := fun c x => ∃ y, gr_yd (gr_of (M b)) 8 d c (y ++ x)) hsm m1 ok1.2.2.2.2.2.2.2.2.2 (fun h8 h9 => by
              rw [ew2] at h9
              by_cases e : m = j
              · subst e; exact ih _ (by omega) h9
              · exact (hex _ i m (by omega) (Int.le_refl _) m1 m2 (by omega)).mpr (let ⟨y, h⟩ := h9; ⟨y, d, h⟩)) (by rw [ew2]; exact g3)) (by
            rw [show (n : Int) + 1 + (((mt_sz M1 b (k : Int)).toNat - (n + 1) : Nat) : Int) = mt_sz M1 b (k : Int) by omega, ew2]
            exact gr_sq_mono (fun _ _ h => ⟨d, h⟩) g4)⟩)
          rwa [show (M b (1 + (6 * (k : Int)))).toNat = c from h2] at this
      obtain ⟨d, hd⟩ := gr_sf_d hy
      exact key d c hc hd
/-- parts -/
theorem t_lay3 {Q : pj_M → Prop} (ok : mt_ok M b) (b4 : bz M 214) (v : vg (M b)) (hgd : M 203 12 = (good : Int)) (hok : md_ok (M b) good) (hwl : M 203 14 = wl) (hw1 : 0 ≤ wl ∧ wl ≤ 15)
    (x0 : ∀ c i j, c < 6 → 0 ≤ i → i ≤ j → j ≤ wl → (mt_tb M 210 c i j ↔ gr_y (gr_of (M b)) 8 c (mt_w M i j)))
    (xp : ∀ c i j, c < 6 → 0 ≤ i → i ≤ j → j ≤ wl → (mt_tb M 211 c i j ↔ gr_pf (gr_of (M b)) 8 c (mt_w M i j)))
    (xs : ∀ c i j, c < 6 → 0 ≤ i → i ≤ j → j ≤ wl → (mt_tb M 212 c i j ↔ gr_sf (gr_of (M b)) 8 c (mt_w M i j)))
    (q : ∀ M', eqt 213 M M' → bz M' 213 → bz M' 214 → (∀ c i j, c < 6 → 0 ≤ i → i ≤ j → j ≤ wl → (mt_tb M' 213 c i j ↔ gr_if (gr_of (M b)) 8 c (mt_w M i j))) → Q M') : w_X12_layOne 203 3 213 M Q := by
  have hb := ok.2.2.1
  have hn := v.1
  refine t_layOne (gr_if (gr_of (M b)) 8) (fun M1 k i j => i = j ∨ (∃ s : Nat, (s : Int) < mt_sz M1 b k ∧ mt_pt M1 213 (mt_sm M1 b k (s : Int)) i j) ∨ ∃ s n : Nat, (s : Int) + 1 + (n : Int) < mt_sz M1 b k ∧ ∃ m, i ≤ m ∧ m ≤ j ∧ mt_R M1 b k i (fun m => mt_pt M1 212 (mt_sm M1 b k (s : Int)) i m) ((s : Int) + 1) n m ∧ mt_pt M1 211 (mt_sm M1 b k ((s : Int) + 1 + (n : Int))) m j) (Or.inr (Or.inr (Or.inr rfl))) ok b4 v hgd hok.1 hwl hw1 ?_ ?_ ?_ ?_ q
  · intro M1 M2 k i j e
    have h : ∀ s : Int, ∀ m, mt_pt M2 212 (mt_sm M2 b k s) i m ↔ mt_pt M1 212 (mt_sm M1 b k s) i m := fun s m => by rw [mt_sm.eqx e hb]; exact mt_pt.eqx e (by decide) (by decide) _ _ _
    simp only [mt_sz.eqx e hb, mt_pt.eqx e (show 213 ≠ 214 by decide) (show 213 ≠ 215 by decide), mt_pt.eqx e (show 211 ≠ 214 by decide) (show 211 ≠ 215 by decide)]
    constructor
    · rintro (h1 | ⟨s, h1, h2⟩ | ⟨s, n, h1, m, h2, h3, h4, h5⟩)
      · exact Or.inl h1
      · rw [mt_sm.eqx e hb] at h2; exact Or.inr (Or.inl ⟨s, h1, h2⟩)
      · rw [mt_sm.eqx e hb] at h5; exact Or.inr (Or.inr ⟨s, n, h1, m, h2, h3, (mt_R.eqx e hb (h _) _ _).mp h4, h5⟩)
    · rintro (h1 | ⟨s, h1, h2⟩ | ⟨s, n, h1, m, h2, h3, h4, h5⟩)
      · exact Or.inl h1
      · exact Or.inr (Or.inl ⟨s, h1, by rw [mt_sm.eqx e hb]; exact h2⟩)
      · exact Or.inr (Or.inr ⟨s, n, h1, m, h2, h3, (mt_R.eqx e hb (h _) _ _).mpr h4, by rw [mt_sm.eqx e hb]; exact h5⟩)
  · intro M1 k i j Q' ok1 e1 c1 hk hi hij hj q'
    refine ⟨⟨by decide, by decide⟩, fun _ => ⟨⟨by decide, by decide⟩, fun _ => ⟨⟨by decide, by decide⟩, fun _ => t_holdsBy ok1 c1 hk hi hij (by omega) (fun r M2 h1 h2 h3 h4 => ⟨h3, q' r M2 h1 h2 h3 h4⟩), fun h => absurd h (by decide)⟩, fun h => absurd h (by decide)⟩, fun h => absurd h (by decide)⟩
  · intro M1 k i j ok1 e1 hk hi hij hj hs hg hB
    obtain ⟨eb, ew⟩ := mt_same (Or.inr (Or.inr (Or.inr rfl))) hb e1
    have ew2 : ∀ m0 m, mt_w M1 m0 m = mt_w M m0 m := fun m0 m => by unfold mt_w; rw [ew]
    have hz := ok1.2.2.2.1 (k : Int) (by omega) (by omega)
    have hgs := mt_gs_of v hok hk hg
    have hk2 : k < (gr_of (M b)).1 := by show k < (M b 0).toNat; omega
    have eT : ∀ (T : Nat), T ≠ 213 → T ≠ 214 → T ≠ 215 → ∀ c m0 m, mt_tb M1 T c m0 m → mt_tb M T c m0 m := fun T t1 t2 t3 c m0 m h => by unfold mt_tb at h ⊢; rw [← e1 T _ t1 t2 t3]; exact h
    rcases hB with rfl | ⟨s, h1, h2⟩ | ⟨s, n, h1, m, h2, h3, h4, h5⟩
    · rw [show mt_w M i i = [] from sg_nil _ _]
      exact gr_if_nil.mpr (gr_gd_iff.mpr ⟨k, hk2, rfl, hgs⟩)
    · have hsm := ok1.2.2.2.2.1 (k : Int) (s : Int) (by omega) (by omega) (by omega) (by omega)
      have h6 := mt_pt_s (P := gr_if (gr_of (M b)) 8) hsm hij ok1.2.2.2.2.2.2.2.2.2 (fun h8 h9 => by rw [ew2]; exact hs _ i j (by omega) (Int.le_refl _) hij (Int.le_refl _) h9) h2
      rw [ew2] at h6
      have ealt := mt_alt (k := k) eb
      rw [sg_mid' h1] at ealt
      exact gr_if_of (k := k) hk2 rfl ealt h6 (fun s hsx => hgs s (by rw [ealt]; exact List.mem_append_left _ hsx)) (fun s hsx => hgs s (by rw [ealt]; exact List.mem_append_right _ (List.mem_cons_of_mem _ hsx)))
    · have x1 : ∀ c m0 m, c < 6 → i ≤ m0 → m0 ≤ m → m ≤ j → mt_tb M1 210 c m0 m → gr_y (gr_of (M b)) 8 c (mt_w M1 m0 m) := fun c m0 m a1 a2 a3 a4 a5 => by
        rw [ew2]
        exact (x0 c m0 m a1 (by omega) a3 (by omega)).mp (eT 210 (by decide) (by decide) (by decide) _ _ _ a5)
      obtain ⟨m0, a1, a2, a3, a4⟩ := mt_R_s (P := gr_y (gr_of (M b)) 8) ok1 ⟨by omega, by omega⟩ (by omega) x1 _ m (by omega) h2 h3 h4
      have hsm := ok1.2.2.2.2.1 (k : Int) (s : Int) (by omega) (by omega) (by omega) (by omega)
      have hsm2 := ok1.2.2.2.2.1 (k : Int) ((s : Int) + 1 + (n : Int)) (by omega) (by omega) (by omega) (by omega)
      have h6 := mt_pt_s (P := gr_sf (gr_of (M b)) 8) hsm a1 ok1.2.2.2.2.2.2.2.2.2 (fun h8 h9 => by rw [ew2]; exact (xs _ i m0 (by omega) hi a1 (by omega)).mp (eT 212 (by decide) (by decide) (by decide) _ _ _ h9)) a3
      have h7 := mt_pt_s (P := gr_pf (gr_of (M b)) 8) hsm2 h3 ok1.2.2.2.2.2.2.2.2.2 (fun h8 h9 => by rw [ew2]; exact (xp _ m j (by omega) (by omega) h3 hj).mp (eT 211 (by decide) (by decide) (by decide) _ _ _ h9)) h5
      rw [ew2] at a4 h6 h7
      have ealt := mt_alt (k := k) eb
      have hmid := sg_mid' (f := mt_f M1 b (k : Int)) (z := mt_sz M1 b (k : Int)) (n := s) (by omega)
      have e2 : sg (mt_f M1 b (k : Int)) ((s : Int) + 1) (mt_sz M1 b (k : Int)) = sg (mt_f M1 b (k : Int)) ((s : Int) + 1) ((s : Int) + 1 + (n : Int)) ++ (mt_f M1 b (k : Int) ((s : Int) + 1 + (n : Int))).toNat :: sg (mt_f M1 b (k : Int)) ((s : Int) + 1 + (n : Int) + 1) (mt_sz M1 b (k : Int)) := by
        rw [← sg_cons h1, sg_app (by omega) (by omega)]
      rw [hmid, e2] at ealt
      rw [show mt_w M i j = mt_w M i m0 ++ mt_w M m0 m ++ mt_w M m j by rw [show mt_w M i m0 ++ mt_w M m0 m = mt_w M i m from sg_app a1 a2]; exact (sg_app h2 h3).symm]
      refine gr_if_of2 (k := k) hk2 rfl (by rw [ealt, List.append_assoc]; rfl) h6 a4 h7 (fun x hx => hgs x ?_) (fun x hx => hgs x ?_)
      · rw [ealt]; exact List.mem_append_left _ hx
      · rw [ealt]; exact List.mem_append_right _ (List.mem_cons_of_mem _ (List.mem_append_right _ (List.mem_cons_of_mem _ hx)))
  · intro M1 i j ok1 e1 hi hij hj hex hcl c hc hy
    obtain ⟨eb, ew⟩ := mt_same (Or.inr (Or.inr (Or.inr rfl))) hb e1
    have ew2 : ∀ m0 m, mt_w M1 m0 m = mt_w M m0 m := fun m0 m => by unfold mt_w; rw [ew]
    have eT : ∀ (T : Nat), T ≠ 213 → T ≠ 214 → T ≠ 215 → ∀ c m0 m, mt_tb M T c m0 m → mt_tb M1 T c m0 m := fun T t1 t2 t3 c m0 m h => by unfold mt_tb at h ⊢; rw [e1 T _ t1 t2 t3]; exact h
    have x1 : ∀ c m0 m, c < 6 → i ≤ m0 → m0 ≤ m → m ≤ j → gr_y (gr_of (M b)) 8 c (mt_w M1 m0 m) → mt_tb M1 210 c m0 m := fun c m0 m a1 a2 a3 a4 a5 => by
      rw [ew2] at a5
      exact eT 210 (by decide) (by decide) (by decide) _ _ _ ((x0 c m0 m a1 (by omega) a3 (by omega)).mpr a5)
    by_cases he : i = j
    · subst he
      rw [show mt_w M i i = [] from sg_nil _ _] at hy
      obtain ⟨k, h1, h2, h3⟩ := gr_gd_iff.mp (gr_if_nil.mp hy)
      have hk : (k : Int) < M b 0 := by have : k < (M b 0).toNat := h1; omega
      have := hcl k hk (mt_g_of v hok hk h3) (Or.inl rfl)
      rwa [show (M b (1 + (6 * (k : Int)))).toNat = c from h2] at this
    · have key : ∀ d c, c < 6 → gr_ifd (gr_of (M b)) 8 d c (mt_w M i j) → mt_tb M1 213 c i j := by
        intro d
        induction d with
        | zero => rintro c _ ⟨_, _, h⟩; exact h.elim
        | succ d ih =>
          rintro c hc ⟨z, z2, k, h1, h2, h3⟩
          have hk : (k : Int) < M b 0 := by have : k < (M b 0).toNat := h1; omega
          have hz := ok1.2.2.2.1 (k : Int) (by omega) (by omega)
          have hg := mt_g_of v hok hk (gr_gs_sq.mpr ⟨_, gr_sq_mono (fun _ _ h => ⟨d, h⟩) h3⟩)
          have fin : mt_tb M1 213 (M b (1 + (6 * (k : Int)))).toNat i j → mt_tb M1 213 c i j := fun h => by rwa [show (M b (1 + (6 * (k : Int)))).toNat = c from h2] at h
          apply fin
          rcases gr_sq_inf (sg_ne (by omega)) h3 with ⟨a, s, bb, g1, g2, -, -⟩ | ⟨a, s, b2, t, c2, u1, u2, u3, g1, g2, g3, g4, g5, -, -⟩
          · rw [mt_alt eb] at g1
            obtain ⟨n, n1, rfl, rfl, rfl⟩ := sg_mid hz.1 g1
            have hsm := ok1.2.2.2.2.1 (k : Int) (n : Int) (by omega) (by omega) (by omega) (by omega)
            exact hcl k hk hg (Or.inr (Or.inl ⟨n, n1, mt_pt_c (P := fun c x => ∃ y z, gr_yd (gr_of (M b)) 8 d c (y ++ x ++ z)) hsm hij ok1.2.2.2.2.2.2.2.2.2 (fun h8 h9 => by
              rw [ew2] at h9
              exact ih _ (by omega) h9) (by rw [ew2]; exact g2)⟩))
          · rw [mt_alt eb, List.append_assoc] at g1
            obtain ⟨n, n1, rfl, rfl, g6⟩ := sg_mid hz.1 g1
            have hn1 : (n : Int) + 1 ≤ mt_sz M1 b (k : Int) := by omega
            obtain ⟨p, p1, p2, rfl, g7⟩ := sg_split hn1 g6.symm
            have p3 : p < mt_sz M1 b (k : Int) := by
              rcases Int.lt_or_eq_of_le p2 with h | h
              · exact h
              · rw [h, sg_nil] at g7; cases g7
            rw [sg_cons p3] at g7
            cases g7
            obtain ⟨m, m1, m2, e5, rfl⟩ := sg_split hij g2
            obtain ⟨m0, d1, d2, rfl, rfl⟩ := sg_split m1 e5.symm
            have hsm := ok1.2.2.2.2.1 (k : Int) (n : Int) (by omega) (by omega) (by omega) (by omega)
            have hsm2 := ok1.2.2.2.2.1 (k : Int) p (by omega) (by omega) (by omega) (by omega)
            have ep : p = (n : Int) + 1 + (((p - ((n : Int) + 1)).toNat : Nat) : Int) := by omega
            refine hcl k hk hg (Or.inr (Or.inr ⟨n, (p - ((n : Int) + 1)).toNat, by omega, m, m1, m2, ?_, ?_⟩))
            · refine mt_R_c (P := gr_y (gr_of (M b)) 8) ok1 ⟨by omega, by omega⟩ (by omega) x1 _ m m0 (by omega) d1 d2 m2 (mt_pt_c (P := gr_sf (gr_of (M b)) 8) hsm d1 ok1.2.2.2.2.2.2.2.2.2 (fun h8 h9 => by
                rw [ew2] at h9
                exact eT 212 (by decide) (by decide) (by decide) _ _ _ ((xs _ i m0 (by omega) hi d1 (by omega)).mpr h9)) (by rw [ew2]; exact gr_sp_mono (fun _ _ ⟨y, h⟩ => ⟨y, d, h⟩) g3)) ?_
              rw [← ep, ew2]
              exact gr_sq_mono (fun _ _ h => ⟨d, h⟩) g4
            · rw [← ep]
              exact mt_pt_c (P := gr_pf (gr_of (M b)) 8) hsm2 m2 ok1.2.2.2.2.2.2.2.2.2 (fun h8 h9 => by
                rw [ew2] at h9
                exact eT 211 (by decide) (by decide) (by decide) _ _ _ ((xp _ m j (by omega) (by omega) m2 hj).mpr h9)) (by rw [ew2]; exact gr_sp_mono (fun _ _ ⟨y, h⟩ => ⟨y, d, h⟩) g5)
      obtain ⟨d, hd⟩ := gr_if_d hy
      exact key d c hc hd
end MLAY2
