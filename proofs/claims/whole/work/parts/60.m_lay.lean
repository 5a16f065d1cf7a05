theorem mt_R.eqx {M M' : pj_M} {b : Nat} {k i s0 : Int} {R0 R0' : Int → Prop} (e : eqx M M') (hb : b = 204 ∨ b = 224) (h0 : ∀ m, R0' m ↔ R0 m) : ∀ (n : Nat) (m : Int), mt_R M' b k i R0' s0 n m ↔ mt_R M b k i R0 s0 n m
  | 0, m => h0 m
  | n + 1, m => by
    unfold mt_R
    simp only [mt_R.eqx e hb h0 n, mt_sm.eqx e hb, mt_sy.eqx e]
theorem sg_mid {f : Int → Int} {z : Int} (hz : 0 ≤ z) {a b : List Nat} {s : Nat} (h : sg f 0 z = a ++ s :: b) : ∃ n : Nat, (n : Int) < z ∧ a = sg f 0 (n : Int) ∧ s = (f (n : Int)).toNat ∧ b = sg f ((n : Int) + 1) z := by
  obtain ⟨m, h1, h2, h3, h4⟩ := sg_split hz h
  have h5 : m < z := by
    rcases Int.lt_or_eq_of_le h2 with h | h
    · exact h
    · rw [h, sg_nil] at h4; cases h4
  rw [sg_cons h5] at h4
  cases h4
  exact ⟨m.toNat, by omega, by rw [show ((m.toNat : Nat) : Int) = m by omega]; exact h3, by rw [show ((m.toNat : Nat) : Int) = m by omega], by rw [show ((m.toNat : Nat) : Int) = m by omega]⟩
theorem sg_mid' {f : Int → Int} {z : Int} {n : Nat} (h : (n : Int) < z) : sg f 0 z = sg f 0 (n : Int) ++ (f (n : Int)).toNat :: sg f ((n : Int) + 1) z := by
  rw [← sg_cons h, sg_app (by omega) (by omega)]
section MLAY
variable {M : pj_M} {b good : Nat} {wl : Int}
theorem mt_same {T : Nat} {M1 : pj_M} (hT : T = 210 ∨ T = 211 ∨ T = 212 ∨ T = 213) (hb : b = 204 ∨ b = 224) (e : eqt T M M1) : M1 b = M b ∧ M1 209 = M 209 := ⟨funext fun x => e b x (by omega) (by omega) (by omega), funext fun x => e 209 x (by omega) (by decide) (by decide)⟩
theorem mt_alt {M1 : pj_M} {k : Nat} (h : M1 b = M b) : (gr_of (M b)).2.2 k = sg (mt_f M1 b (k : Int)) 0 (mt_sz M1 b (k : Int)) := by
  rw [gr_of_sg]; unfold mt_sz mt_f mt_sm; rw [h]
theorem mt_gs_of {k : Nat} (v : vg (M b)) (hok : md_ok (M b) good) (hk : (k : Int) < M b 0) (hg : md_g (M b) good (k : Int)) : gr_gs (gr_of (M b)) 8 ((gr_of (M b)).2.2 k) := md_g_gs v (by have := v.1; omega) (fun c hc h => (hok.2 c hc).mp h) hg
theorem mt_g_of {k : Nat} (v : vg (M b)) (hok : md_ok (M b) good) (hk : (k : Int) < M b 0) (hg : gr_gs (gr_of (M b)) 8 ((gr_of (M b)).2.2 k)) : md_g (M b) good (k : Int) := md_gs_g v (by have := v.1; omega) (fun c hc h => (hok.2 c hc).mpr h) hg
/-- the exact yields -/
theorem t_lay0 {Q : pj_M → Prop} (ok : mt_ok M b) (b4 : bz M 214) (v : vg (M b)) (hgd : M 203 12 = (good : Int)) (hok : md_ok (M b) good) (hwl : M 203 14 = wl) (hw1 : 0 ≤ wl ∧ wl ≤ 15)
    (q : ∀ M', eqt 210 M M' → bz M' 210 → bz M' 214 → (∀ c i j, c < 6 → 0 ≤ i → i ≤ j → j ≤ wl → (mt_tb M' 210 c i j ↔ gr_y (gr_of (M b)) 8 c (mt_w M i j))) → Q M') : w_X12_layOne 203 0 210 M Q := by
  have hb := ok.2.2.1
  refine t_layOne (gr_y (gr_of (M b)) 8) (fun M1 k i j => mt_R M1 b k i (fun m => m = i) 0 (mt_sz M1 b k).toNat j) (Or.inl rfl) ok b4 v hgd hok.1 hwl hw1 ?_ ?_ ?_ ?_ q
  · intro M1 M2 k i j e
    rw [mt_sz.eqx e hb]
    exact mt_R.eqx e hb (fun _ => Iff.rfl) _ _
  · intro M1 k i j Q' ok1 e1 c1 hk hi hij hj q'
    refine ⟨⟨by decide, by decide⟩, fun h => absurd trivial (by simp at h), fun _ => t_yieldsBy ok1 c1 hk hi hij (by omega) (fun r M2 h1 h2 h3 h4 => ⟨h3, q' r M2 h1 h2 h3 h4⟩)⟩
  · intro M1 k i j ok1 e1 hk hi hij hj hs hg hB
    obtain ⟨eb, ew⟩ := mt_same (Or.inl rfl) hb e1
    have hn := v.1
    have hz := ok1.2.2.2.1 (k : Int) (by omega) (by omega)
    obtain ⟨m0, a1, a2, a3, a4⟩ := mt_R_s (P := gr_y (gr_of (M b)) 8) ok1 ⟨by omega, by omega⟩ (Int.le_refl 0) (i := i) (j := j) (fun c m0 m h1 h2 h3 h4 h5 => by rw [show mt_w M1 m0 m = mt_w M m0 m by unfold mt_w; rw [ew]]; exact hs c m0 m h1 h2 h3 h4 h5) _ j (by omega) hij (Int.le_refl _) hB
    subst a3
    rw [show (0 : Int) + (((mt_sz M1 b (k : Int)).toNat : Nat) : Int) = mt_sz M1 b (k : Int) by omega, ← mt_alt eb, show mt_w M1 m0 j = mt_w M m0 j by unfold mt_w; rw [ew]] at a4
    exact gr_y_iff.mpr ⟨k, by show k < (M b 0).toNat; omega, rfl, a4⟩
  · intro M1 i j ok1 e1 hi hij hj hex hcl c hc hy
    obtain ⟨eb, ew⟩ := mt_same (Or.inl rfl) hb e1
    have hn := v.1
    have key : ∀ d c, c < 6 → gr_yd (gr_of (M b)) 8 d c (mt_w M i j) → mt_tb M1 210 c i j := by
      intro d
      induction d with
      | zero => intro c _ h; exact h.elim
      | succ d ih =>
        rintro c hc ⟨k, h1, h2, h3⟩
        have hk : (k : Int) < M b 0 := by have : k < (M b 0).toNat := h1; omega
        have hz := ok1.2.2.2.1 (k : Int) (by omega) (by omega)
        have hg := mt_g_of v hok hk (gr_gs_sq.mpr ⟨_, gr_sq_mono (fun _ _ h => ⟨d, h⟩) h3⟩)
        have := hcl k hk hg (mt_R_c (P := gr_yd (gr_of (M b)) 8 d) ok1 ⟨by omega, by omega⟩ (Int.le_refl 0) (i := i) (j := j) (fun c m0 m h1 h2 h3 h4 h5 => by
          rw [show mt_w M1 m0 m = mt_w M m0 m by unfold mt_w; rw [ew]] at h5
          by_cases e : m0 = i ∧ m = j
          · obtain ⟨rfl, rfl⟩ := e; exact ih c h1 h5
          · exact (hex c m0 m h1 h2 h3 h4 (by omega)).mpr ⟨d, h5⟩) _ j i (by omega) (Int.le_refl _) hij (Int.le_refl _) rfl (by
          rw [show (0 : Int) + (((mt_sz M1 b (k : Int)).toNat : Nat) : Int) = mt_sz M1 b (k : Int) by omega, ← mt_alt eb, show mt_w M1 i j = mt_w M i j by unfold mt_w; rw [ew]]
          exact h3))
        rwa [show (M b (1 + (6 * (k : Int)))).toNat = c from h2] at this
    obtain ⟨d, hd⟩ := hy
    exact key d c hc hd
/-- beginnings -/
theorem t_lay1 {Q : pj_M → Prop} (ok : mt_ok M b) (b4 : bz M 214) (v : vg (M b)) (hgd : M 203 12 = (good : Int)) (hok : md_ok (M b) good) (hwl : M 203 14 = wl) (hw1 : 0 ≤ wl ∧ wl ≤ 15)
    (x0 : ∀ c i j, c < 6 → 0 ≤ i → i ≤ j → j ≤ wl → (mt_tb M 210 c i j ↔ gr_y (gr_of (M b)) 8 c (mt_w M i j)))
    (q : ∀ M', eqt 211 M M' → bz M' 211 → bz M' 214 → (∀ c i j, c < 6 → 0 ≤ i → i ≤ j → j ≤ wl → (mt_tb M' 211 c i j ↔ gr_pf (gr_of (M b)) 8 c (mt_w M i j))) → Q M') : w_X12_layOne 203 1 211 M Q := by
  have hb := ok.2.2.1
  have hn := v.1
  refine t_layOne (gr_pf (gr_of (M b)) 8) (fun M1 k i j => i = j ∨ ∃ n : Nat, (n : Int) < mt_sz M1 b k ∧ ∃ m, i ≤ m ∧ m ≤ j ∧ mt_R M1 b k i (fun m => m = i) 0 n m ∧ mt_pt M1 211 (mt_sm M1 b k (n : Int)) m j) (Or.inr (Or.inl rfl)) ok b4 v hgd hok.1 hwl hw1 ?_ ?_ ?_ ?_ q
  · intro M1 M2 k i j e
    simp only [mt_sz.eqx e hb, mt_sm.eqx e hb, mt_R.eqx e hb (fun _ => Iff.rfl), mt_pt.eqx e (show 211 ≠ 214 by decide) (show 211 ≠ 215 by decide)]
  · intro M1 k i j Q' ok1 e1 c1 hk hi hij hj q'
    refine ⟨⟨by decide, by decide⟩, fun _ => ⟨⟨by decide, by decide⟩, fun h => absurd trivial (by simp at h), fun _ => t_beginsBy ok1 c1 hk hi hij (by omega) (fun r M2 h1 h2 h3 h4 => ⟨h3, q' r M2 h1 h2 h3 h4⟩)⟩, fun h => absurd h (by decide)⟩
  · intro M1 k i j ok1 e1 hk hi hij hj hs hg hB
    obtain ⟨eb, ew⟩ := mt_same (Or.inr (Or.inl rfl)) hb e1
    have hz := ok1.2.2.2.1 (k : Int) (by omega) (by omega)
    have hgs := mt_gs_of v hok hk hg
    rcases hB with rfl | ⟨n, h1, m, h2, h3, h4, h5⟩
    · rw [show mt_w M i i = [] from sg_nil _ _]
      exact gr_pf_nil.mpr (gr_gd_iff.mpr ⟨k, by show k < (M b 0).toNat; omega, rfl, hgs⟩)
    · have x1 : ∀ c m0 m, c < 6 → i ≤ m0 → m0 ≤ m → m ≤ j → mt_tb M1 210 c m0 m → gr_y (gr_of (M b)) 8 c (mt_w M1 m0 m) := fun c m0 m a1 a2 a3 a4 a5 => by
        rw [show mt_w M1 m0 m = mt_w M m0 m by unfold mt_w; rw [ew]]
        refine (x0 c m0 m a1 (by omega) a3 (by omega)).mp ?_
        unfold mt_tb at a5 ⊢
        rw [← e1 210 _ (by decide) (by decide) (by decide)]; exact a5
      obtain ⟨m0, a1, a2, a3, a4⟩ := mt_R_s (P := gr_y (gr_of (M b)) 8) ok1 ⟨by omega, by omega⟩ (Int.le_refl 0) x1 n m (by omega) h2 h3 h4
      subst a3
      have hsm := ok1.2.2.2.2.1 (k : Int) (n : Int) (by omega) (by omega) (by omega) (by omega)
      have h6 := mt_pt_s (P := gr_pf (gr_of (M b)) 8) hsm h3 ok1.2.2.2.2.2.2.2.2.2 (fun h8 h9 => by rw [show mt_w M1 m j = mt_w M m j by unfold mt_w; rw [ew]]; exact hs _ m j (by omega) h2 h3 (Int.le_refl _) h9) h5
      rw [Int.zero_add] at a4
      rw [show mt_w M1 m0 m = mt_w M m0 m by unfold mt_w; rw [ew]] at a4
      rw [show mt_w M1 m j = mt_w M m j by unfold mt_w; rw [ew]] at h6
      have ealt := mt_alt (k := k) eb
      rw [sg_mid' h1] at ealt
      rw [show mt_w M m0 j = mt_w M m0 m ++ mt_w M m j from (sg_app h2 h3).symm]
      refine gr_pf_of (k := k) (by show k < (M b 0).toNat; omega) rfl ealt a4 h6 ?_
      intro s hsx
      exact hgs s (by rw [ealt]; exact List.mem_append_right _ (List.mem_cons_of_mem _ hsx))
  · intro M1 i j ok1 e1 hi hij hj hex hcl c hc hy
    obtain ⟨eb, ew⟩ := mt_same (Or.inr (Or.inl rfl)) hb e1
    have x1 : ∀ c m0 m, c < 6 → i ≤ m0 → m0 ≤ m → m ≤ j → gr_y (gr_of (M b)) 8 c (mt_w M1 m0 m) → mt_tb M1 210 c m0 m := fun c m0 m a1 a2 a3 a4 a5 => by
      rw [show mt_w M1 m0 m = mt_w M m0 m by unfold mt_w; rw [ew]] at a5
      have := (x0 c m0 m a1 (by omega) a3 (by omega)).mpr a5
      unfold mt_tb at this ⊢
      rw [e1 210 _ (by decide) (by decide) (by decide)]; exact this
    by_cases he : i = j
    · subst he
      rw [show mt_w M i i = [] from sg_nil _ _] at hy
      obtain ⟨k, h1, h2, h3⟩ := gr_gd_iff.mp (gr_pf_nil.mp hy)
      have hk : (k : Int) < M b 0 := by have : k < (M b 0).toNat := h1; omega
      have := hcl k hk (mt_g_of v hok hk h3) (Or.inl rfl)
      rwa [show (M b (1 + (6 * (k : Int)))).toNat = c from h2] at this
    · have key : ∀ d c, c < 6 → gr_pfd (gr_of (M b)) 8 d c (mt_w M i j) → mt_tb M1 211 c i j := by
        intro d
        induction d with
        | zero => rintro c _ ⟨_, h⟩; exact h.elim
        | succ d ih =>
          rintro c hc ⟨z, k, h1, h2, h3⟩
          have hk : (k : Int) < M b 0 := by have : k < (M b 0).toNat := h1; omega
          have hz := ok1.2.2.2.1 (k : Int) (by omega) (by omega)
          have hg := mt_g_of v hok hk (gr_gs_sq.mpr ⟨_, gr_sq_mono (fun _ _ h => ⟨d, h⟩) h3⟩)
          obtain ⟨a, s, bb, u1, u2, g1, g2, g3, g4, -⟩ := gr_sq_pre (sg_ne (by omega)) h3
          rw [mt_alt eb] at g1
          obtain ⟨n, n1, rfl, rfl, rfl⟩ := sg_mid hz.1 g1
          obtain ⟨m, m1, m2, rfl, rfl⟩ := sg_split hij g2
          have hsm := ok1.2.2.2.2.1 (k : Int) (n : Int) (by omega) (by omega) (by omega) (by omega)
          have := hcl k hk hg (Or.inr ⟨n, n1, m, m1, m2, mt_R_c (P := gr_y (gr_of (M b)) 8) ok1 ⟨by omega, by omega⟩ (Int.le_refl 0) x1 n m i (by omega) (Int.le_refl _) m1 m2 rfl (by
            rw [Int.zero_add, show mt_w M1 i m = mt_w M i m by unfold mt_w; rw [ew]]
            exact gr_sq_mono (fun _ _ h => ⟨d, h⟩) g3), mt_pt_c (P := fun c x => ∃ y, gr_yd (gr_of (M b)) 8 d c (x ++ y)) hsm m2 ok1.2.2.2.2.2.2.2.2.2 (fun h8 h9 => by
              rw [show mt_w M1 m j = mt_w M m j by unfold mt_w; rw [ew]] at h9
              by_cases e : m = i
              · subst e; exact ih _ (by omega) h9
              · exact (hex _ m j (by omega) m1 m2 (Int.le_refl _) (by omega)).mpr (gr_pfd_y h9)) (by rw [show mt_w M1 m j = mt_w M m j by unfold mt_w; rw [ew]]; exact g4)⟩)
          rwa [show (M b (1 + (6 * (k : Int)))).toNat = c from h2] at this
      obtain ⟨d, hd⟩ := gr_pf_d hy
      exact key d c hc hd
end MLAY
