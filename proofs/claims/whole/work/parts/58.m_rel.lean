theorem mt_sy_s {M : pj_M} {P : Nat → List Nat → Prop} {s a c : Int} (hs : 0 ≤ s ∧ s ≤ 13) (hac : a ≤ c) (hw : ∀ a, 0 ≤ M 209 a ∧ M 209 a ≤ 7) (h : 8 ≤ s → mt_tb M 210 (s - 8).toNat a c → P (s - 8).toNat (mt_w M a c)) (q : mt_sy M s a c) : gr_sy 8 P s.toNat (mt_w M a c) := by
  have hwa := hw a
  rcases q with ⟨h1, h2, h3⟩ | ⟨h1, h2⟩
  · exact Or.inl ⟨by omega, (sg_single hac).mpr ⟨h2, by omega⟩⟩
  · refine Or.inr ⟨by omega, ?_⟩
    have := h h1 (by unfold mt_tb; rw [show (((s - 8).toNat : Nat) : Int) = s - 8 by omega]; exact h2)
    rwa [show s.toNat - 8 = (s - 8).toNat by omega]
theorem mt_sy_c {M : pj_M} {P : Nat → List Nat → Prop} {s a c : Int} (hs : 0 ≤ s ∧ s ≤ 13) (hac : a ≤ c) (hw : ∀ a, 0 ≤ M 209 a ∧ M 209 a ≤ 7) (h : 8 ≤ s → P (s - 8).toNat (mt_w M a c) → mt_tb M 210 (s - 8).toNat a c) (q : gr_sy 8 P s.toNat (mt_w M a c)) : mt_sy M s a c := by
  have hwa := hw a
  rcases q with ⟨h1, h2⟩ | ⟨h1, h2⟩
  · obtain ⟨h2, h3⟩ := (sg_single hac).mp h2
    exact Or.inl ⟨by omega, h2, by omega⟩
  · refine Or.inr ⟨by omega, ?_⟩
    rw [show s.toNat - 8 = (s - 8).toNat by omega] at h2
    have := h (by omega) h2
    unfold mt_tb at this
    rwa [show (((s - 8).toNat : Nat) : Int) = s - 8 by omega] at this
theorem mt_w_nil {M : pj_M} {a c : Int} (hac : a ≤ c) : mt_w M a c = [] ↔ a = c := by
  constructor
  · intro h
    have := congrArg List.length h
    rw [sg_len] at this
    simp at this; omega
  · rintro rfl; exact sg_nil _ _
theorem mt_pt_s {M : pj_M} {T : Nat} {P : Nat → List Nat → Prop} {s a c : Int} (hs : 0 ≤ s ∧ s ≤ 13) (hac : a ≤ c) (hw : ∀ a, 0 ≤ M 209 a ∧ M 209 a ≤ 7) (h : 8 ≤ s → mt_tb M T (s - 8).toNat a c → P (s - 8).toNat (mt_w M a c)) (q : mt_pt M T s a c) : gr_sp 8 P s.toNat (mt_w M a c) := by
  have hwa := hw a
  rcases q with ⟨h1, h2 | ⟨h2, h3⟩⟩ | ⟨h1, h2⟩
  · exact Or.inl ⟨by omega, Or.inl ((mt_w_nil hac).mpr h2)⟩
  · exact Or.inl ⟨by omega, Or.inr ((sg_single hac).mpr ⟨h2, by omega⟩)⟩
  · refine Or.inr ⟨by omega, ?_⟩
    have := h h1 (by unfold mt_tb; rw [show (((s - 8).toNat : Nat) : Int) = s - 8 by omega]; exact h2)
    rwa [show s.toNat - 8 = (s - 8).toNat by omega]
theorem mt_pt_c {M : pj_M} {T : Nat} {P : Nat → List Nat → Prop} {s a c : Int} (hs : 0 ≤ s ∧ s ≤ 13) (hac : a ≤ c) (hw : ∀ a, 0 ≤ M 209 a ∧ M 209 a ≤ 7) (h : 8 ≤ s → P (s - 8).toNat (mt_w M a c) → mt_tb M T (s - 8).toNat a c) (q : gr_sp 8 P s.toNat (mt_w M a c)) : mt_pt M T s a c := by
  have hwa := hw a
  rcases q with ⟨h1, h2 | h2⟩ | ⟨h1, h2⟩
  · exact Or.inl ⟨by omega, Or.inl ((mt_w_nil hac).mp h2)⟩
  · obtain ⟨h2, h3⟩ := (sg_single hac).mp h2
    exact Or.inl ⟨by omega, Or.inr ⟨h2, by omega⟩⟩
  · refine Or.inr ⟨by omega, ?_⟩
    rw [show s.toNat - 8 = (s - 8).toNat by omega] at h2
    have := h (by omega) h2
    unfold mt_tb at this
    rwa [show (((s - 8).toNat : Nat) : Int) = s - 8 by omega] at this
theorem mt_R_s {M : pj_M} {b : Nat} {P : Nat → List Nat → Prop} {k i j s0 : Int} {R0 : Int → Prop} (ok : mt_ok M b) (hk : 0 ≤ k ∧ k < 12) (hs0 : 0 ≤ s0) (h : ∀ c m0 m, c < 6 → i ≤ m0 → m0 ≤ m → m ≤ j → mt_tb M 210 c m0 m → P c (mt_w M m0 m)) :
    ∀ (n : Nat) (m : Int), s0 + (n : Int) ≤ mt_sz M b k → i ≤ m → m ≤ j → mt_R M b k i R0 s0 n m → ∃ m0, i ≤ m0 ∧ m0 ≤ m ∧ R0 m0 ∧ gr_sq 8 P (sg (mt_f M b k) s0 (s0 + (n : Int))) (mt_w M m0 m)
  | 0, m, hn, h1, h2, hr => ⟨m, h1, Int.le_refl _, hr, by rw [show s0 + ((0 : Nat) : Int) = s0 by omega, sg_nil]; exact sg_nil _ _⟩
  | n + 1, m, hn, h1, h2, ⟨m1, a1, a2, a3, a4⟩ => by
    have hz := ok.2.2.2.1 k hk.1 hk.2
    have hsm := ok.2.2.2.2.1 k (s0 + (n : Int)) hk.1 hk.2 (by omega) (by omega)
    rw [show s0 + ((n + 1 : Nat) : Int) = s0 + (n : Int) + 1 by omega, ← sg_app (w := mt_f M b k) (i := s0) (m := s0 + (n : Int)) (j := s0 + (n : Int) + 1) (by omega) (by omega), sg_one]
    obtain ⟨m0, b1, b2, b3, b4⟩ := mt_R_s ok hk hs0 h n m1 (by omega) a1 (by omega) a3
    refine ⟨m0, b1, by omega, b3, gr_sq_app.mpr ⟨mt_w M m0 m1, mt_w M m1 m, (sg_app b2 a2).symm, b4, mt_w M m1 m, [], by simp, ?_, rfl⟩⟩
    exact mt_sy_s hsm a2 ok.2.2.2.2.2.2.2.2.2 (fun h8 => h _ m1 m (by show (mt_sm M b k (s0 + (n : Int)) - 8).toNat < 6; omega) a1 a2 h2) a4
theorem mt_R_c {M : pj_M} {b : Nat} {P : Nat → List Nat → Prop} {k i j s0 : Int} {R0 : Int → Prop} (ok : mt_ok M b) (hk : 0 ≤ k ∧ k < 12) (hs0 : 0 ≤ s0) (h : ∀ c m0 m, c < 6 → i ≤ m0 → m0 ≤ m → m ≤ j → P c (mt_w M m0 m) → mt_tb M 210 c m0 m) :
    ∀ (n : Nat) (m m0 : Int), s0 + (n : Int) ≤ mt_sz M b k → i ≤ m0 → m0 ≤ m → m ≤ j → R0 m0 → gr_sq 8 P (sg (mt_f M b k) s0 (s0 + (n : Int))) (mt_w M m0 m) → mt_R M b k i R0 s0 n m
  | 0, m, m0, hn, h1, h2, h3, hr, hq => by
    rw [show s0 + ((0 : Nat) : Int) = s0 by omega, sg_nil] at hq
    have : m0 = m := (mt_w_nil h2).mp hq
    subst this; exact hr
  | n + 1, m, m0, hn, h1, h2, h3, hr, hq => by
    have hz := ok.2.2.2.1 k hk.1 hk.2
    have hsm := ok.2.2.2.2.1 k (s0 + (n : Int)) hk.1 hk.2 (by omega) (by omega)
    rw [show s0 + ((n + 1 : Nat) : Int) = s0 + (n : Int) + 1 by omega, ← sg_app (w := mt_f M b k) (i := s0) (m := s0 + (n : Int)) (j := s0 + (n : Int) + 1) (by omega) (by omega), sg_one] at hq
    obtain ⟨u, v, e, c1, u2, v2, e2, c2, c3⟩ := gr_sq_app.mp hq
    obtain ⟨m1, d1, d2, rfl, rfl⟩ := sg_split h2 e
    cases c3
    rw [List.append_nil] at e2
    subst e2
    refine ⟨m1, by omega, d2, mt_R_c ok hk hs0 h n m1 m0 (by omega) h1 d1 (by omega) hr c1, ?_⟩
    exact mt_sy_c hsm d2 ok.2.2.2.2.2.2.2.2.2 (fun h8 => h _ m1 m (by show (mt_sm M b k (s0 + (n : Int)) - 8).toNat < 6; omega) (by omega) d2 h3) c2
