theorem t_ruled {M : pj_M} {b : Nat} {Q : Int → pj_M → Prop} (hb73 : 73 ≤ (pj_sh b).2) (hn : 0 ≤ M b 0 ∧ M b 0 ≤ 12) (ho' : ∀ k, 0 ≤ k → k < M b 0 → 0 ≤ M b (1 + 6 * k) ∧ M b (1 + 6 * k) ≤ 5) (q : ∀ R : Nat, R < 64 → (∀ x : Nat, R.testBit x = true ↔ ∃ k : Int, 0 ≤ k ∧ k < M b 0 ∧ M b (1 + 6 * k) = (x : Int)) → Q (R : Int) M) : w_X12_ruled b M Q := by
  unfold w_X12_ruled w_X12_ruled_4
  refine pj_lp_inv (fun z : Int × Int × pj_M => ∃ R k : Nat, z.1 = (R : Int) ∧ z.2.1 = (k : Int) ∧ R < 64 ∧ (k : Int) ≤ M b 0 ∧ z.2.2 = M ∧ ∀ y : Nat, R.testBit y = true ↔ ∃ k' : Int, 0 ≤ k' ∧ k' < (k : Int) ∧ M b (1 + 6 * k') = (y : Int)) (fun z => (M b 0 - z.2.1).toNat) ?_ (0, 0, M) ⟨0, 0, rfl, rfl, by decide, by show (0 : Int) ≤ M b 0; omega, rfl, fun y => ⟨fun h => by simp at h, fun ⟨k', k1, k2, _⟩ => by omega⟩⟩
  rintro ⟨_, _, Mx⟩ ⟨R, k, h1, h2, hR, hk, hM, hb⟩ P hP
  dsimp only at h1 h2 hM hP ⊢
  subst h1 h2
  have hM' := hM.symm
  subst hM'
  unfold w_X12_ruled_4b w_X12_alt
  refine ⟨⟨by decide, by omega⟩, ⟨by omega, by omega⟩, ⟨by omega, by omega⟩, fun hend => ?_, fun hgo => ⟨⟨by omega, by omega⟩, ?_⟩⟩
  · have hkk : (k : Int) = M b 0 := by omega
    refine q R hR (fun x => ?_)
    rw [hb, hkk]
  · have ho := ho' (k : Int) (by omega) (by omega)
    obtain ⟨o, ho2⟩ : ∃ o : Nat, M b (1 + 6 * (k : Int)) = (o : Int) := ⟨(M b (1 + 6 * (k : Int))).toNat, by omega⟩
    have hpow : 2 ^ o < 2 ^ 6 := Nat.pow_lt_pow_right (by decide) (by omega)
    rw [ho2, pb_one (by omega), pb_or (by omega) (by omega)]
    rintro z rfl
    refine hP (_, (k : Int) + 1, M) ⟨R ||| 2 ^ o, k + 1, rfl, by show (k : Int) + 1 = _; omega, Nat.or_lt_two_pow (n := 6) hR hpow, by omega, rfl, fun y => ?_⟩ (by show (M b 0 - ((k : Int) + 1)).toNat < (M b 0 - (k : Int)).toNat; omega)
    rw [pb_set, Bool.or_eq_true, decide_eq_true_iff, hb]
    constructor
    · rintro (⟨k', k1, k2, k3⟩ | h)
      · exact ⟨k', k1, by omega, k3⟩
      · exact ⟨(k : Int), by omega, by omega, by rw [ho2]; omega⟩
    · rintro ⟨k', k1, k2, k3⟩
      by_cases e : k' = (k : Int)
      · right; rw [e, ho2] at k3; omega
      · exact Or.inl ⟨k', k1, by omega, k3⟩
def s_count (D : Int → Int) (u rl tx what r : Int) : Prop :=
  (what < 0 ∨ 8 < what → r = -1) ∧ (what = 0 → r = D 73) ∧ (what = 1 → r = D 0) ∧ (what = 2 → tld D r) ∧ (what = 3 → r = D 1) ∧ (what = 4 → r = D 88) ∧ (what = 5 → r = u) ∧ (what = 6 → r = rl) ∧ (what = 7 → r = tx) ∧ (what = 8 → ∃ R : Nat, sgD D R ∧ r = (R : Int))
theorem s_count.uniq {D : Int → Int} {u rl tx what r r' : Int} (h : s_count D u rl tx what r) (h' : s_count D u rl tx what r') : r = r' := by
  obtain ⟨a, a0, a1, a2, a3, a4, a5, a6, a7, a8⟩ := h
  obtain ⟨b, b0, b1, b2, b3, b4, b5, b6, b7, b8⟩ := h'
  have w : (what < 0 ∨ 8 < what) ∨ what = 0 ∨ what = 1 ∨ what = 2 ∨ what = 3 ∨ what = 4 ∨ what = 5 ∨ what = 6 ∨ what = 7 ∨ what = 8 := by omega
  rcases w with w | w | w | w | w | w | w | w | w | w
  · rw [a w, b w]
  · rw [a0 w, b0 w]
  · rw [a1 w, b1 w]
  · exact (a2 w).uniq (b2 w)
  · rw [a3 w, b3 w]
  · rw [a4 w, b4 w]
  · rw [a5 w, b5 w]
  · rw [a6 w, b6 w]
  · rw [a7 w, b7 w]
  · obtain ⟨R, h1, h2⟩ := a8 w
    obtain ⟨R', g1, g2⟩ := b8 w
    rw [h2, g2, h1.uniq g1]
section
variable {M : pj_M} {Q : Int → pj_M → Prop}
theorem m_count {what : Int} (sc : msc M) (v : dvl (M 204)) (hw : pj_in what) (q : ∀ r M', eqm M M' → msc M' → rwm M M' none → s_count (M 204) (M 203 34) (M 203 4) (M 203 2) what r → Q r M') : w_X12_count 203 what M Q := by
  have hn := v.1.1
  unfold w_X12_count
  rintro M0 rfl
  rw [rm_0]
  have h34 : pj_up M 203 5 0 203 34 = M 203 34 := pu_nk (by decide)
  have h4 : pj_up M 203 5 0 203 4 = M 203 4 := pu_nk (by decide)
  have h2 : pj_up M 203 5 0 203 2 = M 203 2 := pu_nk (by decide)
  rw [h34, h4, h2, z204]
  have dn : ∀ r, s_count (M 204) (M 203 34) (M 203 4) (M 203 2) what r → Q r (pj_up M 203 5 0) := fun r h => q r _ (eqm.p eqp.z) sc.up (rwm.p eqp.z) h
  refine ⟨hw, fun h => dn _ ?_, fun h => dn _ ?_, fun h => dn _ ?_, fun h => ?_, fun h => ?_, fun h => dn _ ?_, fun h => dn _ ?_, fun h => dn _ ?_, fun h => dn _ ?_, fun h => ?_⟩
  · exact ⟨fun _ => rfl, fun _ => by omega, fun _ => by omega, fun _ => by omega, fun _ => by omega, fun _ => by omega, fun _ => by omega, fun _ => by omega, fun _ => by omega, fun _ => by omega⟩
  · exact ⟨fun _ => by omega, fun _ => rfl, fun _ => by omega, fun _ => by omega, fun _ => by omega, fun _ => by omega, fun _ => by omega, fun _ => by omega, fun _ => by omega, fun _ => by omega⟩
  · exact ⟨fun _ => by omega, fun _ => by omega, fun _ => rfl, fun _ => by omega, fun _ => by omega, fun _ => by omega, fun _ => by omega, fun _ => by omega, fun _ => by omega, fun _ => by omega⟩
  · refine t_ruled (by decide) (by rw [z204]; omega) (fun k k1 k2 => by rw [z204] at k2 ⊢; exact v.1.2.1 k k1 (by omega)) (fun R hR hb => dn _ ?_)
    rw [z204] at hb
    exact ⟨fun _ => by omega, fun _ => by omega, fun _ => by omega, fun _ => ⟨R, rfl, hR, hb⟩, fun _ => by omega, fun _ => by omega, fun _ => by omega, fun _ => by omega, fun _ => by omega, fun _ => by omega⟩
  · unfold w_X12_alt
    dsimp only
    rw [z204, show (1 : Int) + 6 * 0 = 1 by decide]
    refine ⟨⟨by decide, by decide⟩, dn _ ?_⟩
    exact ⟨fun _ => by omega, fun _ => by omega, fun _ => by omega, fun _ => by omega, fun _ => rfl, fun _ => by omega, fun _ => by omega, fun _ => by omega, fun _ => by omega, fun _ => by omega⟩
  · exact ⟨fun _ => by omega, fun _ => by omega, fun _ => by omega, fun _ => by omega, fun _ => by omega, fun _ => rfl, fun _ => by omega, fun _ => by omega, fun _ => by omega, fun _ => by omega⟩
  · exact ⟨fun _ => by omega, fun _ => by omega, fun _ => by omega, fun _ => by omega, fun _ => by omega, fun _ => by omega, fun _ => rfl, fun _ => by omega, fun _ => by omega, fun _ => by omega⟩
  · exact ⟨fun _ => by omega, fun _ => by omega, fun _ => by omega, fun _ => by omega, fun _ => by omega, fun _ => by omega, fun _ => by omega, fun _ => rfl, fun _ => by omega, fun _ => by omega⟩
  · exact ⟨fun _ => by omega, fun _ => by omega, fun _ => by omega, fun _ => by omega, fun _ => by omega, fun _ => by omega, fun _ => by omega, fun _ => by omega, fun _ => rfl, fun _ => by omega⟩
  · refine t_signsNow (b := 204) sc.up (Or.inl rfl) (by rw [z204]; exact v.1) (fun R M2 e2 f2 s2 hR => ?_)
    rw [z204] at hR
    refine q _ M2 (eqm.p (eqp.z.tr e2)) s2 (rwm.p (eqp.z.tr e2)) ?_
    exact ⟨fun _ => by omega, fun _ => by omega, fun _ => by omega, fun _ => by omega, fun _ => by omega, fun _ => by omega, fun _ => by omega, fun _ => by omega, fun _ => by omega, fun _ => ⟨R, hR, rfl⟩⟩
theorem o_count {D : Int → Int} {what : Int} (s : csc M) (r : drep M 13 D) (v : dvl D) (hw : pj_in what) (q : ∀ r M', eqq M M' → csc M' → rwo M M' none → s_count D (M 31 2) (M 0 15) (M 1 1) what r → Q r M') : w_X11_count 0 what M Q := by
  unfold w_X11_count
  have rk0 : pj_rf 13 0 = 14 := by decide
  have rk1 : pj_rf 13 1 = 18 := by decide
  rw [rc_0, rc_2, rc_5, rc_8, rk0, rk1]
  have dn : ∀ r, s_count D (M 31 2) (M 0 15) (M 1 1) what r → Q r M := fun r h => q r _ eqq.rf s ⟨rfl, rfl⟩ h
  have d73 : M 18 1 = D 73 := r.2.1.2.1
  have d0 : M 14 3 = D 0 := r.1.2.1
  have d1 : M 14 4 = D 1 := r.1.2.2.2.1
  have d88 : M 13 3 = D 88 := r.2.2.1
  rw [d73, d0, d1, d88]
  refine ⟨hw, fun h => dn _ ?_, fun h => dn _ ?_, fun h => dn _ ?_, fun h => dn _ ?_, fun h => dn _ ?_, fun h => dn _ ?_, fun h => dn _ ?_, fun h => dn _ ?_, fun h => dn _ ?_, fun h => ?_⟩
  · exact ⟨fun _ => rfl, fun _ => by omega, fun _ => by omega, fun _ => by omega, fun _ => by omega, fun _ => by omega, fun _ => by omega, fun _ => by omega, fun _ => by omega, fun _ => by omega⟩
  · exact ⟨fun _ => by omega, fun _ => rfl, fun _ => by omega, fun _ => by omega, fun _ => by omega, fun _ => by omega, fun _ => by omega, fun _ => by omega, fun _ => by omega, fun _ => by omega⟩
  · exact ⟨fun _ => by omega, fun _ => by omega, fun _ => rfl, fun _ => by omega, fun _ => by omega, fun _ => by omega, fun _ => by omega, fun _ => by omega, fun _ => by omega, fun _ => by omega⟩
  · exact ⟨fun _ => by omega, fun _ => by omega, fun _ => by omega, fun _ => r.1.2.2.2.2, fun _ => by omega, fun _ => by omega, fun _ => by omega, fun _ => by omega, fun _ => by omega, fun _ => by omega⟩
  · exact ⟨fun _ => by omega, fun _ => by omega, fun _ => by omega, fun _ => by omega, fun _ => rfl, fun _ => by omega, fun _ => by omega, fun _ => by omega, fun _ => by omega, fun _ => by omega⟩
  · exact ⟨fun _ => by omega, fun _ => by omega, fun _ => by omega, fun _ => by omega, fun _ => by omega, fun _ => rfl, fun _ => by omega, fun _ => by omega, fun _ => by omega, fun _ => by omega⟩
  · exact ⟨fun _ => by omega, fun _ => by omega, fun _ => by omega, fun _ => by omega, fun _ => by omega, fun _ => by omega, fun _ => rfl, fun _ => by omega, fun _ => by omega, fun _ => by omega⟩
  · exact ⟨fun _ => by omega, fun _ => by omega, fun _ => by omega, fun _ => by omega, fun _ => by omega, fun _ => by omega, fun _ => by omega, fun _ => rfl, fun _ => by omega, fun _ => by omega⟩
  · exact ⟨fun _ => by omega, fun _ => by omega, fun _ => by omega, fun _ => by omega, fun _ => by omega, fun _ => by omega, fun _ => by omega, fun _ => by omega, fun _ => rfl, fun _ => by omega⟩
  · refine t_learnD (c := 115) (d := 13) (Or.inl rfl) s dcell_13 (by decide) r v (fun M1 e1 s1 k1 h7 h8 g st => t_signsD ⟨k1, h7, h8, g, st⟩ (fun R hR => ?_))
    refine q _ M1 (eqq.c (Or.inl rfl) e1) s1 ⟨e1.row (by decide), by rw [e1.row (show (0 : Nat) < 115 ∨ _ by decide)]⟩ ?_
    exact ⟨fun _ => by omega, fun _ => by omega, fun _ => by omega, fun _ => by omega, fun _ => by omega, fun _ => by omega, fun _ => by omega, fun _ => by omega, fun _ => by omega, fun _ => ⟨R, hR, rfl⟩⟩
end
