def eqkc (M M' : pj_M) : Prop := ∀ a, a ≠ 219 → a ≠ 220 → a ≠ 221 → M' a = M a
theorem eqkc.rf {M : pj_M} : eqkc M M := fun _ _ _ _ => rfl
theorem eqkc.tr {M M1 M2 : pj_M} (h : eqkc M M1) (h2 : eqkc M1 M2) : eqkc M M2 := fun a h3 h4 h5 => (h2 a h3 h4 h5).trans (h a h3 h4 h5)
theorem eqkc.s {M M' : pj_M} (h : eqs M M') : eqkc M M' := fun a _ h4 h5 => h a h4 h5
theorem eqkc.up {M : pj_M} {k v : Int} : eqkc M (pj_up M 219 k v) := fun a h _ _ => pu_row h
theorem eqkc.w {M M' : pj_M} (h : eqkc M M') : mW M' = mW M := by funext m; unfold mW; rw [h 209 (by decide) (by decide) (by decide)]
theorem mt_ok.n {M M' : pj_M} (h : mt_ok M 204) (e : eqkc M M') : mt_ok M' 204 := by
  unfold mt_ok mt_sz mt_sm bz at *
  rw [e 203 (by decide) (by decide) (by decide), e 204 (by decide) (by decide) (by decide), e 209 (by decide) (by decide) (by decide), e 210 (by decide) (by decide) (by decide), e 211 (by decide) (by decide) (by decide), e 212 (by decide) (by decide) (by decide), e 213 (by decide) (by decide) (by decide)]
  exact h
theorem eqkc.p {M M' : pj_M} (h : eqkc M M') : eqp M M' := fun c x hc => by rw [h c (by unfold mpk at hc; omega) (by unfold mpk at hc; omega) (by unfold mpk at hc; omega)]
theorem mC_up {M : pj_M} {x p q x0 p0 q0 : Nat} {v : Int} (hq : q < 16) (hq0 : q0 < 16) (hp : p < 16) (hp0 : p0 < 16) : mC (pj_up M 219 (16 * (16 * (x0 : Int) + (p0 : Int)) + (q0 : Int)) v) x p q = if x = x0 ∧ p = p0 ∧ q = q0 then v else mC M x p q := by
  unfold mC
  by_cases h : x = x0 ∧ p = p0 ∧ q = q0
  · obtain ⟨rfl, rfl, rfl⟩ := h
    rw [if_pos ⟨rfl, rfl, rfl⟩, pu_eq]
  · rw [if_neg h, pu_nk (by omega)]
/-- what lies in the costs is the cost of something -/
def nsd (G : gr_G) (W : Nat → Nat) (M : pj_M) : Prop := ∀ x p q : Nat, x < 6 → p ≤ q → q ≤ 15 → (0 ≤ mC M x p q ∧ mC M x p q ≤ 1000000) ∧ (mC M x p q < 1000000 → kw G W x p q (mC M x p q).toNat)
/-- and nothing costs less -/
def nex (G : gr_G) (W : Nat → Nat) (M : pj_M) (p q : Nat) : Prop := ∀ x n : Nat, x < 6 → kw G W x p q n → mC M x p q ≤ (n : Int)
theorem nsd.cb {G : gr_G} {W : Nat → Nat} {M : pj_M} {j : Nat} (h : nsd G W M) (hj : j ≤ 15) : mcb M j := fun x p q h1 h2 h3 => (h x p q h1 h2 (by omega)).1
theorem nsd.eq {G : gr_G} {W : Nat → Nat} {M M' : pj_M} (h : nsd G W M) (e : M' 219 = M 219) : nsd G W M' := fun x p q h1 h2 h3 => by have := h x p q h1 h2 h3; unfold mC at *; rw [e]; exact this
theorem nex.eq {G : gr_G} {W : Nat → Nat} {M M' : pj_M} {p q : Nat} (h : nex G W M p q) (e : ∀ x : Nat, mC M' x p q = mC M x p q) : nex G W M' p q := fun x n h1 h2 => by rw [e x]; exact h x n h1 h2
theorem kq1_low {W : Nat → Nat} {P P' : kP} {q : Nat} : ∀ {ss : List Nat} {p n : Nat}, (∀ s p' q' a, s ∈ ss → 8 ≤ s → p ≤ p' → p' ≤ q' → q' ≤ q → a ≤ n → P (s - 8) p' q' a → ∃ a', a' ≤ a ∧ P' (s - 8) p' q' a') → kq1 W P ss p q n → ∃ n', n' ≤ n ∧ kq1 W P' ss p q n'
  | [], p, n, _, h => ⟨n, Nat.le_refl _, h⟩
  | s :: ss, p, n, hm, ⟨m, a, b, h1, h2, h3, h4, h5⟩ => by
    obtain ⟨b', hb, hb'⟩ := kq1_low (ss := ss) (p := m) (n := b) (fun t p' q' a' ht h8 g1 g2 g3 g4 hp => hm t p' q' a' (List.mem_cons_of_mem _ ht) h8 (by omega) g2 g3 (by omega) hp) h5
    rcases h4 with h4 | ⟨h8, h4⟩
    · exact ⟨a + b', by omega, m, a, b', h1, h2, rfl, Or.inl h4, hb'⟩
    · obtain ⟨a', ha, ha'⟩ := hm s p m a List.mem_cons_self h8 (Nat.le_refl _) h1 h2 (by omega) h4
      exact ⟨a' + b', by omega, m, a', b', h1, h2, rfl, Or.inr ⟨h8, ha'⟩, hb'⟩
theorem mss_of {M : pj_M} (k : Nat) : mss M (k : Int) = (gr_of (M 204)).2.2 k := (gr_of_sg (M 204) k).symm
theorem mss_13 {M : pj_M} {k s : Nat} (v : vg (M 204)) (hk : k < 12) (h : s ∈ (gr_of (M 204)).2.2 k) : s ≤ 13 := by
  obtain ⟨t, t1, t2, t3⟩ := (gr_of_mem v hk).mp h
  have hz := v.2.2.1 (k : Int) (by omega) (by omega)
  have := v.2.2.2 (k : Int) t (by omega) (by omega) t1 (by omega)
  omega
/-- when no alternative makes less, all is told of the stretch -/
theorem nclose {M : pj_M} {W : Nat → Nat} {good i j : Nat} (v : vg (M 204)) (hok : md_ok (M 204) good) (hij : i ≤ j) (hj : j ≤ 15) (sd : nsd (gr_of (M 204)) W M) (hx : ∀ p q, i ≤ p → p ≤ q → q ≤ j → ¬ (p = i ∧ q = j) → nex (gr_of (M 204)) W M p q)
    (hc : ∀ k : Nat, k < (gr_of (M 204)).1 → md_g (M 204) good (k : Int) → ∀ a : Nat, kq W (mP M) (mss M (k : Int)) i j a → mC M ((gr_of (M 204)).2.1 k) i j ≤ (a : Int)) : nex (gr_of (M 204)) W M i j := by
  have key : ∀ d x n : Nat, x < 6 → kwd (gr_of (M 204)) W d x i j n → mC M x i j ≤ (n : Int) := by
    intro d
    induction d with
    | zero => intro x n _ h; exact h.elim
    | succ d ih =>
      rintro x n h6 ⟨k, hk, ho, hq⟩
      have hk12 : k < 12 := by have := v.1; have h : k < (M 204 0).toNat := hk; omega
      have b0 := (sd x i j h6 hij hj).1
      by_cases hn : 1000000 ≤ n
      · omega
      rw [← ho]
      have hg : md_g (M 204) good (k : Int) := by
        refine md_gs_g v hk12 (fun c c1 c2 => (hok.2 c c1).mpr c2) ?_
        rcases hq with ⟨h, _⟩ | ⟨_, h⟩
        · intro s hs; rw [h] at hs; cases hs
        · exact kq1_gs (fun x p q a h => kw_gd h) h
      rcases hq with ⟨h1, h2, h3⟩ | ⟨h1, h2⟩
      · exact hc k hk hg n (Or.inl ⟨by rw [mss_of]; exact h1, h2, h3⟩)
      · obtain ⟨n', hn', hq'⟩ := kq1_low (P' := mP M) (fun s p' q' a hs h8 g1 g2 g3 g4 hp => by
          have h13 := mss_13 v hk12 hs
          have hb := (sd (s - 8) p' q' (by omega) g2 (by omega)).1
          have hle : mC M (s - 8) p' q' ≤ (a : Int) := by
            by_cases e : p' = i ∧ q' = j
            · obtain ⟨rfl, rfl⟩ := e
              exact ih (s - 8) a (by omega) hp
            · exact hx p' q' g1 g2 g3 e (s - 8) a (by omega) ⟨d, hp⟩
          exact ⟨(mC M (s - 8) p' q').toNat, by omega, by unfold mP; omega⟩) h2
        have := hc k hk hg n' (Or.inr ⟨by rw [mss_of]; exact h1, by rw [mss_of]; exact hq'⟩)
        omega
  rintro x n h6 ⟨d, h⟩
  exact key d x n h6 h
def nsum (M : pj_M) (i j : Nat) : Int := mC M 0 i j + mC M 1 i j + mC M 2 i j + mC M 3 i j + mC M 4 i j + mC M 5 i j
theorem nsum_up {M : pj_M} {x i j : Nat} {v : Int} (hx : x < 6) (hi : i < 16) (hj : j < 16) : nsum (pj_up M 219 (16 * (16 * (x : Int) + (i : Int)) + (j : Int)) v) i j = nsum M i j - mC M x i j + v := by
  unfold nsum
  rw [mC_up hj hj hi hi, mC_up hj hj hi hi, mC_up hj hj hi hi, mC_up hj hj hi hi, mC_up hj hj hi hi, mC_up hj hj hi hi]
  obtain h | h | h | h | h | h : x = 0 ∨ x = 1 ∨ x = 2 ∨ x = 3 ∨ x = 4 ∨ x = 5 := by omega
  all_goals (subst h; simp <;> omega)
/-- every alternative once -/
theorem t_need57 {M : pj_M} {good i z : Nat} {k26 k36 k48 Q : Int → pj_M → Prop} (ok : mt_ok M 204) (v : vg (M 204)) (h12 : M 203 12 = (good : Int)) (hok : md_ok (M 204) good) (hj : i + z ≤ 15) (sd : nsd (gr_of (M 204)) (mW M) M)
    (q : ∀ r M', eqkc M M' → nsd (gr_of (M 204)) (mW M) M' → (∀ x p q' : Nat, p ≤ q' → q' ≤ 15 → ¬ (p = i ∧ q' = i + z) → mC M' x p q' = mC M x p q') → ((r = 0 ∧ M' 219 = M 219 ∧ ∀ k : Nat, k < (gr_of (M 204)).1 → md_g (M 204) good (k : Int) → ∀ a : Nat, kq (mW M) (mP M) (mss M (k : Int)) i (i + z) a → mC M ((gr_of (M 204)).2.1 k) i (i + z) ≤ (a : Int)) ∨ (r = 1 ∧ nsum M' i (i + z) < nsum M i (i + z))) → k48 r M') : w_X12_neededOf_57 203 (z : Int) (i : Int) k26 k36 k48 Q 0 0 M := by
  have hD := v.1
  unfold w_X12_neededOf_57
  refine pj_lp_inv (fun y : Int × Int × pj_M => ∃ k : Nat, y.2.1 = (k : Int) ∧ (k : Int) ≤ M 204 0 ∧ eqkc M y.2.2 ∧ nsd (gr_of (M 204)) (mW M) y.2.2 ∧ (∀ x p q' : Nat, p ≤ q' → q' ≤ 15 → ¬ (p = i ∧ q' = i + z) → mC y.2.2 x p q' = mC M x p q') ∧ ((y.1 = 0 ∧ y.2.2 219 = M 219 ∧ ∀ k' : Nat, k' < k → md_g (M 204) good (k' : Int) → ∀ a : Nat, kq (mW M) (mP M) (mss M (k' : Int)) i (i + z) a → mC M ((gr_of (M 204)).2.1 k') i (i + z) ≤ (a : Int)) ∨ (y.1 = 1 ∧ nsum y.2.2 i (i + z) < nsum M i (i + z)))) (fun y => (M 204 0 - y.2.1).toNat) ?_ (0, 0, M) ⟨0, rfl, by omega, eqkc.rf, sd, fun _ _ _ _ _ _ => rfl, Or.inl ⟨rfl, rfl, fun k' h => absurd h (Nat.not_lt_zero _)⟩⟩
  rintro ⟨x3, _, M1⟩ ⟨k, h1, hk, e1, sd1, ot1, alt⟩ P hP
  dsimp only at h1 e1 sd1 ot1 alt hP ⊢
  subst h1
  have ok1 : mt_ok M1 204 := ok.n e1
  have e4 : M1 204 = M 204 := e1 204 (by decide) (by decide) (by decide)
  have e3 : M1 203 = M 203 := e1 203 (by decide) (by decide) (by decide)
  unfold w_X12_neededOf_57b
  refine ⟨204, ⟨ok1.1, by decide⟩, ⟨by omega, by omega⟩, ?_⟩
  rw [e4]
  refine ⟨⟨by omega, by omega⟩, fun hend => q x3 M1 e1 sd1 ot1 ?_, fun hgo => ⟨204, ⟨ok1.1, by decide⟩, ?_⟩⟩
  · rcases alt with ⟨a1, a2, a3⟩ | h
    · refine Or.inl ⟨a1, a2, fun k' hk' => a3 k' ?_⟩
      have : k' < (M 204 0).toNat := hk'
      omega
    · exact Or.inr h
  have hk12 : k < 12 := by omega
  refine t_isGood (good := good) (by decide) (by rw [e4]; exact v) (by rw [e3]; exact h12) hok.1 ⟨by omega, by omega⟩ (fun r r01 riff => ⟨by rcases r01 with h | h <;> rw [h] <;> exact ⟨by decide, by decide⟩, fun hr => ⟨204, ⟨ok1.1, by decide⟩, ?_⟩, fun hr => ?_⟩)
  · have hg : md_g (M 204) good (k : Int) := by rw [← e4]; exact riff.mp (r01.resolve_left hr)
    unfold w_X12_alt w_X12_cell
    dsimp only
    rw [e4]
    have ho := v.2.1 (k : Int) (by omega) (by omega)
    obtain ⟨x, hx⟩ : ∃ x : Nat, M 204 (1 + 6 * (k : Int)) = (x : Int) := ⟨(M 204 (1 + 6 * (k : Int))).toNat, by omega⟩
    have hxo : (gr_of (M 204)).2.1 k = x := by show (M 204 (1 + 6 * (k : Int))).toNat = x; rw [hx]; exact Int.toNat_natCast x
    rw [hx, rm_25, show (i : Int) + (z : Int) = ((i + z : Nat) : Int) by omega]
    refine ⟨⟨by omega, by omega⟩, t_costBy ok1 ⟨by omega, by omega⟩ (by omega) hj (sd1.cb hj) (fun r M2 e2 rb rs rl => ?_)⟩
    have e219 : M2 219 = M1 219 := e2 219 (by decide) (by decide)
    have w1 : mW M1 = mW M := e1.w
    have ss1 : mss M1 (k : Int) = mss M (k : Int) := by unfold mss mt_f mt_sm mt_sz; rw [e4]
    rw [w1, ss1] at rs rl
    have e12 : eqkc M M2 := e1.tr (eqkc.s e2)
    have sd2 : nsd (gr_of (M 204)) (mW M) M2 := sd1.eq e219
    have hcb := (sd2 x i (i + z) (by omega) (by omega) hj).1
    have hcl : M2 219 (16 * (16 * (x : Int) + (i : Int)) + ((i + z : Nat) : Int)) = mC M2 x i (i + z) := rfl
    rw [hcl]
    have c21 : ∀ x p q' : Nat, mC M2 x p q' = mC M1 x p q' := fun x p q' => by unfold mC; rw [e219]
    refine ⟨⟨by omega, by omega⟩, ⟨by omega, by omega⟩, ⟨by omega, by omega⟩, fun hlt => ⟨⟨by omega, by omega⟩, ?_⟩, fun hge => ?_⟩
    · rintro M3 rfl
      have hkw : kw (gr_of (M 204)) (mW M) x i (i + z) r.toNat := by
        refine kw_iff.mpr ⟨k, by show k < (M 204 0).toNat; omega, hxo, ?_⟩
        have h0 := rs (by omega)
        rw [mss_of] at h0
        refine kq_mnd (fun s p' q' a hs h8 g1 g2 g3 hp => ?_) h0
        have h13 := mss_13 v hk12 hs
        have h2 := (sd1 (s - 8) p' q' (by omega) g2 (by omega)).2
        unfold mP at hp
        rw [hp.1, Int.toNat_natCast] at h2
        exact h2 (by omega)
      refine hP (1, (k : Int) + 1, _) ⟨k + 1, by show (k : Int) + 1 = _; omega, by omega, e12.tr eqkc.up, fun x' p q' g1 g2 g3 => ?_, fun x' p q' g1 g2 g3 => ?_, Or.inr ⟨rfl, ?_⟩⟩ (by show (M 204 0 - ((k : Int) + 1)).toNat < (M 204 0 - (k : Int)).toNat; omega)
      · show (0 ≤ mC (pj_up M2 219 (16 * (16 * (x : Int) + (i : Int)) + ((i + z : Nat) : Int)) r) x' p q' ∧ mC (pj_up M2 219 (16 * (16 * (x : Int) + (i : Int)) + ((i + z : Nat) : Int)) r) x' p q' ≤ 1000000) ∧ (mC (pj_up M2 219 (16 * (16 * (x : Int) + (i : Int)) + ((i + z : Nat) : Int)) r) x' p q' < 1000000 → kw (gr_of (M 204)) (mW M) x' p q' (mC (pj_up M2 219 (16 * (16 * (x : Int) + (i : Int)) + ((i + z : Nat) : Int)) r) x' p q').toNat)
        rw [mC_up (by omega) (by omega) (by omega) (by omega)]
        by_cases e : x' = x ∧ p = i ∧ q' = i + z
        · rw [if_pos e]
          obtain ⟨rfl, rfl, rfl⟩ := e
          exact ⟨rb, fun _ => hkw⟩
        · rw [if_neg e]; exact sd2 x' p q' g1 g2 g3
      · show mC (pj_up M2 219 (16 * (16 * (x : Int) + (i : Int)) + ((i + z : Nat) : Int)) r) x' p q' = _
        rw [mC_up (by omega) (by omega) (by omega) (by omega), if_neg (fun h => g3 h.2), c21]
        exact ot1 x' p q' g1 g2 g3
      · show nsum (pj_up M2 219 (16 * (16 * (x : Int) + (i : Int)) + ((i + z : Nat) : Int)) r) i (i + z) < _
        rw [nsum_up (by omega) (by omega) (by omega)]
        have : nsum M2 i (i + z) = nsum M1 i (i + z) := by unfold nsum; simp only [c21]
        rcases alt with ⟨a1, a2, _⟩ | h
        · have : nsum M1 i (i + z) = nsum M i (i + z) := by unfold nsum mC; rw [a2]
          omega
        · omega
    · refine hP (x3, (k : Int) + 1, M2) ⟨k + 1, by show (k : Int) + 1 = _; omega, by omega, e12, sd2, fun x' p q' g1 g2 g3 => (c21 x' p q').trans (ot1 x' p q' g1 g2 g3), ?_⟩ (by show (M 204 0 - ((k : Int) + 1)).toNat < (M 204 0 - (k : Int)).toNat; omega)
      rcases alt with ⟨a1, a2, a3⟩ | ⟨h1, h2⟩
      · refine Or.inl ⟨a1, e219.trans a2, fun k' hk' hg' a ha => ?_⟩
        by_cases e : k' = k
        · subst e
          have : mP M1 = mP M := by funext x p q a; unfold mP mC; rw [a2]
          rw [this] at rl
          have h1 := rl a ha
          have h2 : mC M2 x i (i + z) = mC M x i (i + z) := by unfold mC; rw [e219, a2]
          rw [hxo]
          omega
        · exact a3 k' (by omega) hg' a ha
      · refine Or.inr ⟨h1, ?_⟩
        show nsum M2 i (i + z) < _
        have : nsum M2 i (i + z) = nsum M1 i (i + z) := by unfold nsum; simp only [c21]
        omega
  · refine hP (x3, (k : Int) + 1, M1) ⟨k + 1, by show (k : Int) + 1 = _; omega, by omega, e1, sd1, ot1, ?_⟩ (by show (M 204 0 - ((k : Int) + 1)).toNat < (M 204 0 - (k : Int)).toNat; omega)
    rcases alt with ⟨a1, a2, a3⟩ | h
    · refine Or.inl ⟨a1, a2, fun k' hk' hg' a ha => ?_⟩
      by_cases e : k' = k
      · subst e
        rw [← e4] at hg'
        have := riff.mpr hg'
        omega
      · exact a3 k' (by omega) hg' a ha
    · exact Or.inr h
theorem t_neededOf {M : pj_M} {wl : Nat} {Q : Int → pj_M → Prop} (ok : mt_ok M 204) (v : vg (M 204)) (mg : mgd M) (h14 : M 203 14 = (wl : Int)) (hwl : wl ≤ 15) (q : ∀ M', eqkc M M' → (∀ x p q n : Nat, x < 6 → p ≤ q → q ≤ wl → kl (gr_of (M 204)) (mW M) x p q n → n < 1000000 → mC M' x p q = (n : Int)) → Q (mC M' (M 204 1).toNat 0 wl) M') : w_X12_neededOf 203 M Q := by
  obtain ⟨good, h12, hok⟩ := mg
  have hst := v.2.1 0 (by decide) (by decide)
  rw [show (1 : Int) + 6 * 0 = 1 by decide] at hst
  have big : ∀ M1, eqkc M M1 → nsd (gr_of (M 204)) (mW M) M1 → w_X12_neededOf_26 203 Q 0 M1 := by
    intro M1 e1 sd1
    unfold w_X12_neededOf_26
    refine pj_lp_inv (fun y : Int × pj_M => ∃ z : Nat, y.1 = (z : Int) ∧ z ≤ wl + 1 ∧ eqkc M y.2 ∧ nsd (gr_of (M 204)) (mW M) y.2 ∧ ∀ p q : Nat, p ≤ q → q ≤ wl → q - p < z → nex (gr_of (M 204)) (mW M) y.2 p q) (fun y => ((wl : Int) + 1 - y.1).toNat) ?_ (0, M1) ⟨0, rfl, by omega, e1, sd1, fun p q _ _ h => absurd h (Nat.not_lt_zero _)⟩
    rintro ⟨_, M2⟩ ⟨z, h1, hz, e2, sd2, ex2⟩ P hP
    dsimp only at h1 e2 sd2 ex2 hP ⊢
    subst h1
    have e3 : M2 203 = M 203 := e2 203 (by decide) (by decide) (by decide)
    have e4 : M2 204 = M 204 := e2 204 (by decide) (by decide) (by decide)
    unfold w_X12_neededOf_26b
    rw [e3, h14]
    refine ⟨⟨by omega, by omega⟩, ⟨by omega, by omega⟩, fun hend => ?_, fun hgo => ?_⟩
    · unfold w_X12_start w_X12_alt w_X12_cell
      refine ⟨204, ⟨by rw [e3]; exact ok.1, by decide⟩, ⟨by decide, by decide⟩, ?_⟩
      dsimp only
      rw [show (1 : Int) + 6 * 0 = 1 by decide, rm_25, e3, e4, h14]
      have hq := q M2 e2 (fun x p q' n hx hp hq' hk hn => ?_)
      · refine ⟨⟨by omega, by omega⟩, ?_⟩
        have : mC M2 (M 204 1).toNat 0 wl = M2 219 (16 * (16 * M 204 1 + 0) + (wl : Int)) := by
          unfold mC; congr 1; omega
        rw [← this]; exact hq
      · have g1 := ex2 p q' hp hq' (by omega) x n hx hk.1
        obtain ⟨g2, g3⟩ := sd2 x p q' hx hp (by omega)
        have g4 := hk.2 _ (g3 (by omega))
        omega
    · unfold w_X12_neededOf_36
      refine pj_lp_inv (fun y : Int × pj_M => ∃ i : Nat, y.1 = (i : Int) ∧ i + z ≤ wl + 1 ∧ eqkc M y.2 ∧ nsd (gr_of (M 204)) (mW M) y.2 ∧ ∀ p q : Nat, p ≤ q → q ≤ wl → (q - p < z ∨ (q - p = z ∧ p < i)) → nex (gr_of (M 204)) (mW M) y.2 p q) (fun y => ((wl : Int) + 1 - y.1).toNat) ?_ (0, M2) ⟨0, rfl, by omega, e2, sd2, fun p q g1 g2 g3 => ex2 p q g1 g2 (by omega)⟩
      rintro ⟨_, M3⟩ ⟨i, h1, hi, e5, sd3, ex3⟩ P3 hP3
      dsimp only at h1 e5 sd3 ex3 hP3 ⊢
      subst h1
      unfold w_X12_neededOf_36b
      rw [e5 203 (by decide) (by decide) (by decide), h14]
      refine ⟨⟨by omega, by omega⟩, ⟨by omega, by omega⟩, fun hend3 => ?_, fun hgo3 => ?_⟩
      · refine hP ((z : Int) + 1, M3) ⟨z + 1, by show (z : Int) + 1 = _; omega, by omega, e5, sd3, fun p q g1 g2 g3 => ex3 p q g1 g2 (by omega)⟩ (by show ((wl : Int) + 1 - ((z : Int) + 1)).toNat < ((wl : Int) + 1 - (z : Int)).toNat; omega)
      · have hj : i + z ≤ wl := by omega
        unfold w_X12_neededOf_48
        refine pj_lp_inv (fun y : Int × pj_M => eqkc M y.2 ∧ nsd (gr_of (M 204)) (mW M) y.2 ∧ (∀ p q : Nat, p ≤ q → q ≤ wl → (q - p < z ∨ (q - p = z ∧ p < i)) → nex (gr_of (M 204)) (mW M) y.2 p q) ∧ (y.1 = 1 ∨ (y.1 = 0 ∧ nex (gr_of (M 204)) (mW M) y.2 i (i + z)))) (fun y => (2 * nsum y.2 i (i + z) + y.1).toNat) ?_ (1, M3) ⟨e5, sd3, ex3, Or.inl rfl⟩
        rintro ⟨x3, M4⟩ ⟨e6, sd4, ex4, hx3⟩ P4 hP4
        dsimp only at e6 sd4 ex4 hx3 hP4 ⊢
        unfold w_X12_neededOf_48b
        refine ⟨⟨by omega, by omega⟩, fun h0 => ?_, fun hn0 => ?_⟩
        · have hx : nex (gr_of (M 204)) (mW M) M4 i (i + z) := by
            rcases hx3 with h | h
            · omega
            · exact h.2
          refine hP3 ((i : Int) + 1, M4) ⟨i + 1, by show (i : Int) + 1 = _; omega, by omega, e6, sd4, fun p q' g1 g2 g3 => ?_⟩ (by show ((wl : Int) + 1 - ((i : Int) + 1)).toNat < ((wl : Int) + 1 - (i : Int)).toNat; omega)
          by_cases e : p = i ∧ q' = i + z
          · obtain ⟨rfl, rfl⟩ := e; exact hx
          · exact ex4 p q' g1 g2 (by omega)
        · have h1 : x3 = 1 := by omega
          have e44 : M4 204 = M 204 := e6 204 (by decide) (by decide) (by decide)
          have eW : mW M4 = mW M := e6.w
          have v4 : vg (M4 204) := by rw [e44]; exact v
          have ok4 := ok.n e6
          have hok4 : md_ok (M4 204) good := by rw [e44]; exact hok
          have sd4' : nsd (gr_of (M4 204)) (mW M4) M4 := by rw [e44, eW]; exact sd4
          refine t_need57 (good := good) ok4 v4 (by rw [e6 203 (by decide) (by decide) (by decide)]; exact h12) hok4 (by omega) sd4' (fun r M5 e7 sd5 ot5 alt => ?_)
          have pos4 : 0 ≤ nsum M4 i (i + z) := by
            have b0 := (sd4 0 i (i + z) (by decide) (by omega) (by omega)).1
            have b1 := (sd4 1 i (i + z) (by decide) (by omega) (by omega)).1
            have b2 := (sd4 2 i (i + z) (by decide) (by omega) (by omega)).1
            have b3 := (sd4 3 i (i + z) (by decide) (by omega) (by omega)).1
            have b4 := (sd4 4 i (i + z) (by decide) (by omega) (by omega)).1
            have b5 := (sd4 5 i (i + z) (by decide) (by omega) (by omega)).1
            unfold nsum; omega
          rw [e44, eW] at sd5
          have ex5 : ∀ p q' : Nat, p ≤ q' → q' ≤ wl → (q' - p < z ∨ (q' - p = z ∧ p < i)) → nex (gr_of (M 204)) (mW M) M5 p q' := fun p q' g1 g2 g3 => (ex4 p q' g1 g2 g3).eq (fun x => ot5 x p q' g1 (by omega) (by omega))
          rcases alt with ⟨a1, a2, a3⟩ | ⟨a1, a2⟩
          · have hx : nex (gr_of (M4 204)) (mW M4) M4 i (i + z) := nclose v4 hok4 (by omega) (by omega) sd4' (fun p q' g1 g2 g3 g4 => by rw [e44, eW]; exact ex4 p q' g2 (by omega) (by omega)) a3
            rw [e44, eW] at hx
            have hx5 : nex (gr_of (M 204)) (mW M) M5 i (i + z) := hx.eq (fun x => by unfold mC; rw [a2])
            have sum5 : nsum M5 i (i + z) = nsum M4 i (i + z) := by unfold nsum mC; rw [a2]
            exact hP4 (r, M5) ⟨e6.tr e7, sd5, ex5, Or.inr ⟨a1, hx5⟩⟩ (by show (2 * nsum M5 i (i + z) + r).toNat < (2 * nsum M4 i (i + z) + x3).toNat; omega)
          · exact hP4 (r, M5) ⟨e6.tr e7, sd5, ex5, Or.inl a1⟩ (by show (2 * nsum M5 i (i + z) + r).toNat < (2 * nsum M4 i (i + z) + x3).toNat; omega)
  unfold w_X12_neededOf w_X12_neededOf_2
  refine pj_lp_inv (fun y : Int × pj_M => ∃ c : Nat, y.1 = (c : Int) ∧ c ≤ 1536 ∧ eqkc M y.2 ∧ ∀ x : Int, 0 ≤ x → x < (c : Int) → y.2 219 x = 1000000) (fun y => (1536 - y.1).toNat) ?_ (0, M) ⟨0, rfl, by omega, eqkc.rf, fun x g1 g2 => by omega⟩
  rintro ⟨_, M1⟩ ⟨c, h1, hc, e1, f1⟩ P hP
  dsimp only at h1 e1 f1 hP ⊢
  subst h1
  unfold w_X12_neededOf_2b
  rw [rm_25]
  refine ⟨⟨by omega, by omega⟩, fun hend => big M1 e1 (fun x p q' g1 g2 g3 => ?_), fun hgo => ⟨⟨by omega, by omega⟩, ?_⟩⟩
  · have : mC M1 x p q' = 1000000 := f1 _ (by omega) (by omega)
    rw [this]
    exact ⟨⟨by decide, by decide⟩, fun h => absurd h (Int.lt_irrefl _)⟩
  · rintro M3 rfl
    refine hP ((c : Int) + 1, _) ⟨c + 1, by show (c : Int) + 1 = _; omega, by omega, e1.tr eqkc.up, fun x g1 g2 => ?_⟩ (by show (1536 - ((c : Int) + 1)).toNat < (1536 - (c : Int)).toNat; omega)
    show pj_up M1 219 (c : Int) 1000000 219 x = _
    by_cases e : x = (c : Int)
    · rw [e, pu_eq]
    · rw [pu_nk e]; exact f1 x g1 (by omega)
