theorem clk.eqr {M M' : pj_M} {c : Nat} (h : clk M c) (e : ∀ a, c ≤ a → a ≤ c + 19 → M' a = M a) : clk M' c := by
  have r : ∀ a, c ≤ a → a ≤ c + 19 → M' a = M a := e
  have e0 : M' c = M c := e c (by omega) (by omega)
  have hx : ∀ k, k ≤ 19 → M' (c + k) = M (c + k) := fun k hk => e (c + k) (by omega) (by omega)
  have hg : gof M' (c + 1) = gof M (c + 1) := gof.eq (fun a a1 a2 => e a (by omega) (by omega))
  have hgc : gc M' c = gc M c := by unfold gc; rw [e0, hx 10 (by omega), hx 11 (by omega), hx 12 (by omega)]
  obtain ⟨h1, h2, h3, h4, h5, h6⟩ := h
  refine ⟨by rw [e0]; exact h1, ?_, h3.eq (fun a a1 a2 => e a (by omega) (by omega)), h4.eq (fun a a1 a2 => e a (by omega) (by omega)), by rw [hg, hx 1 (by omega)]; exact h5, ?_⟩
  · have ed : eqd c M M' ∨ True := Or.inr trivial
    unfold cst cok ctk csan cgood cx cpx cgd tkw bs18 be18 at h2 ⊢
    rw [hgc, e0, hx 6 (by omega), hx 10 (by omega), hx 11 (by omega), hx 12 (by omega), hx 13 (by omega), hx 14 (by omega), hx 15 (by omega), hx 16 (by omega), hx 17 (by omega), hx 18 (by omega), hx 19 (by omega)]
    exact h2
  · unfold ctg cf1 cf2 at h6 ⊢
    rw [hgc, hg, e0, hx 1 (by omega)]
    exact h6
theorem t_fillColumn {M : pj_M} {c l q : Nat} {W : Nat → Nat} {Q : pj_M → Prop} (lk : clk M c) (h8 : M c 8 = 0) (hl : lcell l) (hl2 : l + 1 < 175) (vl : lvl M l) (hW : ∀ m : Nat, W m = (M (l + 1) (m : Int)).toNat) (hq : q < 15) (hcb0 : ∀ q', q' < q → dex M (gof M (c + 1)) W q')
    (k : ∀ M', eqn M M' → (∀ q', q' ≤ q → dex M' (gof M (c + 1)) W q') → Q M') : w_X2_fillColumn 175 c l (q : Int) M Q := by
  have ok := lk.2.1.1
  have hc := ok.1
  have hc2 : c = 115 ∨ c = 135 ∨ c = 155 := hc
  have gv := lk.2.2.1
  generalize hG : gof M (c + 1) = G at k hcb0
  have hGo : ∀ k, k < G.1 → G.2.1 k < 6 := fun k _ => by rw [← hG]; exact gof_o gv k
  have hG4 : ∀ k, k < G.1 → (G.2.2 k).length ≤ 4 := fun k _ => by rw [← hG]; exact gof_4 gv k
  have hG14 : ∀ k, k < G.1 → ∀ s ∈ G.2.2 k, s < 14 := fun k _ s hs => by
    rw [← hG] at hs
    obtain ⟨t, t1, t2, t3⟩ := gof_mem.mp hs
    have := gv.2.2.2.1 ((k : Int) * 4 + t)
    omega
  have h6 := ok.2.1
  have row : ∀ M', eqn M M' → ∀ a, a < 176 → M' a = M a := fun M' e a ha => e.row (Or.inl ha)
  -- exact in the end
  have fin : ∀ M', dSt M G W q M' → dAF G W q M' → Q M' := by
    intro M' s a
    refine k M' s.1 (fun q' hq' x p hx hp => ?_)
    by_cases e : q' = q
    · subst e
      by_cases hg : gr_gd G 8 x
      · obtain ⟨v, h1, h2⟩ := a x p hx hp hg
        exact Or.inl ⟨v, h1, kl_b hGo hG4 hq h2, h2⟩
      · right
        refine ⟨?_, hg⟩
        have hb := s.2.1 x p q' hx hp (Nat.le_refl _)
        apply Classical.byContradiction
        intro hne
        obtain ⟨d, hd⟩ := s.2.2.2 x p hx hp (by omega)
        exact hg (kw_gd hd)
    · have := hcb0 q' (by omega) x p hx hp
      rw [s.2.2.1 x p q' hx hp (by omega)]
      exact this
  -- sound
  have sound : ∀ M', dSt M G W q M' → ∀ r : Nat, (r : Int) < M c 6 → M (c + 10) (r : Int) < 6 → ∀ p a : Nat, p ≤ q → kq W (dP M') (dL M c r) p q a → kw G W (M (c + 10) (r : Int)).toNat p q a := by
    intro M' s r hr ho p a hp hk
    obtain ⟨⟨kk, k1, k2, k3⟩, _⟩ := dr_alt lk h8 hr ho
    rw [hG] at k1 k2 k3
    refine kw_iff.mpr ⟨kk, k1, k2, ?_⟩
    rw [k3]
    refine kq_mnd (fun s' p' q' a' hs' h8' g1 g2 g3 hP => ?_) hk
    rw [← k3] at hs'
    have h14 := hG14 kk k1 s' hs'
    by_cases e : q' = q
    · subst e
      have hv := s.2.2.2 (s' - 8) p' (by omega) g2 (by have := hP.1; have := hP.2; omega)
      rw [hP.1, Int.toNat_natCast] at hv
      exact hv
    · have h1 := s.2.2.1 (s' - 8) p' q' (by omega) g2 (by omega)
      rcases hcb0 q' (by omega) (s' - 8) p' (by omega) g2 with ⟨n, n1, _, n2⟩ | ⟨n1, _⟩
      · have := hP.1
        have : a' = n := by omega
        rw [this]; exact n2.1
      · have := hP.1; have := hP.2; omega
  -- closed everywhere: all is right
  have closed : ∀ M', dSt M G W q M' → (∀ r : Nat, (r : Int) < M c 6 → M (c + 10) (r : Int) < 6 → dcl M c W q M' r) → dAF G W q M' := by
    intro M' s hcl
    apply Classical.byContradiction
    intro hna
    obtain ⟨x0, p0, n0, kk, g1, g2, g3, g4, g5, g6, g7, g8⟩ := d_grow hGo hG14 hG4 hq hcb0 s hna
    obtain ⟨r, r1, r2, r3⟩ := dr_rule lk h8 (by rw [hG]; exact g4) (by rw [hG]; exact g6)
    rw [hG] at r2 r3
    have hk := g8 M' s (fun _ _ _ _ => Int.le_refl _)
    rw [← r3] at hk
    have := hcl r r1 (by omega) p0 n0 g2 hk
    rw [r2, g5, Int.toNat_natCast] at this
    exact g3 (dFN.mono (M1 := M') s g1 g2 n0 g7 (by have := kl_b hGo hG4 hq g7; omega) this)
  -- the rounds
  have rounds : ∀ M1, dSt M G W q M1 → w_X2_fillColumn_53 175 c l (q : Int) Q 1 0 M1 := by
    intro M1 s1
    unfold w_X2_fillColumn_53
    refine pj_lp_inv (fun y : Int × Int × pj_M => ∃ ch n : Nat, y.1 = (ch : Int) ∧ y.2.1 = (n : Int) ∧ n ≤ 1000 ∧ ch < 64 ∧ dSt M G W q y.2.2 ∧ ((n = 0 ∧ ch = 1) ∨ (1 ≤ n ∧ ∀ r : Nat, (r : Int) < M c 6 → M (c + 10) (r : Int) < 6 → dcl M c W q y.2.2 r ∨ ∃ x, tbit (M (c + 13) (r : Int)) x ∧ ch.testBit x = true)) ∧ (dAF G W q y.2.2 ∨ ∃ g : Nat, (∀ x p, x < 6 → p ≤ q → g.testBit (x * 15 + p) = true → dFN G W q y.2.2 x p) ∧ n ≤ bcn g 90)) (fun y => (1000 - y.2.1).toNat) ?_ (1, 0, M1) ⟨1, 0, rfl, rfl, by decide, by decide, s1, Or.inl ⟨rfl, rfl⟩, Or.inr ⟨0, fun x p _ _ h => by simp at h, Nat.zero_le _⟩⟩
    rintro ⟨_, _, M2⟩ ⟨ch, n, h1, h2, hn, hch, s2, hcl, hgr⟩ P hP
    dsimp only at h1 h2 s2 hcl hgr hP ⊢
    subst h1 h2
    unfold w_X2_fillColumn_53b
    refine ⟨⟨by omega, by omega⟩, fun h => fin M2 s2 ?_, fun h => ⟨⟨by omega, by omega⟩, fun h0 => fin M2 s2 ?_, fun h0 => ?_⟩⟩
    · rcases hgr with h' | ⟨g, _, h'⟩
      · exact h'
      · have := bcn_le g 90; omega
    · rcases hcl with ⟨_, h'⟩ | ⟨_, h'⟩
      · omega
      · refine closed M2 s2 (fun r r1 r2 => ?_)
        rcases h' r r1 r2 with h'' | ⟨x, _, h''⟩
        · exact h''
        · have : ch = 0 := by omega
          rw [this] at h''; simp at h''
    · -- a round
      have htg : dAF G W q M2 ∨ ∃ x0 p0 n0 r0 : Nat, x0 < 6 ∧ p0 ≤ q ∧ ¬ dFN G W q M2 x0 p0 ∧ (r0 : Int) < M c 6 ∧ M (c + 10) (r0 : Int) = (x0 : Int) ∧ kl G W x0 p0 q n0 ∧ n0 ≤ 16399 ∧ ∀ M3, dSt M G W q M3 → dmn q M2 M3 → kq W (dP M3) (dL M c r0) p0 q n0 := by
        by_cases hA : dAF G W q M2
        · exact Or.inl hA
        · right
          obtain ⟨x0, p0, n0, kk, g1, g2, g3, g4, g5, g6, g7, g8⟩ := d_grow hGo hG14 hG4 hq hcb0 s2 hA
          obtain ⟨r, r1, r2, r3⟩ := dr_rule lk h8 (by rw [hG]; exact g4) (by rw [hG]; exact g6)
          rw [hG] at r2 r3
          exact ⟨x0, p0, n0, r, g1, g2, g3, r1, by rw [r2, g5], g7, kl_b hGo hG4 hq g7, fun M3 s3 m3 => by rw [r3]; exact g8 M3 s3 m3⟩
      unfold w_X2_fillColumn_76
      refine pj_lp_inv (fun y : Int × Int × pj_M => ∃ ac r : Nat, y.1 = (ac : Int) ∧ y.2.1 = (r : Int) ∧ (r : Int) ≤ M c 6 ∧ ac < 64 ∧ dSt M G W q y.2.2 ∧ dmn q M2 y.2.2 ∧ (∀ r' : Nat, (r' : Int) < M c 6 → M (c + 10) (r' : Int) < 6 → (r' < r ∨ n ≠ 0) → dcl M c W q y.2.2 r' ∨ ∃ x, tbit (M (c + 13) (r' : Int)) x ∧ (ac.testBit x = true ∨ (r ≤ r' ∧ ch.testBit x = true))) ∧ (dAF G W q M2 ∨ ∃ x0 p0 n0 r0 : Nat, x0 < 6 ∧ p0 ≤ q ∧ ¬ dFN G W q M2 x0 p0 ∧ (r0 : Int) < M c 6 ∧ M (c + 10) (r0 : Int) = (x0 : Int) ∧ kl G W x0 p0 q n0 ∧ n0 ≤ 16399 ∧ (∀ M3, dSt M G W q M3 → dmn q M2 M3 → kq W (dP M3) (dL M c r0) p0 q n0) ∧ (r ≤ r0 ∨ dFN G W q y.2.2 x0 p0))) (fun y => (M c 6 - y.2.1).toNat) ?_ (0, 0, M2) ⟨0, 0, rfl, rfl, h6.1, by decide, s2, fun _ _ _ _ => Int.le_refl _, fun r' r1 r2 hor => ?_, ?_⟩
      · rintro ⟨_, _, M3⟩ ⟨ac, r, h1, h2, hr, hac, s3, mn3, d4, tg⟩ P2 hP2
        dsimp only at h1 h2 s3 mn3 d4 tg hP2 ⊢
        subst h1 h2
        have e6 : M3 c 6 = M c 6 := by rw [row M3 s3.1 c (by omega)]
        have e10 : M3 (c + 10) = M (c + 10) := row M3 s3.1 _ (by omega)
        have e13 : M3 (c + 13) = M (c + 13) := row M3 s3.1 _ (by omega)
        have ok3 : cok M3 c := by
          unfold cok at ok ⊢
          rw [e6, e10, e13, row M3 s3.1 (c + 11) (by omega), row M3 s3.1 (c + 12) (by omega)]
          exact ok
        -- not looked at
        have stay : (dcl M c W q M3 r ∨ (∃ x, tbit (M (c + 13) (r : Int)) x ∧ ac.testBit x = true) ∨ 6 ≤ M (c + 10) (r : Int)) → (6 ≤ M (c + 10) (r : Int) ∨ dcl M c W q M2 r) → (r : Int) < M c 6 → P2 ((ac : Int), (r : Int) + 1, M3) := by
          intro hsk hs2 hrr
          refine hP2 ((ac : Int), (r : Int) + 1, M3) ⟨ac, r + 1, rfl, by show (r : Int) + 1 = _; omega, by omega, hac, s3, mn3, fun r' r1 r2 hor => ?_, ?_⟩ (by show (M c 6 - ((r : Int) + 1)).toNat < (M c 6 - (r : Int)).toNat; omega)
          · by_cases e : r' = r
            · subst e
              rcases hsk with h | ⟨x, b1, b2⟩ | h
              · exact Or.inl h
              · exact Or.inr ⟨x, b1, Or.inl b2⟩
              · omega
            · rcases d4 r' r1 r2 (by omega) with h | ⟨x, b1, b2 | b2⟩
              · exact Or.inl h
              · exact Or.inr ⟨x, b1, Or.inl b2⟩
              · exact Or.inr ⟨x, b1, Or.inr ⟨by omega, b2.2⟩⟩
          · rcases tg with h | ⟨x0, p0, n0, r0, g1, g2, g3, g4, g5, g6, g7, g8, g9⟩
            · exact Or.inl h
            · refine Or.inr ⟨x0, p0, n0, r0, g1, g2, g3, g4, g5, g6, g7, g8, ?_⟩
              by_cases e : r0 = r
              · subst e
                exfalso
                rcases hs2 with h | h
                · omega
                · have := h p0 n0 g2 (g8 M2 s2 (fun _ _ _ _ => Int.le_refl _))
                  rw [g5, Int.toNat_natCast] at this
                  exact g3 (dFN.mono (M1 := M2) s2 g1 g2 n0 g6 (by omega) this)
              · rcases g9 with g9 | g9
                · exact Or.inl (by omega)
                · exact Or.inr g9
        have look : (r : Int) < M c 6 → w_X2_fillColumn_108 175 c l (q : Int) (ac : Int) (n : Int) (ch : Int) (r : Int) 1 (fun x4 x5 M => P (x4, x5, M)) (fun x4 x7 M => P2 (x4, x7, M)) Q M3 := by
          intro hrr
          unfold w_X2_fillColumn_108
          rw [cr_2 hc, e10]
          have ho := ok.2.2.1 (r : Int)
          refine ⟨⟨by decide, by decide⟩, fun h => absurd h (by decide), fun _ => ⟨⟨by omega, by omega⟩, ⟨by omega, by omega⟩, fun h => stay (Or.inr (Or.inr h)) (Or.inl h) hrr, fun h => ?_⟩⟩
          obtain ⟨o, ho2⟩ : ∃ o : Nat, M (c + 10) (r : Int) = (o : Int) := ⟨_, (Int.toNat_of_nonneg ho.1).symm⟩
          obtain ⟨_, hsy⟩ := dr_alt lk h8 hrr (by omega)
          have vl3 : lvl M3 l := by
            refine ⟨?_, ?_⟩
            · rw [row M3 s3.1 l (by omega)]; exact vl.1
            · rw [row M3 s3.1 (l + 1) (by omega)]; exact vl.2
          have hLe : dL M3 c r = dL M c r := by unfold dL dsy; rw [row M3 s3.1 (c + 11) (by omega), row M3 s3.1 (c + 12) (by omega)]
          refine t_addCosts (o := o) (W := W) ok3 hl hl2 vl3 (fun m => by rw [hW, row M3 s3.1 (l + 1) (by omega)]) hq (by omega) (by rw [e10]; exact ho2) (by omega) (by rw [row M3 s3.1 (c + 11) (by omega), row M3 s3.1 (c + 12) (by omega)]; exact hsy) s3.2.1 (fun res M4 B hres e4 hB hcell hr0 => ?_)
          rw [hLe] at hB
          have hmin : ∀ x p : Nat, x < 6 → p ≤ q → dC M4 x p q ≤ dC M3 x p q := by
            intro x p hx hp
            rw [hcell x p q (by omega) hq]
            split
            · rename_i hh; omega
            · exact Int.le_refl _
          have s4 : dSt M G W q M4 := by
            refine ⟨s3.1.tr e4, fun x p q' hx hp hq' => ?_, fun x p q' hx hp hq' => ?_, fun x p hx hp hlt => ?_⟩
            · rw [hcell x p q' (by omega) (by omega)]
              split
              · exact (hB p (by omega)).1
              · exact s3.2.1 x p q' hx hp hq'
            · rw [hcell x p q' (by omega) (by omega), if_neg (by omega)]; exact s3.2.2.1 x p q' hx hp hq'
            · rw [hcell x p q (by omega) hq] at hlt ⊢
              by_cases hcond : x = o ∧ q = q ∧ p ≤ q ∧ B (p : Int) < dC M3 x p q
              · rw [if_pos hcond] at hlt ⊢
                have := sound M3 s3 r hrr (by omega) p _ hp ((hB p hp).2.1 hlt)
                rw [ho2, Int.toNat_natCast] at this
                rw [hcond.1]; exact this
              · rw [if_neg hcond] at hlt ⊢; exact s3.2.2.2 x p hx hp hlt
          have mn4 : dmn q M2 M4 := fun x p hx hp => Int.le_trans (hmin x p hx hp) (mn3 x p hx hp)
          have hoB : ∀ p : Nat, p ≤ q → dC M4 o p q ≤ B (p : Int) := by
            intro p hp
            rw [hcell o p q (by omega) hq]
            split
            · exact Int.le_refl _
            · rename_i hh
              apply Int.not_lt.mp
              intro hlt
              exact hh ⟨rfl, rfl, hp, hlt⟩
          -- costs of other capitals are as they were
          have same : ∀ x p q' : Nat, p < 15 → q' < 15 → x ≠ o → dC M4 x p q' = dC M3 x p q' := fun x p q' g1 g2 g3 => by rw [hcell x p q' g1 g2, if_neg (fun h => g3 h.1)]
          have hpos : ∀ r' : Nat, (r' : Int) < M c 6 → ¬ tbit (M (c + 13) (r' : Int)) o → ∀ s ∈ dL M c r', 8 ≤ s → M (c + 10) (r' : Int) < 6 → s - 8 ≠ o := by
            intro r' hr' hno s hs h8' ho' e
            obtain ⟨_, hsy'⟩ := dr_alt lk h8 hr' ho'
            obtain ⟨i, i1, i2, i3⟩ := (sg_mem (w := dsy M c r')).mp hs
            have hz := hsy' i i1 i2
            have hz15 := ok.2.2.2.2.1 ((r' : Int) * 4 + i)
            unfold dsy at i3
            by_cases h10 : M (c + 12) ((r' : Int) * 4 + i) < 10
            · rw [if_pos h10] at i3; omega
            · rw [if_neg h10] at i3
              have hu := ok.2.2.2.2.2.2 (r' : Int) i (by omega) hr' i1 i2 (by omega)
              rw [show (M (c + 12) ((r' : Int) * 4 + i) - 10).toNat = o by omega] at hu
              exact hno hu
          have back : ∀ r' : Nat, (r' : Int) < M c 6 → ¬ tbit (M (c + 13) (r' : Int)) o → M (c + 10) (r' : Int) < 6 → ∀ p a : Nat, p ≤ q → kq W (dP M4) (dL M c r') p q a → kq W (dP M3) (dL M c r') p q a := by
            intro r' hr' hno ho' p a hp hk
            refine kq_mnd (fun s p' q' a' hs h8' g1 g2 g3 hPP => ?_) hk
            have := same (s - 8) p' q' (by omega) (by omega) (hpos r' hr' hno s hs h8' ho')
            exact ⟨by rw [← this]; exact hPP.1, hPP.2⟩
          have kept : ∀ r' : Nat, (r' : Int) < M c 6 → M (c + 10) (r' : Int) < 6 → dcl M c W q M3 r' → dcl M c W q M4 r' ∨ tbit (M (c + 13) (r' : Int)) o := by
            intro r' hr' ho' hcl'
            by_cases hu : tbit (M (c + 13) (r' : Int)) o
            · exact Or.inr hu
            · refine Or.inl (fun p a hp hk => ?_)
              have h1 := hcl' p a hp (back r' hr' hu ho' p a hp hk)
              have ho0 := ok.2.2.1 (r' : Int)
              have h2 := hmin (M (c + 10) (r' : Int)).toNat p (by omega) hp
              omega
          have self : dcl M c W q M4 r ∨ tbit (M (c + 13) (r : Int)) o := by
            by_cases hu : tbit (M (c + 13) (r : Int)) o
            · exact Or.inr hu
            · refine Or.inl (fun p a hp hk => ?_)
              have h1 := (hB p hp).2.2 a (back r hrr hu (by omega) p a hp hk)
              have h2 := hoB p hp
              rw [ho2, Int.toNat_natCast]
              omega
          have nxt : ∀ ac' : Nat, ac' < 64 → (∀ x, ac.testBit x = true → ac'.testBit x = true) → (∀ r' : Nat, (r' : Int) < M c 6 → M (c + 10) (r' : Int) < 6 → r' ≠ r → dcl M c W q M3 r' → dcl M c W q M4 r' ∨ ∃ x, tbit (M (c + 13) (r' : Int)) x ∧ ac'.testBit x = true) → (dcl M c W q M4 r ∨ ∃ x, tbit (M (c + 13) (r : Int)) x ∧ ac'.testBit x = true) → P2 ((ac' : Int), (r : Int) + 1, M4) := by
            intro ac' a1 a2 a3 a4
            refine hP2 ((ac' : Int), (r : Int) + 1, M4) ⟨ac', r + 1, rfl, by show (r : Int) + 1 = _; omega, by omega, a1, s4, mn4, fun r' r1 r2 hor => ?_, ?_⟩ (by show (M c 6 - ((r : Int) + 1)).toNat < (M c 6 - (r : Int)).toNat; omega)
            · by_cases e : r' = r
              · subst e
                rcases a4 with h | ⟨x, b1, b2⟩
                · exact Or.inl h
                · exact Or.inr ⟨x, b1, Or.inl b2⟩
              · rcases d4 r' r1 r2 (by omega) with h | ⟨x, b1, b2 | b2⟩
                · rcases a3 r' r1 r2 e h with h | ⟨x, b1, b2⟩
                  · exact Or.inl h
                  · exact Or.inr ⟨x, b1, Or.inl b2⟩
                · exact Or.inr ⟨x, b1, Or.inl (a2 x b2)⟩
                · exact Or.inr ⟨x, b1, Or.inr ⟨by omega, b2.2⟩⟩
            · rcases tg with h | ⟨x0, p0, n0, r0, g1, g2, g3, g4, g5, g6, g7, g8, g9⟩
              · exact Or.inl h
              · refine Or.inr ⟨x0, p0, n0, r0, g1, g2, g3, g4, g5, g6, g7, g8, ?_⟩
                by_cases e : r0 = r
                · subst e
                  right
                  have h1 := (hB p0 g2).2.2 n0 (g8 M3 s3 mn3)
                  have h2 := hoB p0 g2
                  have : o = x0 := by omega
                  subst this
                  exact dFN.mono (M1 := M3) (M2 := M4) s4 g1 g2 n0 g6 (by omega) (by omega)
                · rcases g9 with g9 | ⟨v, v1, v2⟩
                  · exact Or.inl (by omega)
                  · right
                    exact dFN.mono (M1 := M3) (M2 := M4) s4 g1 g2 v v2 (by have := kl_b hGo hG4 hq v2; omega) (by have := hmin x0 p0 g1 g2; have v1' : dC M3 x0 p0 q = (v : Int) := v1; omega)
          refine ⟨by rcases hres with g | g <;> rw [g] <;> exact ⟨by decide, by decide⟩, fun h0' => ?_, fun h0' => ⟨⟨by omega, by omega⟩, ?_⟩⟩
          · have hz := hr0 h0'
            have hsame : ∀ x p q' : Nat, p < 15 → q' < 15 → dC M4 x p q' = dC M3 x p q' := by
              intro x p q' g1 g2
              rw [hcell x p q' g1 g2, if_neg]
              rintro ⟨rfl, rfl, g3, g4⟩
              have := hz p g3
              omega
            have hdp : ∀ r' p a : Nat, p ≤ q → kq W (dP M4) (dL M c r') p q a → kq W (dP M3) (dL M c r') p q a := by
              intro r' p a hp hk
              refine kq_mnd (fun s p' q' a' hs h8' g1 g2 g3 hPP => ?_) hk
              exact ⟨by rw [← hsame (s - 8) p' q' (by omega) (by omega)]; exact hPP.1, hPP.2⟩
            refine nxt ac hac (fun _ h => h) (fun r' r1 r2 hne hcl' => Or.inl (fun p a hp hk => ?_)) (Or.inl (fun p a hp hk => ?_))
            · rw [hsame _ p q (by omega) hq]; exact hcl' p a hp (hdp r' p a hp hk)
            · have h1 := (hB p hp).2.2 a (hdp r p a hp hk)
              have h2 := hoB p hp
              rw [ho2, Int.toNat_natCast]
              omega
          · rw [row M4 s4.1 (c + 10) (by omega), ho2]
            have hpow : 2 ^ o < 2 ^ 6 := Nat.pow_lt_pow_right (by decide) (by omega)
            rw [pb_one (by omega), pb_or (by omega) (by omega)]
            rintro z rfl
            have hset : ∀ x, (ac ||| 2 ^ o).testBit x = true ↔ ac.testBit x = true ∨ o = x := fun x => by rw [pb_set, Bool.or_eq_true, decide_eq_true_iff]
            refine nxt (ac ||| 2 ^ o) (Nat.or_lt_two_pow (n := 6) hac hpow) (fun x h => (hset x).mpr (Or.inl h)) (fun r' r1 r2 hne hcl' => ?_) ?_
            · rcases kept r' r1 r2 hcl' with h | h
              · exact Or.inl h
              · exact Or.inr ⟨o, h, (hset o).mpr (Or.inr rfl)⟩
            · rcases self with h | h
              · exact Or.inl h
              · exact Or.inr ⟨o, h, (hset o).mpr (Or.inr rfl)⟩
        unfold w_X2_fillColumn_76b
        rw [e6, cr_5 hc, e13]
        refine ⟨⟨by omega, by omega⟩, ⟨by omega, by omega⟩, fun hend => ?_, fun hend => ⟨⟨by omega, by omega⟩, fun _ => look (by omega), fun hn0 => ⟨⟨by omega, by omega⟩, ?_⟩⟩⟩
        · refine hP ((ac : Int), (n : Int) + 1, M3) ⟨ac, n + 1, rfl, by show (n : Int) + 1 = _; omega, by omega, hac, s3, Or.inr ⟨by omega, fun r' r1 r2 => ?_⟩, ?_⟩ (by show (1000 - ((n : Int) + 1)).toNat < (1000 - (n : Int)).toNat; omega)
          · rcases d4 r' r1 r2 (Or.inl (by omega)) with h | ⟨x, b1, b2 | b2⟩
            · exact Or.inl h
            · exact Or.inr ⟨x, b1, b2⟩
            · omega
          · have keepF : ∀ x p, x < 6 → p ≤ q → dFN G W q M2 x p → dFN G W q M3 x p := by
              rintro x p hx hp ⟨v, v1, v2⟩
              exact dFN.mono (M1 := M3) s3 hx hp v v2 (by have := kl_b hGo hG4 hq v2; omega) (by have := mn3 x p hx hp; omega)
            rcases hgr with hA | ⟨g, g1, g2⟩
            · exact Or.inl (fun x p hx hp hg => keepF x p hx hp (hA x p hx hp hg))
            · rcases tg with hA | ⟨x0, p0, n0, r0, t1, t2, t3, t4, t5, t6, t7, t8, t9⟩
              · exact Or.inl (fun x p hx hp hg => keepF x p hx hp (hA x p hx hp hg))
              · right
                have t10 : dFN G W q M3 x0 p0 := by
                  rcases t9 with t9 | t9
                  · omega
                  · exact t9
                have hset : ∀ x, (g ||| 2 ^ (x0 * 15 + p0)).testBit x = true ↔ g.testBit x = true ∨ x0 * 15 + p0 = x := fun x => by rw [pb_set, Bool.or_eq_true, decide_eq_true_iff]
                refine ⟨g ||| 2 ^ (x0 * 15 + p0), fun x p hx hp hb => ?_, ?_⟩
                · rcases (hset _).mp hb with hb | hb
                  · exact keepF x p hx hp (g1 x p hx hp hb)
                  · have e1 : x = x0 := by omega
                    have e2 : p = p0 := by omega
                    rw [e1, e2]; exact t10
                · have h0 : g.testBit (x0 * 15 + p0) = false := by
                    cases hh : g.testBit (x0 * 15 + p0)
                    · rfl
                    · exact absurd (g1 x0 p0 t1 t2 hh) t3
                  have := bcn_lt (v := g) (w := g ||| 2 ^ (x0 * 15 + p0)) (p := x0 * 15 + p0) (fun i h => (hset i).mpr (Or.inl h)) h0 ((hset _).mpr (Or.inr rfl)) 90 (by omega)
                  omega
        · have hu := ok.2.2.2.2.2.1 (r : Int)
          obtain ⟨u, hu2⟩ : ∃ u : Nat, M (c + 13) (r : Int) = (u : Int) := ⟨_, (Int.toNat_of_nonneg hu.1).symm⟩
          rw [hu2, pb_and (by omega) (by omega)]
          have hal : u &&& ch ≤ u := Nat.and_le_left
          refine ⟨⟨by omega, by omega⟩, fun hz => ?_, fun _ => look (by omega)⟩
          unfold w_X2_fillColumn_108
          have hnone : ∀ x, tbit (M (c + 13) (r : Int)) x → ch.testBit x = true → False := by
            intro x b1 b2
            have h8' : (u &&& ch).testBit x = true := by
              rw [Nat.testBit_and, b2]
              unfold tbit at b1
              rw [hu2, Int.toNat_natCast] at b1
              rw [b1]; rfl
            rw [show u &&& ch = 0 by omega] at h8'
            simp at h8'
          have ho := ok.2.2.1 (r : Int)
          refine ⟨⟨by decide, by decide⟩, fun _ => stay ?_ ?_ (by omega), fun h => absurd rfl h⟩
          · by_cases ho6 : 6 ≤ M (c + 10) (r : Int)
            · exact Or.inr (Or.inr ho6)
            · rcases d4 r (by omega) (by omega) (Or.inr (by omega)) with h | ⟨x, b1, b2 | b2⟩
              · exact Or.inl h
              · exact Or.inr (Or.inl ⟨x, b1, b2⟩)
              · exact (hnone x b1 b2.2).elim
          · by_cases ho6 : 6 ≤ M (c + 10) (r : Int)
            · exact Or.inl ho6
            · right
              rcases hcl with ⟨h, _⟩ | ⟨_, h⟩
              · omega
              · rcases h r (by omega) (by omega) with h | ⟨x, b1, b2⟩
                · exact h
                · exact (hnone x b1 b2).elim
      · have h0' : n ≠ 0 := by omega
        rcases hcl with ⟨h, _⟩ | ⟨_, h⟩
        · omega
        · rcases h r' r1 r2 with h | ⟨x, b1, b2⟩
          · exact Or.inl h
          · exact Or.inr ⟨x, b1, Or.inr ⟨Nat.zero_le _, b2⟩⟩
      · rcases htg with h | ⟨x0, p0, n0, r0, g1, g2, g3, g4, g5, g6, g7, g8⟩
        · exact Or.inl h
        · exact Or.inr ⟨x0, p0, n0, r0, g1, g2, g3, g4, g5, g6, g7, g8, Or.inl (Nat.zero_le _)⟩
  -- nothing is known
  have bnd : ∀ M1, eqn M M1 → (∀ x p q' : Nat, x < 6 → p ≤ q' → q' < q → dC M1 x p q' = dC M x p q') → (∀ x p : Nat, x < 6 → p ≤ q → dC M1 x p q = 1048576) → dSt M G W q M1 := by
    intro M1 e1 o1 f1
    refine ⟨e1, fun x p q' hx hp hq' => ?_, o1, fun x p hx hp hlt => ?_⟩
    · by_cases e : q' = q
      · subst e; rw [f1 x p hx hp]; exact ⟨by decide, by decide⟩
      · rw [o1 x p q' hx hp (by omega)]
        rcases hcb0 q' (by omega) x p hx hp with ⟨n, h1, h2, _⟩ | ⟨h1, _⟩ <;> omega
    · rw [f1 x p hx hp] at hlt; exact absurd hlt (Int.lt_irrefl _)
  unfold w_X2_fillColumn w_X2_fillColumn_3
  refine pj_lp_inv (fun y : Int × pj_M => ∃ x : Nat, y.1 = (x : Int) ∧ x ≤ 6 ∧ eqn M y.2 ∧ (∀ x' p q' : Nat, x' < 6 → p ≤ q' → q' < q → dC y.2 x' p q' = dC M x' p q') ∧ ∀ x' p : Nat, x' < x → p ≤ q → dC y.2 x' p q = 1048576) (fun y => (6 - y.1).toNat) ?_ (0, M) ⟨0, rfl, by decide, eqn.rf, fun _ _ _ _ _ _ => rfl, fun x' p h => absurd h (Nat.not_lt_zero _)⟩
  rintro ⟨_, M1⟩ ⟨x, h1, hx, e1, o1, f1⟩ P hP
  dsimp only at h1 e1 o1 f1 hP ⊢
  subst h1
  unfold w_X2_fillColumn_3b
  refine ⟨⟨by omega, by omega⟩, fun h => rounds M1 (bnd M1 e1 o1 (fun x' p hx' hp => f1 x' p (by omega) hp)), fun h => ?_⟩
  unfold w_X2_fillColumn_13
  refine pj_lp_inv (fun y : Int × pj_M => ∃ p : Nat, y.1 = (p : Int) ∧ p ≤ q + 1 ∧ eqn M y.2 ∧ (∀ x' p' q' : Nat, x' < 6 → p' ≤ q' → q' < q → dC y.2 x' p' q' = dC M x' p' q') ∧ (∀ x' p' : Nat, x' < x → p' ≤ q → dC y.2 x' p' q = 1048576) ∧ ∀ p' : Nat, p' < p → dC y.2 x p' q = 1048576) (fun y => ((q : Int) + 1 - y.1).toNat) ?_ (0, M1) ⟨0, rfl, by omega, e1, o1, f1, fun p' h => absurd h (Nat.not_lt_zero _)⟩
  rintro ⟨_, M2⟩ ⟨p, h1, hp, e2, o2, f2, g2⟩ P2 hP2
  dsimp only at h1 e2 o2 f2 g2 hP2 ⊢
  subst h1
  unfold w_X2_fillColumn_13b w_X2_cell
  rw [rd_0]
  refine ⟨⟨by omega, by omega⟩, ⟨by omega, by omega⟩, fun hend => ?_, fun hend => ⟨⟨by omega, by omega⟩, ?_⟩⟩
  · refine hP ((x : Int) + 1, M2) ⟨x + 1, by show (x : Int) + 1 = _; omega, by omega, e2, o2, fun x' p' hx' hp' => ?_⟩ (by show (6 - ((x : Int) + 1)).toNat < (6 - (x : Int)).toNat; omega)
    by_cases e : x' = x
    · subst e; exact g2 p' (by omega)
    · exact f2 x' p' (by omega) hp'
  · rintro M3 rfl
    have cell : ∀ x' p' q' : Nat, p' < 15 → q' < 15 → ¬ (x' = x ∧ p' = p ∧ q' = q) → dC (pj_up M2 176 ((((x : Int) * 15) + (q : Int)) * 15 + (p : Int)) 1048576) x' p' q' = dC M2 x' p' q' := by
      intro x' p' q' a1 a2 a3
      unfold dC
      exact pu_nk (fun h' => a3 (dix (by omega) (by omega) (by omega) (by omega) h'))
    refine hP2 ((p : Int) + 1, _) ⟨p + 1, by show (p : Int) + 1 = _; omega, by omega, e2.tr eqn.up, fun x' p' q' a1 a2 a3 => ?_, fun x' p' a1 a2 => ?_, fun p' a1 => ?_⟩ (by show ((q : Int) + 1 - ((p : Int) + 1)).toNat < ((q : Int) + 1 - (p : Int)).toNat; omega)
    · show dC (pj_up M2 176 _ _) x' p' q' = _
      rw [cell x' p' q' (by omega) (by omega) (by omega)]; exact o2 x' p' q' a1 a2 a3
    · show dC (pj_up M2 176 _ _) x' p' q = _
      rw [cell x' p' q (by omega) (by omega) (by omega)]; exact f2 x' p' a1 a2
    · show dC (pj_up M2 176 _ _) x p' q = _
      by_cases e : p' = p
      · subst e; unfold dC; exact pu_eq
      · rw [cell x p' q (by omega) (by omega) (by omega)]; exact g2 p' (by omega)
/-- how many changes are needed at least -/
theorem t_measure {M : pj_M} {c l : Nat} {Q : Int → pj_M → Prop} (lk : clk M c) (h8 : M c 8 = 0) (hl : lcell l) (hl2 : l + 1 < 115) (vl : lvl M l)
    (k : ∀ (n : Nat) M', eqn M M' → kl (gof M (c + 1)) (fun m => (M (l + 1) (m : Int)).toNat) (M (c + 1) 4).toNat 0 (M l 1).toNat n → Q (n : Int) M') : w_X2_measure 175 c l M Q := by
  have hc := lk.2.1.1.1
  have hc2 : c = 115 ∨ c = 135 ∨ c = 155 := hc
  have hst := lk.2.2.1.st
  have hn := vl.1
  generalize hW : (fun m : Nat => (M (l + 1) (m : Int)).toNat) = W at k
  have hW' : ∀ m : Nat, W m = (M (l + 1) (m : Int)).toNat := fun m => by rw [← hW]
  unfold w_X2_measure w_X2_measure_2
  refine pj_lp_inv (fun y : Int × pj_M => ∃ q : Nat, y.1 = (q : Int) ∧ (q : Int) ≤ M l 1 + 1 ∧ eqn M y.2 ∧ ∀ q', q' < q → dex y.2 (gof M (c + 1)) W q') (fun y => (M l 1 + 1 - y.1).toNat) ?_ (0, M) ⟨0, rfl, by show (0 : Int) ≤ _; omega, eqn.rf, fun q' h => absurd h (Nat.not_lt_zero _)⟩
  rintro ⟨_, M1⟩ ⟨q, h1, hq, e1, x1⟩ P hP
  dsimp only at h1 e1 x1 hP ⊢
  subst h1
  have row : ∀ a, a < 176 → M1 a = M a := fun a ha => e1.row (Or.inl ha)
  have g1 : gof M1 (c + 1) = gof M (c + 1) := gof.eq (fun a a1 a2 => row a (by omega))
  unfold w_X2_measure_2b w_X2_cell
  rw [row l (by omega), cr_0 hc, row (c + 1) (by omega), rd_0]
  refine ⟨⟨by omega, by omega⟩, ⟨by omega, by omega⟩, fun h => ⟨⟨by omega, by omega⟩, ?_⟩, fun h => ?_⟩
  · have hx := x1 (M l 1).toNat (by omega) (M (c + 1) 4).toNat 0 (by omega) (Nat.zero_le _)
    rcases hx with ⟨n, n1, _, n2⟩ | ⟨_, n2⟩
    · unfold dC at n1
      rw [show ((((((M (c + 1) 4).toNat : Nat) : Int) * 15) + (((M l 1).toNat : Nat) : Int)) * 15 + ((0 : Nat) : Int)) = (M (c + 1) 4 * 15 + M l 1) * 15 by omega] at n1
      rw [n1]
      exact k n M1 e1 n2
    · exact absurd lk.2.2.2.2.1 n2
  · have lk1 : clk M1 c := lk.eqr (fun a a1 a2 => row a (by omega))
    refine t_fillColumn (W := W) lk1 (by rw [row c (by omega)]; exact h8) hl (by omega) ⟨by rw [row l (by omega)]; exact vl.1, by rw [row (l + 1) (by omega)]; exact vl.2⟩ (fun m => by rw [hW', row (l + 1) (by omega)]) (by omega) (by rw [g1]; exact x1) (fun M2 e2 x2 => ?_)
    refine hP ((q : Int) + 1, M2) ⟨q + 1, by show (q : Int) + 1 = _; omega, by omega, e1.tr e2, fun q' hq' => ?_⟩ (by show (M l 1 + 1 - ((q : Int) + 1)).toNat < (M l 1 + 1 - (q : Int)).toNat; omega)
    rw [← g1]; exact x2 q' (by omega)
