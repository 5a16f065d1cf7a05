section
variable {M : pj_M}
theorem INV.build {M1 M2 : pj_M} (ci : CI M1 (M2 204) (fun i x => M2 225 (95 * i + x)) (fun i x => M2 222 (95 * i + x))) (lo : ∀ a, a < 203 → M2 a = M1 a) (s : msc M2) (tx : M2 203 2 = M1 1 1 ∧ (∀ x, -128 ≤ M2 205 x ∧ M2 205 x ≤ 127) ∧ ∀ k, 0 ≤ k → k < M1 1 1 → M1 2 k = pj_and (M2 205 k) 255) (h34 : M2 203 34 = M1 31 2) (hk : ∀ x, M2 223 x = M1 114 x) (hr : ∃ l, rws M1 l ∧ rwsm M2 l) : INV M2 := by
  obtain ⟨l, r1, r2⟩ := hr
  refine ⟨ci.lo lo, s, by rw [lo 1 (by decide), lo 2 (by decide)]; exact tx, by rw [lo 31 (by decide)]; exact h34, by rw [lo 114 (by decide)]; exact hk, l, r1.eq (lo 186 (by decide)) (by rw [lo 0 (by decide)]), r2⟩
theorem INV.rows (inv : INV M) {M1 M2 : pj_M} (e186 : M1 186 = M 186) (e0 : M1 0 15 = M 0 15) (e206 : M2 206 = M 206) (e4 : M2 203 4 = M 203 4) : ∃ l, rws M1 l ∧ rwsm M2 l := by
  obtain ⟨l, r1, r2⟩ := inv.2.2.2.2.2
  refine ⟨l, r1.eq e186 e0, ?_⟩
  unfold rwsm at *
  rw [e206, e4]; exact r2
theorem INV.tx0 (inv : INV M) {M1 M2 : pj_M} (h1 : M1 1 1 = 0) (h2 : M2 203 2 = 0) (e5 : M2 205 = M 205) : M2 203 2 = M1 1 1 ∧ (∀ x, -128 ≤ M2 205 x ∧ M2 205 x ≤ 127) ∧ ∀ k, 0 ≤ k → k < M1 1 1 → M1 2 k = pj_and (M2 205 k) 255 :=
  ⟨h2.trans h1.symm, by rw [e5]; exact inv.2.2.1.2.1, fun k k1 k2 => by rw [h1] at k2; omega⟩
theorem INV.b34 (inv : INV M) : 0 ≤ M 203 34 ∧ M 203 34 ≤ 10 := by rw [inv.2.2.2.1]; exact inv.1.2.2.2.1.2.1
theorem INV.b2 (inv : INV M) : 0 ≤ M 203 2 ∧ M 203 2 ≤ 80 := by rw [inv.2.2.1.1]; exact inv.1.2.2.2.2.2.1.1
theorem CI.pm {M1 M2 : pj_M} {D' : Int → Int} {K : Int → Int → Int} (h : CI M1 D' (fun i => if i = min (M 31 2 + 1) 10 - 1 then M 204 else if M 31 2 < 10 then (fun x => M 225 (95 * i + x)) else (fun x => M 225 (95 * (i + 1) + x))) K) (h31 : M1 31 2 = min (M 31 2 + 1) 10) (e34 : M 203 34 = M 31 2) (p : pshm M (M 204) M2) : CI M1 D' (fun i x => M2 225 (95 * i + x)) K :=
  h.cg (fun _ _ _ => rfl) (fun i i1 i2 x x1 x2 => by
    rw [h31] at i2
    show M2 225 (95 * i + x) = _
    rw [p.2 i x i1 (by rw [e34]; exact i2) x1 x2, e34]
    split
    · rfl
    · split
      · rfl
      · rfl) (fun _ _ _ _ _ _ => rfl)
theorem psh_of {sz : Int} {D : Int → Int} : psh sz (fun i x => M 225 (95 * i + x)) (fun i => if i = min (sz + 1) 10 - 1 then D else if sz < 10 then (fun x => M 225 (95 * i + x)) else (fun x => M 225 (95 * (i + 1) + x))) D := fun i _ _ => rfl
theorem pshm.eq {M1 M2 : pj_M} (p : pshm M1 (M1 204) M2) (e34 : M1 203 34 = M 203 34) (e4 : M1 204 = M 204) (e25 : M1 225 = M 225) : pshm M (M 204) M2 := by
  unfold pshm at *
  rw [e34, e4, e25] at p
  exact p
theorem INV.nochange (inv : INV M) {M2 : pj_M} (e2 : eqm M M2) (s2 : msc M2) (w2 : rwm M M2 none) : INV M2 := inv.q (o := none) eqq.rf inv.cs ⟨rfl, rfl⟩ e2 s2 w2
theorem p_sign {v : Int} (inv : INV M) : w_X11_sign 0 v M (fun r M1 => w_X12_sign 203 v M1 (fun r2 M2 => r2 = r ∧ INV M2)) := by
  have tx := inv.2.2.1
  refine o_sign inv.1 (fun hgt => m_sign inv.m inv.b2 tx.2.1 (fun _ M2 e2 s2 w2 => ⟨rfl, inv.nochange e2 s2 w2⟩) (fun h => by omega)) (fun hle M1 f1 n1 w1 c1 => ?_)
  have m3 : M1 203 = M 203 := f1 203 (by decide) (by decide)
  have m5 : M1 205 = M 205 := f1 205 (by decide) (by decide)
  refine m_sign (inv.m.eq (fun a a1 a2 => f1 a (by omega) (by omega))) (by rw [m3]; exact inv.b2) (by rw [m5]; exact tx.2.1) (fun h => by rw [m3] at h; omega) (fun _ M2 f2 s2 n2 b2 w2 => ⟨by rw [m3, tx.1], ?_⟩)
  have row : ∀ a, a ≠ 205 → a ≠ 203 → M2 a = M1 a := fun a a1 a2 => funext fun x => f2 a x a1 (fun e => a2 e.1)
  have r3 : ∀ x, x ≠ 2 → x ≠ 5 → M2 203 x = M 203 x := fun x x1 x2 => by rw [f2 203 x (by decide) (by omega), m3]
  refine INV.build (M1 := M1) ?_ (fun a ha => row a (by omega) (by omega)) s2 ⟨by rw [n2, n1, m3, tx.1], b2, fun k k1 k2 => ?_⟩ ?_ ?_ (inv.rows (f1 186 (by decide) (by decide)) (by rw [f1 0 (by decide) (by decide)]) ((row 206 (by decide) (by decide)).trans (f1 206 (by decide) (by decide))) (r3 4 (by decide) (by decide)))
  · rw [row 204 (by decide) (by decide), row 225 (by decide) (by decide), row 222 (by decide) (by decide), f1 204 (by decide) (by decide), f1 225 (by decide) (by decide), f1 222 (by decide) (by decide)]
    exact c1
  · rw [w1 k, w2 k, m3, tx.1, m5]
    by_cases h : M 1 1 ≤ k ∧ k < M 1 1 + 4
    · rw [if_pos h, if_pos h]
    · rw [if_neg h, if_neg h]; exact tx.2.2 k k1 (by omega)
  · rw [r3 34 (by decide) (by decide), f1 31 (by decide) (by decide)]; exact inv.2.2.2.1
  · intro x
    rw [row 223 (by decide) (by decide), f1 223 (by decide) (by decide), f1 114 (by decide) (by decide)]
    exact inv.2.2.2.2.1 x
theorem p_end {n : Int} (inv : INV M) (hn : pj_in n) : w_X11_end 0 n M (fun r M1 => w_X12_end 203 n M1 (fun r2 M2 => r2 = r ∧ INV M2)) := by
  have tx := inv.2.2.1
  refine o_end inv.1 hn (fun hno => m_end inv.m inv.b2 hn (fun _ M2 e2 s2 w2 => ⟨rfl, inv.nochange e2 s2 w2⟩) (fun h => absurd (by rw [← tx.1]; exact h) hno)) (fun hyes M1 f1 n1 c1 => ?_)
  have m3 : M1 203 = M 203 := f1 203 (by decide)
  refine m_end (inv.m.eq (fun a a1 a2 => f1 a (by omega))) (by rw [m3]; exact inv.b2) hn (fun h => absurd (by rw [m3, tx.1]; exact hyes) h) (fun _ M2 f2 s2 n2 => ⟨rfl, ?_⟩)
  have row : ∀ a, a ≠ 203 → M2 a = M1 a := fun a a2 => funext fun x => f2 a x (fun e => a2 e.1)
  have r3 : ∀ x, x ≠ 2 → x ≠ 5 → M2 203 x = M 203 x := fun x x1 x2 => by rw [f2 203 x (by omega), m3]
  refine INV.build (M1 := M1) ?_ (fun a ha => row a (by omega)) s2 ⟨by rw [n2, n1], by rw [row 205 (by decide), f1 205 (by decide)]; exact tx.2.1, fun k k1 k2 => ?_⟩ ?_ ?_ (inv.rows (f1 186 (by decide)) (by rw [f1 0 (by decide)]) ((row 206 (by decide)).trans (f1 206 (by decide))) (r3 4 (by decide) (by decide)))
  · rw [row 204 (by decide), row 225 (by decide), row 222 (by decide), f1 204 (by decide), f1 225 (by decide), f1 222 (by decide)]
    exact c1
  · rw [n1] at k2
    rw [f1 2 (by decide), row 205 (by decide), f1 205 (by decide)]
    exact tx.2.2 k k1 (by omega)
  · rw [r3 34 (by decide) (by decide), f1 31 (by decide)]; exact inv.2.2.2.1
  · intro x
    rw [row 223 (by decide), f1 223 (by decide), f1 114 (by decide)]
    exact inv.2.2.2.2.1 x
/-- a refused text -/
theorem INV.refused (inv : INV M) {M1 M2 : pj_M} (f1 : ∀ a, a ≠ 1 → M1 a = M a) (n1 : M1 1 1 = 0) (c1 : CI M1 (M 204) (fun i x => M 225 (95 * i + x)) (fun i x => M 222 (95 * i + x))) (e2 : eqT M1 M2) (s2 : msc M2) (n2 : M2 203 2 = 0) : INV M2 := by
  have row : ∀ a, a < 203 ∨ a = 204 ∨ a = 205 ∨ a = 206 ∨ a = 222 ∨ a = 223 ∨ a = 225 → M2 a = M1 a := fun a ha => funext fun x => e2 a x (by unfold mpk; omega) (by omega)
  have r3 : ∀ x, x = 4 ∨ x = 34 → M2 203 x = M 203 x := fun x hx => by rw [e2 203 x (by unfold mpk; omega) (by omega), f1 203 (by decide)]
  refine INV.build (M1 := M1) ?_ (fun a ha => row a (by omega)) s2 (inv.tx0 n1 n2 (by rw [row 205 (by omega), f1 205 (by decide)])) ?_ ?_ (inv.rows (f1 186 (by decide)) (by rw [f1 0 (by decide)]) (by rw [row 206 (by omega), f1 206 (by decide)]) (r3 4 (by omega)))
  · rw [row 204 (by omega), row 225 (by omega), row 222 (by omega), f1 204 (by decide), f1 225 (by decide), f1 222 (by decide)]
    exact c1
  · rw [r3 34 (by omega), f1 31 (by decide)]; exact inv.2.2.2.1
  · intro x
    rw [row 223 (by omega), f1 223 (by decide), f1 114 (by decide)]
    exact inv.2.2.2.2.1 x
/-- a text that is taken -/
theorem INV.taken (inv : INV M) {M1 M2 : pj_M} (f1 : ∀ a, a = 0 ∨ a = 2 ∨ a = 114 ∨ 186 ≤ a → M1 a = M a) (n1 : M1 1 1 = 0) (u1 : M1 31 2 = min (M 31 2 + 1) 10) (c1 : CI M1 (M2 204) (fun i => if i = min (M 31 2 + 1) 10 - 1 then M 204 else if M 31 2 < 10 then (fun x => M 225 (95 * i + x)) else (fun x => M 225 (95 * (i + 1) + x))) (fun i x => M 222 (95 * i + x))) (e2 : eqU M1 M2) (s2 : msc M2) (n2 : M2 203 2 = 0) (p2 : pshm M1 (M1 204) M2) : INV M2 := by
  have row : ∀ a, a < 203 ∨ a = 205 ∨ a = 206 ∨ a = 222 ∨ a = 223 → M2 a = M1 a := fun a ha => funext fun x => e2 a x (by unfold mph; omega) (by omega)
  have r34 : M1 203 34 = M 203 34 := by rw [f1 203 (by omega)]
  have r4 : M2 203 4 = M 203 4 := by rw [e2 203 4 (by unfold mph; omega) (by decide), f1 203 (by omega)]
  have pp := p2.eq (M := M) r34 (f1 204 (by omega)) (f1 225 (by omega))
  refine INV.build (M1 := M1) ?_ (fun a ha => row a (by omega)) s2 (inv.tx0 n1 n2 (by rw [row 205 (by omega), f1 205 (by omega)])) ?_ ?_ (inv.rows (f1 186 (by omega)) (by rw [f1 0 (by omega)]) (by rw [row 206 (by omega), f1 206 (by omega)]) r4)
  · rw [row 222 (by omega), f1 222 (by omega)]
    exact c1.pm u1 inv.2.2.2.1 pp
  · rw [u1, pp.1, inv.2.2.2.1]
  · intro x
    rw [row 223 (by omega), f1 223 (by omega), f1 114 (by omega)]
    exact inv.2.2.2.2.1 x
theorem INV.ht (inv : INV M) {M1 : pj_M} (e : M1 205 = M 205) : ∀ k, 0 ≤ k → k < M 1 1 → M 2 k = pj_and (M1 205 k) 255 ∧ -128 ≤ M1 205 k ∧ M1 205 k ≤ 127 := fun k k1 k2 => by rw [e]; exact ⟨inv.2.2.1.2.2 k k1 k2, inv.2.2.1.2.1 k⟩
theorem p_line (inv : INV M) : w_X11_line 0 M (fun r M1 => w_X12_line 203 M1 (fun r2 M2 => r2 = r ∧ INV M2)) := by
  have tx := inv.2.2.1
  have hb := inv.1.2.2.2.2.2.1.1
  refine o_line inv.1 (fun r hm hr M1 f1 n1 c1 => ?_) (fun hm M1 f1 n1 u1 c1 => ?_)
  · have m3 : M1 203 = M 203 := f1 203 (by decide)
    refine m_line (T := M 2) (n := M 1 1) (inv.m.eq (fun a a1 a2 => f1 a (by omega))) (by rw [f1 204 (by decide)]; exact inv.v) (by rw [m3]; exact inv.b34) (by rw [m3]; exact tx.1) hb (inv.ht (f1 205 (by decide))) (fun r2 hm2 _ M2 e2 s2 n2 => ?_) (fun hm2 => absurd (hm.uniq hm2) hr)
    rw [hm2.uniq hm]
    exact ⟨rfl, inv.refused f1 n1 c1 e2 s2 n2⟩
  · have m3 : M1 203 = M 203 := f1 203 (by omega)
    have m4 : M1 204 = M 204 := f1 204 (by omega)
    refine m_line (T := M 2) (n := M 1 1) (inv.m.eq (fun a a1 a2 => f1 a (by omega))) (by rw [m4]; exact inv.v) (by rw [m3]; exact inv.b34) (by rw [m3]; exact tx.1) hb (inv.ht (f1 205 (by omega))) (fun r2 hm2 h2 => absurd (hm2.uniq hm) h2) (fun _ M2 e2 s2 n2 c2 v2 p2 => ⟨rfl, ?_⟩)
    rw [m4] at c2
    exact inv.taken f1 n1 u1 (c1 _ _ c2 v2 psh_of) e2 s2 n2 p2
theorem p_brackets (inv : INV M) : w_X11_brackets 0 M (fun r M1 => w_X12_brackets 203 M1 (fun r2 M2 => r2 = r ∧ INV M2)) := by
  have tx := inv.2.2.1
  have hb := inv.1.2.2.2.2.2.1.1
  refine o_brackets inv.1 (fun r hm hr M1 f1 n1 c1 => ?_) (fun hm M1 f1 n1 u1 c1 => ?_)
  · have m3 : M1 203 = M 203 := f1 203 (by decide)
    refine m_brackets (T := M 2) (n := M 1 1) (inv.m.eq (fun a a1 a2 => f1 a (by omega))) (by rw [f1 204 (by decide)]; exact inv.v) (by rw [m3]; exact inv.b34) (by rw [m3]; exact tx.1) hb (inv.ht (f1 205 (by decide))) (fun r2 hm2 _ M2 e2 s2 n2 => ?_) (fun hm2 => absurd (hm.uniq hm2) hr)
    rw [hm2.uniq hm]
    exact ⟨rfl, inv.refused f1 n1 c1 e2 s2 n2⟩
  · have m3 : M1 203 = M 203 := f1 203 (by omega)
    have m4 : M1 204 = M 204 := f1 204 (by omega)
    refine m_brackets (T := M 2) (n := M 1 1) (inv.m.eq (fun a a1 a2 => f1 a (by omega))) (by rw [m4]; exact inv.v) (by rw [m3]; exact inv.b34) (by rw [m3]; exact tx.1) hb (inv.ht (f1 205 (by omega))) (fun r2 hm2 h2 => absurd (hm2.uniq hm) h2) (fun _ M2 e2 s2 n2 c2 v2 p2 => ⟨rfl, ?_⟩)
    rw [m4] at c2
    exact inv.taken f1 n1 u1 (c1 _ _ c2 psh_of) e2 s2 n2 p2
theorem p_grammar (inv : INV M) : w_X11_grammar 0 M (fun r M1 => w_X12_grammar 203 M1 (fun r2 M2 => r2 = r ∧ INV M2)) := by
  have tx := inv.2.2.1
  have hb := inv.1.2.2.2.2.2.1.1
  refine o_grammar inv.1 (fun r E M1 sg f1 n1 h0 h1 => ?_)
  have m3 : M1 203 = M 203 := f1 203 (by omega)
  have m4 : M1 204 = M 204 := f1 204 (by omega)
  refine m_grammar (T := M 2) (n := M 1 1) (inv.m.eq (fun a a1 a2 => f1 a (by omega))) (by rw [m4]; exact inv.v) (by rw [m3]; exact inv.b34) (by rw [m3]; exact tx.1) hb (inv.ht (f1 205 (by omega))) (fun r2 E2 M2 sg2 s2 n2 q0 q1 => ?_)
  obtain ⟨er, eE⟩ := sg2.uniq sg
  subst er
  refine ⟨rfl, ?_⟩
  by_cases hr : 0 ≤ r2
  · obtain ⟨u1, c1⟩ := h1 hr
    obtain ⟨e2, c2, v2, p2⟩ := q1 hr
    rw [m4, eE hr] at c2
    exact inv.taken f1 n1 u1 (c1 _ _ c2 v2 psh_of) e2 s2 n2 p2
  · obtain ⟨c1, u1⟩ := h0 (by omega)
    have e2 := q0 (by omega)
    have row : ∀ a, a < 203 ∨ a = 204 ∨ a = 205 ∨ a = 206 ∨ a = 222 ∨ a = 223 ∨ a = 225 → M2 a = M1 a := fun a ha => funext fun x => e2 a x (by unfold mpk; omega) (by omega)
    have r3 : ∀ x, x = 4 ∨ x = 34 → M2 203 x = M 203 x := fun x hx => by rw [e2 203 x (by unfold mpk; omega) (by omega), m3]
    refine INV.build (M1 := M1) ?_ (fun a ha => row a (by omega)) s2 (inv.tx0 n1 n2 (by rw [row 205 (by omega), f1 205 (by omega)])) ?_ ?_ (inv.rows (f1 186 (by omega)) (by rw [f1 0 (by omega)]) (by rw [row 206 (by omega), f1 206 (by omega)]) (r3 4 (by omega)))
    · rw [row 204 (by omega), row 225 (by omega), row 222 (by omega), m4, f1 225 (by omega), f1 222 (by omega)]
      exact c1
    · rw [r3 34 (by omega), u1]; exact inv.2.2.2.1
    · intro x
      rw [row 223 (by omega), f1 223 (by omega), f1 114 (by omega)]
      exact inv.2.2.2.2.1 x
theorem p_day (inv : INV M) : w_X11_day 0 M (fun r M1 => w_X12_day 203 M1 (fun r2 M2 => r2 = r ∧ INV M2)) := by
  have tx := inv.2.2.1
  have hb := inv.1.2.2.2.2.2.1.1
  refine o_day inv.1 (fun r hm hr M1 f1 n1 c1 => ?_) (fun hm M1 k f c sd f1 n1 r1 u1 c1 => ?_)
  · have m3 : M1 203 = M 203 := f1 203 (by decide)
    refine m_day (T := M 2) (n := M 1 1) (inv.m.eq (fun a a1 a2 => f1 a (by omega))) (by rw [f1 204 (by decide)]; exact inv.v) (by rw [m3]; exact inv.b34) (by rw [m3]; exact tx.1) hb (inv.ht (f1 205 (by decide))) (fun r2 hm2 _ M2 e2 s2 n2 => ?_) (fun hm2 => absurd (hm.uniq hm2) hr)
    rw [hm2.uniq hm]
    exact ⟨rfl, inv.refused f1 n1 c1 e2 s2 n2⟩
  · have m3 : M1 203 = M 203 := f1 203 (by omega)
    have m4 : M1 204 = M 204 := f1 204 (by omega)
    refine m_day (T := M 2) (n := M 1 1) (inv.m.eq (fun a a1 a2 => f1 a (by omega))) (by rw [m4]; exact inv.v) (by rw [m3]; exact inv.b34) (by rw [m3]; exact tx.1) hb (inv.ht (f1 205 (by omega))) (fun r2 hm2 h2 => absurd (hm2.uniq hm) h2) (fun _ M2 k2 f2 c2 sd2 V2 s2 n2 r2 ch2 v2 z2 p2 => ?_)
    rw [m4] at sd2 ch2
    obtain ⟨ek, ef⟩ := sd2.1.uniq sd.1
    subst ek; subst ef
    have hL : 0 ≤ (dLn (M 2) (M 204 73) (lw (M 204)) k2).1 := by rw [← ch2.1]; exact v2.2.2.1.1
    have ec := sd2.2.uniq inv.v hL sd.2
    subst ec
    refine ⟨rfl, ?_⟩
    have r34 : M1 203 34 = M 203 34 := by rw [m3]
    refine INV.build (M1 := M1) ?_ (fun a ha => V2 a (by omega)) s2 (inv.tx0 n1 n2 (by rw [V2 205 (by omega), f1 205 (by omega)])) ?_ ?_ ⟨_, r1, r2⟩
    · rw [V2 222 (by omega), f1 222 (by omega)]
      by_cases hk : k2 = 0
      · rw [(z2 hk).1, f1 225 (by omega)]
        exact c1 _ _ ch2 v2 (fun _ i _ _ => rfl) (fun h => absurd hk h)
      · have pp := (p2 hk).eq (M := M) r34 m4 (f1 225 (by omega))
        rw [if_neg hk] at u1
        exact (c1 _ _ ch2 v2 (fun h => absurd h hk) (fun _ => psh_of)).pm u1 inv.2.2.2.1 pp
    · by_cases hk : k2 = 0
      · rw [(z2 hk).2, u1, if_pos hk, r34]; exact inv.2.2.2.1
      · have pp := (p2 hk).eq (M := M) r34 m4 (f1 225 (by omega))
        rw [u1, if_neg hk, pp.1, inv.2.2.2.1]
    · intro x
      rw [V2 223 (by omega), f1 223 (by omega), f1 114 (by omega)]
      exact inv.2.2.2.2.1 x
theorem p_chg {k p s r r2 : Int} {M1 M2 : pj_M} (inv : INV M) (h1 : chp M (M 204) (fun i x => M 225 (95 * i + x)) (fun i x => M 222 (95 * i + x)) k p s r M1) (h2 : mchp M1 k p s r2 M2) : r2 = r ∧ INV M2 := by
  obtain ⟨a1, a2, a3, a4, a5, a6, a7, a8, a9⟩ := h1
  obtain ⟨b1, b2, b3, b4, b5⟩ := h2
  have m4 : M1 204 = M 204 := a2 204 (by decide)
  have m3 : M1 203 = M 203 := a2 203 (by decide)
  rw [m4] at b1 b5
  have er : r2 = r := b1.trans a1.symm
  subst er
  refine ⟨rfl, ?_⟩
  have row : ∀ a, a < 203 ∨ a = 205 ∨ a = 206 ∨ a = 222 ∨ a = 223 → M2 a = M1 a := fun a ha => b2.at (by omega)
  have tx := inv.2.2.1
  have r2' : M2 203 2 = M 203 2 := by rw [b2 203 2 (by unfold mph; omega), m3]
  have r4 : M2 203 4 = M 203 4 := by rw [b2 203 4 (by unfold mph; omega), m3]
  have tx2 : M2 203 2 = M1 1 1 ∧ (∀ x, -128 ≤ M2 205 x ∧ M2 205 x ≤ 127) ∧ ∀ k, 0 ≤ k → k < M1 1 1 → M1 2 k = pj_and (M2 205 k) 255 := by
    rw [r2', a3, a4, row 205 (by omega), a2 205 (by decide)]
    exact tx
  have hk : ∀ x, M2 223 x = M1 114 x := fun x => by
    rw [row 223 (by omega), a2 223 (by decide), a7]
    exact inv.2.2.2.2.1 x
  have rws := inv.rows (M1 := M1) (M2 := M2) a6 (by rw [a5]) (by rw [row 206 (by omega), a2 206 (by decide)]) r4
  by_cases hr : 0 ≤ r2
  · obtain ⟨c1, v1, p1⟩ := b5 hr
    obtain ⟨u1, ci⟩ := a9 hr
    rw [← m4] at p1
    have pp := p1.eq (M := M) (by rw [m3]) m4 (a2 225 (by decide))
    refine INV.build (M1 := M1) ?_ (fun a ha => row a (by omega)) b3 tx2 ?_ hk rws
    · rw [row 222 (by omega), a2 222 (by decide)]
      exact (ci _ _ c1 v1 psh_of).pm u1 inv.2.2.2.1 pp
    · rw [u1, pp.1, inv.2.2.2.1]
  · obtain ⟨c1, u1⟩ := a8 (by omega)
    obtain ⟨z1, z2, z3⟩ := b4 (by omega)
    refine INV.build (M1 := M1) ?_ (fun a ha => row a (by omega)) b3 tx2 ?_ hk rws
    · rw [z1, z2, row 222 (by omega), m4, a2 225 (by decide), a2 222 (by decide)]
      exact c1
    · rw [z3, u1, m3]; exact inv.2.2.2.1
theorem chp.ge {k p s r : Int} {M1 : pj_M} {D : Int → Int} {H K : Int → Int → Int} (h1 : chp M D H K k p s r M1) : ∀ a, 203 ≤ a → M1 a = M a := h1.2.1
theorem p_becomes {p s : Int} (inv : INV M) (hp : pj_in p) (hs : pj_in s) : w_X11_becomes 0 p s M (fun r M1 => w_X12_becomes 203 p s M1 (fun r2 M2 => r2 = r ∧ INV M2)) := by
  refine o_becomes inv.1 hp hs (fun r M1 h1 => ?_)
  have g := h1.ge
  exact m_becomes (inv.m.eq (fun a a1 a2 => g a (by omega))) (by rw [g 204 (by decide)]; exact inv.v) (by rw [g 203 (by decide)]; exact inv.b34) hp hs (fun r2 M2 h2 => p_chg inv h1 h2)
theorem p_comes {p s : Int} (inv : INV M) (hp : pj_in p) (hs : pj_in s) : w_X11_comes 0 p s M (fun r M1 => w_X12_comes 203 p s M1 (fun r2 M2 => r2 = r ∧ INV M2)) := by
  refine o_comes inv.1 hp hs (fun r M1 h1 => ?_)
  have g := h1.ge
  exact m_comes (inv.m.eq (fun a a1 a2 => g a (by omega))) (by rw [g 204 (by decide)]; exact inv.v) (by rw [g 203 (by decide)]; exact inv.b34) hp hs (fun r2 M2 h2 => p_chg inv h1 h2)
theorem p_goes {p : Int} (inv : INV M) (hp : pj_in p) : w_X11_goes 0 p M (fun r M1 => w_X12_goes 203 p M1 (fun r2 M2 => r2 = r ∧ INV M2)) := by
  refine o_goes inv.1 hp (fun r M1 h1 => ?_)
  have g := h1.ge
  exact m_goes (inv.m.eq (fun a a1 a2 => g a (by omega))) (by rw [g 204 (by decide)]; exact inv.v) (by rw [g 203 (by decide)]; exact inv.b34) hp (fun r2 M2 h2 => p_chg inv h1 h2)
theorem p_undo (inv : INV M) : w_X11_undo 0 M (fun r M1 => w_X12_undo 203 M1 (fun r2 M2 => r2 = r ∧ INV M2)) := by
  have e34 := inv.2.2.2.1
  refine o_undo inv.1 (fun h0 => m_undo inv.m inv.b34 (fun _ M2 e2 s2 w2 => ⟨rfl, inv.nochange e2 s2 w2⟩) (fun h => by omega)) (fun hpos M1 f1 u1 c1 => ?_)
  have m3 : M1 203 = M 203 := f1 203 (by omega)
  refine m_undo (inv.m.eq (fun a a1 a2 => f1 a (by omega))) (by rw [m3]; exact inv.b34) (fun h => by rw [m3] at h; omega) (fun _ M2 e2 s2 z25 z34 w4 => ⟨by rw [m3, e34], ?_⟩)
  have row : ∀ a, a < 203 ∨ a = 205 ∨ a = 206 ∨ a = 222 ∨ a = 223 → M2 a = M1 a := fun a ha => e2.at (by omega)
  have m25 : M1 225 = M 225 := f1 225 (by omega)
  rw [m3, e34] at z34 w4
  refine INV.build (M1 := M1) ?_ (fun a ha => row a (by omega)) s2 ⟨?_, ?_, ?_⟩ ?_ ?_ (inv.rows (f1 186 (by omega)) (by rw [f1 0 (by omega)]) (by rw [row 206 (by omega), f1 206 (by omega)]) (by rw [e2 203 4 (by unfold mph; omega), m3]))
  · rw [z25, m25, row 222 (by omega), f1 222 (by omega)]
    exact c1.cg (fun x x1 x2 => by rw [w4 x x1 x2, m25]) (fun _ _ _ _ _ _ => rfl) (fun _ _ _ _ _ _ => rfl)
  · rw [e2 203 2 (by unfold mph; omega), m3, f1 1 (by omega)]; exact inv.2.2.1.1
  · rw [row 205 (by omega), f1 205 (by omega)]; exact inv.2.2.1.2.1
  · rw [row 205 (by omega), f1 205 (by omega), f1 1 (by omega), f1 2 (by omega)]; exact inv.2.2.1.2.2
  · rw [z34, u1]
  · intro x
    rw [row 223 (by omega), f1 223 (by omega), f1 114 (by omega)]
    exact inv.2.2.2.2.1 x
theorem p_keep {i : Int} (inv : INV M) (hi : pj_in i) : w_X11_keep 0 i M (fun r M1 => w_X12_keep 203 i M1 (fun r2 M2 => r2 = r ∧ INV M2)) := by
  refine o_keep inv.1 hi (fun hno => m_keep inv.m hi (fun _ M2 e2 s2 w2 => ⟨rfl, inv.nochange e2 s2 w2⟩) (fun h => absurd h hno)) (fun hyes M1 f1 k1 c1 => ?_)
  have m3 : M1 203 = M 203 := f1 203 (by decide) (by omega)
  refine m_keep (inv.m.eq (fun a a1 a2 => f1 a (by omega) (by omega))) hi (fun h => absurd hyes h) (fun _ M2 f2 s2 k2 w2 => ⟨rfl, ?_⟩)
  have row : ∀ a, a ≠ 222 → a ≠ 223 → a ≠ 203 → M2 a = M1 a := fun a a1 a2 a3 => funext fun x => f2 a x a1 a2 (fun e => a3 e.1)
  have r3 : ∀ x, x ≠ 5 → M2 203 x = M 203 x := fun x hx => by rw [f2 203 x (by decide) (by decide) (by omega), m3]
  refine INV.build (M1 := M1) ?_ (fun a ha => row a (by omega) (by omega) (by omega)) s2 ⟨?_, ?_, ?_⟩ ?_ ?_ (inv.rows (f1 186 (by decide) (by omega)) (by rw [f1 0 (by decide) (by omega)]) (by rw [row 206 (by decide) (by decide) (by decide), f1 206 (by decide) (by omega)]) (r3 4 (by decide)))
  · rw [row 204 (by decide) (by decide) (by decide), row 225 (by decide) (by decide) (by decide), f1 204 (by decide) (by omega), f1 225 (by decide) (by omega)]
    refine (c1 (fun j => if j = i then M 204 else (fun x => M 222 (95 * j + x))) (fun j hj => if_neg hj) (if_pos rfl)).cg (fun _ _ _ => rfl) (fun _ _ _ _ _ _ => rfl) (fun j hj _ x x1 x2 => ?_)
    show M2 222 (95 * (j : Int) + x) = _
    rw [w2 (j : Int) x x1 x2, f1 204 (by decide) (by omega), f1 222 (by decide) (by omega)]
    by_cases e : (j : Int) = i
    · rw [if_pos e, if_pos e]
    · rw [if_neg e, if_neg e]
  · rw [r3 2 (by decide), f1 1 (by decide) (by omega)]; exact inv.2.2.1.1
  · rw [row 205 (by decide) (by decide) (by decide), f1 205 (by decide) (by omega)]; exact inv.2.2.1.2.1
  · rw [row 205 (by decide) (by decide) (by decide), f1 205 (by decide) (by omega), f1 1 (by decide) (by omega), f1 2 (by decide) (by omega)]; exact inv.2.2.1.2.2
  · rw [r3 34 (by decide), f1 31 (by decide) (by omega)]; exact inv.2.2.2.1
  · intro x
    rw [k2 x, k1 x, f1 223 (by decide) (by omega), inv.2.2.2.2.1 x]
theorem p_again {i : Int} (inv : INV M) (hi : pj_in i) : w_X11_again 0 i M (fun r M1 => w_X12_again 203 i M1 (fun r2 M2 => r2 = r ∧ INV M2)) := by
  have hkb := inv.1.2.2.2.2.1.1
  have e114 := inv.2.2.2.2.1
  refine o_again inv.1 hi (fun hno => m_again inv.m hi (fun x => by rw [e114]; exact hkb x) (fun _ M2 e2 s2 w2 => ⟨rfl, inv.nochange e2 s2 w2⟩) (fun h => absurd (by rw [← e114]; exact h) hno)) (fun hyes M1 f1 u1 c1 => ?_)
  have m3 : M1 203 = M 203 := f1 203 (by omega)
  have m23 : M1 223 = M 223 := f1 223 (by omega)
  refine m_again (inv.m.eq (fun a a1 a2 => f1 a (by omega))) hi (fun x => by rw [m23, e114]; exact hkb x) (fun h => absurd (by rw [m23, e114]; exact hyes) h) (fun _ M2 e2 s2 z34 w4 => ⟨rfl, ?_⟩)
  have row : ∀ a, a < 203 ∨ a = 205 ∨ a = 206 ∨ a = 222 ∨ a = 223 → M2 a = M1 a := fun a ha => e2.at (by omega)
  refine INV.build (M1 := M1) ?_ (fun a ha => row a (by omega)) s2 ⟨?_, ?_, ?_⟩ ?_ ?_ (inv.rows (f1 186 (by omega)) (by rw [f1 0 (by omega)]) (by rw [row 206 (by omega), f1 206 (by omega)]) (by rw [e2 203 4 (by unfold mph; omega), m3]))
  · rw [row 222 (by omega), f1 222 (by omega)]
    exact (c1 _).cg (fun x x1 x2 => by rw [w4 x x1 x2, f1 222 (by omega)]) (fun _ _ _ _ _ _ => rfl) (fun _ _ _ _ _ _ => rfl)
  · rw [e2 203 2 (by unfold mph; omega), m3, f1 1 (by omega)]; exact inv.2.2.1.1
  · rw [row 205 (by omega), f1 205 (by omega)]; exact inv.2.2.1.2.1
  · rw [row 205 (by omega), f1 205 (by omega), f1 1 (by omega), f1 2 (by omega)]; exact inv.2.2.1.2.2
  · rw [z34, u1]
  · intro x
    rw [row 223 (by omega), m23, f1 114 (by omega)]
    exact e114 x
theorem p_sheet {kind n f step : Int} (inv : INV M) (hk : pj_in kind) (hn : pj_in n) : w_X11_sheet 0 kind n f step M (fun r M1 => w_X12_sheet 203 kind n f step M1 (fun r2 M2 => r2 = r ∧ INV M2)) := by
  have fin : ∀ {M1 M2 : pj_M}, (∀ a, a ≠ 18 → a ≠ 19 → M1 a = M a) → CI M1 (M2 204) (fun i x => M 225 (95 * i + x)) (fun i x => M 222 (95 * i + x)) → (∀ c x, mpk c x → c ≠ 204 → M2 c x = M1 c x) → msc M2 → INV M2 := by
    intro M1 M2 f1 c1 f2 s2
    have row : ∀ a, a < 203 ∨ a = 205 ∨ a = 206 ∨ a = 222 ∨ a = 223 ∨ a = 225 → M2 a = M1 a := fun a ha => funext fun x => f2 a x (by unfold mpk; omega) (by omega)
    have r3 : ∀ x, x = 2 ∨ x = 4 ∨ x = 34 → M2 203 x = M 203 x := fun x hx => by rw [f2 203 x (by unfold mpk; omega) (by decide), f1 203 (by decide) (by decide)]
    refine INV.build (M1 := M1) ?_ (fun a ha => row a (by omega)) s2 ⟨?_, ?_, ?_⟩ ?_ ?_ (inv.rows (f1 186 (by decide) (by decide)) (by rw [f1 0 (by decide) (by decide)]) (by rw [row 206 (by omega), f1 206 (by decide) (by decide)]) (r3 4 (by omega)))
    · rw [row 225 (by omega), row 222 (by omega), f1 225 (by decide) (by decide), f1 222 (by decide) (by decide)]
      exact c1
    · rw [r3 2 (by omega), f1 1 (by decide) (by decide)]; exact inv.2.2.1.1
    · rw [row 205 (by omega), f1 205 (by decide) (by decide)]; exact inv.2.2.1.2.1
    · rw [row 205 (by omega), f1 205 (by decide) (by decide), f1 1 (by decide) (by decide), f1 2 (by decide) (by decide)]; exact inv.2.2.1.2.2
    · rw [r3 34 (by omega), f1 31 (by decide) (by decide)]; exact inv.2.2.2.1
    · intro x
      rw [row 223 (by omega), f1 223 (by decide) (by decide), f1 114 (by decide) (by decide)]
      exact inv.2.2.2.2.1 x
  refine o_sheet inv.1 hk hn (fun hno => ?_) (fun hkb hneg => ?_) (fun h3 h14 M1 f1 c1 => ?_) (fun hkb hnb M1 f1 c1 => ?_)
  · exact m_sheet inv.m inv.v hk hn (fun _ M2 e2 s2 w2 => ⟨rfl, inv.nochange e2 s2 w2⟩) (fun _ _ => by omega) (fun _ _ => by omega) (fun _ _ => by omega)
  · exact m_sheet inv.m inv.v hk hn (fun _ => by omega) (fun _ _ M2 e2 s2 w2 => ⟨rfl, inv.nochange e2 s2 w2⟩) (fun _ => by omega) (fun _ _ => by omega)
  · have m4 : M1 204 = M 204 := f1 204 (by decide) (by decide)
    refine m_sheet (inv.m.eq (fun a a1 a2 => f1 a (by omega) (by omega))) (by rw [m4]; exact inv.v) hk hn (fun _ => by omega) (fun _ => by omega) (fun _ _ M2 w e2 s2 c2 v2 => ⟨rfl, ?_⟩) (fun _ => by omega)
    rw [m4] at c2
    exact fin f1 (c1 _ ⟨c2.1, fun _ _ _ => rfl, c2.2.2⟩ v2) (e2.elim (fun h c x hc _ => h c x hc) id) s2
  · have m4 : M1 204 = M 204 := f1 204 (by decide) (by decide)
    refine m_sheet (inv.m.eq (fun a a1 a2 => f1 a (by omega) (by omega))) (by rw [m4]; exact inv.v) hk hn (fun _ => by omega) (fun _ _ => by omega) (fun _ => by omega) (fun _ _ M2 e2 s2 c2 v2 => ⟨rfl, ?_⟩)
    rw [m4] at c2
    exact fin f1 (c1 _ c2 v2) e2 s2
end
