theorem mkok {M : pj_M} {b : Nat} (h11 : M 203 11 = (b : Int)) (hb : b = 204 ∨ b = 224) (v : vg (M b)) (s : msc M) : mt_ok M b :=
  ⟨h11, by rcases hb with h | h <;> rw [h] <;> decide, hb, fun k k1 k2 => v.2.2.1 k k1 k2, fun k t k1 k2 t1 t2 => v.2.2.2 k t k1 k2 t1 t2, s.1, s.2.1, s.2.2.1, s.2.2.2.1, s.2.2.2.2.2⟩
/-- the model's costs -/
def mC (M : pj_M) (x p q : Nat) : Int := M 219 (16 * (16 * (x : Int) + (p : Int)) + (q : Int))
def mP (M : pj_M) : kP := fun x p q a => mC M x p q = (a : Int) ∧ a < 1000000
def mW (M : pj_M) : Nat → Nat := fun m => (M 209 (m : Int)).toNat
def sbb (W : Nat → Nat) (P : kP) (ss : List Nat) (i j : Nat) (B : Int → Int) : Prop := ∀ m : Nat, i ≤ m → m ≤ j → (0 ≤ B (m : Int) ∧ B (m : Int) ≤ 1000000) ∧ (B (m : Int) < 1000000 → kq1 W P ss i m (B (m : Int)).toNat) ∧ ∀ a : Nat, kq1 W P ss i m a → B (m : Int) ≤ (a : Int)
def eqs (M M' : pj_M) : Prop := ∀ a, a ≠ 220 → a ≠ 221 → M' a = M a
theorem eqs.rf {M : pj_M} : eqs M M := fun _ _ _ => rfl
theorem eqs.tr {M M1 M2 : pj_M} (h : eqs M M1) (h2 : eqs M1 M2) : eqs M M2 := fun a h3 h4 => (h2 a h3 h4).trans (h a h3 h4)
theorem eqs.up {M : pj_M} {a : Nat} {k v : Int} (h : a = 220 ∨ a = 221) : eqs M (pj_up M a k v) := fun b h1 h2 => pu_row (by omega)
theorem mP.eqs {M M' : pj_M} (e : eqs M M') : mP M' = mP M := by funext x p q a; unfold mP mC; rw [e 219 (by decide) (by decide)]
theorem mW.eqs {M M' : pj_M} (e : eqs M M') : mW M' = mW M := by funext m; unfold mW; rw [e 209 (by decide) (by decide)]
theorem mt_ok.s {M M' : pj_M} {b : Nat} (h : mt_ok M b) (e : eqs M M') : mt_ok M' b := by
  have hb := h.2.2.1
  have e203 := e 203 (by decide) (by decide)
  have eb : M' b = M b := e b (by omega) (by omega)
  unfold mt_ok mt_sz mt_sm bz at *
  rw [e203, eb, e 209 (by decide) (by decide), e 210 (by decide) (by decide), e 211 (by decide) (by decide), e 212 (by decide) (by decide), e 213 (by decide) (by decide)]
  exact h
def mcb (M : pj_M) (j : Nat) : Prop := ∀ x p q : Nat, x < 6 → p ≤ q → q ≤ j → 0 ≤ mC M x p q ∧ mC M x p q ≤ 1000000
theorem t_cost {M : pj_M} {s i j : Nat} {Q : Int → pj_M → Prop} (hw : ∀ a, 0 ≤ M 209 a ∧ M 209 a ≤ 7) (hs : s < 14) (hij : i ≤ j) (hj : j ≤ 15) (cb : mcb M j) (q : ∀ c : Int, (0 ≤ c ∧ c ≤ 1000000) → (∀ a : Nat, a < 1000000 → ((a : Int) = c ↔ ks (mW M) (mP M) s i j a)) → Q c M) : w_X12_cost 203 (s : Int) (i : Int) (j : Int) M Q := by
  unfold w_X12_cost
  refine ⟨⟨by omega, by omega⟩, fun h8 => ⟨⟨by omega, by omega⟩, ⟨by omega, by omega⟩, fun hne => ?_, fun heq => ?_⟩, fun h8 => ?_⟩
  · unfold w_X12_cost_31
    refine pj_lp_inv (fun y : Int × pj_M => ∃ p : Nat, y.1 = (p : Int) ∧ i ≤ p ∧ p ≤ j ∧ y.2 = M ∧ ∀ m : Nat, i ≤ m → m < p → M 209 (m : Int) ≠ (s : Int)) (fun y => ((j : Int) - y.1).toNat) ?_ ((i : Int), M) ⟨i, rfl, Nat.le_refl _, hij, rfl, fun m h1 h2 => by omega⟩
    rintro ⟨_, Mx⟩ ⟨p, h1, hp1, hp2, hM, hno⟩ P hP
    dsimp only at h1 hM hP ⊢
    subst h1
    have hM' := hM.symm
    subst hM'
    have hwp := hw (p : Int)
    unfold w_X12_cost_31b
    rw [rm_13]
    refine ⟨⟨by omega, by omega⟩, ⟨by omega, by omega⟩, fun hend => q _ ⟨by omega, by omega⟩ (fun a ha => ?_), fun hgo => ⟨⟨by omega, by omega⟩, ⟨by omega, by omega⟩, ⟨by omega, by omega⟩, fun hn => ?_, fun he => q _ ⟨by omega, by omega⟩ (fun a ha => ?_)⟩⟩
    · have hall : ∀ m, i ≤ m → m < j → mW M m ≠ s := fun m m1 m2 => by
        have h1 := hno m m1 (by omega)
        have h2 := hw (m : Int)
        unfold mW; omega
      constructor
      · intro e
        exact Or.inl ⟨by omega, hij, Or.inr (Or.inr ⟨by omega, hall, by omega⟩)⟩
      · rintro (⟨_, _, ⟨h, _⟩ | ⟨_, ⟨m, m1, m2, m3⟩, _⟩ | ⟨_, _, h⟩⟩ | ⟨h, _⟩)
        · omega
        · exact absurd m3 (hall m m1 m2)
        · omega
        · omega
    · refine hP ((p : Int) + 1, M) ⟨p + 1, by show (p : Int) + 1 = _; omega, by omega, by omega, rfl, fun m m1 m2 => ?_⟩ (by show ((j : Int) - ((p : Int) + 1)).toNat < ((j : Int) - (p : Int)).toNat; omega)
      by_cases e : m = p
      · rw [e]; exact hn
      · exact hno m m1 (by omega)
    · have hex : ∃ m, i ≤ m ∧ m < j ∧ mW M m = s := ⟨p, hp1, by omega, by unfold mW; rw [he]; exact Int.toNat_natCast s⟩
      constructor
      · intro e
        exact Or.inl ⟨by omega, hij, Or.inr (Or.inl ⟨by omega, hex, by omega⟩)⟩
      · rintro (⟨_, _, ⟨h, _⟩ | ⟨_, _, h⟩ | ⟨_, h, _⟩⟩ | ⟨h, _⟩)
        · omega
        · omega
        · obtain ⟨m, m1, m2, m3⟩ := hex
          exact absurd m3 (h m m1 m2)
        · omega
  · refine q 1 ⟨by decide, by decide⟩ (fun a ha => ?_)
    constructor
    · intro e
      exact Or.inl ⟨by omega, hij, Or.inl ⟨by omega, by omega⟩⟩
    · rintro (⟨_, _, ⟨_, h⟩ | ⟨h, _⟩ | ⟨h, _⟩⟩ | ⟨h, _⟩) <;> omega
  · unfold w_X12_cell
    rw [rm_25]
    obtain ⟨x, hx⟩ : ∃ x : Nat, (s : Int) - 8 = (x : Int) := ⟨s - 8, by omega⟩
    have hsx : s = x + 8 := by omega
    have hb := cb x i j (by omega) hij (Nat.le_refl _)
    rw [hx]
    refine ⟨⟨by omega, by omega⟩, q _ hb (fun a ha => ?_)⟩
    show (a : Int) = mC M x i j ↔ _
    constructor
    · intro e
      refine Or.inr ⟨by omega, ?_⟩
      rw [show s - 8 = x by omega]
      exact ⟨e.symm, ha⟩
    · rintro (⟨h, _⟩ | ⟨_, h⟩)
      · omega
      · rw [show s - 8 = x by omega] at h; exact h.1.symm
theorem kq1_snoc {W : Nat → Nat} {P : kP} {ss : List Nat} {s p q n : Nat} (hpq : p ≤ q) : kq1 W P (ss ++ [s]) p q n ↔ ∃ m x y, p ≤ m ∧ m ≤ q ∧ n = x + y ∧ kq1 W P ss p m x ∧ ks W P s m q y := by
  rw [kq1_app hpq]
  constructor
  · rintro ⟨m, x, y, h1, h2, h3, h4, m', a, b, g1, g2, g3, g4, g5, g6⟩
    subst g5; subst g6
    exact ⟨m, x, a, h1, h2, by omega, h4, g4⟩
  · rintro ⟨m, x, y, h1, h2, h3, h4, h5⟩
    exact ⟨m, x, y, h1, h2, h3, h4, q, y, 0, h2, Nat.le_refl _, rfl, h5, rfl, rfl⟩
/-- the symbols of an alternative -/
abbrev mss (M : pj_M) (k : Int) : List Nat := sg (mt_f M 204 k) 0 (mt_sz M 204 k)
theorem t_costBy {M : pj_M} {i j : Nat} {k : Int} {Q : Int → pj_M → Prop} (ok : mt_ok M 204) (hk : 0 ≤ k ∧ k < 12) (hij : i ≤ j) (hj : j ≤ 15) (cb : mcb M j) (q : ∀ r M', eqs M M' → (0 ≤ r ∧ r ≤ 1000000) → (r < 1000000 → kq (mW M) (mP M) (mss M k) i j r.toNat) → (∀ a : Nat, kq (mW M) (mP M) (mss M k) i j a → r ≤ (a : Int)) → Q r M') : w_X12_costBy 203 k (i : Int) (j : Int) M Q := by
  have hz := ok.2.2.2.1 k hk.1 hk.2
  have hw := ok.2.2.2.2.2.2.2.2.2
  unfold w_X12_costBy
  refine t_longOf ok hk ⟨⟨by omega, by omega⟩, fun hne => ?_, fun h0 => ?_⟩
  · -- after the symbols so far
    have loop : ∀ M1, eqs M M1 → sbb (mW M) (mP M) [] i j (M1 220) → w_X12_costBy_50 203 k (i : Int) (j : Int) Q 0 M1 := by
      intro M1 e1 hB
      unfold w_X12_costBy_50
      refine pj_lp_inv (fun y : Int × pj_M => ∃ t : Nat, y.1 = (t : Int) ∧ (t : Int) ≤ mt_sz M 204 k ∧ eqs M y.2 ∧ sbb (mW M) (mP M) (sg (mt_f M 204 k) 0 (t : Int)) i j (y.2 220)) (fun y => (mt_sz M 204 k - y.1).toNat) ?_ (0, M1) ⟨0, rfl, hz.1, e1, by show sbb (mW M) (mP M) (sg (mt_f M 204 k) 0 ((0 : Nat) : Int)) i j (M1 220); rw [show ((0 : Nat) : Int) = 0 from rfl, sg_nil]; exact hB⟩
      rintro ⟨_, M2⟩ ⟨t, h1, ht, e2, b2⟩ P hP
      dsimp only at h1 e2 b2 hP ⊢
      subst h1
      have ok2 : mt_ok M2 204 := ok.s e2
      have hsz2 : mt_sz M2 204 k = mt_sz M 204 k := by unfold mt_sz; rw [e2 204 (by decide) (by decide)]
      unfold w_X12_costBy_50b
      refine t_longOf ok2 hk ?_
      rw [hsz2, rm_26]
      refine ⟨⟨by omega, by omega⟩, ⟨by omega, by omega⟩, fun hend => ⟨⟨by omega, by omega⟩, ?_⟩, fun hgo => ?_⟩
      · have htz : (t : Int) = mt_sz M 204 k := by omega
        have hb := b2 j hij (Nat.le_refl _)
        rw [htz] at hb
        have hnn : mss M k ≠ [] := sg_ne (by omega)
        refine q _ M2 e2 hb.1 (fun hlt => Or.inr ⟨hnn, hb.2.1 hlt⟩) (fun a ha => ?_)
        rcases ha with ⟨h, _⟩ | ⟨_, h⟩
        · exact absurd h hnn
        · exact hb.2.2 a h
      · have hsm := ok.2.2.2.2.1 k (t : Int) hk.1 hk.2 (by omega) (by omega)
        obtain ⟨sy, hsy⟩ : ∃ sy : Nat, mt_sm M 204 k (t : Int) = (sy : Int) := ⟨(mt_sm M 204 k (t : Int)).toNat, by omega⟩
        have hsn : sg (mt_f M 204 k) 0 (((t + 1 : Nat) : Int)) = sg (mt_f M 204 k) 0 (t : Int) ++ [sy] := by
          rw [show ((t + 1 : Nat) : Int) = (t : Int) + 1 by omega, ← sg_app (m := (t : Int)) (by omega) (by omega), sg_one]
          congr 2
          show (mt_sm M 204 k (t : Int)).toNat = sy
          rw [hsy]; exact Int.toNat_natCast sy
        -- copy back
        have copy : ∀ M3, eqs M M3 → sbb (mW M) (mP M) (sg (mt_f M 204 k) 0 (((t + 1 : Nat) : Int))) i j (M3 221) → w_X12_costBy_159 203 k (i : Int) (j : Int) (t : Int) (fun x4 M => P (x4, M)) Q (i : Int) M3 := by
          intro M3 e3 b3
          unfold w_X12_costBy_159
          refine pj_lp_inv (fun y : Int × pj_M => ∃ m : Nat, y.1 = (m : Int) ∧ i ≤ m ∧ m ≤ j + 1 ∧ eqs M y.2 ∧ y.2 221 = M3 221 ∧ ∀ x : Nat, i ≤ x → x < m → y.2 220 (x : Int) = M3 221 (x : Int)) (fun y => ((j : Int) + 1 - y.1).toNat) ?_ ((i : Int), M3) ⟨i, rfl, Nat.le_refl _, by omega, e3, rfl, fun x x1 x2 => by omega⟩
          rintro ⟨_, M4⟩ ⟨m, h1, hm1, hm2, e4, g4, c4⟩ P4 hP4
          dsimp only at h1 e4 g4 c4 hP4 ⊢
          subst h1
          unfold w_X12_costBy_159b
          rw [rm_26, rm_27, g4]
          refine ⟨⟨by omega, by omega⟩, ⟨by omega, by omega⟩, fun hend => ?_, fun hgo4 => ⟨⟨by omega, by omega⟩, ⟨by omega, by omega⟩, ?_⟩⟩
          · refine hP ((t : Int) + 1, M4) ⟨t + 1, by show (t : Int) + 1 = _; omega, by omega, e4, fun x x1 x2 => ?_⟩ (by show (mt_sz M 204 k - ((t : Int) + 1)).toNat < (mt_sz M 204 k - (t : Int)).toNat; omega)
            show (0 ≤ M4 220 (x : Int) ∧ M4 220 (x : Int) ≤ 1000000) ∧ (M4 220 (x : Int) < 1000000 → kq1 (mW M) (mP M) (sg (mt_f M 204 k) 0 (((t + 1 : Nat) : Int))) i x (M4 220 (x : Int)).toNat) ∧ ∀ a : Nat, kq1 (mW M) (mP M) (sg (mt_f M 204 k) 0 (((t + 1 : Nat) : Int))) i x a → M4 220 (x : Int) ≤ (a : Int)
            rw [c4 x x1 (by omega)]; exact b3 x x1 x2
          · rintro M19 rfl
            refine hP4 ((m : Int) + 1, _) ⟨m + 1, by show (m : Int) + 1 = _; omega, by omega, by omega, e4.tr (eqs.up (Or.inl rfl)), ?_, fun x x1 x2 => ?_⟩ (by show ((j : Int) + 1 - ((m : Int) + 1)).toNat < ((j : Int) + 1 - (m : Int)).toNat; omega)
            · show pj_up M4 220 (m : Int) (M3 221 (m : Int)) 221 = _
              rw [pu_row (by decide)]; exact g4
            · show pj_up M4 220 (m : Int) (M3 221 (m : Int)) 220 (x : Int) = _
              by_cases e : x = m
              · rw [e, pu_eq]
              · rw [pu_nk (by omega)]; exact c4 x x1 (by omega)
        -- one symbol more
        have more : ∀ M3, eqs M M3 → M3 220 = M2 220 → (∀ x : Nat, i ≤ x → x ≤ j → M3 221 (x : Int) = 1000000) → w_X12_costBy_88 203 k (i : Int) (j : Int) (t : Int) (fun x4 M => P (x4, M)) Q (i : Int) M3 := by
          intro M3 e3 g3 f3
          unfold w_X12_costBy_88
          -- more[x] = the least over begins below m
          refine pj_lp_inv (fun y : Int × pj_M => ∃ m : Nat, y.1 = (m : Int) ∧ i ≤ m ∧ m ≤ j + 1 ∧ eqs M y.2 ∧ y.2 220 = M2 220 ∧ ∀ x : Nat, i ≤ x → x ≤ j → (0 ≤ y.2 221 (x : Int) ∧ y.2 221 (x : Int) ≤ 1000000) ∧ (y.2 221 (x : Int) < 1000000 → ∃ u a : Nat, i ≤ u ∧ u ≤ x ∧ u < m ∧ ks (mW M) (mP M) sy u x a ∧ y.2 221 (x : Int) = M2 220 (u : Int) + (a : Int)) ∧ ∀ u a : Nat, i ≤ u → u ≤ x → u < m → ks (mW M) (mP M) sy u x a → y.2 221 (x : Int) ≤ M2 220 (u : Int) + (a : Int)) (fun y => ((j : Int) + 1 - y.1).toNat) ?_ ((i : Int), M3) ⟨i, rfl, Nat.le_refl _, by omega, e3, g3, fun x x1 x2 => by
            show (0 ≤ M3 221 (x : Int) ∧ M3 221 (x : Int) ≤ 1000000) ∧ (M3 221 (x : Int) < 1000000 → ∃ u a : Nat, i ≤ u ∧ u ≤ x ∧ u < i ∧ ks (mW M) (mP M) sy u x a ∧ M3 221 (x : Int) = M2 220 (u : Int) + (a : Int)) ∧ ∀ u a : Nat, i ≤ u → u ≤ x → u < i → ks (mW M) (mP M) sy u x a → M3 221 (x : Int) ≤ M2 220 (u : Int) + (a : Int)
            rw [f3 x x1 x2]
            exact ⟨⟨by decide, by decide⟩, fun h => absurd h (Int.lt_irrefl _), fun u a h1 h2 h3 => by omega⟩⟩
          rintro ⟨_, M4⟩ ⟨m, h1, hm1, hm2, e4, g4, c4⟩ P4 hP4
          dsimp only at h1 e4 g4 c4 hP4 ⊢
          subst h1
          unfold w_X12_costBy_88b
          refine ⟨⟨by omega, by omega⟩, ⟨by omega, by omega⟩, fun hend => ?_, fun hgo4 => ?_⟩
          · refine copy M4 e4 (fun x x1 x2 => ?_)
            obtain ⟨d1, d2, d3⟩ := c4 x x1 x2
            refine ⟨d1, fun hlt => ?_, fun a ha => ?_⟩
            · obtain ⟨u, a, u1, u2, u3, u4, u5⟩ := d2 hlt
              have hu := b2 u u1 (by omega)
              rw [hsn, kq1_snoc x1]
              exact ⟨u, (M2 220 (u : Int)).toNat, a, u1, u2, by omega, hu.2.1 (by omega), u4⟩
            · rw [hsn, kq1_snoc x1] at ha
              obtain ⟨u, n1, n2, u1, u2, u3, u4, u5⟩ := ha
              have hu := (b2 u u1 (by omega)).2.2 n1 u4
              have := d3 u n2 u1 u2 (by omega) u5
              omega
          · unfold w_X12_costBy_98
            refine pj_lp_inv (fun y : Int × pj_M => ∃ x0 : Nat, y.1 = (x0 : Int) ∧ m ≤ x0 ∧ x0 ≤ j + 1 ∧ eqs M y.2 ∧ y.2 220 = M2 220 ∧ ∀ x : Nat, i ≤ x → x ≤ j → (0 ≤ y.2 221 (x : Int) ∧ y.2 221 (x : Int) ≤ 1000000) ∧ (y.2 221 (x : Int) < 1000000 → ∃ u a : Nat, i ≤ u ∧ u ≤ x ∧ (u < m ∨ (u = m ∧ x < x0)) ∧ ks (mW M) (mP M) sy u x a ∧ y.2 221 (x : Int) = M2 220 (u : Int) + (a : Int)) ∧ ∀ u a : Nat, i ≤ u → u ≤ x → (u < m ∨ (u = m ∧ x < x0)) → ks (mW M) (mP M) sy u x a → y.2 221 (x : Int) ≤ M2 220 (u : Int) + (a : Int)) (fun y => ((j : Int) + 1 - y.1).toNat) ?_ ((m : Int), M4) ⟨m, rfl, Nat.le_refl _, by omega, e4, g4, fun x x1 x2 => ⟨(c4 x x1 x2).1, fun hlt => by
              obtain ⟨u, a, u1, u2, u3, u4, u5⟩ := (c4 x x1 x2).2.1 hlt
              exact ⟨u, a, u1, u2, Or.inl u3, u4, u5⟩, fun u a u1 u2 u3 u4 => (c4 x x1 x2).2.2 u a u1 u2 (by omega) u4⟩⟩
            rintro ⟨_, M5⟩ ⟨x0, h1, hx1, hx2, e5, g5, c5⟩ P5 hP5
            dsimp only at h1 e5 g5 c5 hP5 ⊢
            subst h1
            have ok5 : mt_ok M5 204 := ok.s e5
            have hsm5 : mt_sm M5 204 k (t : Int) = (sy : Int) := by
              have : mt_sm M5 204 k (t : Int) = mt_sm M 204 k (t : Int) := by unfold mt_sm; rw [e5 204 (by decide) (by decide)]
              rw [this]; exact hsy
            unfold w_X12_costBy_98b
            refine ⟨⟨by omega, by omega⟩, ⟨by omega, by omega⟩, fun hend => ?_, fun hgo5 => ⟨⟨by omega, by omega⟩, ⟨by omega, by omega⟩, ?_⟩⟩
            · refine hP4 ((m : Int) + 1, M5) ⟨m + 1, by show (m : Int) + 1 = _; omega, by omega, by omega, e5, g5, fun x x1 x2 => ⟨(c5 x x1 x2).1, fun hlt => ?_, fun u a u1 u2 u3 u4 => (c5 x x1 x2).2.2 u a u1 u2 (by omega) u4⟩⟩ (by show ((j : Int) + 1 - ((m : Int) + 1)).toNat < ((j : Int) + 1 - (m : Int)).toNat; omega)
              obtain ⟨u, a, u1, u2, u3, u4, u5⟩ := (c5 x x1 x2).2.1 hlt
              exact ⟨u, a, u1, u2, by omega, u4, u5⟩
            · refine t_symbolOf ok5 hk ⟨by omega, by omega⟩ ?_
              rw [hsm5]
              have cb5 : mcb M5 x0 := fun x p q' a1 a2 a3 => by unfold mC; rw [e5 219 (by decide) (by decide)]; exact cb x p q' a1 a2 (by omega)
              refine t_cost (by rw [e5 209 (by decide) (by decide)]; exact hw) (by omega) (by omega) (by omega) cb5 (fun c hc hks => ?_)
              rw [mW.eqs e5, mP.eqs e5] at hks
              rw [rm_27, rm_26, g5]
              have bm := (b2 m (by omega) (by omega)).1
              obtain ⟨d1, d2, d3⟩ := c5 x0 (by omega) (by omega)
              refine t_min ⟨by omega, by omega⟩ ⟨by omega, by omega⟩ (fun r hr hr1 hr2 => ⟨⟨by omega, by omega⟩, ?_⟩)
              rintro M31 rfl
              have kb : ∀ a : Nat, ks (mW M) (mP M) sy m x0 a → a < 1000000 := by
                intro a ha
                rcases ha with ⟨_, _, ⟨_, h⟩ | ⟨_, _, h⟩ | ⟨_, _, h⟩⟩ | ⟨_, h⟩
                · omega
                · omega
                · omega
                · exact h.2
              refine hP5 ((x0 : Int) + 1, _) ⟨x0 + 1, by show (x0 : Int) + 1 = _; omega, by omega, by omega, e5.tr (eqs.up (Or.inr rfl)), ?_, fun x x1 x2 => ?_⟩ (by show ((j : Int) + 1 - ((x0 : Int) + 1)).toNat < ((j : Int) + 1 - (x0 : Int)).toNat; omega)
              · show pj_up M5 221 (x0 : Int) r 220 = _
                rw [pu_row (by decide)]; exact g5
              · show (0 ≤ pj_up M5 221 (x0 : Int) r 221 (x : Int) ∧ pj_up M5 221 (x0 : Int) r 221 (x : Int) ≤ 1000000) ∧ (pj_up M5 221 (x0 : Int) r 221 (x : Int) < 1000000 → ∃ u a : Nat, i ≤ u ∧ u ≤ x ∧ (u < m ∨ (u = m ∧ x < x0 + 1)) ∧ ks (mW M) (mP M) sy u x a ∧ pj_up M5 221 (x0 : Int) r 221 (x : Int) = M2 220 (u : Int) + (a : Int)) ∧ ∀ u a : Nat, i ≤ u → u ≤ x → (u < m ∨ (u = m ∧ x < x0 + 1)) → ks (mW M) (mP M) sy u x a → pj_up M5 221 (x0 : Int) r 221 (x : Int) ≤ M2 220 (u : Int) + (a : Int)
                by_cases e : x = x0
                · subst e
                  rw [pu_eq]
                  refine ⟨⟨by omega, by omega⟩, fun hlt => ?_, fun u a u1 u2 u3 u4 => ?_⟩
                  · rcases hr with h | h
                    · obtain ⟨u, a, u1, u2, u3, u4, u5⟩ := d2 (by omega)
                      exact ⟨u, a, u1, u2, by omega, u4, by omega⟩
                    · exact ⟨m, c.toNat, by omega, by omega, by omega, (hks c.toNat (by omega)).mp (by omega), by omega⟩
                  · rcases Nat.lt_or_ge u m with h | h
                    · have := d3 u a u1 u2 (Or.inl h) u4; omega
                    · have hum : u = m := by omega
                      subst hum
                      have := (hks a (kb a u4)).mpr u4
                      omega
                · rw [pu_nk (by omega)]
                  obtain ⟨f1, f2, f3'⟩ := c5 x x1 x2
                  refine ⟨f1, fun hlt => ?_, fun u a u1 u2 u3 u4 => f3' u a u1 u2 (by omega) u4⟩
                  obtain ⟨u, a, u1, u2, u3, u4, u5⟩ := f2 hlt
                  exact ⟨u, a, u1, u2, by omega, u4, u5⟩
        unfold w_X12_costBy_63
        refine pj_lp_inv (fun y : Int × pj_M => ∃ m : Nat, y.1 = (m : Int) ∧ i ≤ m ∧ m ≤ j + 1 ∧ eqs M y.2 ∧ y.2 220 = M2 220 ∧ ∀ x : Nat, i ≤ x → x < m → y.2 221 (x : Int) = 1000000) (fun y => ((j : Int) + 1 - y.1).toNat) ?_ ((i : Int), M2) ⟨i, rfl, Nat.le_refl _, by omega, e2, rfl, fun x x1 x2 => by omega⟩
        rintro ⟨_, M3⟩ ⟨m, h1, hm1, hm2, e3, g3, c3⟩ P3 hP3
        dsimp only at h1 e3 g3 c3 hP3 ⊢
        subst h1
        unfold w_X12_costBy_63b
        rw [rm_27]
        refine ⟨⟨by omega, by omega⟩, ⟨by omega, by omega⟩, fun hend => more M3 e3 g3 (fun x x1 x2 => c3 x x1 (by omega)), fun hgo3 => ⟨⟨by omega, by omega⟩, ?_⟩⟩
        rintro M33 rfl
        refine hP3 ((m : Int) + 1, _) ⟨m + 1, by show (m : Int) + 1 = _; omega, by omega, by omega, e3.tr (eqs.up (Or.inr rfl)), ?_, fun x x1 x2 => ?_⟩ (by show ((j : Int) + 1 - ((m : Int) + 1)).toNat < ((j : Int) + 1 - (m : Int)).toNat; omega)
        · show pj_up M3 221 (m : Int) 1000000 220 = _
          rw [pu_row (by decide)]; exact g3
        · show pj_up M3 221 (m : Int) 1000000 221 (x : Int) = _
          by_cases e : x = m
          · rw [e, pu_eq]
          · rw [pu_nk (by omega)]; exact c3 x x1 (by omega)
    unfold w_X12_costBy_15
    refine pj_lp_inv (fun y : Int × pj_M => ∃ m : Nat, y.1 = (m : Int) ∧ i ≤ m ∧ m ≤ j + 1 ∧ eqs M y.2 ∧ ∀ x : Nat, i ≤ x → x < m → y.2 220 (x : Int) = if x = i then 0 else 1000000) (fun y => ((j : Int) + 1 - y.1).toNat) ?_ ((i : Int), M) ⟨i, rfl, Nat.le_refl _, by omega, eqs.rf, fun x x1 x2 => by omega⟩
    rintro ⟨_, M3⟩ ⟨m, h1, hm1, hm2, e3, c3⟩ P3 hP3
    dsimp only at h1 e3 c3 hP3 ⊢
    subst h1
    have put : ∀ v : Int, v = (if m = i then 0 else 1000000) → m ≤ j → w_X12_costBy_40 203 k (i : Int) (j : Int) (m : Int) 220 (m : Int) v (fun x4 M => P3 (x4, M)) Q M3 := by
      intro v hv hmj
      unfold w_X12_costBy_40
      refine ⟨⟨by omega, by omega⟩, ?_⟩
      rintro M37 rfl
      refine hP3 ((m : Int) + 1, _) ⟨m + 1, by show (m : Int) + 1 = _; omega, by omega, by omega, e3.tr (eqs.up (Or.inl rfl)), fun x x1 x2 => ?_⟩ (by show ((j : Int) + 1 - ((m : Int) + 1)).toNat < ((j : Int) + 1 - (m : Int)).toNat; omega)
      show pj_up M3 220 (m : Int) v 220 (x : Int) = _
      by_cases e : x = m
      · rw [e, pu_eq]; exact hv
      · rw [pu_nk (by omega)]; exact c3 x x1 (by omega)
    unfold w_X12_costBy_15b
    rw [rm_26]
    refine ⟨⟨by omega, by omega⟩, ⟨by omega, by omega⟩, fun hend => loop M3 e3 (fun x x1 x2 => ?_), fun hgo3 => ⟨⟨by omega, by omega⟩, ⟨by omega, by omega⟩, fun hne => put _ (by rw [if_neg (by omega)]) (by omega), fun heq => put _ (by rw [if_pos (by omega)]) (by omega)⟩⟩
    rw [c3 x x1 (by omega)]
    by_cases e : x = i
    · rw [if_pos e]
      exact ⟨⟨by decide, by decide⟩, fun _ => ⟨e.symm, rfl⟩, fun a ha => by omega⟩
    · rw [if_neg e]
      exact ⟨⟨by decide, by decide⟩, fun h => absurd h (Int.lt_irrefl _), fun a ha => absurd ha.1.symm e⟩
  · have hnil : mss M k = [] := by show sg _ 0 (mt_sz M 204 k) = []; rw [h0]; exact sg_nil _ _
    refine q _ M eqs.rf ⟨by omega, by omega⟩ (fun _ => Or.inl ⟨hnil, hij, by omega⟩) (fun a ha => ?_)
    rcases ha with ⟨_, _, h⟩ | ⟨h, _⟩
    · omega
    · exact absurd hnil h
