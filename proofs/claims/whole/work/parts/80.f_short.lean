/-- a grammar with its facts behind it -/
def isF (b : Nat) : Prop := b = 4 ∨ b = 116 ∨ b = 136 ∨ b = 156
theorem gf_0 {b : Nat} (h : isF b) : pj_rf b 0 = b + 1 := by rcases h with rfl | rfl | rfl | rfl <;> decide
theorem gf_1 {b : Nat} (h : isF b) : pj_rf b 1 = b + 2 := by rcases h with rfl | rfl | rfl | rfl <;> decide
theorem gf_2 {b : Nat} (h : isF b) : pj_rf b 2 = b + 3 := by rcases h with rfl | rfl | rfl | rfl <;> decide
theorem ff_0 {b : Nat} (h : isF b) : pj_rf (b + 4) 0 = b + 5 := by rcases h with rfl | rfl | rfl | rfl <;> decide
theorem ff_1 {b : Nat} (h : isF b) : pj_rf (b + 4) 1 = b + 6 := by rcases h with rfl | rfl | rfl | rfl <;> decide
theorem ff_2 {b : Nat} (h : isF b) : pj_rf (b + 4) 2 = b + 7 := by rcases h with rfl | rfl | rfl | rfl <;> decide
theorem ff_3 {b : Nat} (h : isF b) : pj_rf (b + 4) 3 = b + 8 := by rcases h with rfl | rfl | rfl | rfl <;> decide
theorem ff_s1 {b : Nat} (h : isF b) : (pj_sh (b + 6)).2 = 6 := by rcases h with rfl | rfl | rfl | rfl <;> decide
theorem ff_s2 {b : Nat} (h : isF b) : (pj_sh (b + 7)).2 = 6 := by rcases h with rfl | rfl | rfl | rfl <;> decide
theorem ff_s3 {b : Nat} (h : isF b) : (pj_sh (b + 8)).2 = 6 := by rcases h with rfl | rfl | rfl | rfl <;> decide
/-- the grammar that lies in a Grammar -/
def gof (M : pj_M) (b : Nat) : gr_G := ((M b 3).toNat, fun k => (M (b + 1) (k : Int)).toNat, fun k => sg (fun s => M (b + 3) ((k : Int) * 4 + s)) 0 (M (b + 2) (k : Int)))
def gvl (M : pj_M) (b : Nat) : Prop := (1 ≤ M b 3 ∧ M b 3 ≤ 12) ∧ (∀ k, 0 ≤ M (b + 1) k ∧ M (b + 1) k ≤ 5) ∧ (∀ k, 0 ≤ M (b + 2) k ∧ M (b + 2) k ≤ 4) ∧ (∀ x, 0 ≤ M (b + 3) x ∧ M (b + 3) x ≤ 13) ∧ M b 4 = M (b + 1) 0
theorem gof_o {M : pj_M} {b : Nat} (v : gvl M b) (k : Nat) : (gof M b).2.1 k < 6 := by
  show (M (b + 1) (k : Int)).toNat < 6
  have := v.2.1 (k : Int); omega
theorem gof_4 {M : pj_M} {b : Nat} (v : gvl M b) (k : Nat) : ((gof M b).2.2 k).length ≤ 4 := by
  show (sg (fun s => M (b + 3) ((k : Int) * 4 + s)) 0 (M (b + 2) (k : Int))).length ≤ 4
  rw [sg_len]
  have := v.2.2.1 (k : Int); omega
/-- only facts have changed -/
def eqf (b : Nat) (M M' : pj_M) : Prop := ∀ a x, ¬ (b + 4 ≤ a ∧ a ≤ b + 8) → M' a x = M a x
theorem eqf.rf {b : Nat} {M : pj_M} : eqf b M M := fun _ _ _ => rfl
theorem eqf.tr {b : Nat} {M M1 M2 : pj_M} (h : eqf b M M1) (h2 : eqf b M1 M2) : eqf b M M2 := fun a x h3 => (h2 a x h3).trans (h a x h3)
theorem eqf.up {b a : Nat} {M : pj_M} {k v : Int} (h : b + 4 ≤ a ∧ a ≤ b + 8) : eqf b M (pj_up M a k v) := fun c x h1 => pu_ne (by omega)
theorem eqf.row {b a : Nat} {M M' : pj_M} (h : eqf b M M') (h1 : ¬ (b + 4 ≤ a ∧ a ≤ b + 8)) : M' a = M a := funext fun x => h a x h1
theorem gof.eqf {b : Nat} {M M' : pj_M} (e : eqf b M M') : gof M' b = gof M b := by
  unfold gof
  rw [e.row (show ¬ (b + 4 ≤ b ∧ _) by omega), e.row (show ¬ (b + 4 ≤ b + 1 ∧ _) by omega), e.row (show ¬ (b + 4 ≤ b + 2 ∧ _) by omega), e.row (show ¬ (b + 4 ≤ b + 3 ∧ _) by omega)]
theorem gvl.eqf {b : Nat} {M M' : pj_M} (v : gvl M b) (e : eqf b M M') : gvl M' b := by
  unfold gvl at *
  rw [e.row (show ¬ (b + 4 ≤ b ∧ _) by omega), e.row (show ¬ (b + 4 ≤ b + 1 ∧ _) by omega), e.row (show ¬ (b + 4 ≤ b + 2 ∧ _) by omega), e.row (show ¬ (b + 4 ≤ b + 3 ∧ _) by omega)]
  exact v
/-- how long an alternative is, of its first n symbols -/
def fl (M : pj_M) (b : Nat) (k : Int) : Nat → Int
  | 0 => 0
  | n + 1 => fl M b k n + (if M (b + 3) (k * 4 + (n : Int)) < 8 then 1 else M (b + 5) (M (b + 3) (k * 4 + (n : Int)) - 8))
/-- lengths are sane -/
def fvs (M : pj_M) (b : Nat) : Prop := ∀ x, 0 ≤ x → x < 6 → 0 ≤ M (b + 5) x ∧ M (b + 5) x ≤ 1048576
theorem fl_b {M : pj_M} {b : Nat} {k : Int} (v : gvl M b) (h : fvs M b) : ∀ n : Nat, 0 ≤ fl M b k n ∧ fl M b k n ≤ 1048576 * (n : Int)
  | 0 => ⟨Int.le_refl _, by show (0 : Int) ≤ 1048576 * 0; decide⟩
  | n + 1 => by
    obtain ⟨h1, h2⟩ := fl_b (k := k) v h n
    have h3 := v.2.2.2.1 (k * 4 + (n : Int))
    unfold fl
    split
    · omega
    · have := h (M (b + 3) (k * 4 + (n : Int)) - 8) (by omega) (by omega)
      omega
theorem t_lengthOf {M : pj_M} {b : Nat} {k : Int} {Q : Int → pj_M → Prop} (hb : isF b) (v : gvl M b) (hv : fvs M b) (hk : 0 ≤ k ∧ k < 12) (q : ∀ r, r = min (fl M b k (M (b + 2) k).toNat) 1048576 → Q r M) : w_X3_lengthOf (b + 4) b k M Q := by
  have hz := v.2.2.1 k
  unfold w_X3_lengthOf w_X3_lengthOf_5
  refine pj_lp_inv (fun y : Int × Int × pj_M => ∃ n : Nat, y.2.1 = (n : Int) ∧ (n : Int) ≤ M (b + 2) k ∧ y.1 = fl M b k n ∧ y.2.2 = M) (fun y => (M (b + 2) k - y.2.1).toNat) ?_ (0, 0, M) ⟨0, rfl, by show (0 : Int) ≤ _; omega, rfl, rfl⟩
  rintro ⟨x3, x4, M1⟩ ⟨n, e1, hn, e2, e3⟩ P hP
  dsimp only at e1 e2 e3 hP ⊢
  subst e1; subst e2; subst e3
  have hfl := fl_b (k := k) v hv n
  unfold w_X3_lengthOf_5b
  rw [gf_1 hb, gf_2 hb, ff_0 hb]
  refine ⟨hk, ⟨by omega, by omega⟩, ⟨by omega, by omega⟩, fun h => ?_, fun h => ⟨⟨by omega, by omega⟩, ?_⟩⟩
  · have hnz : (M1 (b + 2) k).toNat = n := by omega
    refine t_min ⟨by omega, by omega⟩ ⟨by decide, by decide⟩ (fun r h1 h2 h3 => q r ?_)
    rw [hnz]; omega
  · rintro z7 rfl
    have hs := v.2.2.2.1 (k * 4 + (n : Int))
    have next : ∀ y1 : Int, y1 = (if M1 (b + 3) (k * 4 + (n : Int)) < 8 then 1 else M1 (b + 5) (M1 (b + 3) (k * 4 + (n : Int)) - 8)) → w_X3_lengthOf_51 (b + 4) b k (n : Int) (fl M1 b k n) y1 (fun x1 x2 M => P (x1, x2, M)) Q M1 := by
      intro y1 hy
      unfold w_X3_lengthOf_51
      refine hP (fl M1 b k n + y1, (n : Int) + 1, M1) ⟨n + 1, by show (n : Int) + 1 = _; omega, by omega, ?_, rfl⟩ (by show (M1 (b + 2) k - ((n : Int) + 1)).toNat < (M1 (b + 2) k - (n : Int)).toNat; omega)
      show fl M1 b k n + y1 = fl M1 b k (n + 1)
      rw [hy]; rfl
    refine ⟨⟨by omega, by omega⟩, fun h8 => ⟨⟨by omega, by omega⟩, next _ (by rw [if_neg (by omega)])⟩, fun h8 => next _ (by rw [if_pos (by omega)])⟩
theorem kq1_app {W : Nat → Nat} {P : kP} : ∀ {a b : List Nat} {p q n : Nat}, p ≤ q → (kq1 W P (a ++ b) p q n ↔ ∃ m x y, p ≤ m ∧ m ≤ q ∧ n = x + y ∧ kq1 W P a p m x ∧ kq1 W P b m q y)
  | [], b, p, q, n, hpq => by
    constructor
    · intro h; exact ⟨p, 0, n, Nat.le_refl _, hpq, by omega, ⟨rfl, rfl⟩, h⟩
    · rintro ⟨m, x, y, h1, h2, h3, ⟨rfl, rfl⟩, h5⟩
      rw [show n = y by omega]; exact h5
  | s :: a, b, p, q, n, hpq => by
    constructor
    · rintro ⟨m, x, y, h1, h2, h3, h4, h5⟩
      obtain ⟨m2, x2, y2, g1, g2, g3, g4, g5⟩ := (kq1_app h2).mp h5
      exact ⟨m2, x + x2, y2, by omega, g2, by omega, ⟨m, x, x2, h1, g1, rfl, h4, g4⟩, g5⟩
    · rintro ⟨m2, x2, y2, g1, g2, g3, ⟨m, x, y, h1, h2, h3, h4, h5⟩, g5⟩
      exact ⟨m, x, y + y2, h1, by omega, by omega, h4, (kq1_app (by omega)).mpr ⟨m2, y, y2, h2, g2, rfl, h5, g5⟩⟩
theorem sg_snoc {w : Int → Int} {i : Int} {n : Nat} : sg w i (i + ((n + 1 : Nat) : Int)) = sg w i (i + (n : Int)) ++ [(w (i + (n : Int))).toNat] := by
  rw [← sg_app (w := w) (i := i) (m := i + (n : Int)) (j := i + ((n + 1 : Nat) : Int)) (by omega) (by omega), show i + ((n + 1 : Nat) : Int) = i + (n : Int) + 1 by omega, sg_one]
abbrev kz : Nat → Nat := fun _ => 0
abbrev gs_ (M : pj_M) (b : Nat) (k : Int) : Int → Int := fun s => M (b + 3) (k * 4 + s)
theorem fl_s {M : pj_M} {b : Nat} {k : Int} {P : kP} (v : gvl M b) (hv : fvs M b) (h : ∀ x : Nat, x < 6 → M (b + 5) (x : Int) < 1048576 → P x 0 0 (M (b + 5) (x : Int)).toNat) : ∀ n : Nat, fl M b k n < 1048576 → kq1 kz P (sg (gs_ M b k) 0 (n : Int)) 0 0 (fl M b k n).toNat
  | 0, _ => by rw [show ((0 : Nat) : Int) = 0 from rfl, sg_nil]; exact ⟨rfl, rfl⟩
  | n + 1, hn => by
    have h3 := v.2.2.2.1 (k * 4 + (n : Int))
    have hb := fl_b (k := k) v hv n
    have e : sg (gs_ M b k) 0 ((n + 1 : Nat) : Int) = sg (gs_ M b k) 0 (n : Int) ++ [(M (b + 3) (k * 4 + (n : Int))).toNat] := by
      have := sg_snoc (w := gs_ M b k) (i := 0) (n := n)
      rw [Int.zero_add, Int.zero_add] at this; exact this
    rw [e]
    unfold fl at hn ⊢
    by_cases h8 : M (b + 3) (k * 4 + (n : Int)) < 8
    · rw [if_pos h8] at hn ⊢
      exact (kq1_app (Nat.le_refl _)).mpr ⟨0, (fl M b k n).toNat, 1, Nat.le_refl _, Nat.le_refl _, by omega, fl_s v hv h n (by omega), 0, 1, 0, Nat.le_refl _, Nat.le_refl _, rfl, Or.inl ⟨by omega, Nat.le_refl _, Or.inl ⟨rfl, rfl⟩⟩, rfl, rfl⟩
    · rw [if_neg h8] at hn ⊢
      have hx := hv (M (b + 3) (k * 4 + (n : Int)) - 8) (by omega) (by omega)
      have hP := h (M (b + 3) (k * 4 + (n : Int)) - 8).toNat (by omega) (by rw [show (((M (b + 3) (k * 4 + (n : Int)) - 8).toNat : Nat) : Int) = M (b + 3) (k * 4 + (n : Int)) - 8 by omega]; omega)
      rw [show (((M (b + 3) (k * 4 + (n : Int)) - 8).toNat : Nat) : Int) = M (b + 3) (k * 4 + (n : Int)) - 8 by omega] at hP
      exact (kq1_app (Nat.le_refl _)).mpr ⟨0, (fl M b k n).toNat, (M (b + 5) (M (b + 3) (k * 4 + (n : Int)) - 8)).toNat, Nat.le_refl _, Nat.le_refl _, by omega, fl_s v hv h n (by omega), 0, _, 0, Nat.le_refl _, Nat.le_refl _, rfl, Or.inr ⟨by omega, by rw [show (M (b + 3) (k * 4 + (n : Int))).toNat - 8 = (M (b + 3) (k * 4 + (n : Int)) - 8).toNat by omega]; exact hP⟩, rfl, rfl⟩
theorem fl_c {M : pj_M} {b : Nat} {k : Int} {P : kP} (v : gvl M b) (h : ∀ x a : Nat, x < 6 → P x 0 0 a → M (b + 5) (x : Int) ≤ (a : Int)) : ∀ (n a : Nat), kq1 kz P (sg (gs_ M b k) 0 (n : Int)) 0 0 a → fl M b k n ≤ (a : Int)
  | 0, a, _ => by show (0 : Int) ≤ _; omega
  | n + 1, a, hq => by
    have h3 := v.2.2.2.1 (k * 4 + (n : Int))
    have e : sg (gs_ M b k) 0 ((n + 1 : Nat) : Int) = sg (gs_ M b k) 0 (n : Int) ++ [(M (b + 3) (k * 4 + (n : Int))).toNat] := by
      have := sg_snoc (w := gs_ M b k) (i := 0) (n := n)
      rw [Int.zero_add, Int.zero_add] at this; exact this
    rw [e] at hq
    obtain ⟨m, x, y, h1, h2, h4, h5, m2, a2, b2, g1, g2, g3, g4, g5⟩ := (kq1_app (Nat.le_refl _)).mp hq
    have hm : m = 0 := by omega
    subst hm
    have hm2 : m2 = 0 := by omega
    subst hm2
    have ih := fl_c v h n x h5
    have hb2 : b2 = 0 := g5.2
    unfold fl
    rcases g4 with ⟨g4, g6⟩ | ⟨g4, g6⟩
    · rw [if_pos (by omega)]
      rcases g6.2 with g7 | g7 | g7 <;> omega
    · rw [if_neg (by omega)]
      have := h _ _ (by omega) g6
      rw [show (((M (b + 3) (k * 4 + (n : Int))).toNat - 8 : Nat) : Int) = M (b + 3) (k * 4 + (n : Int)) - 8 by omega] at this
      omega
theorem kq_0 {P : kP} {ss : List Nat} {n : Nat} : kq kz P ss 0 0 n ↔ kq1 kz P ss 0 0 n := by
  unfold kq
  constructor
  · rintro (⟨rfl, _, h⟩ | ⟨_, h⟩)
    · exact ⟨rfl, h⟩
    · exact h
  · intro h
    by_cases e : ss = []
    · subst e; exact Or.inl ⟨rfl, Nat.le_refl _, h.2⟩
    · exact Or.inr ⟨e, h⟩
theorem fl_mono {M M' : pj_M} {b : Nat} {k : Int} (v : gvl M b) (h3 : M' (b + 3) = M (b + 3)) (h : ∀ x, 0 ≤ x → x < 6 → M' (b + 5) x ≤ M (b + 5) x) : ∀ n, fl M' b k n ≤ fl M b k n
  | 0 => Int.le_refl _
  | n + 1 => by
    have ih := fl_mono (k := k) v h3 h n
    have h4 := v.2.2.2.1 (k * 4 + (n : Int))
    unfold fl
    rw [h3]
    split
    · omega
    · have := h (M (b + 3) (k * 4 + (n : Int)) - 8) (by omega) (by omega)
      omega
/-- the lengths are right -/
def fsh (M : pj_M) (b : Nat) : Prop := ∀ x : Nat, x < 6 → (∃ n : Nat, M (b + 5) (x : Int) = (n : Int) ∧ n ≤ 16384 ∧ kl (gof M b) kz x 0 0 n) ∨ (M (b + 5) (x : Int) = 1048576 ∧ ¬ gr_gd (gof M b) 8 x)
theorem fsh.vs {M : pj_M} {b : Nat} (h : fsh M b) : fvs M b := by
  intro x h1 h2
  obtain ⟨n, rfl⟩ : ∃ n : Nat, x = (n : Int) := ⟨_, (Int.toNat_of_nonneg h1).symm⟩
  rcases h n (by omega) with ⟨m, g1, g2, _⟩ | ⟨g1, _⟩ <;> omega
theorem fsh.gd {M : pj_M} {b : Nat} (h : fsh M b) {x : Nat} (hx : x < 6) : M (b + 5) (x : Int) < 1048576 ↔ gr_gd (gof M b) 8 x := by
  rcases h x hx with ⟨m, g1, g2, ⟨⟨d, g3⟩, _⟩⟩ | ⟨g1, g2⟩
  · exact ⟨fun _ => kw_gd g3, fun _ => by omega⟩
  · exact ⟨fun h => by omega, fun h => absurd h g2⟩
theorem t_findShortest {M : pj_M} {b : Nat} {Q : pj_M → Prop} (hb : isF b) (v : gvl M b) (q : ∀ M', eqf b M M' → (∀ a, a ≠ b + 5 → M' a = M a) → fsh M' b → Q M') : w_X3_findShortest (b + 4) b M Q := by
  -- what lasts
  let St : pj_M → Prop := fun M1 => (∀ a, a ≠ b + 5 → M1 a = M a) ∧ ∀ x : Nat, x < 6 → (0 ≤ M1 (b + 5) (x : Int) ∧ M1 (b + 5) (x : Int) ≤ 1048576) ∧ (M1 (b + 5) (x : Int) < 1048576 → kw (gof M b) kz x 0 0 (M1 (b + 5) (x : Int)).toNat)
  have stf : ∀ M1, St M1 → eqf b M M1 := fun M1 h a x ha => by rw [h.1 a (by omega)]
  have stv : ∀ M1, St M1 → fvs M1 b := fun M1 h x h1 h2 => by
    obtain ⟨n, rfl⟩ : ∃ n : Nat, x = (n : Int) := ⟨_, (Int.toNat_of_nonneg h1).symm⟩
    exact (h.2 n (by omega)).1
  have ho : ∀ k, k < (gof M b).1 → (gof M b).2.1 k < 6 := fun k _ => gof_o v k
  have h4 : ∀ k, k < (gof M b).1 → ((gof M b).2.2 k).length ≤ 4 := fun k _ => gof_4 v k
  unfold w_X3_findShortest w_X3_findShortest_2
  refine pj_lp_inv (fun y : Int × pj_M => ∃ n : Nat, y.1 = (n : Int) ∧ n ≤ 6 ∧ (∀ a, a ≠ b + 5 → y.2 a = M a) ∧ ∀ x : Nat, x < n → y.2 (b + 5) (x : Int) = 1048576) (fun y => (6 - y.1).toNat) ?_ (0, M) ⟨0, rfl, by decide, fun _ _ => rfl, fun x h => absurd h (Nat.not_lt_zero _)⟩
  rintro ⟨x1, M0⟩ ⟨n0, e1, a1, a2, a3⟩ P0 hP0
  dsimp only at e1 a2 a3 hP0 ⊢
  subst e1
  unfold w_X3_findShortest_2b
  rw [ff_0 hb]
  refine ⟨⟨by omega, by omega⟩, fun hc0 => ?_, fun hc0 => ⟨⟨by omega, by omega⟩, ?_⟩⟩
  rotate_left
  · rintro M1 rfl
    refine hP0 ((n0 : Int) + 1, _) ⟨n0 + 1, by show (n0 : Int) + 1 = _; omega, by omega, fun a h => ?_, fun x h => ?_⟩ (by show (6 - ((n0 : Int) + 1)).toNat < (6 - (n0 : Int)).toNat; omega)
    · show pj_up M0 (b + 5) _ _ a = _
      rw [← a2 a h]; exact funext fun x => pu_ne h
    · show pj_up M0 (b + 5) (n0 : Int) 1048576 (b + 5) (x : Int) = _
      by_cases e : x = n0
      · subst e; exact pu_eq
      · rw [pu_nk (by omega)]; exact a3 x (by omega)
  clear hP0 P0
  have hn6 : n0 = 6 := by omega
  subst hn6
  have st0 : St M0 := ⟨a2, fun x hx => ⟨by rw [a3 x hx]; exact ⟨by decide, by decide⟩, fun h => by rw [a3 x hx] at h; exact absurd h (by decide)⟩⟩
  have fin : ∀ M1, St M1 → (∀ k : Nat, (k : Int) < M b 3 → M1 (b + 5) (M (b + 1) (k : Int)) ≤ fl M1 b (k : Int) (M (b + 2) (k : Int)).toNat) → Q M1 := by
    intro M1 hS hcl
    have e1 := stf M1 hS
    have v1 := v.eqf e1
    have com : ∀ (d x n : Nat), kwd (gof M b) kz d x 0 0 n → M1 (b + 5) (x : Int) ≤ (n : Int) := by
      intro d
      induction d with
      | zero => exact fun _ _ h => h.elim
      | succ d ih =>
        rintro x n ⟨k, k1, k2, k3⟩
        have hk : (k : Int) < M b 3 := by have : k < (M b 3).toNat := k1; omega
        have hz := v.2.2.1 (k : Int)
        have hown := v.2.1 (k : Int)
        have h5 := hcl k hk
        have hx : M (b + 1) (k : Int) = (x : Int) := by have : (M (b + 1) (k : Int)).toNat = x := k2; omega
        rw [hx] at h5
        refine Int.le_trans h5 (fl_c v1 (fun x a _ h => ih x a h) _ n ?_)
        rw [show (((M (b + 2) (k : Int)).toNat : Nat) : Int) = M (b + 2) (k : Int) by omega]
        unfold gs_
        rw [hS.1 (b + 3) (by omega)]
        exact kq_0.mp k3
    refine q M1 e1 hS.1 (fun x hx => ?_)
    rw [gof.eqf e1]
    have h5 := hS.2 x hx
    by_cases hgd : gr_gd (gof M b) 8 x
    · obtain ⟨n, hn, hn2⟩ := kl_ex (W := kz) ho h4 (Nat.le_refl 0) hgd
      obtain ⟨d, hd⟩ := hn.1
      have h6 := com d x n hd
      have h7 := h5.2 (by omega)
      refine Or.inl ⟨_, (Int.toNat_of_nonneg h5.1.1).symm, by omega, h7, fun m ⟨d', hm⟩ => ?_⟩
      have := com d' x m hm
      omega
    · refine Or.inr ⟨?_, hgd⟩
      by_cases h6 : M1 (b + 5) (x : Int) < 1048576
      · obtain ⟨d, hd⟩ := h5.2 h6
        exact absurd (kw_gd hd) hgd
      · omega
  unfold w_X3_findShortest_26
  refine pj_lp_inv (fun y : Int × Int × pj_M => ∃ r g : Nat, y.2.1 = (r : Int) ∧ St y.2.2 ∧ (∀ x, x < 6 → g.testBit x = true → ∀ n, kw (gof M b) kz x 0 0 n → y.2.2 (b + 5) (x : Int) ≤ (n : Int)) ∧ ((y.1 = 1 ∧ r ≤ bcn g 6) ∨ (y.1 = 0 ∧ r ≤ 7 ∧ ∀ k : Nat, (k : Int) < M b 3 → y.2.2 (b + 5) (M (b + 1) (k : Int)) ≤ fl y.2.2 b (k : Int) (M (b + 2) (k : Int)).toNat))) (fun y => (1000 - y.2.1).toNat) ?_ (1, 0, M0) ⟨0, 0, rfl, st0, fun x _ h => by simp at h, Or.inl ⟨rfl, Nat.zero_le _⟩⟩
  rintro ⟨x1, x2, M1⟩ ⟨r, g, e2, hS, hg, hor⟩ P1 hP1
  dsimp only at e2 hS hg hor hP1 ⊢
  subst e2
  have hb6 := bcn_le g 6
  unfold w_X3_findShortest_26b
  refine ⟨⟨by omega, by omega⟩, fun h => by omega, fun _ => ⟨by rcases hor with ⟨h, _⟩ | ⟨h, _⟩ <;> rw [h] <;> exact ⟨by decide, by decide⟩, fun h0 => ?_, fun h0 => ?_⟩⟩
  · rcases hor with ⟨h, _⟩ | ⟨_, _, h⟩
    · omega
    · exact fin M1 hS h
  have hr : r ≤ bcn g 6 := by rcases hor with ⟨_, h⟩ | ⟨h, _⟩
                              · exact h
                              · exact absurd h h0
  have eM1 := stf M1 hS
  have v1 := v.eqf eM1
  have gM1 : gof M1 b = gof M b := gof.eqf eM1
  unfold w_X3_findShortest_42
  refine pj_lp_inv (fun y : Int × Int × pj_M => ∃ k : Nat, y.2.1 = (k : Int) ∧ (k : Int) ≤ M b 3 ∧ St y.2.2 ∧ (∀ x, 0 ≤ x → x < 6 → y.2.2 (b + 5) x ≤ M1 (b + 5) x) ∧ (∀ k' : Nat, k' < k → y.2.2 (b + 5) (M (b + 1) (k' : Int)) ≤ fl M1 b (k' : Int) (M (b + 2) (k' : Int)).toNat) ∧ ((y.1 = 0 ∧ y.2.2 = M1) ∨ (y.1 = 1 ∧ ∃ x : Nat, x < 6 ∧ y.2.2 (b + 5) (x : Int) < M1 (b + 5) (x : Int)))) (fun y => (M b 3 - y.2.1).toNat) ?_ (0, 0, M1) ⟨0, rfl, by show (0 : Int) ≤ _; have := v.1; omega, hS, fun _ _ _ => Int.le_refl _, fun k' h => absurd h (Nat.not_lt_zero _), Or.inl ⟨rfl, rfl⟩⟩
  rintro ⟨x1', x4, M2⟩ ⟨k, e3, d0, dS, d1, d2, d3⟩ P2 hP2
  dsimp only at e3 d0 dS d1 d2 d3 hP2 ⊢
  subst e3
  have eM2 := stf M2 dS
  have v2 := v.eqf eM2
  have vs2 := stv M2 dS
  have hn12 := v.1
  unfold w_X3_findShortest_42b
  rw [dS.1 b (by omega)]
  refine ⟨⟨by omega, by omega⟩, ⟨by omega, by omega⟩, fun hend => ?_, fun hend => ?_⟩
  · -- the round is over
    have hk : (k : Int) = M b 3 := by omega
    rcases d3 with ⟨f1, f2⟩ | ⟨f1, x, f2, f3⟩
    · refine hP1 (x1', (r : Int) + 1, M2) ⟨r + 1, g, by show (r : Int) + 1 = _; omega, dS, fun x hx hb n hn => ?_, Or.inr ⟨f1, by omega, fun k' hk' => ?_⟩⟩ (by show (1000 - ((r : Int) + 1)).toNat < (1000 - (r : Int)).toNat; omega)
      · show M2 (b + 5) (x : Int) ≤ _
        rw [f2]; exact hg x hx hb n hn
      · show M2 (b + 5) _ ≤ fl M2 b _ _
        have := d2 k' (by omega)
        rw [f2] at this ⊢; exact this
    · have hx5 := dS.2 x f2
      have hx1 := hS.2 x f2
      have hkx := hx5.2 (by omega)
      obtain ⟨dd, hdd⟩ := hkx
      have hgd := kw_gd hdd
      obtain ⟨n, hn, _⟩ := kl_ex (W := kz) ho h4 (Nat.le_refl 0) hgd
      obtain ⟨d', hd'⟩ := hn.1
      have grow := k_grow (G := gof M b) (W := kz) (F := fun x p q => p = 0 ∧ q = 0 ∧ ∀ n, kw (gof M b) kz x 0 0 n → M1 (b + 5) (x : Int) ≤ (n : Int)) (D := fun p q => p = 0 ∧ q = 0) (fun x p q h => by omega) (fun p q h => by omega) (fun p q p' q' h1 h2 h3 h4 => by omega) d' x 0 0 n ⟨rfl, rfl⟩ hd' hn.2
      rcases grow with ⟨_, _, h⟩ | ⟨x0, p0, q0, k0, m0, ⟨rfl, rfl⟩, g1, g2, g3, g4, g5⟩
      · have h5 := h _ ⟨dd, hdd⟩
        omega
      · have hk0 : (k0 : Int) < M b 3 := by have : k0 < (M b 3).toNat := g3; omega
        have hz := v.2.2.1 (k0 : Int)
        have hown := v.2.1 (k0 : Int)
        have hx0 : M (b + 1) (k0 : Int) = (x0 : Int) := by have : (M (b + 1) (k0 : Int)).toNat = x0 := g4; omega
        have h5 := d2 k0 (by omega)
        rw [hx0] at h5
        have h6 : fl M1 b (k0 : Int) (M (b + 2) (k0 : Int)).toNat ≤ (m0 : Int) := by
          refine fl_c (P := fun x p q a => kl (gof M b) kz x p q a ∧ (p = 0 ∧ q = 0 ∧ ∀ n, kw (gof M b) kz x 0 0 n → M1 (b + 5) (x : Int) ≤ (n : Int))) v1 (fun x a _ h => h.2.2.2 a h.1.1) _ m0 ?_
          rw [show (((M (b + 2) (k0 : Int)).toNat : Nat) : Int) = M (b + 2) (k0 : Int) by omega]
          unfold gs_
          rw [hS.1 (b + 3) (by omega)]
          exact kq_0.mp g5
        have hgx : g.testBit x0 = false := by
          by_cases hb : g.testBit x0 = true
          · exact absurd ⟨rfl, rfl, hg x0 (by omega) hb⟩ g1
          · simpa using hb
        have hlt := bcn_lt (v := g) (w := g ||| 2 ^ x0) (p := x0) (fun i h => by rw [Nat.testBit_or, h]; rfl) hgx (by rw [pb_set]; simp) 6 (by omega)
        refine hP1 (x1', (r : Int) + 1, M2) ⟨r + 1, g ||| 2 ^ x0, by show (r : Int) + 1 = _; omega, dS, fun y hy hb n hn => ?_, Or.inl ⟨f1, by omega⟩⟩ (by show (1000 - ((r : Int) + 1)).toNat < (1000 - (r : Int)).toNat; omega)
        show M2 (b + 5) (y : Int) ≤ _
        rw [pb_set, Bool.or_eq_true, decide_eq_true_iff] at hb
        rcases hb with hb | rfl
        · exact Int.le_trans (d1 (y : Int) (by omega) (by omega)) (hg y hy hb n hn)
        · have := g2.2 n hn
          omega
  · have ho2 := v.2.1 (k : Int)
    refine t_lengthOf hb v2 vs2 ⟨by omega, by omega⟩ (fun t ht => ?_)
    rw [gf_0 hb, ff_0 hb, dS.1 (b + 1) (by omega)]
    rw [dS.1 (b + 2) (by omega)] at ht
    have hfb := fl_b (k := (k : Int)) v2 vs2 (M (b + 2) (k : Int)).toNat
    obtain ⟨o, ho3⟩ : ∃ o : Nat, M (b + 1) (k : Int) = (o : Int) := ⟨_, (Int.toNat_of_nonneg ho2.1).symm⟩
    have hvo := (dS.2 o (by omega)).1
    rw [ho3]
    have hfm : fl M2 b (k : Int) (M (b + 2) (k : Int)).toNat ≤ fl M1 b (k : Int) (M (b + 2) (k : Int)).toNat := fl_mono v1 ((dS.1 (b + 3) (by omega)).trans (hS.1 (b + 3) (by omega)).symm) d1 _
    refine ⟨⟨by omega, by omega⟩, ⟨by omega, by omega⟩, ⟨by omega, by omega⟩, ⟨by omega, by omega⟩, fun hle => ?_, fun hle => ⟨⟨by omega, by omega⟩, ⟨by omega, by omega⟩, ?_⟩⟩
    · refine hP2 (x1', (k : Int) + 1, M2) ⟨k + 1, by show (k : Int) + 1 = _; omega, by omega, dS, d1, fun k' hk' => ?_, d3⟩ (by show (M b 3 - ((k : Int) + 1)).toNat < (M b 3 - (k : Int)).toNat; omega)
      by_cases e : k' = k
      · subst e
        show M2 (b + 5) _ ≤ _
        rw [ho3]; omega
      · exact d2 k' (by omega)
    · rintro M14 rfl
      have hz := v.2.2.1 (k : Int)
      have hto : M2 (b + 5) (o : Int) ≤ 1048576 := hvo.2
      have hkw : kw (gof M b) kz o 0 0 t.toNat := by
        refine kw_iff.mpr ⟨k, by show k < (M b 3).toNat; omega, by show (M (b + 1) (k : Int)).toNat = o; omega, kq_0.mpr ?_⟩
        have h7 := fl_s (P := kw (gof M b) kz) (k := (k : Int)) v2 vs2 (fun x hx h => (dS.2 x hx).2 h) (M (b + 2) (k : Int)).toNat (by omega)
        rw [show (((M (b + 2) (k : Int)).toNat : Nat) : Int) = M (b + 2) (k : Int) by omega] at h7
        unfold gs_ at h7
        rw [dS.1 (b + 3) (by omega)] at h7
        rw [show t.toNat = (fl M2 b (k : Int) (M (b + 2) (k : Int)).toNat).toNat by omega]
        exact h7
      have hd1 := d1 (o : Int) (by omega) (by omega)
      refine hP2 (1, (k : Int) + 1, _) ⟨k + 1, by show (k : Int) + 1 = _; omega, by omega, ⟨fun a ha => ?_, fun x hx => ?_⟩, fun x h1 h2 => ?_, fun k' hk' => ?_, Or.inr ⟨rfl, o, by omega, ?_⟩⟩ (by show (M b 3 - ((k : Int) + 1)).toNat < (M b 3 - (k : Int)).toNat; omega)
      · show pj_up M2 (b + 5) _ _ a = _
        rw [← dS.1 a ha]; exact funext fun x => pu_ne ha
      · show (0 ≤ pj_up M2 (b + 5) (o : Int) t (b + 5) (x : Int) ∧ pj_up M2 (b + 5) (o : Int) t (b + 5) (x : Int) ≤ _) ∧ (pj_up M2 (b + 5) (o : Int) t (b + 5) (x : Int) < _ → kw _ _ _ _ _ (pj_up M2 (b + 5) (o : Int) t (b + 5) (x : Int)).toNat)
        by_cases e : x = o
        · subst e; rw [pu_eq]; exact ⟨by omega, fun _ => hkw⟩
        · rw [pu_nk (by omega)]; exact dS.2 x hx
      · show pj_up M2 (b + 5) (o : Int) t (b + 5) x ≤ _
        by_cases e : x = (o : Int)
        · subst e; rw [pu_eq]; omega
        · rw [pu_nk e]; exact d1 x h1 h2
      · show pj_up M2 (b + 5) (o : Int) t (b + 5) _ ≤ _
        by_cases e : k' = k
        · subst e
          rw [ho3, pu_eq]; omega
        · have h8 := d2 k' (by omega)
          by_cases e2 : M (b + 1) (k' : Int) = (o : Int)
          · rw [e2] at h8 ⊢; rw [pu_eq]; omega
          · rw [pu_nk e2]; exact h8
      · show pj_up M2 (b + 5) (o : Int) t (b + 5) (o : Int) < _
        rw [pu_eq]; omega
