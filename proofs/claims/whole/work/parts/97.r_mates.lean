/-- the first of some with a sign, and the last -/
def kfn (pf : Int → Int) (s : Int) : Nat → Int → Int
  | 0, _ => -1
  | m + 1, k => if pf k = s then k else kfn pf s m (k + 1)
def lfn (P : Int → Int) (a : Int) : Nat → Int
  | 0 => -1
  | m + 1 => if P (m : Int) = a then (m : Int) else lfn P a m
def fup (f : Int → Int) (k v : Int) : Int → Int := fun x => if x = k then v else f x
theorem kfn_sp {pf : Int → Int} {s : Int} : ∀ (m : Nat) (k : Int), 0 ≤ k → (kfn pf s m k = -1 ∧ ∀ x, k ≤ x → x < k + (m : Int) → pf x ≠ s) ∨ (k ≤ kfn pf s m k ∧ kfn pf s m k < k + (m : Int) ∧ pf (kfn pf s m k) = s)
  | 0, k, _ => Or.inl ⟨rfl, fun x h1 h2 => by omega⟩
  | m + 1, k, hk => by
    unfold kfn
    by_cases h : pf k = s
    · rw [if_pos h]; exact Or.inr ⟨Int.le_refl _, by omega, h⟩
    · rw [if_neg h]
      rcases kfn_sp (pf := pf) (s := s) m (k + 1) (by omega) with ⟨h1, h2⟩ | ⟨h1, h2, h3⟩
      · refine Or.inl ⟨h1, fun x g1 g2 => ?_⟩
        by_cases e : x = k
        · rw [e]; exact h
        · exact h2 x (by omega) (by omega)
      · exact Or.inr ⟨by omega, by omega, h3⟩
theorem lfn_sp {P : Int → Int} {a : Int} : ∀ m : Nat, (lfn P a m = -1 ∧ ∀ x, 0 ≤ x → x < (m : Int) → P x ≠ a) ∨ (0 ≤ lfn P a m ∧ lfn P a m < (m : Int) ∧ P (lfn P a m) = a)
  | 0 => Or.inl ⟨rfl, fun x h1 h2 => by omega⟩
  | m + 1 => by
    unfold lfn
    by_cases h : P (m : Int) = a
    · rw [if_pos h]; exact Or.inr ⟨by omega, by omega, h⟩
    · rw [if_neg h]
      rcases lfn_sp (P := P) (a := a) m with ⟨h1, h2⟩ | ⟨h1, h2, h3⟩
      · refine Or.inl ⟨h1, fun x g1 g2 => ?_⟩
        by_cases e : x = (m : Int)
        · rw [e]; exact h
        · exact h2 x g1 (by omega)
      · exact Or.inr ⟨h1, by omega, h3⟩
theorem lfn_cut {P : Int → Int} {a : Int} {t : Nat} : ∀ m : Nat, t ≤ m → (∀ x, (t : Int) ≤ x → x < (m : Int) → P x ≠ a) → lfn P a m = lfn P a t
  | 0, h, _ => by rw [show t = 0 by omega]
  | m + 1, h, hn => by
    by_cases e : t = m + 1
    · rw [e]
    · unfold lfn
      rw [if_neg (hn (m : Int) (by omega) (by omega)), lfn_cut m (by omega) (fun x h1 h2 => hn x h1 (by omega))]
      cases t <;> rfl
/-- pairs of brackets: no sign stands twice -/
def pds (pf : Int → Int) (np : Int) : Prop := (0 ≤ np ∧ np ≤ 3) ∧ (∀ i, 0 ≤ i → i < 2 * np → 0 ≤ pf i ∧ pf i ≤ 7) ∧ ∀ i j, 0 ≤ i → i < 2 * np → 0 ≤ j → j < 2 * np → pf i = pf j → i = j
def kdf (pf : Int → Int) (np s : Int) : Int := kfn pf s (2 * np).toNat 0
theorem kdf_iff {pf : Int → Int} {np s u : Int} (h : pds pf np) (hu : 0 ≤ u ∧ u < 2 * np) : kdf pf np s = u ↔ pf u = s := by
  unfold kdf
  rcases kfn_sp (pf := pf) (s := s) (2 * np).toNat 0 (Int.le_refl _) with ⟨h1, h2⟩ | ⟨h1, h2, h3⟩
  · constructor
    · intro e; omega
    · intro e; exact absurd e (h2 u hu.1 (by omega))
  · constructor
    · intro e; rw [← e]; exact h3
    · intro e; exact h.2.2 _ _ h1 (by omega) hu.1 hu.2 (h3.trans e.symm)
theorem kdf_b {pf : Int → Int} {np s : Int} (hn : 0 ≤ np) : kdf pf np s = -1 ∨ (0 ≤ kdf pf np s ∧ kdf pf np s < 2 * np) := by
  unfold kdf
  rcases kfn_sp (pf := pf) (s := s) (2 * np).toNat 0 (Int.le_refl _) with ⟨h1, _⟩ | ⟨h1, h2, _⟩
  · exact Or.inl h1
  · exact Or.inr ⟨h1, by omega⟩
theorem kdf_no {pf : Int → Int} {np s : Int} (h : pds pf np) (hk : kdf pf np s = -1) {u : Int} (hu : 0 ≤ u ∧ u < 2 * np) : pf u ≠ s := fun e => by
  have := (kdf_iff h hu).mpr e
  omega
abbrev mS : Type := Int × (Int → Int) × (Int → Int)
/-- a place is gone through: how many wait, which, and the mates -/
def mst1 (pf : Int → Int) (np : Int) (w : Int → Int) (p : Int) (s : mS) : mS :=
  if kdf pf np (w (p - 1)) = -1 then s
  else if kdf pf np (w (p - 1)) % 2 = 0 then (s.1 + 1, fup s.2.1 s.1 p, s.2.2)
  else if lfn (fun k => w (s.2.1 k - 1)) (pf (kdf pf np (w (p - 1)) - 1)) s.1.toNat = -1 then s
  else (lfn (fun k => w (s.2.1 k - 1)) (pf (kdf pf np (w (p - 1)) - 1)) s.1.toNat, s.2.1, fup (fup s.2.2 p (s.2.1 (lfn (fun k => w (s.2.1 k - 1)) (pf (kdf pf np (w (p - 1)) - 1)) s.1.toNat))) (s.2.1 (lfn (fun k => w (s.2.1 k - 1)) (pf (kdf pf np (w (p - 1)) - 1)) s.1.toNat)) p)
def mst (pf : Int → Int) (np : Int) (w : Int → Int) : Nat → mS
  | 0 => (0, fun _ => 0, fun _ => 0)
  | p + 1 => mst1 pf np w ((p : Int) + 1) (mst pf np w p)
def mtf (pf : Int → Int) (np : Int) (w : Int → Int) (n : Int) : Int → Int := (mst pf np w n.toNat).2.2
theorem mst_b (pf : Int → Int) (np : Int) (w : Int → Int) : ∀ p : Nat, (0 ≤ (mst pf np w p).1 ∧ (mst pf np w p).1 ≤ (p : Int)) ∧ (∀ k, 0 ≤ k → k < (mst pf np w p).1 → 1 ≤ (mst pf np w p).2.1 k ∧ (mst pf np w p).2.1 k ≤ (p : Int)) ∧ ∀ x, (0 ≤ (mst pf np w p).2.2 x ∧ (mst pf np w p).2.2 x ≤ (p : Int)) ∧ ((p : Int) < x → (mst pf np w p).2.2 x = 0)
  | 0 => ⟨⟨Int.le_refl _, Int.le_refl _⟩, fun k h1 h2 => by have : k < 0 := h2; omega, fun x => ⟨⟨Int.le_refl _, Int.le_refl _⟩, fun _ => rfl⟩⟩
  | p + 1 => by
    obtain ⟨h1, h2, h3⟩ := mst_b pf np w p
    unfold mst
    generalize mst pf np w p = s at h1 h2 h3 ⊢
    unfold mst1
    have same : (0 ≤ s.1 ∧ s.1 ≤ ((p + 1 : Nat) : Int)) ∧ (∀ k, 0 ≤ k → k < s.1 → 1 ≤ s.2.1 k ∧ s.2.1 k ≤ ((p + 1 : Nat) : Int)) ∧ ∀ x, (0 ≤ s.2.2 x ∧ s.2.2 x ≤ ((p + 1 : Nat) : Int)) ∧ (((p + 1 : Nat) : Int) < x → s.2.2 x = 0) :=
      ⟨⟨h1.1, by omega⟩, fun k g1 g2 => by have := h2 k g1 g2; omega, fun x => ⟨by have := (h3 x).1; omega, fun hx => (h3 x).2 (by omega)⟩⟩
    by_cases e1 : kdf pf np (w ((p : Int) + 1 - 1)) = -1
    · rw [if_pos e1]; exact same
    rw [if_neg e1]
    by_cases e2 : kdf pf np (w ((p : Int) + 1 - 1)) % 2 = 0
    · rw [if_pos e2]
      refine ⟨⟨by show 0 ≤ s.1 + 1; omega, by show s.1 + 1 ≤ _; omega⟩, fun k g1 g2 => ?_, same.2.2⟩
      show 1 ≤ fup s.2.1 s.1 ((p : Int) + 1) k ∧ fup s.2.1 s.1 ((p : Int) + 1) k ≤ _
      have g2' : k < s.1 + 1 := g2
      unfold fup
      by_cases e : k = s.1
      · rw [if_pos e]; omega
      · rw [if_neg e]; have := h2 k g1 (by omega); omega
    rw [if_neg e2]
    rcases lfn_sp (P := fun k => w (s.2.1 k - 1)) (a := pf (kdf pf np (w ((p : Int) + 1 - 1)) - 1)) s.1.toNat with ⟨h4, _⟩ | ⟨h4, h5, _⟩
    · rw [if_pos h4]; exact same
    · rw [if_neg (by omega)]
      generalize lfn (fun k => w (s.2.1 k - 1)) (pf (kdf pf np (w ((p : Int) + 1 - 1)) - 1)) s.1.toNat = t at h4 h5 ⊢
      have ht := h2 t h4 (by omega)
      refine ⟨⟨h4, by show t ≤ _; omega⟩, fun k g1 g2 => same.2.1 k g1 (by have : k < t := g2; omega), fun x => ?_⟩
      show (0 ≤ fup (fup s.2.2 ((p : Int) + 1) (s.2.1 t)) (s.2.1 t) ((p : Int) + 1) x ∧ fup (fup s.2.2 ((p : Int) + 1) (s.2.1 t)) (s.2.1 t) ((p : Int) + 1) x ≤ _) ∧ (_ → fup (fup s.2.2 ((p : Int) + 1) (s.2.1 t)) (s.2.1 t) ((p : Int) + 1) x = 0)
      unfold fup
      have hx := h3 x
      by_cases a1 : x = s.2.1 t
      · rw [if_pos a1]; exact ⟨⟨by omega, by omega⟩, fun h => by omega⟩
      · rw [if_neg a1]
        by_cases a2 : x = (p : Int) + 1
        · rw [if_pos a2]; exact ⟨⟨by omega, by omega⟩, fun h => by omega⟩
        · rw [if_neg a2]; exact ⟨⟨by omega, by omega⟩, fun h => hx.2 (by omega)⟩
/-- where a led report goes on -/
def bhf (mt : Int → Int) (j : Int) : Nat → Int
  | 0 => j
  | p + 1 => if j ≤ mt ((p : Int) + 1) then mt ((p : Int) + 1) + 1 else bhf mt j p
theorem bhf_b {mt : Int → Int} {j n : Int} (hm : ∀ x, 0 ≤ mt x ∧ mt x ≤ n) : ∀ p : Nat, j ≤ bhf mt j p ∧ (bhf mt j p = j ∨ bhf mt j p ≤ n + 1)
  | 0 => ⟨Int.le_refl _, Or.inl rfl⟩
  | p + 1 => by
    have := hm ((p : Int) + 1)
    unfold bhf
    split
    · exact ⟨by omega, Or.inr (by omega)⟩
    · exact bhf_b hm p
theorem bhf_cut {mt : Int → Int} {j : Int} {t : Nat} (hj : 1 ≤ j) (hm : ∀ x, (t : Int) < x → mt x = 0) : ∀ p : Nat, t ≤ p → bhf mt j p = bhf mt j t
  | 0, h => by rw [show t = 0 by omega]
  | p + 1, h => by
    by_cases e : t = p + 1
    · rw [e]
    · unfold bhf
      rw [hm ((p : Int) + 1) (by omega), if_neg (by omega), bhf_cut hj hm p (by omega)]
      cases t <;> rfl
def bhm (mt : Int → Int) (j : Int) : Int := bhf mt j (j - 1).toNat
/-- the class's mates -/
theorem rk_1 : pj_rf 13 1 = 18 := by decide
theorem rk_2 : pj_rf 13 2 = 20 := by decide
theorem rk_0 : pj_rf 13 0 = 14 := by decide
theorem rl_0 : pj_rf 18 0 = 19 := by decide
theorem t_kindOf {M : pj_M} {s : Int} {Q : Int → pj_M → Prop} (hd : pds (M 20) (M 13 3)) (hs : pj_in s) (q : Q (kdf (M 20) (M 13 3) s) M) : w_X8_kindOf 13 s M Q := by
  obtain ⟨hn, hv, _⟩ := hd
  unfold w_X8_kindOf w_X8_kindOf_2
  refine pj_lp_inv (fun y : Int × pj_M => (0 ≤ y.1 ∧ y.1 ≤ 2 * M 13 3) ∧ y.2 = M ∧ kfn (M 20) s (2 * M 13 3 - y.1).toNat y.1 = kdf (M 20) (M 13 3) s) (fun y => (2 * M 13 3 - y.1).toNat) ?_ (0, M) ⟨⟨Int.le_refl _, by show (0 : Int) ≤ 2 * M 13 3; omega⟩, rfl, by unfold kdf; show kfn _ _ (2 * M 13 3 - 0).toNat 0 = _; rw [show 2 * M 13 3 - 0 = 2 * M 13 3 by omega]⟩
  rintro ⟨k, _⟩ ⟨h1, h2, h3⟩ P hP
  dsimp only at h1 h2 h3 hP ⊢
  have h2' := h2.symm
  subst h2'
  unfold w_X8_kindOf_2b
  rw [rk_2]
  refine ⟨⟨by omega, by omega⟩, ⟨by omega, by omega⟩, fun h => ?_, fun h => ⟨⟨by omega, by omega⟩, ?_, hs, fun hne => ?_, fun heq => ?_⟩⟩
  · rw [show (2 * M 13 3 - k).toNat = 0 by omega] at h3
    rw [← h3] at q; exact q
  · have := hv k h1.1 (by omega); exact ⟨by omega, by omega⟩
  · refine hP (k + 1, M) ⟨⟨by show 0 ≤ k + 1; omega, by show k + 1 ≤ _; omega⟩, rfl, ?_⟩ (by show (2 * M 13 3 - (k + 1)).toNat < (2 * M 13 3 - k).toNat; omega)
    show kfn (M 20) s (2 * M 13 3 - (k + 1)).toNat (k + 1) = _
    rw [show (2 * M 13 3 - k).toNat = (2 * M 13 3 - (k + 1)).toNat + 1 by omega] at h3
    unfold kfn at h3
    rw [if_neg hne] at h3; exact h3
  · rw [show (2 * M 13 3 - k).toNat = (2 * M 13 3 - (k + 1)).toNat + 1 by omega] at h3
    unfold kfn at h3
    rw [if_pos heq] at h3
    rw [← h3] at q; exact q
/-- mates as they lie -/
def mtr (a b : Nat) (M : pj_M) (s : mS) : Prop := (∀ k, 0 ≤ k → k < s.1 → M b k = s.2.1 k) ∧ ∀ x, 0 ≤ x → x < 16 → M a x = s.2.2 x
theorem t_findMates {M : pj_M} {Q : pj_M → Prop} (hd : pds (M 20) (M 13 3)) (vl : lvl M 18) (q : ∀ M', eqr M M' → M' 178 = M 178 → M' 179 = M 179 → M' 180 = M 180 → (∀ x, 0 ≤ x → x < 16 → M' 181 x = mtf (M 20) (M 13 3) (M 19) (M 18 1) x) → Q M') : w_X8_findMates 178 13 M Q := by
  have hn := vl.1
  have eqz : ∀ M', eqr M M' → M' 178 = M 178 → M' 179 = M 179 → M' 180 = M 180 → (∀ x, 0 ≤ x → x < 16 → M' 181 x = 0) → w_X8_findMates_25 178 13 Q 0 1 M' := by
    intro M' e0 a1 a2 a3 z0
    unfold w_X8_findMates_25
    refine pj_lp_inv (fun y : Int × Int × pj_M => ∃ p : Nat, y.2.1 = (p : Int) + 1 ∧ (p : Int) ≤ M 18 1 ∧ y.1 = (mst (M 20) (M 13 3) (M 19) p).1 ∧ eqr M y.2.2 ∧ y.2.2 178 = M 178 ∧ y.2.2 179 = M 179 ∧ y.2.2 180 = M 180 ∧ mtr 181 182 y.2.2 (mst (M 20) (M 13 3) (M 19) p)) (fun y => (M 18 1 + 1 - y.2.1).toNat) ?_ (0, 1, M') ⟨0, rfl, hn.1, rfl, e0, a1, a2, a3, fun k h1 h2 => by have : k < 0 := h2; omega, fun x h1 h2 => z0 x h1 h2⟩
    rintro ⟨wc, _, M1⟩ ⟨p, h1, hp, h2, e1, b1, b2, b3, tr⟩ P hP
    dsimp only at h1 h2 e1 b1 b2 b3 tr hP ⊢
    subst h1
    have hb := mst_b (M 20) (M 13 3) (M 19) p
    have hst : ∀ s', mst (M 20) (M 13 3) (M 19) p = s' → mst (M 20) (M 13 3) (M 19) (p + 1) = mst1 (M 20) (M 13 3) (M 19) ((p : Int) + 1) s' := fun s' h => by rw [← h]; rfl
    have hfin : (p : Int) = M 18 1 → mst (M 20) (M 13 3) (M 19) (M 18 1).toNat = mst (M 20) (M 13 3) (M 19) p := fun h => by rw [← h, Int.toNat_natCast]
    generalize mst (M 20) (M 13 3) (M 19) p = s at h2 tr hb hst hfin
    subst h2
    have hs1 := hst s rfl
    unfold w_X8_findMates_25b
    rw [rk_1, rl_0, rr_3, rr_4, e1.row (show 18 < 178 ∨ _ by decide), e1.row (show 19 < 178 ∨ _ by decide)]
    have e13 : M1 13 = M 13 := e1.row (by decide)
    have e20 : M1 20 = M 20 := e1.row (by decide)
    have e18 : M1 18 = M 18 := e1.row (by decide)
    have e19 : M1 19 = M 19 := e1.row (by decide)
    have hd1 : pds (M1 20) (M1 13 3) := by rw [e13, e20]; exact hd
    refine ⟨⟨by omega, by omega⟩, ⟨by omega, by omega⟩, fun hend => ?_, fun hend => ⟨⟨by omega, by omega⟩, ?_⟩⟩
    · refine q M1 e1 b1 b2 b3 (fun x x1 x2 => ?_)
      unfold mtf
      rw [hfin (by omega)]
      exact tr.2 x x1 x2
    · have hsg : 0 ≤ M 19 ((p : Int) + 1 - 1) ∧ M 19 ((p : Int) + 1 - 1) ≤ 7 := vl.2 ((p : Int) + 1 - 1)
      refine t_kindOf hd1 ⟨by omega, by omega⟩ ?_
      rw [e13, e20]
      have hkb := kdf_b (pf := M 20) (np := M 13 3) (s := M 19 ((p : Int) + 1 - 1)) hd.1.1
      have hdn := hd.1
      have nxt : ∀ (M2 : pj_M) (wc' : Int), eqr M M2 → M2 178 = M 178 → M2 179 = M 179 → M2 180 = M 180 → wc' = (mst (M 20) (M 13 3) (M 19) (p + 1)).1 → mtr 181 182 M2 (mst (M 20) (M 13 3) (M 19) (p + 1)) → P (wc', (p : Int) + 1 + 1, M2) := by
        intro M2 wc' g1 g2 g3 g4 g5 g6
        exact hP (wc', (p : Int) + 1 + 1, M2) ⟨p + 1, by show (p : Int) + 1 + 1 = _; omega, by omega, g5, g1, g2, g3, g4, g6⟩ (by show (M 18 1 + 1 - ((p : Int) + 1 + 1)).toNat < (M 18 1 + 1 - ((p : Int) + 1)).toNat; omega)
      rw [hs1] at nxt
      unfold mst1 at nxt
      generalize hv : kdf (M 20) (M 13 3) (M 19 ((p : Int) + 1 - 1)) = v at hkb nxt ⊢
      refine ⟨⟨by omega, by omega⟩, fun hne => ?_, fun heq => ?_⟩
      · rw [if_neg hne] at nxt
        rw [pd_rem ⟨by omega, by omega⟩ ⟨by decide, by decide⟩]
        refine ⟨⟨by omega, by omega⟩, fun hodd => ?_, fun hev => ⟨⟨by omega, by omega⟩, ?_⟩⟩
        · rw [if_neg hodd] at nxt
          -- latest of a kind
          unfold w_X8_latestOfKind w_X8_latestOfKind_5
          have hlf := fun t : Nat => lfn_cut (P := fun k => M 19 (s.2.1 k - 1)) (a := M 20 (v - 1)) (t := t) s.1.toNat
          have hsp := lfn_sp (P := fun k => M 19 (s.2.1 k - 1)) (a := M 20 (v - 1)) s.1.toNat
          generalize hL : lfn (fun k => M 19 (s.2.1 k - 1)) (M 20 (v - 1)) s.1.toNat = L at nxt hlf hsp
          have done : ∀ t : Int, t = L → (pj_in t) ∧ ((t = -1 → P (s.1, (p : Int) + 1 + 1, M1)) ∧ (¬ t = -1 → ((0 : Int) ≤ t ∧ t < 14) ∧ ((0 : Int) ≤ (p : Int) + 1 ∧ (p : Int) + 1 < 16) ∧ ∀ M14 : pj_M, M14 = pj_up M1 181 ((p : Int) + 1) (M1 182 t) → ((0 : Int) ≤ t ∧ t < 14) ∧ ((0 : Int) ≤ (M14 182 t) ∧ (M14 182 t) < 16) ∧ ∀ M17 : pj_M, M17 = pj_up M14 181 (M14 182 t) ((p : Int) + 1) → P (t, (p : Int) + 1 + 1, M17))) := by
            rintro t rfl
            refine ⟨⟨by omega, by omega⟩, fun h => ?_, fun h => ?_⟩
            · rw [if_pos h] at nxt
              exact nxt M1 s.1 e1 b1 b2 b3 rfl tr
            · rw [if_neg h] at nxt
              have ht : 0 ≤ t ∧ t < s.1 := by omega
              have hw := hb.2.1 t ht.1 ht.2
              have htr := tr.1 t ht.1 ht.2
              refine ⟨⟨by omega, by omega⟩, ⟨by omega, by omega⟩, ?_⟩
              rintro M14 rfl
              rw [pu_ne (show (182 : Nat) ≠ 181 by decide), htr]
              refine ⟨⟨by omega, by omega⟩, ⟨by omega, by omega⟩, ?_⟩
              rintro M17 rfl
              refine nxt _ t ((e1.tr (eqr.up (by decide))).tr (eqr.up (by decide))) ?_ ?_ ?_ rfl ⟨fun k k1 k2 => ?_, fun x x1 x2 => ?_⟩
              · funext y; rw [pu_ne (by decide), pu_ne (by decide), b1]
              · funext y; rw [pu_ne (by decide), pu_ne (by decide), b2]
              · funext y; rw [pu_ne (by decide), pu_ne (by decide), b3]
              · rw [pu_ne (by decide), pu_ne (by decide)]; exact tr.1 k k1 (by have : k < t := k2; omega)
              · show pj_up (pj_up M1 181 ((p : Int) + 1) (s.2.1 t)) 181 (s.2.1 t) ((p : Int) + 1) 181 x = fup (fup s.2.2 ((p : Int) + 1) (s.2.1 t)) (s.2.1 t) ((p : Int) + 1) x
                unfold fup
                by_cases a1 : x = s.2.1 t
                · rw [if_pos a1, a1, pu_eq]
                · rw [if_neg a1, pu_nk a1]
                  by_cases a2 : x = (p : Int) + 1
                  · rw [if_pos a2, a2, pu_eq]
                  · rw [if_neg a2, pu_nk a2]; exact tr.2 x x1 x2
          refine pj_lp_inv (fun y : Int × pj_M => (-1 ≤ y.1 ∧ y.1 < s.1) ∧ y.2 = M1 ∧ ∀ x, y.1 < x → x < s.1 → M 19 (s.2.1 x - 1) ≠ M 20 (v - 1)) (fun y => (y.1 + 1).toNat) ?_ (s.1 - 1, M1) ⟨⟨by show -1 ≤ s.1 - 1; omega, by show s.1 - 1 < s.1; omega⟩, rfl, fun x x1 x2 => by have : s.1 - 1 < x := x1; omega⟩
          rintro ⟨t, _⟩ ⟨ht, ht2, hno⟩ P5 hP5
          dsimp only at ht ht2 hno hP5 ⊢
          have ht2' := ht2.symm
          subst ht2'
          unfold w_X8_latestOfKind_5b
          rw [rk_1, rl_0, rr_4, e19]
          refine ⟨⟨by omega, by omega⟩, fun hneg => ?_, fun hpos => ?_⟩
          · have ht1 : t = -1 := by omega
            refine done (-1) ?_
            rcases hsp with ⟨g1, _⟩ | ⟨g1, g2, g3⟩
            · exact g1.symm
            · exact absurd g3 (hno L (by omega) (by omega))
          · have htr := tr.1 t (by omega) ht.2
            have hw := hb.2.1 t (by omega) ht.2
            rw [htr]
            have hsg2 : 0 ≤ M 19 (s.2.1 t - 1) ∧ M 19 (s.2.1 t - 1) ≤ 7 := vl.2 (s.2.1 t - 1)
            refine ⟨⟨by omega, by omega⟩, ⟨by omega, by omega⟩, t_kindOf hd1 ⟨by omega, by omega⟩ ?_⟩
            rw [e13, e20]
            have hk2 := kdf_b (pf := M 20) (np := M 13 3) (s := M 19 (s.2.1 t - 1)) hd.1.1
            have hiff := kdf_iff (s := M 19 (s.2.1 t - 1)) (u := v - 1) hd ⟨by omega, by omega⟩
            refine ⟨⟨by omega, by omega⟩, ⟨by omega, by omega⟩, fun hx => ?_, fun hx => ?_⟩
            · refine hP5 (t + (-1), M1) ⟨⟨by show -1 ≤ t + (-1); omega, by show t + (-1) < s.1; omega⟩, rfl, fun x x1 x2 => ?_⟩ (by show (t + (-1) + 1).toNat < (t + 1).toNat; omega)
              have x1' : t + (-1) < x := x1
              by_cases e : x = t
              · rw [e]; exact fun h => hx (hiff.mpr h.symm)
              · exact hno x (by omega) x2
            · refine done t ?_
              have hfd := hiff.mp hx
              have := hlf (t.toNat + 1) (by omega) (fun x x1 x2 => hno x (by omega) (by omega))
              rw [this]
              show t = if M 19 (s.2.1 ((t.toNat : Nat) : Int) - 1) = M 20 (v - 1) then ((t.toNat : Nat) : Int) else _
              rw [show ((t.toNat : Nat) : Int) = t by omega, if_pos hfd.symm]
        · rw [if_pos hev] at nxt
          rintro M19 rfl
          refine nxt _ (s.1 + 1) (e1.tr (eqr.up (by decide))) ?_ ?_ ?_ rfl ⟨fun k k1 k2 => ?_, fun x x1 x2 => ?_⟩
          · funext y; rw [pu_ne (by decide), b1]
          · funext y; rw [pu_ne (by decide), b2]
          · funext y; rw [pu_ne (by decide), b3]
          · show pj_up M1 182 s.1 ((p : Int) + 1) 182 k = fup s.2.1 s.1 ((p : Int) + 1) k
            have k2' : k < s.1 + 1 := k2
            unfold fup
            by_cases e : k = s.1
            · rw [if_pos e, e, pu_eq]
            · rw [if_neg e, pu_nk e]; exact tr.1 k k1 (by omega)
          · rw [pu_ne (by decide)]; exact tr.2 x x1 x2
      · rw [if_pos heq] at nxt
        exact nxt M1 s.1 e1 b1 b2 b3 rfl tr
  unfold w_X8_findMates w_X8_findMates_2
  refine pj_lp_inv (fun y : Int × pj_M => (0 ≤ y.1 ∧ y.1 ≤ 16) ∧ eqr M y.2 ∧ y.2 178 = M 178 ∧ y.2 179 = M 179 ∧ y.2 180 = M 180 ∧ ∀ x, 0 ≤ x → x < y.1 → y.2 181 x = 0) (fun y => (16 - y.1).toNat) ?_ (0, M) ⟨⟨Int.le_refl _, by show (0 : Int) ≤ 16; decide⟩, eqr.rf, rfl, rfl, rfl, fun x h1 h2 => by have : x < 0 := h2; omega⟩
  rintro ⟨p, M1⟩ ⟨hp, e1, b1, b2, b3, z1⟩ P hP
  dsimp only at hp e1 b1 b2 b3 z1 hP ⊢
  unfold w_X8_findMates_2b
  rw [rr_3]
  refine ⟨⟨by omega, by omega⟩, fun h => eqz M1 e1 b1 b2 b3 (fun x x1 x2 => z1 x x1 (by omega)), fun h => ⟨⟨by omega, by omega⟩, ?_⟩⟩
  rintro M2 rfl
  refine hP (p + 1, _) ⟨⟨by show 0 ≤ p + 1; omega, by show p + 1 ≤ 16; omega⟩, e1.tr (eqr.up (by decide)), ?_, ?_, ?_, fun x x1 x2 => ?_⟩ (by show (16 - (p + 1)).toNat < (16 - p).toNat; omega)
  · show pj_up M1 181 p 0 178 = _
    funext y; rw [pu_ne (by decide), b1]
  · show pj_up M1 181 p 0 179 = _
    funext y; rw [pu_ne (by decide), b2]
  · show pj_up M1 181 p 0 180 = _
    funext y; rw [pu_ne (by decide), b3]
  · show pj_up M1 181 p 0 181 x = 0
    have x2' : x < p + 1 := x2
    by_cases e : x = p
    · rw [e, pu_eq]
    · rw [pu_nk e]; exact z1 x x1 (by omega)
theorem t_placeBehindMate {M : pj_M} {mt : Int → Int} {n j : Int} {Q : Int → pj_M → Prop} (hm : ∀ x, 0 ≤ x → x < 16 → M 181 x = mt x) (hb : ∀ x, 0 ≤ mt x ∧ mt x ≤ n) (hn : n ≤ 14) (hj : 1 ≤ j ∧ j ≤ 16) (q : Q (bhm mt j) M) : w_X8_placeBehindMate 178 j M Q := by
  unfold w_X8_placeBehindMate
  refine t_min ⟨by omega, by omega⟩ ⟨by decide, by decide⟩ (fun r hr h1 h2 => ?_)
  have hrj : r = j := by omega
  subst hrj
  unfold w_X8_placeBehindMate_9
  refine pj_lp_inv (fun y : Int × pj_M => (0 ≤ y.1 ∧ y.1 < r) ∧ y.2 = M ∧ bhf mt r y.1.toNat = bhm mt r) (fun y => y.1.toNat) ?_ (r - 1, M) ⟨⟨by show 0 ≤ r - 1; omega, by show r - 1 < r; omega⟩, rfl, rfl⟩
  rintro ⟨p, _⟩ ⟨hp, h4, h5⟩ P hP
  dsimp only at hp h4 h5 hP ⊢
  have h4' := h4.symm
  subst h4'
  unfold w_X8_placeBehindMate_9b
  rw [rr_3]
  refine ⟨⟨by omega, by omega⟩, fun h => ?_, fun h => ?_⟩
  · rw [show p.toNat = 0 by omega] at h5
    rw [← h5] at q; exact q
  · rw [hm p hp.1 (by omega)]
    have := hb p
    rw [show p.toNat = (p - 1).toNat + 1 by omega] at h5
    unfold bhf at h5
    rw [show (((p - 1).toNat : Nat) : Int) + 1 = p by omega] at h5
    refine ⟨⟨by omega, by omega⟩, ⟨by omega, by omega⟩, ⟨by omega, by omega⟩, fun hlt => ?_, fun hge => ⟨⟨by omega, by omega⟩, ?_⟩⟩
    · rw [if_neg (by omega)] at h5
      exact hP (p + (-1), M) ⟨⟨by show 0 ≤ p + (-1); omega, by show p + (-1) < r; omega⟩, rfl, by rw [← h5]; rfl⟩ (by show (p + (-1)).toNat < p.toNat; omega)
    · rw [if_pos (by omega)] at h5
      rw [h5]; exact q
