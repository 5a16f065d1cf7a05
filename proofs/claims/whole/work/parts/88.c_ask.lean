/-- what fits, of a row of n2 places -/
def fmn (n2 : Int) (F : Int → Int → Prop) : Prop := (∀ i, 0 ≤ i → i ≤ n2 → F i i) ∧ ∀ i j i' j', 0 ≤ i → i ≤ i' → i' ≤ j' → j' ≤ j → j ≤ n2 → F i j → F i' j'
/-- a chart tells what fits -/
def cft (M : pj_M) (c : Nat) (n2 : Int) (F : Int → Int → Prop) : Prop := isC c ∧ M c 11 = n2 ∧ (2 ≤ n2 ∧ n2 ≤ 16) ∧ (∀ x, 0 ≤ M (c + 19) x ∧ M (c + 19) x ≤ 1048576) ∧ fmn n2 F ∧ ∀ i j, 0 ≤ i → i ≤ j → j ≤ n2 → (M (c + 19) (108 + j) ≤ i ↔ F i j)
theorem pfit_mn {G : gr_G} {st : Nat} {w : Int → Int} {n : Int} (h : gr_gd G 8 st) : fmn (n + 2) (pfit G st w n) := ⟨fun i _ _ => pfit_nil h, fun _ _ _ _ _ h1 h2 h3 _ hf => pfit_sub hf h1 h2 h3⟩
theorem crd.ft {M : pj_M} {c : Nat} {n : Int} {w : Int → Int} (h : crd M c 0 w n) (hn : 0 ≤ n ∧ n ≤ 14) : cft M c (n + 2) (pfit (gof M (c + 1)) (M (c + 1) 4).toNat w n) := by
  refine ⟨h.1.2.1.1.1, h.2.2.2.1, ⟨by omega, by omega⟩, h.b19, pfit_mn h.1.2.2.2.2.1, fun i j h1 h2 h3 => ?_⟩
  obtain ⟨a, rfl⟩ : ∃ a : Nat, i = (a : Int) := ⟨i.toNat, by omega⟩
  obtain ⟨b, rfl⟩ : ∃ b : Nat, j = (b : Int) := ⟨j.toNat, by omega⟩
  have := h.fit (i := a) (j := b) (by omega) (by omega)
  rwa [if_pos rfl] at this
theorem crd.ft1 {M : pj_M} {c : Nat} {n : Int} {w : Int → Int} (h : crd M c 1 w n) (hn : 0 ≤ n ∧ n ≤ 14) : cft M c (n + 2) (fun i j => pfit (gof M (c + 1)) (M (c + 1) 4).toNat w n (n + 2 - j) (n + 2 - i)) := by
  refine ⟨h.1.2.1.1.1, h.2.2.2.1, ⟨by omega, by omega⟩, h.b19, ⟨fun i h1 h2 => pfit_nil h.1.2.2.2.2.1, fun i j i' j' h0 h1 h2 h3 _ hf => pfit_sub hf (by omega) (by omega) (by omega)⟩, fun i j h1 h2 h3 => ?_⟩
  obtain ⟨a, rfl⟩ : ∃ a : Nat, i = (a : Int) := ⟨i.toNat, by omega⟩
  obtain ⟨b, rfl⟩ : ∃ b : Nat, j = (b : Int) := ⟨j.toNat, by omega⟩
  have := h.fit (i := a) (j := b) (by omega) (by omega)
  rwa [if_neg (by decide)] at this
theorem t_leastFitting {M : pj_M} {c : Nat} {j : Int} {Q : Int → pj_M → Prop} (hc : isC c) (hj : 0 ≤ j ∧ j ≤ 17) (q : Q (M (c + 19) (108 + j)) M) : w_X0_leastFitting c j M Q := by
  unfold w_X0_leastFitting
  rw [cr_16 hc]
  exact ⟨⟨by omega, by omega⟩, q⟩
/-- the greatest end of what fits and begins at i -/
def gfi (F : Int → Int → Prop) (n2 i j : Int) : Prop := i ≤ j ∧ j ≤ n2 ∧ F i j ∧ (j = n2 ∨ ¬ F i (j + 1))
theorem gfi.le {F : Int → Int → Prop} {n2 i j k : Int} (m : fmn n2 F) (hi : 0 ≤ i) (h : gfi F n2 i j) (hk : i ≤ k) (hk2 : k ≤ n2) (hf : F i k) : k ≤ j := by
  apply Int.not_lt.mp
  intro hlt
  rcases h.2.2.2 with h1 | h1
  · omega
  · exact h1 (m.2 i k i (j + 1) hi (Int.le_refl _) (by have := h.1; omega) (by omega) hk2 hf)
theorem gfi.uniq {F : Int → Int → Prop} {n2 i j k : Int} (m : fmn n2 F) (hi : 0 ≤ i) (h : gfi F n2 i j) (h2 : gfi F n2 i k) : j = k :=
  Int.le_antisymm (h2.le m hi h.1 h.2.1 h.2.2.1) (h.le m hi h2.1 h2.2.1 h2.2.2.1)
theorem gfi.iff {F : Int → Int → Prop} {n2 i j k : Int} (m : fmn n2 F) (hi : 0 ≤ i) (h : gfi F n2 i j) (hk : i ≤ k) (hk2 : k ≤ n2) : F i k ↔ k ≤ j :=
  ⟨fun hf => h.le m hi hk hk2 hf, fun hle => m.2 i j i k hi (Int.le_refl _) hk hle h.2.1 h.2.2.1⟩
theorem t_greatestFitting {M : pj_M} {c : Nat} {n2 i : Int} {F : Int → Int → Prop} {Q : Int → pj_M → Prop} (hf : cft M c n2 F) (hi : 0 ≤ i ∧ i ≤ n2) (q : ∀ j, gfi F n2 i j → Q j M) : w_X0_greatestFitting c i M Q := by
  obtain ⟨hc, h11, hn, hb, m, ht⟩ := hf
  unfold w_X0_greatestFitting w_X0_greatestFitting_2
  refine pj_lp_inv (fun y : Int × pj_M => i ≤ y.1 ∧ y.1 ≤ n2 ∧ F i y.1 ∧ y.2 = M) (fun y => (n2 - y.1).toNat) ?_ (i, M) ⟨Int.le_refl _, hi.2, m.1 i hi.1 hi.2, rfl⟩
  rintro ⟨x, M1⟩ ⟨h1, h2, h3, h4⟩ P hP
  dsimp only at h1 h2 h3 h4 hP ⊢
  subst h4
  unfold w_X0_greatestFitting_2b
  rw [h11]
  refine ⟨⟨by omega, by omega⟩, ⟨by omega, by omega⟩, fun h => q x ⟨h1, h2, h3, Or.inl (by omega)⟩, fun h => t_leastFitting hc ⟨by omega, by omega⟩ ?_⟩
  have hv := hb (108 + (x + 1))
  have hx := ht i (x + 1) hi.1 (by omega) (by omega)
  refine ⟨⟨by omega, by omega⟩, ⟨by omega, by omega⟩, fun hlt => q x ⟨h1, h2, h3, Or.inr (fun hf => by have := hx.mpr hf; omega)⟩, fun hlt => ?_⟩
  exact hP (x + 1, M1) ⟨by show i ≤ x + 1; omega, by show x + 1 ≤ n2; omega, hx.mp (by omega), rfl⟩ (by show (n2 - (x + 1)).toNat < (n2 - x).toNat; omega)
/-- the longest that fits and has a place -/
def lgw (F : Int → Int → Prop) (n2 p i j : Int) : Prop := (0 ≤ i ∧ i ≤ p ∧ p < j ∧ j ≤ n2) ∧ F i j ∧ ∀ i' j', 0 ≤ i' → i' ≤ p → p < j' → j' ≤ n2 → F i' j' → j' - i' < j - i ∨ (j' - i' = j - i ∧ i ≤ i')
theorem lgw.uniq {F : Int → Int → Prop} {n2 p i j i' j' : Int} (h : lgw F n2 p i j) (h2 : lgw F n2 p i' j') : i = i' ∧ j = j' := by
  have a := h.2.2 i' j' h2.1.1 h2.1.2.1 h2.1.2.2.1 h2.1.2.2.2 h2.2.1
  have b := h2.2.2 i j h.1.1 h.1.2.1 h.1.2.2.1 h.1.2.2.2 h.2.1
  omega
theorem lgw.gfi {F : Int → Int → Prop} {n2 p i j : Int} (h : lgw F n2 p i j) : gfi F n2 i j := by
  refine ⟨by have := h.1; omega, h.1.2.2.2, h.2.1, ?_⟩
  by_cases e : j = n2
  · exact Or.inl e
  · right
    intro hf
    have := h.2.2 i (j + 1) h.1.1 h.1.2.1 (by have := h.1; omega) (by have := h.1; omega) hf
    omega
def nlw (F : Int → Int → Prop) (n2 p : Int) : Prop := ∀ i' j', 0 ≤ i' → i' ≤ p → p < j' → j' ≤ n2 → ¬ F i' j'
theorem t_beginOfLongestWith {M : pj_M} {c : Nat} {n2 p : Int} {F : Int → Int → Prop} {Q : Int → pj_M → Prop} (hf : cft M c n2 F) (hp : 0 ≤ p ∧ p < n2) (q1 : nlw F n2 p → Q (-1) M) (q2 : ∀ i j, lgw F n2 p i j → Q i M) : w_X0_beginOfLongestWith c p M Q := by
  have hn := hf.2.2.1
  have m := hf.2.2.2.2.1
  unfold w_X0_beginOfLongestWith w_X0_beginOfLongestWith_7
  -- best, most, i
  refine pj_lp_inv (fun y : Int × Int × Int × pj_M => (0 ≤ y.2.2.1 ∧ y.2.2.1 ≤ p + 1) ∧ y.2.2.2 = M ∧ ((y.1 = -1 ∧ y.2.1 = 0 ∧ ∀ i' j', 0 ≤ i' → i' < y.2.2.1 → p < j' → j' ≤ n2 → ¬ F i' j') ∨ (0 < y.2.1 ∧ 0 ≤ y.1 ∧ y.1 < y.2.2.1 ∧ p < y.1 + y.2.1 ∧ y.1 + y.2.1 ≤ n2 ∧ F y.1 (y.1 + y.2.1) ∧ ∀ i' j', 0 ≤ i' → i' < y.2.2.1 → p < j' → j' ≤ n2 → F i' j' → j' - i' < y.2.1 ∨ (j' - i' = y.2.1 ∧ y.1 ≤ i')))) (fun y => (p + 1 - y.2.2.1).toNat) ?_ (-1, 0, 0, M) ⟨⟨by show (0:Int) ≤ 0; omega, by show (0:Int) ≤ p + 1; omega⟩, rfl, Or.inl ⟨rfl, rfl, fun i' j' h1 h2 => by dsimp only at h2; omega⟩⟩
  rintro ⟨b, mo, i, M1⟩ ⟨h1, h2, h3⟩ P hP
  dsimp only at h1 h2 h3 hP ⊢
  subst h2
  unfold w_X0_beginOfLongestWith_7b
  refine ⟨⟨by omega, by omega⟩, ⟨by omega, by omega⟩, fun h => ?_, fun h => t_greatestFitting hf ⟨h1.1, by omega⟩ (fun j hg => ?_)⟩
  · have hi : i = p + 1 := by omega
    subst hi
    rcases h3 with ⟨rfl, h4, h5⟩ | ⟨h4, h5, h6, h7, h8, h9, h10⟩
    · exact q1 (fun i' j' a b => h5 i' j' a (by omega))
    · exact q2 b (b + mo) ⟨⟨h5, by omega, h7, h8⟩, h9, fun i' j' a1 a2 a3 a4 a5 => by
        have := h10 i' j' a1 (by omega) a3 a4 a5
        omega⟩
  · have g1 := hg.1
    have g2 := hg.2.1
    have bm : (b = -1 ∧ mo = 0) ∨ (0 < mo ∧ mo ≤ n2) := by
      rcases h3 with ⟨a, b, _⟩ | ⟨a, b, _, _, c, _⟩
      · exact Or.inl ⟨a, b⟩
      · right; omega
    have old : ∀ i' j', 0 ≤ i' → i' < i → p < j' → j' ≤ n2 → F i' j' → j' - i' < mo ∨ (j' - i' = mo ∧ b ≤ i') := by
      rcases h3 with ⟨_, _, h5⟩ | ⟨_, _, _, _, _, _, h10⟩
      · exact fun i' j' a1 a2 a3 a4 a5 => absurd a5 (h5 i' j' a1 a2 a3 a4)
      · exact h10
    -- no better one at i
    have keep : (∀ j', p < j' → j' ≤ n2 → F i j' → j' - i < mo ∨ (j' - i = mo ∧ b ≤ i)) → P (b, mo, i + 1, M1) := by
      intro hk
      refine hP (b, mo, i + 1, M1) ⟨⟨by show 0 ≤ i + 1; omega, by show i + 1 ≤ p + 1; omega⟩, rfl, ?_⟩ (by show (p + 1 - (i + 1)).toNat < (p + 1 - i).toNat; omega)
      show (b = -1 ∧ mo = 0 ∧ ∀ i' j', 0 ≤ i' → i' < i + 1 → p < j' → j' ≤ n2 → ¬ F i' j') ∨ (0 < mo ∧ 0 ≤ b ∧ b < i + 1 ∧ p < b + mo ∧ b + mo ≤ n2 ∧ F b (b + mo) ∧ ∀ i' j', 0 ≤ i' → i' < i + 1 → p < j' → j' ≤ n2 → F i' j' → j' - i' < mo ∨ (j' - i' = mo ∧ b ≤ i'))
      rcases h3 with ⟨e1, e2, h5⟩ | ⟨e1, e2, e3, e4, e5, e6, e7⟩
      · refine Or.inl ⟨e1, e2, fun i' j' a1 a2 a3 a4 a5 => ?_⟩
        by_cases e : i' = i
        · subst e; have := hk j' a3 a4 a5; omega
        · exact h5 i' j' a1 (by omega) a3 a4 a5
      · refine Or.inr ⟨e1, e2, by omega, e4, e5, e6, fun i' j' a1 a2 a3 a4 a5 => ?_⟩
        by_cases e : i' = i
        · subst e; exact hk j' a3 a4 a5
        · exact e7 i' j' a1 (by omega) a3 a4 a5
    have bi : b ≤ i := by
      rcases h3 with ⟨a, b, _⟩ | ⟨a, b, c, _⟩ <;> omega
    refine ⟨⟨by omega, by omega⟩, ⟨by omega, by omega⟩, fun hj => keep (fun j' a1 a2 a3 => ?_), fun hj => ⟨⟨by omega, by omega⟩, ⟨by omega, by omega⟩, fun hle => keep (fun j' a1 a2 a3 => ?_), fun hgt => ?_⟩⟩
    · have := hg.le m h1.1 (by omega) a2 a3; omega
    · have := hg.le m h1.1 (by omega) a2 a3; omega
    · refine hP (i, j - i, i + 1, M1) ⟨⟨by show 0 ≤ i + 1; omega, by show i + 1 ≤ p + 1; omega⟩, rfl, Or.inr ⟨by show 0 < j - i; omega, by show 0 ≤ i; omega, by show i < i + 1; omega, by show p < i + (j - i); omega, by show i + (j - i) ≤ n2; omega, ?_, fun i' j' a1 a2 a3 a4 a5 => ?_⟩⟩ (by show (p + 1 - (i + 1)).toNat < (p + 1 - i).toNat; omega)
      · show F i (i + (j - i))
        rw [show i + (j - i) = j by omega]; exact hg.2.2.1
      · show j' - i' < j - i ∨ (j' - i' = j - i ∧ i ≤ i')
        have a2' : i' < i + 1 := a2
        by_cases e : i' = i
        · subst e; have := hg.le m h1.1 (by omega) a4 a5; omega
        · have := old i' j' a1 (by omega) a3 a4 a5; omega
/-- whole and part, of capitals -/
theorem tb_u {z : Int} {p : Nat} (h : 0 ≤ z ∧ z < 262144) (hp : p < 32) : pj_and (pj_ushr z (p : Int)) 1 = if z.toNat.testBit p then 1 else 0 := by
  obtain ⟨v, rfl⟩ : ∃ v : Nat, z = (v : Int) := ⟨z.toNat, by omega⟩
  rw [pb_bitu (by omega) hp, Int.toNat_natCast]
theorem t_yieldsWhole {M : pj_M} {c x i j : Nat} {Q : Int → pj_M → Prop} (st : cst M c) (hx : x < 7) (hi : i < 18) (hj : (j : Int) ≤ M c 11) (q : ∀ r, (r = 0 ∨ r = 1) → (r = 1 ↔ i ≤ j ∧ gr_y (gc M c) 10 x (tkw M c i j)) → Q r M) : w_X0_yieldsWhole c (x : Int) (i : Int) (j : Int) M Q := by
  have hc := st.1.1
  have h17 := st.2.1.1
  have hx' := st.2.2.2.2.1 j hj x i hx
  have hb := st.2.2.1.2.1 ((x : Int) * 18 + (j : Int))
  unfold w_X0_yieldsWhole
  rw [cr_13 hc, tb_u hb (by omega)]
  unfold tbit at hx'
  by_cases e : (M (c + 16) ((x : Int) * 18 + (j : Int))).toNat.testBit i = true
  · rw [e]
    exact ⟨⟨by omega, by omega⟩, ⟨by decide, by decide⟩, fun h => absurd h (by decide), fun _ => q 1 (Or.inr rfl) ⟨fun _ => hx'.mp e, fun _ => rfl⟩⟩
  · rw [if_neg e]
    exact ⟨⟨by omega, by omega⟩, ⟨by decide, by decide⟩, fun _ => q 0 (Or.inl rfl) ⟨fun h => absurd h (by decide), fun h => absurd (hx'.mpr h) e⟩, fun h => absurd rfl h⟩
/-- what sort of part -/
def gsort (G : gr_G) (T : Nat) (sort : Int) (x : Nat) (u : List Nat) : Prop := if sort = 0 then gr_y G T x u else if sort = 1 then gr_pf G T x u else if sort = 2 then gr_sf G T x u else gr_if G T x u
theorem t_yieldsPart {M : pj_M} {c x i j : Nat} {sort : Int} {Q : Int → pj_M → Prop} (st : cst M c) (hs : 0 ≤ sort ∧ sort ≤ 3) (hx : x < 7) (hi : i ≤ j) (hj : (j : Int) ≤ M c 12) (q : ∀ r, (r = 0 ∨ r = 1) → (r = 1 ↔ gsort (gc M c) 10 sort x (tkw M c i j)) → Q r M) : w_X0_yieldsPart c (x : Int) sort (i : Int) (j : Int) M Q := by
  have hc := st.1.1
  have h17 := st.2.1.1
  have h12 := st.2.2.2.2.2.1
  have hx0 := st.2.2.2.2.1 j (by omega) x i hx
  have hx1 := st.2.2.2.2.2.2 j hj x i hx
  have hb := st.2.2.1
  have b0 := hb.2.1 ((x : Int) * 18 + (j : Int))
  have b1 := hb.2.2.1 ((x : Int) * 18 + (j : Int))
  have b2 := hb.2.2.2.1 ((x : Int) * 18 + (j : Int))
  have b3 := hb.2.2.2.2 ((x : Int) * 18 + (j : Int))
  have ix : (0 : Int) ≤ (x : Int) * 18 + (j : Int) ∧ (x : Int) * 18 + (j : Int) < 126 := ⟨by omega, by omega⟩
  unfold w_X0_yieldsPart
  rw [cr_13 hc, cr_14 hc, cr_15 hc, cr_16 hc, tb_u b0 (by omega), tb_u b1 (by omega)]
  unfold tbit at hx0 hx1
  have sin : pj_in sort := ⟨by omega, by omega⟩
  refine ⟨sin, fun n0 => ⟨sin, fun n1 => ⟨sin, fun n2 => ⟨ix, ⟨by omega, by omega⟩, ⟨by omega, by omega⟩, fun h => q 0 (Or.inl rfl) ?_, fun h => q 1 (Or.inr rfl) ?_⟩, fun n2 => ⟨ix, ⟨by omega, by omega⟩, ⟨by omega, by omega⟩, fun h => q 0 (Or.inl rfl) ?_, fun h => q 1 (Or.inr rfl) ?_⟩⟩, fun n1 => ⟨ix, ?_⟩⟩, fun n0 => ⟨ix, ?_⟩⟩
  · unfold gsort; rw [if_neg n0, if_neg n1, if_neg n2, ← (hx1.2 hi).2]
    exact ⟨fun h => absurd h (by decide), fun h' => by omega⟩
  · unfold gsort; rw [if_neg n0, if_neg n1, if_neg n2, ← (hx1.2 hi).2]
    exact ⟨fun _ => by omega, fun _ => rfl⟩
  · unfold gsort; rw [if_neg n0, if_neg n1, if_pos n2, ← (hx1.2 hi).1]
    exact ⟨fun h => absurd h (by decide), fun h' => by omega⟩
  · unfold gsort; rw [if_neg n0, if_neg n1, if_pos n2, ← (hx1.2 hi).1]
    exact ⟨fun _ => by omega, fun _ => rfl⟩
  · have e1 : gsort (gc M c) 10 sort x (tkw M c i j) ↔ gr_pf (gc M c) 10 x (tkw M c i j) := by unfold gsort; rw [if_neg n0, if_pos n1]
    by_cases e : (M (c + 17) ((x : Int) * 18 + (j : Int))).toNat.testBit i = true
    · rw [e]
      exact ⟨⟨by decide, by decide⟩, fun h => absurd h (by decide), fun _ => q 1 (Or.inr rfl) ⟨fun _ => e1.mpr (hx1.1.mp e).2, fun _ => rfl⟩⟩
    · rw [if_neg e]
      exact ⟨⟨by decide, by decide⟩, fun _ => q 0 (Or.inl rfl) ⟨fun h => absurd h (by decide), fun h => absurd (hx1.1.mpr ⟨hi, e1.mp h⟩) e⟩, fun h => absurd rfl h⟩
  · have e1 : gsort (gc M c) 10 sort x (tkw M c i j) ↔ gr_y (gc M c) 10 x (tkw M c i j) := by unfold gsort; rw [if_pos n0]
    by_cases e : (M (c + 16) ((x : Int) * 18 + (j : Int))).toNat.testBit i = true
    · rw [e]
      exact ⟨⟨by decide, by decide⟩, fun h => absurd h (by decide), fun _ => q 1 (Or.inr rfl) ⟨fun _ => e1.mpr (hx0.mp e).2, fun _ => rfl⟩⟩
    · rw [if_neg e]
      exact ⟨⟨by decide, by decide⟩, fun _ => q 0 (Or.inl rfl) ⟨fun h => absurd h (by decide), fun h => absurd (hx0.mpr ⟨hi, e1.mp h⟩) e⟩, fun h => absurd rfl h⟩
/-- a chart's capitals yield what the grammar's do -/
theorem gsort_eq {G H : gr_G} {T T' : Nat} {x : Nat} {u : List Nat} {sort : Int} (h : ∀ w, gr_y G T x w ↔ gr_y H T' x w) : gsort G T sort x u ↔ gsort H T' sort x u := by
  unfold gsort gr_pf gr_sf gr_if
  simp only [h]
