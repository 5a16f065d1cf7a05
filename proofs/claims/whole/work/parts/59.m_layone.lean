/-- only a table and what is scratch has changed -/
def eqt (T : Nat) (M M' : pj_M) : Prop := ∀ c x, c ≠ T → c ≠ 214 → c ≠ 215 → M' c x = M c x
theorem eqt.rf {T : Nat} {M : pj_M} : eqt T M M := fun _ _ _ _ _ => rfl
theorem eqt.tr {T : Nat} {M M1 M2 : pj_M} (h : eqt T M M1) (h2 : eqt T M1 M2) : eqt T M M2 := fun c x h3 h4 h5 => (h2 c x h3 h4 h5).trans (h c x h3 h4 h5)
theorem eqt.x {T : Nat} {M M1 : pj_M} (h : eqx M M1) : eqt T M M1 := fun c x _ h4 h5 => h c x h4 h5
theorem eqt.up {T : Nat} {M : pj_M} {k v : Int} : eqt T M (pj_up M T k v) := fun c x h _ _ => pu_ne h
/-- how many capitals have a stretch yet to be told -/
def mt_un (M : pj_M) (T : Nat) (i j : Int) : Nat := (6 - (M T (16 * (16 * 0 + i) + j) + M T (16 * (16 * 1 + i) + j) + M T (16 * (16 * 2 + i) + j) + M T (16 * (16 * 3 + i) + j) + M T (16 * (16 * 4 + i) + j) + M T (16 * (16 * 5 + i) + j))).toNat
theorem mt_un_up {M : pj_M} {T : Nat} {i j : Int} {c : Nat} (hb : bz M T) (hc : c < 6) (h0 : M T (16 * (16 * (c : Int) + i) + j) = 0) : mt_un (pj_up M T (16 * (16 * (c : Int) + i) + j) 1) T i j + 1 = mt_un M T i j := by
  have b0 := hb (16 * (16 * 0 + i) + j)
  have b1 := hb (16 * (16 * 1 + i) + j)
  have b2 := hb (16 * (16 * 2 + i) + j)
  have b3 := hb (16 * (16 * 3 + i) + j)
  have b4 := hb (16 * (16 * 4 + i) + j)
  have b5 := hb (16 * (16 * 5 + i) + j)
  unfold mt_un
  have e : ∀ z : Int, (16 * (16 * z + i) + j = 16 * (16 * (c : Int) + i) + j) ↔ z = (c : Int) := fun z => ⟨fun h => by omega, fun h => by rw [h]⟩
  have z0 : c = 0 → M T (16 * (16 * 0 + i) + j) = 0 := by rintro rfl; exact h0
  have z1 : c = 1 → M T (16 * (16 * 1 + i) + j) = 0 := by rintro rfl; exact h0
  have z2 : c = 2 → M T (16 * (16 * 2 + i) + j) = 0 := by rintro rfl; exact h0
  have z3 : c = 3 → M T (16 * (16 * 3 + i) + j) = 0 := by rintro rfl; exact h0
  have z4 : c = 4 → M T (16 * (16 * 4 + i) + j) = 0 := by rintro rfl; exact h0
  have z5 : c = 5 → M T (16 * (16 * 5 + i) + j) = 0 := by rintro rfl; exact h0
  clear h0
  simp only [pu_if, true_and, e]
  generalize M T (16 * (16 * 0 + i) + j) = v0 at *
  generalize M T (16 * (16 * 1 + i) + j) = v1 at *
  generalize M T (16 * (16 * 2 + i) + j) = v2 at *
  generalize M T (16 * (16 * 3 + i) + j) = v3 at *
  generalize M T (16 * (16 * 4 + i) + j) = v4 at *
  generalize M T (16 * (16 * 5 + i) + j) = v5 at *
  have hh : c = 0 ∨ c = 1 ∨ c = 2 ∨ c = 3 ∨ c = 4 ∨ c = 5 := by omega
  rcases hh with rfl | rfl | rfl | rfl | rfl | rfl <;> simp at z0 z1 z2 z3 z4 z5 ⊢ <;> omega
theorem mt_ix {c c' i i' j j' : Int} (h1 : 0 ≤ i ∧ i < 16) (h2 : 0 ≤ i' ∧ i' < 16) (h3 : 0 ≤ j ∧ j < 16) (h4 : 0 ≤ j' ∧ j' < 16) (h : 16 * (16 * c + i) + j = 16 * (16 * c' + i') + j') : c = c' ∧ i = i' ∧ j = j' := by
  have e1 : 16 * c + i = 16 * c' + i' := by omega
  have e2 : j = j' := by omega
  have e3 : c = c' := by omega
  exact ⟨e3, by omega, e2⟩
theorem t_layOne {M : pj_M} {b T : Nat} {sort wl : Int} {good : Nat} {Q : pj_M → Prop} (PP : Nat → List Nat → Prop) (B : pj_M → Int → Int → Int → Prop)
    (hT : T = 210 ∨ T = 211 ∨ T = 212 ∨ T = 213) (ok : mt_ok M b) (b4 : bz M 214) (v : vg (M b)) (hgd : M 203 12 = (good : Int)) (hgl : good < 64) (hwl : M 203 14 = wl) (hw1 : 0 ≤ wl ∧ wl ≤ 15)
    (hBx : ∀ M1 M2 k i j, eqx M1 M2 → (B M2 k i j ↔ B M1 k i j))
    (hby : ∀ (M1 : pj_M) (k i j : Int) (Q' : Int → pj_M → Prop), mt_ok M1 b → eqt T M M1 → bz M1 214 → 0 ≤ k ∧ k < 12 → 0 ≤ i → i ≤ j → j ≤ wl → (∀ r M2, eqx M1 M2 → bz M2 214 → (r = 0 ∨ r = 1) → (r = 1 ↔ B M1 k i j) → Q' r M2) → w_X12_by 203 sort k i j M1 Q')
    (hsound : ∀ (M1 : pj_M) (k : Nat) (i j : Int), mt_ok M1 b → eqt T M M1 → (k : Int) < M b 0 → 0 ≤ i → i ≤ j → j ≤ wl → (∀ c m0 m, c < 6 → i ≤ m0 → m0 ≤ m → m ≤ j → mt_tb M1 T c m0 m → PP c (mt_w M m0 m)) → md_g (M b) good (k : Int) → B M1 (k : Int) i j → PP (M b (1 + (6 * (k : Int)))).toNat (mt_w M i j))
    (hcomp : ∀ (M1 : pj_M) (i j : Int), mt_ok M1 b → eqt T M M1 → 0 ≤ i → i ≤ j → j ≤ wl → (∀ c m0 m, c < 6 → i ≤ m0 → m0 ≤ m → m ≤ j → m - m0 < j - i → (mt_tb M1 T c m0 m ↔ PP c (mt_w M m0 m))) → (∀ k : Nat, (k : Int) < M b 0 → md_g (M b) good (k : Int) → B M1 (k : Int) i j → mt_tb M1 T (M b (1 + (6 * (k : Int)))).toNat i j) → ∀ c, c < 6 → PP c (mt_w M i j) → mt_tb M1 T c i j)
    (q : ∀ M', eqt T M M' → bz M' T → bz M' 214 → (∀ c i j, c < 6 → 0 ≤ i → i ≤ j → j ≤ wl → (mt_tb M' T c i j ↔ PP c (mt_w M i j))) → Q M') : w_X12_layOne 203 sort T M Q := by
  have hTs : (pj_sh T).2 = 1536 := by rcases hT with rfl | rfl | rfl | rfl <;> decide
  have hT4 : T ≠ 214 ∧ T ≠ 215 ∧ T ≠ 203 ∧ T ≠ 209 ∧ T ≠ b := by have := ok.2.2.1; omega
  have hn := v.1
  unfold w_X12_layOne w_X12_layOne_2
  refine pj_lp_inv (fun p : Int × pj_M => 0 ≤ p.1 ∧ p.1 ≤ 1536 ∧ eqt T M p.2 ∧ bz p.2 T ∧ bz p.2 214 ∧ ∀ x, 0 ≤ x → x < p.1 → p.2 T x = 0) (fun p => (1536 - p.1).toNat) ?_ (0, M) ⟨Int.le_refl _, by show (0 : Int) ≤ 1536; decide, eqt.rf, ?_, b4, fun x h1 h2 => absurd h1 (by have : x < 0 := h2; omega)⟩
  rotate_left
  · obtain ⟨-, -, -, -, -, h0, h1, h2, h3, -⟩ := ok
    rcases hT with rfl | rfl | rfl | rfl <;> assumption
  rintro ⟨x0, M0⟩ ⟨a1, a2, a3, a4, a5, a6⟩ P0 hP0
  dsimp only at a1 a2 a3 a4 a5 a6 hP0 ⊢
  unfold w_X12_layOne_2b
  rw [hTs]
  refine ⟨⟨by omega, by omega⟩, fun hc0 => ?_, fun hc0 => ⟨⟨by omega, by omega⟩, ?_⟩⟩
  rotate_left
  · rintro M1 rfl
    refine hP0 (x0 + 1, _) ⟨by show 0 ≤ x0 + 1; omega, by show x0 + 1 ≤ 1536; omega, a3.tr eqt.up, bz_up a4 (Or.inl rfl), bz_up a5 (Or.inl rfl), fun x h1 h2 => ?_⟩ (by show (1536 - (x0 + 1)).toNat < (1536 - x0).toNat; omega)
    show pj_up M0 T x0 0 T x = 0
    by_cases e : x = x0
    · subst e; exact pu_eq
    · rw [pu_nk e]; exact a6 x h1 (by have : x < x0 + 1 := h2; omega)
  clear hP0 P0
  have okt : ∀ M1, eqt T M M1 → bz M1 T → mt_ok M1 b := by
    intro M1 e hb
    obtain ⟨h1, h2, h3, h4, h5, h6, h7, h8, h9, h10⟩ := ok
    have eb : ∀ x, M1 b x = M b x := fun x => e b x (fun h => hT4.2.2.2.2 h.symm) (by omega) (by omega)
    have bt : ∀ a, bz M a → a ≠ 214 → a ≠ 215 → bz M1 a := fun a ha n1 n2 => by
      by_cases e2 : a = T
      · subst e2; exact hb
      · exact fun x => by rw [e a x e2 n1 n2]; exact ha x
    refine ⟨by rw [e 203 11 (by omega) (by decide) (by decide)]; exact h1, h2, h3, fun k a c => ?_, fun k s a c d f => ?_, bt _ h6 (by decide) (by decide), bt _ h7 (by decide) (by decide), bt _ h8 (by decide) (by decide), bt _ h9 (by decide) (by decide), fun a => ?_⟩
    · unfold mt_sz; rw [eb]; exact h4 k a c
    · unfold mt_sm; rw [eb]; exact h5 k s a c d f
    · rw [e 209 a (by omega) (by decide) (by decide)]; exact h10 a
  -- the state between stretches
  let St : Int → Int → pj_M → Prop := fun sz i M1 => eqt T M M1 ∧ bz M1 T ∧ bz M1 214 ∧ (∀ (c : Nat) (m0 m : Int), c < 6 → 0 ≤ m0 → m0 ≤ m → m ≤ wl → (m - m0 < sz ∨ (m - m0 = sz ∧ m0 < i)) → (mt_tb M1 T c m0 m ↔ PP c (mt_w M m0 m))) ∧ (∀ (c : Nat) (m0 m : Int), c < 6 → 0 ≤ m0 → m0 ≤ m → m ≤ wl → ¬ (m - m0 < sz ∨ (m - m0 = sz ∧ m0 < i)) → ¬ mt_tb M1 T c m0 m)
  have r14 : ∀ M1, eqt T M M1 → M1 203 14 = wl := fun M1 e => by rw [e 203 14 (by omega) (by decide) (by decide)]; exact hwl
  unfold w_X12_layOne_21
  refine pj_lp_inv (fun p : Int × pj_M => 0 ≤ p.1 ∧ p.1 ≤ wl + 1 ∧ St p.1 0 p.2) (fun p => (wl + 1 - p.1).toNat) ?_ (0, M0) ⟨Int.le_refl _, by show 0 ≤ wl + 1; omega, a3, a4, a5, fun c m0 m h1 h2 h3 h4 h5 => absurd h5 (by show ¬ (m - m0 < 0 ∨ (m - m0 = 0 ∧ m0 < 0)); omega), fun c m0 m h1 h2 h3 h4 _ h5 => by
    have := a6 (16 * (16 * (c : Int) + m0) + m) (by omega) (by omega)
    have h6 : M0 T (16 * (16 * (c : Int) + m0) + m) = 1 := h5
    omega⟩
  rintro ⟨sz, M1⟩ ⟨s1, s2, sSt⟩ P1 hP1
  dsimp only at s1 s2 sSt hP1 ⊢
  unfold w_X12_layOne_21b
  rw [r14 M1 sSt.1]
  refine ⟨⟨by omega, by omega⟩, ⟨by omega, by omega⟩, fun hc1 => q M1 sSt.1 sSt.2.1 sSt.2.2.1 (fun c i j h1 h2 h3 h4 => sSt.2.2.2.1 c i j h1 h2 h3 h4 (by omega)), fun hc1 => ?_⟩
  unfold w_X12_layOne_32
  refine pj_lp_inv (fun p : Int × pj_M => 0 ≤ p.1 ∧ p.1 + sz ≤ wl + 1 ∧ St sz p.1 p.2) (fun p => (wl + 1 - p.1).toNat) ?_ (0, M1) ⟨Int.le_refl _, by show 0 + sz ≤ wl + 1; omega, sSt⟩
  rintro ⟨i, M2⟩ ⟨i1, i2, iSt⟩ P2 hP2
  dsimp only at i1 i2 iSt hP2 ⊢
  unfold w_X12_layOne_32b
  rw [r14 M2 iSt.1]
  refine ⟨⟨by omega, by omega⟩, ⟨by omega, by omega⟩, fun hc2 => ?_, fun hc2 => ?_⟩
  · refine hP1 (sz + 1, M2) ⟨by show 0 ≤ sz + 1; omega, by show sz + 1 ≤ wl + 1; omega, iSt.1, iSt.2.1, iSt.2.2.1, fun c m0 m h1 h2 h3 h4 h5 => iSt.2.2.2.1 c m0 m h1 h2 h3 h4 (by omega), fun c m0 m h1 h2 h3 h4 h5 => iSt.2.2.2.2 c m0 m h1 h2 h3 h4 (by omega)⟩ (by show (wl + 1 - (sz + 1)).toNat < (wl + 1 - sz).toNat; omega)
  -- one stretch
  obtain ⟨j, hj⟩ : ∃ j, j = i + sz := ⟨_, rfl⟩
  have hjs : j - i = sz := by omega
  let Cu : pj_M → Prop := fun M3 => eqt T M M3 ∧ bz M3 T ∧ bz M3 214 ∧ (∀ (c : Nat) (m0 m : Int), c < 6 → 0 ≤ m0 → m0 ≤ m → m ≤ wl → (m - m0 < sz ∨ (m - m0 = sz ∧ m0 < i)) → (mt_tb M3 T c m0 m ↔ PP c (mt_w M m0 m))) ∧ (∀ (c : Nat) (m0 m : Int), c < 6 → 0 ≤ m0 → m0 ≤ m → m ≤ wl → ¬ (m - m0 < sz ∨ (m - m0 = sz ∧ m0 < i + 1)) → ¬ mt_tb M3 T c m0 m) ∧ (∀ c : Nat, c < 6 → mt_tb M3 T c i j → PP c (mt_w M i j))
  unfold w_X12_layOne_46
  refine pj_lp_inv (fun p : Int × pj_M => (p.1 = 0 ∨ p.1 = 1) ∧ Cu p.2 ∧ (p.1 = 0 → ∀ k : Nat, (k : Int) < M b 0 → md_g (M b) good (k : Int) → B p.2 (k : Int) i j → mt_tb p.2 T (M b (1 + (6 * (k : Int)))).toNat i j)) (fun p => 2 * mt_un p.2 T i j + p.1.toNat) ?_ (1, M2) ⟨Or.inr rfl, ⟨iSt.1, iSt.2.1, iSt.2.2.1, iSt.2.2.2.1, fun c m0 m h1 h2 h3 h4 h5 => iSt.2.2.2.2 c m0 m h1 h2 h3 h4 (by omega), fun c h1 h2 => absurd h2 (iSt.2.2.2.2 c i j h1 i1 (by omega) (by omega) (by omega))⟩, fun h => absurd (show (1 : Int) = 0 from h) (by decide)⟩
  rintro ⟨mo, M3⟩ ⟨m1, mC, m2⟩ P3 hP3
  dsimp only at m1 mC m2 hP3 ⊢
  unfold w_X12_layOne_46b
  refine ⟨⟨by omega, by omega⟩, fun hc3 => ?_, fun hc3 => ?_⟩
  · have hall := hcomp M3 i j (okt M3 mC.1 mC.2.1) mC.1 i1 (by omega) (by omega) (fun c m0 m h1 h2 h3 h4 h5 => mC.2.2.2.1 c m0 m h1 (by omega) h3 (by omega) (by omega)) (m2 hc3)
    refine hP2 (i + 1, M3) ⟨by show 0 ≤ i + 1; omega, by show i + 1 + sz ≤ wl + 1; omega, mC.1, mC.2.1, mC.2.2.1, fun c m0 m h1 h2 h3 h4 h5 => ?_, fun c m0 m h1 h2 h3 h4 h5 => mC.2.2.2.2.1 c m0 m h1 h2 h3 h4 h5⟩ (by show (wl + 1 - (i + 1)).toNat < (wl + 1 - i).toNat; omega)
    by_cases e : m - m0 = sz ∧ m0 = i
    · obtain ⟨e1, rfl⟩ := e
      have : m = j := by omega
      subst this
      exact ⟨mC.2.2.2.2.2 c h1, hall c h1⟩
    · exact mC.2.2.2.1 c m0 m h1 h2 h3 h4 (by omega)
  -- a round over the alternatives
  have hmo : mo = 1 := by omega
  subst hmo
  unfold w_X12_layOne_57
  refine pj_lp_inv (fun p : Int × Int × pj_M => (p.1 = 0 ∨ p.1 = 1) ∧ 0 ≤ p.2.1 ∧ p.2.1 ≤ M b 0 ∧ Cu p.2.2 ∧ (p.1 = 0 → mt_un p.2.2 T i j = mt_un M3 T i j ∧ ∀ k : Nat, (k : Int) < p.2.1 → md_g (M b) good (k : Int) → B p.2.2 (k : Int) i j → mt_tb p.2.2 T (M b (1 + (6 * (k : Int)))).toNat i j) ∧ (p.1 = 1 → mt_un p.2.2 T i j < mt_un M3 T i j)) (fun p => (M b 0 - p.2.1).toNat) ?_ (0, 0, M3) ⟨Or.inl rfl, Int.le_refl _, by show 0 ≤ M b 0; omega, mC, fun _ => ⟨rfl, fun k h => absurd h (by show ¬ (k : Int) < 0; omega)⟩, fun h => absurd (show (0 : Int) = 1 from h) (by decide)⟩
  rintro ⟨mo, k0, M4⟩ ⟨n1, n2, n3, nC, n4, n5⟩ P4 hP4
  dsimp only at n1 n2 n3 nC n4 n5 hP4 ⊢
  obtain ⟨k, rfl⟩ : ∃ k : Nat, k0 = (k : Int) := ⟨k0.toNat, by omega⟩
  have okM4 := okt M4 nC.1 nC.2.1
  have eb : ∀ M5, eqt T M M5 → ∀ x, M5 b x = M b x := fun M5 e x => e b x (fun h => hT4.2.2.2.2 h.symm) (by have := ok.2.2.1; omega) (by have := ok.2.2.1; omega)
  unfold w_X12_layOne_57b
  refine ⟨b, ⟨okM4.1, okM4.2.1⟩, ⟨by omega, by omega⟩, by rw [eb M4 nC.1]; exact ⟨by omega, by omega⟩, fun hc4 => ?_, fun hc4 => ⟨b, ⟨okM4.1, okM4.2.1⟩, ?_⟩⟩
  · rw [eb M4 nC.1] at hc4
    refine hP3 (mo, M4) ⟨n1, nC, fun h => ?_⟩ ?_
    · intro k' hk'
      exact (n4 h).2 k' (by omega)
    · show 2 * mt_un M4 T i j + mo.toNat < 2 * mt_un M3 T i j + (1 : Int).toNat
      rcases n1 with h | h
      · have := (n4 h).1; rw [h, this]; omega
      · have := n5 h; rw [h]; omega
  · rw [eb M4 nC.1] at hc4
    have hk12 : (0 : Int) ≤ (k : Int) ∧ (k : Int) < 12 := by omega
    have hko := v.2.1 (k : Int) hk12.1 hk12.2
    simp only [w_X12_alt, w_X12_cell, eb M4 nC.1, hTs]
    obtain ⟨c, hc⟩ : ∃ c : Nat, M b (1 + (6 * (k : Int))) = (c : Int) := ⟨(M b (1 + (6 * (k : Int)))).toNat, by omega⟩
    have hcN : (M b (1 + (6 * (k : Int)))).toNat = c := by omega
    rw [hc, ← hj]
    -- nothing is told: on to the next
    have stay : ∀ M5, eqx M4 M5 → bz M5 214 → (mo = 0 → md_g (M b) good (k : Int) → B M4 (k : Int) i j → mt_tb M4 T c i j) → P4 (mo, (k : Int) + 1, M5) := by
      intro M5 e5 c5 h5
      have et : ∀ x, M5 T x = M4 T x := fun x => e5 T x hT4.1 hT4.2.1
      have etb : ∀ c m0 m, mt_tb M5 T c m0 m ↔ mt_tb M4 T c m0 m := fun c m0 m => by unfold mt_tb; rw [et]
      have eun : mt_un M5 T i j = mt_un M4 T i j := by unfold mt_un; simp only [et]
      refine hP4 (mo, (k : Int) + 1, M5) ⟨n1, by show 0 ≤ (k : Int) + 1; omega, by show (k : Int) + 1 ≤ M b 0; omega, ⟨nC.1.tr (eqt.x e5), fun x => by show M5 T x = 0 ∨ M5 T x = 1; rw [et]; exact nC.2.1 x, c5, fun c m0 m h1 h2 h3 h4 h6 => (etb c m0 m).trans (nC.2.2.2.1 c m0 m h1 h2 h3 h4 h6), fun c m0 m h1 h2 h3 h4 h6 h9 => nC.2.2.2.2.1 c m0 m h1 h2 h3 h4 h6 ((etb c m0 m).mp h9), fun c h1 h9 => nC.2.2.2.2.2 c h1 ((etb c i j).mp h9)⟩, fun h => ⟨by show mt_un M5 T i j = _; rw [eun]; exact (n4 h).1, fun k' hk' h6 h7 => ?_⟩, fun h => by show mt_un M5 T i j < _; rw [eun]; exact n5 h⟩ (by show (M b 0 - ((k : Int) + 1)).toNat < (M b 0 - (k : Int)).toNat; omega)
      show mt_tb M5 T _ i j
      rw [etb]
      have h8 : B M4 (k' : Int) i j := (hBx M4 M5 _ _ _ e5).mp h7
      by_cases ek : k' = k
      · subst ek; rw [hcN]; exact h5 h h6 h8
      · exact (n4 h).2 k' (by have : (k' : Int) < (k : Int) + 1 := hk'; omega) h6 h8
    refine ⟨⟨by omega, by omega⟩, ⟨by omega, by omega⟩, bz_in nC.2.1 _, fun hne => stay M4 eqx.rf nC.2.2.1 (fun _ _ _ => bz_ne nC.2.1 hne), fun hz => ⟨b, ⟨okM4.1, okM4.2.1⟩, ?_⟩⟩
    have vM4 : vg (M4 b) := by
      have : M4 b = M b := funext (eb M4 nC.1)
      rw [this]; exact v
    have hM4b : M4 b = M b := funext (eb M4 nC.1)
    refine t_isGood (b := b) (good := good) (by have := ok.2.1.1; rw [this]; decide) vM4 (by rw [nC.1 203 12 (by omega) (by decide) (by decide)]; exact hgd) hgl hk12 (fun r r0 r1 => ⟨by rcases r0 with h | h <;> rw [h] <;> exact ⟨by decide, by decide⟩, fun hr => stay M4 eqx.rf nC.2.2.1 (fun _ h _ => ?_), fun hr => ?_⟩)
    · exfalso
      rw [hM4b] at r1
      have := r1.mpr h
      omega
    rw [hM4b] at r1
    have hgk := r1.mp (r0.resolve_left hr)
    refine hby M4 (k : Int) i j _ okM4 nC.1 nC.2.2.1 hk12 i1 (by omega) (by omega) (fun r M5 e5 c5 q0 q1 => ⟨by rcases q0 with h | h <;> rw [h] <;> exact ⟨by decide, by decide⟩, fun hr1 => ⟨⟨by omega, by omega⟩, ?_⟩, fun hr0 => stay M5 e5 c5 (fun _ _ h => ?_)⟩)
    · rintro M6 rfl
      have hB := q1.mp (q0.resolve_left hr1)
      have et : ∀ x, M5 T x = M4 T x := fun x => e5 T x hT4.1 hT4.2.1
      have b5 : bz M5 T := fun x => by rw [et]; exact nC.2.1 x
      have eun : mt_un M5 T i j = mt_un M4 T i j := by unfold mt_un; simp only [et]
      have hdec := mt_un_up (M := M5) (T := T) (i := i) (j := j) (c := c) b5 (by omega) (by rw [et]; exact hz)
      have etb : ∀ (c' : Nat) (m0 m : Int), 0 ≤ m0 → m0 < 16 → 0 ≤ m → m < 16 → (c' ≠ c ∨ m0 ≠ i ∨ m ≠ j) → (mt_tb (pj_up M5 T (16 * (16 * (c : Int) + i) + j) 1) T c' m0 m ↔ mt_tb M4 T c' m0 m) := by
        intro c' m0 m h1 h2 h3 h4 h5
        have hne : 16 * (16 * (c' : Int) + m0) + m ≠ 16 * (16 * (c : Int) + i) + j := fun he => by
          have := mt_ix ⟨h1, h2⟩ (by omega) ⟨h3, h4⟩ (by omega) he
          omega
        unfold mt_tb
        rw [pu_nk hne, et]
      refine hP4 (1, (k : Int) + 1, _) ⟨Or.inr rfl, by show 0 ≤ (k : Int) + 1; omega, by show (k : Int) + 1 ≤ M b 0; omega, ⟨(nC.1.tr (eqt.x e5)).tr eqt.up, bz_up b5 (Or.inr rfl), bz_up c5 (Or.inr rfl), fun c' m0 m h1 h2 h3 h4 h6 => by rw [etb c' m0 m (by omega) (by omega) (by omega) (by omega) (by omega)]; exact nC.2.2.2.1 c' m0 m h1 h2 h3 h4 h6, fun c' m0 m h1 h2 h3 h4 h6 => by rw [etb c' m0 m (by omega) (by omega) (by omega) (by omega) (by omega)]; exact nC.2.2.2.2.1 c' m0 m h1 h2 h3 h4 h6, fun c' h1 h2 => ?_⟩, fun h => absurd (show (1 : Int) = 0 from h) (by decide), fun _ => ?_⟩ (by show (M b 0 - ((k : Int) + 1)).toNat < (M b 0 - (k : Int)).toNat; omega)
      · by_cases ec : c' = c
        · subst ec
          have := hsound M4 k i j okM4 nC.1 (by omega) i1 (by omega) (by omega) (fun c2 m0 m h1 h2 h3 h4 h5 => ?_) hgk hB
          · rwa [hcN] at this
          · by_cases e : m0 = i ∧ m = j
            · obtain ⟨rfl, rfl⟩ := e; exact nC.2.2.2.2.2 c2 h1 h5
            · exact (nC.2.2.2.1 c2 m0 m h1 (by omega) h3 (by omega) (by omega)).mp h5
        · rw [etb c' i j (by omega) (by omega) (by omega) (by omega) (Or.inl ec)] at h2
          exact nC.2.2.2.2.2 c' h1 h2
      · show mt_un (pj_up M5 T (16 * (16 * (c : Int) + i) + j) 1) T i j < mt_un M3 T i j
        rcases n1 with h | h
        · have := (n4 h).1; omega
        · have := n5 h; omega
    · exfalso
      have := q1.mpr h
      omega
