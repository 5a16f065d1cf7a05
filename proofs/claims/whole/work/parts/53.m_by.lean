def mt_sm (M : pj_M) (b : Nat) (k s : Int) : Int := M b (((1 + (6 * k)) + 2) + s)
def mt_sz (M : pj_M) (b : Nat) (k : Int) : Int := M b ((1 + (6 * k)) + 1)
/-- the row of symbols from s0 on takes, exactly, what is behind R0 -/
def mt_R (M : pj_M) (b : Nat) (k i : Int) (R0 : Int → Prop) (s0 : Int) : Nat → Int → Prop
  | 0, m => R0 m
  | n + 1, m => ∃ m0, i ≤ m0 ∧ m0 ≤ m ∧ mt_R M b k i R0 s0 n m0 ∧ mt_sy M (mt_sm M b k (s0 + (n : Int))) m0 m
/-- a symbol takes a stretch in part, by a table -/
def mt_pt (M : pj_M) (T : Nat) (s a c : Int) : Prop := (s < 8 ∧ (a = c ∨ (c = a + 1 ∧ M 209 a = s))) ∨ (8 ≤ s ∧ M T (16 * (16 * (s - 8) + a) + c) = 1)
def mt_ok (M : pj_M) (b : Nat) : Prop := M 203 11 = (b : Int) ∧ pj_ol b 1 95 ∧ (b = 204 ∨ b = 224) ∧ (∀ k, 0 ≤ k → k < 12 → 0 ≤ mt_sz M b k ∧ mt_sz M b k ≤ 4) ∧ (∀ k s, 0 ≤ k → k < 12 → 0 ≤ s → s < 4 → 0 ≤ mt_sm M b k s ∧ mt_sm M b k s ≤ 13) ∧ bz M 210 ∧ bz M 211 ∧ bz M 212 ∧ bz M 213 ∧ (∀ a, 0 ≤ M 209 a ∧ M 209 a ≤ 7)
/-- only what is scratch has changed -/
def eqx (M M' : pj_M) : Prop := ∀ c x, c ≠ 214 → c ≠ 215 → M' c x = M c x
theorem eqx.rf {M : pj_M} : eqx M M := fun _ _ _ _ => rfl
theorem eqx.tr {M M1 M2 : pj_M} (h : eqx M M1) (h2 : eqx M1 M2) : eqx M M2 := fun c x h3 h4 => (h2 c x h3 h4).trans (h c x h3 h4)
theorem eqx.up {M : pj_M} {k v : Int} : eqx M (pj_up M 214 k v) := fun c x h _ => pu_ne h
theorem bz.eqx {M M' : pj_M} {a : Nat} (h : bz M a) (e : eqx M M') (h1 : a ≠ 214) (h2 : a ≠ 215) : bz M' a := fun x => by rw [e a x h1 h2]; exact h x
theorem mt_sm.eqx {M M' : pj_M} {b : Nat} (e : eqx M M') (hb : b = 204 ∨ b = 224) (k s : Int) : mt_sm M' b k s = mt_sm M b k s := e b _ (by omega) (by omega)
theorem mt_sz.eqx {M M' : pj_M} {b : Nat} (e : eqx M M') (hb : b = 204 ∨ b = 224) (k : Int) : mt_sz M' b k = mt_sz M b k := e b _ (by omega) (by omega)
theorem mt_sy.eqx {M M' : pj_M} (e : eqx M M') (s a b : Int) : mt_sy M' s a b ↔ mt_sy M s a b := mt_sy_congr (fun x => e 209 x (by decide) (by decide)) (fun x => e 210 x (by decide) (by decide)) s a b
theorem mt_pt.eqx {M M' : pj_M} {T : Nat} (e : eqx M M') (h1 : T ≠ 214) (h2 : T ≠ 215) (s a b : Int) : mt_pt M' T s a b ↔ mt_pt M T s a b := by unfold mt_pt; rw [e 209 _ (by decide) (by decide), e T _ h1 h2]
theorem mt_ok.eqx {M M' : pj_M} {b : Nat} (h : mt_ok M b) (e : eqx M M') : mt_ok M' b := by
  obtain ⟨h1, h2, h3, h4, h5, h6, h7, h8, h9, h10⟩ := h
  refine ⟨by rw [e 203 11 (by decide) (by decide)]; exact h1, h2, h3, fun k a c => ?_, fun k s a c d f => ?_, h6.eqx e (by decide) (by decide), h7.eqx e (by decide) (by decide), h8.eqx e (by decide) (by decide), h9.eqx e (by decide) (by decide), fun a => ?_⟩
  · rw [mt_sz.eqx e h3]; exact h4 k a c
  · rw [mt_sm.eqx e h3]; exact h5 k s a c d f
  · rw [e 209 a (by decide) (by decide)]; exact h10 a
theorem t_longOf {M : pj_M} {b : Nat} {k : Int} {Q : Int → pj_M → Prop} (ok : mt_ok M b) (hk : 0 ≤ k ∧ k < 12) (q : Q (mt_sz M b k) M) : w_X12_longOf 203 k M Q :=
  ⟨b, ⟨ok.1, ok.2.1⟩, ⟨by omega, by omega⟩, q⟩
theorem t_symbolOf {M : pj_M} {b : Nat} {k s : Int} {Q : Int → pj_M → Prop} (ok : mt_ok M b) (hk : 0 ≤ k ∧ k < 12) (hs : 0 ≤ s ∧ s < 4) (q : Q (mt_sm M b k s) M) : w_X12_symbolOf 203 k s M Q :=
  ⟨b, ⟨ok.1, ok.2.1⟩, ⟨by omega, by omega⟩, q⟩
theorem t_exact {M : pj_M} {s a c : Int} {Q : Int → pj_M → Prop} (hs : 0 ≤ s ∧ s ≤ 13) (ha : 0 ≤ a ∧ a ≤ c) (hc : c ≤ 15) (b0 : bz M 210) (hw : ∀ a, 0 ≤ M 209 a ∧ M 209 a ≤ 7)
    (q : ∀ r, (r = 0 ∨ r = 1) → (r = 1 ↔ mt_sy M s a c) → Q r M) : w_X12_exact 203 s a c M Q := by
  have hwa := hw a
  unfold w_X12_exact mt_sy at *
  simp only [w_X12_cell, rm_13, rm_15]
  refine ⟨⟨by omega, by omega⟩, fun h8 => ⟨⟨by omega, by omega⟩, b0 _, q _ (b0 _) ⟨fun h => Or.inr ⟨h8, h⟩, ?_⟩⟩, fun h8 => ⟨⟨by omega, by omega⟩, ⟨by omega, by omega⟩, fun hne => q 0 (Or.inl rfl) ⟨fun h => by omega, ?_⟩, fun he => ⟨⟨by omega, by omega⟩, ⟨by omega, by omega⟩, ⟨by omega, by omega⟩, fun hn => q 0 (Or.inl rfl) ⟨fun h => by omega, ?_⟩, fun hy => q 1 (Or.inr rfl) ⟨fun _ => Or.inl ⟨by omega, he, hy⟩, fun _ => rfl⟩⟩⟩⟩
  · rintro (h | h)
    · omega
    · exact h.2
  · rintro (h | h) <;> omega
  · rintro (h | h)
    · exact absurd h.2.2 hn
    · omega
theorem t_part {M : pj_M} {T : Nat} {s a c : Int} {Q : Int → pj_M → Prop} (hs : 0 ≤ s ∧ s ≤ 13) (ha : 0 ≤ a ∧ a ≤ c) (hc : c ≤ 15) (hT : pj_sh T = (2, 1536)) (bT : bz M T) (b0 : bz M 210) (hw : ∀ a, 0 ≤ M 209 a ∧ M 209 a ≤ 7)
    (q : ∀ r, (r = 0 ∨ r = 1) → (r = 1 ↔ mt_pt M T s a c) → Q r M) : w_X12_part 203 T s a c M Q := by
  unfold w_X12_part
  simp only [w_X12_cell, hT]
  refine ⟨⟨by omega, by omega⟩, fun h8 => ⟨⟨by omega, by omega⟩, bT _, q _ (bT _) ⟨fun h => Or.inr ⟨h8, h⟩, ?_⟩⟩, fun h8 => ⟨⟨by omega, by omega⟩, ⟨by omega, by omega⟩, fun he => q 1 (Or.inr rfl) ⟨fun _ => Or.inl ⟨by omega, Or.inl he⟩, fun _ => rfl⟩, fun hne => t_exact hs ha hc b0 hw (fun r h0 h1 => ⟨by rcases h0 with h | h <;> rw [h] <;> exact ⟨by decide, by decide⟩, fun hr => q 0 (Or.inl rfl) ⟨fun h => by omega, ?_⟩, fun hr => q 1 (Or.inr rfl) ⟨fun _ => ?_, fun _ => rfl⟩⟩)⟩⟩
  · rintro (h | h)
    · omega
    · exact h.2
  · rintro (h | h)
    · exfalso
      have : mt_sy M s a c := Or.inl ⟨h.1, h.2.resolve_left hne⟩
      rw [← h1] at this
      omega
    · omega
  · rcases h1.mp (h0.resolve_left hr) with h | h
    · exact Or.inl ⟨h.1, Or.inr h.2⟩
    · omega
theorem t_onlyAt {M : pj_M} {i j : Int} {Q : pj_M → Prop} (hi : 0 ≤ i) (hij : i ≤ j) (hj : j ≤ 15) (b4 : bz M 214) (k : ∀ M', eqx M M' → bz M' 214 → (∀ m, i ≤ m → m ≤ j → (M' 214 m = 1 ↔ m = i)) → Q M') : w_X12_onlyAt 203 i j M Q := by
  unfold w_X12_onlyAt w_X12_onlyAt_2
  refine pj_lp_inv (fun q : Int × pj_M => i ≤ q.1 ∧ q.1 ≤ j + 1 ∧ eqx M q.2 ∧ bz q.2 214 ∧ ∀ x, i ≤ x → x < q.1 → (q.2 214 x = 1 ↔ x = i)) (fun q => (j + 1 - q.1).toNat) ?_ (i, M) ⟨Int.le_refl _, by show i ≤ j + 1; omega, eqx.rf, b4, fun x h1 h2 => absurd h1 (by have : x < i := h2; omega)⟩
  rintro ⟨x3, M1⟩ ⟨h1, h2, h3, h4, h5⟩ P hP
  dsimp only at h1 h2 h3 h4 h5 hP ⊢
  simp only [w_X12_onlyAt_2b, w_X12_onlyAt_22, rm_19]
  have step : ∀ y : Int, (y = 0 ∨ y = 1) → x3 ≤ j → (y = 1 ↔ x3 = i) → P (x3 + 1, pj_up M1 214 x3 y) := by
    intro y hy hle hyy
    refine hP (x3 + 1, _) ⟨by show i ≤ x3 + 1; omega, by show x3 + 1 ≤ j + 1; omega, h3.tr eqx.up, bz_up h4 hy, fun x e1 e2 => ?_⟩ (by show (j + 1 - (x3 + 1)).toNat < (j + 1 - x3).toNat; omega)
    show pj_up M1 214 x3 y 214 x = 1 ↔ x = i
    by_cases hx : x = x3
    · subst hx; rw [pu_eq]; exact hyy
    · rw [pu_nk hx]; exact h5 x e1 (by have : x < x3 + 1 := e2; omega)
  refine ⟨⟨by omega, by omega⟩, ⟨by omega, by omega⟩, fun hc => k M1 h3 h4 (fun m e1 e2 => h5 m e1 (by omega)), fun hc => ⟨⟨by omega, by omega⟩, ⟨by omega, by omega⟩, fun hne => ⟨by simp, ⟨by omega, by omega⟩, fun M2 e => ?_⟩, fun he => ⟨by simp, ⟨by omega, by omega⟩, fun M2 e => ?_⟩⟩⟩
  · subst e; exact step 0 (Or.inl rfl) (by omega) ⟨fun h => absurd h (by decide), fun h => absurd h hne⟩
  · subst e; exact step 1 (Or.inr rfl) (by omega) ⟨fun _ => he, fun _ => rfl⟩
/-- one more symbol, exactly, in the words of mt_R -/
theorem t_goR {M M1 : pj_M} {b : Nat} {k i j s0 : Int} {n : Nat} {R0 : Int → Prop} {Q : pj_M → Prop} (ok : mt_ok M b) (hk : 0 ≤ k ∧ k < 12) (hs : 0 ≤ s0 + (n : Int) ∧ s0 + (n : Int) < 4) (hi : 0 ≤ i) (hij : i ≤ j) (hj : j ≤ 15) (e : eqx M M1) (b4 : bz M1 214) (hR : ∀ m, i ≤ m → m ≤ j → (M1 214 m = 1 ↔ mt_R M b k i R0 s0 n m))
    (q : ∀ M', eqx M M' → bz M' 214 → (∀ m, i ≤ m → m ≤ j → (M' 214 m = 1 ↔ mt_R M b k i R0 s0 (n + 1) m)) → Q M') : w_X12_symbolOf 203 k (s0 + (n : Int)) M1 (fun t M2 => w_X12_goExact 203 t i j M2 Q) := by
  have ok1 := ok.eqx e
  refine t_symbolOf ok1 hk hs ?_
  rw [mt_sm.eqx e ok.2.2.1]
  refine t_goExact (ok.2.2.2.2.1 k _ hk.1 hk.2 hs.1 hs.2) hi hij hj b4 ok1.2.2.2.2.2.1 ok1.2.2.2.2.2.2.2.2.2 (fun M' h1 h2 h3 => q M' (e.tr h1) h2 (fun m e1 e2 => ?_))
  rw [h3 m e1 e2]
  constructor
  · rintro ⟨m0, a1, a2, a3, a4⟩
    exact ⟨m0, a1, a2, (hR m0 a1 (by omega)).mp a3, (mt_sy.eqx e _ _ _).mp a4⟩
  · rintro ⟨m0, a1, a2, a3, a4⟩
    exact ⟨m0, a1, a2, (hR m0 a1 (by omega)).mpr a3, (mt_sy.eqx e _ _ _).mpr a4⟩
theorem t_yieldsBy {M : pj_M} {b : Nat} {k i j : Int} {Q : Int → pj_M → Prop} (ok : mt_ok M b) (b4 : bz M 214) (hk : 0 ≤ k ∧ k < 12) (hi : 0 ≤ i) (hij : i ≤ j) (hj : j ≤ 15)
    (q : ∀ r M', eqx M M' → bz M' 214 → (r = 0 ∨ r = 1) → (r = 1 ↔ mt_R M b k i (fun m => m = i) 0 (mt_sz M b k).toNat j) → Q r M') : w_X12_yieldsBy 203 k i j M Q := by
  have hz := ok.2.2.2.1 k hk.1 hk.2
  unfold w_X12_yieldsBy
  refine t_onlyAt hi hij hj b4 (fun M1 e1 c1 r1 => ?_)
  unfold w_X12_yieldsBy_9
  refine pj_lp_inv (fun p : Int × pj_M => ∃ n : Nat, p.1 = (n : Int) ∧ (n : Int) ≤ mt_sz M b k ∧ eqx M p.2 ∧ bz p.2 214 ∧ ∀ m, i ≤ m → m ≤ j → (p.2 214 m = 1 ↔ mt_R M b k i (fun m => m = i) 0 n m)) (fun p => (mt_sz M b k - p.1).toNat) ?_ (0, M1) ⟨0, rfl, by show (0 : Int) ≤ _; omega, e1, c1, r1⟩
  rintro ⟨x4, M2⟩ ⟨n, h0, h1, e2, c2, r2⟩ P hP
  dsimp only at h0 h1 e2 c2 r2 hP ⊢
  subst h0
  unfold w_X12_yieldsBy_9b
  refine t_longOf (ok.eqx e2) hk ?_
  rw [mt_sz.eqx e2 ok.2.2.1]
  refine ⟨⟨by omega, by omega⟩, ⟨by omega, by omega⟩, fun hc => ?_, fun hc => ?_⟩
  · simp only [rm_19]
    refine ⟨⟨by omega, by omega⟩, c2 j, q _ M2 e2 c2 (c2 j) ?_⟩
    have : (mt_sz M b k).toNat = n := by omega
    rw [this]
    exact r2 j hij (Int.le_refl _)
  · have h5 := t_goR (s0 := 0) (n := n) (R0 := fun m => m = i) (Q := fun M3 => P ((n : Int) + 1, M3)) ok hk (by omega) hi hij hj e2 c2 r2 (fun M3 e3 c3 r3 => hP ((n : Int) + 1, M3) ⟨n + 1, by show (n : Int) + 1 = _; omega, by omega, e3, c3, r3⟩ (by show (mt_sz M b k - ((n : Int) + 1)).toNat < (mt_sz M b k - (n : Int)).toNat; omega))
    rw [Int.zero_add] at h5
    exact h5
