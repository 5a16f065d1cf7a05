/-- a symbol takes a stretch of the word exactly, by the table of yields -/
def mt_sy (M : pj_M) (s a b : Int) : Prop := (s < 8 ∧ b = a + 1 ∧ M 209 a = s) ∨ (8 ≤ s ∧ M 210 (16 * (16 * (s - 8) + a) + b) = 1)
theorem mt_sy_congr {M M' : pj_M} (h1 : ∀ x, M' 209 x = M 209 x) (h2 : ∀ x, M' 210 x = M 210 x) (s a b : Int) : mt_sy M' s a b ↔ mt_sy M s a b := by unfold mt_sy; rw [h1, h2]
theorem t_goExact {M : pj_M} {s i j : Int} {Q : pj_M → Prop} (hs : 0 ≤ s ∧ s ≤ 13) (hi : 0 ≤ i) (hij : i ≤ j) (hj : j ≤ 15) (b4 : bz M 214) (b0 : bz M 210) (hw : ∀ a, 0 ≤ M 209 a ∧ M 209 a ≤ 7)
    (k : ∀ M', (∀ b x, b ≠ 214 → b ≠ 215 → M' b x = M b x) → bz M' 214 → (∀ m, i ≤ m → m ≤ j → (M' 214 m = 1 ↔ ∃ m0, i ≤ m0 ∧ m0 ≤ m ∧ M 214 m0 = 1 ∧ mt_sy M s m0 m)) → Q M') : w_X12_goExact 203 s i j M Q := by
  unfold w_X12_goExact w_X12_goExact_3
  refine pj_lp_inv (fun q : Int × pj_M => i ≤ q.1 ∧ q.1 ≤ j + 1 ∧ (∀ b x, b ≠ 215 → q.2 b x = M b x) ∧ ∀ x, i ≤ x → x < q.1 → q.2 215 x = 0) (fun q => (j + 1 - q.1).toNat) ?_ (i, M) ⟨Int.le_refl _, by show i ≤ j + 1; omega, fun _ _ _ => rfl, fun x h1 h2 => absurd h1 (by show ¬ i ≤ x; have : x < i := h2; omega)⟩
  rintro ⟨x4, M1⟩ ⟨h1, h2, h3, h4⟩ P hP
  dsimp only at h1 h2 h3 h4 hP ⊢
  simp only [w_X12_goExact_3b, rm_20]
  refine ⟨⟨by omega, by omega⟩, ⟨by omega, by omega⟩, fun hc => ?_, fun hc => ⟨⟨by omega, by omega⟩, ?_⟩⟩
  · -- the second loop
    clear hP P
    have hx4 : x4 = j + 1 := by omega
    subst hx4
    unfold w_X12_goExact_26
    refine pj_lp_inv (fun q : Int × pj_M => i ≤ q.1 ∧ q.1 ≤ j + 1 ∧ (∀ b x, b ≠ 215 → q.2 b x = M b x) ∧ ∀ x, i ≤ x → x ≤ j → (q.2 215 x = 0 ∨ q.2 215 x = 1) ∧ (q.2 215 x = 1 ↔ ∃ m0, i ≤ m0 ∧ m0 < q.1 ∧ m0 ≤ x ∧ M 214 m0 = 1 ∧ mt_sy M s m0 x)) (fun q => (j + 1 - q.1).toNat) ?_ (i, M1) ⟨Int.le_refl _, by show i ≤ j + 1; omega, h3, fun x h5 h6 => ?_⟩
    · rintro ⟨x4, M2⟩ ⟨g1, g2, g3, g4⟩ P hP
      dsimp only at g1 g2 g3 g4 hP ⊢
      simp only [w_X12_goExact_26b, rm_13, rm_19, rm_20]
      have r4 : ∀ x, M2 214 x = M 214 x := fun x => g3 214 x (by decide)
      have r9 : ∀ x, M2 209 x = M 209 x := fun x => g3 209 x (by decide)
      have r0 : ∀ x, M2 210 x = M 210 x := fun x => g3 210 x (by decide)
      refine ⟨⟨by omega, by omega⟩, ⟨by omega, by omega⟩, fun hc2 => ?_, fun hc2 => ⟨⟨by omega, by omega⟩, by rw [r4]; exact bz_in b4 _, fun hr => ⟨⟨by omega, by omega⟩, fun h8 => ?_, fun h8 => ⟨⟨by omega, by omega⟩, ⟨by omega, by omega⟩, fun hje => ?_, fun hje => ⟨⟨by omega, by omega⟩, ?_, ⟨by omega, by omega⟩, fun hne => ?_, fun he => ⟨⟨by omega, by omega⟩, ?_⟩⟩⟩⟩, fun hr => ?_⟩⟩
      · -- the third loop
        clear hP P
        have hx4 : x4 = j + 1 := by omega
        subst hx4
        unfold w_X12_goExact_147
        refine pj_lp_inv (fun q : Int × pj_M => i ≤ q.1 ∧ q.1 ≤ j + 1 ∧ (∀ b x, b ≠ 214 → q.2 b x = M2 b x) ∧ bz q.2 214 ∧ ∀ x, i ≤ x → x < q.1 → q.2 214 x = M2 215 x) (fun q => (j + 1 - q.1).toNat) ?_ (i, M2) ⟨Int.le_refl _, by show i ≤ j + 1; omega, fun _ _ _ => rfl, fun x => by show M2 214 x = 0 ∨ M2 214 x = 1; rw [r4]; exact b4 x, fun x h1 h2 => absurd h1 (by have : x < i := h2; omega)⟩
        rintro ⟨x4, M3⟩ ⟨f1, f2, f3, f4, f5⟩ P hP
        dsimp only at f1 f2 f3 f4 f5 hP ⊢
        simp only [w_X12_goExact_147b, rm_19, rm_20]
        have v5 : ∀ x, M3 215 x = M2 215 x := fun x => f3 215 x (by decide)
        refine ⟨⟨by omega, by omega⟩, ⟨by omega, by omega⟩, fun hc3 => ?_, fun hc3 => ⟨⟨by omega, by omega⟩, by rw [v5]; exact (g4 x4 f1 (by omega)).1, ⟨by omega, by omega⟩, ?_⟩⟩
        · have hx4 : x4 = j + 1 := by omega
          subst hx4
          refine k M3 (fun b x h1 h2 => by rw [f3 b x h1, g3 b x h2]) f4 (fun m h1 h2 => ?_)
          rw [f5 m h1 (by omega), (g4 m h1 h2).2]
          constructor
          · rintro ⟨m0, e1, e2, e3, e4, e5⟩; exact ⟨m0, e1, e3, e4, e5⟩
          · rintro ⟨m0, e1, e3, e4, e5⟩; exact ⟨m0, e1, by omega, e3, e4, e5⟩
        · rintro M4 rfl
          refine hP (x4 + 1, _) ⟨by show i ≤ x4 + 1; omega, by show x4 + 1 ≤ j + 1; omega, fun b x hb => ?_, bz_up f4 (by rw [v5]; exact (g4 x4 f1 (by omega)).1), fun x e1 e2 => ?_⟩ (by show (j + 1 - (x4 + 1)).toNat < (j + 1 - x4).toNat; omega)
          · show pj_up M3 214 x4 _ b x = M2 b x
            rw [pu_ne hb, f3 b x hb]
          · show pj_up M3 214 x4 _ 214 x = M2 215 x
            by_cases hx : x = x4
            · subst hx; rw [pu_eq, v5]
            · rw [pu_nk hx, f5 x e1 (by have : x < x4 + 1 := e2; omega)]
      · -- a capital
        unfold w_X12_goExact_85
        refine pj_lp_inv (fun q : Int × pj_M => x4 ≤ q.1 ∧ q.1 ≤ j + 1 ∧ (∀ b x, b ≠ 215 → q.2 b x = M b x) ∧ ∀ x, i ≤ x → x ≤ j → (q.2 215 x = 0 ∨ q.2 215 x = 1) ∧ (q.2 215 x = 1 ↔ (∃ m0, i ≤ m0 ∧ m0 < x4 ∧ m0 ≤ x ∧ M 214 m0 = 1 ∧ mt_sy M s m0 x) ∨ (x4 ≤ x ∧ x < q.1 ∧ mt_sy M s x4 x))) (fun q => (j + 1 - q.1).toNat) ?_ (x4, M2) ⟨Int.le_refl _, by show x4 ≤ j + 1; omega, g3, fun x h5 h6 => ⟨(g4 x h5 h6).1, ?_⟩⟩
        · rintro ⟨x5, M3⟩ ⟨f1, f2, f3, f4⟩ P2 hP2
          dsimp only at f1 f2 f3 f4 hP2 ⊢
          simp only [w_X12_goExact_85b, w_X12_goExact_126, w_X12_goExact_131, w_X12_cell, rm_15, rm_20]
          have v0 : ∀ x, M3 210 x = M 210 x := fun x => f3 210 x (by decide)
          have vin : pj_in (M3 215 x5) ∨ ¬ x5 ≤ j := by
            by_cases h : x5 ≤ j
            · left; rcases (f4 x5 (by omega) h).1 with h | h <;> rw [h] <;> exact ⟨by decide, by decide⟩
            · exact Or.inr h
          have hsy : mt_sy M s x4 x5 ↔ M 210 (16 * (16 * (s - 8) + x4) + x5) = 1 := by
            unfold mt_sy
            constructor
            · rintro (h | h)
              · omega
              · exact h.2
            · exact fun h => Or.inr ⟨h8, h⟩
          -- one step: what next is behind it
          have step : ∀ (y : Int), (y = 0 ∨ y = 1) → x5 ≤ j → (y = 1 ↔ M3 215 x5 = 1 ∨ mt_sy M s x4 x5) → P2 (x5 + 1, pj_up M3 215 x5 y) := by
            intro y hy hle hyy
            refine hP2 (x5 + 1, _) ⟨by show x4 ≤ x5 + 1; omega, by show x5 + 1 ≤ j + 1; omega, fun b x hb => ?_, fun x e1 e2 => ?_⟩ (by show (j + 1 - (x5 + 1)).toNat < (j + 1 - x5).toNat; omega)
            · show pj_up M3 215 x5 y b x = M b x
              rw [pu_ne hb, f3 b x hb]
            · show (pj_up M3 215 x5 y 215 x = 0 ∨ pj_up M3 215 x5 y 215 x = 1) ∧ (pj_up M3 215 x5 y 215 x = 1 ↔ _ ∨ (x4 ≤ x ∧ x < x5 + 1 ∧ mt_sy M s x4 x))
              by_cases hx : x = x5
              · subst hx
                rw [pu_eq]
                refine ⟨hy, ?_⟩
                rw [hyy, (f4 x e1 e2).2]
                constructor
                · rintro ((h | h) | h)
                  · exact Or.inl h
                  · omega
                  · exact Or.inr ⟨f1, by omega, h⟩
                · rintro (h | h)
                  · exact Or.inl (Or.inl h)
                  · exact Or.inr h.2.2
              · rw [pu_nk hx]
                refine ⟨(f4 x e1 e2).1, ?_⟩
                rw [(f4 x e1 e2).2]
                constructor
                · rintro (h | h)
                  · exact Or.inl h
                  · exact Or.inr ⟨h.1, by omega, h.2.2⟩
                · rintro (h | h)
                  · exact Or.inl h
                  · exact Or.inr ⟨h.1, by omega, h.2.2⟩
          refine ⟨⟨by omega, by omega⟩, ⟨by omega, by omega⟩, fun hc3 => ?_, fun hc3 => ⟨⟨by omega, by omega⟩, vin.resolve_right (by omega), fun hn => ?_, fun hn => ⟨⟨by omega, by omega⟩, by rw [v0]; exact bz_in b0 _, fun hy => ?_, fun hy => ?_⟩⟩⟩
          · -- the capital is done
            have hx5 : x5 = j + 1 := by omega
            subst hx5
            refine hP (x4 + 1, M3) ⟨by show i ≤ x4 + 1; omega, by show x4 + 1 ≤ j + 1; omega, f3, fun x e1 e2 => ⟨(f4 x e1 e2).1, ?_⟩⟩ (by show (j + 1 - (x4 + 1)).toNat < (j + 1 - x4).toNat; omega)
            rw [(f4 x e1 e2).2]
            have hr1 : M 214 x4 = 1 := by rw [← r4]; exact bz_ne (fun x => by rw [r4]; exact b4 x) hr
            constructor
            · rintro (⟨m0, a1, a2, a3, a4, a5⟩ | ⟨a1, a2, a3⟩)
              · exact ⟨m0, a1, by show m0 < x4 + 1; omega, a3, a4, a5⟩
              · exact ⟨x4, g1, by show x4 < x4 + 1; omega, a1, hr1, a3⟩
            · rintro ⟨m0, a1, a2, a3, a4, a5⟩
              by_cases hm : m0 = x4
              · subst hm; exact Or.inr ⟨a3, by omega, a5⟩
              · exact Or.inl ⟨m0, a1, by have : m0 < x4 + 1 := a2; omega, a3, a4, a5⟩
          · refine ⟨by simp, ⟨by omega, by omega⟩, fun M4 hM4 => ?_⟩
            subst hM4
            refine step 1 (Or.inr rfl) (by omega) ⟨fun _ => Or.inl ?_, fun _ => rfl⟩
            rcases (f4 x5 (by omega) (by omega)).1 with h | h
            · exact absurd h hn
            · exact h
          · refine ⟨by simp, ⟨by omega, by omega⟩, fun M4 hM4 => ?_⟩
            subst hM4
            refine step 0 (Or.inl rfl) (by omega) ⟨fun h => absurd h (by decide), ?_⟩
            rintro (h | h)
            · omega
            · rw [hsy, ← v0] at h; omega
          · refine ⟨by simp, ⟨by omega, by omega⟩, fun M4 hM4 => ?_⟩
            subst hM4
            refine step 1 (Or.inr rfl) (by omega) ⟨fun _ => Or.inr ?_, fun _ => rfl⟩
            rw [hsy, ← v0]
            exact bz_ne (fun x => by rw [v0]; exact b0 x) hy
        · rw [(g4 x h5 h6).2]
          constructor
          · exact fun h => Or.inl h
          · rintro (h | h)
            · exact h
            · have := h.2.1; dsimp only at this; omega
      · -- a sign at the end
        refine hP (x4 + 1, M2) ⟨by show i ≤ x4 + 1; omega, by show x4 + 1 ≤ j + 1; omega, g3, fun x e1 e2 => ⟨(g4 x e1 e2).1, ?_⟩⟩ (by show (j + 1 - (x4 + 1)).toNat < (j + 1 - x4).toNat; omega)
        rw [(g4 x e1 e2).2]
        constructor
        · rintro ⟨m0, a1, a2, a3, a4, a5⟩; exact ⟨m0, a1, by show m0 < x4 + 1; omega, a3, a4, a5⟩
        · rintro ⟨m0, a1, a2, a3, a4, a5⟩
          refine ⟨m0, a1, ?_, a3, a4, a5⟩
          by_cases hm : m0 = x4
          · subst hm
            rcases a5 with a5 | a5 <;> omega
          · have : m0 < x4 + 1 := a2
            omega
      · rw [r9]; have := hw x4; exact ⟨by omega, by omega⟩
      · -- another sign
        refine hP (x4 + 1, M2) ⟨by show i ≤ x4 + 1; omega, by show x4 + 1 ≤ j + 1; omega, g3, fun x e1 e2 => ⟨(g4 x e1 e2).1, ?_⟩⟩ (by show (j + 1 - (x4 + 1)).toNat < (j + 1 - x4).toNat; omega)
        rw [(g4 x e1 e2).2]
        constructor
        · rintro ⟨m0, a1, a2, a3, a4, a5⟩; exact ⟨m0, a1, by show m0 < x4 + 1; omega, a3, a4, a5⟩
        · rintro ⟨m0, a1, a2, a3, a4, a5⟩
          refine ⟨m0, a1, ?_, a3, a4, a5⟩
          by_cases hm : m0 = x4
          · subst hm
            rw [r9] at hne
            rcases a5 with a5 | a5
            · exact absurd a5.2.2 hne
            · omega
          · have : m0 < x4 + 1 := a2
            omega
      · -- the sign
        rintro M3 rfl
        rw [r9] at he
        have hr1 : M 214 x4 = 1 := by rw [← r4]; exact bz_ne (fun x => by rw [r4]; exact b4 x) hr
        refine hP (x4 + 1, _) ⟨by show i ≤ x4 + 1; omega, by show x4 + 1 ≤ j + 1; omega, fun b x hb => ?_, fun x e1 e2 => ?_⟩ (by show (j + 1 - (x4 + 1)).toNat < (j + 1 - x4).toNat; omega)
        · show pj_up M2 215 (x4 + 1) 1 b x = M b x
          rw [pu_ne hb, g3 b x hb]
        · show (pj_up M2 215 (x4 + 1) 1 215 x = 0 ∨ pj_up M2 215 (x4 + 1) 1 215 x = 1) ∧ (pj_up M2 215 (x4 + 1) 1 215 x = 1 ↔ ∃ m0, i ≤ m0 ∧ m0 < x4 + 1 ∧ m0 ≤ x ∧ M 214 m0 = 1 ∧ mt_sy M s m0 x)
          by_cases hx : x = x4 + 1
          · subst hx
            rw [pu_eq]
            exact ⟨Or.inr rfl, fun _ => ⟨x4, g1, by omega, by omega, hr1, Or.inl ⟨by omega, rfl, he⟩⟩, fun _ => rfl⟩
          · rw [pu_nk hx]
            refine ⟨(g4 x e1 e2).1, ?_⟩
            rw [(g4 x e1 e2).2]
            constructor
            · rintro ⟨m0, a1, a2, a3, a4, a5⟩; exact ⟨m0, a1, by omega, a3, a4, a5⟩
            · rintro ⟨m0, a1, a2, a3, a4, a5⟩
              refine ⟨m0, a1, ?_, a3, a4, a5⟩
              by_cases hm : m0 = x4
              · subst hm
                rcases a5 with a5 | a5 <;> omega
              · omega
      · -- not reached
        refine hP (x4 + 1, M2) ⟨by show i ≤ x4 + 1; omega, by show x4 + 1 ≤ j + 1; omega, g3, fun x e1 e2 => ⟨(g4 x e1 e2).1, ?_⟩⟩ (by show (j + 1 - (x4 + 1)).toNat < (j + 1 - x4).toNat; omega)
        rw [(g4 x e1 e2).2]
        constructor
        · rintro ⟨m0, a1, a2, a3, a4, a5⟩; exact ⟨m0, a1, by show m0 < x4 + 1; omega, a3, a4, a5⟩
        · rintro ⟨m0, a1, a2, a3, a4, a5⟩
          refine ⟨m0, a1, ?_, a3, a4, a5⟩
          by_cases hm : m0 = x4
          · subst hm
            rw [r4] at hr
            omega
          · have : m0 < x4 + 1 := a2
            omega
    · have e0 : M1 215 x = 0 := h4 x h5 (by omega)
      show (M1 215 x = 0 ∨ M1 215 x = 1) ∧ (M1 215 x = 1 ↔ _)
      refine ⟨Or.inl e0, fun h => by omega, ?_⟩
      rintro ⟨m0, a1, a2, -⟩
      exfalso
      have : m0 < i := a2
      omega
  · rintro M2 rfl
    refine hP (x4 + 1, _) ⟨by show i ≤ x4 + 1; omega, by show x4 + 1 ≤ j + 1; omega, fun b x hb => ?_, fun x e1 e2 => ?_⟩ (by show (j + 1 - (x4 + 1)).toNat < (j + 1 - x4).toNat; omega)
    · show pj_up M1 215 x4 0 b x = M b x
      rw [pu_ne hb, h3 b x hb]
    · show pj_up M1 215 x4 0 215 x = 0
      by_cases hx : x = x4
      · subst hx; exact pu_eq
      · rw [pu_nk hx]; exact h4 x e1 (by have : x < x4 + 1 := e2; omega)
