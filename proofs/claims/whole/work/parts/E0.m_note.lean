/-- what a change of the model leaves -/
def mph (c : Nat) (x : Int) : Prop := c < 203 ∨ c = 205 ∨ c = 206 ∨ c = 222 ∨ c = 223 ∨ 227 < c ∨ (c = 203 ∧ (x = 2 ∨ x = 4))
def eqh (M M' : pj_M) : Prop := ∀ c x, mph c x → M' c x = M c x
theorem eqh.rf {M : pj_M} : eqh M M := fun _ _ _ => rfl
theorem eqh.tr {M M1 M2 : pj_M} (h : eqh M M1) (h2 : eqh M1 M2) : eqh M M2 := fun c x h3 => (h2 c x h3).trans (h c x h3)
theorem eqh.up {M : pj_M} {a : Nat} {k v : Int} (h : ¬ mph a k) : eqh M (pj_up M a k v) := fun c x hc => by
  rw [pu_if, if_neg]
  rintro ⟨rfl, rfl⟩
  exact h hc
theorem eqh.p {M M' : pj_M} (h : eqp M M') : eqh M M' := fun c x hc => h c x (by unfold mph at hc; unfold mpk; omega)
theorem eqh.at {M M' : pj_M} (h : eqh M M') {c : Nat} (hc : c < 203 ∨ c = 205 ∨ c = 206 ∨ c = 222 ∨ c = 223 ∨ 227 < c) : M' c = M c := funext fun x => h c x (by unfold mph; omega)
theorem eqh.n {M M' : pj_M} {b : Nat} (hb : ∀ x, ¬ mph b x) (h : ∀ a, a ≠ b → M' a = M a) : eqh M M' := fun c x hc => by
  rw [h c (fun e => by subst e; exact hb x hc)]
/-- a row is put behind the rows that can be come back to -/
def pshm (M : pj_M) (T : Int → Int) (M' : pj_M) : Prop := M' 203 34 = min (M 203 34 + 1) 10 ∧ ∀ i x, 0 ≤ i → i < min (M 203 34 + 1) 10 → 0 ≤ x → x < 95 → M' 225 (95 * i + x) = if i = min (M 203 34 + 1) 10 - 1 then T x else if M 203 34 < 10 then M 225 (95 * i + x) else M 225 (95 * (i + 1) + x)
section
variable {M : pj_M} {Q : pj_M → Prop}
theorem t_note49 {z : Int} (hz : M 203 34 = z) (hzb : 0 ≤ z ∧ z ≤ 9) (q : ∀ M', (∀ a x, a ≠ 225 → ¬ (a = 203 ∧ x = 34) → M' a x = M a x) → M' 203 34 = z + 1 → (∀ y, M' 225 y = if 95 * z ≤ y ∧ y < 95 * z + 95 then M 226 (y - 95 * z) else M 225 y) → Q M') : w_X12_note_49 203 Q M := by
  unfold w_X12_note_49 w_X12_note_51
  refine pj_lp_inv (fun y : Int × pj_M => (0 ≤ y.1 ∧ y.1 ≤ 95) ∧ (∀ a, a ≠ 225 → y.2 a = M a) ∧ ∀ u, y.2 225 u = if 95 * z ≤ u ∧ u < 95 * z + y.1 then M 226 (u - 95 * z) else M 225 u) (fun y => (95 - y.1).toNat) ?_ (0, M) ⟨⟨by simp, by simp⟩, fun _ _ => rfl, fun u => by rw [if_neg]; show ¬ (95 * z ≤ u ∧ u < 95 * z + 0); omega⟩
  rintro ⟨c, M1⟩ ⟨hc, f1, w1⟩ P hP
  dsimp only at hc f1 w1 hP ⊢
  unfold w_X12_note_51b
  have h34 : M1 203 34 = z := by rw [f1 203 (by decide)]; exact hz
  rw [h34, rm_33, rm_35]
  refine ⟨⟨by omega, by omega⟩, fun hend => ?_, fun hgo => ⟨⟨by omega, by omega⟩, ⟨by omega, by omega⟩, ?_⟩⟩
  · rintro M2 rfl
    have : c = 95 := by omega
    subst this
    refine q _ (fun a x a1 a2 => ?_) pu_eq (fun y => ?_)
    · rw [pu_if, if_neg a2, f1 a a1]
    · rw [pu_ne (by decide)]; exact w1 y
  · rintro M2 rfl
    refine hP (c + 1, _) ⟨⟨by show 0 ≤ c + 1; omega, by show c + 1 ≤ 95; omega⟩, fun a ha => (pu_row ha).trans (f1 a ha), fun u => ?_⟩ (by show (95 - (c + 1)).toNat < (95 - c).toNat; omega)
    show pj_up M1 225 (95 * z + c) (M1 226 c) 225 u = if 95 * z ≤ u ∧ u < 95 * z + (c + 1) then _ else _
    by_cases e : u = 95 * z + c
    · subst e
      rw [pu_eq, if_pos (by omega), f1 226 (by decide), show 95 * z + c - 95 * z = c by omega]
    · rw [pu_nk e, w1 u]
      by_cases h : 95 * z ≤ u ∧ u < 95 * z + c
      · rw [if_pos h, if_pos (by omega)]
      · rw [if_neg h, if_neg (by omega)]
theorem t_note (hu : 0 ≤ M 203 34 ∧ M 203 34 ≤ 10) (q : ∀ M', (∀ a x, a ≠ 225 → ¬ (a = 203 ∧ x = 34) → M' a x = M a x) → pshm M (M 226) M' → Q M') : w_X12_note 203 M Q := by
  unfold w_X12_note
  refine ⟨⟨by omega, by omega⟩, fun hne => t_note49 rfl ⟨hu.1, by omega⟩ (fun M1 f1 n1 w1 => q M1 f1 ⟨by rw [n1]; omega, fun i x i1 i2 x1 x2 => ?_⟩), fun h10 => ?_⟩
  · have hm : min (M 203 34 + 1) 10 = M 203 34 + 1 := by omega
    rw [hm] at i2 ⊢
    rw [w1]
    by_cases e : i = M 203 34 + 1 - 1
    · rw [if_pos e, if_pos (by omega)]
      congr 1; omega
    · rw [if_neg e, if_neg (by omega), if_pos (by omega)]
  · unfold w_X12_note_11
    refine pj_lp_inv (fun y : Int × pj_M => (0 ≤ y.1 ∧ y.1 ≤ 855) ∧ (∀ a, a ≠ 225 → y.2 a = M a) ∧ ∀ u, y.2 225 u = if 0 ≤ u ∧ u < y.1 then M 225 (u + 95) else M 225 u) (fun y => (855 - y.1).toNat) ?_ (0, M) ⟨⟨by simp, by simp⟩, fun _ _ => rfl, fun u => by rw [if_neg]; show ¬ (0 ≤ u ∧ u < 0); omega⟩
    rintro ⟨c, M1⟩ ⟨hc, f1, w1⟩ P hP
    dsimp only at hc f1 w1 hP ⊢
    unfold w_X12_note_11b
    have h34 : M1 203 34 = 10 := by rw [f1 203 (by decide)]; exact h10
    rw [h34, rm_33]
    refine ⟨⟨by omega, by omega⟩, fun hend => ?_, fun hgo => ⟨⟨by omega, by omega⟩, ⟨by omega, by omega⟩, ?_⟩⟩
    · rintro M2 rfl
      have : c = 855 := by omega
      subst this
      refine t_note49 (z := 9) (by rw [pu_eq]; rfl) ⟨by decide, by decide⟩ (fun M3 f3 n3 w3 => q M3 (fun a x a1 a2 => ?_) ⟨by rw [n3, h10]; rfl, fun i x i1 i2 x1 x2 => ?_⟩)
      · rw [f3 a x a1 a2, pu_if, if_neg a2, f1 a a1]
      · rw [h10] at i2 ⊢
        have hm : min ((10 : Int) + 1) 10 = 10 := by decide
        rw [hm] at i2 ⊢
        rw [w3]
        by_cases e : i = 10 - 1
        · rw [if_pos e, if_pos (by omega), pu_ne (by decide), f1 226 (by decide)]
          congr 1; omega
        · rw [if_neg e, if_neg (by omega), if_neg (by omega), pu_ne (by decide), w1, if_pos (by omega)]
          congr 1; omega
    · rintro M2 rfl
      refine hP (c + 1, _) ⟨⟨by show 0 ≤ c + 1; omega, by show c + 1 ≤ 855; omega⟩, fun a ha => (pu_row ha).trans (f1 a ha), fun u => ?_⟩ (by show (855 - (c + 1)).toNat < (855 - c).toNat; omega)
      show pj_up M1 225 c (M1 225 (c + 95)) 225 u = if 0 ≤ u ∧ u < c + 1 then _ else _
      by_cases e : u = c
      · subst e
        rw [pu_eq, if_pos (by omega), w1, if_neg (by omega)]
      · rw [pu_nk e, w1 u]
        by_cases h : 0 ≤ u ∧ u < c
        · rw [if_pos h, if_pos (by omega)]
        · rw [if_neg h, if_neg (by omega)]
/-- frames of a change: the rows that can be come back to, and a copy -/
def eqj (M M' : pj_M) : Prop := ∀ a x, a ≠ 225 → a ≠ 226 → ¬ (a = 203 ∧ x = 34) → M' a x = M a x
theorem eqj.row {M M' : pj_M} (h : eqj M M') {a : Nat} (h1 : a ≠ 225) (h2 : a ≠ 226) (h3 : a ≠ 203) : M' a = M a := funext fun x => h a x h1 h2 (fun e => h3 e.1)
theorem eqj.h {M M' : pj_M} (h : eqj M M') : eqh M M' := fun c x hc => h c x (by unfold mph at hc; omega) (by unfold mph at hc; omega) (by unfold mph at hc; omega)
theorem msc.j {M M' : pj_M} (s : msc M) (h : eqj M M') : msc M' := s.eq (fun a a1 a2 => h.row (by omega) (by omega) (by omega))
theorem t_change (hu : 0 ≤ M 203 34 ∧ M 203 34 ≤ 10) (q : ∀ M', eqj M M' → pshm M (M 204) M' → Q M') : w_X12_change 203 M Q := by
  unfold w_X12_change w_X12_change_2
  refine pj_lp_inv (fun y : Int × pj_M => (0 ≤ y.1 ∧ y.1 ≤ 95) ∧ (∀ a, a ≠ 226 → y.2 a = M a) ∧ ∀ u, 0 ≤ u → u < y.1 → y.2 226 u = M 204 u) (fun y => (95 - y.1).toNat) ?_ (0, M) ⟨⟨by simp, by simp⟩, fun _ _ => rfl, fun u u1 u2 => by have : u < 0 := u2; omega⟩
  rintro ⟨c, M1⟩ ⟨hc, f1, w1⟩ P hP
  dsimp only at hc f1 w1 hP ⊢
  unfold w_X12_change_2b
  rw [rm_0, rm_35]
  refine ⟨⟨by omega, by omega⟩, fun hend => ?_, fun hgo => ⟨⟨by omega, by omega⟩, ⟨by omega, by omega⟩, ?_⟩⟩
  · have g3 : M1 203 = M 203 := f1 203 (by decide)
    have g5 : M1 225 = M 225 := f1 225 (by decide)
    refine t_note (by rw [g3]; exact hu) (fun M2 f2 p2 => q M2 (fun a x a1 a2 a3 => by rw [f2 a x a1 a3, f1 a a2]) ?_)
    unfold pshm at p2 ⊢
    rw [g3, g5] at p2
    refine ⟨p2.1, fun i x i1 i2 x1 x2 => ?_⟩
    rw [p2.2 i x i1 i2 x1 x2, w1 x x1 (by omega)]
  · rintro M2 rfl
    refine hP (c + 1, _) ⟨⟨by show 0 ≤ c + 1; omega, by show c + 1 ≤ 95; omega⟩, fun a ha => (pu_row ha).trans (f1 a ha), fun u u1 u2 => ?_⟩ (by show (95 - (c + 1)).toNat < (95 - c).toNat; omega)
    have u2' : u < c + 1 := u2
    show pj_up M1 226 c (M1 204 c) 226 u = _
    by_cases e : u = c
    · rw [e, pu_eq, f1 204 (by decide)]
    · rw [pu_nk e]; exact w1 u u1 (by omega)
/-- a line that has changed as it should -/
def actp (M : pj_M) (k p s : Int) (M' : pj_M) : Prop := chd (M 204) (M' 204) (lop k p s (M 204 73) (lw (M 204))).2.1 (lop k p s (M 204 73) (lw (M 204))).2.2 ∧ dvl (M' 204) ∧ ∀ a, a ≠ 204 → M' a = M a
theorem a_become {p s : Int} (v : dvl (M 204)) (hp : 1 ≤ p ∧ p ≤ M 204 73) (hs : 0 ≤ s ∧ s < 8) (hne : lw (M 204) (p - 1) ≠ s) : (lop 0 p s (M 204 73) (lw (M 204))).1 = lw (M 204) (p - 1) ∧ actp M 0 p s (pj_up M 204 (74 + p - 1) s) := by
  have hn := v.2.2.1
  have hl : lop 0 p s (M 204 73) (lw (M 204)) = (lw (M 204) (p - 1), M 204 73, fup (lw (M 204)) (p - 1) s) := by
    unfold lop
    rw [if_pos rfl, if_pos ⟨hp.1, hp.2, hs.1, hs.2⟩, if_neg hne]
  unfold actp
  rw [hl]
  have hch : ∀ x, x < 73 ∨ 87 < x → pj_up M 204 (74 + p - 1) s 204 x = M 204 x := fun x hx => pu_nk (by omega)
  have h73 : pj_up M 204 (74 + p - 1) s 204 73 = M 204 73 := pu_nk (by omega)
  refine ⟨rfl, ⟨h73, fun x x1 x2 => ?_, hch⟩, dvl_line v hch (by rw [h73]; exact hn) (fun x x1 x2 => ?_), fun a ha => pu_row ha⟩
  · show pj_up M 204 (74 + p - 1) s 204 (74 + x) = fup (lw (M 204)) (p - 1) s x
    unfold fup
    by_cases e : x = p - 1
    · rw [if_pos e, show 74 + x = 74 + p - 1 by omega, pu_eq]
    · rw [if_neg e, pu_nk (by omega)]; rfl
  · rw [pu_if]; split
    · omega
    · exact v.2.2.2.1 x x1 x2
theorem t_come {p s : Int} (v : dvl (M 204)) (hp : 1 ≤ p ∧ p ≤ M 204 73 + 1) (hs : 0 ≤ s ∧ s < 8) (h14 : M 204 73 < 14) (q : (lop 1 p s (M 204 73) (lw (M 204))).1 = M 204 73 + 1 → ∀ M', M' 204 73 = M 204 73 + 1 → actp M 1 p s M' → Q M') : w_X12_come 203 p s M Q := by
  have hn := v.2.2.1
  have hl : lop 1 p s (M 204 73) (lw (M 204)) = (M 204 73 + 1, M 204 73 + 1, insf (lw (M 204)) p s) := by
    unfold lop
    rw [if_neg (by decide), if_pos rfl, if_pos ⟨hp.1, hp.2, hs.1, hs.2⟩, if_neg (by omega)]
  unfold actp at q
  rw [hl] at q
  unfold w_X12_come
  rw [rm_0]
  rintro z rfl
  unfold w_X12_come_8
  refine pj_lp_inv (fun y : Int × pj_M => (p - 1 ≤ y.1 ∧ y.1 ≤ M 204 73) ∧ (∀ a, a ≠ 204 → y.2 a = M a) ∧ ∀ u, y.2 204 u = if 74 + y.1 < u ∧ u ≤ 74 + M 204 73 then M 204 (u - 1) else M 204 u) (fun y => (y.1 + 1 - p).toNat) ?_ (M 204 73, M) ⟨⟨by show p - 1 ≤ M 204 73; omega, Int.le_refl _⟩, fun _ _ => rfl, fun u => by rw [if_neg]; show ¬ (74 + M 204 73 < u ∧ u ≤ 74 + M 204 73); omega⟩
  rintro ⟨c, M1⟩ ⟨hc, f1, w1⟩ P hP
  dsimp only at hc f1 w1 hP ⊢
  unfold w_X12_come_8b
  rw [rm_0]
  refine ⟨⟨by omega, by omega⟩, ⟨by omega, by omega⟩, fun hend => ⟨⟨by omega, by omega⟩, ?_⟩, fun hgo => ⟨⟨by omega, by omega⟩, ⟨by omega, by omega⟩, ?_⟩⟩
  · rintro M2 rfl M3 rfl
    have hcp : c = p - 1 := by omega
    subst hcp
    have h73 : pj_up M1 204 (74 + p - 1) s 204 73 = M 204 73 := by rw [pu_nk (by omega), w1, if_neg (by omega)]
    rw [h73]
    have key : ∀ u, pj_up (pj_up M1 204 (74 + p - 1) s) 204 73 (M 204 73 + 1) 204 u = if u = 73 then M 204 73 + 1 else if u = 74 + p - 1 then s else if 74 + (p - 1) < u ∧ u ≤ 74 + M 204 73 then M 204 (u - 1) else M 204 u := by
      intro u
      by_cases e1 : u = 73
      · rw [if_pos e1, e1, pu_eq]
      · rw [if_neg e1, pu_nk e1]
        by_cases e2 : u = 74 + p - 1
        · rw [if_pos e2, e2, pu_eq]
        · rw [if_neg e2, pu_nk e2, w1]
    have hch : ∀ x, x < 73 ∨ 87 < x → pj_up (pj_up M1 204 (74 + p - 1) s) 204 73 (M 204 73 + 1) 204 x = M 204 x := fun x hx => by rw [key, if_neg (by omega), if_neg (by omega), if_neg (by omega)]
    have k73 : pj_up (pj_up M1 204 (74 + p - 1) s) 204 73 (M 204 73 + 1) 204 73 = M 204 73 + 1 := pu_eq
    refine q rfl _ k73 ⟨⟨k73, fun x x1 x2 => ?_, hch⟩, dvl_line v hch (by rw [k73]; omega) (fun x x1 x2 => ?_), fun a ha => by rw [pu_row ha, pu_row ha, f1 a ha]⟩
    · have x2' : x < M 204 73 + 1 := x2
      show pj_up (pj_up M1 204 (74 + p - 1) s) 204 73 (M 204 73 + 1) 204 (74 + x) = insf (lw (M 204)) p s x
      rw [key, if_neg (by omega)]
      unfold insf lw
      by_cases e1 : x < p - 1
      · rw [if_pos e1, if_neg (by omega), if_neg (by omega)]
      · rw [if_neg e1]
        by_cases e2 : x = p - 1
        · rw [if_pos e2, if_pos (by omega)]
        · rw [if_neg e2, if_neg (by omega), if_pos (by omega)]
          congr 1; omega
    · rw [key, if_neg (by omega)]
      split
      · omega
      · split
        · have := v.2.2.2.1 (x - 1) (by omega) (by omega)
          rw [show 74 + x - 1 = 74 + (x - 1) by omega]; exact this
        · exact v.2.2.2.1 x x1 x2
  · rintro M2 rfl
    refine hP (c + (-1), _) ⟨⟨by show p - 1 ≤ c + (-1); omega, by show c + (-1) ≤ M 204 73; omega⟩, fun a ha => (pu_row ha).trans (f1 a ha), fun u => ?_⟩ (by show (c + (-1) + 1 - p).toNat < (c + 1 - p).toNat; omega)
    show pj_up M1 204 (74 + c) (M1 204 (74 + c - 1)) 204 u = if 74 + (c + (-1)) < u ∧ u ≤ 74 + M 204 73 then _ else _
    by_cases e : u = 74 + c
    · subst e
      rw [pu_eq, if_pos (by omega), w1, if_neg (by omega)]
    · rw [pu_nk e, w1 u]
      by_cases h : 74 + c < u ∧ u ≤ 74 + M 204 73
      · rw [if_pos h, if_pos (by omega)]
      · rw [if_neg h, if_neg (by omega)]
theorem t_go {p : Int} (v : dvl (M 204)) (hp : 1 ≤ p ∧ p ≤ M 204 73) (q : (lop 2 p 0 (M 204 73) (lw (M 204))).1 = M 204 73 - 1 → ∀ M', M' 204 73 = M 204 73 - 1 → actp M 2 p 0 M' → Q M') : w_X12_go 203 p M Q := by
  have hn := v.2.2.1
  have hl : lop 2 p 0 (M 204 73) (lw (M 204)) = (M 204 73 - 1, M 204 73 - 1, delf (lw (M 204)) p) := by
    unfold lop
    rw [if_neg (by decide), if_neg (by decide), if_pos hp]
  unfold actp at q
  rw [hl] at q
  unfold w_X12_go w_X12_go_2
  refine pj_lp_inv (fun y : Int × pj_M => (p ≤ y.1 ∧ y.1 ≤ M 204 73) ∧ (∀ a, a ≠ 204 → y.2 a = M a) ∧ ∀ u, y.2 204 u = if 74 + p - 1 ≤ u ∧ u < 74 + y.1 - 1 then M 204 (u + 1) else M 204 u) (fun y => (M 204 73 - y.1).toNat) ?_ (p, M) ⟨⟨Int.le_refl _, hp.2⟩, fun _ _ => rfl, fun u => by rw [if_neg]; show ¬ (74 + p - 1 ≤ u ∧ u < 74 + p - 1); omega⟩
  rintro ⟨c, M1⟩ ⟨hc, f1, w1⟩ P hP
  dsimp only at hc f1 w1 hP ⊢
  unfold w_X12_go_2b
  have h73 : M1 204 73 = M 204 73 := by rw [w1, if_neg (by omega)]
  rw [rm_0, h73]
  refine ⟨⟨by omega, by omega⟩, ⟨by omega, by omega⟩, fun hend => ?_, fun hgo => ⟨⟨by omega, by omega⟩, ⟨by omega, by omega⟩, ?_⟩⟩
  · rintro M2 rfl
    rw [pu_eq]
    refine ⟨⟨by omega, by omega⟩, ?_⟩
    rintro M3 rfl
    have hcp : c = M 204 73 := by omega
    subst hcp
    have key : ∀ u, pj_up (pj_up M1 204 73 (M 204 73 - 1)) 204 (74 + (M 204 73 - 1)) 0 204 u = if u = 73 then M 204 73 - 1 else if u = 74 + (M 204 73 - 1) then 0 else if 74 + p - 1 ≤ u ∧ u < 74 + M 204 73 - 1 then M 204 (u + 1) else M 204 u := by
      intro u
      by_cases e1 : u = 73
      · rw [if_pos e1, e1, pu_nk (by omega), pu_eq]
      · rw [if_neg e1]
        by_cases e2 : u = 74 + (M 204 73 - 1)
        · rw [if_pos e2, e2, pu_eq]
        · rw [if_neg e2, pu_nk e2, pu_nk e1, w1]
    have hch : ∀ x, x < 73 ∨ 87 < x → pj_up (pj_up M1 204 73 (M 204 73 - 1)) 204 (74 + (M 204 73 - 1)) 0 204 x = M 204 x := fun x hx => by rw [key, if_neg (by omega), if_neg (by omega), if_neg (by omega)]
    have k73 : pj_up (pj_up M1 204 73 (M 204 73 - 1)) 204 (74 + (M 204 73 - 1)) 0 204 73 = M 204 73 - 1 := by rw [key, if_pos rfl]
    refine q rfl _ k73 ⟨⟨k73, fun x x1 x2 => ?_, hch⟩, dvl_line v hch (by rw [k73]; omega) (fun x x1 x2 => ?_), fun a ha => by rw [pu_row ha, pu_row ha, f1 a ha]⟩
    · have x2' : x < M 204 73 - 1 := x2
      show pj_up (pj_up M1 204 73 (M 204 73 - 1)) 204 (74 + (M 204 73 - 1)) 0 204 (74 + x) = delf (lw (M 204)) p x
      rw [key, if_neg (by omega), if_neg (by omega)]
      unfold delf lw
      by_cases e1 : x < p - 1
      · rw [if_pos e1, if_neg (by omega)]
      · rw [if_neg e1, if_pos (by omega)]
        congr 1; omega
    · rw [key, if_neg (by omega)]
      split
      · omega
      · split
        · have := v.2.2.2.1 (x + 1) (by omega) (by omega)
          rw [show 74 + x + 1 = 74 + (x + 1) by omega]; exact this
        · exact v.2.2.2.1 x x1 x2
  · rintro M2 rfl
    refine hP (c + 1, _) ⟨⟨by show p ≤ c + 1; omega, by show c + 1 ≤ M 204 73; omega⟩, fun a ha => (pu_row ha).trans (f1 a ha), fun u => ?_⟩ (by show (M 204 73 - (c + 1)).toNat < (M 204 73 - c).toNat; omega)
    show pj_up M1 204 (74 + c - 1) (M1 204 (74 + c)) 204 u = if 74 + p - 1 ≤ u ∧ u < 74 + (c + 1) - 1 then _ else _
    by_cases e : u = 74 + c - 1
    · subst e
      rw [pu_eq, if_pos (by omega), w1, if_neg (by omega)]
      congr 1; omega
    · rw [pu_nk e, w1 u]
      by_cases h : 74 + p - 1 ≤ u ∧ u < 74 + c - 1
      · rw [if_pos h, if_pos (by omega)]
      · rw [if_neg h, if_neg (by omega)]
end
