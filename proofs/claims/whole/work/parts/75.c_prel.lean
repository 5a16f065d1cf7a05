theorem ls_cons {M : pj_M} {c n : Nat} {k z : Int} (h : (n : Int) < z) : sg (cf M c k) (z - ((n + 1 : Nat) : Int)) z = (csm M c k z n).toNat :: sg (cf M c k) (z - (n : Int)) z := by
  rw [sg_cons (by omega), show z - ((n + 1 : Nat) : Int) + 1 = z - (n : Int) by omega, show z - ((n + 1 : Nat) : Int) = z - 1 - (n : Int) by omega]
/-- the tables of a column tell nothing wrong -/
def cS (M : pj_M) (c q : Nat) (P : Nat → List Nat → Prop) : Prop := (∀ (x p q' : Nat), x < 6 → q' ≤ q → tbit (M (c + 16) ((x : Int) * 18 + (q' : Int))) p → p ≤ q' ∧ P x (tkw M c p q')) ∧ (∀ (x p : Nat), x < 6 → tbit (M (c + 17) ((x : Int) * 18 + (q : Int))) p → p ≤ q ∧ ∃ v, P x (tkw M c p q ++ v)) ∧ (∀ (x p q' : Nat), x < 6 → p ≤ q' → q' ≤ q → M (c + 18) ((x : Int) * 18 + (q' : Int)) ≤ (p : Int) → ∃ v, P x (v ++ tkw M c p q')) ∧ (∀ (x p : Nat), x < 6 → p ≤ q → M (c + 19) ((x : Int) * 18 + (q : Int)) ≤ (p : Int) → ∃ v w, P x (v ++ tkw M c p q ++ w))
theorem cS.w {M : pj_M} {c q : Nat} {P : Nat → List Nat → Prop} (h : cS M c q P) : ∀ (x p q' : Nat), x < 6 → q' ≤ q → tbit (M (c + 16) ((x : Int) * 18 + (q' : Int))) p → p ≤ q' ∧ P x (tkw M c p q') := h.1
theorem cS.b {M : pj_M} {c q : Nat} {P : Nat → List Nat → Prop} (h : cS M c q P) : ∀ (x p : Nat), x < 6 → tbit (M (c + 17) ((x : Int) * 18 + (q : Int))) p → p ≤ q ∧ ∃ v, P x (tkw M c p q ++ v) := h.2.1
theorem cS.e {M : pj_M} {c q : Nat} {P : Nat → List Nat → Prop} (h : cS M c q P) : ∀ (x p q' : Nat), x < 6 → p ≤ q' → q' ≤ q → M (c + 18) ((x : Int) * 18 + (q' : Int)) ≤ (p : Int) → ∃ v, P x (v ++ tkw M c p q') := h.2.2.1
theorem cS.i {M : pj_M} {c q : Nat} {P : Nat → List Nat → Prop} (h : cS M c q P) : ∀ (x p : Nat), x < 6 → p ≤ q → M (c + 19) ((x : Int) * 18 + (q : Int)) ≤ (p : Int) → ∃ v w, P x (v ++ tkw M c p q ++ w) := h.2.2.2
/-- they leave nothing out -/
def cC (M : pj_M) (c q : Nat) (P : Nat → List Nat → Prop) : Prop := (∀ (x p q' : Nat), x < 6 → p ≤ q' → q' ≤ q → P x (tkw M c p q') → tbit (M (c + 16) ((x : Int) * 18 + (q' : Int))) p) ∧ (∀ (x p : Nat) (v : List Nat), x < 6 → p ≤ q → P x (tkw M c p q ++ v) → tbit (M (c + 17) ((x : Int) * 18 + (q : Int))) p) ∧ (∀ (x p q' : Nat) (v : List Nat), x < 6 → p ≤ q' → q' ≤ q → P x (v ++ tkw M c p q') → M (c + 18) ((x : Int) * 18 + (q' : Int)) ≤ (p : Int)) ∧ (∀ (x p : Nat) (v w : List Nat), x < 6 → p ≤ q → P x (v ++ tkw M c p q ++ w) → M (c + 19) ((x : Int) * 18 + (q : Int)) ≤ (p : Int))
theorem cC.w {M : pj_M} {c q : Nat} {P : Nat → List Nat → Prop} (h : cC M c q P) : ∀ (x p q' : Nat), x < 6 → p ≤ q' → q' ≤ q → P x (tkw M c p q') → tbit (M (c + 16) ((x : Int) * 18 + (q' : Int))) p := h.1
theorem cC.b {M : pj_M} {c q : Nat} {P : Nat → List Nat → Prop} (h : cC M c q P) : ∀ (x p : Nat) (v : List Nat), x < 6 → p ≤ q → P x (tkw M c p q ++ v) → tbit (M (c + 17) ((x : Int) * 18 + (q : Int))) p := h.2.1
theorem cC.e {M : pj_M} {c q : Nat} {P : Nat → List Nat → Prop} (h : cC M c q P) : ∀ (x p q' : Nat) (v : List Nat), x < 6 → p ≤ q' → q' ≤ q → P x (v ++ tkw M c p q') → M (c + 18) ((x : Int) * 18 + (q' : Int)) ≤ (p : Int) := h.2.2.1
theorem cC.i {M : pj_M} {c q : Nat} {P : Nat → List Nat → Prop} (h : cC M c q P) : ∀ (x p : Nat) (v w : List Nat), x < 6 → p ≤ q → P x (v ++ tkw M c p q ++ w) → M (c + 19) ((x : Int) * 18 + (q : Int)) ≤ (p : Int) := h.2.2.2
/-- all capitals of an alternative yield something -/
def cgd (M : pj_M) (c : Nat) (k : Int) (P : Nat → List Nat → Prop) : Prop := ∀ i, 0 ≤ i → i < M (c + 11) k → 10 ≤ M (c + 12) (k * 4 + i) → ∃ w, P (M (c + 12) (k * 4 + i) - 10).toNat w
theorem cgd_sy {M : pj_M} {c n : Nat} {k : Int} {P : Nat → List Nat → Prop} (ok : cok M c) (h : cgd M c k P) (hn : (n : Int) < M (c + 11) k) : ∃ w, gr_sy 10 P (csm M c k (M (c + 11) k) n).toNat w := by
  have h1 := ok.2.2.2.2.1 (k * 4 + (M (c + 11) k - 1 - (n : Int)))
  by_cases h10 : 10 ≤ csm M c k (M (c + 11) k) n
  · obtain ⟨w, hw⟩ := h (M (c + 11) k - 1 - (n : Int)) (by omega) (by omega) h10
    exact ⟨w, Or.inr ⟨by omega, by rw [show (csm M c k (M (c + 11) k) n).toNat - 10 = (csm M c k (M (c + 11) k) n - 10).toNat by omega]; exact hw⟩⟩
  · exact ⟨_, Or.inl ⟨by omega, rfl⟩⟩
theorem cgd_sq {M : pj_M} {c : Nat} {k : Int} {P : Nat → List Nat → Prop} (ok : cok M c) (h : cgd M c k P) : ∀ n : Nat, (n : Int) ≤ M (c + 11) k → ∃ w, gr_sq 10 P (sg (cf M c k) (M (c + 11) k - (n : Int)) (M (c + 11) k)) w
  | 0, _ => ⟨[], by rw [show M (c + 11) k - ((0 : Nat) : Int) = M (c + 11) k by omega, sg_nil]; rfl⟩
  | n + 1, hn => by
    obtain ⟨w, hw⟩ := cgd_sq ok h n (by omega)
    obtain ⟨x, hx⟩ := cgd_sy (n := n) ok h (by omega)
    exact ⟨x ++ w, by rw [ls_cons (by omega)]; exact ⟨x, w, rfl, hx, hw⟩⟩
theorem tkw_nil (M : pj_M) (c q : Nat) : tkw M c q q = [] := sg_nil _ _
theorem tkw_app {M : pj_M} {c p m q : Nat} (h1 : p ≤ m) (h2 : m ≤ q) : tkw M c p m ++ tkw M c m q = tkw M c p q := sg_app (by omega) (by omega)
theorem tkw_split {M : pj_M} {c p q : Nat} (h : p ≤ q) {u v : List Nat} (e : tkw M c p q = u ++ v) : ∃ m : Nat, p ≤ m ∧ m ≤ q ∧ u = tkw M c p m ∧ v = tkw M c m q := by
  obtain ⟨m, h1, h2, h3, h4⟩ := sg_split (by omega) e
  exact ⟨m.toNat, by omega, by omega, by unfold tkw; rw [show ((m.toNat : Nat) : Int) = m by omega]; exact h3, by unfold tkw; rw [show ((m.toNat : Nat) : Int) = m by omega]; exact h4⟩
theorem tkw_eq_nil {M : pj_M} {c p q : Nat} (h : p ≤ q) (e : tkw M c p q = []) : p = q := by
  have := congrArg List.length e
  unfold tkw at this
  rw [sg_len] at this
  simp at this; omega
theorem cp_s {M : pj_M} {c q q' p : Nat} {s : Int} {P : Nat → List Nat → Prop} (tk : ctk M c) (hS : cS M c q P) (hs : 0 ≤ s ∧ s ≤ 15) (hq : q' ≤ q) (h : cp M c s p q') (hp : p ≤ q') : ∃ y, gr_sy 10 P s.toNat (y ++ tkw M c p q') := by
  rcases h with ⟨h1, h2 | ⟨p0, rfl, h3, h4⟩⟩ | ⟨h1, h2, h3⟩
  · have : p = q' := by omega
    subst this
    exact ⟨[s.toNat], Or.inl ⟨by omega, by rw [tkw_nil]; rfl⟩⟩
  · by_cases e : p = p0
    · subst e
      have h5 := (tk.2.2.2 s p hs.1 h1).mp h4
      exact ⟨[], Or.inl ⟨by omega, by
        show [] ++ sg (M (c + 14)) (p : Int) ((p + 1 : Nat) : Int) = _
        rw [show ((p + 1 : Nat) : Int) = (p : Int) + 1 by omega, sg_one, h5.2]; rfl⟩⟩
    · have : p = p0 + 1 := by omega
      subst this
      exact ⟨[s.toNat], Or.inl ⟨by omega, by rw [tkw_nil]; rfl⟩⟩
  · obtain ⟨v, hv⟩ := hS.e (s - 10).toNat p q' (by omega) hp hq (by rw [show (((s - 10).toNat : Nat) : Int) = s - 10 by omega]; exact h3)
    exact ⟨v, Or.inr ⟨by omega, by rw [show s.toNat - 10 = (s - 10).toNat by omega]; exact hv⟩⟩
theorem cp_c {M : pj_M} {c q q' p : Nat} {s : Int} {P : Nat → List Nat → Prop} {y : List Nat} (tk : ctk M c) (hq17 : (q : Int) ≤ M c 11) (hC : cC M c q P) (hs : 0 ≤ s ∧ s ≤ 15) (hq : q' ≤ q) (hp : p ≤ q') (h : gr_sy 10 P s.toNat (y ++ tkw M c p q')) : cp M c s p q' := by
  have h17 := tk.1
  rcases h with ⟨h1, h2⟩ | ⟨h1, h2⟩
  · by_cases e : p = q'
    · exact Or.inl ⟨by omega, Or.inl (by omega)⟩
    · have hl := congrArg List.length h2
      rw [List.length_append] at hl
      unfold tkw at hl
      rw [sg_len, List.length_singleton] at hl
      have hy : y = [] := List.length_eq_zero_iff.mp (by omega)
      subst hy
      rw [List.nil_append] at h2
      obtain ⟨h3, h4⟩ := (sg_single (by omega)).mp h2
      have h5 := tk.2.1 (p : Int)
      exact Or.inl ⟨by omega, Or.inr ⟨p, by omega, Nat.le_refl _, (tk.2.2.2 s p hs.1 (by omega)).mpr ⟨by omega, by omega⟩⟩⟩
  · rw [show s.toNat - 10 = (s - 10).toNat by omega] at h2
    have := hC.e (s - 10).toNat p q' y (by omega) hp hq h2
    rw [show (((s - 10).toNat : Nat) : Int) = s - 10 by omega] at this
    exact Or.inr ⟨by omega, by omega, this⟩
theorem cO_s {M : pj_M} {c q : Nat} {P : Nat → List Nat → Prop} {k : Int} (ok : cok M c) (tk : ctk M c) (hS : cS M c q P) (hg : cgd M c k P) : ∀ (n p : Nat), (n : Int) ≤ M (c + 11) k → cO M c k (M (c + 11) k) q n p → p ≤ q ∧ ∃ v, gr_sq 10 P (sg (cf M c k) (M (c + 11) k - (n : Int)) (M (c + 11) k)) (tkw M c p q ++ v)
  | 0, p, hn, hr => by
    have : p = q := hr
    subst this
    exact ⟨Nat.le_refl _, [], by rw [show M (c + 11) k - ((0 : Nat) : Int) = M (c + 11) k by omega, sg_nil, tkw_nil]; rfl⟩
  | n + 1, p, hn, hr => by
    have hsy : 0 ≤ csm M c k (M (c + 11) k) n ∧ csm M c k (M (c + 11) k) n ≤ 15 := ok.2.2.2.2.1 (k * 4 + (M (c + 11) k - 1 - (n : Int)))
    rcases hr with rfl | ⟨q', h1, h2⟩ | ⟨h1, h2⟩
    · obtain ⟨w, hw⟩ := cgd_sq ok hg (n + 1) hn
      exact ⟨Nat.le_refl _, w, by rw [tkw_nil]; exact hw⟩
    · obtain ⟨h3, v, h4⟩ := cO_s ok tk hS hg n q' (by omega) h2
      obtain ⟨h5, h6⟩ := cs_s tk hsy h3 hS.w h1
      refine ⟨by omega, v, ?_⟩
      rw [ls_cons (by omega)]
      exact ⟨tkw M c p q', tkw M c q' q ++ v, by rw [← List.append_assoc, tkw_app h5 h3], h6, h4⟩
    · obtain ⟨h3, v, h4⟩ := hS.b (csm M c k (M (c + 11) k) n - 10).toNat p (by omega) (by rw [show (((csm M c k (M (c + 11) k) n - 10).toNat : Nat) : Int) = csm M c k (M (c + 11) k) n - 10 by omega]; exact h2)
      obtain ⟨w, hw⟩ := cgd_sq ok hg n (by omega)
      refine ⟨h3, v ++ w, ?_⟩
      rw [ls_cons (by omega)]
      exact ⟨tkw M c p q ++ v, w, by rw [List.append_assoc], Or.inr ⟨by omega, by rw [show (csm M c k (M (c + 11) k) n).toNat - 10 = (csm M c k (M (c + 11) k) n - 10).toNat by omega]; exact h4⟩, hw⟩
theorem cE_s {M : pj_M} {c q : Nat} {P : Nat → List Nat → Prop} {k : Int} (ok : cok M c) (tk : ctk M c) (hS : cS M c q P) (hg : cgd M c k P) : ∀ (n p : Nat), (n : Int) ≤ M (c + 11) k → p ≤ q → cE M c k (M (c + 11) k) q n p → ∃ v, gr_sq 10 P (sg (cf M c k) (M (c + 11) k - (n : Int)) (M (c + 11) k)) (v ++ tkw M c p q)
  | 0, p, hn, hp, hr => by
    have h : q ≤ p := hr
    have : p = q := by omega
    subst this
    exact ⟨[], by rw [show M (c + 11) k - ((0 : Nat) : Int) = M (c + 11) k by omega, sg_nil, tkw_nil]; rfl⟩
  | n + 1, p, hn, hp, hr => by
    have hsy : 0 ≤ csm M c k (M (c + 11) k) n ∧ csm M c k (M (c + 11) k) n ≤ 15 := ok.2.2.2.2.1 (k * 4 + (M (c + 11) k - 1 - (n : Int)))
    rw [ls_cons (by omega)]
    obtain ⟨x, hx⟩ := cgd_sy (n := n) ok hg (by omega)
    rcases hr with h | ⟨q', h1, h2⟩
    · obtain ⟨v, hv⟩ := cE_s ok tk hS hg n p (by omega) hp h
      exact ⟨x ++ v, x, v ++ tkw M c p q, by rw [List.append_assoc], hx, hv⟩
    · obtain ⟨h3, h4⟩ := cR_s ok tk hS.w n q' (by omega) h1
      by_cases hpq : p ≤ q'
      · obtain ⟨y, hy⟩ := cp_s tk hS hsy h3 h2 hpq
        exact ⟨y, y ++ tkw M c p q', tkw M c q' q, by rw [List.append_assoc, tkw_app hpq h3], hy, h4⟩
      · exact ⟨x ++ tkw M c q' p, x, tkw M c q' q, by rw [List.append_assoc, tkw_app (by omega) hp], hx, h4⟩
theorem cI_s {M : pj_M} {c q : Nat} {P : Nat → List Nat → Prop} {k : Int} (ok : cok M c) (tk : ctk M c) (hS : cS M c q P) (hg : cgd M c k P) : ∀ (n p : Nat), (n : Int) ≤ M (c + 11) k → p ≤ q → cI M c k (M (c + 11) k) q n p → ∃ v w, gr_sq 10 P (sg (cf M c k) (M (c + 11) k - (n : Int)) (M (c + 11) k)) (v ++ tkw M c p q ++ w)
  | 0, p, hn, hp, hr => by
    have h : q ≤ p := hr
    have : p = q := by omega
    subst this
    exact ⟨[], [], by rw [show M (c + 11) k - ((0 : Nat) : Int) = M (c + 11) k by omega, sg_nil, tkw_nil]; rfl⟩
  | n + 1, p, hn, hp, hr => by
    have hsy : 0 ≤ csm M c k (M (c + 11) k) n ∧ csm M c k (M (c + 11) k) n ≤ 15 := ok.2.2.2.2.1 (k * 4 + (M (c + 11) k - 1 - (n : Int)))
    rw [ls_cons (by omega)]
    obtain ⟨x, hx⟩ := cgd_sy (n := n) ok hg (by omega)
    rcases hr with h | ⟨q', h1, h2⟩ | ⟨h1, h2⟩
    · obtain ⟨v, w, hv⟩ := cI_s ok tk hS hg n p (by omega) hp h
      exact ⟨x ++ v, w, x, v ++ tkw M c p q ++ w, by simp only [List.append_assoc], hx, hv⟩
    · obtain ⟨h3, w, h4⟩ := cO_s ok tk hS hg n q' (by omega) h1
      by_cases hpq : p ≤ q'
      · obtain ⟨y, hy⟩ := cp_s tk hS hsy h3 h2 hpq
        exact ⟨y, w, y ++ tkw M c p q', tkw M c q' q ++ w, by rw [← tkw_app hpq h3]; simp only [List.append_assoc], hy, h4⟩
      · exact ⟨x ++ tkw M c q' p, w, x, tkw M c q' q ++ w, by rw [← tkw_app (show q' ≤ p by omega) hp]; simp only [List.append_assoc], hx, h4⟩
    · obtain ⟨v, w, h4⟩ := hS.i (csm M c k (M (c + 11) k) n - 10).toNat p (by omega) hp (by rw [show (((csm M c k (M (c + 11) k) n - 10).toNat : Nat) : Int) = csm M c k (M (c + 11) k) n - 10 by omega]; exact h2)
      obtain ⟨w', hw⟩ := cgd_sq ok hg n (by omega)
      exact ⟨v, w ++ w', v ++ tkw M c p q ++ w, w', by simp only [List.append_assoc], Or.inr ⟨by omega, by rw [show (csm M c k (M (c + 11) k) n).toNat - 10 = (csm M c k (M (c + 11) k) n - 10).toNat by omega]; exact h4⟩, hw⟩
theorem cO_c {M : pj_M} {c q : Nat} {P : Nat → List Nat → Prop} {k : Int} (ok : cok M c) (tk : ctk M c) (hq17 : (q : Int) ≤ M c 11) (hC : cC M c q P) : ∀ (n p : Nat) (v : List Nat), (n : Int) ≤ M (c + 11) k → p ≤ q → gr_sq 10 P (sg (cf M c k) (M (c + 11) k - (n : Int)) (M (c + 11) k)) (tkw M c p q ++ v) → cO M c k (M (c + 11) k) q n p
  | 0, p, v, hn, hp, h => by
    rw [show M (c + 11) k - ((0 : Nat) : Int) = M (c + 11) k by omega, sg_nil] at h
    have h2 : tkw M c p q ++ v = [] := h
    exact tkw_eq_nil hp (List.append_eq_nil_iff.mp h2).1
  | n + 1, p, v, hn, hp, h => by
    have hsy : 0 ≤ csm M c k (M (c + 11) k) n ∧ csm M c k (M (c + 11) k) n ≤ 15 := ok.2.2.2.2.1 (k * 4 + (M (c + 11) k - 1 - (n : Int)))
    rw [ls_cons (by omega)] at h
    obtain ⟨x, y, e, h1, h2⟩ := h
    have hq0 : ∀ m, cO M c k (M (c + 11) k) q m q := fun m => by cases m with | zero => rfl | succ m => exact Or.inl rfl
    by_cases hpq : p = q
    · exact Or.inl hpq
    rcases gr_split e with ⟨x', e1, e2⟩ | ⟨x', e1, e2⟩
    · subst e1
      rcases h1 with ⟨g1, g2⟩ | ⟨g1, g2⟩
      · have hl := congrArg List.length g2
        rw [List.length_append] at hl
        unfold tkw at hl
        rw [sg_len, List.length_singleton] at hl
        have hx' : x' = [] := List.length_eq_zero_iff.mp (by omega)
        subst hx'
        rw [List.append_nil] at g2
        exact Or.inr (Or.inl ⟨q, cs_c (P := P) tk hq17 hsy hp (Nat.le_refl _) hC.w (Or.inl ⟨g1, g2⟩), hq0 n⟩)
      · rw [show (csm M c k (M (c + 11) k) n).toNat - 10 = (csm M c k (M (c + 11) k) n - 10).toNat by omega] at g2
        have := hC.b _ p x' (by omega) hp g2
        rw [show (((csm M c k (M (c + 11) k) n - 10).toNat : Nat) : Int) = csm M c k (M (c + 11) k) n - 10 by omega] at this
        exact Or.inr (Or.inr ⟨by omega, this⟩)
    · obtain ⟨m, m1, m2, rfl, rfl⟩ := tkw_split hp e1
      subst e2
      exact Or.inr (Or.inl ⟨m, cs_c tk hq17 hsy m1 m2 hC.w h1, cO_c ok tk hq17 hC n m v (by omega) m2 h2⟩)
theorem cE_c {M : pj_M} {c q : Nat} {P : Nat → List Nat → Prop} {k : Int} (ok : cok M c) (tk : ctk M c) (hq17 : (q : Int) ≤ M c 11) (hC : cC M c q P) : ∀ (n p : Nat) (v : List Nat), (n : Int) ≤ M (c + 11) k → p ≤ q → gr_sq 10 P (sg (cf M c k) (M (c + 11) k - (n : Int)) (M (c + 11) k)) (v ++ tkw M c p q) → cE M c k (M (c + 11) k) q n p
  | 0, p, v, hn, hp, h => by
    rw [show M (c + 11) k - ((0 : Nat) : Int) = M (c + 11) k by omega, sg_nil] at h
    have h2 : v ++ tkw M c p q = [] := h
    show q ≤ p
    exact Nat.le_of_eq (tkw_eq_nil hp (List.append_eq_nil_iff.mp h2).2).symm
  | n + 1, p, v, hn, hp, h => by
    have hsy : 0 ≤ csm M c k (M (c + 11) k) n ∧ csm M c k (M (c + 11) k) n ≤ 15 := ok.2.2.2.2.1 (k * 4 + (M (c + 11) k - 1 - (n : Int)))
    rw [ls_cons (by omega)] at h
    obtain ⟨x, y, e, h1, h2⟩ := h
    rcases gr_split e with ⟨x', e1, e2⟩ | ⟨x', e1, e2⟩
    · subst e1
      obtain ⟨m, m1, m2, rfl, rfl⟩ := tkw_split hp e2
      exact Or.inr ⟨m, cR_c ok tk hq17 hC.w n m (by omega) m2 h2, cp_c tk hq17 hC hsy m2 m1 h1⟩
    · subst e2
      exact Or.inl (cE_c ok tk hq17 hC n p x' (by omega) hp h2)
theorem cI_q {M : pj_M} {c q : Nat} {k z : Int} : ∀ n, cI M c k z q n q
  | 0 => Nat.le_refl _
  | n + 1 => Or.inl (cI_q n)
theorem cI_c {M : pj_M} {c q : Nat} {P : Nat → List Nat → Prop} {k : Int} (ok : cok M c) (tk : ctk M c) (hq17 : (q : Int) ≤ M c 11) (hC : cC M c q P) : ∀ (n p : Nat) (v w : List Nat), (n : Int) ≤ M (c + 11) k → p ≤ q → gr_sq 10 P (sg (cf M c k) (M (c + 11) k - (n : Int)) (M (c + 11) k)) (v ++ tkw M c p q ++ w) → cI M c k (M (c + 11) k) q n p
  | 0, p, v, w, hn, hp, h => by
    rw [show M (c + 11) k - ((0 : Nat) : Int) = M (c + 11) k by omega, sg_nil] at h
    have h2 : v ++ tkw M c p q ++ w = [] := h
    show q ≤ p
    exact Nat.le_of_eq (tkw_eq_nil hp (List.append_eq_nil_iff.mp (List.append_eq_nil_iff.mp h2).1).2).symm
  | n + 1, p, v, w, hn, hp, h => by
    have hsy : 0 ≤ csm M c k (M (c + 11) k) n ∧ csm M c k (M (c + 11) k) n ≤ 15 := ok.2.2.2.2.1 (k * 4 + (M (c + 11) k - 1 - (n : Int)))
    rw [ls_cons (by omega)] at h
    obtain ⟨x, y, e, h1, h2⟩ := h
    have hq0 : ∀ m, cO M c k (M (c + 11) k) q m q := fun m => by cases m with | zero => rfl | succ m => exact Or.inl rfl
    by_cases hpq : p = q
    · subst hpq; exact cI_q (n + 1)
    rw [List.append_assoc] at e
    rcases gr_split e with ⟨x', e1, e2⟩ | ⟨x', e1, e2⟩
    · subst e1
      rcases gr_split e2 with ⟨x2, e3, e4⟩ | ⟨x2, e3, e4⟩
      · subst e3
        rcases h1 with ⟨g1, g2⟩ | ⟨g1, g2⟩
        · have hl := congrArg List.length g2
          rw [List.length_append, List.length_append] at hl
          unfold tkw at hl
          rw [sg_len, List.length_singleton] at hl
          have hx' : x2 = [] := List.length_eq_zero_iff.mp (by omega)
          subst hx'
          rw [List.append_nil] at g2
          exact Or.inr (Or.inl ⟨q, hq0 n, cp_c (P := P) tk hq17 hC hsy (Nat.le_refl _) hp (Or.inl ⟨g1, g2⟩)⟩)
        · rw [show (csm M c k (M (c + 11) k) n).toNat - 10 = (csm M c k (M (c + 11) k) n - 10).toNat by omega, ← List.append_assoc] at g2
          have := hC.i _ p v x2 (by omega) hp g2
          rw [show (((csm M c k (M (c + 11) k) n - 10).toNat : Nat) : Int) = csm M c k (M (c + 11) k) n - 10 by omega] at this
          exact Or.inr (Or.inr ⟨by omega, this⟩)
      · obtain ⟨m, m1, m2, rfl, rfl⟩ := tkw_split hp e3
        subst e4
        exact Or.inr (Or.inl ⟨m, cO_c ok tk hq17 hC n m w (by omega) m2 h2, cp_c tk hq17 hC hsy m2 m1 h1⟩)
    · subst e2
      exact Or.inl (cI_c ok tk hq17 hC n p x' w (by omega) hp (by rw [List.append_assoc]; exact h2))
