/-! grammars: numbers of alternatives, owners, symbols (below T: signs; capitals behind) -/
abbrev gr_G : Type := Nat × (Nat → Nat) × (Nat → List Nat)
def gr_sy (T : Nat) (P : Nat → List Nat → Prop) (s : Nat) (u : List Nat) : Prop := (s < T ∧ u = [s]) ∨ (T ≤ s ∧ P (s - T) u)
def gr_sq (T : Nat) (P : Nat → List Nat → Prop) : List Nat → List Nat → Prop
  | [], w => w = []
  | s :: ss, w => ∃ u v, w = u ++ v ∧ gr_sy T P s u ∧ gr_sq T P ss v
def gr_yd (G : gr_G) (T : Nat) : Nat → Nat → List Nat → Prop
  | 0 => fun _ _ => False
  | d + 1 => fun c w => ∃ k, k < G.1 ∧ G.2.1 k = c ∧ gr_sq T (gr_yd G T d) (G.2.2 k) w
def gr_y (G : gr_G) (T c : Nat) (w : List Nat) : Prop := ∃ d, gr_yd G T d c w
theorem gr_sy_mono {T : Nat} {P P' : Nat → List Nat → Prop} (h : ∀ c w, P c w → P' c w) {s : Nat} {u : List Nat} (hs : gr_sy T P s u) : gr_sy T P' s u := by
  rcases hs with h1 | ⟨h1, h2⟩
  · exact Or.inl h1
  · exact Or.inr ⟨h1, h _ _ h2⟩
theorem gr_sq_mono {T : Nat} {P P' : Nat → List Nat → Prop} (h : ∀ c w, P c w → P' c w) : ∀ {ss w : List Nat}, gr_sq T P ss w → gr_sq T P' ss w
  | [], _, hs => hs
  | _ :: _, _, ⟨u, v, e, h1, h2⟩ => ⟨u, v, e, gr_sy_mono h h1, gr_sq_mono h h2⟩
theorem gr_yd_succ {G : gr_G} {T : Nat} : ∀ {d c : Nat} {w : List Nat}, gr_yd G T d c w → gr_yd G T (d + 1) c w
  | 0, _, _, h => h.elim
  | _ + 1, _, _, ⟨k, h1, h2, h3⟩ => ⟨k, h1, h2, gr_sq_mono (fun _ _ h => gr_yd_succ h) h3⟩
theorem gr_yd_mono {G : gr_G} {T d d' c : Nat} {w : List Nat} (hd : d ≤ d') (h : gr_yd G T d c w) : gr_yd G T d' c w := by
  induction hd with
  | refl => exact h
  | step _ ih => exact gr_yd_succ ih
theorem gr_sq_fin {G : gr_G} {T : Nat} : ∀ {ss w : List Nat}, gr_sq T (gr_y G T) ss w → ∃ d, gr_sq T (gr_yd G T d) ss w
  | [], _, h => ⟨0, h⟩
  | s :: ss, w, ⟨u, v, e, h1, h2⟩ => by
    obtain ⟨d2, h2⟩ := gr_sq_fin h2
    rcases h1 with h1 | ⟨h1, d1, h3⟩
    · exact ⟨d2, u, v, e, Or.inl h1, h2⟩
    · exact ⟨max d1 d2, u, v, e, Or.inr ⟨h1, gr_yd_mono (Nat.le_max_left _ _) h3⟩, gr_sq_mono (fun _ _ h => gr_yd_mono (Nat.le_max_right _ _) h) h2⟩
theorem gr_y_iff {G : gr_G} {T c : Nat} {w : List Nat} : gr_y G T c w ↔ ∃ k, k < G.1 ∧ G.2.1 k = c ∧ gr_sq T (gr_y G T) (G.2.2 k) w := by
  constructor
  · rintro ⟨d, h⟩
    cases d with
    | zero => exact h.elim
    | succ d =>
      obtain ⟨k, h1, h2, h3⟩ := h
      exact ⟨k, h1, h2, gr_sq_mono (fun _ _ h => ⟨d, h⟩) h3⟩
  · rintro ⟨k, h1, h2, h3⟩
    obtain ⟨d, h3⟩ := gr_sq_fin h3
    exact ⟨d + 1, k, h1, h2, h3⟩
theorem gr_sq_app {T : Nat} {P : Nat → List Nat → Prop} : ∀ {a b w : List Nat}, gr_sq T P (a ++ b) w ↔ ∃ u v, w = u ++ v ∧ gr_sq T P a u ∧ gr_sq T P b v
  | [], b, w => ⟨fun h => ⟨[], w, rfl, rfl, h⟩, fun ⟨u, v, e, h1, h2⟩ => by cases h1; exact e ▸ h2⟩
  | s :: a, b, w => by
    constructor
    · rintro ⟨u, v, rfl, h1, h2⟩
      obtain ⟨u2, v2, rfl, h3, h4⟩ := gr_sq_app.mp h2
      exact ⟨u ++ u2, v2, by rw [List.append_assoc], ⟨u, u2, rfl, h1, h3⟩, h4⟩
    · rintro ⟨_, v, rfl, ⟨u, u2, rfl, h1, h3⟩, h4⟩
      exact ⟨u, u2 ++ v, by rw [List.append_assoc], h1, gr_sq_app.mpr ⟨u2, v, rfl, h3, h4⟩⟩
/-- a capital that yields something; a row of symbols all of which do -/
def gr_gd (G : gr_G) (T c : Nat) : Prop := ∃ w, gr_y G T c w
def gr_gs (G : gr_G) (T : Nat) (ss : List Nat) : Prop := ∀ s ∈ ss, T ≤ s → gr_gd G T (s - T)
theorem gr_gs_sq {G : gr_G} {T : Nat} : ∀ {ss : List Nat}, gr_gs G T ss ↔ ∃ w, gr_sq T (gr_y G T) ss w
  | [] => ⟨fun _ => ⟨[], rfl⟩, fun _ s hs => by cases hs⟩
  | s :: ss => by
    constructor
    · intro h
      obtain ⟨v, hv⟩ := gr_gs_sq.mp (fun x hx => h x (List.mem_cons_of_mem _ hx))
      by_cases hs : s < T
      · exact ⟨[s] ++ v, [s], v, rfl, Or.inl ⟨hs, rfl⟩, hv⟩
      · obtain ⟨u, hu⟩ := h s List.mem_cons_self (Nat.le_of_not_lt hs)
        exact ⟨u ++ v, u, v, rfl, Or.inr ⟨Nat.le_of_not_lt hs, hu⟩, hv⟩
    · rintro ⟨w, u, v, e, h1, h2⟩ x hx hT
      rcases List.mem_cons.mp hx with rfl | hx
      · rcases h1 with ⟨h1, -⟩ | ⟨-, h1⟩
        · omega
        · exact ⟨u, h1⟩
      · exact gr_gs_sq.mpr ⟨v, h2⟩ x hx hT
theorem gr_gd_iff {G : gr_G} {T c : Nat} : gr_gd G T c ↔ ∃ k, k < G.1 ∧ G.2.1 k = c ∧ gr_gs G T (G.2.2 k) := by
  constructor
  · rintro ⟨w, hw⟩
    obtain ⟨k, h1, h2, h3⟩ := gr_y_iff.mp hw
    exact ⟨k, h1, h2, gr_gs_sq.mpr ⟨w, h3⟩⟩
  · rintro ⟨k, h1, h2, h3⟩
    obtain ⟨w, hw⟩ := gr_gs_sq.mp h3
    exact ⟨w, gr_y_iff.mpr ⟨k, h1, h2, hw⟩⟩
/-- a beginning, an end, a part of what a capital yields -/
def gr_pf (G : gr_G) (T c : Nat) (u : List Nat) : Prop := ∃ v, gr_y G T c (u ++ v)
def gr_sf (G : gr_G) (T c : Nat) (u : List Nat) : Prop := ∃ v, gr_y G T c (v ++ u)
def gr_if (G : gr_G) (T c : Nat) (u : List Nat) : Prop := ∃ v w, gr_y G T c (v ++ u ++ w)
def gr_pfd (G : gr_G) (T d c : Nat) (u : List Nat) : Prop := ∃ v, gr_yd G T d c (u ++ v)
def gr_sfd (G : gr_G) (T d c : Nat) (u : List Nat) : Prop := ∃ v, gr_yd G T d c (v ++ u)
def gr_ifd (G : gr_G) (T d c : Nat) (u : List Nat) : Prop := ∃ v w, gr_yd G T d c (v ++ u ++ w)
/-- of a symbol -/
def gr_sp (T : Nat) (P : Nat → List Nat → Prop) (s : Nat) (u : List Nat) : Prop := (s < T ∧ (u = [] ∨ u = [s])) ∨ (T ≤ s ∧ P (s - T) u)
theorem gr_sp_mono {T : Nat} {P P' : Nat → List Nat → Prop} (h : ∀ c w, P c w → P' c w) {s : Nat} {u : List Nat} (hs : gr_sp T P s u) : gr_sp T P' s u := by
  rcases hs with h1 | ⟨h1, h2⟩
  · exact Or.inl h1
  · exact Or.inr ⟨h1, h _ _ h2⟩
theorem gr_split {a b c d : List Nat} (h : a ++ b = c ++ d) : (∃ x, c = a ++ x ∧ b = x ++ d) ∨ (∃ x, a = c ++ x ∧ d = x ++ b) := by
  rcases List.append_eq_append_iff.mp h with ⟨x, h1, h2⟩ | ⟨x, h1, h2⟩
  · exact Or.inl ⟨x, h1, h2⟩
  · exact Or.inr ⟨x, h1, h2⟩
/-- where the beginning of a row's yield ends -/
theorem gr_sq_pre {T : Nat} {P : Nat → List Nat → Prop} : ∀ {ss u v : List Nat}, u ≠ [] → gr_sq T P ss (u ++ v) → ∃ a s b u1 u2, ss = a ++ s :: b ∧ u = u1 ++ u2 ∧ gr_sq T P a u1 ∧ gr_sp T (fun c x => ∃ y, P c (x ++ y)) s u2 ∧ (∃ z, gr_sq T P b z)
  | [], u, v, hu, h => absurd (List.append_eq_nil_iff.mp h).1 hu
  | s :: ss, u, v, hu, ⟨p, q, e, h1, h2⟩ => by
    rcases gr_split e with ⟨x, rfl, rfl⟩ | ⟨x, rfl, rfl⟩
    · -- the symbol takes all of u
      refine ⟨[], s, ss, [], u, rfl, rfl, rfl, ?_, q, h2⟩
      rcases h1 with ⟨h1, e1⟩ | ⟨h1, h3⟩
      · refine Or.inl ⟨h1, ?_⟩
        cases u with
        | nil => exact Or.inl rfl
        | cons y ys =>
          right
          have e2 : y = s ∧ ys ++ x = [] := by
            have := e1
            simp only [List.cons_append, List.cons.injEq] at this
            exact this
          rw [e2.1, (List.append_eq_nil_iff.mp e2.2).1]
      · exact Or.inr ⟨h1, x, h3⟩
    · by_cases hx : x = []
      · subst hx
        rw [List.append_nil] at hu ⊢
        refine ⟨[], s, ss, [], p, rfl, rfl, rfl, ?_, _, h2⟩
        rcases h1 with ⟨h1, e1⟩ | ⟨h1, h3⟩
        · exact Or.inl ⟨h1, Or.inr e1⟩
        · exact Or.inr ⟨h1, [], by rw [List.append_nil]; exact h3⟩
      · obtain ⟨a, s', b, u1, u2, rfl, rfl, h3, h4, h5⟩ := gr_sq_pre hx h2
        exact ⟨s :: a, s', b, p ++ u1, u2, rfl, by rw [List.append_assoc], ⟨p, u1, rfl, h1, h3⟩, h4, h5⟩
theorem gr_pf_of {G : gr_G} {T c k : Nat} (hk : k < G.1) (hc : G.2.1 k = c) {a b u1 u2 : List Nat} {s : Nat} (e : G.2.2 k = a ++ s :: b) (h1 : gr_sq T (gr_y G T) a u1) (h2 : gr_sp T (gr_pf G T) s u2) (h3 : gr_gs G T b) : gr_pf G T c (u1 ++ u2) := by
  obtain ⟨z, hz⟩ := gr_gs_sq.mp h3
  have : ∃ y, gr_sy T (gr_y G T) s (u2 ++ y) := by
    rcases h2 with ⟨h, rfl | rfl⟩ | ⟨h, y, h2⟩
    · exact ⟨[s], Or.inl ⟨h, rfl⟩⟩
    · exact ⟨[], Or.inl ⟨h, by simp⟩⟩
    · exact ⟨y, Or.inr ⟨h, h2⟩⟩
  obtain ⟨y, hy⟩ := this
  refine ⟨y ++ z, gr_y_iff.mpr ⟨k, hk, hc, ?_⟩⟩
  rw [e]
  exact gr_sq_app.mpr ⟨u1, (u2 ++ y) ++ z, by simp, h1, u2 ++ y, z, rfl, hy, hz⟩
theorem gr_pf_nil {G : gr_G} {T c : Nat} : gr_pf G T c [] ↔ gr_gd G T c := ⟨fun ⟨v, h⟩ => ⟨v, h⟩, fun ⟨v, h⟩ => ⟨v, h⟩⟩
theorem gr_sf_nil {G : gr_G} {T c : Nat} : gr_sf G T c [] ↔ gr_gd G T c := ⟨fun ⟨v, h⟩ => ⟨_, h⟩, fun ⟨v, h⟩ => ⟨v, by rw [List.append_nil]; exact h⟩⟩
theorem gr_if_nil {G : gr_G} {T c : Nat} : gr_if G T c [] ↔ gr_gd G T c := ⟨fun ⟨v, w, h⟩ => ⟨_, h⟩, fun ⟨v, h⟩ => ⟨v, [], by simpa using h⟩⟩
/-- from right to left -/
def gr_rv (G : gr_G) : gr_G := (G.1, G.2.1, fun k => (G.2.2 k).reverse)
theorem gr_sq_rev {T : Nat} {P : Nat → List Nat → Prop} {ss w : List Nat} (h : gr_sq T P ss w) : gr_sq T (fun c x => P c x.reverse) ss.reverse w.reverse := by
  induction ss generalizing w with
  | nil => cases h; rfl
  | cons s ss ih =>
    obtain ⟨u, v, rfl, h1, h2⟩ := h
    rw [List.reverse_cons, List.reverse_append]
    refine gr_sq_app.mpr ⟨v.reverse, u.reverse, rfl, ih h2, u.reverse, [], by simp, ?_, rfl⟩
    rcases h1 with ⟨h1, rfl⟩ | ⟨h1, h3⟩
    · exact Or.inl ⟨h1, rfl⟩
    · exact Or.inr ⟨h1, by simpa using h3⟩
theorem gr_yd_rev {G : gr_G} {T : Nat} : ∀ {d c : Nat} {w : List Nat}, gr_yd G T d c w → gr_yd (gr_rv G) T d c w.reverse
  | 0, _, _, h => h.elim
  | d + 1, _, _, ⟨k, h1, h2, h3⟩ => ⟨k, h1, h2, gr_sq_mono (fun c x h => by have := gr_yd_rev h; simpa using this) (gr_sq_rev h3)⟩
theorem gr_rv_rv (G : gr_G) : gr_rv (gr_rv G) = G := by
  obtain ⟨n, o, s⟩ := G
  simp [gr_rv]
theorem gr_yd_rv {G : gr_G} {T d c : Nat} {w : List Nat} : gr_yd (gr_rv G) T d c w ↔ gr_yd G T d c w.reverse :=
  ⟨fun h => by have := gr_yd_rev h; rwa [gr_rv_rv] at this, fun h => by have := gr_yd_rev h; rwa [List.reverse_reverse] at this⟩
theorem gr_y_rv {G : gr_G} {T c : Nat} {w : List Nat} : gr_y (gr_rv G) T c w ↔ gr_y G T c w.reverse :=
  ⟨fun ⟨d, h⟩ => ⟨d, gr_yd_rv.mp h⟩, fun ⟨d, h⟩ => ⟨d, gr_yd_rv.mpr h⟩⟩
theorem gr_sf_rv {G : gr_G} {T c : Nat} {u : List Nat} : gr_sf G T c u ↔ gr_pf (gr_rv G) T c u.reverse := by
  constructor
  · rintro ⟨v, h⟩
    exact ⟨v.reverse, gr_y_rv.mpr (by simpa using h)⟩
  · rintro ⟨v, h⟩
    exact ⟨v.reverse, by have := gr_y_rv.mp h; simpa using this⟩
theorem gr_gd_rv {G : gr_G} {T c : Nat} : gr_gd (gr_rv G) T c ↔ gr_gd G T c := ⟨fun ⟨w, h⟩ => ⟨_, gr_y_rv.mp h⟩, fun ⟨w, h⟩ => ⟨w.reverse, gr_y_rv.mpr (by simpa using h)⟩⟩
/-- where the end of a row's yield begins -/
theorem gr_sq_suf {T : Nat} {P : Nat → List Nat → Prop} {ss u v : List Nat} (hu : u ≠ []) (h : gr_sq T P ss (v ++ u)) : ∃ a s b u1 u2, ss = a ++ s :: b ∧ u = u1 ++ u2 ∧ gr_sp T (fun c x => ∃ y, P c (y ++ x)) s u1 ∧ gr_sq T P b u2 ∧ (∃ z, gr_sq T P a z) := by
  have h2 := gr_sq_rev h
  rw [List.reverse_append] at h2
  obtain ⟨a, s, b, u1, u2, e1, e2, h3, h4, z, h5⟩ := gr_sq_pre (by simpa using hu) h2
  have back : ∀ {x y : List Nat}, gr_sq T (fun c x => P c x.reverse) x y → gr_sq T P x.reverse y.reverse := fun h => gr_sq_mono (fun c w h => by simpa using h) (gr_sq_rev h)
  refine ⟨b.reverse, s, a.reverse, u2.reverse, u1.reverse, ?_, ?_, ?_, back h3, _, back h5⟩
  · have := congrArg List.reverse e1
    simpa using this
  · have := congrArg List.reverse e2
    simpa using this
  · rcases h4 with ⟨h4, rfl | rfl⟩ | ⟨h4, y, h6⟩
    · exact Or.inl ⟨h4, Or.inl rfl⟩
    · exact Or.inl ⟨h4, Or.inr rfl⟩
    · exact Or.inr ⟨h4, y.reverse, by simpa using h6⟩
theorem gr_gs_rv {G : gr_G} {T : Nat} {ss : List Nat} : gr_gs (gr_rv G) T ss.reverse ↔ gr_gs G T ss := by
  unfold gr_gs
  simp only [List.mem_reverse, gr_gd_rv]
theorem gr_sf_of {G : gr_G} {T c k : Nat} (hk : k < G.1) (hc : G.2.1 k = c) {a b u1 u2 : List Nat} {s : Nat} (e : G.2.2 k = a ++ s :: b) (h1 : gr_sp T (gr_sf G T) s u1) (h2 : gr_sq T (gr_y G T) b u2) (h3 : gr_gs G T a) : gr_sf G T c (u1 ++ u2) := by
  rw [gr_sf_rv, List.reverse_append]
  refine gr_pf_of (G := gr_rv G) (k := k) hk hc (a := b.reverse) (s := s) (b := a.reverse) ?_ ?_ ?_ (gr_gs_rv.mpr h3)
  · show (G.2.2 k).reverse = _
    rw [e]; simp
  · exact gr_sq_mono (fun c x h => gr_y_rv.mpr h) (gr_sq_rev h2)
  · rcases h1 with ⟨h, rfl | rfl⟩ | ⟨h, h1⟩
    · exact Or.inl ⟨h, Or.inl rfl⟩
    · exact Or.inl ⟨h, Or.inr rfl⟩
    · exact Or.inr ⟨h, gr_sf_rv.mp h1⟩
/-- where a part of a row's yield lies -/
theorem gr_sq_inf {T : Nat} {P : Nat → List Nat → Prop} : ∀ {ss u v w : List Nat}, u ≠ [] → gr_sq T P ss (v ++ u ++ w) →
    (∃ a s b, ss = a ++ s :: b ∧ gr_sp T (fun c x => ∃ y z, P c (y ++ x ++ z)) s u ∧ (∃ z, gr_sq T P a z) ∧ (∃ z, gr_sq T P b z)) ∨
    (∃ a s b t c u1 u2 u3, ss = a ++ s :: b ++ t :: c ∧ u = u1 ++ u2 ++ u3 ∧ gr_sp T (fun c x => ∃ y, P c (y ++ x)) s u1 ∧ gr_sq T P b u2 ∧ gr_sp T (fun c x => ∃ y, P c (x ++ y)) t u3 ∧ (∃ z, gr_sq T P a z) ∧ (∃ z, gr_sq T P c z))
  | [], u, v, w, hu, h => by
    have := (List.append_eq_nil_iff.mp (List.append_eq_nil_iff.mp h).1).2
    exact absurd this hu
  | s :: ss, u, v, w, hu, ⟨p, q, e, h1, h2⟩ => by
    rw [List.append_assoc] at e
    rcases gr_split e with ⟨x, rfl, e2⟩ | ⟨x, rfl, rfl⟩
    · -- v lies in the symbol
      rcases gr_split e2 with ⟨y, rfl, rfl⟩ | ⟨y, rfl, rfl⟩
      · -- so does u
        left
        refine ⟨[], s, ss, rfl, ?_, ⟨[], rfl⟩, q, h2⟩
        rcases h1 with ⟨h1, e1⟩ | ⟨h1, h3⟩
        · refine Or.inl ⟨h1, ?_⟩
          have hl := congrArg List.length e1
          simp only [List.length_append, List.length_cons, List.length_nil] at hl
          have hul : 0 < u.length := List.length_pos_iff.mpr hu
          have hv : v = [] := List.eq_nil_of_length_eq_zero (by omega)
          have hy : y = [] := List.eq_nil_of_length_eq_zero (by omega)
          subst hv; subst hy
          right
          simpa using e1
        · exact Or.inr ⟨h1, v, y, by rw [List.append_assoc]; exact h3⟩
      · by_cases hy : y = []
        · subst hy
          left
          rw [List.append_nil]
          refine ⟨[], s, ss, rfl, ?_, ⟨[], rfl⟩, _, h2⟩
          rcases h1 with ⟨h1, e1⟩ | ⟨h1, h3⟩
          · refine Or.inl ⟨h1, ?_⟩
            rw [List.append_nil] at hu
            have hl := congrArg List.length e1
            simp only [List.length_append, List.length_cons, List.length_nil] at hl
            have hul : 0 < x.length := List.length_pos_iff.mpr hu
            have hv : v = [] := List.eq_nil_of_length_eq_zero (by omega)
            subst hv
            right
            simpa using e1
          · exact Or.inr ⟨h1, v, [], by simpa using h3⟩
        · -- u goes on behind the symbol
          right
          obtain ⟨a, t, b, u1, u2, rfl, rfl, h3, h4, h5⟩ := gr_sq_pre hy h2
          refine ⟨[], s, a, t, b, x, u1, u2, rfl, by rw [List.append_assoc], ?_, h3, h4, ⟨[], rfl⟩, h5⟩
          rcases h1 with ⟨h1, e1⟩ | ⟨h1, h6⟩
          · refine Or.inl ⟨h1, ?_⟩
            cases v with
            | nil => right; simpa using e1
            | cons z zs =>
              left
              simp only [List.cons_append, List.cons.injEq] at e1
              exact (List.append_eq_nil_iff.mp e1.2).2
          · exact Or.inr ⟨h1, v, h6⟩
    · -- the symbol lies ahead
      rw [← List.append_assoc] at h2
      rcases gr_sq_inf hu h2 with ⟨a, s', b, rfl, h3, ⟨z, h4⟩, h5⟩ | ⟨a, s', b, t, c, u1, u2, u3, rfl, rfl, h3, h4, h5, ⟨z, h6⟩, h7⟩
      · exact Or.inl ⟨s :: a, s', b, rfl, h3, ⟨p ++ z, p, z, rfl, h1, h4⟩, h5⟩
      · exact Or.inr ⟨s :: a, s', b, t, c, u1, u2, u3, rfl, rfl, h3, h4, h5, ⟨p ++ z, p, z, rfl, h1, h6⟩, h7⟩
theorem gr_if_of {G : gr_G} {T c k : Nat} (hk : k < G.1) (hc : G.2.1 k = c) {a b u : List Nat} {s : Nat} (e : G.2.2 k = a ++ s :: b) (h1 : gr_sp T (gr_if G T) s u) (h2 : gr_gs G T a) (h3 : gr_gs G T b) : gr_if G T c u := by
  obtain ⟨z, hz⟩ := gr_gs_sq.mp h3
  obtain ⟨z0, hz0⟩ := gr_gs_sq.mp h2
  have : ∃ y y2, gr_sy T (gr_y G T) s (y ++ u ++ y2) := by
    rcases h1 with ⟨h, rfl | rfl⟩ | ⟨h, y, y2, h2⟩
    · exact ⟨[s], [], Or.inl ⟨h, rfl⟩⟩
    · exact ⟨[], [], Or.inl ⟨h, by simp⟩⟩
    · exact ⟨y, y2, Or.inr ⟨h, h2⟩⟩
  obtain ⟨y, y2, hy⟩ := this
  refine ⟨z0 ++ y, y2 ++ z, gr_y_iff.mpr ⟨k, hk, hc, ?_⟩⟩
  rw [e]
  exact gr_sq_app.mpr ⟨z0, (y ++ u ++ y2) ++ z, by simp, hz0, y ++ u ++ y2, z, rfl, hy, hz⟩
theorem gr_if_of2 {G : gr_G} {T c k : Nat} (hk : k < G.1) (hc : G.2.1 k = c) {a b d u1 u2 u3 : List Nat} {s t : Nat} (e : G.2.2 k = a ++ s :: b ++ t :: d) (h1 : gr_sp T (gr_sf G T) s u1) (h2 : gr_sq T (gr_y G T) b u2) (h3 : gr_sp T (gr_pf G T) t u3) (h4 : gr_gs G T a) (h5 : gr_gs G T d) : gr_if G T c (u1 ++ u2 ++ u3) := by
  obtain ⟨z, hz⟩ := gr_gs_sq.mp h5
  obtain ⟨z0, hz0⟩ := gr_gs_sq.mp h4
  have : ∃ y, gr_sy T (gr_y G T) s (y ++ u1) := by
    rcases h1 with ⟨h, rfl | rfl⟩ | ⟨h, y, h2⟩
    · exact ⟨[s], Or.inl ⟨h, rfl⟩⟩
    · exact ⟨[], Or.inl ⟨h, by simp⟩⟩
    · exact ⟨y, Or.inr ⟨h, h2⟩⟩
  obtain ⟨y, hy⟩ := this
  have : ∃ y, gr_sy T (gr_y G T) t (u3 ++ y) := by
    rcases h3 with ⟨h, rfl | rfl⟩ | ⟨h, y, h2⟩
    · exact ⟨[t], Or.inl ⟨h, rfl⟩⟩
    · exact ⟨[], Or.inl ⟨h, by simp⟩⟩
    · exact ⟨y, Or.inr ⟨h, h2⟩⟩
  obtain ⟨y2, hy2⟩ := this
  refine ⟨z0 ++ y, y2 ++ z, gr_y_iff.mpr ⟨k, hk, hc, ?_⟩⟩
  rw [e]
  refine gr_sq_app.mpr ⟨z0 ++ ((y ++ u1) ++ u2), (u3 ++ y2) ++ z, by simp, ?_, u3 ++ y2, z, rfl, hy2, hz⟩
  exact gr_sq_app.mpr ⟨z0, (y ++ u1) ++ u2, rfl, hz0, y ++ u1, u2, rfl, hy, h2⟩
theorem gr_pfd_y {G : gr_G} {T d c : Nat} {u : List Nat} (h : gr_pfd G T d c u) : gr_pf G T c u := let ⟨v, h⟩ := h; ⟨v, d, h⟩
theorem gr_pf_d {G : gr_G} {T c : Nat} {u : List Nat} (h : gr_pf G T c u) : ∃ d, gr_pfd G T d c u := let ⟨v, d, h⟩ := h; ⟨d, v, h⟩
theorem gr_sf_d {G : gr_G} {T c : Nat} {u : List Nat} (h : gr_sf G T c u) : ∃ d, gr_sfd G T d c u := let ⟨v, d, h⟩ := h; ⟨d, v, h⟩
theorem gr_if_d {G : gr_G} {T c : Nat} {u : List Nat} (h : gr_if G T c u) : ∃ d, gr_ifd G T d c u := let ⟨v, w, d, h⟩ := h; ⟨d, v, w, h⟩
