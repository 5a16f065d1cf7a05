theorem gr_sq_lt {T : Nat} {P : Nat → List Nat → Prop} (hP : ∀ c w, P c w → ∀ x ∈ w, x < T) : ∀ {ss w : List Nat}, gr_sq T P ss w → ∀ x ∈ w, x < T
  | [], _, h, x, hx => by cases h; cases hx
  | s :: ss, _, ⟨u, v, e, h1, h2⟩, x, hx => by
    subst e
    rcases List.mem_append.mp hx with h | h
    · rcases h1 with ⟨h3, rfl⟩ | ⟨-, h3⟩
      · rw [List.mem_singleton.mp h]; exact h3
      · exact hP _ _ h3 x h
    · exact gr_sq_lt hP h2 x h
theorem gr_yd_lt {G : gr_G} {T : Nat} : ∀ {d c : Nat} {w : List Nat}, gr_yd G T d c w → ∀ x ∈ w, x < T
  | 0, _, _, h => h.elim
  | d + 1, _, _, ⟨k, _, _, h⟩ => gr_sq_lt (fun _ _ h => gr_yd_lt h) h
theorem gr_y_lt {G : gr_G} {T c : Nat} {w : List Nat} (h : gr_y G T c w) : ∀ x ∈ w, x < T := let ⟨_, h⟩ := h; gr_yd_lt h
/-- a sentence in its frame -/
abbrev fr_s (s : List Nat) : List Nat := 8 :: (s ++ [9])
theorem fr_mem {s : List Nat} (h : ∀ x ∈ s, x < 8) {a b : List Nat} {y : Nat} (e : s ++ [9] = a ++ y :: b) : y < 8 ∨ (y = 9 ∧ b = [] ∧ s = a) := by
  rcases gr_split e with ⟨x, h1, h2⟩ | ⟨x, h1, h2⟩
  · cases x with
    | nil =>
      simp at h2 h1
      exact Or.inr ⟨h2.1.symm, h2.2, h1.symm⟩
    | cons z zs =>
      simp at h2
  · cases x with
    | nil =>
      simp at h1 h2
      exact Or.inr ⟨h2.1, h2.2, h1⟩
    | cons z zs =>
      simp at h2
      left
      rw [h2.1]
      exact h z (by rw [h1]; simp)
theorem fr_head {s a b u : List Nat} (h : ∀ x ∈ s, x < 8) (e : fr_s s = a ++ (8 :: u) ++ b) : a = [] ∧ s ++ [9] = u ++ b := by
  cases a with
  | nil =>
    simp at e
    exact ⟨rfl, e⟩
  | cons z zs =>
    exfalso
    simp only [fr_s, List.cons_append, List.append_assoc, List.cons.injEq] at e
    rcases fr_mem h e.2 with h2 | h2
    · omega
    · omega
theorem fr_pf {s w b : List Nat} (hw : ∀ x ∈ w, x < 8) (e : s ++ [9] = w ++ b) : ∃ b', b = b' ++ [9] ∧ s = w ++ b' := by
  rcases gr_split e with ⟨x, h1, h2⟩ | ⟨x, h1, h2⟩
  · cases x with
    | nil =>
      simp at h1 h2
      exact ⟨[], by rw [← h2]; rfl, by rw [h1]; simp⟩
    | cons z zs =>
      simp at h2
      exfalso
      have := hw z (by rw [h1]; simp)
      omega
  · exact ⟨x, h2, h1⟩
theorem fr_tail {s w a b : List Nat} (h : ∀ x ∈ s, x < 8) (e : fr_s s = a ++ (w ++ [9]) ++ b) : b = [] ∧ 8 :: s = a ++ w := by
  have e2 : (8 :: s) ++ [9] = (a ++ w) ++ 9 :: b := by simpa [fr_s] using e
  rcases gr_split e2 with ⟨x, h1, h2⟩ | ⟨x, h1, h2⟩
  · cases x with
    | nil =>
      simp at h2 h1
      exact ⟨h2, by rw [h1]⟩
    | cons z zs =>
      simp at h2
  · cases x with
    | nil =>
      simp at h1 h2
      exact ⟨h2, h1⟩
    | cons z zs =>
      simp at h2
      exfalso
      have hm : z ∈ 8 :: s := by rw [h1]; simp
      rcases List.mem_cons.mp hm with h3 | h3
      · omega
      · have := h z h3; omega
/-- u stands, without a gap, in a frame of what st yields -/
def fr_in (G : gr_G) (st : Nat) (u : List Nat) : Prop := ∃ s a b, gr_y G 8 st s ∧ fr_s s = a ++ u ++ b
theorem fr_in_nil {G : gr_G} {st : Nat} : fr_in G st [] ↔ gr_gd G 8 st := ⟨fun ⟨s, _, _, h, _⟩ => ⟨s, h⟩, fun ⟨s, h⟩ => ⟨s, [], fr_s s, h, by simp⟩⟩
theorem fr_in_y {G : gr_G} {st : Nat} {w : List Nat} : fr_in G st (8 :: (w ++ [9])) ↔ gr_y G 8 st w := by
  constructor
  · rintro ⟨s, a, b, h, e⟩
    obtain ⟨rfl, e2⟩ := fr_head (gr_y_lt h) e
    have e3 : fr_s s = [8] ++ (w ++ [9]) ++ b := by simp [fr_s, e2]
    obtain ⟨rfl, e4⟩ := fr_tail (gr_y_lt h) e3
    simp at e4
    rw [← e4]; exact h
  · exact fun h => ⟨w, [], [], h, by simp⟩
theorem fr_in_pf {G : gr_G} {st : Nat} {w : List Nat} (hw : ∀ x ∈ w, x < 8) : fr_in G st (8 :: w) ↔ gr_pf G 8 st w := by
  constructor
  · rintro ⟨s, a, b, h, e⟩
    obtain ⟨rfl, e2⟩ := fr_head (gr_y_lt h) e
    obtain ⟨b', -, e3⟩ := fr_pf hw e2
    exact ⟨b', by rw [← e3]; exact h⟩
  · rintro ⟨v, h⟩
    exact ⟨w ++ v, [], v ++ [9], h, by simp [fr_s]⟩
theorem fr_in_sf {G : gr_G} {st : Nat} {w : List Nat} (hw : ∀ x ∈ w, x < 8) : fr_in G st (w ++ [9]) ↔ gr_sf G 8 st w := by
  constructor
  · rintro ⟨s, a, b, h, e⟩
    obtain ⟨rfl, e2⟩ := fr_tail (gr_y_lt h) e
    cases a with
    | nil =>
      cases w with
      | nil => simp at e2
      | cons z zs =>
        simp at e2
        exfalso
        have := hw z (by simp)
        omega
    | cons z zs =>
      simp at e2
      exact ⟨zs, by rw [← e2.2]; exact h⟩
  · rintro ⟨v, h⟩
    exact ⟨v ++ w, 8 :: v, [], h, by simp [fr_s]⟩
theorem fr_in_if {G : gr_G} {st : Nat} {w : List Nat} (hw : ∀ x ∈ w, x < 8) (hne : w ≠ []) : fr_in G st w ↔ gr_if G 8 st w := by
  constructor
  · rintro ⟨s, a, b, h, e⟩
    cases a with
    | nil =>
      cases w with
      | nil => exact absurd rfl hne
      | cons z zs =>
        simp [fr_s] at e
        exfalso
        have := hw z (by simp)
        omega
    | cons z zs =>
      simp only [fr_s, List.cons_append, List.append_assoc, List.cons.injEq] at e
      have e2 : s ++ [9] = (zs ++ w) ++ b := by rw [e.2, List.append_assoc]
      rcases gr_split e2 with ⟨x, h1, h2⟩ | ⟨x, h1, h2⟩
      · cases x with
        | nil =>
          simp at h1
          exact ⟨zs, [], by rw [← h1] at h; simpa using h⟩
        | cons y ys =>
          simp at h2
          exfalso
          -- the frame's end would lie in w
          have hy : ys = [] := h2.2.1
          subst hy
          rcases List.eq_nil_or_concat w with h3 | ⟨w', q, h3⟩
          · exact hne h3
          · subst h3
            have h4 : q = y := by
              have := congrArg List.getLast? h1
              simp at this
              exact this
            have := hw q (by simp)
            omega
      · exact ⟨zs, x, by rw [← h1]; exact h⟩
  · rintro ⟨v, z, h⟩
    exact ⟨v ++ w ++ z, 8 :: v, z ++ [9], h, by simp [fr_s]⟩
/-- places of a line in its frame: 8 ahead, 9 behind -/
def fr_w (w : Int → Int) (n : Int) : Int → Int := fun p => if p = 0 then 8 else if p = n + 1 then 9 else w (p - 1)
theorem fr_sg {w : Int → Int} {n i j : Int} (hi : 1 ≤ i) (hj : j ≤ n + 1) : sg (fr_w w n) i j = sg w (i - 1) (j - 1) := by
  apply List.ext_getElem?
  intro t
  by_cases ht : t < (j - i).toNat
  · rw [sg_get ht, sg_get (by omega)]
    unfold fr_w
    rw [if_neg (by omega), if_neg (by omega), show i + (t : Int) - 1 = i - 1 + (t : Int) by omega]
  · rw [List.getElem?_eq_none (by rw [sg_len]; omega), List.getElem?_eq_none (by rw [sg_len]; omega)]
theorem fr_lt {w : Int → Int} {i j : Int} (hw : ∀ p, i ≤ p → p < j → 0 ≤ w p ∧ w p ≤ 7) : ∀ x ∈ sg w i j, x < 8 := by
  intro x hx
  obtain ⟨t, ht, rfl⟩ := List.mem_map.mp hx
  have := hw (i + (t : Int)) (by omega) (by have := List.mem_range.mp ht; omega)
  omega
/-- to fit, by the model's four questions, is to stand in a frame -/
theorem mf_fr {G : gr_G} {st : Nat} {w : Int → Int} {n i j : Int} (hg : gr_gd G 8 st) (hn : 0 ≤ n) (hw : ∀ p, 0 ≤ p → p < n → 0 ≤ w p ∧ w p ≤ 7) (hi : 0 ≤ i) (hij : i ≤ j) (hj : j ≤ n + 2) : mf G st w n i j ↔ fr_in G st (sg (fr_w w n) i j) := by
  have e0 : (fr_w w n 0).toNat = 8 := by simp [fr_w]
  have e9 : (fr_w w n (n + 1)).toNat = 9 := by unfold fr_w; rw [if_neg (by omega), if_pos rfl]; rfl
  by_cases he : i = j
  · subst he
    rw [sg_nil, fr_in_nil]
    exact ⟨fun _ => hg, fun _ => Or.inl rfl⟩
  · by_cases h0 : i = 0
    · subst h0
      rw [sg_cons (by omega), e0, show (0 : Int) + 1 = 1 by decide]
      by_cases h2 : j = n + 2
      · subst h2
        rw [← sg_app (w := fr_w w n) (i := 1) (m := n + 1) (j := n + 2) (by omega) (by omega), fr_sg (by omega) (by omega), show n + 2 = n + 1 + 1 by omega, sg_one, e9, fr_in_y, show (1 : Int) - 1 = 0 by decide, show n + 1 - 1 = n by omega]
        constructor
        · rintro (h | ⟨-, h | h | h | h⟩)
          · omega
          · exact h.2.2
          · omega
          · omega
          · omega
        · exact fun h => Or.inr ⟨by omega, Or.inl ⟨rfl, by omega, h⟩⟩
      · rw [fr_sg (by omega) (by omega), fr_in_pf (fr_lt fun p h1 h2 => hw p (by omega) (by omega)), show (1 : Int) - 1 = 0 by decide]
        constructor
        · rintro (h | ⟨-, h | h | h | h⟩)
          · omega
          · omega
          · exact h.2.2
          · omega
          · omega
        · exact fun h => Or.inr ⟨by omega, Or.inr (Or.inl ⟨rfl, h2, h⟩)⟩
    · by_cases h2 : j = n + 2
      · subst h2
        rw [← sg_app (w := fr_w w n) (i := i) (m := n + 1) (j := n + 2) (by omega) (by omega), fr_sg (by omega) (by omega), show n + 2 = n + 1 + 1 by omega, sg_one, e9, fr_in_sf (fr_lt fun p h1 h2 => hw p (by omega) (by omega)), show n + 1 - 1 = n by omega]
        constructor
        · rintro (h | ⟨-, h | h | h | h⟩)
          · omega
          · omega
          · omega
          · exact h.2.2
          · omega
        · exact fun h => Or.inr ⟨by omega, Or.inr (Or.inr (Or.inl ⟨h0, by omega, h⟩))⟩
      · rw [fr_sg (by omega) (by omega), fr_in_if (fr_lt fun p h1 h2 => hw p (by omega) (by omega)) (sg_ne (by omega))]
        constructor
        · rintro (h | ⟨-, h | h | h | h⟩)
          · omega
          · omega
          · omega
          · omega
          · exact h.2.2
        · exact fun h => Or.inr ⟨by omega, Or.inr (Or.inr (Or.inr ⟨h0, h2, h⟩))⟩
/-- a piece of a piece -/
theorem fr_in_sub {G : gr_G} {st : Nat} {a u b : List Nat} (h : fr_in G st (a ++ u ++ b)) : fr_in G st u := by
  obtain ⟨s, x, y, h, e⟩ := h
  exact ⟨s, x ++ a, b ++ y, h, by rw [e]; simp⟩
