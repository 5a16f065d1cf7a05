/-- what it costs to make a stretch of a row one sign -/
def kt (W : Nat → Nat) (s p q a : Nat) : Prop := p ≤ q ∧ ((p = q ∧ a = 1) ∨ (p < q ∧ (∃ m, p ≤ m ∧ m < q ∧ W m = s) ∧ a = q - p - 1) ∨ (p < q ∧ (∀ m, p ≤ m → m < q → W m ≠ s) ∧ a = q - p))
abbrev kP : Type := Nat → Nat → Nat → Nat → Prop
def ks (W : Nat → Nat) (P : kP) (s p q a : Nat) : Prop := (s < 8 ∧ kt W s p q a) ∨ (8 ≤ s ∧ P (s - 8) p q a)
/-- what it costs to make a stretch a row of symbols -/
def kq1 (W : Nat → Nat) (P : kP) : List Nat → Nat → Nat → Nat → Prop
  | [], p, q, n => p = q ∧ n = 0
  | s :: ss, p, q, n => ∃ m a b, p ≤ m ∧ m ≤ q ∧ n = a + b ∧ ks W P s p m a ∧ kq1 W P ss m q b
def kq (W : Nat → Nat) (P : kP) (ss : List Nat) (p q n : Nat) : Prop := (ss = [] ∧ p ≤ q ∧ n = q - p) ∨ (ss ≠ [] ∧ kq1 W P ss p q n)
def kwd (G : gr_G) (W : Nat → Nat) : Nat → kP
  | 0 => fun _ _ _ _ => False
  | d + 1 => fun x p q n => ∃ k, k < G.1 ∧ G.2.1 k = x ∧ kq W (kwd G W d) (G.2.2 k) p q n
def kw (G : gr_G) (W : Nat → Nat) : kP := fun x p q n => ∃ d, kwd G W d x p q n
theorem ks_mono {W : Nat → Nat} {P P' : kP} {s p q a : Nat} (h : 8 ≤ s → P (s - 8) p q a → P' (s - 8) p q a) (hs : ks W P s p q a) : ks W P' s p q a := by
  rcases hs with h1 | ⟨h1, h2⟩
  · exact Or.inl h1
  · exact Or.inr ⟨h1, h h1 h2⟩
theorem kq1_mono {W : Nat → Nat} {P P' : kP} : ∀ {ss : List Nat} {p q n : Nat}, (∀ s p q a, s ∈ ss → 8 ≤ s → P (s - 8) p q a → P' (s - 8) p q a) → kq1 W P ss p q n → kq1 W P' ss p q n
  | [], _, _, _, _, h => h
  | s :: ss, p, q, n, hm, ⟨m, a, b, h1, h2, h3, h4, h5⟩ => ⟨m, a, b, h1, h2, h3, ks_mono (hm s p m a (List.mem_cons_self ..)) h4, kq1_mono (fun s' p q a h => hm s' p q a (List.mem_cons_of_mem _ h)) h5⟩
theorem kq_mono {W : Nat → Nat} {P P' : kP} {ss : List Nat} {p q n : Nat} (hm : ∀ s p q a, s ∈ ss → 8 ≤ s → P (s - 8) p q a → P' (s - 8) p q a) (h : kq W P ss p q n) : kq W P' ss p q n := by
  rcases h with h | ⟨h1, h2⟩
  · exact Or.inl h
  · exact Or.inr ⟨h1, kq1_mono hm h2⟩
theorem kwd_succ {G : gr_G} {W : Nat → Nat} : ∀ {d x p q n : Nat}, kwd G W d x p q n → kwd G W (d + 1) x p q n
  | 0, _, _, _, _, h => h.elim
  | d + 1, x, p, q, n, ⟨k, h1, h2, h3⟩ => ⟨k, h1, h2, kq_mono (fun s p q a _ _ h => kwd_succ h) h3⟩
theorem kwd_mono {G : gr_G} {W : Nat → Nat} {d d' x p q n : Nat} (hd : d ≤ d') (h : kwd G W d x p q n) : kwd G W d' x p q n := by
  induction hd with
  | refl => exact h
  | step _ ih => exact kwd_succ ih
theorem kq1_fin {G : gr_G} {W : Nat → Nat} : ∀ {ss : List Nat} {p q n : Nat}, kq1 W (kw G W) ss p q n → ∃ d, kq1 W (kwd G W d) ss p q n
  | [], _, _, _, h => ⟨0, h⟩
  | s :: ss, p, q, n, ⟨m, a, b, h1, h2, h3, h4, h5⟩ => by
    obtain ⟨d2, g2⟩ := kq1_fin h5
    rcases h4 with h4 | ⟨h4, d1, g1⟩
    · exact ⟨d2, m, a, b, h1, h2, h3, Or.inl h4, g2⟩
    · exact ⟨max d1 d2, m, a, b, h1, h2, h3, Or.inr ⟨h4, kwd_mono (Nat.le_max_left ..) g1⟩, kq1_mono (fun s p q a _ _ h => kwd_mono (Nat.le_max_right ..) h) g2⟩
theorem kw_iff {G : gr_G} {W : Nat → Nat} {x p q n : Nat} : kw G W x p q n ↔ ∃ k, k < G.1 ∧ G.2.1 k = x ∧ kq W (kw G W) (G.2.2 k) p q n := by
  constructor
  · rintro ⟨d, h⟩
    cases d with
    | zero => exact h.elim
    | succ d =>
      obtain ⟨k, h1, h2, h3⟩ := h
      exact ⟨k, h1, h2, kq_mono (fun s p q a _ _ h => ⟨d, h⟩) h3⟩
  · rintro ⟨k, h1, h2, h3 | ⟨h3, h4⟩⟩
    · exact ⟨1, k, h1, h2, Or.inl h3⟩
    · obtain ⟨d, hd⟩ := kq1_fin h4
      exact ⟨d + 1, k, h1, h2, Or.inr ⟨h3, hd⟩⟩
/-- of a least cost each part is a least cost -/
theorem kq1_min {W : Nat → Nat} {P P' : kP} (hP : ∀ x p q a, P x p q a → P' x p q a) : ∀ {ss : List Nat} {p q n : Nat}, kq1 W P ss p q n → (∀ m, kq1 W P' ss p q m → n ≤ m) → kq1 W (fun x p q a => P x p q a ∧ ∀ m, P' x p q m → a ≤ m) ss p q n
  | [], _, _, _, h, _ => h
  | s :: ss, p, q, n, ⟨m, a, b, h1, h2, h3, h4, h5⟩, hm => by
    refine ⟨m, a, b, h1, h2, h3, ?_, kq1_min hP h5 (fun b' hb' => ?_)⟩
    · rcases h4 with h4 | ⟨h4, h6⟩
      · exact Or.inl h4
      · refine Or.inr ⟨h4, h6, fun a' ha' => ?_⟩
        have := hm (a' + b) ⟨m, a', b, h1, h2, rfl, Or.inr ⟨h4, ha'⟩, kq1_mono (fun s p q a _ _ h => hP _ p q a h) h5⟩
        omega
    · have := hm (a + b') ⟨m, a, b', h1, h2, rfl, ks_mono (fun _ h => hP _ _ _ _ h) h4, hb'⟩
      omega
/-- least costs -/
def kl (G : gr_G) (W : Nat → Nat) (x p q n : Nat) : Prop := kw G W x p q n ∧ ∀ m, kw G W x p q m → n ≤ m
/-- while a least cost is not found yet, there is an alternative that finds one -/
theorem k_grow {G : gr_G} {W : Nat → Nat} {F : Nat → Nat → Nat → Prop} {D : Nat → Nat → Prop} (hF : ∀ x p q, F x p q → p ≤ q) (hD : ∀ p q, D p q → p ≤ q) (hsub : ∀ p q p' q', D p q → p ≤ p' → p' ≤ q' → q' ≤ q → D p' q') : ∀ (d x p q n : Nat), D p q → kwd G W d x p q n → (∀ m, kw G W x p q m → n ≤ m) →
    F x p q ∨ ∃ x p q k n, D p q ∧ ¬ F x p q ∧ kl G W x p q n ∧ k < G.1 ∧ G.2.1 k = x ∧ kq W (fun x p q a => kl G W x p q a ∧ F x p q) (G.2.2 k) p q n
  | 0, _, _, _, _, _, h, _ => h.elim
  | d + 1, x, p, q, n, hDp, ⟨k, h1, h2, h3⟩, hm => by
    by_cases hg : ∃ x p q k n, D p q ∧ ¬ F x p q ∧ kl G W x p q n ∧ k < G.1 ∧ G.2.1 k = x ∧ kq W (fun x p q a => kl G W x p q a ∧ F x p q) (G.2.2 k) p q n
    · exact Or.inr hg
    by_cases hf : F x p q
    · exact Or.inl hf
    refine Or.inr ⟨x, p, q, k, n, hDp, hf, ⟨⟨d + 1, k, h1, h2, h3⟩, hm⟩, h1, h2, ?_⟩
    rcases h3 with h3 | ⟨h3, h4⟩
    · exact Or.inl h3
    · refine Or.inr ⟨h3, ?_⟩
      have h5 := kq1_min (P' := kw G W) (fun x p q a h => ⟨d, h⟩) h4 (fun m h => hm m (kw_iff.mpr ⟨k, h1, h2, Or.inr ⟨h3, h⟩⟩))
      -- parts lie in what is looked at
      have go : ∀ (ss : List Nat) (p q n : Nat), D p q → kq1 W (fun x p q a => kwd G W d x p q a ∧ ∀ m, kw G W x p q m → a ≤ m) ss p q n → kq1 W (fun x p q a => kl G W x p q a ∧ F x p q) ss p q n := by
        intro ss
        induction ss with
        | nil => exact fun _ _ _ _ h => h
        | cons s ss ih =>
          rintro p q n hDq ⟨m, a, b, g1, g2, g3, g4, g5⟩
          refine ⟨m, a, b, g1, g2, g3, ?_, ih m q b (hsub p q m q hDq g1 g2 (Nat.le_refl _)) g5⟩
          refine ks_mono (fun h8 h => ⟨⟨⟨d, h.1⟩, h.2⟩, ?_⟩) g4
          rcases k_grow hF hD hsub d _ p m a (hsub p q p m hDq (Nat.le_refl _) g1 g2) h.1 h.2 with h9 | h9
          · exact h9
          · exact absurd h9 hg
      exact go _ p q n hDp h5
theorem kw_le {G : gr_G} {W : Nat → Nat} : ∀ {d x p q n : Nat}, kwd G W d x p q n → p ≤ q
  | 0, _, _, _, _, h => h.elim
  | d + 1, x, p, q, n, ⟨k, h1, h2, h3⟩ => by
    rcases h3 with h3 | ⟨h3, h4⟩
    · exact h3.2.1
    · have : ∀ (ss : List Nat) (p q n : Nat), kq1 W (kwd G W d) ss p q n → p ≤ q := by
        intro ss
        induction ss with
        | nil => rintro p q n ⟨rfl, _⟩; exact Nat.le_refl _
        | cons s ss ih => rintro p q n ⟨m, a, b, g1, g2, _⟩; omega
      exact this _ _ _ _ h4
/-- what costs something yields something -/
theorem kw_gd {G : gr_G} {W : Nat → Nat} : ∀ {d x p q n : Nat}, kwd G W d x p q n → gr_gd G 8 x
  | 0, _, _, _, _, h => h.elim
  | d + 1, x, p, q, n, ⟨k, h1, h2, h3⟩ => by
    refine gr_gd_iff.mpr ⟨k, h1, h2, ?_⟩
    rcases h3 with h3 | ⟨h3, h4⟩
    · rw [h3.1]; intro s hs; cases hs
    · have : ∀ (ss : List Nat) (p q n : Nat), kq1 W (kwd G W d) ss p q n → gr_gs G 8 ss := by
        intro ss
        induction ss with
        | nil => intro _ _ _ _ s hs; cases hs
        | cons s ss ih =>
          rintro p q n ⟨m, a, b, g1, g2, g3, g4, g5⟩ s' hs' h8
          rcases List.mem_cons.mp hs' with rfl | hs'
          · rcases g4 with ⟨g4, _⟩ | ⟨_, g4⟩
            · omega
            · exact kw_gd g4
          · exact ih m q b g5 s' hs' h8
      exact this _ _ _ _ h4
theorem kt_ex {W : Nat → Nat} {s p q : Nat} (h : p ≤ q) : ∃ a, kt W s p q a ∧ a ≤ 1 + (q - p) := by
  by_cases e : p = q
  · exact ⟨1, ⟨h, Or.inl ⟨e, rfl⟩⟩, by omega⟩
  · by_cases hm : ∃ m, p ≤ m ∧ m < q ∧ W m = s
    · exact ⟨q - p - 1, ⟨h, Or.inr (Or.inl ⟨by omega, hm, rfl⟩)⟩, by omega⟩
    · exact ⟨q - p, ⟨h, Or.inr (Or.inr ⟨by omega, fun m h1 h2 h3 => hm ⟨m, h1, h2, h3⟩, rfl⟩)⟩, by omega⟩
theorem kq1_ex {W : Nat → Nat} {P : kP} {B q : Nat} : ∀ (ss : List Nat) (p : Nat), p ≤ q → ss ≠ [] → (∀ s ∈ ss, 8 ≤ s → ∀ p q, p ≤ q → ∃ a, P (s - 8) p q a ∧ a ≤ B + (q - p)) → 1 ≤ B → ∃ n, kq1 W P ss p q n ∧ n ≤ ss.length * B + (q - p)
  | [], _, _, h, _, _ => absurd rfl h
  | [s], p, hp, _, hs, hB => by
    have : ∃ a, ks W P s p q a ∧ a ≤ B + (q - p) := by
      by_cases h8 : 8 ≤ s
      · obtain ⟨a, h1, h2⟩ := hs s (List.mem_singleton_self s) h8 p q hp
        exact ⟨a, Or.inr ⟨h8, h1⟩, h2⟩
      · obtain ⟨a, h1, h2⟩ := kt_ex (W := W) (s := s) hp
        exact ⟨a, Or.inl ⟨by omega, h1⟩, by omega⟩
    obtain ⟨a, h1, h2⟩ := this
    exact ⟨a, ⟨q, a, 0, hp, Nat.le_refl _, rfl, h1, rfl, rfl⟩, by simp; omega⟩
  | s :: t :: ss, p, hp, _, hs, hB => by
    have : ∃ a, ks W P s p p a ∧ a ≤ B := by
      by_cases h8 : 8 ≤ s
      · obtain ⟨a, h1, h2⟩ := hs s (List.mem_cons_self ..) h8 p p (Nat.le_refl _)
        exact ⟨a, Or.inr ⟨h8, h1⟩, by omega⟩
      · obtain ⟨a, h1, h2⟩ := kt_ex (W := W) (s := s) (Nat.le_refl p)
        exact ⟨a, Or.inl ⟨by omega, h1⟩, by omega⟩
    obtain ⟨a, h1, h2⟩ := this
    obtain ⟨b, h3, h4⟩ := kq1_ex (t :: ss) p hp (List.cons_ne_nil _ _) (fun s' h => hs s' (List.mem_cons_of_mem _ h)) hB
    refine ⟨a + b, ⟨p, a, b, Nat.le_refl _, hp, rfl, h1, h3⟩, ?_⟩
    rw [List.length_cons, Nat.succ_mul]
    omega
/-- what yields something in d steps costs not too much -/
theorem kw_ex {G : gr_G} {W : Nat → Nat} (h4 : ∀ k, k < G.1 → (G.2.2 k).length ≤ 4) : ∀ (d x : Nat) (w : List Nat), gr_yd G 8 d x w → ∀ p q, p ≤ q → ∃ n, kwd G W d x p q n ∧ n ≤ 4 ^ d + (q - p)
  | 0, _, _, h, _, _, _ => h.elim
  | d + 1, x, w, ⟨k, h1, h2, h3⟩, p, q, hp => by
    by_cases e : G.2.2 k = []
    · exact ⟨q - p, ⟨k, h1, h2, Or.inl ⟨e, hp, rfl⟩⟩, Nat.le_add_left _ _⟩
    · have hall : ∀ (ss w : List Nat), gr_sq 8 (gr_yd G 8 d) ss w → ∀ s ∈ ss, 8 ≤ s → ∃ u, gr_yd G 8 d (s - 8) u := by
        intro ss
        induction ss with
        | nil => intro _ _ s hs; cases hs
        | cons s ss ih =>
          rintro w ⟨u, v, _, g1, g2⟩ s' hs' h8
          rcases List.mem_cons.mp hs' with rfl | hs'
          · rcases g1 with ⟨g1, _⟩ | ⟨_, g1⟩
            · omega
            · exact ⟨u, g1⟩
          · exact ih v g2 s' hs' h8
      obtain ⟨n, g1, g2⟩ := kq1_ex (W := W) (P := kwd G W d) (B := 4 ^ d) (G.2.2 k) p hp e (fun s hs h8 p q hpq => by
        obtain ⟨u, hu⟩ := hall _ _ h3 s hs h8
        exact kw_ex h4 d _ u hu p q hpq) (Nat.one_le_pow _ _ (by decide))
      refine ⟨n, ⟨k, h1, h2, Or.inr ⟨e, g1⟩⟩, ?_⟩
      have h5 := h4 k h1
      have h6 : (G.2.2 k).length * 4 ^ d ≤ 4 * 4 ^ d := Nat.mul_le_mul_right _ h5
      rw [Nat.pow_succ, Nat.mul_comm (4 ^ d) 4]
      omega
/-- a set of bits for what holds below a bound -/
theorem bits_of (P : Nat → Prop) : ∀ n, ∃ g, g < 2 ^ n ∧ ∀ x, x < n → (g.testBit x = true ↔ P x)
  | 0 => ⟨0, by decide, fun x h => absurd h (Nat.not_lt_zero _)⟩
  | n + 1 => by
    obtain ⟨g, h1, h2⟩ := bits_of P n
    have hg : g.testBit n = false := Nat.testBit_lt_two_pow h1
    have h3 : g < 2 ^ (n + 1) := Nat.lt_of_lt_of_le h1 (Nat.pow_le_pow_right (by decide) (Nat.le_succ n))
    by_cases hp : P n
    · refine ⟨g ||| 2 ^ n, Nat.or_lt_two_pow h3 (Nat.pow_lt_pow_right (by decide) (Nat.lt_succ_self n)), fun x hx => ?_⟩
      rw [pb_set, Bool.or_eq_true, decide_eq_true_iff]
      by_cases e : x = n
      · subst e; exact ⟨fun _ => hp, fun _ => Or.inr rfl⟩
      · rw [h2 x (by omega)]
        exact ⟨fun h => h.resolve_right (fun h => e h.symm), Or.inl⟩
    · refine ⟨g, h3, fun x hx => ?_⟩
      by_cases e : x = n
      · subst e; rw [hg]; exact ⟨fun h => (Bool.false_ne_true h).elim, fun h => absurd h hp⟩
      · exact h2 x (by omega)
/-- what yields something does so in few steps -/
theorem gd_few {G : gr_G} {N : Nat} (ho : ∀ k, k < G.1 → G.2.1 k < N) : ∀ n, (∃ d, d ≤ n ∧ ∀ x w, gr_yd G 8 (d + 1) x w → ∃ u, gr_yd G 8 d x u) ∨ ∃ g, (∀ x, x < N → g.testBit x = true → ∃ u, gr_yd G 8 n x u) ∧ n ≤ bcn g N
  | 0 => Or.inr ⟨0, fun x _ h => by simp at h, Nat.zero_le _⟩
  | n + 1 => by
    rcases gd_few ho n with ⟨d, h1, h2⟩ | ⟨g, h1, h2⟩
    · exact Or.inl ⟨d, by omega, h2⟩
    · by_cases hs : ∀ x w, gr_yd G 8 (n + 1) x w → ∃ u, gr_yd G 8 n x u
      · exact Or.inl ⟨n, by omega, hs⟩
      · have hs2 : ∃ x w, gr_yd G 8 (n + 1) x w ∧ ¬ ∃ u, gr_yd G 8 n x u := by
          refine Classical.byContradiction fun hno => hs fun x w hw => Classical.byContradiction fun hu => hno ⟨x, w, hw, hu⟩
        obtain ⟨x, w, hw, hx⟩ := hs2
        have hxN : x < N := by obtain ⟨k, k1, k2, _⟩ := hw; rw [← k2]; exact ho k k1
        have hgx : g.testBit x = false := by
          by_cases hb : g.testBit x = true
          · exact absurd (h1 x hxN hb) hx
          · simpa using hb
        refine Or.inr ⟨g ||| 2 ^ x, fun y hy hb => ?_, ?_⟩
        · rw [pb_set, Bool.or_eq_true, decide_eq_true_iff] at hb
          rcases hb with hb | rfl
          · obtain ⟨u, hu⟩ := h1 y hy hb
            exact ⟨u, gr_yd_succ hu⟩
          · exact ⟨w, hw⟩
        · have := bcn_lt (v := g) (w := g ||| 2 ^ x) (p := x) (fun i h => by rw [Nat.testBit_or, h]; rfl) hgx (by rw [pb_set]; simp) N hxN
          omega
theorem gd_stable {G : gr_G} {d : Nat} (h : ∀ x w, gr_yd G 8 (d + 1) x w → ∃ u, gr_yd G 8 d x u) : ∀ e x w, gr_yd G 8 e x w → ∃ u, gr_yd G 8 d x u
  | 0, _, _, h => h.elim
  | e + 1, x, w, ⟨k, h1, h2, h3⟩ => by
    have : ∀ (ss w : List Nat), gr_sq 8 (gr_yd G 8 e) ss w → ∃ u, gr_sq 8 (gr_yd G 8 d) ss u := by
      intro ss
      induction ss with
      | nil => exact fun _ _ => ⟨[], rfl⟩
      | cons s ss ih =>
        rintro w ⟨u, v, _, g1, g2⟩
        obtain ⟨v', hv'⟩ := ih v g2
        rcases g1 with ⟨g1, g3⟩ | ⟨g1, g3⟩
        · exact ⟨u ++ v', u, v', rfl, Or.inl ⟨g1, g3⟩, hv'⟩
        · obtain ⟨u', hu'⟩ := gd_stable h e _ _ g3
          exact ⟨u' ++ v', u', v', rfl, Or.inr ⟨g1, hu'⟩, hv'⟩
    obtain ⟨u, hu⟩ := this _ _ h3
    exact h x u ⟨k, h1, h2, hu⟩
theorem gd_7 {G : gr_G} (ho : ∀ k, k < G.1 → G.2.1 k < 6) {x : Nat} (h : gr_gd G 8 x) : ∃ u, gr_yd G 8 7 x u := by
  obtain ⟨w, e, hw⟩ := h
  rcases gd_few ho 7 with ⟨d, h1, h2⟩ | ⟨g, h1, h2⟩
  · obtain ⟨u, hu⟩ := gd_stable h2 e x w hw
    exact ⟨u, gr_yd_mono h1 hu⟩
  · have := bcn_le g 6
    omega
/-- a least cost there is, and it is not great -/
theorem kl_ex {G : gr_G} {W : Nat → Nat} (ho : ∀ k, k < G.1 → G.2.1 k < 6) (h4 : ∀ k, k < G.1 → (G.2.2 k).length ≤ 4) {x p q : Nat} (hp : p ≤ q) (h : gr_gd G 8 x) : ∃ n, kl G W x p q n ∧ n ≤ 16384 + (q - p) := by
  obtain ⟨u, hu⟩ := gd_7 ho h
  obtain ⟨n, h1, h2⟩ := kw_ex (W := W) h4 7 x u hu p q hp
  have hn : kw G W x p q n := ⟨7, h1⟩
  clear h1
  induction n using Nat.strongRecOn with
  | _ n ih =>
    by_cases hx : ∃ m, m < n ∧ kw G W x p q m
    · obtain ⟨m, m1, m2⟩ := hx
      exact ih m m1 (by omega) m2
    · exact ⟨n, ⟨hn, fun m hm => Nat.le_of_not_lt fun hlt => hx ⟨m, hlt, hm⟩⟩, h2⟩
theorem kl_uniq {G : gr_G} {W : Nat → Nat} {x p q n m : Nat} (h1 : kl G W x p q n) (h2 : kl G W x p q m) : n = m := Nat.le_antisymm (h1.2 m h2.1) (h2.2 n h1.1)
