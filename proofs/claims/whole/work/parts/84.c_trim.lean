/-- two grammars have the same alternatives -/
def gr_eq (G H : gr_G) : Prop := G.1 = H.1 ∧ ∀ k, k < G.1 → G.2.1 k = H.2.1 k ∧ G.2.2 k = H.2.2 k
theorem gr_eq.rf (G : gr_G) : gr_eq G G := ⟨rfl, fun _ _ => ⟨rfl, rfl⟩⟩
theorem gr_eq.sy {G H : gr_G} (h : gr_eq G H) : gr_eq H G := ⟨h.1.symm, fun k hk => ⟨(h.2 k (by rw [h.1]; exact hk)).1.symm, (h.2 k (by rw [h.1]; exact hk)).2.symm⟩⟩
theorem gr_eq.tr {G H K : gr_G} (h : gr_eq G H) (h2 : gr_eq H K) : gr_eq G K := ⟨h.1.trans h2.1, fun k hk => ⟨(h.2 k hk).1.trans (h2.2 k (by rw [← h.1]; exact hk)).1, (h.2 k hk).2.trans (h2.2 k (by rw [← h.1]; exact hk)).2⟩⟩
theorem gr_eq.yd {G H : gr_G} {T : Nat} (h : gr_eq G H) : ∀ d, gr_yd G T d = gr_yd H T d
  | 0 => rfl
  | d + 1 => by
    funext x w
    unfold gr_yd
    rw [gr_eq.yd h d]
    apply propext
    constructor
    · rintro ⟨k, h1, h2, h3⟩
      exact ⟨k, by rw [← h.1]; exact h1, by rw [← (h.2 k h1).1]; exact h2, by rw [← (h.2 k h1).2]; exact h3⟩
    · rintro ⟨k, h1, h2, h3⟩
      have h4 : k < G.1 := by rw [h.1]; exact h1
      exact ⟨k, h4, by rw [(h.2 k h4).1]; exact h2, by rw [(h.2 k h4).2]; exact h3⟩
theorem gr_eq.y {G H : gr_G} {T : Nat} (h : gr_eq G H) : gr_y G T = gr_y H T := by
  funext x w; unfold gr_y; simp only [h.yd]
theorem gr_eq.gd {G H : gr_G} {T : Nat} (h : gr_eq G H) : gr_gd G T = gr_gd H T := by funext x; unfold gr_gd; rw [h.y]
theorem gr_eq.pf {G H : gr_G} {T : Nat} (h : gr_eq G H) : gr_pf G T = gr_pf H T := by funext x w; unfold gr_pf; rw [h.y]
theorem gr_eq.sf {G H : gr_G} {T : Nat} (h : gr_eq G H) : gr_sf G T = gr_sf H T := by funext x w; unfold gr_sf; rw [h.y]
theorem gr_eq.if {G H : gr_G} {T : Nat} (h : gr_eq G H) : gr_if G T = gr_if H T := by funext x w; unfold gr_if; rw [h.y]
theorem gr_eq.wd {G H : gr_G} {W : Nat → Nat} (h : gr_eq G H) : ∀ d, kwd G W d = kwd H W d
  | 0 => rfl
  | d + 1 => by
    funext x p q n
    unfold kwd
    rw [gr_eq.wd h d]
    apply propext
    constructor
    · rintro ⟨k, h1, h2, h3⟩
      exact ⟨k, by rw [← h.1]; exact h1, by rw [← (h.2 k h1).1]; exact h2, by rw [← (h.2 k h1).2]; exact h3⟩
    · rintro ⟨k, h1, h2, h3⟩
      have h4 : k < G.1 := by rw [h.1]; exact h1
      exact ⟨k, h4, by rw [(h.2 k h4).1]; exact h2, by rw [(h.2 k h4).2]; exact h3⟩
theorem gr_eq.wl {G H : gr_G} {W : Nat → Nat} (h : gr_eq G H) : kl G W = kl H W := by
  have : kw G W = kw H W := by funext x p q n; unfold kw; simp only [h.wd]
  funext x p q n; unfold kl; rw [this]
theorem gr_eq.rv {G H : gr_G} (h : gr_eq G H) : gr_eq (gr_rv G) (gr_rv H) := ⟨h.1, fun k hk => ⟨(h.2 k hk).1, by show (G.2.2 k).reverse = (H.2.2 k).reverse; rw [(h.2 k hk).2]⟩⟩
theorem gr_eq.grc {G H : gr_G} {st x : Nat} (h : gr_eq G H) (hx : grc G st x) : grc H st x := by
  obtain ⟨d, hd⟩ := hx
  refine ⟨d, ?_⟩
  induction d generalizing x with
  | zero => exact hd
  | succ d ih =>
    rcases hd with hd | ⟨k, h1, h2, h3⟩
    · exact Or.inl (ih hd)
    · exact Or.inr ⟨k, by rw [← h.1]; exact h1, by rw [← (h.2 k h1).1]; exact ih h2, by rw [← (h.2 k h1).2]; exact h3⟩
/-- a symbol as a chart has it -/
def upS (s : Nat) : Nat := if s < 8 then s else s + 2
theorem sq_up {P : Nat → List Nat → Prop} : ∀ {ss w : List Nat}, gr_sq 10 P (ss.map upS) w ↔ gr_sq 8 P ss w
  | [], w => Iff.rfl
  | s :: ss, w => by
    have hs : ∀ u, gr_sy 10 P (upS s) u ↔ gr_sy 8 P s u := by
      intro u
      unfold gr_sy upS
      by_cases h : s < 8
      · rw [if_pos h]
        constructor
        · rintro (⟨_, h2⟩ | ⟨h1, _⟩)
          · exact Or.inl ⟨h, h2⟩
          · omega
        · rintro (⟨_, h2⟩ | ⟨h1, _⟩)
          · exact Or.inl ⟨by omega, h2⟩
          · omega
      · rw [if_neg h, show s + 2 - 10 = s - 8 by omega]
        constructor
        · rintro (⟨h1, _⟩ | ⟨_, h2⟩)
          · omega
          · exact Or.inr ⟨by omega, h2⟩
        · rintro (⟨h1, _⟩ | ⟨_, h2⟩)
          · omega
          · exact Or.inr ⟨by omega, h2⟩
    show (∃ u v, w = u ++ v ∧ gr_sy 10 P (upS s) u ∧ gr_sq 10 P (ss.map upS) v) ↔ ∃ u v, w = u ++ v ∧ gr_sy 8 P s u ∧ gr_sq 8 P ss v
    simp only [hs, fun v => sq_up (P := P) (ss := ss) (w := v)]
/-- the rules of a chart are those alternatives of a grammar all of whose capitals yield something, and the frame -/
def trm (H G : gr_G) (f1 f2 st : Nat) : Prop := (∀ r, r < H.1 → (H.2.1 r = 6 ∧ H.2.2 r = [f1, 10 + st, f2]) ∨ ∃ k, k < G.1 ∧ gr_gs G 8 (G.2.2 k) ∧ H.2.1 r = G.2.1 k ∧ H.2.2 r = (G.2.2 k).map upS) ∧ (∀ k, k < G.1 → gr_gs G 8 (G.2.2 k) → ∃ r, r < H.1 ∧ H.2.1 r = G.2.1 k ∧ H.2.2 r = (G.2.2 k).map upS) ∧ ∃ r, r < H.1 ∧ H.2.1 r = 6 ∧ H.2.2 r = [f1, 10 + st, f2]
theorem sq_capmono {T : Nat} {P P' : Nat → List Nat → Prop} : ∀ {ss w : List Nat}, (∀ s ∈ ss, T ≤ s → ∀ u, P (s - T) u → P' (s - T) u) → gr_sq T P ss w → gr_sq T P' ss w
  | [], w, _, h => h
  | s :: ss, w, hm, ⟨u, v, e, h1, h2⟩ => by
    refine ⟨u, v, e, ?_, sq_capmono (fun s' hs' => hm s' (List.mem_cons_of_mem _ hs')) h2⟩
    rcases h1 with h1 | ⟨h1, h3⟩
    · exact Or.inl h1
    · exact Or.inr ⟨h1, hm s (List.mem_cons_self ..) h1 u h3⟩
theorem trm_y {H G : gr_G} {f1 f2 st : Nat} (h : trm H G f1 f2 st) (hG : ∀ k, k < G.1 → G.2.1 k < 6 ∧ ∀ s ∈ G.2.2 k, s < 14) : ∀ {x : Nat} {w : List Nat}, x < 6 → (gr_y H 10 x w ↔ gr_y G 8 x w) := by
  have a1 : ∀ (d x : Nat) (w : List Nat), x < 6 → gr_yd H 10 d x w → gr_yd G 8 d x w := by
    intro d
    induction d with
    | zero => exact fun _ _ _ h => h.elim
    | succ d ih =>
      rintro x w hx ⟨r, r1, r2, r3⟩
      rcases h.1 r r1 with ⟨g1, _⟩ | ⟨k, k1, _, k3, k4⟩
      · omega
      · rw [k4] at r3
        exact ⟨k, k1, by rw [← k3]; exact r2, sq_capmono (fun s hs h8 u hu => ih _ _ (by have := (hG k k1).2 s hs; omega) hu) (sq_up.mp r3)⟩
  have a2 : ∀ (d x : Nat) (w : List Nat), x < 6 → gr_yd G 8 d x w → gr_yd H 10 d x w := by
    intro d
    induction d with
    | zero => exact fun _ _ _ h => h.elim
    | succ d ih =>
      rintro x w hx ⟨k, k1, k2, k3⟩
      have hgs : gr_gs G 8 (G.2.2 k) := gr_gs_sq.mpr ⟨w, gr_sq_mono (fun c w h => ⟨d, h⟩) k3⟩
      obtain ⟨r, r1, r2, r3⟩ := h.2.1 k k1 hgs
      refine ⟨r, r1, by rw [r2]; exact k2, ?_⟩
      rw [r3]
      exact sq_up.mpr (sq_capmono (fun s hs h8 u hu => ih _ _ (by have := (hG k k1).2 s hs; omega) hu) k3)
  intro x w hx
  exact ⟨fun ⟨d, hd⟩ => ⟨d, a1 d x w hx hd⟩, fun ⟨d, hd⟩ => ⟨d, a2 d x w hx hd⟩⟩
theorem trm_6 {H G : gr_G} {f1 f2 st : Nat} (h : trm H G f1 f2 st) (hG : ∀ k, k < G.1 → G.2.1 k < 6 ∧ ∀ s ∈ G.2.2 k, s < 14) (hf1 : f1 < 10) (hf2 : f2 < 10) (hst : st < 6) {w : List Nat} : gr_y H 10 6 w ↔ ∃ u, gr_y G 8 st u ∧ w = f1 :: (u ++ [f2]) := by
  rw [gr_y_iff]
  constructor
  · rintro ⟨r, r1, r2, r3⟩
    rcases h.1 r r1 with ⟨_, g2⟩ | ⟨k, k1, _, k3, _⟩
    · rw [g2] at r3
      obtain ⟨u1, v1, e1, c1, u2, v2, e2, c2, u3, v3, e3, c3, c4⟩ := r3
      have hv3 : v3 = [] := c4
      subst hv3
      rcases c1 with ⟨_, c1⟩ | ⟨c1, _⟩
      · rcases c2 with ⟨c2, _⟩ | ⟨_, c2⟩
        · omega
        · rcases c3 with ⟨_, c3⟩ | ⟨c3, _⟩
          · subst c1; subst c3
            refine ⟨u2, ?_, by rw [e1, e2, e3]; simp⟩
            rw [show 10 + st - 10 = st by omega] at c2
            exact (trm_y h hG hst).mp c2
          · omega
      · omega
    · have := (hG k k1).1; omega
  · rintro ⟨u, h1, rfl⟩
    obtain ⟨r, r1, r2, r3⟩ := h.2.2
    refine ⟨r, r1, r2, ?_⟩
    rw [r3]
    refine ⟨[f1], u ++ [f2], rfl, Or.inl ⟨hf1, rfl⟩, u, [f2], rfl, Or.inr ⟨by omega, ?_⟩, [f2], [], rfl, Or.inl ⟨hf2, rfl⟩, rfl⟩
    rw [show 10 + st - 10 = st by omega]
    exact (trm_y h hG hst).mpr h1
/-- a Grammar: its rows lie behind it -/
def gcell (b : Nat) : Prop := pj_rf b 0 = b + 1 ∧ pj_rf b 1 = b + 2 ∧ pj_rf b 2 = b + 3
theorem isF.g {b : Nat} (h : isF b) : gcell b := ⟨gf_0 h, gf_1 h, gf_2 h⟩
/-- rows of a Grammar hold what they may -/
def gwb (M : pj_M) (b : Nat) : Prop := (∀ k, 0 ≤ M (b + 1) k ∧ M (b + 1) k ≤ 5) ∧ (∀ k, 0 ≤ M (b + 2) k ∧ M (b + 2) k ≤ 4) ∧ (∀ x, 0 ≤ M (b + 3) x ∧ M (b + 3) x ≤ 13)
theorem gvl.w {M : pj_M} {b : Nat} (v : gvl M b) : gwb M b := ⟨v.2.1, v.2.2.1, v.2.2.2.1⟩
/-- two Grammars are alike -/
def glike (M : pj_M) (b c : Nat) : Prop := M b 3 = M c 3 ∧ ∀ k, 0 ≤ k → k < M b 3 → M (b + 1) k = M (c + 1) k ∧ M (b + 2) k = M (c + 2) k ∧ ∀ s, 0 ≤ s → s < M (b + 2) k → M (b + 3) (k * 4 + s) = M (c + 3) (k * 4 + s)
theorem glike.eq {M : pj_M} {b c : Nat} (h : glike M b c) : gr_eq (gof M b) (gof M c) := by
  refine ⟨by show (M b 3).toNat = (M c 3).toNat; rw [h.1], fun k hk => ?_⟩
  have hk' : k < (M b 3).toNat := hk
  obtain ⟨h1, h2, h3⟩ := h.2 (k : Int) (by omega) (by omega)
  refine ⟨by show (M (b + 1) (k : Int)).toNat = (M (c + 1) (k : Int)).toNat; rw [h1], ?_⟩
  show sg (gs_ M b (k : Int)) 0 (M (b + 2) (k : Int)) = sg (gs_ M c (k : Int)) 0 (M (c + 2) (k : Int))
  rw [← h2]
  exact sg_congr (fun s s1 s2 => h3 s s1 s2)
theorem t_isLike {M : pj_M} {b c : Nat} {Q : Int → pj_M → Prop} (hb : gcell b) (hc : gcell c) (wb : gwb M b) (wc : gwb M c) (nb : 0 ≤ M b 3 ∧ M b 3 ≤ 12) (nc : 0 ≤ M c 3 ∧ M c 3 ≤ 12) (q : ∀ r : Int, (r = 0 ∨ r = 1) → (r = 1 ↔ glike M b c) → Q r M) : w_X4_isLike b c M Q := by
  unfold w_X4_isLike
  have no : ¬ glike M b c → Q 0 M := fun h => q 0 (Or.inl rfl) ⟨fun h => absurd h (by decide), fun h2 => absurd h2 h⟩
  refine ⟨⟨by omega, by omega⟩, ⟨by omega, by omega⟩, fun h3 => ?_, fun h3 => no (fun h => h3 h.1)⟩
  unfold w_X4_isLike_15
  refine pj_lp_inv (fun y : Int × pj_M => (0 ≤ y.1 ∧ y.1 ≤ M b 3) ∧ y.2 = M ∧ ∀ k, 0 ≤ k → k < y.1 → M (b + 1) k = M (c + 1) k ∧ M (b + 2) k = M (c + 2) k ∧ ∀ s, 0 ≤ s → s < M (b + 2) k → M (b + 3) (k * 4 + s) = M (c + 3) (k * 4 + s)) (fun y => (M b 3 - y.1).toNat) ?_ (0, M) ⟨⟨Int.le_refl _, nb.1⟩, rfl, fun k h1 h2 => by dsimp only at h2; omega⟩
  rintro ⟨x2, M1⟩ ⟨hx, e, hk⟩ P hP
  dsimp only at hx e hk hP ⊢
  subst e
  have o1 := wb.1 x2
  have o2 := wc.1 x2
  have z1 := wb.2.1 x2
  have z2 := wc.2.1 x2
  unfold w_X4_isLike_15b
  rw [hb.1, hb.2.1, hc.1, hc.2.1]
  refine ⟨⟨by omega, by omega⟩, ⟨by omega, by omega⟩, fun h => q 1 (Or.inr rfl) ⟨fun _ => ⟨h3, fun k k1 k2 => hk k k1 (by omega)⟩, fun _ => rfl⟩, fun h => ⟨⟨by omega, by omega⟩, ⟨by omega, by omega⟩, ⟨by omega, by omega⟩, ⟨by omega, by omega⟩, fun h4 => no (fun h5 => h4 (h5.2 x2 hx.1 (by omega)).1), fun h4 => ⟨⟨by omega, by omega⟩, ⟨by omega, by omega⟩, ⟨by omega, by omega⟩, ⟨by omega, by omega⟩, fun h5 => ?_, fun h5 => no (fun h6 => h5 (h6.2 x2 hx.1 (by omega)).2.1)⟩⟩⟩
  unfold w_X4_isLike_59
  refine pj_lp_inv (fun y : Int × pj_M => (x2 * 4 ≤ y.1 ∧ y.1 ≤ x2 * 4 + M1 (b + 2) x2) ∧ y.2 = M1 ∧ ∀ s, 0 ≤ s → x2 * 4 + s < y.1 → M1 (b + 3) (x2 * 4 + s) = M1 (c + 3) (x2 * 4 + s)) (fun y => (x2 * 4 + M1 (b + 2) x2 - y.1).toNat) ?_ (x2 * 4, M1) ⟨⟨Int.le_refl _, by dsimp only; omega⟩, rfl, fun s h1 h2 => by dsimp only at h2; omega⟩
  rintro ⟨x3, M2⟩ ⟨hy, e, hs⟩ P2 hP2
  dsimp only at hy e hs hP2 ⊢
  subst e
  have s1 := wb.2.2 x3
  have s2 := wc.2.2 x3
  unfold w_X4_isLike_59b
  rw [hb.2.1, hb.2.2, hc.2.2]
  refine ⟨⟨by omega, by omega⟩, ⟨by omega, by omega⟩, ⟨by omega, by omega⟩, fun h6 => ?_, fun h6 => ⟨⟨by omega, by omega⟩, ⟨by omega, by omega⟩, ⟨by omega, by omega⟩, ⟨by omega, by omega⟩, fun h7 => ?_, fun h7 => no (fun h8 => h7 ?_)⟩⟩
  · refine hP (x2 + 1, M2) ⟨⟨by show 0 ≤ x2 + 1; omega, by show x2 + 1 ≤ _; omega⟩, rfl, fun k k1 k2 => ?_⟩ (by show (M2 b 3 - (x2 + 1)).toNat < (M2 b 3 - x2).toNat; omega)
    by_cases e : k = x2
    · subst e
      exact ⟨h4, h5, fun s s1 s2 => hs s s1 (by omega)⟩
    · exact hk k k1 (by have : k < x2 + 1 := k2; omega)
  · refine hP2 (x3 + 1, M2) ⟨⟨by show x2 * 4 ≤ x3 + 1; omega, by show x3 + 1 ≤ _; omega⟩, rfl, fun s s1 s2 => ?_⟩ (by show (x2 * 4 + M2 (b + 2) x2 - (x3 + 1)).toNat < (x2 * 4 + M2 (b + 2) x2 - x3).toNat; omega)
    by_cases e : x2 * 4 + s = x3
    · rw [e]; exact h7
    · exact hs s s1 (by have : x2 * 4 + s < x3 + 1 := s2; omega)
  · have := (h8.2 x2 hx.1 (by omega)).2.2 (x3 - x2 * 4) (by omega) (by omega)
    rwa [show x2 * 4 + (x3 - x2 * 4) = x3 by omega] at this
theorem cp_if {M : pj_M} {a b c : Nat} {n j : Int} : pj_cp M a b n c j = if c = b ∧ 0 ≤ j ∧ j < n then M a j else M c j := rfl
/-- only a Grammar has changed -/
def eqg (b : Nat) (M M' : pj_M) : Prop := ∀ a x, ¬ (b ≤ a ∧ a ≤ b + 3) → M' a x = M a x
theorem t_copyFromG {M : pj_M} {b c : Nat} {Q : pj_M → Prop} (hb : gcell b) (hc : gcell c) (hd : b + 3 < c ∨ c + 3 < b) (q : ∀ M', eqg b M M' → (∀ k, M' (b + 1) k = if 0 ≤ k ∧ k < 12 then M (c + 1) k else M (b + 1) k) → (∀ k, M' (b + 2) k = if 0 ≤ k ∧ k < 12 then M (c + 2) k else M (b + 2) k) → (∀ k, M' (b + 3) k = if 0 ≤ k ∧ k < 48 then M (c + 3) k else M (b + 3) k) → M' b 3 = M c 3 → M' b 4 = M c 4 → M' b 5 = M c 5 → Q M') : w_X4_copyFrom b c M Q := by
  unfold w_X4_copyFrom
  rw [hb.1, hb.2.1, hb.2.2, hc.1, hc.2.1, hc.2.2]
  rintro M1 rfl M2 rfl M3 rfl M4 rfl M5 rfl M6 rfl
  refine q _ (fun a x ha => ?_) (fun k => ?_) (fun k => ?_) (fun k => ?_) ?_ ?_ ?_
  all_goals simp only [pu_if, cp_if]
  · rw [if_neg (by omega), if_neg (by omega), if_neg (by omega), if_neg (by omega), if_neg (by omega), if_neg (by omega)]
  · rw [if_neg (by omega), if_neg (by omega), if_neg (by omega), if_neg (by omega), if_neg (by omega)]
    by_cases h : 0 ≤ k ∧ k < 12
    · rw [if_pos ⟨by trivial, h⟩, if_pos h]
    · rw [if_neg (fun e => h e.2), if_neg h]
  · rw [if_neg (by omega), if_neg (by omega), if_neg (by omega), if_neg (by omega)]
    by_cases h : 0 ≤ k ∧ k < 12
    · rw [if_pos ⟨by trivial, h⟩, if_pos h, if_neg (by omega)]
    · rw [if_neg (fun e => h e.2), if_neg h, if_neg (by omega)]
  · rw [if_neg (by omega), if_neg (by omega), if_neg (by omega)]
    by_cases h : 0 ≤ k ∧ k < 48
    · rw [if_pos ⟨by trivial, h⟩, if_pos h, if_neg (by omega), if_neg (by omega)]
    · rw [if_neg (fun e => h e.2), if_neg h, if_neg (by omega), if_neg (by omega)]
  · rw [if_neg (by omega), if_neg (by omega), if_pos ⟨by trivial, by trivial⟩, if_neg (by omega), if_neg (by omega), if_neg (by omega)]
  · rw [if_neg (by omega), if_pos ⟨by trivial, by trivial⟩, if_neg (by omega), if_neg (by omega), if_neg (by omega), if_neg (by omega)]
  · rw [if_pos ⟨by trivial, by trivial⟩, if_neg (by omega), if_neg (by omega), if_neg (by omega), if_neg (by omega), if_neg (by omega)]
