def dnN (z : Nat) : Nat := if z < 10 then z else z - 2
theorem dn_up : ∀ l : List Nat, (l.map upS).map dnN = l
  | [] => rfl
  | s :: l => by
    rw [List.map_cons, List.map_cons, dn_up l]
    congr 1
    unfold dnN upS
    by_cases h : s < 8
    · rw [if_pos h, if_pos (by omega)]
    · rw [if_neg h, if_neg (by omega)]; omega
theorem dL_map {M : pj_M} {c r : Nat} (ok : cok M c) : dL M c r = ((gc M c).2.2 r).map dnN := by
  show (List.range _).map _ = ((List.range _).map _).map dnN
  rw [List.map_map]
  apply List.map_congr_left
  intro t _
  show (dsy M c r (0 + (t : Int))).toNat = dnN (M (c + 12) ((r : Int) * 4 + (0 + (t : Int)))).toNat
  have := ok.2.2.2.2.1 ((r : Int) * 4 + (0 + (t : Int)))
  unfold dsy dnN
  by_cases h : M (c + 12) ((r : Int) * 4 + (0 + (t : Int))) < 10
  · rw [if_pos h, if_pos (by omega)]
  · rw [if_neg h, if_neg (by omega)]; omega
theorem dr_alt {M : pj_M} {c r : Nat} (lk : clk M c) (h8 : M c 8 = 0) (hr : (r : Int) < M c 6) (ho : M (c + 10) (r : Int) < 6) : (∃ k, k < (gof M (c + 1)).1 ∧ (gof M (c + 1)).2.1 k = (M (c + 10) (r : Int)).toNat ∧ (gof M (c + 1)).2.2 k = dL M c r) ∧ ∀ i, 0 ≤ i → i < M (c + 11) (r : Int) → M (c + 12) ((r : Int) * 4 + i) < 8 ∨ 10 ≤ M (c + 12) ((r : Int) * 4 + i) := by
  have ok := lk.2.1.1
  have t := lk.2.2.2.2.2.1 r (by show r < (M c 6).toNat; omega)
  have hct : ctg M c = gof M (c + 1) := by unfold ctg; rw [if_pos h8]
  rw [hct] at t
  have ho0 := ok.2.2.1 (r : Int)
  rcases t with ⟨h1, _⟩ | ⟨k, h1, h2, h3, h4⟩
  · have : (M (c + 10) (r : Int)).toNat = 6 := h1
    omega
  · refine ⟨⟨k, h1, h3.symm, ?_⟩, fun i i1 i2 => ?_⟩
    · rw [dL_map ok, h4, dn_up]
    · have hb := ok.2.2.2.2.1 ((r : Int) * 4 + i)
      have hm : (M (c + 12) ((r : Int) * 4 + i)).toNat ∈ (gc M c).2.2 r := (sg_mem (w := fun s => M (c + 12) ((r : Int) * 4 + s))).mpr ⟨i, i1, i2, rfl⟩
      rw [h4] at hm
      obtain ⟨s, _, hs⟩ := List.mem_map.mp hm
      unfold upS at hs
      by_cases h : s < 8
      · rw [if_pos h] at hs; left; omega
      · rw [if_neg h] at hs; right; omega
theorem dr_rule {M : pj_M} {c k : Nat} (lk : clk M c) (h8 : M c 8 = 0) (hk : k < (gof M (c + 1)).1) (hg : gr_gs (gof M (c + 1)) 8 ((gof M (c + 1)).2.2 k)) : ∃ r : Nat, (r : Int) < M c 6 ∧ M (c + 10) (r : Int) = ((gof M (c + 1)).2.1 k : Int) ∧ dL M c r = (gof M (c + 1)).2.2 k := by
  have ok := lk.2.1.1
  have t := lk.2.2.2.2.2.2.1
  have hct : ctg M c = gof M (c + 1) := by unfold ctg; rw [if_pos h8]
  rw [hct] at t
  obtain ⟨r, h1, h2, h3⟩ := t k hk hg
  have h1' : r < (M c 6).toNat := h1
  have h2' : (M (c + 10) (r : Int)).toNat = (gof M (c + 1)).2.1 k := h2
  have ho0 := ok.2.2.1 (r : Int)
  exact ⟨r, by omega, by omega, by rw [dL_map ok, h3, dn_up]⟩
theorem kq1_mnd {W : Nat → Nat} {P P' : kP} {q : Nat} : ∀ {ss : List Nat} {p n : Nat}, (∀ s p' q' a, s ∈ ss → 8 ≤ s → p ≤ p' → p' ≤ q' → q' ≤ q → P (s - 8) p' q' a → P' (s - 8) p' q' a) → kq1 W P ss p q n → kq1 W P' ss p q n
  | [], _, _, _, h => h
  | s :: ss, p, n, hm, ⟨m, a, b, h1, h2, h3, h4, h5⟩ => ⟨m, a, b, h1, h2, h3, ks_mono (hm s p m a (List.mem_cons_self ..) · (Nat.le_refl _) h1 h2) h4, kq1_mnd (fun s' p' q' a h g1 g2 => hm s' p' q' a (List.mem_cons_of_mem _ h) g1 (Nat.le_trans h1 g2)) h5⟩
theorem kq_mnd {W : Nat → Nat} {P P' : kP} {ss : List Nat} {p q n : Nat} (hm : ∀ s p' q' a, s ∈ ss → 8 ≤ s → p ≤ p' → p' ≤ q' → q' ≤ q → P (s - 8) p' q' a → P' (s - 8) p' q' a) (h : kq W P ss p q n) : kq W P' ss p q n := by
  rcases h with h | ⟨h1, h2⟩
  · exact Or.inl h
  · exact Or.inr ⟨h1, kq1_mnd hm h2⟩
theorem kq1_gs {W : Nat → Nat} {P : kP} {G : gr_G} (hP : ∀ x p q a, P x p q a → gr_gd G 8 x) : ∀ {ss : List Nat} {p q n : Nat}, kq1 W P ss p q n → gr_gs G 8 ss
  | [], _, _, _, _ => fun s hs => by cases hs
  | s :: ss, p, q, n, ⟨m, a, b, h1, h2, h3, h4, h5⟩ => by
    intro t ht h8
    rcases List.mem_cons.mp ht with rfl | ht
    · rcases h4 with ⟨h4, _⟩ | ⟨_, h4⟩
      · omega
      · exact hP _ _ _ _ h4
    · exact kq1_gs hP h5 t ht h8
/-- a column of costs is right -/
def dex (M : pj_M) (G : gr_G) (W : Nat → Nat) (q : Nat) : Prop := ∀ x p : Nat, x < 6 → p ≤ q → (∃ n : Nat, dC M x p q = (n : Int) ∧ n ≤ 16399 ∧ kl G W x p q n) ∨ (dC M x p q = 1048576 ∧ ¬ gr_gd G 8 x)
section
variable {M : pj_M} {c q : Nat} {G : gr_G} {W : Nat → Nat}
def dSt (M : pj_M) (G : gr_G) (W : Nat → Nat) (q : Nat) (M' : pj_M) : Prop := eqn M M' ∧ dcb M' q ∧ (∀ x p q' : Nat, x < 6 → p ≤ q' → q' < q → dC M' x p q' = dC M x p q') ∧ ∀ x p : Nat, x < 6 → p ≤ q → dC M' x p q < 1048576 → kw G W x p q (dC M' x p q).toNat
def dFN (G : gr_G) (W : Nat → Nat) (q : Nat) (M' : pj_M) (x p : Nat) : Prop := ∃ v : Nat, dC M' x p q = (v : Int) ∧ kl G W x p q v
def dAF (G : gr_G) (W : Nat → Nat) (q : Nat) (M' : pj_M) : Prop := ∀ x p : Nat, x < 6 → p ≤ q → gr_gd G 8 x → dFN G W q M' x p
def dmn (q : Nat) (M1 M2 : pj_M) : Prop := ∀ x p : Nat, x < 6 → p ≤ q → dC M2 x p q ≤ dC M1 x p q
def dcl (M : pj_M) (c : Nat) (W : Nat → Nat) (q : Nat) (M' : pj_M) (r : Nat) : Prop := ∀ p a : Nat, p ≤ q → kq W (dP M') (dL M c r) p q a → dC M' (M (c + 10) (r : Int)).toNat p q ≤ (a : Int)
theorem kl_b (ho : ∀ k, k < G.1 → G.2.1 k < 6) (h4 : ∀ k, k < G.1 → (G.2.2 k).length ≤ 4) {x p n : Nat} (hq : q < 15) (h : kl G W x p q n) : n ≤ 16399 := by
  obtain ⟨d, hd⟩ := h.1
  obtain ⟨m, h1, h2⟩ := kl_ex (W := W) ho h4 (kw_le hd) (kw_gd hd)
  rw [kl_uniq h h1]
  omega
theorem dFN.mono {M1 M2 : pj_M} {x p : Nat} (s2 : dSt M G W q M2) (hx : x < 6) (hp : p ≤ q) (n : Nat) (hk : kl G W x p q n) (hn : n < 1048576) (h : dC M2 x p q ≤ (n : Int)) : dFN G W q M2 x p := by
  have hs := s2.2.2.2 x p hx hp (by omega)
  have hb := s2.2.1 x p q hx hp (Nat.le_refl _)
  have := hk.2 _ hs
  exact ⟨n, by omega, hk⟩
/-- while not all is right, an alternative makes one more right -/
theorem d_grow (ho : ∀ k, k < G.1 → G.2.1 k < 6) (h14 : ∀ k, k < G.1 → ∀ s ∈ G.2.2 k, s < 14) (h4 : ∀ k, k < G.1 → (G.2.2 k).length ≤ 4) (hq : q < 15) (hex : ∀ q', q' < q → dex M G W q') {M1 : pj_M} (s1 : dSt M G W q M1) (hna : ¬ dAF G W q M1) :
    ∃ x0 p0 n0 k, x0 < 6 ∧ p0 ≤ q ∧ ¬ dFN G W q M1 x0 p0 ∧ k < G.1 ∧ G.2.1 k = x0 ∧ gr_gs G 8 (G.2.2 k) ∧ kl G W x0 p0 q n0 ∧ ∀ M2, dSt M G W q M2 → dmn q M1 M2 → kq W (dP M2) (G.2.2 k) p0 q n0 := by
  have hna2 : ∃ x p, x < 6 ∧ p ≤ q ∧ gr_gd G 8 x ∧ ¬ dFN G W q M1 x p := by
    apply Classical.byContradiction
    intro hno
    exact hna (fun x p h1 h2 h3 => Classical.byContradiction (fun h4 => hno ⟨x, p, h1, h2, h3, h4⟩))
  obtain ⟨x, p, hx, hp, hg, hnf⟩ := hna2
  obtain ⟨n, hn, _⟩ := kl_ex (W := W) ho h4 hp hg
  obtain ⟨d, hd⟩ := hn.1
  rcases k_grow (G := G) (W := W) (F := fun x' p' q' => p' ≤ q' ∧ ∃ v : Nat, dC M1 x' p' q' = (v : Int) ∧ kl G W x' p' q' v) (D := fun p' q' => p' ≤ q' ∧ q' ≤ q) (fun _ _ _ h => h.1) (fun _ _ h => h.1) (fun p q p' q' h1 h2 h3 h4 => ⟨h3, by omega⟩) d x p q n ⟨hp, Nat.le_refl _⟩ hd hn.2 with h | ⟨x0, p0, q0, k, n0, hD, hnF, hk0, hkG, hkx, hkq⟩
  · exact absurd h.2 hnf
  · have hx0 : x0 < 6 := by rw [← hkx]; exact ho k hkG
    have hq0 : q0 = q := by
      apply Classical.byContradiction
      intro hne
      obtain ⟨d0, hd0⟩ := hk0.1
      have hc := s1.2.2.1 x0 p0 q0 hx0 hD.1 (by omega)
      rcases hex q0 (by omega) x0 p0 hx0 hD.1 with ⟨v, h1, _, h2⟩ | ⟨_, h2⟩
      · exact hnF ⟨hD.1, v, by rw [hc]; exact h1, h2⟩
      · exact h2 (kw_gd hd0)
    subst hq0
    refine ⟨x0, p0, n0, k, hx0, hD.1, fun h => hnF ⟨hD.1, h⟩, hkG, hkx, ?_, hk0, fun M2 s2 mn => ?_⟩
    · rcases hkq with ⟨h1, _⟩ | ⟨_, h2⟩
      · rw [h1]; intro s hs; cases hs
      · exact kq1_gs (fun x p q a h => by obtain ⟨d, hd⟩ := h.1.1; exact kw_gd hd) h2
    · refine kq_mnd (fun s p' q' a hs h8 g1 g2 g3 hP => ?_) hkq
      obtain ⟨hkl, _, v, hv, hkv⟩ := hP
      have hva : v = a := kl_uniq hkv hkl
      subst hva
      have hs14 := h14 k hkG s hs
      have hvb : v ≤ 16399 := kl_b (q := q') ho h4 (by omega) hkl
      by_cases e : q' = q0
      · subst e
        have hm := mn (s - 8) p' (by omega) g2
        obtain ⟨v2, h1, h2⟩ := dFN.mono (M1 := M1) s2 (by omega) g2 v hkl (by omega) (by omega)
        rw [kl_uniq h2 hkl] at h1
        exact ⟨h1, by omega⟩
      · have h1 := s1.2.2.1 (s - 8) p' q' (by omega) g2 (by omega)
        have h2 := s2.2.2.1 (s - 8) p' q' (by omega) g2 (by omega)
        exact ⟨by rw [h2, ← h1]; exact hv, by omega⟩
end
