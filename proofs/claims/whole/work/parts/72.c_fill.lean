/-- how many of the first n bits are set -/
def bcn (v : Nat) : Nat → Nat
  | 0 => 0
  | n + 1 => bcn v n + (if v.testBit n = true then 1 else 0)
theorem bcn_le (v : Nat) : ∀ n, bcn v n ≤ n
  | 0 => Nat.le_refl _
  | n + 1 => by have := bcn_le v n; unfold bcn; split <;> omega
theorem bcn_mono {v w : Nat} (h : ∀ i, v.testBit i = true → w.testBit i = true) : ∀ n, bcn v n ≤ bcn w n
  | 0 => Nat.le_refl _
  | n + 1 => by
    have := bcn_mono h n
    unfold bcn
    by_cases hv : v.testBit n = true
    · rw [if_pos hv, if_pos (h n hv)]; omega
    · rw [if_neg hv]; split <;> omega
theorem bcn_lt {v w p : Nat} (h : ∀ i, v.testBit i = true → w.testBit i = true) (h1 : v.testBit p = false) (h2 : w.testBit p = true) : ∀ n, p < n → bcn v n < bcn w n
  | 0, hp => absurd hp (Nat.not_lt_zero _)
  | n + 1, hp => by
    have hm := bcn_mono h n
    unfold bcn
    by_cases e : p = n
    · subst e
      rw [if_neg (by rw [h1]; decide), if_pos h2]; omega
    · have := bcn_lt h h1 h2 n (by omega)
      by_cases hv : v.testBit n = true
      · rw [if_pos hv, if_pos (h n hv)]; omega
      · rw [if_neg hv]; split <;> omega
/-- how many bits a column has -/
def cct (M : pj_M) (a q : Nat) : Nat → Nat
  | 0 => 0
  | x + 1 => cct M a q x + bcn (M a ((x : Int) * 18 + (q : Int))).toNat 18
theorem cct_le (M : pj_M) (a q : Nat) : ∀ n, cct M a q n ≤ 18 * n
  | 0 => Nat.le_refl _
  | n + 1 => by have := cct_le M a q n; have := bcn_le (M a ((n : Int) * 18 + (q : Int))).toNat 18; unfold cct; omega
theorem cct_up {M : pj_M} {a q o v B : Nat} (hq : q < 18) (hv : M a ((o : Int) * 18 + (q : Int)) = (v : Int)) : ∀ n, cct M a q n ≤ cct (pj_up M a ((o : Int) * 18 + (q : Int)) ((v ||| B : Nat) : Int)) a q n ∧ ((∃ p, p < 18 ∧ B.testBit p = true ∧ v.testBit p = false) → o < n → cct M a q n < cct (pj_up M a ((o : Int) * 18 + (q : Int)) ((v ||| B : Nat) : Int)) a q n)
  | 0 => ⟨Nat.le_refl _, fun _ h => absurd h (Nat.not_lt_zero _)⟩
  | n + 1 => by
    obtain ⟨ih1, ih2⟩ := cct_up (B := B) hq hv n
    unfold cct
    by_cases e : n = o
    · subst e
      rw [pu_eq, hv, Int.toNat_natCast, Int.toNat_natCast]
      have hsub : ∀ i, v.testBit i = true → (v ||| B).testBit i = true := fun i h => by rw [Nat.testBit_or, h]; rfl
      refine ⟨by have := bcn_mono hsub 18; omega, ?_⟩
      rintro ⟨p, h1, h2, h3⟩ _
      have := bcn_lt hsub h3 (by rw [Nat.testBit_or, h2]; simp) 18 h1
      omega
    · rw [pu_nk (by omega)]
      refine ⟨by omega, fun h1 h2 => ?_⟩
      have := ih2 h1 (by omega)
      omega
abbrev cf (M : pj_M) (c : Nat) (k : Int) : Int → Int := fun s => M (c + 12) (k * 4 + s)
theorem cs_s {M : pj_M} {c q : Nat} {P : Nat → List Nat → Prop} {s : Int} {p q' : Nat} (tk : ctk M c) (hs : 0 ≤ s ∧ s ≤ 15) (hq : q' ≤ q) (h : ∀ (x p q' : Nat), x < 6 → q' ≤ q → tbit (M (c + 16) ((x : Int) * 18 + (q' : Int))) p → p ≤ q' ∧ P x (tkw M c p q')) (hcs : cs M c s p q') : p ≤ q' ∧ gr_sy 10 P s.toNat (tkw M c p q') := by
  rcases hcs with ⟨h1, rfl, h3⟩ | ⟨h1, h2, h3⟩
  · have h4 := (tk.2.2.2 s p hs.1 h1).mp h3
    refine ⟨by omega, Or.inl ⟨by omega, ?_⟩⟩
    unfold tkw
    rw [show ((p + 1 : Nat) : Int) = (p : Int) + 1 by omega, sg_one, h4.2]
  · have h4 := h (s - 10).toNat p q' (by omega) hq (by rw [show (((s - 10).toNat : Nat) : Int) = s - 10 by omega]; exact h3)
    exact ⟨h4.1, Or.inr ⟨by omega, by rw [show s.toNat - 10 = (s - 10).toNat by omega]; exact h4.2⟩⟩
theorem cs_c {M : pj_M} {c q : Nat} {P : Nat → List Nat → Prop} {s : Int} {p q' : Nat} (tk : ctk M c) (hq17 : (q : Int) ≤ M c 11) (hs : 0 ≤ s ∧ s ≤ 15) (hp : p ≤ q') (hq : q' ≤ q) (h : ∀ (x p q' : Nat), x < 6 → p ≤ q' → q' ≤ q → P x (tkw M c p q') → tbit (M (c + 16) ((x : Int) * 18 + (q' : Int))) p) (hg : gr_sy 10 P s.toNat (tkw M c p q')) : cs M c s p q' := by
  have h17 := tk.1
  rcases hg with ⟨h1, h2⟩ | ⟨h1, h2⟩
  · obtain ⟨h3, h4⟩ := (sg_single (by omega)).mp h2
    have h5 := tk.2.1 (p : Int)
    exact Or.inl ⟨by omega, by omega, (tk.2.2.2 s p hs.1 (by omega)).mpr ⟨by omega, by omega⟩⟩
  · rw [show s.toNat - 10 = (s - 10).toNat by omega] at h2
    have := h (s - 10).toNat p q' (by omega) hp hq h2
    rw [show (((s - 10).toNat : Nat) : Int) = s - 10 by omega] at this
    exact Or.inr ⟨by omega, by omega, this⟩
theorem cR_s {M : pj_M} {c q : Nat} {P : Nat → List Nat → Prop} {k : Int} (ok : cok M c) (tk : ctk M c) (h : ∀ (x p q' : Nat), x < 6 → q' ≤ q → tbit (M (c + 16) ((x : Int) * 18 + (q' : Int))) p → p ≤ q' ∧ P x (tkw M c p q')) : ∀ (n p : Nat), (n : Int) ≤ M (c + 11) k → cR M c k (M (c + 11) k) (fun x => x = q) n p → p ≤ q ∧ gr_sq 10 P (sg (cf M c k) (M (c + 11) k - (n : Int)) (M (c + 11) k)) (tkw M c p q)
  | 0, p, hn, hr => by
    have : p = q := hr
    subst this
    rw [show M (c + 11) k - ((0 : Nat) : Int) = M (c + 11) k by omega, sg_nil]
    exact ⟨Nat.le_refl _, sg_nil _ _⟩
  | n + 1, p, hn, ⟨q', h1, h2⟩ => by
    obtain ⟨h3, h4⟩ := cR_s ok tk h n q' (by omega) h2
    obtain ⟨h5, h6⟩ := cs_s tk (ok.2.2.2.2.1 _) h3 h h1
    refine ⟨by omega, ?_⟩
    rw [sg_cons (by omega)]
    refine ⟨tkw M c p q', tkw M c q' q, (sg_app (by omega) (by omega)).symm, ?_, ?_⟩
    · rw [show M (c + 11) k - ((n + 1 : Nat) : Int) = M (c + 11) k - 1 - (n : Int) by omega]; exact h6
    · rw [show M (c + 11) k - ((n + 1 : Nat) : Int) + 1 = M (c + 11) k - (n : Int) by omega]; exact h4
theorem cR_c {M : pj_M} {c q : Nat} {P : Nat → List Nat → Prop} {k : Int} (ok : cok M c) (tk : ctk M c) (hq17 : (q : Int) ≤ M c 11) (h : ∀ (x p q' : Nat), x < 6 → p ≤ q' → q' ≤ q → P x (tkw M c p q') → tbit (M (c + 16) ((x : Int) * 18 + (q' : Int))) p) : ∀ (n p : Nat), (n : Int) ≤ M (c + 11) k → p ≤ q → gr_sq 10 P (sg (cf M c k) (M (c + 11) k - (n : Int)) (M (c + 11) k)) (tkw M c p q) → cR M c k (M (c + 11) k) (fun x => x = q) n p
  | 0, p, hn, hp, hg => by
    rw [show M (c + 11) k - ((0 : Nat) : Int) = M (c + 11) k by omega, sg_nil] at hg
    have hl := congrArg List.length (show tkw M c p q = [] from hg)
    rw [sg_len] at hl
    show p = q
    simp at hl; omega
  | n + 1, p, hn, hp, hg => by
    rw [sg_cons (by omega)] at hg
    obtain ⟨u, v, e, g1, g2⟩ := hg
    obtain ⟨m, m1, m2, rfl, rfl⟩ := sg_split (by omega) e
    obtain ⟨q', rfl⟩ : ∃ q' : Nat, m = (q' : Int) := ⟨m.toNat, by omega⟩
    rw [show M (c + 11) k - ((n + 1 : Nat) : Int) = M (c + 11) k - 1 - (n : Int) by omega] at g1
    rw [show M (c + 11) k - ((n + 1 : Nat) : Int) + 1 = M (c + 11) k - (n : Int) by omega] at g2
    exact ⟨q', cs_c tk hq17 (ok.2.2.2.2.1 _) (by omega) (by omega) h g1, cR_c ok tk hq17 h n q' (by omega) (by omega) g2⟩
theorem cR_congr {M M' : pj_M} {c : Nat} {k z : Int} {E0 : Nat → Prop} (e : eqw c M M') (h : ∀ s, 0 ≤ s → s < z → 10 ≤ M (c + 12) (k * 4 + s) → ∀ q' : Nat, q' < 18 → M' (c + 16) ((M (c + 12) (k * 4 + s) - 10) * 18 + (q' : Int)) = M (c + 16) ((M (c + 12) (k * 4 + s) - 10) * 18 + (q' : Int))) : ∀ (n p : Nat), (n : Int) ≤ z → (cR M' c k z E0 n p ↔ cR M c k z E0 n p)
  | 0, p, _ => Iff.rfl
  | n + 1, p, hn => by
    unfold cR
    have e12 : M' (c + 12) = M (c + 12) := e.row (by omega)
    have e15 : M' (c + 15) = M (c + 15) := e.row (by omega)
    constructor
    · rintro ⟨q', h1, h2⟩
      refine ⟨q', ?_, (cR_congr e h n q' (by omega)).mp h2⟩
      rw [e12] at h1
      rcases h1 with ⟨a1, a2, a3⟩ | ⟨a1, a2, a3⟩
      · rw [e15] at a3; exact Or.inl ⟨a1, a2, a3⟩
      · rw [h _ (by omega) (by omega) a1 q' a2] at a3; exact Or.inr ⟨a1, a2, a3⟩
    · rintro ⟨q', h1, h2⟩
      refine ⟨q', ?_, (cR_congr e h n q' (by omega)).mpr h2⟩
      rw [e12]
      rcases h1 with ⟨a1, a2, a3⟩ | ⟨a1, a2, a3⟩
      · rw [← e15] at a3; exact Or.inl ⟨a1, a2, a3⟩
      · rw [← h _ (by omega) (by omega) a1 q' a2] at a3; exact Or.inr ⟨a1, a2, a3⟩
/-- a column tells just what is yielded -/
def cx (M : pj_M) (c q : Nat) : Prop := ∀ (x p : Nat), x < 7 → (tbit (M (c + 16) ((x : Int) * 18 + (q : Int))) p ↔ p ≤ q ∧ gr_y (gc M c) 10 x (tkw M c p q))
/-- an alternative adds nothing more -/
def ccl (M : pj_M) (c q : Nat) (k : Int) : Prop := ∀ p, cR M c k (M (c + 11) k) (fun x => x = q) (M (c + 11) k).toNat p → tbit (M (c + 16) (M (c + 10) k * 18 + (q : Int))) p
theorem t_fillWhole {M : pj_M} {c q : Nat} {Q : pj_M → Prop} (ok : cok M c) (tk : ctk M c) (hw : bs18 M (c + 16)) (hq : M c 11 = (q : Int)) (hx : ∀ q', q' < q → cx M c q')
    (qq : ∀ M', eqw c M M' → bs18 M' (c + 16) → (∀ q', q' ≤ q → cx M' c q') → Q M') : w_X0_fillWhole c M Q := by
  have hc := ok.1
  have hq17 : q ≤ 17 := by have := tk.1; omega
  unfold w_X0_fillWhole w_X0_fillWhole_2
  refine pj_lp_inv (fun y : Int × pj_M => ∃ n : Nat, y.1 = (n : Int) ∧ n ≤ 7 ∧ eqw c M y.2 ∧ bs18 y.2 (c + 16) ∧ (∀ (x q' : Nat), q' < 18 → q' ≠ q → y.2 (c + 16) ((x : Int) * 18 + (q' : Int)) = M (c + 16) ((x : Int) * 18 + (q' : Int))) ∧ ∀ x : Nat, x < n → y.2 (c + 16) ((x : Int) * 18 + (q : Int)) = 0) (fun y => (7 - y.1).toNat) ?_ (0, M) ⟨0, rfl, by decide, eqw.rf, hw, fun _ _ _ _ => rfl, fun x h => absurd h (Nat.not_lt_zero _)⟩
  rintro ⟨x1, M0⟩ ⟨n0, e1, a1, a2, a3, a4, a5⟩ P0 hP0
  dsimp only at e1 a2 a3 a4 a5 hP0 ⊢
  subst e1
  unfold w_X0_fillWhole_2b
  rw [cr_13 hc, a2 c 11 (by omega), hq]
  refine ⟨⟨by omega, by omega⟩, fun hc0 => ?_, fun hc0 => ⟨⟨by omega, by omega⟩, ?_⟩⟩
  rotate_left
  · rintro M1 rfl
    refine hP0 ((n0 : Int) + 1, _) ⟨n0 + 1, by show (n0 : Int) + 1 = _; omega, by omega, a2.tr eqw.up, bs18_up (v := 0) a3 (by decide), fun x q' h1 h2 => ?_, fun x h => ?_⟩ (by show (7 - ((n0 : Int) + 1)).toNat < (7 - (n0 : Int)).toNat; omega)
    · show pj_up M0 (c + 16) _ 0 (c + 16) _ = _
      rw [pu_nk (by omega)]; exact a4 x q' h1 h2
    · show pj_up M0 (c + 16) ((n0 : Int) * 18 + (q : Int)) 0 (c + 16) ((x : Int) * 18 + (q : Int)) = 0
      by_cases e : x = n0
      · subst e; exact pu_eq
      · rw [pu_nk (by omega)]; exact a5 x (by omega)
  clear hP0 P0
  have hn7 : n0 = 7 := by omega
  subst hn7
  -- what stays, in all rounds
  let St : pj_M → Prop := fun M1 => eqw c M M1 ∧ bs18 M1 (c + 16) ∧ (∀ (x q' : Nat), q' < 18 → q' ≠ q → M1 (c + 16) ((x : Int) * 18 + (q' : Int)) = M (c + 16) ((x : Int) * 18 + (q' : Int))) ∧ ∀ (x p : Nat), x < 7 → tbit (M1 (c + 16) ((x : Int) * 18 + (q : Int))) p → p ≤ q ∧ gr_y (gc M c) 10 x (tkw M c p q)
  have st0 : St M0 := ⟨a2, a3, a4, fun x p h1 h2 => by unfold tbit at h2; rw [a5 x h1] at h2; simp at h2⟩
  have tkwe : ∀ M1, eqw c M M1 → ∀ p q', tkw M1 c p q' = tkw M c p q' := fun M1 e p q' => by unfold tkw; rw [e.row (show c + 14 ≠ c + 16 by omega)]
  have hsnd : ∀ M1, St M1 → ∀ (x p q' : Nat), x < 6 → q' ≤ q → tbit (M1 (c + 16) ((x : Int) * 18 + (q' : Int))) p → p ≤ q' ∧ gr_y (gc M c) 10 x (tkw M1 c p q') := by
    intro M1 hS x p q' h1 h2 h3
    rw [tkwe M1 hS.1]
    by_cases e : q' = q
    · subst e; exact hS.2.2.2 x p (by omega) h3
    · rw [hS.2.2.1 x q' (by omega) e] at h3
      exact (hx q' (by omega) x p (by omega)).mp h3
  have fin : ∀ M1, St M1 → (∀ k : Nat, (k : Int) < M c 6 → ccl M1 c q (k : Int)) → Q M1 := by
    intro M1 hS hcl
    refine qq M1 hS.1 hS.2.1 (fun q' hq' x p hx7 => ?_)
    rw [gc.eqw hS.1, tkwe M1 hS.1]
    by_cases e : q' = q
    · subst e
      refine ⟨hS.2.2.2 x p hx7, ?_⟩
      rintro ⟨hp, d, hd⟩
      have key : ∀ (d x p : Nat), x < 7 → p ≤ q' → gr_yd (gc M c) 10 d x (tkw M c p q') → tbit (M1 (c + 16) ((x : Int) * 18 + (q' : Int))) p := by
        intro d
        induction d with
        | zero => intro x p _ _ h; exact h.elim
        | succ d ih =>
          rintro x p h1 h2 ⟨k, k1, k2, k3⟩
          have hk : (k : Int) < M c 6 := by have : k < (M c 6).toNat := k1; omega
          have ok1 := ok.eqw hS.1
          have hz := ok.2.2.2.1 (k : Int)
          have e11 : M1 (c + 11) = M (c + 11) := hS.1.row (by omega)
          have e12 : M1 (c + 12) = M (c + 12) := hS.1.row (by omega)
          have e10 : M1 (c + 10) = M (c + 10) := hS.1.row (by omega)
          have := hcl k hk p (cR_c (P := gr_yd (gc M c) 10 d) ok1 (tk.eqw hS.1) (by rw [hS.1 c 11 (by omega), hq]; exact Int.le_refl _) (fun x p q2 b1 b2 b3 b4 => by
            rw [tkwe M1 hS.1] at b4
            by_cases e2 : q2 = q'
            · subst e2; exact ih x p (by omega) b2 b4
            · rw [hS.2.2.1 x q2 (by omega) e2]
              exact (hx q2 (by omega) x p (by omega)).mpr ⟨b2, d, b4⟩) _ p (by rw [e11]; omega) h2 (by
            rw [tkwe M1 hS.1, e11, show M (c + 11) (k : Int) - (((M (c + 11) (k : Int)).toNat : Nat) : Int) = 0 by omega]
            unfold cf
            rw [e12]
            exact k3))
          rw [e10] at this
          rwa [show M (c + 10) (k : Int) = (x : Int) by have h9 : (M (c + 10) (k : Int)).toNat = x := k2; have := ok.2.2.1 (k : Int); omega] at this
      exact key d x p hx7 hp hd
    · rw [hS.2.2.1 x q' (by omega) e]
      exact hx q' (by omega) x p hx7
  unfold w_X0_fillWhole_33
  refine pj_lp_inv (fun y : Int × Int × pj_M => ∃ ch n : Nat, y.1 = (ch : Int) ∧ y.2.1 = (n : Int) ∧ ch < 128 ∧ St y.2.2 ∧ n ≤ cct y.2.2 (c + 16) q 7 + 1 ∧ ((n = 0 ∧ ch = 1) ∨ ((ch ≠ 0 → n ≤ cct y.2.2 (c + 16) q 7) ∧ ∀ k : Nat, (k : Int) < M c 6 → ccl y.2.2 c q (k : Int) ∨ ∃ x, x < 6 ∧ tbit (M (c + 13) (k : Int)) x ∧ ch.testBit x = true))) (fun y => (1000 - y.2.1).toNat) ?_ (1, 0, M0) ⟨1, 0, rfl, rfl, by decide, st0, by omega, Or.inl ⟨rfl, rfl⟩⟩
  rintro ⟨x1, x2, M1⟩ ⟨ch, n, e1, e2, c1, hS, c2, c3⟩ P1 hP1
  dsimp only at e1 e2 hS c2 c3 hP1 ⊢
  subst e1; subst e2
  have hb1 := cct_le M1 (c + 16) q 7
  unfold w_X0_fillWhole_33b
  refine ⟨⟨by omega, by omega⟩, fun h => by omega, fun _ => ⟨⟨by omega, by omega⟩, fun h0 => ?_, fun h0 => ?_⟩⟩
  · rcases c3 with ⟨-, h⟩ | ⟨-, h⟩
    · omega
    · refine fin M1 hS (fun k hk => ?_)
      rcases h k hk with h | ⟨x, -, -, h3⟩
      · exact h
      · rw [show ch = 0 by omega] at h3; simp at h3
  -- one round
  unfold w_X0_fillWhole_51
  refine pj_lp_inv (fun y : Int × Int × pj_M => ∃ ac k : Nat, y.1 = (ac : Int) ∧ y.2.1 = (k : Int) ∧ (k : Int) ≤ M c 6 ∧ ac < 128 ∧ St y.2.2 ∧ cct M1 (c + 16) q 7 ≤ cct y.2.2 (c + 16) q 7 ∧ (ac ≠ 0 → cct M1 (c + 16) q 7 < cct y.2.2 (c + 16) q 7) ∧ ∀ k' : Nat, (k' : Int) < M c 6 → (k' < k ∨ n ≠ 0) → ccl y.2.2 c q (k' : Int) ∨ ∃ x, x < 6 ∧ tbit (M (c + 13) (k' : Int)) x ∧ (ac.testBit x = true ∨ (k ≤ k' ∧ ch.testBit x = true))) (fun y => (M c 6 - y.2.1).toNat) ?_ (0, 0, M1) ⟨0, 0, rfl, rfl, by show (0 : Int) ≤ _; exact ok.2.1.1, by decide, hS, Nat.le_refl _, fun h => absurd rfl h, fun k' hk' hor => ?_⟩
  rotate_left
  · rcases c3 with ⟨h, -⟩ | ⟨-, h⟩
    · omega
    · rcases h k' hk' with h | ⟨x, h1, h2, h3⟩
      · exact Or.inl h
      · exact Or.inr ⟨x, h1, h2, Or.inr ⟨Nat.zero_le _, h3⟩⟩
  rintro ⟨x1, x4, M2⟩ ⟨ac, k, e1, e2, d0, d1, dS, d2, d3, d4⟩ P2 hP2
  dsimp only at e1 e2 dS d2 d3 d4 hP2 ⊢
  subst e1; subst e2
  have ok2 := ok.eqw dS.1
  have tk2 := tk.eqw dS.1
  have e6 : M2 c 6 = M c 6 := dS.1 c 6 (by omega)
  have e10 : M2 (c + 10) = M (c + 10) := dS.1.row (by omega)
  have e13 : M2 (c + 13) = M (c + 13) := dS.1.row (by omega)
  have hR := ok.2.1
  -- the rule is looked at
  have look : (k : Int) < M c 6 → w_X0_fillWhole_76 c (ac : Int) (n : Int) (ch : Int) (k : Int) (fun x1 x2 M => P1 (x1, x2, M)) (fun x1 x4 M => P2 (x1, x4, M)) Q M2 := by
    intro hk
    unfold w_X0_fillWhole_76
    have ho := ok.2.2.1 (k : Int)
    obtain ⟨o, ho2⟩ : ∃ o : Nat, M (c + 10) (k : Int) = (o : Int) := ⟨_, (Int.toNat_of_nonneg ho.1).symm⟩
    refine t_addWhole (q := q) ok2 tk2 dS.2.1 (by rw [dS.1 c 11 (by omega)]; exact hq) ⟨by omega, by rw [e6]; exact hk⟩ (fun r B v hB hv hbit r0 r1 => ?_)
    have hvl : v < 262144 := by have := dS.2.1 (M2 (c + 10) (k : Int) * 18 + (q : Int)); omega
    rw [e10, ho2] at hv ⊢
    have hsB : ∀ p, B.testBit p = true → p ≤ q ∧ gr_y (gc M c) 10 o (tkw M c p q) := by
      intro p hp
      have hz2 := ok2.2.2.2.1 (k : Int)
      obtain ⟨g1, g2⟩ := cR_s (P := gr_y (gc M c) 10) ok2 tk2 (hsnd M2 dS) _ p (by omega) ((hbit p).mp hp)
      refine ⟨g1, gr_y_iff.mpr ⟨k, by show k < (M c 6).toNat; omega, by show (M (c + 10) (k : Int)).toNat = o; omega, ?_⟩⟩
      rw [tkwe M2 dS.1, show M2 (c + 11) (k : Int) - (((M2 (c + 11) (k : Int)).toNat : Nat) : Int) = 0 by omega] at g2
      unfold cf at g2
      rw [dS.1.row (show c + 12 ≠ c + 16 by omega), dS.1.row (show c + 11 ≠ c + 16 by omega)] at g2
      exact g2
    generalize hM3 : pj_up M2 (c + 16) ((o : Int) * 18 + (q : Int)) ((v ||| B : Nat) : Int) = M3
    have ew : eqw c M2 M3 := by rw [← hM3]; exact eqw.up
    have hcell : ∀ (x q' : Nat), q' < 18 → (x ≠ o ∨ q' ≠ q) → M3 (c + 16) ((x : Int) * 18 + (q' : Int)) = M2 (c + 16) ((x : Int) * 18 + (q' : Int)) := by
      intro x q' h1 h2
      rw [← hM3, pu_nk (by omega)]
    have hcell0 : M3 (c + 16) ((o : Int) * 18 + (q : Int)) = ((v ||| B : Nat) : Int) := by rw [← hM3, pu_eq]
    have dS3 : St M3 := by
      refine ⟨dS.1.tr ew, by rw [← hM3]; exact bs18_up dS.2.1 (Nat.or_lt_two_pow (n := 18) hvl hB), fun x q' h1 h2 => by rw [hcell x q' h1 (Or.inr h2)]; exact dS.2.2.1 x q' h1 h2, fun x p h1 h2 => ?_⟩
      by_cases e : x = o
      · subst e
        rw [hcell0] at h2
        unfold tbit at h2
        rw [Int.toNat_natCast, Nat.testBit_or, Bool.or_eq_true] at h2
        rcases h2 with h2 | h2
        · exact dS.2.2.2 x p h1 (by rw [hv]; unfold tbit; rw [Int.toNat_natCast]; exact h2)
        · exact hsB p h2
      · rw [hcell x q (by omega) (Or.inl e)] at h2
        exact dS.2.2.2 x p h1 h2
    have hct := cct_up (a := c + 16) (q := q) (o := o) (v := v) (B := B) (M := M2) (by omega) hv 7
    rw [hM3] at hct
    -- alternatives that don't use the owner stay as they are
    have keep : ∀ k' : Nat, (k' : Int) < M c 6 → ¬ tbit (M (c + 13) (k' : Int)) o → ∀ (n p : Nat), (n : Int) ≤ M2 (c + 11) (k' : Int) → (cR M3 c (k' : Int) (M2 (c + 11) (k' : Int)) (fun x => x = q) n p ↔ cR M2 c (k' : Int) (M2 (c + 11) (k' : Int)) (fun x => x = q) n p) := by
      intro k' hk' hno n p hn
      refine cR_congr ew (fun s s1 s2 s3 q' hq' => ?_) n p hn
      have hu := ok2.2.2.2.2.2.2 (k' : Int) s (by omega) (by rw [e6]; exact hk') s1 s2 s3
      rw [e13] at hu
      have hs15 := ok2.2.2.2.2.1 ((k' : Int) * 4 + s)
      have h9 := hcell (M2 (c + 12) ((k' : Int) * 4 + s) - 10).toNat q' hq' (Or.inl (fun e => hno (by rw [← e]; exact hu)))
      rwa [show (((M2 (c + 12) ((k' : Int) * 4 + s) - 10).toNat : Nat) : Int) = M2 (c + 12) ((k' : Int) * 4 + s) - 10 by omega] at h9
    have e113 : M3 (c + 11) = M2 (c + 11) := ew.row (by omega)
    have e103 : M3 (c + 10) = M (c + 10) := (ew.row (by omega)).trans e10
    -- a closed alternative stays closed, or uses the owner
    have kept : ∀ k' : Nat, (k' : Int) < M c 6 → ccl M2 c q (k' : Int) → ccl M3 c q (k' : Int) ∨ tbit (M (c + 13) (k' : Int)) o := by
      intro k' hk' hcl
      by_cases hu : tbit (M (c + 13) (k' : Int)) o
      · exact Or.inr hu
      · refine Or.inl (fun p hp => ?_)
        have hz2 := ok2.2.2.2.1 (k' : Int)
        rw [e113, keep k' hk' hu _ _ (by omega)] at hp
        have h7 := hcl p hp
        have ho' := ok.2.2.1 (k' : Int)
        obtain ⟨o', ho3⟩ : ∃ o' : Nat, M (c + 10) (k' : Int) = (o' : Int) := ⟨_, (Int.toNat_of_nonneg ho'.1).symm⟩
        rw [e10, ho3] at h7
        rw [e103, ho3]
        by_cases e : o' = o
        · subst e
          rw [hcell0]
          rw [hv] at h7
          unfold tbit at h7 ⊢
          rw [Int.toNat_natCast] at h7 ⊢
          rw [Nat.testBit_or, h7]; rfl
        · rw [hcell o' q (by omega) (Or.inl e)]; exact h7
    have self : ccl M3 c q (k : Int) ∨ tbit (M (c + 13) (k : Int)) o := by
      by_cases hu : tbit (M (c + 13) (k : Int)) o
      · exact Or.inr hu
      · refine Or.inl (fun p hp => ?_)
        have hz2 := ok2.2.2.2.1 (k : Int)
        rw [e113, keep k hk hu _ _ (by omega), ← hbit] at hp
        rw [e103, ho2, hcell0]
        unfold tbit
        rw [Int.toNat_natCast, Nat.testBit_or, hp]; simp
    have hR13 : (k : Int) < 13 := by omega
    -- the next alternative
    have next : ∀ ac' : Nat, ac' < 128 → (∀ x, ac.testBit x = true → ac'.testBit x = true) → (ac' ≠ 0 → cct M1 (c + 16) q 7 < cct M3 (c + 16) q 7) → (∀ k' : Nat, (k' : Int) < M c 6 → (k' < k ∨ n ≠ 0) → k' ≠ k → ccl M2 c q (k' : Int) → ccl M3 c q (k' : Int) ∨ ∃ x, x < 6 ∧ tbit (M (c + 13) (k' : Int)) x ∧ ac'.testBit x = true) → (ccl M3 c q (k : Int) ∨ ∃ x, x < 6 ∧ tbit (M (c + 13) (k : Int)) x ∧ ac'.testBit x = true) → P2 ((ac' : Int), (k : Int) + 1, M3) := by
      intro ac' h1 h2 h3 h4 h5
      refine hP2 ((ac' : Int), (k : Int) + 1, M3) ⟨ac', k + 1, rfl, by show (k : Int) + 1 = _; omega, by omega, h1, dS3, by show _ ≤ cct M3 (c + 16) q 7; omega, h3, fun k' hk' hor => ?_⟩ (by show (M c 6 - ((k : Int) + 1)).toNat < (M c 6 - (k : Int)).toNat; omega)
      by_cases e : k' = k
      · subst e
        rcases h5 with h5 | ⟨x, b1, b2, b3⟩
        · exact Or.inl h5
        · exact Or.inr ⟨x, b1, b2, Or.inl b3⟩
      · rcases d4 k' hk' (by omega) with h6 | ⟨x, b1, b2, b3 | b3⟩
        · rcases h4 k' hk' (by omega) e h6 with h7 | ⟨x, b1, b2, b3⟩
          · exact Or.inl h7
          · exact Or.inr ⟨x, b1, b2, Or.inl b3⟩
        · exact Or.inr ⟨x, b1, b2, Or.inl (h2 x b3)⟩
        · exact Or.inr ⟨x, b1, b2, Or.inr ⟨by omega, b3.2⟩⟩
    have hu64 := ok.2.2.2.2.2.1
    have lt6 : ∀ (k' : Int) (x : Nat), tbit (M (c + 13) k') x → x < 6 := by
      intro k' x h
      apply Nat.lt_of_not_le
      intro hle
      have h2 := hu64 k'
      have : (M (c + 13) k').toNat.testBit x = false := Nat.testBit_lt_two_pow (Nat.lt_of_lt_of_le (show (M (c + 13) k').toNat < 2 ^ 6 by omega) (Nat.pow_le_pow_right (by decide) hle))
      unfold tbit at h
      rw [this] at h; cases h
    refine ⟨by rcases r0 with h | h <;> rw [h] <;> exact ⟨by decide, by decide⟩, fun hr => ?_, fun hr => ⟨⟨by omega, by omega⟩, ?_⟩⟩
    · -- nothing new
      have hsub : v ||| B = v := by
        apply Nat.eq_of_testBit_eq
        intro i
        rw [Nat.testBit_or]
        by_cases h1 : B.testBit i = true
        · by_cases h2 : v.testBit i = true
          · rw [h1, h2]; rfl
          · exfalso
            have := r1.mpr ⟨i, h1, by simpa using h2⟩
            omega
        · simp [h1]
      have hsame : M3 = M2 := by
        rw [← hM3, hsub, ← hv]
        funext a' x'
        rw [pu_if]
        split
        · rename_i h; rw [h.1, h.2]
        · rfl
      refine next ac d1 (fun _ h => h) (fun h => by have := d3 h; omega) (fun k' _ _ _ h => Or.inl (by rw [hsame]; exact h)) (Or.inl (fun p hp => ?_))
      rw [hsame] at hp
      have hBp := (hbit p).mpr hp
      rw [e103, ho2, hcell0]
      unfold tbit
      rw [Int.toNat_natCast, Nat.testBit_or, hBp]; simp
    · rw [cr_2 hc, show M3 (c + 10) (k : Int) = (o : Int) by rw [e103]; exact ho2]
      have hpow : 2 ^ o < 2 ^ 7 := Nat.pow_lt_pow_right (by decide) (by omega)
      rw [pb_one (by omega), pb_or (by omega) (by omega)]
      rintro z rfl
      obtain ⟨p, hp1, hp2⟩ := r1.mp (r0.resolve_left hr)
      have hinc := hct.2 ⟨p, pb_18 hB hp1, hp1, hp2⟩ (by omega)
      have hset : ∀ x, (ac ||| 2 ^ o).testBit x = true ↔ ac.testBit x = true ∨ o = x := fun x => by rw [pb_set, Bool.or_eq_true, decide_eq_true_iff]
      refine next (ac ||| 2 ^ o) (Nat.or_lt_two_pow (n := 7) d1 hpow) (fun x h => (hset x).mpr (Or.inl h)) (fun _ => by omega) (fun k' hk' _ _ h => ?_) ?_
      · rcases kept k' hk' h with h | h
        · exact Or.inl h
        · exact Or.inr ⟨o, lt6 _ _ h, h, (hset o).mpr (Or.inr rfl)⟩
      · rcases self with h | h
        · exact Or.inl h
        · exact Or.inr ⟨o, lt6 _ _ h, h, (hset o).mpr (Or.inr rfl)⟩
  unfold w_X0_fillWhole_51b
  rw [e6, cr_5 hc, e13]
  refine ⟨⟨by omega, by omega⟩, ⟨by omega, by omega⟩, fun hcl => ?_, fun hcl => ⟨⟨by omega, by omega⟩, fun _ => look (by omega), fun hn0 => ⟨⟨by omega, by omega⟩, ?_⟩⟩⟩
  · refine hP1 ((ac : Int), (n : Int) + 1, M2) ⟨ac, n + 1, rfl, by show (n : Int) + 1 = _; omega, d1, dS, ?_, Or.inr ⟨fun h => ?_, fun k' hk' => ?_⟩⟩ (by show (1000 - ((n : Int) + 1)).toNat < (1000 - (n : Int)).toNat; omega)
    · show n + 1 ≤ cct M2 (c + 16) q 7 + 1
      rcases c3 with ⟨h1, -⟩ | ⟨h1, -⟩
      · omega
      · have := h1 (by omega); omega
    · show n + 1 ≤ cct M2 (c + 16) q 7
      have h9 := d3 h
      rcases c3 with ⟨h1, -⟩ | ⟨h1, -⟩
      · omega
      · have := h1 (by omega); omega
    · rcases d4 k' hk' (Or.inl (by omega)) with h | ⟨x, b1, b2, b3 | b3⟩
      · exact Or.inl h
      · exact Or.inr ⟨x, b1, b2, b3⟩
      · omega
  · have hu := ok.2.2.2.2.2.1 (k : Int)
    obtain ⟨u, hu2⟩ : ∃ u : Nat, M (c + 13) (k : Int) = (u : Int) := ⟨_, (Int.toNat_of_nonneg hu.1).symm⟩
    rw [hu2, pb_and (by omega) (by omega)]
    have hal : u &&& ch ≤ u := Nat.and_le_left
    refine ⟨⟨by omega, by omega⟩, fun hz => ?_, fun _ => look (by omega)⟩
    -- left out: none that it uses has changed
    refine hP2 ((ac : Int), (k : Int) + 1, M2) ⟨ac, k + 1, rfl, by show (k : Int) + 1 = _; omega, by omega, d1, dS, d2, d3, fun k' hk' hor => ?_⟩ (by show (M c 6 - ((k : Int) + 1)).toNat < (M c 6 - (k : Int)).toNat; omega)
    rcases d4 k' hk' (by omega) with h | ⟨x, b1, b2, b3 | b3⟩
    · exact Or.inl h
    · exact Or.inr ⟨x, b1, b2, Or.inl b3⟩
    · by_cases e : k' = k
      · subst e
        exfalso
        have h8 : (u &&& ch).testBit x = true := by
          rw [Nat.testBit_and, b3.2]
          unfold tbit at b2
          rw [hu2, Int.toNat_natCast] at b2
          rw [b2]; rfl
        rw [show u &&& ch = 0 by omega] at h8
        simp at h8
      · exact Or.inr ⟨x, b1, b2, Or.inr ⟨by omega, b3.2⟩⟩
