theorem lop_neg {k p s n : Int} {w : Int → Int} (h : (lop k p s n w).1 < 0) (hw : ∀ x, 0 ≤ w x) (hn : 0 ≤ n) : (lop k p s n w).2.1 = n ∧ (lop k p s n w).2.2 = w := by
  unfold lop at h ⊢
  by_cases h0 : k = 0
  · rw [if_pos h0] at h ⊢
    by_cases h1 : 1 ≤ p ∧ p ≤ n ∧ 0 ≤ s ∧ s < 8
    · rw [if_pos h1] at h ⊢
      by_cases h2 : w (p - 1) = s
      · rw [if_pos h2]; exact ⟨rfl, rfl⟩
      · rw [if_neg h2] at h
        have h3 := hw (p - 1)
        have h4 : w (p - 1) < 0 := h
        omega
    · rw [if_neg h1]; exact ⟨rfl, rfl⟩
  · rw [if_neg h0] at h ⊢
    by_cases h1 : k = 1
    · rw [if_pos h1] at h ⊢
      by_cases h2 : 1 ≤ p ∧ p ≤ n + 1 ∧ 0 ≤ s ∧ s < 8
      · rw [if_pos h2] at h ⊢
        by_cases h3 : 14 ≤ n
        · rw [if_pos h3]; exact ⟨rfl, rfl⟩
        · rw [if_neg h3] at h; have h4 : n + 1 < 0 := h; omega
      · rw [if_neg h2]; exact ⟨rfl, rfl⟩
    · rw [if_neg h1] at h ⊢
      by_cases h2 : 1 ≤ p ∧ p ≤ n
      · rw [if_pos h2] at h; have h4 : n - 1 < 0 := h; omega
      · rw [if_neg h2]; exact ⟨rfl, rfl⟩
theorem rpt_cg {D w w' : Int → Int} {n : Int} (hw : leq n w w') : ∀ (l : lP) (p : Int), 0 ≤ p → p ≤ n + 2 → rpt (pfit (gr_of D) (D 1).toNat w n) (n + 2) (fun j => j) l p → rpt (pfit (gr_of D) (D 1).toNat w' n) (n + 2) (fun j => j) l p := by
  intro l
  induction l with
  | nil => intro p p0 p1 hp; exact (pfit_congr (gr_eq.rf _) hw p0 (Int.le_refl _)).mp hp
  | cons x l ih =>
    obtain ⟨i, j⟩ := x
    intro p p0 p1 hp
    obtain ⟨a1, a2, a3, a4, a5⟩ := hp
    exact ⟨a1, fun h => a2 ((pfit_congr (gr_eq.rf _) hw p0 (by omega)).mpr h), (pfit_congr (gr_eq.rf _) hw p0 (by omega)).mp a3, ⟨a4.1, a4.2.1, fun h => a4.2.2.1 ((pfit_congr (gr_eq.rf _) hw a4.1 (by omega)).mpr h), (pfit_congr (gr_eq.rf _) hw (by omega) (by omega)).mp a4.2.2.2⟩, ih j (by omega) a1.2 a5⟩
section
variable {M : pj_M} {D : Int → Int} {H K : Int → Int → Int}
theorem t_misfitOfDay {Q : Int → pj_M → Prop} (ht : (0 ≤ M 1 1 ∧ M 1 1 ≤ 80) ∧ ∀ k, 0 ≤ M 2 k ∧ M 2 k ≤ 255) (q : ∀ r, misD (M 2) (M 1 1) r → Q r M) : w_X9_misfitOfDay 1 M Q := by
  unfold w_X9_misfitOfDay w_X9_misfitOfDay_6
  refine pj_lp_inv (fun y : Int × Int × Int × pj_M => ∃ p : Nat, y.2.2.1 = (p : Int) ∧ (p : Int) ≤ M 1 1 ∧ y.2.2.2 = M ∧ y.1 = (dst (M 2) p).1 ∧ y.2.1 = (dst (M 2) p).2 ∧ ∀ p', p' < p → okD (M 2) p') (fun y => (M 1 1 - y.2.2.1).toNat) ?_ (0, 0, 0, M) ⟨0, rfl, ht.1.1, rfl, rfl, rfl, fun p' h => absurd h (Nat.not_lt_zero _)⟩
  rintro ⟨_, _, _, Mx⟩ ⟨p, h1, hp, hM, h2, h3, hall⟩ P hP
  dsimp only at h1 hM h2 h3 hP ⊢
  subst h1 h2 h3
  have hM' := hM.symm
  subst hM'
  have hc := ht.2 (p : Int)
  obtain ⟨b1, b2, b3, b4⟩ := dst_b p hall
  have hdl := dln_b (M 2 (p : Int))
  -- a sign is looked at
  have look : (p : Int) < M 1 1 → ∀ ln : Int, ln = dlc (M 2) (dst (M 2) p) (p : Int) → w_X9_misfitOfDay_28 1 (dst (M 2) p).1 ln (p : Int) (fun x1 x2 x3 M => P (x1, x2, x3, M)) Q M := by
    intro hlt ln hln
    have hlb : ln = 0 ∨ ln = 3 ∨ ln = 4 := by
      rw [hln]; unfold dlc; split
      · exact hdl
      · exact b3
    have bad : ¬ okD (M 2) p → Q (p : Int) M := fun h => q (p : Int) (Or.inr ⟨p, rfl, hlt, h, hall⟩)
    have good : okD (M 2) p → ∀ o : Int, o = (if (dst (M 2) p).1 + 1 = ln then 0 else (dst (M 2) p).1 + 1) → w_X9_misfitOfDay_61 1 ln (p : Int) o (fun x1 x2 x3 M => P (x1, x2, x3, M)) Q M := by
      intro hok o ho
      unfold w_X9_misfitOfDay_61
      have hd : dst (M 2) (p + 1) = (o, ln) := by rw [ho, hln]; rfl
      refine hP (o, ln, (p : Int) + 1, M) ⟨p + 1, by show (p : Int) + 1 = _; omega, by omega, rfl, by rw [hd], by rw [hd], fun p' hp' => ?_⟩ (by show (M 1 1 - ((p : Int) + 1)).toNat < (M 1 1 - (p : Int)).toNat; omega)
      by_cases e : p' = p
      · rw [e]; exact hok
      · exact hall p' (by omega)
    unfold w_X9_misfitOfDay_28
    rw [rt_0]
    refine ⟨⟨by omega, by omega⟩, fun h0 => bad (fun h => h.1 (by rw [← hln]; exact h0)), fun hne => ⟨⟨by omega, by omega⟩, ?_⟩⟩
    have nxt : okD (M 2) p → (pj_in ((dst (M 2) p).1 + 1)) ∧ (pj_in ln) ∧ ((¬ ((dst (M 2) p).1 + 1) = ln → w_X9_misfitOfDay_61 1 ln (p : Int) ((dst (M 2) p).1 + 1) (fun x1 x2 x3 M => P (x1, x2, x3, M)) Q M) ∧ (((dst (M 2) p).1 + 1) = ln → w_X9_misfitOfDay_61 1 ln (p : Int) 0 (fun x1 x2 x3 M => P (x1, x2, x3, M)) Q M)) := fun hok =>
      ⟨⟨by omega, by omega⟩, ⟨by omega, by omega⟩, fun h => good hok _ (by rw [if_neg h]), fun h => good hok _ (by rw [if_pos h])⟩
    have okk : ((dst (M 2) p).1 = 0 ∨ ((dst (M 2) p).1 = 3 ∧ sgn (M 2 (p : Int))) ∨ ((dst (M 2) p).1 ≠ 3 ∧ 48 ≤ M 2 (p : Int) ∧ M 2 (p : Int) ≤ 57)) ↔ okD (M 2) p := ⟨fun h => ⟨by rw [← hln]; exact hne, h⟩, fun h => h.2⟩
    have res : ∀ t : Int, (t = 0 ∨ t = 1) → (t = 1 ↔ okD (M 2) p) → (pj_in t) ∧ ((¬ t = 0 → (pj_in ((dst (M 2) p).1 + 1)) ∧ (pj_in ln) ∧ ((¬ ((dst (M 2) p).1 + 1) = ln → w_X9_misfitOfDay_61 1 ln (p : Int) ((dst (M 2) p).1 + 1) (fun x1 x2 x3 M => P (x1, x2, x3, M)) Q M) ∧ (((dst (M 2) p).1 + 1) = ln → w_X9_misfitOfDay_61 1 ln (p : Int) 0 (fun x1 x2 x3 M => P (x1, x2, x3, M)) Q M))) ∧ (t = 0 → Q (p : Int) M)) := fun t ht' hiff => ⟨in01 ht', fun h => nxt (hiff.mp (by omega)), fun h => bad (fun h' => by have := hiff.mpr h'; omega)⟩
    unfold w_X9_standsInChange
    refine ⟨⟨by omega, by omega⟩, fun hn0 => ⟨⟨by omega, by omega⟩, fun hn3 => ⟨⟨by omega, by omega⟩, fun h => res 0 (Or.inl rfl) ⟨fun h => absurd h (by decide), fun h' => ?_⟩, fun h => ⟨⟨by omega, by omega⟩, fun h2 => res 0 (Or.inl rfl) ⟨fun h => absurd h (by decide), fun h' => ?_⟩, fun h2 => res 1 (Or.inr rfl) ⟨fun _ => okk.mp (Or.inr (Or.inr ⟨hn3, by omega, by omega⟩)), fun _ => rfl⟩⟩⟩, fun h3 => t_isSign ⟨by omega, by omega⟩ (fun t ht' hiff => ⟨ht', res t ht' (hiff.trans ⟨fun h => okk.mp (Or.inr (Or.inl ⟨h3, h⟩)), fun h => ?_⟩)⟩)⟩, fun h0 => res 1 (Or.inr rfl) ⟨fun _ => okk.mp (Or.inl h0), fun _ => rfl⟩⟩
    · rcases h'.2 with a | ⟨a, _⟩ | ⟨_, a, _⟩ <;> omega
    · rcases h'.2 with a | ⟨a, _⟩ | ⟨_, _, a⟩ <;> omega
    · rcases h.2 with a | ⟨_, a⟩ | ⟨a, _⟩
      · omega
      · exact a
      · exact absurd h3 a
  unfold w_X9_misfitOfDay_6b
  rw [rt_0]
  refine ⟨⟨by omega, by omega⟩, ⟨by omega, by omega⟩, fun hend => ?_, fun hgo => ⟨⟨by omega, by omega⟩, fun hne => look (by omega) _ (by unfold dlc; rw [if_neg hne]), fun h0 => ⟨⟨by omega, by omega⟩, t_lengthOfChange ⟨by omega, by omega⟩ (look (by omega) _ (by unfold dlc; rw [if_pos h0]))⟩⟩⟩
  have hpn : (M 1 1).toNat = p := by omega
  exact ⟨⟨by omega, by omega⟩, fun h => q _ (Or.inl ⟨Or.inr ⟨rfl, by rw [hpn]; exact h⟩, fun p' hp' => hall p' (by omega)⟩), fun h => q _ (Or.inl ⟨Or.inl ⟨rfl, by rw [hpn]; exact h⟩, fun p' hp' => hall p' (by omega)⟩)⟩
/-- one change of a text -/
theorem t_changeAt {Q : Int → pj_M → Prop} {M0 : pj_M} {P : Nat} (ht : (0 ≤ M 1 1 ∧ M 1 1 ≤ 80) ∧ ∀ k, 0 ≤ M 2 k ∧ M 2 k ≤ 255) (ok : ∀ p : Nat, (p : Int) < M 1 1 → okD (M 2) p) (hn : (dst (M 2) (M 1 1).toNat).1 = 0) (h0 : (dst (M 2) P).1 = 0) (hP : (P : Int) < M 1 1) (e1 : M0 1 = M 1) (e2 : M0 2 = M 2) (vl : lvl M0 18)
    (q : ∀ r M', lres M0 18 (dkd (M 2 (P : Int))) (dPl (M 2) (P : Int)) (dSg (M 2) (P : Int)) r M' → Q r M') : w_X9_changeAt 1 (P : Int) 18 M0 Q := by
  obtain ⟨a1, a2, a3, a4, a5, a6⟩ := dst_at ok hn h0 hP
  have hcb := ht.2 (P : Int)
  unfold w_X9_changeAt
  rw [rt_0, e2]
  have hl := dcell_13.2.2.2.2
  refine ⟨⟨by omega, by omega⟩, t_lengthOfChange ⟨by omega, by omega⟩ ?_⟩
  rw [e1, e2]
  have hdl : (dln (M 2 (P : Int)) = 3 ↔ M 2 (P : Int) = 100) ∧ (dln (M 2 (P : Int)) = 4 ↔ (M 2 (P : Int) = 114 ∨ M 2 (P : Int) = 105)) := by
    unfold dln
    constructor
    · split
      · omega
      · split <;> omega
    · split
      · omega
      · split <;> omega
  refine ⟨⟨by omega, by omega⟩, fun h => by omega, fun _ => ⟨⟨by omega, by omega⟩, ⟨by omega, by omega⟩, fun hle => ⟨⟨by omega, by omega⟩, ⟨by omega, by omega⟩, ?_⟩, fun h => absurd a2 h⟩⟩
  rintro z9 hz9
  have hz : z9 = dPl (M 2) (P : Int) := hz9
  have hzb : 0 ≤ z9 ∧ z9 ≤ 99 := by omega
  refine ⟨⟨by omega, by omega⟩, fun hn3 => ⟨⟨by omega, by omega⟩, ?_⟩, fun h3 => t_removeAt hl vl ⟨by omega, by omega⟩ (fun r M' h => q r M' ?_)⟩
  · have h4 : dln (M 2 (P : Int)) = 4 := by omega
    have hs := a6 h4
    unfold sgn at hs
    rintro z12 hz12
    have hk := hdl.2.mp h4
    have hsg : dSg (M 2) (P : Int) = z12 := by
      unfold dSg dkd
      rcases hk with e | e
      · rw [if_pos e, if_neg (by decide), hz12]
      · rw [if_neg (by omega)]; exact hz12.symm
    refine ⟨⟨by omega, by omega⟩, ⟨by omega, by omega⟩, fun hne => t_insertAt hl vl ⟨by omega, by omega⟩ ⟨by omega, by omega⟩ (fun r M' h => q r M' ?_), fun heq => t_replaceAt hl vl ⟨by omega, by omega⟩ ⟨by omega, by omega⟩ (fun r M' h => q r M' ?_)⟩
    · rw [hsg, ← hz]
      have : dkd (M 2 (P : Int)) = 1 := by unfold dkd; rw [if_neg hne, if_pos (by omega)]
      rw [this]; exact h
    · rw [hsg, ← hz]
      have : dkd (M 2 (P : Int)) = 0 := by unfold dkd; rw [if_pos heq]
      rw [this]; exact h
  · have h100 := hdl.1.mp h3
    have : dkd (M 2 (P : Int)) = 2 := by unfold dkd; rw [if_neg (by omega), if_neg (by omega)]
    have hsg : dSg (M 2) (P : Int) = 0 := by unfold dSg; rw [if_pos this]
    rw [this, hsg, ← hz]; exact h
def s_day (D : Int → Int) (T : Int → Int) (n : Int) (k : Nat) (f c : Int) : Prop := dyr T n (D 73) (lw D) k f ∧ rpn D (dLn T (D 73) (lw D) k).2 (dLn T (D 73) (lw D) k).1 c
theorem o_day {Q : Int → pj_M → Prop} (ci : CI M D H K) (q0 : ∀ r, misD (M 2) (M 1 1) r → r ≠ -1 → ∀ M', (∀ a, a ≠ 1 → M' a = M a) → M' 1 1 = 0 → CI M' D H K → Q (-1 - r) M')
    (q1 : misD (M 2) (M 1 1) (-1) → ∀ M' k f c, s_day D (M 2) (M 1 1) k f c → (∀ a, a = 2 ∨ a = 114 ∨ 187 ≤ a → M' a = M a) → M' 1 1 = 0 → rws M' [f, c] → M' 31 2 = (if k = 0 then M 31 2 else min (M 31 2 + 1) 10) → (∀ D' H', chd D D' (dLn (M 2) (D 73) (lw D) k).1 (dLn (M 2) (D 73) (lw D) k).2 → dvl D' → (k = 0 → ∀ i, 0 ≤ i → i < M 31 2 → H' i = H i) → (k ≠ 0 → psh (M 31 2) H H' D) → CI M' D' H' K) → Q (k : Int) M') : w_X11_day 0 M Q := by
  have ht := ci.2.2.2.2.2.1
  unfold w_X11_day
  rw [rc_0, rc_3, rc_2]
  refine t_misfitOfDay ht (fun r hr => ?_)
  have hrb : -1 ≤ r ∧ r ≤ 80 := by
    rcases hr with ⟨h, _⟩ | ⟨p, h1, h2, _⟩
    · omega
    · omega
  refine ⟨⟨by omega, by omega⟩, fun heq => ?_, fun hne => ?_⟩
  · subst heq
    obtain ⟨c1, ⟨c2, cv⟩, c3, c4, c5, c6, c7, c8⟩ := ci
    have hok : (dst (M 2) (M 1 1).toNat).1 = 0 ∧ ∀ p : Nat, (p : Int) < M 1 1 → okD (M 2) p := by
      rcases hr with ⟨h1, h2⟩ | ⟨p, h1, _⟩
      · exact ⟨by omega, h2⟩
      · omega
    have hps : ∀ k : Nat, (∀ j : Nat, j < k → dPs (M 2) j < M 1 1) → ∃ P : Nat, dPs (M 2) k = (P : Int) ∧ (P : Int) ≤ M 1 1 ∧ (dst (M 2) P).1 = 0 ∧ 3 * (k : Int) ≤ (P : Int) := by
      intro k
      induction k with
      | zero => intro _; exact ⟨0, rfl, ht.1.1, rfl, by show 3 * (0 : Int) ≤ 0; omega⟩
      | succ k ih =>
        intro hj
        obtain ⟨P, h1, h2, h3, h4⟩ := ih (fun j hj' => hj j (by omega))
        have hlt := hj k (by omega)
        obtain ⟨a1, a2, a3, _⟩ := dst_at hok.2 hok.1 h3 (by omega)
        refine ⟨P + (dln (M 2 (P : Int))).toNat, ?_, by omega, a3, by omega⟩
        show dPs (M 2) k + dln (M 2 (dPs (M 2) k)) = _
        rw [h1]; omega
    refine t_copyFromD dcell_21 dcell_13 (by decide) c3 c2 cv (fun M1 e1 rb => ?_)
    have r1 : drep M1 13 D := c2.eq (fun a a1 a2 => e1.row (by omega))
    -- the end
    have fin : ∀ (M2 : pj_M) (k : Nat) (f : Int), (∀ a, a ≠ 18 → a ≠ 19 → M2 a = M1 a) → lvl M2 18 → M2 18 1 = (dLn (M 2) (D 73) (lw D) k).1 → leq (M2 18 1) (M2 19) (dLn (M 2) (D 73) (lw D) k).2 → dyr (M 2) (M 1 1) (D 73) (lw D) k f → k ≤ 80 → w_X11_day_120 0 (k : Int) f Q M2 := by
      intro M2 k f e2 vl2 n2 w2 hdy hk80
      have hf : f = 0 ∨ f = 1 := by rcases hdy.2 with ⟨h, _⟩ | ⟨h, _⟩ <;> omega
      unfold w_X11_day_120 w_X9_clear
      rw [rc_0, rc_5, rc_3]
      rintro M3 rfl
      have row3 : ∀ a, a ≠ 1 → a ≠ 18 → a ≠ 19 → pj_up M2 1 1 0 a = M1 a := fun a a1 a2 a3 => by rw [pu_row a1]; exact e2 a a2 a3
      -- told
      have tell : ∀ (M4 : pj_M) (Hn : Int → Int → Int), (∀ a, a < 31 ∨ 112 < a → M4 a = pj_up M2 1 1 0 a) → hst M4 Hn → M4 31 2 = (if k = 0 then M 31 2 else min (M 31 2 + 1) 10) → (∀ H', (k = 0 → ∀ i, 0 ≤ i → i < M 31 2 → H' i = H i) → (k ≠ 0 → psh (M 31 2) H H' D) → ∀ i, 0 ≤ i → i < M4 31 2 → H' i = Hn i) → w_X11_day_142 0 (k : Int) f Q M4 := by
        intro M4 Hn e4 h4 z4 hHn
        have vl4 : lvl M4 18 := ⟨by rw [e4 18 (by omega), pu_row (by decide)]; exact vl2.1, by rw [e4 (18 + 1) (by omega), pu_row (by decide)]; exact vl2.2⟩
        have n4 : M4 18 1 = (dLn (M 2) (D 73) (lw D) k).1 := by rw [e4 18 (by omega), pu_ne (by decide)]; exact n2
        have w4 : leq (dLn (M 2) (D 73) (lw D) k).1 (M4 19) (dLn (M 2) (D 73) (lw D) k).2 := fun x x1 x2 => by
          rw [e4 19 (by omega), pu_ne (by decide)]; exact w2 x x1 (by rw [n2]; exact x2)
        -- the desk, as it then is: with any row that fits
        let D0 : Int → Int := fun x => if x = 73 then (dLn (M 2) (D 73) (lw D) k).1 else if 74 ≤ x ∧ x < 88 then M4 19 (x - 74) else D x
        have hc0 : chd D D0 (dLn (M 2) (D 73) (lw D) k).1 (dLn (M 2) (D 73) (lw D) k).2 := by
          refine ⟨rfl, fun x x1 x2 => ?_, fun x hx => ?_⟩
          · have hb : (dLn (M 2) (D 73) (lw D) k).1 ≤ 14 := by rw [← n4]; exact vl4.1.2
            show (if 74 + x = 73 then _ else if 74 ≤ 74 + x ∧ 74 + x < 88 then M4 19 (74 + x - 74) else D (74 + x)) = _
            rw [if_neg (by omega), if_pos (by omega), show 74 + x - 74 = x by omega]; exact w4 x x1 x2
          · show (if x = 73 then _ else if 74 ≤ x ∧ x < 88 then _ else D x) = _
            rw [if_neg (by omega), if_neg (by omega)]
        have v0 : dvl D0 := dvl_line cv hc0.2.2 (by show 0 ≤ (dLn (M 2) (D 73) (lw D) k).1 ∧ (dLn (M 2) (D 73) (lw D) k).1 ≤ 14; rw [← n4]; exact vl4.1) (fun x x1 x2 => by
          show 0 ≤ (if 74 + x = 73 then _ else if 74 ≤ 74 + x ∧ 74 + x < 88 then M4 19 (74 + x - 74) else D (74 + x)) ∧ (if 74 + x = 73 then _ else if 74 ≤ 74 + x ∧ 74 + x < 88 then M4 19 (74 + x - 74) else D (74 + x)) ≤ 7
          rw [if_neg (by omega), if_pos (by omega)]; exact vl4.2 _)
        have r4 : ∀ D', chd D D' (dLn (M 2) (D 73) (lw D) k).1 (dLn (M 2) (D 73) (lw D) k).2 → drep M4 13 D' := fun D' hc => r1.line cv (fun a a1 a2 a3 a4 => by rw [e4 a (by omega)]; exact row3 a (by omega) (by omega) (by omega)) vl4 n4 w4 hc
        have s4 : csc M4 := c1.eq (fun a ha => by rw [e4 a (by omega), row3 a (by omega) (by omega) (by omega)]; exact e1.row (by omega))
        have r40 := r4 D0 hc0
        have fin2 : ∀ y : Int, y = f → w_X11_day_152 0 (k : Int) 0 y Q M4 := by
          rintro y rfl
          unfold w_X11_day_152
          rw [rc_8, rc_2, rk_1]
          refine t_piecesOf (Or.inl rfl) s4 r40 v0 (Or.inl rfl) r40.2.1.1 r40.2.1.2.1 r40.2.1.2.2 (fun c M5 e5 _ _ _ _ s5 _ _ _ _ hc5 hr5 => ⟨⟨by omega, by omega⟩, t_tellTwo (fun M6 e6 r6 => ?_)⟩)
          have q6 : eqq M4 M6 := e5.tr (eqq.o e6)
          have row6 : ∀ a, (0 < a ∧ a < 29) ∨ (31 ≤ a ∧ a ≤ 114) ∨ 187 ≤ a → M6 a = M4 a := fun a ha => q6.row ha
          have hrp : rpn D (dLn (M 2) (D 73) (lw D) k).2 (dLn (M 2) (D 73) (lw D) k).1 c := by
            obtain ⟨l, l1, l2, l3⟩ := hr5
            have hge : gr_eq (gr_of D0) (gr_of D) := gr_of_eq (fun x hx => hc0.2.2 x (Or.inl hx)) cv.1
            have hD1 : D0 1 = D 1 := hc0.2.2 1 (by omega)
            have hF : pfit (gr_of D0) (D0 1).toNat (lw D0) (D0 73) = pfit (gr_of D) (D 1).toNat (lw D0) (D0 73) := by
              funext i j; apply propext; unfold pfit; rw [hD1]; exact fr_in_eq hge _ _
            rw [hF] at l3
            have hv0 := v0.2.2.1
            exact ⟨l, l1, l2, rpt_cg hc0.2.1 l 0 (Int.le_refl _) (by show (0 : Int) ≤ D0 73 + 2; omega) l3⟩
          refine q1 hr M6 k y c ⟨hdy, hrp⟩ (fun a ha => ?_) ?_ r6 (by rw [row6 31 (by omega)]; exact z4) (fun D' H' hc hv hH0 hH1 => ?_)
          · rw [row6 a (by omega), e4 a (by omega), row3 a (by omega) (by omega) (by omega)]; exact e1.row (by omega)
          · rw [row6 1 (by omega), e4 1 (by omega), pu_eq]
          · refine ⟨s5.o e6, ⟨(r4 D' hc).eq (fun a a1 a2 => row6 a (by omega)), hv⟩, ?_, ?_, ?_, ?_, ?_, ⟨[y, c], r6⟩⟩
            · exact rb.wf.eq (fun a a1 a2 => by rw [row6 a (by omega), e4 a (by omega)]; exact row3 a (by omega) (by omega) (by omega))
            · exact (h4.congr (hHn H' hH0 hH1)).eq (fun a a1 a2 => row6 a (by omega))
            · exact kpt.eq c5 (fun a a1 a2 => by rw [row6 a (by omega), e4 a (by omega), row3 a (by omega) (by omega) (by omega)]; exact e1.row (by omega)) (by rw [row6 114 (by omega), e4 114 (by omega), row3 114 (by omega) (by omega) (by omega)]; exact e1.row (by omega))
            · refine ⟨?_, fun j => ?_⟩
              · rw [row6 1 (by omega), e4 1 (by omega), pu_eq]; exact ⟨by decide, by decide⟩
              · rw [row6 2 (by omega), e4 2 (by omega), row3 2 (by decide) (by decide) (by decide), e1.row (show (2 : Nat) < 21 ∨ _ by decide)]; exact ht.2 j
            · exact c7.eq (fun a a1 a2 => by rw [row6 a (by omega), e4 a (by omega), row3 a (by omega) (by omega) (by omega)]; exact e1.row (by omega))
        unfold w_X11_day_142
        exact ⟨in01 hf, fun h => fin2 0 h.symm, fun h => fin2 1 (by omega)⟩
      have c4' : hst (pj_up M2 1 1 0) H := c4.eq (fun a a1 a2 => by rw [row3 a (by omega) (by omega) (by omega)]; exact e1.row (by omega))
      have e31 : pj_up M2 1 1 0 31 2 = M 31 2 := by rw [row3 31 (by decide) (by decide) (by decide), e1.row (show (31 : Nat) < 21 ∨ 21 + 7 < 31 by decide)]
      refine ⟨⟨by omega, by omega⟩, fun h0 => ?_, fun hpos => ?_⟩
      · have hk0 : k = 0 := by omega
        refine tell _ H (fun a ha => rfl) c4' (by rw [e31, if_pos hk0]) (fun H' h1 _ i i1 i2 => h1 hk0 i i1 (by rw [e31] at i2; exact i2))
      · have hk0 : k ≠ 0 := by omega
        have rb3 : drep (pj_up M2 1 1 0) 21 D := rb.eq (fun a a1 a2 => row3 a (by omega) (by omega) (by omega))
        refine t_pushH (H' := fun i => if i = min (M 31 2 + 1) 10 - 1 then D else if M 31 2 < 10 then H i else H (i + 1)) (Or.inr rfl) c4' rb3 cv (by rw [e31]; exact fun _ _ _ => rfl) (fun M4 e4 h4 z4 => ?_)
        rw [e31] at z4
        refine tell M4 _ e4 h4 (by rw [z4, if_neg hk0]) (fun H' _ h2 i i1 i2 => by rw [z4] at i2; exact h2 hk0 i i1 i2)
    unfold w_X11_day_46
    refine pj_lp_inv (fun y : Int × Int × Int × Int × pj_M => ∃ k st : Nat, y.1 = (k : Int) ∧ y.2.2.2.1 = (st : Int) ∧ (y.2.1 = 0 ∨ y.2.1 = 1) ∧ (∀ a, a ≠ 18 → a ≠ 19 → y.2.2.2.2 a = M1 a) ∧ lvl y.2.2.2.2 18 ∧ y.2.2.2.2 18 1 = (dLn (M 2) (D 73) (lw D) k).1 ∧ leq (y.2.2.2.2 18 1) (y.2.2.2.2 19) (dLn (M 2) (D 73) (lw D) k).2 ∧ (∀ j : Nat, j < k → dPs (M 2) j < M 1 1 ∧ 0 ≤ dAn (M 2) (D 73) (lw D) j) ∧ (y.2.1 = 0 → st = k ∧ y.2.2.1 = dPs (M 2) k ∧ k ≤ 27) ∧ (y.2.1 = 1 → st ≤ 28 ∧ dPs (M 2) k < M 1 1 ∧ dAn (M 2) (D 73) (lw D) k < 0 ∧ k ≤ 27 ∧ 0 ≤ y.2.2.1 ∧ y.2.2.1 ≤ 80)) (fun y => (if y.2.1 = 0 then 1 else 0) * 100 + (100 - y.2.2.2.1).toNat) ?_ (0, 0, 0, 0, M1) ⟨0, 0, rfl, rfl, Or.inl rfl, fun _ _ _ => rfl, r1.2.1.1, r1.2.1.2.1, ?_, fun j h => absurd h (Nat.not_lt_zero _), fun _ => ⟨rfl, rfl, by decide⟩, fun h => absurd h (by show ¬ (0 : Int) = 1; decide)⟩
    · rintro ⟨_, f, pp, _, M2⟩ ⟨k, st, h1, h2, hf, e2, vl2, n2, w2, hdone, hz, ho⟩ P hP
      dsimp only at h1 h2 hf e2 vl2 n2 w2 hdone hz ho hP ⊢
      subst h1 h2
      obtain ⟨PP, g1, g2, g3, g4⟩ := hps k (fun j hj => (hdone j hj).1)
      have hppb : 0 ≤ pp ∧ pp ≤ 80 := by
        rcases hf with h | h
        · have := hz h; omega
        · have := ho h; omega
      have hstb : st ≤ 28 := by
        rcases hf with h | h
        · have := hz h; omega
        · exact (ho h).1
      have hkb : k ≤ 27 := by
        rcases hf with h | h
        · exact (hz h).2.2
        · exact (ho h).2.2.2.1
      have e21 : M2 1 = M 1 := by rw [e2 1 (by decide) (by decide)]; exact e1.row (by decide)
      have e22 : M2 2 = M 2 := by rw [e2 2 (by decide) (by decide)]; exact e1.row (by decide)
      unfold w_X11_day_46b
      rw [rc_0, rc_2, rk_1, e21]
      refine ⟨⟨by omega, by omega⟩, fun h80 => by omega, fun _ => ⟨⟨by omega, by omega⟩, ⟨by omega, by omega⟩, fun hend => ?_, fun hgo => ⟨in01 hf, fun hfn => ?_, fun hf0 => ?_⟩⟩⟩
      · rcases hf with h | h
        · exact fin M2 k f e2 vl2 n2 w2 ⟨hdone, Or.inl ⟨h, by have := hz h; omega⟩⟩ (by omega)
        · exact fin M2 k f e2 vl2 n2 w2 ⟨hdone, Or.inr ⟨h, (ho h).2.1, (ho h).2.2.1⟩⟩ (by omega)
      · have h : f = 1 := by omega
        exact fin M2 k f e2 vl2 n2 w2 ⟨hdone, Or.inr ⟨h, (ho h).2.1, (ho h).2.2.1⟩⟩ (by omega)
      · obtain ⟨z1, z2, z3⟩ := hz hf0
        have hpp : pp = (PP : Int) := by omega
        rw [hpp]
        refine t_changeAt ht hok.2 hok.1 g3 (by omega) e21 e22 vl2 (fun res M3 hres => ?_)
        have hin := hres.in vl2
        obtain ⟨e3, vl3, hr3, n3, w3⟩ := hres
        rw [n2] at hr3 n3 w3 w2
        rw [← g1] at hr3 n3 w3
        obtain ⟨y1, y2, y3⟩ := lop_congr (k := dkd (M 2 (dPs (M 2) k))) (p := dPl (M 2) (dPs (M 2) k)) (s := dSg (M 2) (dPs (M 2) k)) w2
        have hres' : res = dAn (M 2) (D 73) (lw D) k := by rw [hr3]; exact y1
        have e31' : ∀ a, a ≠ 18 → a ≠ 19 → M3 a = M1 a := fun a a1 a2 => by rw [e3.row (by omega)]; exact e2 a a1 a2
        obtain ⟨q1', q2', q3', _⟩ := dst_at hok.2 hok.1 g3 (show (PP : Int) < M 1 1 by omega)
        have hcb := ht.2 (PP : Int)
        have adv : ∀ (k' f' : Int), P (k', f', (PP : Int) + dln (M 2 (PP : Int)), (st : Int) + 1, M3) → w_X11_day_96 0 k' f' (PP : Int) (st : Int) (fun x2 x3 x4 x5 M => P (x2, x3, x4, x5, M)) Q M3 := by
          intro k' f' hp'
          unfold w_X11_day_96
          rw [rc_0, rt_0, e3.row (show (2 : Nat) < 18 ∨ _ by decide), e22]
          exact ⟨⟨by omega, by omega⟩, t_lengthOfChange ⟨by omega, by omega⟩ hp'⟩
        refine ⟨hin, fun hge => adv _ _ ?_, fun hlt => adv _ _ ?_⟩
        · have hk27 : k + 1 ≤ 27 := by omega
          refine hP ((k : Int) + 1, f, (PP : Int) + dln (M 2 (PP : Int)), (st : Int) + 1, M3) ⟨k + 1, st + 1, by show (k : Int) + 1 = _; omega, by show (st : Int) + 1 = _; omega, hf, e31', vl3, ?_, ?_, fun j hj => ?_, fun _ => ⟨by omega, ?_, hk27⟩, fun h => by have : f = 1 := h; omega⟩ ?_
          · show M3 18 1 = (lop _ _ _ _ _).2.1
            rw [n3]; exact y2
          · show leq (M3 18 1) (M3 19) (lop _ _ _ _ _).2.2
            intro x x1 x2
            have hx := w3 x x1 x2
            rw [n3] at x2
            exact hx.trans (y3 x x1 x2)
          · by_cases e : j = k
            · subst e; exact ⟨by omega, by rw [← hres']; omega⟩
            · exact hdone j (by omega)
          · show (PP : Int) + dln (M 2 (PP : Int)) = dPs (M 2) k + dln (M 2 (dPs (M 2) k))
            rw [g1]
          · show (if f = 0 then 1 else 0) * 100 + (100 - ((st : Int) + 1)).toNat < (if f = 0 then 1 else 0) * 100 + (100 - (st : Int)).toNat
            omega
        · have hneg : dAn (M 2) (D 73) (lw D) k < 0 := by rw [← hres']; omega
          refine hP ((k : Int), 1, (PP : Int) + dln (M 2 (PP : Int)), (st : Int) + 1, M3) ⟨k, st + 1, rfl, by show (st : Int) + 1 = _; omega, Or.inr rfl, e31', vl3, ?_, ?_, hdone, fun h => absurd h (by show ¬ (1 : Int) = 0; decide), fun _ => ⟨by omega, by omega, hneg, by omega, by show 0 ≤ (PP : Int) + dln (M 2 (PP : Int)); omega, by show (PP : Int) + dln (M 2 (PP : Int)) ≤ 80; omega⟩⟩ ?_
          · show M3 18 1 = _
            rw [n3]
            exact (lop_neg (by rw [← hr3]; omega) (fun x => (vl2.2 x).1) (by rw [← n2]; exact vl2.1.1)).1
          · show leq (M3 18 1) (M3 19) _
            intro x x1 x2
            have hx := w3 x x1 x2
            have hl := lop_neg (k := dkd (M 2 (dPs (M 2) k))) (p := dPl (M 2) (dPs (M 2) k)) (s := dSg (M 2) (dPs (M 2) k)) (n := (dLn (M 2) (D 73) (lw D) k).1) (w := M2 (18 + 1)) (by rw [← hr3]; omega) (fun x => (vl2.2 x).1) (by rw [← n2]; exact vl2.1.1)
            rw [hl.2] at hx
            rw [n3, hl.1] at x2
            exact hx.trans (w2 x x1 x2)
          · show (if (1 : Int) = 0 then 1 else 0) * 100 + (100 - ((st : Int) + 1)).toNat < (if f = 0 then 1 else 0) * 100 + (100 - (st : Int)).toNat
            rw [if_pos hf0, if_neg (by decide)]; omega
    · intro x x1 x2
      have x2' : x < M1 18 1 := x2
      rw [show M1 18 1 = D 73 from r1.2.1.2.1] at x2'
      exact r1.2.1.2.2 x x1 x2'
  · unfold w_X9_clear w_X11_cannotStand
    rintro M1 rfl
    exact q0 r hr hne _ (fun a ha => pu_row ha) pu_eq ci.clear
end
