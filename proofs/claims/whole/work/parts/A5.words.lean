theorem bcn_s {v n : Nat} : bcn v (n + 1) = bcn v n + (if v.testBit n then 1 else 0) := rfl
theorem bcn_le2 {v n m : Nat} (h : n ≤ m) : bcn v n ≤ bcn v m := by
  induction m with
  | zero => rw [show n = 0 by omega]; exact Nat.le_refl _
  | succ m ih =>
    by_cases e : n = m + 1
    · rw [e]; exact Nat.le_refl _
    · rw [bcn_s]; have := ih (by omega); omega
theorem bcn_inj {v s t : Nat} (hs : v.testBit s = true) (ht : v.testBit t = true) (e : bcn v s = bcn v t) : s = t := by
  rcases Nat.lt_trichotomy s t with h | h | h
  · have a := bcn_le2 (v := v) (show s + 1 ≤ t by omega)
    rw [bcn_s, hs] at a; simp at a; omega
  · exact h
  · have a := bcn_le2 (v := v) (show t + 1 ≤ s by omega)
    rw [bcn_s, ht] at a; simp at a; omega
/-- the letters of an alphabet, the words -/
def ltf (R k : Nat) : Nat := ((List.range 8).find? (fun s => R.testBit s && decide (bcn R s = k))).getD 0
theorem ltf_eq {R s : Nat} (hs : s < 8) (hb : R.testBit s = true) : ltf R (bcn R s) = s := by
  unfold ltf
  cases h : (List.range 8).find? (fun t => R.testBit t && decide (bcn R t = bcn R s)) with
  | none =>
    rw [List.find?_eq_none] at h
    have := h s (List.mem_range.mpr hs)
    simp [hb] at this
  | some t =>
    have h1 := List.find?_some h
    simp only [Bool.and_eq_true, decide_eq_true_eq] at h1
    exact bcn_inj h1.1 hb h1.2
theorem ltf_8 {R k : Nat} : ltf R k < 8 := by
  unfold ltf
  cases h : (List.range 8).find? (fun t => R.testBit t && decide (bcn R t = k)) with
  | none => decide
  | some t => exact List.mem_range.mp (List.mem_of_find?_eq_some h)
def wdf (R k n : Nat) : Int → Int := fun p => (ltf R ((k / (bcn R 8) ^ (n - 1 - p.toNat)) % bcn R 8) : Int)
def wls (f : Int → Int) (n : Nat) : List Int := (List.range n).map (fun (k : Nat) => f (k : Int))
theorem wls_s (f : Int → Int) (n : Nat) : wls f (n + 1) = wls f n ++ [f (n : Int)] := by unfold wls; rw [List.range_succ, List.map_append]; rfl
theorem wls_len (f : Int → Int) (n : Nat) : (wls f n).length = n := by unfold wls; rw [List.length_map, List.length_range]
theorem wls_congr {f g : Int → Int} {n : Nat} (h : leq (n : Int) f g) : wls f n = wls g n := by
  unfold wls
  exact List.map_congr_left (fun k hk => h (k : Int) (by omega) (by have := List.mem_range.mp hk; omega))
theorem rw_0 : pj_rf 183 0 = 184 := by decide
def eqw' (M M' : pj_M) : Prop := ∀ a x, ¬ (183 ≤ a ∧ a ≤ 185) → M' a x = M a x
theorem eqw'.rf {M : pj_M} : eqw' M M := fun _ _ _ => rfl
theorem eqw'.tr {M M1 M2 : pj_M} (h : eqw' M M1) (h2 : eqw' M1 M2) : eqw' M M2 := fun a x h3 => (h2 a x h3).trans (h a x h3)
theorem eqw'.up {M : pj_M} {a : Nat} {k v : Int} (h : 183 ≤ a ∧ a ≤ 185) : eqw' M (pj_up M a k v) := fun b x hb => pu_ne (fun e => hb (e ▸ h))
theorem eqw'.row {M M' : pj_M} {a : Nat} (h : eqw' M M') (h2 : a < 183 ∨ 185 < a) : M' a = M a := funext fun x => h a x (by omega)
theorem eqq.w {M M' : pj_M} (h : eqw' M M') : eqq M M' := fun a x h3 => h a x (by unfold kpq at h3; omega)
/-- an alphabet is in use -/
def alp (M : pj_M) (R : Nat) : Prop := R < 256 ∧ M 183 1 = (bcn R 8 : Int) ∧ ∀ k : Nat, k < bcn R 8 → M 184 (k : Int) = (ltf R k : Int)
theorem alp.eq {M M' : pj_M} {R : Nat} (h : alp M R) (e1 : M' 183 = M 183) (e2 : M' 184 = M 184) : alp M' R := by unfold alp at *; rw [e1, e2]; exact h
theorem t_useLetters {M : pj_M} {R : Nat} {Q : pj_M → Prop} (hR : R < 256) (q : ∀ M', eqw' M M' → alp M' R → Q M') : w_X10_useLetters 183 (R : Int) M Q := by
  unfold w_X10_useLetters
  rintro M0 rfl
  unfold w_X10_useLetters_7
  refine pj_lp_inv (fun y : Int × pj_M => ∃ s : Nat, y.1 = (s : Int) ∧ s ≤ 8 ∧ eqw' M y.2 ∧ y.2 183 1 = (bcn R s : Int) ∧ ∀ k : Nat, k < bcn R s → y.2 184 (k : Int) = (ltf R k : Int)) (fun y => (8 - y.1).toNat) ?_ (0, _) ⟨0, rfl, by decide, eqw'.up ⟨by decide, by decide⟩, by show pj_up M 183 1 0 183 1 = ((bcn R 0 : Nat) : Int); rw [pu_eq]; rfl, fun k h => absurd h (Nat.not_lt_zero _)⟩
  rintro ⟨_, M1⟩ ⟨s, h1, hs, e1, c1, l1⟩ P hP
  dsimp only at h1 e1 c1 l1 hP ⊢
  subst h1
  unfold w_X10_useLetters_7b
  refine ⟨⟨by omega, by omega⟩, fun hend => ?_, fun hgo => ?_⟩
  · have : s = 8 := by omega
    subst this
    exact q M1 e1 ⟨hR, c1, l1⟩
  · rw [pb_bit (by omega) (by omega)]
    have hb8 := bcn_le R s
    by_cases e : R.testBit s = true
    · rw [e, rw_0, c1]
      refine ⟨⟨by decide, by decide⟩, fun h => absurd h (by decide), fun _ => ⟨⟨by omega, by omega⟩, ?_⟩⟩
      rintro M5 rfl M6 rfl
      rw [pu_ne (show (183 : Nat) ≠ 184 by decide), c1]
      have hn : bcn R (s + 1) = bcn R s + 1 := by rw [bcn_s, e]; rfl
      refine hP ((s : Int) + 1, _) ⟨s + 1, by show (s : Int) + 1 = _; omega, by omega, (e1.tr (eqw'.up ⟨by decide, by decide⟩)).tr (eqw'.up ⟨by decide, by decide⟩), ?_, fun k hk => ?_⟩ (by show (8 - ((s : Int) + 1)).toNat < (8 - (s : Int)).toNat; omega)
      · show pj_up (pj_up M1 184 (bcn R s : Int) (s : Int)) 183 1 ((bcn R s : Int) + 1) 183 1 = _
        rw [pu_eq, hn]; rfl
      · show pj_up (pj_up M1 184 (bcn R s : Int) (s : Int)) 183 1 ((bcn R s : Int) + 1) 184 (k : Int) = _
        rw [pu_ne (by decide)]
        by_cases ek : k = bcn R s
        · rw [ek, pu_eq, ltf_eq (by omega) e]
        · rw [pu_nk (by omega)]; exact l1 k (by omega)
    · rw [if_neg e]
      have hn : bcn R (s + 1) = bcn R s := by rw [bcn_s, if_neg e]; rfl
      refine ⟨⟨by decide, by decide⟩, fun _ => ?_, fun h => absurd rfl h⟩
      exact hP ((s : Int) + 1, M1) ⟨s + 1, by show (s : Int) + 1 = _; omega, by omega, e1, by show M1 183 1 = _; rw [hn]; exact c1, fun k hk => l1 k (by omega)⟩ (by show (8 - ((s : Int) + 1)).toNat < (8 - (s : Int)).toNat; omega)
theorem pw_b {c n : Nat} (hc : c ≤ 8) (hn : n ≤ 5) : c ^ n ≤ 32768 := Nat.le_trans (Nat.pow_le_pow_left hc n) (Nat.le_trans (Nat.pow_le_pow_right (by decide) hn) (by decide))
theorem t_howMany {M : pj_M} {R n : Nat} {Q : Int → pj_M → Prop} (h : alp M R) (hn : n ≤ 5) (q : Q (((bcn R 8) ^ n : Nat) : Int) M) : w_X10_howMany 183 (n : Int) M Q := by
  unfold w_X10_howMany w_X10_howMany_4
  refine pj_lp_inv (fun y : Int × Int × pj_M => ∃ k : Nat, y.2.1 = (k : Int) ∧ k ≤ n ∧ y.1 = (((bcn R 8) ^ k : Nat) : Int) ∧ y.2.2 = M) (fun y => ((n : Int) - y.2.1).toNat) ?_ (1, 0, M) ⟨0, rfl, by omega, rfl, rfl⟩
  rintro ⟨a, _, Mx⟩ ⟨k, h1, hk, h2, h3⟩ P hP
  dsimp only at h1 h2 h3 hP ⊢
  subst h1 h2
  have h3' := h3.symm
  subst h3'
  unfold w_X10_howMany_4b
  refine ⟨⟨by omega, by omega⟩, ⟨by omega, by omega⟩, fun hend => ?_, fun hgo => ?_⟩
  · rw [show k = n by omega]; exact q
  · rw [h.2.1]
    rintro z rfl
    refine hP (_, (k : Int) + 1, M) ⟨k + 1, by show (k : Int) + 1 = _; omega, by omega, ?_, rfl⟩ (by show ((n : Int) - ((k : Int) + 1)).toNat < ((n : Int) - (k : Int)).toNat; omega)
    show (((bcn R 8) ^ k : Nat) : Int) * (bcn R 8 : Int) = (((bcn R 8) ^ (k + 1) : Nat) : Int)
    rw [Nat.pow_succ]; norm_cast
theorem t_spell {M : pj_M} {R k n : Nat} {Q : pj_M → Prop} (h : alp M R) (hn : n ≤ 5) (hk : k < (bcn R 8) ^ n) (q : ∀ M', eqw' M M' → alp M' R → leq (n : Int) (M' 185) (wdf R k n) → Q M') : w_X10_spell 183 (k : Int) (n : Int) M Q := by
  have hc8 := bcn_le R 8
  have hkb := pw_b hc8 hn
  unfold w_X10_spell w_X10_spell_7
  refine pj_lp_inv (fun y : Int × Int × pj_M => ∃ m : Nat, y.2.1 = (m : Int) - 1 ∧ m ≤ n ∧ y.1 = ((k / (bcn R 8) ^ (n - m) : Nat) : Int) ∧ eqw' M y.2.2 ∧ alp y.2.2 R ∧ ∀ p, (m : Int) ≤ p → p < (n : Int) → y.2.2 185 p = wdf R k n p) (fun y => (y.2.1 + 1).toNat) ?_ ((k : Int), (n : Int) - 1, M) ⟨n, rfl, Nat.le_refl _, by show (k : Int) = _; rw [Nat.sub_self, Nat.pow_zero, Nat.div_one], eqw'.rf, h, fun p h1 h2 => by omega⟩
  rintro ⟨_, _, M1⟩ ⟨m, h1, hm, h2, e1, a1, w1⟩ P hP
  dsimp only at h1 h2 e1 a1 w1 hP ⊢
  subst h1 h2
  unfold w_X10_spell_7b
  refine ⟨⟨by omega, by omega⟩, fun hend => ?_, fun hgo => ?_⟩
  · have : m = 0 := by omega
    subst this
    exact q M1 e1 a1 (fun p p1 p2 => w1 p (by omega) p2)
  · have hcp : 0 < bcn R 8 := by
      rcases Nat.eq_zero_or_pos (bcn R 8) with h0 | h0
      · rw [h0, Nat.zero_pow (by omega)] at hk; omega
      · exact h0
    have hle : k / (bcn R 8) ^ (n - m) ≤ k := Nat.div_le_self _ _
    rw [a1.2.1, rw_0, rw_2]
    generalize hq : k / (bcn R 8) ^ (n - m) = t at hle ⊢
    have hr : pj_rem (t : Int) (bcn R 8 : Int) = ((t % bcn R 8 : Nat) : Int) := by rw [pd_rem ⟨by omega, by omega⟩ ⟨by omega, by omega⟩]; norm_cast
    have hml := Nat.mod_lt t hcp
    refine ⟨⟨by omega, by omega⟩, fun h => by omega, fun _ => ⟨⟨by omega, by omega⟩, by omega, by rw [hr]; exact ⟨by omega, by omega⟩, ⟨by omega, by omega⟩, ?_⟩⟩
    rw [hr, a1.2.2 _ hml]
    rintro M7 rfl
    rw [pu_ne (show (183 : Nat) ≠ 185 by decide), a1.2.1, pd_div ⟨by omega, by omega⟩ ⟨by omega, by omega⟩]
    refine ⟨⟨by omega, by omega⟩, by omega, ?_⟩
    rintro z rfl
    have z183 : pj_up M1 185 ((m : Int) - 1) (ltf R (t % bcn R 8) : Int) 183 = M1 183 := pu_row (by decide)
    have z184 : pj_up M1 185 ((m : Int) - 1) (ltf R (t % bcn R 8) : Int) 184 = M1 184 := pu_row (by decide)
    refine hP (_, (m : Int) - 1 + (-1), _) ⟨m - 1, by show (m : Int) - 1 + (-1) = _; omega, by omega, ?_, e1.tr (eqw'.up ⟨by decide, by decide⟩), a1.eq z183 z184, fun p p1 p2 => ?_⟩ (by show ((m : Int) - 1 + (-1) + 1).toNat < ((m : Int) - 1 + 1).toNat; omega)
    · show (t : Int) / (bcn R 8 : Int) = _
      rw [show n - (m - 1) = n - m + 1 by omega, Nat.pow_succ, ← Nat.div_div_eq_div_mul, hq]
      norm_cast
    · show pj_up M1 185 ((m : Int) - 1) (ltf R (t % bcn R 8) : Int) 185 p = _
      by_cases e : p = (m : Int) - 1
      · rw [e, pu_eq]
        unfold wdf
        rw [show ((m : Int) - 1).toNat = m - 1 by omega, show n - 1 - (m - 1) = n - m by omega, hq]
      · rw [pu_nk e]; exact w1 p (by omega) p2
theorem t_tellWord {M : pj_M} {l : List Int} {n : Nat} {Q : pj_M → Prop} (h : rws M l) (hn : n ≤ 5) (hl : l.length + n ≤ 39) (hb : ∀ p, 0 ≤ p → p < (n : Int) → pj_in (M 185 p)) (q : ∀ M', eqo M M' → rws M' (l ++ wls (M 185) n) → Q M') : w_X11_tellWord 0 (n : Int) M Q := by
  unfold w_X11_tellWord w_X11_tellWord_2
  refine pj_lp_inv (fun y : Int × pj_M => ∃ k : Nat, y.1 = (k : Int) ∧ k ≤ n ∧ eqo M y.2 ∧ rws y.2 (l ++ wls (M 185) k)) (fun y => ((n : Int) - y.1).toNat) ?_ (0, M) ⟨0, rfl, by omega, eqo.rf, by show rws M (l ++ []); rw [List.append_nil]; exact h⟩
  rintro ⟨_, M1⟩ ⟨k, h1, hk, e1, r1⟩ P hP
  dsimp only at h1 e1 r1 hP ⊢
  subst h1
  unfold w_X11_tellWord_2b
  rw [rc_13, rw_2, e1.row (show (185 : Nat) ≠ 186 by decide) (by decide)]
  refine ⟨⟨by omega, by omega⟩, ⟨by omega, by omega⟩, fun hend => ?_, fun hgo => ⟨⟨by omega, by omega⟩, hb _ (by omega) (by omega), t_tellMore r1 (by rw [List.length_append, wls_len]; omega) (fun M2 e2 r2 => ?_)⟩⟩
  · rw [show n = k by omega] at q; exact q M1 e1 r1
  · refine hP ((k : Int) + 1, M2) ⟨k + 1, by show (k : Int) + 1 = _; omega, by omega, e1.tr e2, ?_⟩ (by show ((n : Int) - ((k : Int) + 1)).toNat < ((n : Int) - (k : Int)).toNat; omega)
    show rws M2 (l ++ wls (M 185) (k + 1))
    rw [wls_s, ← List.append_assoc]; exact r2
