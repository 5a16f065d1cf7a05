/-- the signs of a piece -/
def pcf (i : Int) : Int := if i ≤ 1 then 1 else i
def pcn (n i j : Int) : Int := if pcf i ≤ n ∧ pcf i ≤ j - 1 then (if n ≤ j - 1 then n else j - 1) - pcf i + 1 else 0
def pcu (D : Int → Int) (i j : Int) : List Nat := sg (lw D) (pcf i - 1) (pcf i - 1 + pcn (D 73) i j)
theorem pl_mid {D : Int → Int} {i j : Int} (hn : 0 ≤ D 73) (h : isPc D i j) : plD D i j = (if i = 0 ∧ 0 < j then [8] else []) ++ (pcu D i j ++ (if j = D 73 + 2 ∧ i < j then [9] else [])) := by
  unfold isPc at h
  unfold plD
  have f0 : fr_w (lw D) (D 73) 0 = 8 := by unfold fr_w; rw [if_pos rfl]
  have f9 : fr_w (lw D) (D 73) (D 73 + 1) = 9 := by unfold fr_w; rw [if_neg (by omega), if_pos rfl]
  -- the part behind ^
  have part : ∀ a, 1 ≤ a → a ≤ j → sg (fr_w (lw D) (D 73)) a j = sg (lw D) (a - 1) (a - 1 + (if a ≤ D 73 ∧ a ≤ j - 1 then (if D 73 ≤ j - 1 then D 73 else j - 1) - a + 1 else 0)) ++ (if j = D 73 + 2 ∧ a < j then [9] else []) := by
    intro a a1 a2
    by_cases hl : j = D 73 + 2 ∧ a < j
    · rw [if_pos hl, ← sg_app (m := D 73 + 1) (by omega) (by omega), hl.1, show D 73 + 2 = D 73 + 1 + 1 by omega, sg_one, f9, fr_sg a1 (by omega)]
      congr 2
      by_cases c : a ≤ D 73
      · rw [if_pos ⟨c, by omega⟩, if_pos (by omega)]; omega
      · rw [if_neg (by omega)]; omega
    · rw [if_neg hl, List.append_nil]
      by_cases hj : j ≤ D 73 + 1
      · rw [fr_sg a1 hj]
        congr 1
        by_cases c : a ≤ D 73 ∧ a ≤ j - 1
        · rw [if_pos c]
          by_cases c2 : D 73 ≤ j - 1
          · rw [if_pos c2]; omega
          · rw [if_neg c2]; omega
        · rw [if_neg c]; omega
      · have : a = j := by omega
        subst this
        rw [sg_nil, if_neg (by omega), show a - 1 + 0 = a - 1 by omega, sg_nil]
  unfold pcu pcn
  by_cases hi : i = 0
  · have hpf : pcf i = 1 := by unfold pcf; rw [if_pos (by omega)]
    rw [hpf]
    by_cases hj : 0 < j
    · rw [if_pos ⟨hi, hj⟩, hi, sg_cons hj, f0, show (0 : Int) + 1 = 1 by omega, part 1 (by omega) (by omega)]
      have hc : (j = D 73 + 2 ∧ 1 < j) ↔ (j = D 73 + 2 ∧ 0 < j) := by omega
      simp only [hc]
      rfl
    · have hj0 : j = 0 := by omega
      rw [if_neg (by omega), hi, hj0, sg_nil, if_neg (by omega), if_neg (by omega), show (1 : Int) - 1 + 0 = 1 - 1 by omega, sg_nil]; rfl
  · have hpf : pcf i = i := by unfold pcf; by_cases c : i ≤ 1; rw [if_pos c]; omega; rw [if_neg c]
    rw [hpf, if_neg (by omega), part i (by omega) h.2.1]
    rfl
theorem sg_fr1 {w : Int → Int} {n : Int} (hn : 0 ≤ n) : sg (fr_w w n) 1 (n + 1) = sg w 0 n ∧ sg (fr_w w n) 0 (n + 1) = 8 :: sg w 0 n ∧ sg (fr_w w n) 1 (n + 2) = sg w 0 n ++ [9] := by
  have h1 : sg (fr_w w n) 1 (n + 1) = sg w 0 n := by rw [fr_sg (by omega) (by omega)]; congr 1; omega
  have f0 : fr_w w n 0 = 8 := by unfold fr_w; rw [if_pos rfl]
  have f9 : fr_w w n (n + 1) = 9 := by unfold fr_w; rw [if_neg (by omega), if_pos rfl]
  refine ⟨h1, ?_, ?_⟩
  · rw [sg_cons (by omega), f0, show (0 : Int) + 1 = 1 by omega, h1]; rfl
  · rw [← sg_app (m := n + 1) (by omega) (by omega), show n + 2 = n + 1 + 1 by omega, sg_one, f9, h1]; rfl
theorem sg_shift {w w' : Int → Int} {a b n : Int} (h : ∀ x, 0 ≤ x → x < n → w (a + x) = w' (b + x)) : sg w a (a + n) = sg w' b (b + n) := by
  unfold sg
  rw [show a + n - a = n by omega, show b + n - b = n by omega]
  apply List.map_congr_left
  intro t ht
  have := List.mem_range.mp ht
  rw [h (t : Int) (by omega) (by omega)]
theorem pcn_b {n i j : Int} (hn : 0 ≤ n) (hi : 0 ≤ i) : 0 ≤ pcn n i j ∧ pcn n i j ≤ n ∧ pcf i - 1 + pcn n i j ≤ (if pcf i ≤ n + 1 then n else pcf i - 1) ∧ 1 ≤ pcf i := by
  have h1 : 1 ≤ pcf i := by unfold pcf; split <;> omega
  unfold pcn
  split
  · split <;> split <;> omega
  · split <;> omega
section
variable {M : pj_M} {Q : Int → pj_M → Prop}
theorem t_layPiece {i j fr : Int} {Q : pj_M → Prop} (s : msc M) (v : dvl (M 204)) (h : isPc (M 204) i j) (hf : fr = 0 ∨ fr = 1) (q : ∀ M', eqp M M' → msc M' → M' 203 14 = fr + pcn (M 204 73) i j → (∀ x, 0 ≤ x → x < pcn (M 204 73) i j → M' 209 (fr + x) = lw (M 204) (pcf i - 1 + x)) → Q M') : w_X12_layPiece 203 i j fr M Q := by
  have hn := v.2.2.1
  have hpc := h
  unfold isPc at hpc
  have hcb := pcn_b (j := j) hn.1 hpc.1
  unfold w_X12_layPiece
  rw [rm_0]
  refine t_max ⟨by decide, by decide⟩ ⟨by omega, by omega⟩ (fun a ha1 ha2 ha3 => t_min ⟨by omega, by omega⟩ ⟨by omega, by omega⟩ (fun b hb1 hb2 hb3 => ?_))
  have haf : a = pcf i := by unfold pcf; split <;> omega
  have hcn : pcn (M 204 73) i j = if a ≤ b then b - a + 1 else 0 := by
    unfold pcn
    rw [← haf]
    by_cases c : a ≤ b
    · rw [if_pos c, if_pos (by omega)]
      split <;> omega
    · rw [if_neg c, if_neg (by omega)]
  rintro M5 rfl
  unfold w_X12_layPiece_31
  refine pj_lp_inv (fun y : Int × pj_M => ∃ k : Nat, y.1 = a + (k : Int) ∧ (k : Int) ≤ pcn (M 204 73) i j ∧ eqp M y.2 ∧ msc y.2 ∧ y.2 204 = M 204 ∧ y.2 203 14 = fr + (k : Int) ∧ ∀ x, 0 ≤ x → x < (k : Int) → y.2 209 (fr + x) = lw (M 204) (pcf i - 1 + x)) (fun y => (a + pcn (M 204 73) i j - y.1).toNat) ?_ (a, _) ⟨0, by show a = a + 0; omega, by show (0 : Int) ≤ _; omega, eqp.up (by unfold mpk; omega), s.up, by show pj_up M 203 14 fr 204 = M 204; exact z204, by show pj_up M 203 14 fr 203 14 = fr + 0; rw [pu_eq]; omega, fun x x1 x2 => by omega⟩
  rintro ⟨_, M2⟩ ⟨k, h1, hk, e2, s2, g2, n2, w2⟩ P hP
  dsimp only at h1 e2 s2 g2 n2 w2 hP ⊢
  subst h1
  unfold w_X12_layPiece_31b
  rw [rm_0, rm_13, n2]
  refine ⟨⟨by omega, by omega⟩, ⟨by omega, by omega⟩, fun hend => ?_, fun hgo => ?_⟩
  · have hkk : (k : Int) = pcn (M 204 73) i j := by
      rw [hcn] at hk ⊢
      split
      · rename_i c; rw [if_pos c] at hk; omega
      · rename_i c; rw [if_neg c] at hk; omega
    rw [← hkk] at q
    exact q M2 e2 s2 n2 w2
  · have hlt : (k : Int) < pcn (M 204 73) i j := by rw [hcn, if_pos (by omega)]; omega
    rintro M8 rfl
    rw [z204, g2]
    refine ⟨⟨by omega, by omega⟩, ⟨by omega, by omega⟩, ?_⟩
    rintro M11 rfl
    have hval : M 204 (74 + (a + (k : Int)) - 1) = lw (M 204) (pcf i - 1 + (k : Int)) := by show _ = M 204 (74 + (pcf i - 1 + (k : Int))); congr 1; omega
    have hb := v.2.2.2.1 (pcf i - 1 + (k : Int)) (by omega) (by omega)
    rw [hval]
    refine hP (a + (k : Int) + 1, _) ⟨k + 1, by show a + (k : Int) + 1 = _; omega, by omega, (e2.tr (eqp.up (by unfold mpk; omega))).tr (eqp.up (by unfold mpk; omega)), ?_, ?_, ?_, fun x x1 x2 => ?_⟩ (by show (a + pcn (M 204 73) i j - (a + (k : Int) + 1)).toNat < (a + pcn (M 204 73) i j - (a + (k : Int))).toNat; omega)
    · have rb : ∀ c, c ≠ 209 → c ≠ 203 → bz M2 c → bz (pj_up (pj_up M2 203 14 (fr + (k : Int) + 1)) 209 (fr + (k : Int)) (lw (M 204) (pcf i - 1 + (k : Int)))) c := fun c h1 h2 hh x => by rw [pu_ne h1, pu_ne h2]; exact hh x
      obtain ⟨a1, a2, a3, a4, a5, a6⟩ := s2
      refine ⟨rb 210 (by decide) (by decide) a1, rb 211 (by decide) (by decide) a2, rb 212 (by decide) (by decide) a3, rb 213 (by decide) (by decide) a4, rb 214 (by decide) (by decide) a5, fun x => ?_⟩
      show 0 ≤ pj_up (pj_up M2 203 14 (fr + (k : Int) + 1)) 209 (fr + (k : Int)) (lw (M 204) (pcf i - 1 + (k : Int))) 209 x ∧ pj_up (pj_up M2 203 14 (fr + (k : Int) + 1)) 209 (fr + (k : Int)) (lw (M 204) (pcf i - 1 + (k : Int))) 209 x ≤ 7
      rw [pu_if]; split
      · exact hb
      · rw [pu_ne (by decide)]; exact a6 x
    · show pj_up (pj_up M2 203 14 (fr + (k : Int) + 1)) 209 (fr + (k : Int)) (lw (M 204) (pcf i - 1 + (k : Int))) 204 = _
      rw [pu_row (by decide), z204]; exact g2
    · show pj_up (pj_up M2 203 14 (fr + (k : Int) + 1)) 209 (fr + (k : Int)) (lw (M 204) (pcf i - 1 + (k : Int))) 203 14 = _
      rw [pu_ne (by decide), pu_eq]; omega
    · show pj_up (pj_up M2 203 14 (fr + (k : Int) + 1)) 209 (fr + (k : Int)) (lw (M 204) (pcf i - 1 + (k : Int))) 209 (fr + x) = _
      by_cases e : x = (k : Int)
      · rw [e, pu_eq]
      · rw [pu_nk (by omega), pu_ne (by decide)]; exact w2 x x1 (by omega)
theorem t_hasRuled {x : Int} (v : dvl (M 204)) (hx : pj_in x) (q : ∀ r, (r = 0 ∨ r = 1) → (r = 1 ↔ isCp (M 204) x) → Q r M) : w_X12_isCapital 203 x M Q := by
  have hn := v.1.1
  unfold w_X12_isCapital
  rw [rm_0]
  refine t_in hx ⟨by decide, by decide⟩ ⟨by decide, by decide⟩ (fun t ht hiff => ⟨in01 ht, fun h => q 0 (Or.inl rfl) ⟨fun h => absurd h (by decide), fun h' => by have := hiff.mpr ⟨h'.1, by have := h'.2.1; omega⟩; omega⟩, fun h => ?_⟩)
  have hxb : 0 ≤ x ∧ x ≤ 5 := hiff.mp (by omega)
  obtain ⟨y, rfl⟩ : ∃ y : Nat, x = (y : Int) := ⟨x.toNat, by omega⟩
  unfold w_X12_ruled w_X12_ruled_4
  refine pj_lp_inv (fun z : Int × Int × pj_M => ∃ R k : Nat, z.1 = (R : Int) ∧ z.2.1 = (k : Int) ∧ R < 64 ∧ (k : Int) ≤ M 204 0 ∧ z.2.2 = M ∧ ∀ b : Nat, R.testBit b = true ↔ ∃ k' : Int, 0 ≤ k' ∧ k' < (k : Int) ∧ M 204 (1 + 6 * k') = (b : Int)) (fun z => (M 204 0 - z.2.1).toNat) ?_ (0, 0, M) ⟨0, 0, rfl, rfl, by decide, by show (0 : Int) ≤ M 204 0; omega, rfl, fun b => ⟨fun h => by simp at h, fun ⟨k', k1, k2, _⟩ => by omega⟩⟩
  rintro ⟨_, _, Mx⟩ ⟨R, k, h1, h2, hR, hk, hM, hb⟩ P hP
  dsimp only at h1 h2 hM hP ⊢
  subst h1 h2
  have hM' := hM.symm
  subst hM'
  have hsh : (((pj_sh 204).2 : Nat) : Int) = 95 := by decide
  unfold w_X12_ruled_4b w_X12_alt
  rw [hsh]
  refine ⟨⟨by decide, by decide⟩, ⟨by omega, by omega⟩, ⟨by omega, by omega⟩, fun hend => ?_, fun hgo => ⟨⟨by omega, by omega⟩, ?_⟩⟩
  · have hkk : (k : Int) = M 204 0 := by omega
    refine t_has (by omega) (by omega) (fun r hr hir => ⟨in01 hr, fun h0 => q 0 (Or.inl rfl) ⟨fun h => absurd h (by decide), fun h' => ?_⟩, fun h1 => q 1 (Or.inr rfl) ⟨fun _ => ?_, fun _ => rfl⟩⟩)
    · have := hir.mpr ((hb y).mpr (by rw [hkk]; exact h'.2.2)); omega
    · have := (hb y).mp (hir.mp (by omega))
      rw [hkk] at this
      exact ⟨by omega, by omega, this⟩
  · have ho := v.1.2.1 (k : Int) (by omega) (by omega)
    obtain ⟨o, ho2⟩ : ∃ o : Nat, M 204 (1 + 6 * (k : Int)) = (o : Int) := ⟨(M 204 (1 + 6 * (k : Int))).toNat, by omega⟩
    have hpow : 2 ^ o < 2 ^ 6 := Nat.pow_lt_pow_right (by decide) (by omega)
    rw [ho2, pb_one (by omega), pb_or (by omega) (by omega)]
    rintro z rfl
    refine hP (_, (k : Int) + 1, M) ⟨R ||| 2 ^ o, k + 1, rfl, by show (k : Int) + 1 = _; omega, Nat.or_lt_two_pow (n := 6) hR hpow, by omega, rfl, fun b => ?_⟩ (by show (M 204 0 - ((k : Int) + 1)).toNat < (M 204 0 - (k : Int)).toNat; omega)
    rw [pb_set, Bool.or_eq_true, decide_eq_true_iff, hb]
    constructor
    · rintro (⟨k', k1, k2, k3⟩ | h)
      · exact ⟨k', k1, by omega, k3⟩
      · exact ⟨(k : Int), by omega, by omega, by rw [ho2]; omega⟩
    · rintro ⟨k', k1, k2, k3⟩
      by_cases e : k' = (k : Int)
      · right; rw [e, ho2] at k3; omega
      · exact Or.inl ⟨k', k1, by omega, k3⟩
theorem m_yields {x sort i j : Int} (s : msc M) (v : dvl (M 204)) (hx : pj_in x) (hs : pj_in sort) (hi : pj_in i) (hj : pj_in j) (q : ∀ r o M', eqm M M' → msc M' → rwm M M' o → s_yields (M 204) x sort i j r o → Q r M') : w_X12_yields 203 x sort i j M Q := by
  have hn := v.2.2.1
  unfold w_X12_yields
  rintro M1 rfl
  have v1 : dvl (pj_up M 203 5 0 204) := by rw [z204]; exact v
  have no : ¬ (0 ≤ sort ∧ sort ≤ 3 ∧ isCp (M 204) x ∧ isPc (M 204) i j ∧ ¬ hasE (M 204) i j) → Q (-1) (pj_up M 203 5 0) := fun h => q (-1) none _ (eqm.p eqp.z) s.up (rwm.p eqp.z) ⟨rfl, fun _ => rfl, fun h' => absurd h' h⟩
  refine t_in hs ⟨by decide, by decide⟩ ⟨by decide, by decide⟩ (fun t ht hiff => ⟨in01 ht, fun h => no (fun h' => by have := hiff.mpr ⟨h'.1, h'.2.1⟩; omega), fun h => ?_⟩)
  have hsb : 0 ≤ sort ∧ sort ≤ 3 := hiff.mp (by omega)
  refine t_hasRuled v1 hx (fun t2 ht2 hi2 => ⟨in01 ht2, fun h => no (fun h' => by rw [z204] at hi2; have := hi2.mpr h'.2.2.1; omega), fun h => ?_⟩)
  rw [z204] at hi2
  have hcp := hi2.mp (by omega)
  refine t_isPieceM v1 hi hj (fun t3 ht3 hi3 => ⟨in01 ht3, fun h => ?_, fun h => no (fun h' => by rw [z204] at hi3; have := hi3.mpr h'.2.2.2.1; omega)⟩)
  rw [z204] at hi3
  have hp := hi3.mp (by omega)
  have hp' := hp
  unfold isPc at hp'
  have go : ¬ hasE (M 204) i j → w_X12_yields_65 203 x sort i j Q (pj_up M 203 5 0) := by
    intro hne
    have all : 0 ≤ sort ∧ sort ≤ 3 ∧ isCp (M 204) x ∧ isPc (M 204) i j ∧ ¬ hasE (M 204) i j := ⟨hsb.1, hsb.2, hcp, hp, hne⟩
    unfold w_X12_yields_65
    refine t_layPiece s.up v1 (by rw [z204]; exact hp) (Or.inl rfl) (fun M2 e2 s2 n2 w2 => ?_)
    rw [z204] at n2 w2
    have ee : eqp M M2 := eqp.z.tr e2
    have e204 : M2 204 = M 204 := ee.at (by omega)
    have hcb := pcn_b (j := j) hn.1 hp'.1
    refine t_layTables s2 (by rw [e204]; exact v.1) n2 ⟨by omega, by omega⟩ (fun M3 e3 e9 mt => ?_)
    have e3204 : M3 204 = M 204 := (e3.at (by omega)).trans e204
    have hxb := hcp.1
    have hxb2 := hcp.2.1
    obtain ⟨y, rfl⟩ : ∃ y : Nat, x = (y : Int) := ⟨x.toNat, by omega⟩
    have tb := mt.2.2.2.2.2 y 0 (0 + pcn (M 204 73) i j) (by omega) (Int.le_refl _) (by omega) (Int.le_refl _)
    have hword : mt_w M3 0 (0 + pcn (M 204 73) i j) = plD (M 204) i j := by
      show sg (M3 209) 0 (0 + pcn (M 204 73) i j) = _
      rw [pl_mid hn.1 hp, if_neg (by unfold hasE at hne; omega), if_neg (by unfold hasE at hne; omega), List.append_nil, List.nil_append]
      unfold pcu
      exact sg_shift (fun x x1 x2 => by rw [e9]; exact w2 x x1 x2)
    rw [e3204, hword] at tb
    have msc3 := mt.2.2.2.2.1
    have ask : ∀ (T : Nat) (S : Prop), (T = 210 ∨ T = 211 ∨ T = 212 ∨ T = 213) → (mt_tb M3 T y 0 (0 + pcn (M 204 73) i j) ↔ S) → (gsort (gr_of (M 204)) 8 sort y (plD (M 204) i j) ↔ S) → w_X12_yields_116 203 (y : Int) T Q M3 := by
      intro T S hT h1 h2
      unfold w_X12_yields_116 w_X12_cell
      rw [show M3 203 14 = 0 + pcn (M 204 73) i j from mt.2.1]
      have hbz : bz M3 T := by rcases hT with e | e | e | e <;> rw [e]; exact msc3.1; exact msc3.2.1; exact msc3.2.2.1; exact msc3.2.2.2.1
      unfold mt_tb at h1
      have hv := hbz (16 * (16 * (y : Int) + 0) + (0 + pcn (M 204 73) i j))
      refine ⟨⟨by omega, by omega⟩, in01 hv, fun h0 => q 0 none M3 (eqm.p (ee.tr e3)) msc3 (rwm.p (ee.tr e3)) ⟨rfl, fun h' => absurd all h', fun _ => Or.inr ⟨rfl, fun hg => ?_⟩⟩, fun hn0 => q 1 none M3 (eqm.p (ee.tr e3)) msc3 (rwm.p (ee.tr e3)) ⟨rfl, fun h' => absurd all h', fun _ => Or.inl ⟨rfl, ?_⟩⟩⟩
      · rw [Int.toNat_natCast] at hg
        have := h1.mpr (h2.mp hg); omega
      · rw [Int.toNat_natCast]
        exact h2.mpr (h1.mp (by omega))
    have sin : pj_in sort := hs
    rw [rm_15, rm_16, rm_17, rm_18]
    refine ⟨sin, fun n0 => ⟨sin, fun n1 => ⟨sin, fun n2' => ask 213 _ (by omega) tb.2.2.2 (by unfold gsort; rw [if_neg n0, if_neg n1, if_neg n2']), fun e2' => ask 212 _ (by omega) tb.2.2.1 (by unfold gsort; rw [if_neg n0, if_neg n1, if_pos e2'])⟩, fun e1 => ask 211 _ (by omega) tb.2.1 (by unfold gsort; rw [if_neg n0, if_pos e1])⟩, fun e0 => ask 210 _ (by omega) tb.1 (by unfold gsort; rw [if_pos e0])⟩
  have mid : ¬ (i = 0 ∧ 0 < j) → w_X12_yields_43 203 x sort i j Q (pj_up M 203 5 0) := by
    intro hni
    unfold w_X12_yields_43
    rw [rm_0, z204]
    refine ⟨hj, ⟨by omega, by omega⟩, fun hne => go (fun he => by unfold hasE at he; omega), fun heq => ⟨hi, hj, fun hle => go (fun he => by unfold hasE at he; omega), fun hgt => no (fun h' => h'.2.2.2.2 ⟨by omega, Or.inr heq⟩)⟩⟩
  exact ⟨hi, fun hne => mid (by omega), fun h0 => ⟨hj, fun hpos => no (fun h' => h'.2.2.2.2 ⟨by omega, Or.inl h0⟩), fun hnp => mid (by omega)⟩⟩
end
