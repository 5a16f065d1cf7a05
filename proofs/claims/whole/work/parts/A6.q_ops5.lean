/-- a chart learns a grammar -/
theorem t_learnD {M : pj_M} {c d : Nat} {D : Int → Int} {Q : pj_M → Prop} (hc : isC c) (s : csc M) (hd : dcell d) (hdc : d + 7 < 115 ∨ 174 < d) (r : drep M d D) (v : dvl D) (q : ∀ M', eqc c M M' → csc M' → clk M' c → M' c 7 = 1 → M' c 8 = 0 → gr_eq (gof M' (c + 1)) (gr_of D) → M' (c + 1) 4 = D 1 → Q M') : w_X0_learn c (d + 1) 0 M Q := by
  have h1 : c = 115 ∨ c = 135 ∨ c = 155 := hc
  exact t_learnC (s.of hc) hd.2.2.2.1 r.1.1 (r.gd v) (by omega) (Or.inl rfl) (fun M' e h7 k h8 g st => q M' e (s.c hc e k h7) k h7 h8 (g.tr (r.gr v)) (st.trans r.1.2.2.2.1))
def alc (D : Int → Int) (x : Int) : Nat → Int
  | 0 => 0
  | m + 1 => alc D x m + (if D (1 + 6 * (m : Int)) = x then 1 else 0)
def s_capital (D : Int → Int) (x what r : Int) (o : Option (List Int)) : Prop := o = none ∧ (¬ (0 ≤ what ∧ what ≤ 7 ∧ isCp D x) → r = -1) ∧ (0 ≤ what ∧ what ≤ 7 ∧ isCp D x → (what = 0 → r = alc D x (D 0).toNat) ∧ (what ≠ 0 → capsp (gr_of D) (D 1).toNat x.toNat what r))
theorem grc_eq {G H : gr_G} (h : gr_eq G H) (st x : Nat) : grc G st x ↔ grc H st x := ⟨h.grc, h.sy.grc⟩
theorem capsp.congr {G H : gr_G} {st x : Nat} {what r : Int} (g : gr_eq G H) (h : capsp G st x what r) : capsp H st x what r := by
  unfold capsp at *
  rw [← g.gd, ← g.wl, ← g.pf, ← g.sf, ← g.if, ← grc_eq g]
  exact h
/-- truths are counted, the first is told -/
noncomputable def scn (S : Nat → Prop) : Nat → Int
  | 0 => 0
  | m + 1 => scn S m + @ite Int (S m) (Classical.propDecidable _) 1 0
theorem scn_s {S : Nat → Prop} {m : Nat} : (S m → scn S (m + 1) = scn S m + 1) ∧ (¬ S m → scn S (m + 1) = scn S m) := by
  constructor
  · intro h
    show scn S m + @ite Int (S m) (Classical.propDecidable _) 1 0 = _
    rw [if_pos h]
  · intro h
    show scn S m + @ite Int (S m) (Classical.propDecidable _) 1 0 = _
    rw [if_neg h]; omega
theorem scn_b {S : Nat → Prop} : ∀ m : Nat, 0 ≤ scn S m ∧ scn S m ≤ (m : Int) ∧ (scn S m = 0 → ∀ k, k < m → ¬ S k)
  | 0 => ⟨Int.le_refl _, Int.le_refl _, fun _ k h => absurd h (Nat.not_lt_zero _)⟩
  | m + 1 => by
    obtain ⟨h1, h2, h3⟩ := scn_b (S := S) m
    by_cases h : S m
    · rw [scn_s.1 h]; exact ⟨by omega, by omega, fun h0 => by omega⟩
    · rw [scn_s.2 h]
      refine ⟨h1, by omega, fun h0 k hk => ?_⟩
      by_cases e : k = m
      · rw [e]; exact h
      · exact h3 h0 k (by omega)
def sfs (S : Nat → Prop) (m : Nat) (w : Nat → List Int) (l : List Int) : Prop := ((∀ k, k < m → ¬ S k) ∧ l = []) ∨ ∃ k, k < m ∧ S k ∧ (∀ k', k' < k → ¬ S k') ∧ l = w k
theorem sfs.uniq {S : Nat → Prop} {m : Nat} {w : Nat → List Int} {l l' : List Int} (h : sfs S m w l) (h' : sfs S m w l') : l = l' := by
  rcases h with ⟨a1, a2⟩ | ⟨i, a1, a2, a3, a4⟩ <;> rcases h' with ⟨b1, b2⟩ | ⟨i', b1, b2, b3, b4⟩
  · rw [a2, b2]
  · exact absurd b2 (a1 i' b1)
  · exact absurd a2 (b1 i a1)
  · have : i = i' := by
      rcases Nat.lt_trichotomy i i' with h | h | h
      · exact absurd a2 (b3 i h)
      · exact h
      · exact absurd b2 (a3 i' h)
    rw [a4, b4, this]
def stD (D : Int → Int) (R n k : Nat) : Prop := gr_y (gr_of D) 8 (D 1).toNat (sg (wdf R k n) 0 (n : Int))
/-- the signs of sentences -/
def sgD (D : Int → Int) (R : Nat) : Prop := R < 256 ∧ ∀ t, R.testBit t = true ↔ gr_if (gr_of D) 8 (D 1).toNat [t]
theorem sgD.uniq {D : Int → Int} {R R' : Nat} (h : sgD D R) (h' : sgD D R') : R = R' := bits_eq (n := 8) h.1 h'.1 (fun s _ => (h.2 s).trans (h'.2 s).symm)
def s_sentences (D : Int → Int) (n r : Int) (o : Option (List Int)) : Prop := (¬ (0 ≤ n ∧ n ≤ 5) → r = -1 ∧ o = none) ∧ (0 ≤ n ∧ n ≤ 5 → ∃ R, sgD D R ∧ (1000 < (bcn R 8) ^ n.toNat → r = -2 ∧ o = none) ∧ ((bcn R 8) ^ n.toNat ≤ 1000 → r = scn (stD D R n.toNat) ((bcn R 8) ^ n.toNat) ∧ ∃ l, o = some l ∧ sfs (stD D R n.toNat) ((bcn R 8) ^ n.toNat) (fun k => wls (wdf R k n.toNat) n.toNat) l))
theorem s_sentences.uniq {D : Int → Int} {n r r' : Int} {o o' : Option (List Int)} (h : s_sentences D n r o) (h' : s_sentences D n r' o') : r = r' ∧ o = o' := by
  by_cases hn : 0 ≤ n ∧ n ≤ 5
  · obtain ⟨R, a1, a2, a3⟩ := h.2 hn
    obtain ⟨R', b1, b2, b3⟩ := h'.2 hn
    have e := a1.uniq b1
    subst e
    by_cases hc : 1000 < (bcn R 8) ^ n.toNat
    · obtain ⟨x1, x2⟩ := a2 hc
      obtain ⟨y1, y2⟩ := b2 hc
      exact ⟨x1.trans y1.symm, x2.trans y2.symm⟩
    · obtain ⟨x1, l, x2, x3⟩ := a3 (by omega)
      obtain ⟨y1, l', y2, y3⟩ := b3 (by omega)
      exact ⟨x1.trans y1.symm, by rw [x2, y2, x3.uniq y3]⟩
  · obtain ⟨x1, x2⟩ := h.1 hn
    obtain ⟨y1, y2⟩ := h'.1 hn
    exact ⟨x1.trans y1.symm, x2.trans y2.symm⟩
/-- the first word that two grammars see differently -/
def dif (D E : Int → Int) (R n k : Nat) : Prop := ¬ (stD D R n k ↔ stD E R n k)
def s_apart (kept : Int) (D E : Int → Int) (i n r : Int) (o : Option (List Int)) : Prop :=
  (¬ (0 ≤ i ∧ i < 2 ∧ 0 ≤ n ∧ n ≤ 5) → r = -1 ∧ o = none) ∧ (0 ≤ i ∧ i < 2 ∧ 0 ≤ n ∧ n ≤ 5 → (kept = 0 → r = -3 ∧ o = none) ∧ (kept ≠ 0 → ∃ R, (R < 256 ∧ ∀ t, R.testBit t = true ↔ (gr_if (gr_of D) 8 (D 1).toNat [t] ∨ gr_if (gr_of E) 8 (E 1).toNat [t])) ∧ (1000 < (bcn R 8) ^ n.toNat → r = -4 ∧ o = none) ∧ ((bcn R 8) ^ n.toNat ≤ 1000 →
    (r = -2 ∧ o = none ∧ ∀ m k : Nat, (m : Int) ≤ n → k < (bcn R 8) ^ m → ¬ dif D E R m k) ∨ ∃ m k : Nat, r = (m : Int) ∧ (m : Int) ≤ n ∧ k < (bcn R 8) ^ m ∧ dif D E R m k ∧ (∀ k', k' < k → ¬ dif D E R m k') ∧ (∀ m' k' : Nat, m' < m → k' < (bcn R 8) ^ m' → ¬ dif D E R m' k') ∧ ∃ b, tru (stD D R m k) b ∧ o = some (wls (wdf R k m) m ++ [b]))))
theorem s_apart.uniq {kept : Int} {D E : Int → Int} {i n r r' : Int} {o o' : Option (List Int)} (h : s_apart kept D E i n r o) (h' : s_apart kept D E i n r' o') : r = r' ∧ o = o' := by
  by_cases hn : 0 ≤ i ∧ i < 2 ∧ 0 ≤ n ∧ n ≤ 5
  · by_cases hk : kept = 0
    · obtain ⟨x1, x2⟩ := (h.2 hn).1 hk
      obtain ⟨y1, y2⟩ := (h'.2 hn).1 hk
      exact ⟨x1.trans y1.symm, x2.trans y2.symm⟩
    · obtain ⟨R, a1, a2, a3⟩ := (h.2 hn).2 hk
      obtain ⟨R', b1, b2, b3⟩ := (h'.2 hn).2 hk
      have e : R = R' := bits_eq (n := 8) a1.1 b1.1 (fun s _ => (a1.2 s).trans (b1.2 s).symm)
      subst e
      by_cases hc : 1000 < (bcn R 8) ^ n.toNat
      · obtain ⟨x1, x2⟩ := a2 hc
        obtain ⟨y1, y2⟩ := b2 hc
        exact ⟨x1.trans y1.symm, x2.trans y2.symm⟩
      · rcases a3 (by omega) with ⟨x1, x2, x3⟩ | ⟨m, k, x1, x2, x3, x4, x5, x6, b, x7, x8⟩ <;> rcases b3 (by omega) with ⟨y1, y2, y3⟩ | ⟨m', k', y1, y2, y3, y4, y5, y6, b', y7, y8⟩
        · exact ⟨x1.trans y1.symm, x2.trans y2.symm⟩
        · exact absurd y4 (x3 m' k' y2 y3)
        · exact absurd x4 (y3 m k x2 x3)
        · have em : m = m' := by
            rcases Nat.lt_trichotomy m m' with h | h | h
            · exact absurd x4 (y6 m k h x3)
            · exact h
            · exact absurd y4 (x6 m' k' h y3)
          subst em
          have ek : k = k' := by
            rcases Nat.lt_trichotomy k k' with h | h | h
            · exact absurd x4 (y5 k h)
            · exact h
            · exact absurd y4 (x5 k' h)
          subst ek
          have eb := x7.uniq y7
          subst eb
          exact ⟨x1.trans y1.symm, x8.trans y8.symm⟩
  · obtain ⟨x1, x2⟩ := h.1 hn
    obtain ⟨y1, y2⟩ := h'.1 hn
    exact ⟨x1.trans y1.symm, x2.trans y2.symm⟩
section
variable {M : pj_M} {D : Int → Int} {Q : Int → pj_M → Prop}
theorem o_capital {x what : Int} (s : csc M) (r : drep M 13 D) (v : dvl D) (hx : pj_in x) (hw : pj_in what) (q : ∀ r o M', eqq M M' → csc M' → rwo M M' o → s_capital D x what r o → Q r M') : w_X11_capital 0 x what M Q := by
  have hn := v.1.1
  have no : ¬ (0 ≤ what ∧ what ≤ 7 ∧ isCp D x) → Q (-1) M := fun h => q (-1) none M eqq.rf s ⟨rfl, rfl⟩ ⟨rfl, fun _ => rfl, fun h' => absurd h' h⟩
  unfold w_X11_capital
  rw [rc_2, rk_0, rc_8]
  refine ⟨hw, fun h => no (fun h' => by have := h'.1; omega), fun h0 => ⟨hw, fun h => no (fun h' => by have := h'.2.1; omega), fun h7 => t_hasG r.1.2.2.2.2 hx (fun t ht hiff => ⟨in01 ht, fun h => ?_, fun h => no (fun h' => by have := hiff.mpr h'.2.2; omega)⟩)⟩⟩
  have hcp : isCp D x := hiff.mp (by omega)
  have all : 0 ≤ what ∧ what ≤ 7 ∧ isCp D x := ⟨by omega, by omega, hcp⟩
  refine t_learnD (c := 115) (d := 13) (Or.inl rfl) s dcell_13 (by decide) r v (fun M1 e1 s1 k1 _ h8 g st => ⟨hw, fun hne => ?_, fun h0' => ?_⟩)
  · have pc := post_c s e1
    obtain ⟨y, rfl⟩ : ∃ y : Nat, x = (y : Int) := ⟨x.toNat, by have := hcp.1; omega⟩
    rw [cr_1 (show isC 115 from Or.inl rfl)]
    refine t_tell (b := 116) (Or.inr (Or.inl rfl)) k1.2.2.2.1 (by have := hcp.2.1; omega) ⟨by omega, by omega⟩ (fun res hres => q res none M1 pc.1 s1 pc.2 ⟨rfl, fun h => absurd all h, fun _ => ⟨fun h => absurd h hne, fun _ => ?_⟩⟩)
    have : (M1 116 4).toNat = (D 1).toNat := by rw [show M1 116 4 = D 1 from st]
    rw [this] at hres
    rw [Int.toNat_natCast]
    exact hres.congr g
  · have pc := post_c s e1
    have r1 : drep M1 13 D := r.eq (fun a a1 a2 => e1.row (by omega))
    have h3 : M1 14 3 = D 0 := r1.1.2.1
    have hc0 := hcp.1
    have hc6 := hcp.2.1
    unfold w_X4_alternativesOf w_X4_alternativesOf_4
    refine pj_lp_inv (fun y : Int × Int × pj_M => ∃ k : Nat, y.2.1 = (k : Int) ∧ (k : Int) ≤ D 0 ∧ y.1 = alc D x k ∧ y.2.2 = M1) (fun y => (D 0 - y.2.1).toNat) ?_ (0, 0, M1) ⟨0, rfl, by show (0 : Int) ≤ D 0; omega, rfl, rfl⟩
    rintro ⟨a, _, Mx⟩ ⟨k, h1, hk, h2, hMx⟩ P hP
    dsimp only at h1 h2 hMx hP ⊢
    subst h1 h2
    have hMx' := hMx.symm
    subst hMx'
    unfold w_X4_alternativesOf_4b
    rw [h3, dcell_13.2.2.2.1.1]
    refine ⟨⟨by omega, by omega⟩, ⟨by omega, by omega⟩, fun hend => ?_, fun hgo => ?_⟩
    · refine q _ none M1 pc.1 s1 pc.2 ⟨rfl, fun h => absurd all h, fun _ => ⟨fun _ => ?_, fun h => absurd h0' h⟩⟩
      rw [show (D 0).toNat = k by omega]
    · have ho := (r1.1.2.2.1 (k : Int) (by omega) (by omega)).1
      have hob := v.1.2.1 (k : Int) (by omega) (by omega)
      rw [show M1 (13 + 1 + 1) (k : Int) = D (1 + 6 * (k : Int)) from ho]
      have hstep : alc D x (k + 1) = alc D x k + (if D (1 + 6 * (k : Int)) = x then 1 else 0) := rfl
      refine ⟨⟨by omega, by omega⟩, ⟨by omega, by omega⟩, ⟨by omega, by omega⟩, fun hne => ?_, fun heq => ?_⟩
      · exact hP (alc D x k, (k : Int) + 1, M1) ⟨k + 1, by show (k : Int) + 1 = _; omega, by omega, by show alc D x k = _; rw [hstep, if_neg hne]; omega, rfl⟩ (by show (D 0 - ((k : Int) + 1)).toNat < (D 0 - (k : Int)).toNat; omega)
      · exact hP (alc D x k + 1, (k : Int) + 1, M1) ⟨k + 1, by show (k : Int) + 1 = _; omega, by omega, by show alc D x k + 1 = _; rw [hstep, if_pos heq], rfl⟩ (by show (D 0 - ((k : Int) + 1)).toNat < (D 0 - (k : Int)).toNat; omega)
/-- a chart that knows a grammar, while words are tried -/
def knw (M : pj_M) (c : Nat) (D : Int → Int) : Prop := clk M c ∧ M c 7 = 1 ∧ M c 8 = 0 ∧ gr_eq (gof M (c + 1)) (gr_of D) ∧ M (c + 1) 4 = D 1
theorem knw.eq {M M' : pj_M} {c : Nat} {D : Int → Int} (h : knw M c D) (e : ∀ a, c ≤ a → a ≤ c + 19 → M' a = M a) : knw M' c D := by
  obtain ⟨h1, h2, h3, h4, h5⟩ := h
  exact ⟨h1.eqr e, by rw [e c (by omega) (by omega)]; exact h2, by rw [e c (by omega) (by omega)]; exact h3, by rw [gof.eq (fun a a1 a2 => e a (by omega) (by omega))]; exact h4, by rw [e (c + 1) (by omega) (by omega)]; exact h5⟩
theorem t_isSt {M : pj_M} {c R n k : Nat} {E : Int → Int} {Q : Int → pj_M → Prop} (s : csc M) (kn : knw M c E) (hn : n ≤ 5) (hw : leq (n : Int) (M 185) (wdf R k n)) (q : ∀ r M', (r = 0 ∨ r = 1) → eqc c M M' → csc M' → knw M' c E → (r = 1 ↔ stD E R n k) → Q r M') : w_X0_isSentence c 183 (n : Int) M Q := by
  obtain ⟨h1, h2, h3, h4, h5⟩ := kn
  refine t_isSentence h1 h3 ⟨by omega, by omega⟩ (fun x x1 x2 => ?_) (fun r M' hr e k' hiff => ?_)
  · rw [hw x x1 x2]; unfold wdf; have := ltf_8 (R := R) (k := (k / bcn R 8 ^ (n - 1 - x.toNat)) % bcn R 8); omega
  · have e7 : M' c 7 = 1 := by rw [e.c (by decide) (by decide)]; exact h2
    refine q r M' hr (eqc.d e) (s.c h1.2.1.1.1 (eqc.d e) k' e7) ⟨k', e7, by rw [e.c (by decide) (by decide)]; exact h3, by rw [gof.eq (fun a a1 a2 => e.row (by omega) (by omega))]; exact h4, by rw [e.row (show c + 1 < c + 14 ∨ _ by omega) (by omega)]; exact h5⟩ ?_
    rw [hiff, h4.y, h5, sg_congr hw]
    exact Iff.rfl
theorem t_signsD {M : pj_M} {c : Nat} {E : Int → Int} {Q : Int → pj_M → Prop} (kn : knw M c E) (q : ∀ R : Nat, sgD E R → Q (R : Int) M) : w_X0_signsOfSentences c M Q := by
  obtain ⟨h1, h2, h3, h4, h5⟩ := kn
  refine t_signsOfSentences h1 (fun R hR hb => q R ⟨hR, fun t => ?_⟩)
  rw [hb t, h4.if, h5]
theorem o_sentences {n : Int} (s : csc M) (r : drep M 13 D) (v : dvl D) (hn : pj_in n) (q : ∀ r o M', eqq M M' → csc M' → rwo M M' o → s_sentences D n r o → Q r M') : w_X11_sentences 0 n M Q := by
  have no : ¬ (0 ≤ n ∧ n ≤ 5) → Q (-1) M := fun h => q (-1) none M eqq.rf s ⟨rfl, rfl⟩ ⟨fun _ => ⟨rfl, rfl⟩, fun h' => absurd h' h⟩
  unfold w_X11_sentences
  rw [rc_2, rk_0, rc_9, rc_13]
  refine ⟨hn, fun h => no (by omega), fun h0 => ⟨hn, fun h5 => ?_, fun h => no (by omega)⟩⟩
  have hnn : 0 ≤ n ∧ n ≤ 5 := by omega
  obtain ⟨m, rfl⟩ : ∃ m : Nat, n = (m : Int) := ⟨n.toNat, by omega⟩
  refine t_learnD (c := 135) (d := 13) (Or.inr (Or.inl rfl)) s dcell_13 (by decide) r v (fun M1 e1 s1 k1 h7 h8 g st => t_signsD ⟨k1, h7, h8, g, st⟩ (fun R hR => t_useLetters hR.1 (fun M2 e2 a2 => t_howMany a2 (by omega) ?_)))
  have hpb := pw_b (bcn_le R 8) (show m ≤ 5 by omega)
  have hm : ((m : Int)).toNat = m := by omega
  have s2 : csc M2 := s1.eq (fun a ha => e2.row (by omega))
  have kn2 : knw M2 135 D := knw.eq ⟨k1, h7, h8, g, st⟩ (fun a a1 a2 => e2.row (by omega))
  have q2 : eqq M M2 := (eqq.c (Or.inr (Or.inl rfl)) e1).tr (eqq.w e2)
  refine ⟨⟨by omega, by omega⟩, fun hle => ?_, fun hgt => ?_⟩
  · have z183 : pj_up M2 0 15 0 183 = M2 183 := pu_row (by decide)
    have z184 : pj_up M2 0 15 0 184 = M2 184 := pu_row (by decide)
    rintro M3 rfl
    unfold w_X11_sentences_69
    refine pj_lp_inv (fun y : Int × Int × pj_M => ∃ (k : Nat) (l : List Int), y.2.1 = (k : Int) ∧ k ≤ (bcn R 8) ^ m ∧ y.1 = scn (stD D R m) k ∧ eqq M y.2.2 ∧ csc y.2.2 ∧ knw y.2.2 135 D ∧ alp y.2.2 R ∧ rws y.2.2 l ∧ sfs (stD D R m) k (fun k => wls (wdf R k m) m) l) (fun y => ((((bcn R 8) ^ m : Nat) : Int) - y.2.1).toNat) ?_ (0, 0, _) ⟨0, [], rfl, Nat.zero_le _, rfl, q2.tr (eqq.o eqo.z), s2.o eqo.z, kn2.eq (fun a a1 a2 => pu_row (by omega)), a2.eq z183 z184, rws.nil, Or.inl ⟨fun k h => absurd h (Nat.not_lt_zero _), rfl⟩⟩
    rintro ⟨c, _, M3⟩ ⟨k, l, h1, hk, hc, e3, s3, kn3, a3, rw3, fs3⟩ P hP
    dsimp only at h1 hc e3 s3 kn3 a3 rw3 hP ⊢
    subst h1 hc
    have hsb := scn_b (S := stD D R m) k
    unfold w_X11_sentences_69b
    rw [rc_13, rc_9]
    refine ⟨⟨by omega, by omega⟩, ⟨by omega, by omega⟩, fun hend => ?_, fun hgo => t_spell a3 (by omega) (by omega) (fun M4 e4 a4 w4 => t_isSt (R := R) (k := k) (s3.eq (fun a ha => e4.row (by omega))) (kn3.eq (fun a a1 a2 => e4.row (by omega))) (by omega) w4 (fun t M5 ht e5 s5 kn5 hiff => ?_))⟩
    · have : k = (bcn R 8) ^ m := by omega
      subst this
      exact q _ (some l) M3 e3 s3 rw3 ⟨fun h => absurd hnn h, fun _ => ⟨R, hR, fun h => by rw [hm] at h; omega, fun _ => by rw [hm]; exact ⟨rfl, l, rfl, fs3⟩⟩⟩
    · have q5 : eqq M M5 := (e3.tr (eqq.w e4)).tr (eqq.c (Or.inr (Or.inl rfl)) e5)
      have a5 : alp M5 R := a4.eq (e5.row (by decide)) (e5.row (by decide))
      have r5 : rws M5 l := by
        refine ⟨?_, rw3.2.1, fun j x hj => ?_⟩
        · rw [e5.row (show (0 : Nat) < 135 ∨ _ by decide), e4.row (by decide)]; exact rw3.1
        · rw [e5.row (show (186 : Nat) < 135 ∨ 135 + 19 < 186 by decide), e4.row (by decide)]; exact rw3.2.2 j x hj
      refine ⟨in01 ht, fun h0 => ?_, fun h0 => ⟨⟨by omega, by omega⟩, fun hne => ?_, fun hz => ?_⟩⟩
      · have nS : ¬ stD D R m k := fun h => by have := hiff.mpr h; omega
        refine hP (scn (stD D R m) k, (k : Int) + 1, M5) ⟨k + 1, l, by show (k : Int) + 1 = _; omega, by omega, by show scn _ k = _; rw [scn_s.2 nS], q5, s5, kn5, a5, r5, ?_⟩ (by show ((((bcn R 8) ^ m : Nat) : Int) - ((k : Int) + 1)).toNat < ((((bcn R 8) ^ m : Nat) : Int) - (k : Int)).toNat; omega)
        rcases fs3 with ⟨b1, b2⟩ | ⟨j, b1, b2, b3, b4⟩
        · refine Or.inl ⟨fun j hj => ?_, b2⟩
          by_cases e : j = k
          · rw [e]; exact nS
          · exact b1 j (by omega)
        · exact Or.inr ⟨j, by omega, b2, b3, b4⟩
      · have yS : stD D R m k := hiff.mp (by omega)
        unfold w_X11_sentences_109
        refine hP (scn (stD D R m) k + 1, (k : Int) + 1, M5) ⟨k + 1, l, by show (k : Int) + 1 = _; omega, by omega, by show scn _ k + 1 = _; rw [scn_s.1 yS], q5, s5, kn5, a5, r5, ?_⟩ (by show ((((bcn R 8) ^ m : Nat) : Int) - ((k : Int) + 1)).toNat < ((((bcn R 8) ^ m : Nat) : Int) - (k : Int)).toNat; omega)
        rcases fs3 with ⟨b1, b2⟩ | ⟨j, b1, b2, b3, b4⟩
        · exfalso
          apply hne
          have hall : ∀ j : Nat, j ≤ k → scn (stD D R m) j = 0 := by
            intro j
            induction j with
            | zero => intro _; rfl
            | succ j ih => intro hj; rw [scn_s.2 (b1 j (by omega))]; exact ih (by omega)
          exact hall k (Nat.le_refl _)
        · exact Or.inr ⟨j, by omega, b2, b3, b4⟩
      · have yS : stD D R m k := hiff.mp (by omega)
        have hnone := hsb.2.2 hz
        have hl0 : l = [] := by
          rcases fs3 with ⟨b1, b2⟩ | ⟨j, b1, b2, b3, b4⟩
          · exact b2
          · exact absurd b2 (hnone j b1)
        subst hl0
        have w5 : leq (m : Int) (M5 185) (wdf R k m) := fun p p1 p2 => by rw [e5.row (show (185 : Nat) < 135 ∨ 135 + 19 < 185 by decide)]; exact w4 p p1 p2
        refine t_tellWord r5 (by omega) (by show 0 + m ≤ 39; omega) (fun p p1 p2 => ?_) (fun M6 e6 r6 => ?_)
        · rw [w5 p p1 p2]; unfold wdf; have := ltf_8 (R := R) (k := (k / bcn R 8 ^ (m - 1 - p.toNat)) % bcn R 8); exact ⟨by omega, by omega⟩
        · unfold w_X11_sentences_109
          refine hP (scn (stD D R m) k + 1, (k : Int) + 1, M6) ⟨k + 1, wls (M5 185) m, by show (k : Int) + 1 = _; omega, by omega, by show scn _ k + 1 = _; rw [scn_s.1 yS], q5.tr (eqq.o e6), s5.o e6, kn5.eq (fun a a1 a2 => e6.row (by omega) (by omega)), a5.eq (e6.row (by decide) (by decide)) (e6.row (by decide) (by decide)), r6, Or.inr ⟨k, by omega, yS, hnone, ?_⟩⟩ (by show ((((bcn R 8) ^ m : Nat) : Int) - ((k : Int) + 1)).toNat < ((((bcn R 8) ^ m : Nat) : Int) - (k : Int)).toNat; omega)
          exact wls_congr w5
  · refine q (-2) none M2 q2 s2 ⟨?_, ?_⟩ ⟨fun h => absurd hnn h, fun _ => ⟨R, hR, fun _ => ⟨rfl, rfl⟩, fun h => by rw [hm] at h; omega⟩⟩
    · rw [e2.row (by decide), e1.row (by decide)]
    · rw [e2.row (by decide), e1.row (by decide)]
end
