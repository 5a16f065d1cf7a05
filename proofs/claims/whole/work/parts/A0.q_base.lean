def jb1 (x : Int) : Int := x - pj_and (pj_ushr x 1) 1431655765
def jb2 (x : Int) : Int := pj_and (jb1 x) 858993459 + pj_and (pj_ushr (jb1 x) 2) 858993459
def jb3 (x : Int) : Int := pj_and (jb2 x + pj_ushr (jb2 x) 4) 252645135
def jb4 (x : Int) : Int := jb3 x + pj_ushr (jb3 x) 8
def jb5 (x : Int) : Int := jb4 x + pj_ushr (jb4 x) 16
theorem jb_512 : ∀ R : Nat, R < 512 → pj_and (jb5 (R : Int)) 63 = (bcn R 9 : Int) := by decide +kernel
theorem t_bits {M : pj_M} {R : Nat} {Q : Int → pj_M → Prop} (h : R < 512) (q : Q (bcn R 9 : Int) M) : w_Jbits (R : Int) M Q := by
  unfold w_Jbits
  rintro z1 rfl z2 rfl z3 rfl z4 rfl z5 rfl
  rw [← jb_512 R h] at q
  exact q
/-- numbers that were told -/
def rws (M : pj_M) (l : List Int) : Prop := M 0 15 = (l.length : Int) ∧ l.length ≤ 40 ∧ ∀ (k : Nat) (x : Int), l[k]? = some x → M 186 (k : Int) = x
/-- a question leaves all but what is reckoned with, and the numbers told -/
def kpq (a : Nat) (x : Int) : Prop := (a < 29 ∧ ¬ (a = 0 ∧ x = 15)) ∨ (31 ≤ a ∧ a ≤ 114) ∨ 187 ≤ a
def eqq (M M' : pj_M) : Prop := ∀ a x, kpq a x → M' a x = M a x
theorem eqq.rf {M : pj_M} : eqq M M := fun _ _ _ => rfl
theorem eqq.tr {M M1 M2 : pj_M} (h : eqq M M1) (h2 : eqq M1 M2) : eqq M M2 := fun a x h3 => (h2 a x h3).trans (h a x h3)
theorem eqq.row {M M' : pj_M} {a : Nat} (h : eqq M M') (h2 : (0 < a ∧ a < 29) ∨ (31 ≤ a ∧ a ≤ 114) ∨ 187 ≤ a) : M' a = M a := funext fun x => h a x (by unfold kpq; omega)
theorem eqq.c {M M' : pj_M} {c : Nat} (hc : isC c) (h : eqc c M M') : eqq M M' := fun a x h3 => h a x (by unfold kpq at h3; have : c = 115 ∨ c = 135 ∨ c = 155 := hc; omega)
theorem eqq.r {M M' : pj_M} (h : eqr M M') : eqq M M' := fun a x h3 => h a x (by unfold kpq at h3; omega)
theorem eqq.n {M M' : pj_M} (h : eqn M M') : eqq M M' := fun a x h3 => h a x (by unfold kpq at h3; omega) (by unfold kpq at h3; omega)
theorem eqq.l {M M' : pj_M} (h : eql 29 M M') : eqq M M' := fun a x h3 => h a x (by unfold kpq at h3; omega)
/-- what is reckoned with -/
def csc (M : pj_M) : Prop := cinv M 115 ∧ cinv M 135 ∧ cinv M 155 ∧ ∀ x, 0 ≤ M 30 x ∧ M 30 x ≤ 7
theorem cinv.eq {M M' : pj_M} {c : Nat} (h : cinv M c) (e : ∀ a, c ≤ a → a ≤ c + 19 → M' a = M a) : cinv M' c := by
  obtain ⟨h1, h2, h3, h4⟩ := h
  have hx : ∀ k, k ≤ 19 → M' (c + k) = M (c + k) := fun k hk => e (c + k) (by omega) (by omega)
  have e0 : M' c = M c := hx 0 (by omega)
  refine ⟨h1, ?_, h3.eq (fun a a1 a2 => e a (by omega) (by omega)), ?_⟩
  · unfold cw csan bs18 be18 at *
    rw [hx 10 (by omega), hx 11 (by omega), hx 12 (by omega), hx 13 (by omega), hx 14 (by omega), hx 15 (by omega), hx 16 (by omega), hx 17 (by omega), hx 18 (by omega), hx 19 (by omega)]
    exact h2
  · rw [e0]
    rcases h4 with h4 | ⟨h4, h5⟩
    · exact Or.inl h4
    · exact Or.inr ⟨h4, h5.eqr e⟩
theorem clk.inv {M : pj_M} {c : Nat} (h : clk M c) (h7 : M c 7 = 1) : cinv M c := ⟨h.2.1.1.1, h.2.1.w, h.2.2.1.w, Or.inr ⟨h7, h⟩⟩
theorem csc.eq {M M' : pj_M} (h : csc M) (e : ∀ a, (115 ≤ a ∧ a ≤ 174) ∨ a = 30 → M' a = M a) : csc M' :=
  ⟨h.1.eq (fun a a1 a2 => e a (by omega)), h.2.1.eq (fun a a1 a2 => e a (by omega)), h.2.2.1.eq (fun a a1 a2 => e a (by omega)), by rw [e 30 (by omega)]; exact h.2.2.2⟩
theorem csc.c {M M' : pj_M} {c : Nat} (h : csc M) (hc : isC c) (e : eqc c M M') (k : clk M' c) (h7 : M' c 7 = 1) : csc M' := by
  have hi := k.inv h7
  have ho : ∀ c', isC c' → c' ≠ c → cinv M c' → cinv M' c' := fun c' hc' hne h' => h'.eq (fun a a1 a2 => e.row (by
    have h1 : c = 115 ∨ c = 135 ∨ c = 155 := hc
    have h2 : c' = 115 ∨ c' = 135 ∨ c' = 155 := hc'
    omega))
  have hall : ∀ c', isC c' → cinv M c' → cinv M' c' := fun c' hc' h' => by
    by_cases e' : c' = c
    · rw [e']; exact hi
    · exact ho c' hc' e' h'
  exact ⟨hall 115 (Or.inl rfl) h.1, hall 135 (Or.inr (Or.inl rfl)) h.2.1, hall 155 (Or.inr (Or.inr rfl)) h.2.2.1, by rw [e.row (by have h1 : c = 115 ∨ c = 135 ∨ c = 155 := hc; omega)]; exact h.2.2.2⟩
theorem csc.of {M : pj_M} {c : Nat} (h : csc M) (hc : isC c) : cinv M c := by
  rcases hc with rfl | rfl | rfl
  · exact h.1
  · exact h.2.1
  · exact h.2.2.1
theorem fr_in_eq {G H : gr_G} (h : gr_eq G H) (st : Nat) (u : List Nat) : fr_in G st u ↔ fr_in H st u := by unfold fr_in; rw [h.y]
theorem pfit_congr {G H : gr_G} {st : Nat} {w w' : Int → Int} {n i j : Int} (h : gr_eq G H) (hw : leq n w w') (hi : 0 ≤ i) (hj : j ≤ n + 2) : pfit G st w n i j ↔ pfit H st w' n i j := by
  unfold pfit
  have : sg (fr_w w n) i j = sg (fr_w w' n) i j := sg_congr (fun p p1 p2 => by
    unfold fr_w
    by_cases a : p = 0
    · rw [if_pos a, if_pos a]
    · rw [if_neg a, if_neg a]
      by_cases b : p = n + 1
      · rw [if_pos b, if_pos b]
      · rw [if_neg b, if_neg b]; exact hw (p - 1) (by omega) (by omega))
  rw [this]
  exact fr_in_eq h st _
theorem cft.congr {M : pj_M} {c : Nat} {n2 : Int} {F F' : Int → Int → Prop} (h : cft M c n2 F) (e : ∀ i j, 0 ≤ i → i ≤ j → j ≤ n2 → (F i j ↔ F' i j)) (m : fmn n2 F') : cft M c n2 F' :=
  ⟨h.1, h.2.1, h.2.2.1, h.2.2.2.1, m, fun i j h1 h2 h3 => (h.2.2.2.2.2 i j h1 h2 h3).trans (e i j h1 h2 h3)⟩
/-- a chart reads a line -/
theorem t_readD {M : pj_M} {c l : Nat} {D w : Int → Int} {n t : Int} {Q : pj_M → Prop} (hc : isC c) (s : csc M) (r : drep M 13 D) (v : dvl D) (hl : l = 18 ∨ l = 29) (vl : lvl M l) (hn : M l 1 = n) (hw : leq n (M (l + 1)) w) (ht : t = 0 ∨ t = 1)
    (q : ∀ M', eqc c M M' → csc M' → crd M' c t (M (l + 1)) n → gr_eq (gof M' (c + 1)) (gr_of D) → M' (c + 1) 4 = D 1 → (t = 0 → cft M' c (n + 2) (pfit (gr_of D) (D 1).toNat w n)) → (t = 1 → cft M' c (n + 2) (fun i j => pfit (gr_of D) (D 1).toNat w n (n + 2 - j) (n + 2 - i))) → Q M') : w_X0_read c 14 l t M Q := by
  have h1 : c = 115 ∨ c = 135 ∨ c = 155 := hc
  have hlc : lcell l := by rcases hl with h | h <;> rw [h] <;> unfold lcell <;> decide
  subst hn
  refine t_readC (s.of hc) dcell_13.2.2.2.1 r.1.1 (r.gd v) (by omega) hlc vl (by omega) ht (fun M' e rd g st => ?_)
  have ge : gr_eq (gof M' (c + 1)) (gr_of D) := g.tr (r.gr v)
  have st' : M' (c + 1) 4 = D 1 := st.trans r.1.2.2.2.1
  refine q M' e (s.c hc e rd.1 rd.2.1) rd ge st' (fun h0 => ?_) (fun h0 => ?_)
  · subst h0
    refine (rd.ft vl.1).congr (fun i j i1 i2 i3 => ?_) (pfit_mn v.2.1)
    rw [st']
    exact pfit_congr ge hw i1 i3
  · subst h0
    refine (rd.ft1 vl.1).congr (fun i j i1 i2 i3 => ?_) ⟨fun i i1 i2 => pfit_nil v.2.1, fun i j i' j' i0 i1 i2 i3 _ hf => pfit_sub hf (by omega) (by omega) (by omega)⟩
    rw [st']
    exact pfit_congr ge hw (by omega) (by omega)
theorem t_lineRead {M : pj_M} {D : Int → Int} {Q : Nat → pj_M → Prop} (s : csc M) (r : drep M 13 D) (v : dvl D)
    (q : ∀ M', eqc 115 M M' → csc M' → crd M' 115 0 (M 19) (D 73) → gr_eq (gof M' 116) (gr_of D) → M' 116 4 = D 1 → cft M' 115 (D 73 + 2) (FD D) → Q 115 M') : w_X11_lineRead 0 M Q := by
  unfold w_X11_lineRead
  rw [rc_8, rc_2, rk_0, rk_1]
  exact t_readD (Or.inl rfl) s r v (Or.inl rfl) r.2.1.1 r.2.1.2.1 r.2.1.2.2 (Or.inl rfl) (fun M' e s' rd g st f _ => q M' e s' rd g st (f rfl))
theorem t_isPiece {M : pj_M} {i j n : Int} {Q : Int → pj_M → Prop} (hn : M 18 1 = n) (hb : 0 ≤ n ∧ n ≤ 14) (hi : pj_in i) (hj : pj_in j) (q : ∀ r, (r = 0 ∨ r = 1) → (r = 1 ↔ 0 ≤ i ∧ i ≤ j ∧ j ≤ n + 2) → Q r M) : w_X11_isPiece 0 i j M Q := by
  unfold w_X11_isPiece
  rw [rc_2, rk_1, hn]
  exact ⟨hi, fun h => q 0 (Or.inl rfl) (by omega), fun h => ⟨hi, hj, fun h' => q 0 (Or.inl rfl) (by omega), fun h' => ⟨hj, ⟨by omega, by omega⟩, fun h2 => q 0 (Or.inl rfl) (by omega), fun h2 => q 1 (Or.inr rfl) (by omega)⟩⟩⟩
theorem in01 {r : Int} (h : r = 0 ∨ r = 1) : pj_in r := by rcases h with h | h <;> rw [h] <;> exact ⟨by decide, by decide⟩
/-- numbers are told -/
def eqo (M M' : pj_M) : Prop := ∀ a x, a ≠ 186 → ¬ (a = 0 ∧ x = 15) → M' a x = M a x
theorem eqo.rf {M : pj_M} : eqo M M := fun _ _ _ _ => rfl
theorem eqo.tr {M M1 M2 : pj_M} (h : eqo M M1) (h2 : eqo M1 M2) : eqo M M2 := fun a x h3 h4 => (h2 a x h3 h4).trans (h a x h3 h4)
theorem eqo.row {M M' : pj_M} {a : Nat} (h : eqo M M') (h1 : a ≠ 186) (h2 : a ≠ 0) : M' a = M a := funext fun x => h a x h1 (fun e => h2 e.1)
theorem eqq.o {M M' : pj_M} (h : eqo M M') : eqq M M' := fun a x h3 => h a x (by unfold kpq at h3; omega) (by unfold kpq at h3; omega)
theorem csc.o {M M' : pj_M} (h : csc M) (e : eqo M M') : csc M' := h.eq (fun a ha => e.row (by omega) (by omega))
theorem t_tellMore {M : pj_M} {l : List Int} {x : Int} {Q : pj_M → Prop} (h : rws M l) (hl : l.length < 40) (q : ∀ M', eqo M M' → rws M' (l ++ [x]) → Q M') : w_X11_tellMore 0 x M Q := by
  obtain ⟨h1, h2, h3⟩ := h
  unfold w_X11_tellMore
  rw [rc_14, h1]
  refine ⟨⟨by omega, by omega⟩, fun h => absurd h (by omega), fun _ => ⟨⟨by omega, by omega⟩, ?_⟩⟩
  rintro M3 rfl M4 rfl
  rw [pu_ne (show (0 : Nat) ≠ 186 by decide), h1]
  refine q _ (fun a y ha hb => ?_) ⟨?_, ?_, fun k y hk => ?_⟩
  · rw [pu_if, if_neg hb, pu_ne ha]
  · rw [pu_eq, List.length_append]; show (l.length : Int) + 1 = ((l.length + 1 : Nat) : Int); omega
  · rw [List.length_append]; show l.length + 1 ≤ 40; omega
  · rw [pu_ne (by decide)]
    by_cases e : k < l.length
    · rw [List.getElem?_append_left e] at hk
      rw [pu_nk (by omega)]; exact h3 k y hk
    · rw [List.getElem?_append_right (by omega)] at hk
      have : k = l.length := by
        apply Classical.byContradiction; intro hne
        rw [List.getElem?_eq_none (by simp; omega)] at hk; cases hk
      subst this
      simp at hk
      rw [pu_eq]; exact hk
theorem rws.nil {M : pj_M} : rws (pj_up M 0 15 0) [] := ⟨pu_eq, by decide, fun k x h => by simp at h⟩
theorem eqo.z {M : pj_M} {v : Int} : eqo M (pj_up M 0 15 v) := fun a x _ h => by rw [pu_if, if_neg h]
theorem t_tellOne {M : pj_M} {x : Int} {Q : pj_M → Prop} (q : ∀ M', eqo M M' → rws M' [x] → Q M') : w_X11_tellOne 0 x M Q := by
  unfold w_X11_tellOne
  rintro M1 rfl
  exact t_tellMore rws.nil (by decide) (fun M' e h => q M' (eqo.z.tr e) h)
theorem t_tellTwo {M : pj_M} {x y : Int} {Q : pj_M → Prop} (q : ∀ M', eqo M M' → rws M' [x, y] → Q M') : w_X11_tellTwo 0 x y M Q := by
  unfold w_X11_tellTwo
  exact t_tellOne (fun M1 e1 h1 => t_tellMore h1 (by show 1 < 40; decide) (fun M2 e2 h2 => q M2 (e1.tr e2) h2))
def flt : lP → List Int
  | [] => []
  | x :: l => x.1 :: x.2 :: flt l
theorem flt_app : ∀ a b : lP, flt (a ++ b) = flt a ++ flt b
  | [], _ => rfl
  | x :: a, b => by show x.1 :: x.2 :: flt (a ++ b) = _; rw [flt_app a b]; rfl
theorem flt_len : ∀ a : lP, (flt a).length = 2 * a.length
  | [] => rfl
  | x :: a => by show (flt a).length + 1 + 1 = 2 * (a.length + 1); rw [flt_len a]; omega
theorem t_tellPieces {M : pj_M} {l : lP} {Q : Int → pj_M → Prop} (h : rpa M l) (hl : l.length ≤ 16) (hb : ∀ x ∈ l, pj_in x.1 ∧ pj_in x.2) (q : ∀ M', eqo M M' → rws M' (flt l) → Q (l.length : Int) M') : w_X11_tellPieces 0 M Q := by
  unfold w_X11_tellPieces
  rintro M0 rfl
  unfold w_X11_tellPieces_7
  refine pj_lp_inv (fun y : Int × pj_M => ∃ k : Nat, y.1 = (k : Int) ∧ k ≤ l.length ∧ eqo M y.2 ∧ rws y.2 (flt (l.take k))) (fun y => ((l.length : Int) - y.1).toNat) ?_ (0, _) ⟨0, rfl, by omega, eqo.z, rws.nil⟩
  rintro ⟨_, M1⟩ ⟨k, h1, hk, e1, r1⟩ P hP
  dsimp only at h1 e1 r1 hP ⊢
  subst h1
  have e178 : M1 178 = M 178 := e1.row (by decide) (by decide)
  unfold w_X11_tellPieces_7b
  rw [rc_12, rr_0, rr_1, e178, h.1]
  refine ⟨⟨by omega, by omega⟩, ⟨by omega, by omega⟩, fun hend => ?_, fun hgo => ?_⟩
  · rw [List.take_of_length_le (by omega)] at r1
    exact q M1 e1 r1
  · have hkl : k < l.length := by omega
    have hx := h.2 k l[k] (List.getElem?_eq_getElem hkl)
    have hbx := hb l[k] (List.getElem_mem hkl)
    have hlen : (flt (l.take k)).length = 2 * k := by rw [flt_len, List.length_take]; omega
    rw [e1.row (show (179 : Nat) ≠ 186 by decide) (by decide), hx.1]
    refine ⟨⟨by omega, by omega⟩, hbx.1, t_tellMore r1 (by omega) (fun M2 e2 r2 => ?_)⟩
    rw [(e1.tr e2).row (show (180 : Nat) ≠ 186 by decide) (by decide), hx.2]
    refine ⟨⟨by omega, by omega⟩, hbx.2, t_tellMore r2 (by rw [List.length_append, hlen]; show 2 * k + 1 < 40; omega) (fun M3 e3 r3 => ?_)⟩
    refine hP ((k : Int) + 1, M3) ⟨k + 1, by show (k : Int) + 1 = _; omega, by omega, (e1.tr e2).tr e3, ?_⟩ (by show ((l.length : Int) - ((k : Int) + 1)).toNat < ((l.length : Int) - (k : Int)).toNat; omega)
    show rws M3 (flt (l.take (k + 1)))
    rw [List.take_succ_eq_append_getElem hkl, flt_app]
    rw [List.append_assoc] at r3
    exact r3
theorem rpt.b {F : Int → Int → Prop} {n2 : Int} {bh : Int → Int} (hn : n2 ≤ 16) (hb : ∀ j, 1 ≤ j → j ≤ n2 → j ≤ bh j ∧ bh j ≤ n2) : ∀ (l : lP) (p : Int), 0 ≤ p → rpt F n2 bh l p → ∀ x ∈ l, pj_in x.1 ∧ pj_in x.2
  | [], _, _, _ => fun x hx => absurd hx List.not_mem_nil
  | (i, j) :: l, p, h0, h => by
    intro x hx
    obtain ⟨a1, a2, a3, a4, a5⟩ := h
    rcases List.mem_cons.mp hx with rfl | hx
    · exact ⟨⟨by show -2147483648 ≤ i; omega, by show i ≤ 2147483647; omega⟩, ⟨by show -2147483648 ≤ j; omega, by show j ≤ 2147483647; omega⟩⟩
    · exact rpt.b hn hb l (bh j) (by have := hb j (by omega) a1.2; omega) a5 x hx
theorem rbk.b {F : Int → Int → Prop} : ∀ (l : lP) (q : Int), q ≤ 16 → rbk F l q → ∀ x ∈ l, pj_in x.1 ∧ pj_in x.2
  | [], _, _, _ => fun x hx => absurd hx List.not_mem_nil
  | (i, j) :: l, q, hq, h => by
    intro x hx
    obtain ⟨a1, a2, a3⟩ := h
    rcases List.mem_cons.mp hx with rfl | hx
    · exact ⟨⟨by show -2147483648 ≤ i; omega, by show i ≤ 2147483647; omega⟩, ⟨by show -2147483648 ≤ j; omega, by show j ≤ 2147483647; omega⟩⟩
    · exact rbk.b l i (by omega) a3 x hx
theorem lsts.b {F : Int → Int → Prop} {n2 : Int} (hn : n2 ≤ 16) {l : lP} (h : lsts F n2 l) : ∀ x ∈ l, pj_in x.1 ∧ pj_in x.2 := fun x hx => by
  have := ((h.2 x).mp hx).1
  exact ⟨⟨by omega, by omega⟩, ⟨by omega, by omega⟩⟩
/-- how many pieces the report of a line has -/
def rpn (D w : Int → Int) (n : Int) (r : Int) : Prop := ∃ l : lP, l.length ≤ 16 ∧ r = (l.length : Int) ∧ rpt (pfit (gr_of D) (D 1).toNat w n) (n + 2) (fun j => j) l 0
theorem rpn.uniq {D w : Int → Int} {n r r' : Int} (v : dvl D) (hn : 0 ≤ n) (h : rpn D w n r) (h' : rpn D w n r') : r = r' := by
  obtain ⟨l, _, rfl, h1⟩ := h
  obtain ⟨l', _, rfl, h2⟩ := h'
  rw [rpt.uniq (pfit_mn v.2.1) (fun j _ h => ⟨Int.le_refl _, h⟩) l l' 0 (Int.le_refl _) (by omega) h1 h2]
theorem rpn.congr {D w w' : Int → Int} {n r : Int} (h : rpn D w n r) (hw : leq n w w') : rpn D w' n r := by
  obtain ⟨l, h1, h2, h3⟩ := h
  refine ⟨l, h1, h2, ?_⟩
  have main : ∀ (l : lP) (p : Int), 0 ≤ p → p ≤ n + 2 → rpt (pfit (gr_of D) (D 1).toNat w n) (n + 2) (fun j => j) l p → rpt (pfit (gr_of D) (D 1).toNat w' n) (n + 2) (fun j => j) l p := by
    intro l
    induction l with
    | nil => intro p p0 p1 hp; exact (pfit_congr (gr_eq.rf _) hw p0 (Int.le_refl _)).mp hp
    | cons x l ih =>
      obtain ⟨i, j⟩ := x
      intro p p0 p1 hp
      obtain ⟨a1, a2, a3, a4, a5⟩ := hp
      refine ⟨a1, fun h => a2 ((pfit_congr (gr_eq.rf _) hw p0 (by omega)).mpr h), (pfit_congr (gr_eq.rf _) hw p0 (by omega)).mp a3, ⟨a4.1, a4.2.1, fun h => a4.2.2.1 ((pfit_congr (gr_eq.rf _) hw a4.1 (by omega)).mpr h), (pfit_congr (gr_eq.rf _) hw (by omega) (by omega)).mp a4.2.2.2⟩, ih j (by omega) a1.2 a5⟩
  by_cases hn : 0 ≤ n + 2
  · exact main l 0 (Int.le_refl _) hn h3
  · cases l with
    | nil =>
      have e : sg (fr_w w n) 0 (n + 2) = sg (fr_w w' n) 0 (n + 2) := sg_congr (fun p p1 p2 => by omega)
      show fr_in _ _ (sg (fr_w w' n) 0 (n + 2))
      rw [← e]; exact h3
    | cons x l => obtain ⟨i, j⟩ := x; have := h3.1; omega
theorem t_piecesOf {M : pj_M} {c l : Nat} {D w : Int → Int} {n : Int} {Q : Int → pj_M → Prop} (hc : isC c) (s : csc M) (r : drep M 13 D) (v : dvl D) (hl : l = 18 ∨ l = 29) (vl : lvl M l) (hn : M l 1 = n) (hw : leq n (M (l + 1)) w)
    (q : ∀ res M', eqq M M' → M' 29 = M 29 → M' 30 = M 30 → M' 0 = M 0 → M' 186 = M 186 → csc M' → clk M' c → M' c 8 = 0 → gr_eq (gof M' (c + 1)) (gr_of D) → M' (c + 1) 4 = D 1 → (0 ≤ res ∧ res ≤ 16) → rpn D w n res → Q res M') : w_X11_piecesOf 0 c l M Q := by
  have h1 : c = 115 ∨ c = 135 ∨ c = 155 := hc
  have hn14 : 0 ≤ n ∧ n ≤ 14 := by rw [← hn]; exact vl.1
  unfold w_X11_piecesOf
  rw [rc_2, rk_0, rc_12]
  refine t_readD hc s r v hl vl hn hw (Or.inl rfl) (fun M1 e1 s1 rd g st f _ => t_fromLeft (bh := fun j => j) (f rfl) (Or.inl rfl) (fun j _ h => ⟨Int.le_refl _, h⟩) (fun _ _ => rfl) (fun h => absurd h (by decide)) (fun M2 a e2 _ _ ra hal hr => ?_))
  rw [ra.1]
  have row : ∀ k, k ≤ 19 → M2 (c + k) = M1 (c + k) := fun k hk => e2.row (by omega)
  refine q _ M2 ((eqq.c hc e1).tr (eqq.r e2)) ?_ ?_ ?_ ?_ (s1.eq (fun a ha => e2.row (by omega))) (rd.1.eqr (fun a a1 a2 => e2.row (by omega))) ?_ ?_ ?_ ⟨by omega, by omega⟩ ⟨a, hal, rfl, hr⟩
  · rw [e2.row (by decide), e1.row (by omega)]
  · rw [e2.row (by decide), e1.row (by omega)]
  · rw [e2.row (by decide), e1.row (by omega)]
  · rw [e2.row (by decide), e1.row (by omega)]
  · rw [e2.row (show c < 178 ∨ _ by omega)]; exact rd.2.2.1
  · rw [gof.eq (fun a a1 a2 => e2.row (by omega))]; exact g
  · rw [e2.row (show c + 1 < 178 ∨ _ by omega)]; exact st
