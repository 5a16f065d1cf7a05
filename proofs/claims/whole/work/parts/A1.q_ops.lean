def rwo (M M' : pj_M) : Option (List Int) → Prop
  | none => M' 186 = M 186 ∧ M' 0 15 = M 0 15
  | some l => rws M' l
/-- a truth as 1 or 0 -/
def tru (P : Prop) (r : Int) : Prop := (r = 1 ∧ P) ∨ (r = 0 ∧ ¬ P)
theorem tru.uniq {P : Prop} {r r' : Int} (h : tru P r) (h' : tru P r') : r = r' := by
  rcases h with ⟨h1, h2⟩ | ⟨h1, h2⟩ <;> rcases h' with ⟨g1, g2⟩ | ⟨g1, g2⟩
  · rw [h1, g1]
  · exact absurd h2 g2
  · exact absurd g2 h2
  · rw [h1, g1]
theorem tru.of {P : Prop} {r : Int} (hr : r = 0 ∨ r = 1) (h : r = 1 ↔ P) : tru P r := by
  rcases hr with e | e
  · exact Or.inr ⟨e, fun p => by have := h.mpr p; omega⟩
  · exact Or.inl ⟨e, h.mp e⟩
def isPc (D : Int → Int) (i j : Int) : Prop := 0 ≤ i ∧ i ≤ j ∧ j ≤ D 73 + 2
def s_fits (D : Int → Int) (i j r : Int) (o : Option (List Int)) : Prop := o = none ∧ (¬ isPc D i j → r = -1) ∧ (isPc D i j → tru (FD D i j) r)
def s_onwards (D : Int → Int) (i r : Int) (o : Option (List Int)) : Prop := o = none ∧ (¬ isPc D i i → r = -1) ∧ (isPc D i i → gfi (FD D) (D 73 + 2) i r)
/-- the least begin of what fits and ends at j -/
def s_back (D : Int → Int) (j r : Int) (o : Option (List Int)) : Prop := o = none ∧ (¬ isPc D j j → r = -1) ∧ (isPc D j j → 0 ≤ r ∧ r ≤ j ∧ ∀ i, 0 ≤ i → i ≤ j → (r ≤ i ↔ FD D i j))
def s_sentence (D : Int → Int) (r : Int) (o : Option (List Int)) : Prop := o = none ∧ tru (FD D 0 (D 73 + 2)) r
section
variable {M : pj_M} {D : Int → Int} {Q : Int → pj_M → Prop}
theorem post_c (s : csc M) {M' : pj_M} (e : eqc 115 M M') : eqq M M' ∧ rwo M M' none := ⟨eqq.c (Or.inl rfl) e, e.row (by decide), by rw [e.row (show (0 : Nat) < 115 ∨ 115 + 19 < 0 by decide)]⟩
theorem o_fits {i j : Int} (s : csc M) (r : drep M 13 D) (v : dvl D) (hi : pj_in i) (hj : pj_in j) (q : ∀ r o M', eqq M M' → csc M' → rwo M M' o → s_fits D i j r o → Q r M') : w_X11_fits 0 i j M Q := by
  unfold w_X11_fits
  have hn := v.2.2.1
  refine t_isPiece r.2.1.2.1 hn hi hj (fun t ht hiff => ⟨in01 ht, fun h => ?_, fun h => ?_⟩)
  · have hp : isPc D i j := hiff.mp (by omega)
    have hp' := hp
    unfold isPc at hp'
    refine t_lineRead s r v (fun M' e s' rd g st f => t_leastFitting f.1 ⟨by omega, by omega⟩ ?_)
    have hb := f.2.2.2.1 (108 + j)
    have hf := f.2.2.2.2.2 i j hp.1 hp.2.1 hp.2.2
    have pc := post_c s e
    refine ⟨⟨by omega, by omega⟩, hi, fun hlt => q 0 none M' pc.1 s' pc.2 ⟨rfl, fun h => absurd hp h, fun _ => Or.inr ⟨rfl, fun h => by have := hf.mpr h; omega⟩⟩, fun hge => q 1 none M' pc.1 s' pc.2 ⟨rfl, fun h => absurd hp h, fun _ => Or.inl ⟨rfl, hf.mp (by omega)⟩⟩⟩
  · exact q (-1) none M eqq.rf s ⟨rfl, rfl⟩ ⟨rfl, fun _ => rfl, fun hp => by have := hiff.mpr hp; omega⟩
theorem o_onwards {i : Int} (s : csc M) (r : drep M 13 D) (v : dvl D) (hi : pj_in i) (q : ∀ r o M', eqq M M' → csc M' → rwo M M' o → s_onwards D i r o → Q r M') : w_X11_onwards 0 i M Q := by
  unfold w_X11_onwards
  have hn := v.2.2.1
  refine t_isPiece r.2.1.2.1 hn hi hi (fun t ht hiff => ⟨in01 ht, fun h => ?_, fun h => ?_⟩)
  · have hp : isPc D i i := hiff.mp (by omega)
    refine t_lineRead s r v (fun M' e s' rd g st f => t_greatestFitting f ⟨hp.1, hp.2.2⟩ (fun j hg => ?_))
    have pc := post_c s e
    exact q j none M' pc.1 s' pc.2 ⟨rfl, fun h => absurd hp h, fun _ => hg⟩
  · exact q (-1) none M eqq.rf s ⟨rfl, rfl⟩ ⟨rfl, fun _ => rfl, fun hp => by have := hiff.mpr hp; omega⟩
theorem o_back {j : Int} (s : csc M) (r : drep M 13 D) (v : dvl D) (hj : pj_in j) (q : ∀ r o M', eqq M M' → csc M' → rwo M M' o → s_back D j r o → Q r M') : w_X11_back 0 j M Q := by
  unfold w_X11_back
  have hn := v.2.2.1
  refine t_isPiece r.2.1.2.1 hn hj hj (fun t ht hiff => ⟨in01 ht, fun h => ?_, fun h => ?_⟩)
  · have hp : isPc D j j := hiff.mp (by omega)
    have hp' := hp
    unfold isPc at hp'
    refine t_lineRead s r v (fun M' e s' rd g st f => t_leastFitting f.1 ⟨by omega, by omega⟩ ?_)
    have hb := f.2.2.2.1 (108 + j)
    have hf := f.2.2.2.2.2 j j hp.1 (Int.le_refl _) hp.2.2
    have hjj := hf.mpr (f.2.2.2.2.1.1 j hp.1 hp.2.2)
    have pc := post_c s e
    exact q _ none M' pc.1 s' pc.2 ⟨rfl, fun h => absurd hp h, fun _ => ⟨hb.1, hjj, fun i i1 i2 => f.2.2.2.2.2 i j i1 i2 hp.2.2⟩⟩
  · exact q (-1) none M eqq.rf s ⟨rfl, rfl⟩ ⟨rfl, fun _ => rfl, fun hp => by have := hiff.mpr hp; omega⟩
theorem sg_frame {w : Int → Int} {n : Int} (hn : 0 ≤ n) : sg (fr_w w n) 0 (n + 2) = 8 :: (sg w 0 n ++ [9]) := by
  rw [sg_cons (by omega), ← sg_app (m := n + 1) (by omega) (by omega), show n + 2 = n + 1 + 1 by omega, sg_one, show (0 : Int) + 1 = 1 by omega, fr_sg (by omega) (by omega)]
  have e1 : fr_w w n 0 = 8 := by unfold fr_w; rw [if_pos rfl]
  have e2 : fr_w w n (n + 1) = 9 := by unfold fr_w; rw [if_neg (by omega), if_pos rfl]
  rw [e1, e2, show n + 1 - 1 = n by omega]
  rfl
theorem o_sentence (s : csc M) (r : drep M 13 D) (v : dvl D) (q : ∀ r o M', eqq M M' → csc M' → rwo M M' o → s_sentence D r o → Q r M') : w_X11_sentence 0 M Q := by
  unfold w_X11_sentence
  have hn := v.2.2.1
  refine t_lineRead s r v (fun M' e s' rd g st f => ?_)
  have r' : drep M' 13 D := r.eq (fun a a1 a2 => e.row (by omega))
  rw [rc_2, rk_0, rk_1, r'.1.2.2.2.1, r'.2.1.2.1]
  have hst := rd.1.2.2.1.st
  have hst' : 0 ≤ M' 116 4 ∧ M' 116 4 ≤ 5 := hst
  rw [st] at hst'
  obtain ⟨x, hx⟩ : ∃ x : Nat, D 1 = (x : Int) := ⟨(D 1).toNat, by omega⟩
  obtain ⟨m, hm⟩ : ∃ m : Nat, D 73 = (m : Int) := ⟨(D 73).toNat, by omega⟩
  rw [hx, hm, show (m : Int) + 1 = ((m + 1 : Nat) : Int) by omega]
  have h11 := rd.2.2.2.1
  refine t_yieldsWhole (i := 1) rd.1.2.1 (by omega) (by decide) (by omega) (fun t ht hiff => ?_)
  have pc := post_c s e
  have key : t = 1 ↔ FD D 0 (D 73 + 2) := by
    rw [hiff, rd.1.y0 rd.2.2.1 (by omega), g.y]
    have tk : tkw M' 115 1 (m + 1) = sg (lw D) 0 (D 73) := by
      show sg (M' (115 + 14)) ((1 : Nat) : Int) ((m + 1 : Nat) : Int) = _
      have : sg (M' (115 + 14)) ((1 : Nat) : Int) ((m + 1 : Nat) : Int) = sg (fr_w (lw D) (D 73)) ((1 : Nat) : Int) ((m + 1 : Nat) : Int) := sg_congr (fun p p1 p2 => by
        rw [rd.2.2.2.2.2 p (by omega) (by omega)]
        unfold crow fr_w
        rw [if_pos rfl, if_neg (by omega), if_neg (by omega), if_neg (by omega), if_neg (by omega)]
        exact r.2.1.2.2 (p - 1) (by omega) (by omega))
      rw [this, fr_sg (by omega) (by omega)]
      congr 1; omega
    rw [tk]
    unfold FD pfit
    rw [sg_frame hn.1, fr_in_y, hx, Int.toNat_natCast]
    exact ⟨fun h => h.2, fun h => ⟨by omega, h⟩⟩
  exact ⟨in01 ht, fun h => q 0 none M' pc.1 s' pc.2 ⟨rfl, Or.inr ⟨rfl, fun hf => by have := key.mpr hf; omega⟩⟩, fun h => q 1 none M' pc.1 s' pc.2 ⟨rfl, Or.inl ⟨rfl, key.mp (by omega)⟩⟩⟩
end
/-- pieces that are told -/
def s_report (D : Int → Int) (r : Int) (o : Option (List Int)) : Prop := ∃ l : lP, l.length ≤ 16 ∧ rpt (FD D) (D 73 + 2) (fun j => j) l 0 ∧ r = (l.length : Int) ∧ o = some (flt l)
def s_backwards (D : Int → Int) (r : Int) (o : Option (List Int)) : Prop := ∃ l : lP, l.length ≤ 16 ∧ rbk (FD D) l (D 73 + 2) ∧ r = (l.length : Int) ∧ o = some (flt l.reverse)
def s_least (D : Int → Int) (r : Int) (o : Option (List Int)) : Prop := ∃ l : lP, l.length ≤ 16 ∧ lsts (FD D) (D 73 + 2) l ∧ r = (l.length : Int) ∧ o = some (flt l)
def mtD (D : Int → Int) : Int → Int := mtf (fun k => D (89 + k)) (D 88) (lw D) (D 73)
def s_led (D : Int → Int) (r : Int) (o : Option (List Int)) : Prop := ∃ l : lP, l.length ≤ 16 ∧ rpt (FD D) (D 73 + 2) (bhm (mtD D)) l 0 ∧ r = (l.length : Int) ∧ o = some (flt l)
def s_mate (D : Int → Int) (p r : Int) (o : Option (List Int)) : Prop := (¬ (1 ≤ p ∧ p ≤ D 73) → r = -1 ∧ o = none) ∧ (1 ≤ p ∧ p ≤ D 73 → (mtD D p = 0 → r = -2 ∧ o = none) ∧ (mtD D p ≠ 0 → r = mtD D p ∧ o = some [if mtD D p < p then 1 else 0]))
theorem mtD_b (D : Int → Int) (h : 0 ≤ D 73) (x : Int) : (0 ≤ mtD D x ∧ mtD D x ≤ D 73) ∧ (D 73 < x → mtD D x = 0) := by
  have := (mst_b (fun k => D (89 + k)) (D 88) (lw D) (D 73).toNat).2.2 x
  unfold mtD mtf
  rw [show (((D 73).toNat : Nat) : Int) = D 73 by omega] at this
  exact this
theorem bhm_b {D : Int → Int} (h : 0 ≤ D 73) : ∀ j, 1 ≤ j → j ≤ D 73 + 2 → j ≤ bhm (mtD D) j ∧ bhm (mtD D) j ≤ D 73 + 2 := by
  intro j h1 h2
  have := bhf_b (mt := mtD D) (j := j) (n := D 73) (fun x => (mtD_b D h x).1) (j - 1).toNat
  unfold bhm
  omega
theorem kfn_congr {pf pf' : Int → Int} {s : Int} : ∀ (m : Nat) (k : Int), (∀ x, k ≤ x → x < k + (m : Int) → pf x = pf' x) → kfn pf s m k = kfn pf' s m k
  | 0, _, _ => rfl
  | m + 1, k, h => by
    unfold kfn
    rw [h k (Int.le_refl _) (by omega), kfn_congr m (k + 1) (fun x h1 h2 => h x (by omega) (by omega))]
theorem lfn_congr {P P' : Int → Int} {a : Int} : ∀ m : Nat, (∀ x, 0 ≤ x → x < (m : Int) → P x = P' x) → lfn P a m = lfn P' a m
  | 0, _ => rfl
  | m + 1, h => by
    unfold lfn
    rw [h (m : Int) (by omega) (by omega), lfn_congr m (fun x h1 h2 => h x h1 (by omega))]
theorem mst_congr {pf pf' : Int → Int} {np : Int} {w w' : Int → Int} {n : Int} (hnp : 0 ≤ np) (hp : leq (2 * np) pf pf') (hw : leq n w w') : ∀ p : Nat, (p : Int) ≤ n → mst pf np w p = mst pf' np w' p
  | 0, _ => rfl
  | p + 1, h => by
    have ih := mst_congr hnp hp hw p (by omega)
    have hb := mst_b pf np w p
    unfold mst
    rw [← ih]
    generalize mst pf np w p = s at hb ⊢
    have hk : ∀ z, kdf pf np z = kdf pf' np z := fun z => kfn_congr _ 0 (fun x h1 h2 => hp x h1 (by omega))
    have hwp : w ((p : Int) + 1 - 1) = w' ((p : Int) + 1 - 1) := hw _ (by omega) (by omega)
    unfold mst1
    rw [← hwp, ← hk]
    have hkb := kdf_b (pf := pf) (np := np) (s := w ((p : Int) + 1 - 1)) hnp
    generalize hv : kdf pf np (w ((p : Int) + 1 - 1)) = v at hkb ⊢
    by_cases e1 : v = -1
    · rw [if_pos e1, if_pos e1]
    · rw [if_neg e1, if_neg e1]
      by_cases e2 : v % 2 = 0
      · rw [if_pos e2, if_pos e2]
      · rw [if_neg e2, if_neg e2, ← hp (v - 1) (by omega) (by omega)]
        have hl : lfn (fun k => w (s.2.1 k - 1)) (pf (v - 1)) s.1.toNat = lfn (fun k => w' (s.2.1 k - 1)) (pf (v - 1)) s.1.toNat := lfn_congr _ (fun x h1 h2 => by
          have := hb.2.1 x h1 (by omega)
          exact hw _ (by omega) (by omega))
        rw [← hl]
theorem drep.mt {M : pj_M} {D : Int → Int} (r : drep M 13 D) (v : dvl D) : mtf (M 20) (M 13 3) (M 19) (M 18 1) = mtD D := by
  have hn := v.2.2.1
  have h1 : M 13 3 = D 88 := r.2.2.1
  have h2 : M 18 1 = D 73 := r.2.1.2.1
  unfold mtf mtD mtf
  rw [h1, h2, mst_congr (pf' := fun k => D (89 + k)) (w' := lw D) (n := D 73) v.2.2.2.2.1.1 r.2.2.2 r.2.1.2.2 (D 73).toNat (by omega)]
theorem drep.pds {M : pj_M} {D : Int → Int} (r : drep M 13 D) (v : dvl D) : pds (M 20) (M 13 3) := by
  have h1 : M 13 3 = D 88 := r.2.2.1
  have h2 := r.2.2.2
  obtain ⟨a1, a2, a3⟩ := v.2.2.2.2
  rw [h1]
  refine ⟨a1, fun i i1 i2 => ?_, fun i j i1 i2 j1 j2 e => ?_⟩
  · have := h2 i i1 i2
    rw [show M 20 i = D (89 + i) from this]; exact a2 i i1 i2
  · refine a3 i j i1 i2 j1 j2 ?_
    have e1 : M 20 i = D (89 + i) := h2 i i1 i2
    have e2 : M 20 j = D (89 + j) := h2 j j1 j2
    show D (89 + i) = D (89 + j)
    rw [← e1, ← e2]; exact e
section
variable {M : pj_M} {D : Int → Int} {Q : Int → pj_M → Prop}
theorem post_r {M1 M2 M3 : pj_M} (s1 : csc M1) (e1 : eqc 115 M M1) (e2 : eqr M1 M2) (e3 : eqo M2 M3) : eqq M M3 ∧ csc M3 := ⟨((eqq.c (Or.inl rfl) e1).tr (eqq.r e2)).tr (eqq.o e3), (s1.eq (fun a ha => e2.row (by omega))).o e3⟩
theorem o_report (s : csc M) (r : drep M 13 D) (v : dvl D) (q : ∀ r o M', eqq M M' → csc M' → rwo M M' o → s_report D r o → Q r M') : w_X11_report 0 M Q := by
  unfold w_X11_report
  rw [rc_12]
  have hn := v.2.2.1
  refine t_lineRead s r v (fun M1 e1 s1 rd g st f => t_fromLeft (bh := fun j => j) f (Or.inl rfl) (fun j _ h => ⟨Int.le_refl _, h⟩) (fun _ _ => rfl) (fun h => absurd h (by decide)) (fun M2 a e2 _ _ ra hal hr => t_tellPieces ra hal (rpt.b (by omega) (fun j _ h => ⟨Int.le_refl _, h⟩) a 0 (Int.le_refl _) hr) (fun M3 e3 hrow => ?_)))
  have pr := post_r s1 e1 e2 e3
  exact q _ (some (flt a)) M3 pr.1 pr.2 hrow ⟨a, hal, hr, rfl, rfl⟩
theorem o_backwards (s : csc M) (r : drep M 13 D) (v : dvl D) (q : ∀ r o M', eqq M M' → csc M' → rwo M M' o → s_backwards D r o → Q r M') : w_X11_backwards 0 M Q := by
  unfold w_X11_backwards
  rw [rc_12]
  have hn := v.2.2.1
  refine t_lineRead s r v (fun M1 e1 s1 rd g st f => t_fromRight f (fun M2 a e2 _ _ ra hal hr => t_tellPieces ra (by rw [List.length_reverse]; exact hal) (fun x hx => rbk.b a _ (by omega) hr x (List.mem_reverse.mp hx)) (fun M3 e3 hrow => ?_)))
  have pr := post_r s1 e1 e2 e3
  rw [List.length_reverse]
  exact q _ (some (flt a.reverse)) M3 pr.1 pr.2 hrow ⟨a, hal, hr, rfl, rfl⟩
theorem o_least (s : csc M) (r : drep M 13 D) (v : dvl D) (q : ∀ r o M', eqq M M' → csc M' → rwo M M' o → s_least D r o → Q r M') : w_X11_least 0 M Q := by
  unfold w_X11_least
  rw [rc_12]
  have hn := v.2.2.1
  refine t_lineRead s r v (fun M1 e1 s1 rd g st f => t_leastOnes f (fun M2 a e2 _ _ ra hal hr => t_tellPieces ra hal (hr.b (by omega)) (fun M3 e3 hrow => ?_)))
  have pr := post_r s1 e1 e2 e3
  exact q _ (some (flt a)) M3 pr.1 pr.2 hrow ⟨a, hal, hr, rfl, rfl⟩
theorem o_led (s : csc M) (r : drep M 13 D) (v : dvl D) (q : ∀ r o M', eqq M M' → csc M' → rwo M M' o → s_led D r o → Q r M') : w_X11_led 0 M Q := by
  unfold w_X11_led
  rw [rc_12, rc_2]
  have hn := v.2.2.1
  refine t_findMates (r.pds v) r.2.1.1 (fun M0 e0 _ _ _ m0 => ?_)
  rw [r.mt v] at m0
  have r0 : drep M0 13 D := r.eq (fun a a1 a2 => e0.row (by omega))
  refine t_lineRead (s.eq (fun a ha => e0.row (by omega))) r0 v (fun M1 e1 s1 rd g st f => ?_)
  have m1 : ∀ x, 0 ≤ x → x < 16 → M1 181 x = mtD D x := fun x x1 x2 => by rw [e1.row (by decide)]; exact m0 x x1 x2
  refine t_fromLeft (bh := bhm (mtD D)) f (Or.inr rfl) (bhm_b hn.1) (fun h => absurd h (by decide)) (fun _ M' j Q' e' h181 j1 j2 q' => t_placeBehindMate (n := D 73) (mt := mtD D) (by rw [h181]; exact m1) (fun x => (mtD_b D hn.1 x).1) hn.2 ⟨j1, by omega⟩ q') (fun M2 a e2 _ _ ra hal hr => t_tellPieces ra hal (rpt.b (by omega) (bhm_b hn.1) a 0 (Int.le_refl _) hr) (fun M3 e3 hrow => ?_))
  have pr := post_r s1 e1 e2 e3
  exact q _ (some (flt a)) M3 ((eqq.r e0).tr pr.1) pr.2 hrow ⟨a, hal, hr, rfl, rfl⟩
theorem o_mate {p : Int} (s : csc M) (r : drep M 13 D) (v : dvl D) (hp : pj_in p) (q : ∀ r o M', eqq M M' → csc M' → rwo M M' o → s_mate D p r o → Q r M') : w_X11_mate 0 p M Q := by
  unfold w_X11_mate
  rw [rc_12, rc_2, rk_1, rr_3]
  have hn := v.2.2.1
  have h18 : M 18 1 = D 73 := r.2.1.2.1
  refine t_hasL r.2.1.1 hp (fun t ht hiff => ⟨in01 ht, fun h => ?_, fun h => ?_⟩)
  · have hp2 : 1 ≤ p ∧ p ≤ D 73 := by rw [← h18]; exact hiff.mp (by omega)
    refine t_findMates (r.pds v) r.2.1.1 (fun M0 e0 _ _ _ m0 => ⟨⟨by omega, by omega⟩, ?_⟩)
    rw [r.mt v] at m0
    rintro z rfl
    rw [m0 p (by omega) (by omega)]
    have hb := (mtD_b D hn.1 p).1
    have s0 : csc M0 := s.eq (fun a ha => e0.row (by omega))
    have tell : ∀ x : Int, x = (if mtD D p < p then 1 else 0) → mtD D p ≠ 0 → w_X11_mate_55 (mtD D p) 0 x Q M0 := by
      intro x hx hne
      unfold w_X11_mate_55
      exact t_tellOne (fun M1 e1 hr => q _ (some [x]) M1 ((eqq.r e0).tr (eqq.o e1)) (s0.o e1) hr ⟨fun h => absurd hp2 h, fun _ => ⟨fun h => absurd h hne, fun _ => ⟨rfl, by rw [hx]⟩⟩⟩)
    refine ⟨⟨by omega, by omega⟩, fun hne => ⟨⟨by omega, by omega⟩, hp, fun hle => tell 0 (by rw [if_neg (by omega)]) hne, fun hgt => tell 1 (by rw [if_pos (by omega)]) hne⟩, fun h0 => q (-2) none M0 (eqq.r e0) s0 ⟨by rw [e0.row (by decide)], by rw [e0.row (by decide)]⟩ ⟨fun h => absurd hp2 h, fun _ => ⟨fun _ => ⟨rfl, rfl⟩, fun h => absurd h0 h⟩⟩⟩
  · exact q (-1) none M eqq.rf s ⟨rfl, rfl⟩ ⟨fun _ => ⟨rfl, rfl⟩, fun h' => by have := hiff.mpr (by rw [h18]; exact h'); omega⟩
end
