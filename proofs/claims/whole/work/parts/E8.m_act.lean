section
variable {T : Int → Int} {P : Nat}
theorem dst_run (h0 : (dst T P).1 = 0) (hL : dln (T (P : Int)) = 3 ∨ dln (T (P : Int)) = 4) : dst T (P + 1) = (1, dln (T (P : Int))) ∧ dst T (P + 2) = (2, dln (T (P : Int))) ∧ dst T (P + 3) = (if dln (T (P : Int)) = 3 then 0 else 3, dln (T (P : Int))) ∧ (dln (T (P : Int)) = 4 → (dst T (P + 4)).1 = 0) := by
  have d1 : dst T (P + 1) = (1, dln (T (P : Int))) := by
    show ((if (dst T P).1 + 1 = dlc T (dst T P) (P : Int) then 0 else (dst T P).1 + 1), dlc T (dst T P) (P : Int)) = _
    have hc : dlc T (dst T P) (P : Int) = dln (T (P : Int)) := by unfold dlc; rw [if_pos h0]
    rw [hc, h0, if_neg (by omega)]; rfl
  have d2 : dst T (P + 2) = (2, dln (T (P : Int))) := by
    show ((if (dst T (P + 1)).1 + 1 = dlc T (dst T (P + 1)) ((P + 1 : Nat) : Int) then 0 else (dst T (P + 1)).1 + 1), dlc T (dst T (P + 1)) ((P + 1 : Nat) : Int)) = _
    have hc : dlc T (dst T (P + 1)) ((P + 1 : Nat) : Int) = dln (T (P : Int)) := by unfold dlc; rw [d1, if_neg (show ¬ (1 : Int) = 0 by decide)]
    rw [hc, d1, if_neg (show ¬ (1 : Int) + 1 = _ by omega)]; rfl
  have d3 : dst T (P + 3) = (if dln (T (P : Int)) = 3 then 0 else 3, dln (T (P : Int))) := by
    show ((if (dst T (P + 2)).1 + 1 = dlc T (dst T (P + 2)) ((P + 2 : Nat) : Int) then 0 else (dst T (P + 2)).1 + 1), dlc T (dst T (P + 2)) ((P + 2 : Nat) : Int)) = _
    have hc : dlc T (dst T (P + 2)) ((P + 2 : Nat) : Int) = dln (T (P : Int)) := by unfold dlc; rw [d2, if_neg (show ¬ (2 : Int) = 0 by decide)]
    rw [hc, d2]
    rcases hL with h | h
    · rw [h]; rfl
    · rw [h]; rfl
  refine ⟨d1, d2, d3, fun h4 => ?_⟩
  show (if (dst T (P + 3)).1 + 1 = dlc T (dst T (P + 3)) ((P + 3 : Nat) : Int) then (0 : Int) else (dst T (P + 3)).1 + 1) = 0
  rw [d3, h4, if_neg (show ¬ (4 : Int) = 3 by decide)]
  rfl
theorem okD_0 (h0 : (dst T P).1 = 0) : okD T P ↔ dln (T (P : Int)) ≠ 0 := by
  unfold okD dlc
  rw [if_pos h0]
  exact ⟨fun h => h.1, fun h => ⟨h, Or.inl h0⟩⟩
theorem okD_dig {o L : Int} (hd : dst T P = (o, L)) (ho : o = 1 ∨ o = 2) (hL : L ≠ 0) : okD T P ↔ 48 ≤ T (P : Int) ∧ T (P : Int) ≤ 48 + 10 - 1 := by
  unfold okD dlc
  rw [hd]
  dsimp only
  rw [if_neg (by omega)]
  constructor
  · rintro ⟨_, h | ⟨h, _⟩ | ⟨_, h⟩⟩
    · omega
    · omega
    · exact ⟨h.1, by omega⟩
  · intro h
    exact ⟨hL, Or.inr (Or.inr ⟨by omega, h.1, by omega⟩)⟩
theorem okD_sgn {L : Int} (hd : dst T P = (3, L)) (hL : L ≠ 0) : okD T P ↔ 97 ≤ T (P : Int) ∧ T (P : Int) ≤ 97 + 8 - 1 := by
  unfold okD dlc sgn
  rw [hd]
  dsimp only
  rw [if_neg (by decide)]
  constructor
  · rintro ⟨_, h | ⟨_, h⟩ | ⟨h, _⟩⟩
    · exact absurd h (by decide)
    · exact ⟨h.1, by omega⟩
    · exact absurd rfl h
  · intro h
    exact ⟨hL, Or.inr (Or.inl ⟨rfl, h.1, by omega⟩)⟩
end
def dgd (T : Int → Int) (n : Int) (M : pj_M) (p : Nat) : Prop := rdr T n M ∧ M 203 8 = -1 ∧ M 203 7 = (p : Int) ∧ ∀ p', p' < p → okD T p'
def dbd (T : Int → Int) (n : Int) (M : pj_M) : Prop := rdr T n M ∧ M 203 8 ≠ -1 ∧ misD T n (M 203 8)
def eqB (M M' : pj_M) : Prop := ∀ a x, ¬ (a = 203 ∧ (x = 7 ∨ x = 8)) → M' a x = M a x
def eqA (M M' : pj_M) : Prop := ∀ a x, a ≠ 227 → ¬ (a = 203 ∧ (x = 7 ∨ x = 8)) → M' a x = M a x
theorem eqA.rf {M : pj_M} : eqA M M := fun _ _ _ _ => rfl
theorem eqA.tr {M M1 M2 : pj_M} (h : eqA M M1) (h2 : eqA M1 M2) : eqA M M2 := fun a x h3 h4 => (h2 a x h3 h4).trans (h a x h3 h4)
theorem eqA.b {M M1 : pj_M} (h : eqB M M1) : eqA M M1 := fun a x _ h4 => h a x h4
theorem eqA.up {M : pj_M} {k v : Int} : eqA M (pj_up M 227 k v) := fun a x h _ => pu_ne h
theorem eqB.rf {M : pj_M} : eqB M M := fun _ _ _ => rfl
theorem eqB.up {M : pj_M} {k v : Int} (h : k = 7 ∨ k = 8) : eqB M (pj_up M 203 k v) := fun a x h2 => by
  rw [pu_if, if_neg]
  rintro ⟨rfl, rfl⟩
  exact h2 ⟨rfl, h⟩
section
variable {M : pj_M} {T : Int → Int} {n : Int}
theorem dgd.step {p : Nat} (h : dgd T n M p) (hlt : (p : Int) < n) (hok : okD T p) : dgd T n (pj_up M 203 7 ((p : Int) + 1)) (p + 1) := by
  obtain ⟨h1, h2, h3, h4⟩ := h
  refine ⟨h1.at ⟨by omega, by omega⟩, by rw [pu_nk (by decide)]; exact h2, by rw [pu_eq]; omega, fun p' hp => ?_⟩
  by_cases e : p' = p
  · rw [e]; exact hok
  · exact h4 p' (by omega)
theorem dgd.fault {p : Nat} (h : dgd T n M p) (hlt : (p : Int) < n) (hok : ¬ okD T p) : dbd T n (pj_up M 203 8 (p : Int)) := by
  obtain ⟨h1, h2, h3, h4⟩ := h
  have := h1.2.1
  refine ⟨h1.wr ⟨by omega, by omega⟩, by rw [pu_eq]; omega, ?_⟩
  rw [pu_eq]
  exact Or.inr ⟨p, rfl, hlt, hok, h4⟩
theorem dgd.fin {p : Nat} (h : dgd T n M p) (he : (p : Int) = n) (hne : (dst T p).1 ≠ 0) : dbd T n (pj_up M 203 8 (p : Int)) := by
  obtain ⟨h1, h2, h3, h4⟩ := h
  have := h1.2.1
  refine ⟨h1.wr ⟨by omega, by omega⟩, by rw [pu_eq]; omega, ?_⟩
  rw [pu_eq]
  exact Or.inl ⟨Or.inr ⟨he, by rw [← he, Int.toNat_natCast]; exact hne⟩, fun p' hp => h4 p' (by omega)⟩
theorem dgd.up {p : Nat} {k v : Int} (h : dgd T n M p) : dgd T n (pj_up M 227 k v) p := by
  obtain ⟨h1, h2, h3, h4⟩ := h
  exact ⟨h1.up (by decide) (by decide), by rw [pu_ne (by decide)]; exact h2, by rw [pu_ne (by decide)]; exact h3, h4⟩
theorem dbd.up {k v : Int} (h : dbd T n M) : dbd T n (pj_up M 227 k v) := by
  obtain ⟨h1, h2, h3⟩ := h
  exact ⟨h1.up (by decide) (by decide), by rw [pu_ne (by decide)]; exact h2, by rw [pu_ne (by decide)]; exact h3⟩
theorem t_rdig {first many : Int} {p : Nat} {Q : Int → pj_M → Prop} (hf : 0 ≤ first ∧ 1 ≤ many ∧ first + many - 1 ≤ 127) (h : dgd T n M p ∨ dbd T n M) (hok : okD T p ↔ first ≤ T (p : Int) ∧ T (p : Int) ≤ first + many - 1) (hne : (dst T p).1 ≠ 0)
    (q0 : ∀ M', eqB M M' → dbd T n M' → M 203 7 ≤ M' 203 7 → Q 0 M')
    (q1 : dgd T n M p → (p : Int) < n → first ≤ T (p : Int) ∧ T (p : Int) ≤ first + many - 1 → ∀ M', eqB M M' → dgd T n M' (p + 1) → Q (T (p : Int) - first) M') : w_X12_oneOf 203 first many M Q := by
  rcases h with g | b
  · have h3 := g.2.2.1
    refine t_oneOf g.1 hf (fun h => absurd g.2.1 h) (fun _ hlt h1 h2 => ?_) (fun _ hno => ?_)
    · rw [h3] at hlt h1 h2 ⊢
      exact q1 g hlt ⟨h1, h2⟩ _ (eqB.up (Or.inl rfl)) (g.step hlt (hok.mpr ⟨h1, h2⟩))
    · rw [h3] at hno ⊢
      have hb : dbd T n (pj_up M 203 8 (p : Int)) := by
        by_cases hlt : (p : Int) < n
        · exact g.fault hlt (fun ho => hno ⟨hlt, hok.mp ho⟩)
        · exact g.fin (by have := g.1.2.2.1; omega) hne
      exact q0 _ (eqB.up (Or.inr rfl)) hb (by rw [pu_nk (by decide)]; omega)
  · exact t_oneOf b.1 hf (fun _ => q0 M eqB.rf b (Int.le_refl _)) (fun h => absurd h b.2.1) (fun h => absurd h b.2.1)
theorem t_readAct {P : Nat} {x1 : Int} {Q : pj_M → Prop} (h : dgd T n M P) (hlt : (P : Int) < n) (h0 : (dst T P).1 = 0) (hx : 0 ≤ x1 ∧ x1 + 2 < 240)
    (q0 : ∀ M', eqA M M' → dbd T n M' → M 203 7 ≤ M' 203 7 → Q M')
    (q1 : ∀ M' (L : Nat), dln (T (P : Int)) = (L : Int) → (L = 3 ∨ L = 4) → eqA M M' → dgd T n M' (P + L) → (dst T (P + L)).1 = 0 → M' 227 x1 = dkd (T (P : Int)) → M' 227 (x1 + 1) = dPl T (P : Int) → M' 227 (x1 + 2) = dSg T (P : Int) → (0 ≤ dPl T (P : Int) ∧ dPl T (P : Int) ≤ 99) → (0 ≤ dSg T (P : Int) ∧ dSg T (P : Int) ≤ 7) → (∀ x, x < x1 → M' 227 x = M 227 x) → Q M') : w_X12_readAct 203 x1 M Q := by
  have r := h.1
  have h7 := h.2.2.1
  have hT := hrf_lt (T := T) hlt
  have tb := r.tb (k := (P : Int)) (by omega) hlt
  have c1 : ((P + 1 : Nat) : Int) = (P : Int) + 1 := by omega
  have c2 : ((P + 2 : Nat) : Int) = (P : Int) + 2 := by omega
  have c3 : ((P + 3 : Nat) : Int) = (P : Int) + 3 := by omega
  have go : ∀ y0, y0 = dkd (T (P : Int)) → (0 ≤ y0 ∧ y0 ≤ 2) → dln (T (P : Int)) = (if y0 = 2 then 3 else 4) → w_X12_readAct_36 203 x1 y0 Q M := by
    intro y0 hy hyb hln
    have hL : dln (T (P : Int)) = 3 ∨ dln (T (P : Int)) = 4 := by rw [hln]; split; exact Or.inl rfl; exact Or.inr rfl
    obtain ⟨d1, d2, d3, d4⟩ := dst_run h0 hL
    have hL0 : dln (T (P : Int)) ≠ 0 := by omega
    have g1 := h.step hlt ((okD_0 h0).mpr hL0)
    unfold w_X12_readAct_36
    refine ⟨⟨by omega, by omega⟩, fun _ => ?_, fun h' => by omega⟩
    rw [h7, rm_36]
    rintro M1 rfl
    refine ⟨⟨by omega, by omega⟩, ?_⟩
    rintro M2 rfl
    have g2 : dgd T n (pj_up (pj_up M 203 7 ((P : Int) + 1)) 227 x1 y0) (P + 1) := g1.up
    have e2 : eqA M (pj_up (pj_up M 203 7 ((P : Int) + 1)) 227 x1 y0) := (eqA.b (eqB.up (Or.inl rfl))).tr eqA.up
    have z7 : pj_up (pj_up M 203 7 ((P : Int) + 1)) 227 x1 y0 203 7 = (P : Int) + 1 := by rw [pu_ne (by decide), pu_eq]
    have a2 : ∀ x, pj_up (pj_up M 203 7 ((P : Int) + 1)) 227 x1 y0 227 x = if x = x1 then y0 else M 227 x := fun x => by
      by_cases e : x = x1
      · rw [if_pos e, e, pu_eq]
      · rw [if_neg e, pu_nk e, pu_ne (by decide)]
    generalize pj_up (pj_up M 203 7 ((P : Int) + 1)) 227 x1 y0 = M2 at g2 e2 z7 a2 ⊢
    have badfin : ∀ M3, eqA M M3 → dbd T n M3 → M 203 7 ≤ M3 203 7 → ∀ t11 : Int, ((0 : Int) ≤ (x1 + 1) ∧ (x1 + 1) < 240) ∧ ∀ M13 : pj_M, M13 = pj_up M3 227 (x1 + 1) t11 → (pj_in y0) ∧ ((¬ y0 = 2 → w_X12_oneOf 203 97 8 M13 (fun (t16 : Int) (M15 : pj_M) => w_X12_readAct_104 227 (x1 + 2) t16 Q M15)) ∧ (y0 = 2 → w_X12_readAct_104 227 (x1 + 2) 0 Q M13)) := by
      intro M3 e3 b3 a3 t11
      refine ⟨⟨by omega, by omega⟩, ?_⟩
      rintro M4 rfl
      have b4 : dbd T n (pj_up M3 227 (x1 + 1) t11) := b3.up
      have a4 : M 203 7 ≤ pj_up M3 227 (x1 + 1) t11 203 7 := by rw [pu_ne (by decide)]; exact a3
      have e4 : eqA M (pj_up M3 227 (x1 + 1) t11) := e3.tr eqA.up
      have lst : ∀ M5 v, eqA M M5 → dbd T n M5 → M 203 7 ≤ M5 203 7 → w_X12_readAct_104 227 (x1 + 2) v Q M5 := by
        intro M5 v e5 b5 a5
        unfold w_X12_readAct_104
        refine ⟨⟨by omega, by omega⟩, ?_⟩
        rintro M6 rfl
        exact q0 _ (e5.tr eqA.up) b5.up (by rw [pu_ne (by decide)]; exact a5)
      refine ⟨⟨by omega, by omega⟩, fun _ => ?_, fun _ => lst _ _ e4 b4 a4⟩
      exact t_oneOf b4.1 ⟨by decide, by decide, by decide⟩ (fun _ => lst _ _ e4 b4 a4) (fun h => absurd h b4.2.1) (fun h => absurd h b4.2.1)
    unfold w_X12_twoDigits
    refine t_rdig (p := P + 1) ⟨by decide, by decide, by decide⟩ (Or.inl g2) (okD_dig d1 (Or.inl rfl) hL0) (by rw [d1]; exact (show (1 : Int) ≠ 0 by decide)) (fun Ma ea ba ha => ?_) (fun _ hlt1 hd1 Ma ea ga => ?_)
    · exact t_oneOf ba.1 ⟨by decide, by decide, by decide⟩ (fun _ => badfin Ma (e2.tr (eqA.b ea)) ba (by omega) _) (fun h => absurd h ba.2.1) (fun h => absurd h ba.2.1)
    · have h7a := ga.2.2.1
      refine t_rdig (p := P + 2) ⟨by decide, by decide, by decide⟩ (Or.inl ga) (okD_dig d2 (Or.inr rfl) hL0) (by rw [d2]; exact (show (2 : Int) ≠ 0 by decide)) (fun Mb eb bb hb => badfin Mb ((e2.tr (eqA.b ea)).tr (eqA.b eb)) bb (by omega) _) (fun _ hlt2 hd2 Mb eb gb => ⟨⟨by omega, by omega⟩, ?_⟩)
      rw [c1] at hd1 ⊢
      rw [c2] at hd2 ⊢
      have eb2 : eqA M Mb := (e2.tr (eqA.b ea)).tr (eqA.b eb)
      have ab : ∀ x, Mb 227 x = if x = x1 then y0 else M 227 x := fun x => by rw [eb 227 x (by omega), ea 227 x (by omega)]; exact a2 x
      have hpl : 10 * (T ((P : Int) + 1) - 48) + (T ((P : Int) + 2) - 48) = dPl T (P : Int) := by unfold dPl; omega
      rw [hpl]
      rintro M4 rfl
      have hplb : 0 ≤ dPl T (P : Int) ∧ dPl T (P : Int) ≤ 99 := by rw [← hpl]; omega
      have g4 : dgd T n (pj_up Mb 227 (x1 + 1) (dPl T (P : Int))) (P + 3) := gb.up
      have e4 : eqA M (pj_up Mb 227 (x1 + 1) (dPl T (P : Int))) := eb2.tr eqA.up
      have a4 : ∀ x, pj_up Mb 227 (x1 + 1) (dPl T (P : Int)) 227 x = if x = x1 + 1 then dPl T (P : Int) else if x = x1 then y0 else M 227 x := fun x => by
        by_cases e : x = x1 + 1
        · rw [if_pos e, e, pu_eq]
        · rw [if_neg e, pu_nk e, ab x]
      generalize pj_up Mb 227 (x1 + 1) (dPl T (P : Int)) = M4 at g4 e4 a4 ⊢
      have h74 := g4.2.2.1
      have lst : ∀ M5 (L : Nat), dln (T (P : Int)) = (L : Int) → (L = 3 ∨ L = 4) → eqA M M5 → dgd T n M5 (P + L) → (dst T (P + L)).1 = 0 → (∀ x, M5 227 x = M4 227 x) → (0 ≤ dSg T (P : Int) ∧ dSg T (P : Int) ≤ 7) → w_X12_readAct_104 227 (x1 + 2) (dSg T (P : Int)) Q M5 := by
        intro M5 L hl hl2 e5 g5 hd0 w5 hsb
        unfold w_X12_readAct_104
        refine ⟨⟨by omega, by omega⟩, ?_⟩
        rintro M6 rfl
        refine q1 _ L hl hl2 (e5.tr eqA.up) g5.up hd0 ?_ ?_ pu_eq hplb hsb (fun x hx => ?_)
        · rw [pu_nk (by omega), w5, a4, if_neg (by omega), if_pos rfl, hy]
        · rw [pu_nk (by omega), w5, a4, if_pos rfl]
        · rw [pu_nk (by omega), w5, a4, if_neg (by omega), if_neg (by omega)]
      refine ⟨⟨by omega, by omega⟩, fun hne2 => ?_, fun he2 => ?_⟩
      · rw [if_neg hne2] at hln
        rw [hln, if_neg (show ¬ (4 : Int) = 3 by decide)] at d3
        have hsg : dSg T (P : Int) = T ((P : Int) + 3) - 97 := by unfold dSg; rw [if_neg (by rw [← hy]; exact hne2)]
        refine t_rdig (p := P + 3) ⟨by decide, by decide, by decide⟩ (Or.inl g4) (okD_sgn d3 (by decide)) (by rw [d3]; decide) (fun Mc ec bc hc => ?_) (fun _ hlt3 hd3 Mc ec gc => ?_)
        · unfold w_X12_readAct_104
          refine ⟨⟨by omega, by omega⟩, ?_⟩
          rintro M6 rfl
          exact q0 _ ((e4.tr (eqA.b ec)).tr eqA.up) bc.up (by rw [pu_ne (by decide)]; omega)
        · rw [c3] at hd3 ⊢
          rw [← hsg]
          exact lst Mc 4 hln (Or.inr rfl) (e4.tr (eqA.b ec)) gc (d4 hln) (fun x => ec 227 x (by omega)) (by rw [hsg]; omega)
      · rw [if_pos he2] at hln
        have hsg : dSg T (P : Int) = 0 := by unfold dSg; rw [if_pos (by rw [← hy]; exact he2)]
        rw [← hsg]
        exact lst M4 3 hln (Or.inl rfl) e4 g4 (by rw [d3, if_pos hln]) (fun _ => rfl) (by rw [hsg]; decide)
  unfold w_X12_readAct
  refine t_here r ?_
  rw [h7, hT]
  have tin : pj_in (T (P : Int)) := ⟨by omega, by omega⟩
  refine ⟨tin, fun n1 => ⟨tin, fun n2 => ⟨tin, fun n3 => ?_, fun e3 => go 2 ?_ (by decide) ?_⟩, fun e2 => go 1 ?_ (by decide) ?_⟩, fun e1 => go 0 ?_ (by decide) ?_⟩
  · unfold w_X12_readAct_36
    refine ⟨⟨by decide, by decide⟩, fun h' => absurd rfl h', fun _ => t_fault r (fun h' => absurd h.2.1 h') (fun _ => ?_)⟩
    rw [h7]
    have hz : dln (T (P : Int)) = 0 := by unfold dln; rw [if_neg (by omega), if_neg n3]
    exact q0 _ (eqA.b (eqB.up (Or.inr rfl))) (h.fault hlt (fun ho => (okD_0 h0).mp ho hz)) (by rw [pu_nk (by decide)]; omega)
  · rw [e3]; rfl
  · rw [e3]; rfl
  · rw [e2]; rfl
  · rw [e2]; rfl
  · rw [e1]; rfl
  · rw [e1]; rfl
end
