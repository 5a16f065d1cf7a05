theorem t_pairOf {M : pj_M} {s side : Int} {Q : Int → pj_M → Prop} (v : dvl (M 204)) (hs : pj_in s) (hsd : side = 0 ∨ side = 1) (q : ∀ r, (r = -1 ∧ (∀ k, 0 ≤ k → k < M 204 88 → M 204 (89 + (2 * k + side)) ≠ s) ∨ (0 ≤ r ∧ r < M 204 88 ∧ M 204 (89 + (2 * r + side)) = s)) → Q r M) : w_X12_pairOf 203 s side M Q := by
  have hp := v.2.2.2.2
  have hp1 := hp.1
  unfold w_X12_pairOf w_X12_pairOf_2
  refine pj_lp_inv (fun y : Int × pj_M => (0 ≤ y.1 ∧ y.1 ≤ M 204 88) ∧ y.2 = M ∧ ∀ k, 0 ≤ k → k < y.1 → M 204 (89 + (2 * k + side)) ≠ s) (fun y => (M 204 88 - y.1).toNat) ?_ (0, M) ⟨⟨Int.le_refl _, hp1.1⟩, rfl, fun k k1 k2 => by have : k < 0 := k2; omega⟩
  rintro ⟨k, Mx⟩ ⟨hk, hM, hno⟩ P hP
  dsimp only at hk hM hno hP ⊢
  have hM' := hM.symm
  subst hM'
  unfold w_X12_pairOf_2b
  rw [rm_0]
  refine ⟨⟨by omega, by omega⟩, ⟨by omega, by omega⟩, fun hend => q (-1) (Or.inl ⟨rfl, fun x x1 x2 => hno x x1 (by omega)⟩), fun hgo => ⟨⟨by omega, by omega⟩, ?_, hs, fun hne => ?_, fun heq => ?_⟩⟩
  · have := hp.2.1 (2 * k + side) (by omega) (by omega)
    rw [show 89 + 2 * k + side = 89 + (2 * k + side) by omega]
    have this' : 0 ≤ M 204 (89 + (2 * k + side)) ∧ M 204 (89 + (2 * k + side)) ≤ 7 := this
    exact ⟨by omega, by omega⟩
  · rw [show 89 + 2 * k + side = 89 + (2 * k + side) by omega] at hne
    refine hP (k + 1, M) ⟨⟨by show 0 ≤ k + 1; omega, by show k + 1 ≤ M 204 88; omega⟩, rfl, fun x x1 x2 => ?_⟩ (by show (M 204 88 - (k + 1)).toNat < (M 204 88 - k).toNat; omega)
    have x2' : x < k + 1 := x2
    by_cases e : x = k
    · rw [e]; exact hne
    · exact hno x x1 (by omega)
  · rw [show 89 + 2 * k + side = 89 + (2 * k + side) by omega] at heq
    exact q k (Or.inr ⟨hk.1, by omega, heq⟩)
/-- the model's mates -/
def eqy (M M' : pj_M) : Prop := ∀ a, a ≠ 217 → a ≠ 218 → M' a = M a
theorem eqy.rf {M : pj_M} : eqy M M := fun _ _ _ => rfl
theorem eqy.tr {M M1 M2 : pj_M} (h : eqy M M1) (h2 : eqy M1 M2) : eqy M M2 := fun a h3 h4 => (h2 a h3 h4).trans (h a h3 h4)
theorem eqy.up {M : pj_M} {a : Nat} {k v : Int} (h : a = 217 ∨ a = 218) : eqy M (pj_up M a k v) := fun b h1 h2 => pu_row (by omega)
theorem eqy.p {M M' : pj_M} (h : eqy M M') : eqp M M' := fun c x hc => by rw [h c (by unfold mpk at hc; omega) (by unfold mpk at hc; omega)]
theorem t_layMates {M : pj_M} {Q : pj_M → Prop} (v : dvl (M 204)) (q : ∀ M', eqy M M' → (∀ x, 0 ≤ x → x < 16 → M' 217 x = mtD (M 204) x) → Q M') : w_X12_layMates 203 M Q := by
  have hn := v.2.2.1
  have hp := v.2.2.2.2
  have hsg := v.2.2.2.1
  let pf : Int → Int := fun k => M 204 (89 + k)
  have hpf : pds pf (M 204 88) := hp
  have eqz' : ∀ M', eqy M M' → (∀ x, 0 ≤ x → x < 16 → M' 217 x = 0) → w_X12_layMates_25 203 Q 0 1 M' := by
    intro M' e0 z0
    unfold w_X12_layMates_25
    refine pj_lp_inv (fun y : Int × Int × pj_M => ∃ p : Nat, y.2.1 = (p : Int) + 1 ∧ (p : Int) ≤ M 204 73 ∧ y.1 = (mst pf (M 204 88) (lw (M 204)) p).1 ∧ eqy M y.2.2 ∧ mtr 217 218 y.2.2 (mst pf (M 204 88) (lw (M 204)) p)) (fun y => (M 204 73 + 1 - y.2.1).toNat) ?_ (0, 1, M') ⟨0, rfl, hn.1, rfl, e0, fun k h1 h2 => by have : k < 0 := h2; omega, fun x h1 h2 => z0 x h1 h2⟩
    rintro ⟨wc, _, M1⟩ ⟨p, h1, hpp, h2, e1, tr⟩ P hP
    dsimp only at h1 h2 e1 tr hP ⊢
    subst h1
    have hb := mst_b pf (M 204 88) (lw (M 204)) p
    have hs1 : mst pf (M 204 88) (lw (M 204)) (p + 1) = mst1 pf (M 204 88) (lw (M 204)) ((p : Int) + 1) (mst pf (M 204 88) (lw (M 204)) p) := rfl
    have hfin : (p : Int) = M 204 73 → mtD (M 204) = (mst pf (M 204 88) (lw (M 204)) p).2.2 := fun h => by unfold mtD mtf; rw [← h, Int.toNat_natCast]
    generalize mst pf (M 204 88) (lw (M 204)) p = s at h2 tr hb hs1 hfin
    subst h2
    have e204 : M1 204 = M 204 := e1 204 (by decide) (by decide)
    have v1 : dvl (M1 204) := by rw [e204]; exact v
    unfold w_X12_layMates_25b
    rw [rm_0, rm_24, e204]
    refine ⟨⟨by omega, by omega⟩, ⟨by omega, by omega⟩, fun hend => q M1 e1 (fun x x1 x2 => by rw [hfin (by omega)]; exact tr.2 x x1 x2), fun hgo => ⟨⟨by omega, by omega⟩, ?_⟩⟩
    rintro z hz
    have hzb := hsg (p : Int) (by omega) (by omega)
    have hzw : z = lw (M 204) ((p : Int) + 1 - 1) := by
      rw [hz]; show M 204 (74 + ((p : Int) + 1) - 1) = M 204 (74 + ((p : Int) + 1 - 1)); congr 1; omega
    have hzb' : 0 ≤ z ∧ z ≤ 7 := by rw [hz, show 74 + ((p : Int) + 1) - 1 = 74 + (p : Int) by omega]; exact hzb
    have hkb := kdf_b (pf := pf) (np := M 204 88) (s := z) hp.1.1
    have nxt : ∀ (M2 : pj_M) (wc' : Int), eqy M M2 → wc' = (mst pf (M 204 88) (lw (M 204)) (p + 1)).1 → mtr 217 218 M2 (mst pf (M 204 88) (lw (M 204)) (p + 1)) → P (wc', (p : Int) + 1 + 1, M2) := by
      intro M2 wc' g1 g5 g6
      exact hP (wc', (p : Int) + 1 + 1, M2) ⟨p + 1, by show (p : Int) + 1 + 1 = _; omega, by omega, g5, g1, g6⟩ (by show (M 204 73 + 1 - ((p : Int) + 1 + 1)).toNat < (M 204 73 + 1 - ((p : Int) + 1)).toNat; omega)
    rw [hs1] at nxt
    unfold mst1 at nxt
    rw [← hzw] at nxt
    have hdn := hp.1
    have hsin : pj_in z := ⟨by omega, by omega⟩
    generalize hvk : kdf pf (M 204 88) z = vk at hkb nxt
    have op : ∀ k, 0 ≤ k → k < M 204 88 → (M 204 (89 + (2 * k + 0)) = z ↔ vk = 2 * k) := fun k k1 k2 => by
      have h := (kdf_iff (s := z) (u := 2 * k) hpf ⟨by omega, by omega⟩)
      rw [hvk] at h
      rw [show 2 * k + 0 = 2 * k by omega]
      exact h.symm
    have cl : ∀ k, 0 ≤ k → k < M 204 88 → (M 204 (89 + (2 * k + 1)) = z ↔ vk = 2 * k + 1) := fun k k1 k2 => by
      have h := (kdf_iff (s := z) (u := 2 * k + 1) hpf ⟨by omega, by omega⟩)
      rw [hvk] at h
      exact h.symm
    refine t_pairOf v1 hsin (Or.inl rfl) (fun r hr => ?_)
    rw [e204] at hr
    have hrv : (r = -1 ∧ ¬ (vk ≠ -1 ∧ vk % 2 = 0)) ∨ (0 ≤ r ∧ r < M 204 88 ∧ vk = 2 * r) := by
      rcases hr with ⟨h1, h2⟩ | ⟨h1, h2, h3⟩
      · left
        refine ⟨h1, fun h => ?_⟩
        exact h2 (vk / 2) (by omega) (by omega) ((op (vk / 2) (by omega) (by omega)).mpr (by omega))
      · right; exact ⟨h1, h2, (op r h1 h2).mp h3⟩
    refine ⟨⟨by omega, by omega⟩, fun hm1 => ?_, fun hnm => ⟨⟨by omega, by omega⟩, ?_⟩⟩
    · -- no opening one
      unfold w_X12_layMates_68
      refine t_pairOf v1 hsin (Or.inr rfl) (fun r2 hr2 => ?_)
      rw [e204] at hr2
      have hr2v : (r2 = -1 ∧ vk = -1) ∨ (0 ≤ r2 ∧ r2 < M 204 88 ∧ vk = 2 * r2 + 1) := by
        rcases hr2 with ⟨h1, h2⟩ | ⟨h1, h2, h3⟩
        · left
          refine ⟨h1, ?_⟩
          apply Classical.byContradiction
          intro hne
          have hodd : vk % 2 ≠ 0 := fun h => by rcases hrv with ⟨_, h'⟩ | ⟨h', _⟩; exact h' ⟨hne, h⟩; omega
          exact h2 (vk / 2) (by omega) (by omega) ((cl (vk / 2) (by omega) (by omega)).mpr (by omega))
        · right; exact ⟨h1, h2, (cl r2 h1 h2).mp h3⟩
      refine ⟨⟨by omega, by omega⟩, fun hne => ?_, fun hm2 => ?_⟩
      · -- a closing one
        have hvk1 : vk = 2 * r2 + 1 := by rcases hr2v with ⟨h, _⟩ | ⟨_, _, h⟩; exact absurd h hne; exact h
        rw [if_neg (by omega), if_neg (by omega)] at nxt
        have hlf := fun t : Nat => lfn_cut (P := fun k => lw (M 204) (s.2.1 k - 1)) (a := pf (vk - 1)) (t := t) s.1.toNat
        have hsp := lfn_sp (P := fun k => lw (M 204) (s.2.1 k - 1)) (a := pf (vk - 1)) s.1.toNat
        generalize hL : lfn (fun k => lw (M 204) (s.2.1 k - 1)) (pf (vk - 1)) s.1.toNat = L at nxt hlf hsp
        have done : ∀ t : Int, -1 ≤ t → t = L → w_X12_layMates_128 203 s.1 ((p : Int) + 1) t (fun x1 x2 M => P (x1, x2, M)) Q M1 := by
          rintro t ht0 rfl
          unfold w_X12_layMates_128
          rw [rm_23, rm_24]
          refine ⟨⟨by omega, by omega⟩, fun hge => ?_, fun hlt => ?_⟩
          · rw [if_neg (by omega)] at nxt
            have ht : 0 ≤ t ∧ t < s.1 := by omega
            have hw := hb.2.1 t ht.1 ht.2
            have htr := tr.1 t ht.1 ht.2
            refine ⟨⟨by omega, by omega⟩, ⟨by omega, by omega⟩, ?_⟩
            rintro M16 rfl
            rw [pu_ne (show (218 : Nat) ≠ 217 by decide), htr]
            refine ⟨⟨by omega, by omega⟩, ⟨by omega, by omega⟩, ?_⟩
            rintro M19 rfl
            refine nxt _ t ((e1.tr (eqy.up (Or.inl rfl))).tr (eqy.up (Or.inl rfl))) rfl ⟨fun k k1 k2 => ?_, fun x x1 x2 => ?_⟩
            · rw [pu_ne (by decide), pu_ne (by decide)]; exact tr.1 k k1 (by have : k < t := k2; omega)
            · show pj_up (pj_up M1 217 ((p : Int) + 1) (s.2.1 t)) 217 (s.2.1 t) ((p : Int) + 1) 217 x = fup (fup s.2.2 ((p : Int) + 1) (s.2.1 t)) (s.2.1 t) ((p : Int) + 1) x
              unfold fup
              by_cases a1 : x = s.2.1 t
              · rw [if_pos a1, a1, pu_eq]
              · rw [if_neg a1, pu_nk a1]
                by_cases a2 : x = (p : Int) + 1
                · rw [if_pos a2, a2, pu_eq]
                · rw [if_neg a2, pu_nk a2]; exact tr.2 x x1 x2
          · rw [if_pos (by omega)] at nxt
            exact nxt M1 s.1 e1 rfl tr
        unfold w_X12_layMates_90
        refine pj_lp_inv (fun y : Int × pj_M => (-1 ≤ y.1 ∧ y.1 < s.1) ∧ y.2 = M1 ∧ ∀ x, y.1 < x → x < s.1 → lw (M 204) (s.2.1 x - 1) ≠ pf (vk - 1)) (fun y => (y.1 + 1).toNat) ?_ (s.1 - 1, M1) ⟨⟨by show -1 ≤ s.1 - 1; omega, by show s.1 - 1 < s.1; omega⟩, rfl, fun x x1 x2 => by have : s.1 - 1 < x := x1; omega⟩
        rintro ⟨t, Mx⟩ ⟨ht, ht2, hno⟩ P5 hP5
        dsimp only at ht ht2 hno hP5 ⊢
        have ht2' := ht2.symm
        subst ht2'
        unfold w_X12_layMates_90b
        rw [rm_0, rm_24, e204]
        refine ⟨⟨by omega, by omega⟩, fun hneg => done t (by omega) ?_, fun hpos => ?_⟩
        · rcases hsp with ⟨g1, _⟩ | ⟨g1, g2, g3⟩
          · omega
          · exact absurd g3 (hno L (by omega) (by omega))
        · have htr := tr.1 t (by omega) ht.2
          have hw := hb.2.1 t (by omega) ht.2
          rw [htr]
          have hlw : M 204 (74 + s.2.1 t - 1) = lw (M 204) (s.2.1 t - 1) := by show _ = M 204 (74 + (s.2.1 t - 1)); congr 1; omega
          have hwb := hsg (s.2.1 t - 1) (by omega) (by omega)
          have hwb' : 0 ≤ lw (M 204) (s.2.1 t - 1) ∧ lw (M 204) (s.2.1 t - 1) ≤ 7 := hwb
          rw [hlw]
          refine ⟨⟨by omega, by omega⟩, ⟨by omega, by omega⟩, t_pairOf v1 ⟨by omega, by omega⟩ (Or.inl rfl) (fun r3 hr3 => ?_)⟩
          rw [e204] at hr3
          have hiff : r3 = r2 ↔ lw (M 204) (s.2.1 t - 1) = pf (vk - 1) := by
            have hpe : pf (vk - 1) = M 204 (89 + (2 * r2 + 0)) := by show M 204 (89 + (vk - 1)) = _; congr 1; omega
            have hr2b : 0 ≤ r2 ∧ r2 < M 204 88 := by rcases hr2v with ⟨h, _⟩ | ⟨h1, h2, _⟩; exact absurd h hne; exact ⟨h1, h2⟩
            rw [hpe]
            constructor
            · intro e
              rcases hr3 with ⟨h1, _⟩ | ⟨_, _, h3⟩
              · omega
              · rw [← h3, e]
            · intro e
              rcases hr3 with ⟨_, h2⟩ | ⟨h1, h2, h3⟩
              · exact absurd e.symm (h2 r2 hr2b.1 hr2b.2)
              · have := hp.2.2 (2 * r3 + 0) (2 * r2 + 0) (by omega) (by omega) (by omega) (by omega) (by show M 204 (89 + (2 * r3 + 0)) = M 204 (89 + (2 * r2 + 0)); rw [h3, e])
                omega
          refine ⟨⟨by omega, by omega⟩, ⟨by omega, by omega⟩, fun hx => ?_, fun hx => ?_⟩
          · refine done t (by omega) ?_
            have hfd := hiff.mp hx
            have := hlf (t.toNat + 1) (by omega) (fun x x1 x2 => hno x (by omega) (by omega))
            rw [this]
            show t = if lw (M 204) (s.2.1 ((t.toNat : Nat) : Int) - 1) = pf (vk - 1) then ((t.toNat : Nat) : Int) else _
            rw [show ((t.toNat : Nat) : Int) = t by omega, if_pos hfd]
          · refine hP5 (t + (-1), M1) ⟨⟨by show -1 ≤ t + (-1); omega, by show t + (-1) < s.1; omega⟩, rfl, fun x x1 x2 => ?_⟩ (by show (t + (-1) + 1).toNat < (t + 1).toNat; omega)
            have x1' : t + (-1) < x := x1
            by_cases e : x = t
            · rw [e]; exact fun h => hx (hiff.mpr h)
            · exact hno x (by omega) x2
      · have hv1 : vk = -1 := by rcases hr2v with ⟨_, h⟩ | ⟨h, _⟩; exact h; omega
        rw [if_pos hv1] at nxt
        exact nxt M1 s.1 e1 rfl tr
    · -- an opening one
      have hvk2 : vk = 2 * r := by rcases hrv with ⟨h, _⟩ | ⟨_, _, h⟩; exact absurd h hnm; exact h
      rw [if_neg (by omega), if_pos (by omega)] at nxt
      rintro M27 rfl
      have e27 : eqy M (pj_up M1 218 s.1 ((p : Int) + 1)) := e1.tr (eqy.up (Or.inr rfl))
      have e204' : pj_up M1 218 s.1 ((p : Int) + 1) 204 = M 204 := e27 204 (by decide) (by decide)
      unfold w_X12_layMates_68
      refine t_pairOf (by rw [e204']; exact v) hsin (Or.inr rfl) (fun r2 hr2 => ?_)
      rw [e204'] at hr2
      have hr2v : r2 = -1 := by
        rcases hr2 with ⟨h1, h2⟩ | ⟨h1, h2, h3⟩
        · exact h1
        · have := (cl r2 h1 h2).mp h3; omega
      refine ⟨⟨by omega, by omega⟩, fun hne => absurd hr2v hne, fun _ => ?_⟩
      refine nxt _ (s.1 + 1) e27 rfl ⟨fun k k1 k2 => ?_, fun x x1 x2 => ?_⟩
      · show pj_up M1 218 s.1 ((p : Int) + 1) 218 k = fup s.2.1 s.1 ((p : Int) + 1) k
        have k2' : k < s.1 + 1 := k2
        unfold fup
        by_cases e : k = s.1
        · rw [if_pos e, e, pu_eq]
        · rw [if_neg e, pu_nk e]; exact tr.1 k k1 (by omega)
      · rw [pu_ne (by decide)]; exact tr.2 x x1 x2
  unfold w_X12_layMates w_X12_layMates_4
  refine pj_lp_inv (fun y : Int × pj_M => (0 ≤ y.1 ∧ y.1 ≤ 16) ∧ eqy M y.2 ∧ ∀ x, 0 ≤ x → x < y.1 → y.2 217 x = 0) (fun y => (16 - y.1).toNat) ?_ (0, M) ⟨⟨Int.le_refl _, by show (0 : Int) ≤ 16; decide⟩, eqy.rf, fun x h1 h2 => by have : x < 0 := h2; omega⟩
  rintro ⟨p, M1⟩ ⟨hpb, e1, z1⟩ P hP
  dsimp only at hpb e1 z1 hP ⊢
  unfold w_X12_layMates_4b
  rw [rm_23]
  refine ⟨⟨by omega, by omega⟩, fun h => eqz' M1 e1 (fun x x1 x2 => z1 x x1 (by omega)), fun h => ⟨⟨by omega, by omega⟩, ?_⟩⟩
  rintro M2 rfl
  refine hP (p + 1, _) ⟨⟨by show 0 ≤ p + 1; omega, by show p + 1 ≤ 16; omega⟩, e1.tr (eqy.up (Or.inl rfl)), fun x x1 x2 => ?_⟩ (by show (16 - (p + 1)).toNat < (16 - p).toNat; omega)
  show pj_up M1 217 p 0 217 x = 0
  have x2' : x < p + 1 := x2
  by_cases e : x = p
  · rw [e, pu_eq]
  · rw [pu_nk e]; exact z1 x x1 (by omega)
theorem t_behind {M : pj_M} {D : Int → Int} {j : Int} {Q : Int → pj_M → Prop} (hm : ∀ x, 0 ≤ x → x < 16 → M 217 x = mtD D x) (hn : M 204 73 = D 73) (hb : 0 ≤ D 73 ∧ D 73 ≤ 14) (hj : 1 ≤ j ∧ j ≤ D 73 + 2) (q : Q (bhm (mtD D) j) M) : w_X12_behind 203 j M Q := by
  unfold w_X12_behind
  rw [rm_0, hn]
  refine t_min ⟨by omega, by omega⟩ ⟨by omega, by omega⟩ (fun r hr h1 h2 => ?_)
  have hcut : bhf (mtD D) j r.toNat = bhm (mtD D) j := by
    unfold bhm
    by_cases e : r = j - 1
    · rw [e]
    · have hr' : r = D 73 := by omega
      exact (bhf_cut (t := r.toNat) hj.1 (fun x hx => (mtD_b D hb.1 x).2 (by omega)) (j - 1).toNat (by omega)).symm
  unfold w_X12_behind_14
  refine pj_lp_inv (fun y : Int × pj_M => (0 ≤ y.1 ∧ y.1 ≤ r) ∧ y.2 = M ∧ bhf (mtD D) j y.1.toNat = bhm (mtD D) j) (fun y => y.1.toNat) ?_ (r, M) ⟨⟨by show 0 ≤ r; omega, Int.le_refl _⟩, rfl, hcut⟩
  rintro ⟨p, Mx⟩ ⟨hp, h4, h5⟩ P hP
  dsimp only at hp h4 h5 hP ⊢
  have h4' := h4.symm
  subst h4'
  unfold w_X12_behind_14b
  rw [rm_23]
  refine ⟨⟨by omega, by omega⟩, fun h => ?_, fun h => ?_⟩
  · rw [show p.toNat = 0 by omega] at h5
    rw [← h5] at q; exact q
  · rw [hm p hp.1 (by omega)]
    have := (mtD_b D hb.1 p).1
    rw [show p.toNat = (p - 1).toNat + 1 by omega] at h5
    unfold bhf at h5
    rw [show (((p - 1).toNat : Nat) : Int) + 1 = p by omega] at h5
    have low : mtD D p < j → P (p + (-1), M) := fun hlt => by
      rw [if_neg (by omega)] at h5
      exact hP (p + (-1), M) ⟨⟨by show 0 ≤ p + (-1); omega, by show p + (-1) ≤ r; omega⟩, rfl, by rw [← h5]; rfl⟩ (by show (p + (-1)).toNat < p.toNat; omega)
    refine ⟨⟨by omega, by omega⟩, ⟨by omega, by omega⟩, ⟨by omega, by omega⟩, fun hle => low (by omega), fun hgt => ⟨⟨by omega, by omega⟩, ⟨by omega, by omega⟩, ⟨by omega, by omega⟩, fun hlt => low hlt, fun hge => ⟨⟨by omega, by omega⟩, ?_⟩⟩⟩
    rw [if_pos (by omega)] at h5
    rw [h5]; exact q
section
variable {M : pj_M} {Q : Int → pj_M → Prop}
theorem m_led (s : msc M) (v : dvl (M 204)) (q : ∀ r o M', eqm M M' → msc M' → rwm M M' o → s_led (M 204) r o → Q r M') : w_X12_led 203 M Q := by
  have hn := v.2.2.1
  unfold w_X12_led
  rintro M1 rfl
  have v1 : dvl (pj_up M 203 5 0 204) := by rw [z204]; exact v
  rw [rm_0]
  refine t_layAll s.up v1 (fun M2 e2 f2 => ?_)
  rw [z204] at f2
  have ee : eqp M M2 := eqp.z.tr e2
  have e204 : M2 204 = M 204 := ee.at (by omega)
  refine t_layMates (by rw [e204]; exact v) (fun M3 e3 m3 => ?_)
  rw [e204] at m3
  have f3 : mft M3 (M 204 73) (FD (M 204)) := f2.eq (fun a ha => e3 a (by omega) (by omega)) (by rw [e3 203 (by decide) (by decide)]) (by rw [e3 203 (by decide) (by decide)])
  have e3204 : M3 204 = M 204 := (e3 204 (by decide) (by decide)).trans e204
  refine t_layReport (bh := bhm (mtD (M 204))) f3 hn (Or.inr rfl) (bhm_b hn.1) (fun h => absurd h (by decide)) (fun _ M' j Q' e' j1 j2 q' => t_behind (D := M 204) (fun x x1 x2 => by rw [e'.row (by decide) (by decide)]; exact m3 x x1 x2) (by rw [e'.row (by decide) (by decide), e3204]) hn ⟨j1, j2⟩ q') (fun M4 l e4 r4 hl hr => t_tellPiecesM r4 hl (rpt.b (by omega) (bhm_b hn.1) l 0 (Int.le_refl _) hr) (fun M5 e5 r5 => ?_))
  rw [e5 203 22 (by decide) (by decide), r4.1]
  exact q _ (some (flt l)) M5 ((((eqm.p ee).tr (eqm.p e3.p)).tr (eqm.p e4.p)).tr (eqm.t e5)) ((f3.z e4).t e5).1.2.2.2.2.1 r5 ⟨l, hl, hr, rfl, rfl⟩
theorem m_mate {p : Int} (s : msc M) (v : dvl (M 204)) (hp : pj_in p) (q : ∀ r o M', eqm M M' → msc M' → rwm M M' o → s_mate (M 204) p r o → Q r M') : w_X12_mate 203 p M Q := by
  have hn := v.2.2.1
  unfold w_X12_mate
  rintro M1 rfl
  have v1 : dvl (pj_up M 203 5 0 204) := by rw [z204]; exact v
  rw [rm_0, z204]
  refine t_in hp ⟨by decide, by decide⟩ ⟨by omega, by omega⟩ (fun t ht hiff => ⟨in01 ht, fun h => ?_, fun h => ?_⟩)
  · have hpp : 1 ≤ p ∧ p ≤ M 204 73 := hiff.mp (by omega)
    refine t_layMates v1 (fun M3 e3 m3 => ?_)
    rw [z204] at m3
    have hb := (mtD_b (M 204) hn.1 p).1
    have ee : eqp M M3 := eqp.z.tr e3.p
    have s3 : msc M3 := (s.up (k := 5) (v := 0)).eq (fun a a1 a2 => e3 a (by omega) (by omega))
    rw [rm_23, m3 p (by omega) (by omega)]
    refine ⟨⟨by omega, by omega⟩, ⟨by omega, by omega⟩, fun hne => ?_, fun hz => q (-2) none M3 (eqm.p ee) s3 (rwm.p ee) ⟨fun h => absurd hpp h, fun _ => ⟨fun _ => ⟨rfl, rfl⟩, fun h => absurd hz h⟩⟩⟩
    rintro M9 rfl
    have m9 : pj_up M3 203 4 0 217 p = mtD (M 204) p := by rw [pu_ne (by decide)]; exact m3 p (by omega) (by omega)
    rw [m9]
    have tell : ∀ x : Int, x = (if mtD (M 204) p < p then 1 else 0) → w_X12_mate_59 203 p 203 x Q (pj_up M3 203 4 0) := by
      intro x hx
      unfold w_X12_mate_59
      refine t_tellM rwsm.nil (by decide) (fun M4 e4 r4 => ⟨⟨by omega, by omega⟩, ?_⟩)
      rw [rm_23, e4.row (show (217 : Nat) ≠ 206 by decide) (by decide), m9]
      exact q _ (some [x]) M4 (((eqm.p ee).tr (eqm.t eqt2.z)).tr (eqm.t e4)) ((s3.t eqt2.z).t e4) r4 ⟨fun h => absurd hpp h, fun _ => ⟨fun h => absurd h hne, fun _ => ⟨rfl, by rw [hx]⟩⟩⟩
    exact ⟨⟨by omega, by omega⟩, ⟨by omega, by omega⟩, hp, fun hle => tell 0 (by rw [if_neg (by omega)]), fun hgt => tell 1 (by rw [if_pos (by omega)])⟩
  · exact q (-1) none _ (eqm.p eqp.z) s.up (rwm.p eqp.z) ⟨fun _ => ⟨rfl, rfl⟩, fun h' => by have := hiff.mpr h'; omega⟩
end
