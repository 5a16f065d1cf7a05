theorem vg_6 {D : Int → Int} (v : vg D) (k : Nat) (hk : k < (gr_of D).1) : (gr_of D).2.1 k < 6 := by
  have h0 : k < (D 0).toNat := hk
  have := v.1
  have := v.2.1 (k : Int) (by omega) (by omega)
  show (D (1 + 6 * (k : Int))).toNat < 6
  omega
theorem vg_4 {D : Int → Int} (v : vg D) (k : Nat) (hk : k < (gr_of D).1) : ((gr_of D).2.2 k).length ≤ 4 := by
  have h0 : k < (D 0).toNat := hk
  have := v.1
  have := v.2.2.1 (k : Int) (by omega) (by omega)
  rw [gr_of_sg, sg_len]
  omega
section
variable {M : pj_M} {Q : Int → pj_M → Prop}
theorem t_ndn (ok : mt_ok M 204) (v : dvl (M 204)) (mg : mgd M) (h14 : M 203 14 = M 204 73) (hw : leq (M 204 73) (M 209) (lw (M 204))) (q : ∀ r M', eqkc M M' → (0 ≤ r ∧ r ≤ 16399) → ndn (M 204) (lw (M 204)) (M 204 73) r → Q r M') : w_X12_neededOf 203 M Q := by
  have hn := v.2.2.1
  obtain ⟨wl, hwl⟩ : ∃ wl : Nat, M 204 73 = (wl : Int) := ⟨(M 204 73).toNat, by omega⟩
  have hst := v.1.2.1 0 (by decide) (by decide)
  rw [show (1 : Int) + 6 * 0 = 1 by decide] at hst
  refine t_neededOf (wl := wl) ok v.1 mg (by rw [h14]; exact hwl) (by omega) (fun M' e hx => ?_)
  obtain ⟨n, k1, k2⟩ := kl_ex (W := mW M) (vg_6 v.1) (vg_4 v.1) (Nat.zero_le wl) v.2.1
  rw [hx _ 0 wl n (by omega) (by omega) (Nat.le_refl _) k1 (by omega)]
  refine q _ M' e ⟨by omega, by omega⟩ ⟨n, rfl, ?_⟩
  rw [hwl, Int.toNat_natCast]
  exact kl_cw (fun m hm => by show (M 209 (m : Int)).toNat = _; rw [hw (m : Int) (by omega) (by omega)]) k1
theorem m_needed (s : msc M) (v : dvl (M 204)) (q : ∀ r o M', eqm M M' → msc M' → rwm M M' o → s_needed (M 204) r o → Q r M') : w_X12_needed 203 M Q := by
  have hn := v.2.2.1
  unfold w_X12_needed
  rintro M1 rfl
  have v1 : dvl (pj_up M 203 5 0 204) := by rw [z204]; exact v
  rw [rm_0]
  refine t_layAllG s.up v1 (fun M2 e2 f2 w2 mg2 => ?_)
  rw [z204] at f2 w2
  have ee : eqp M M2 := eqp.z.tr e2
  have g2 : M2 204 = M 204 := ee.at (by omega)
  refine t_layReport (bh := fun j => j) f2 hn (Or.inl rfl) (fun j _ h => ⟨Int.le_refl _, h⟩) (fun _ _ => rfl) (fun h => absurd h (by decide)) (fun M3 l e3 r3 hl hr => ?_)
  rintro M4 rfl
  have h22 : pj_up M3 203 4 0 203 22 = (l.length : Int) := by rw [pu_nk (by decide)]; exact r3.1
  rw [h22]
  refine ⟨⟨by omega, by omega⟩, t_tellM (l := []) rwsm.nil (by decide) (fun M5 e5 r5 => ?_)⟩
  have e45 : eqt2 M3 M5 := eqt2.z.tr e5
  have f5 := (f2.z e3).t e45
  have g5 : M5 204 = M 204 := by rw [e45.row (by decide) (by decide), e3.row (by decide) (by decide), g2]
  have v5 : dvl (M5 204) := by rw [g5]; exact v
  have mg5 : mgd M5 := (mg2.eq (M' := M3) (e3.row (by decide) (by decide)) (e3 203 12 (by decide))).eq (e45.row (by decide) (by decide)) (e45 203 12 (by decide) (by decide))
  have w5 : M5 209 = M2 209 := by rw [e45.row (by decide) (by decide), e3.row (by decide) (by decide)]
  refine t_ndn (mkok f5.1.1 (Or.inl rfl) v5.1 f5.1.2.2.2.2.1) v5 mg5 (by rw [g5]; exact f5.1.2.1) (by rw [g5, w5]; exact w2) (fun r M6 e6 _ hnd => ?_)
  rw [g5] at hnd
  refine q r (some [(l.length : Int)]) M6 ((((eqm.p ee).tr (eqm.p e3.p)).tr (eqm.t e45)).tr (eqm.p e6.p)) (f5.1.2.2.2.2.1.eq (fun a a1 a2 => e6 a (by omega) (by omega) (by omega))) ?_ ⟨hnd, _, ⟨l, hl, rfl, hr⟩, rfl⟩
  show rwsm M6 _
  unfold rwsm
  rw [e6 203 (by decide) (by decide) (by decide), e6 206 (by decide) (by decide) (by decide)]
  exact r5
end
