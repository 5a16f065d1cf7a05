theorem wdf_b {R k m : Nat} (p : Int) : 0 ≤ wdf R k m p ∧ wdf R k m p ≤ 7 := by
  unfold wdf
  have := ltf_8 (R := R) (k := (k / bcn R 8 ^ (m - 1 - p.toNat)) % bcn R 8)
  exact ⟨by omega, by omega⟩
section
variable {M : pj_M} {Q : Int → pj_M → Prop}
theorem m_sentences {n : Int} (s : msc M) (v : dvl (M 204)) (hn : pj_in n) (q : ∀ r o M', eqm M M' → msc M' → rwm M M' o → s_sentences (M 204) n r o → Q r M') : w_X12_sentences 203 n M Q := by
  unfold w_X12_sentences
  rintro M1 rfl
  have v1 : dvl (pj_up M 203 5 0 204) := by rw [z204]; exact v
  refine t_in hn ⟨by decide, by decide⟩ ⟨by decide, by decide⟩ (fun t ht hiff => ⟨in01 ht, fun h => ?_, fun h => q (-1) none _ (eqm.p eqp.z) s.up (rwm.p eqp.z) ⟨fun _ => ⟨rfl, rfl⟩, fun h' => by have := hiff.mpr h'; omega⟩⟩)
  have hnn : 0 ≤ n ∧ n ≤ 5 := hiff.mp (by omega)
  obtain ⟨m, rfl⟩ : ∃ m : Nat, n = (m : Int) := ⟨n.toNat, by omega⟩
  have hm : ((m : Int)).toNat = m := by omega
  rw [rm_0]
  refine t_signsNow (b := 204) s.up (Or.inl rfl) v1.1 (fun R M2 e2 f2 s2 hR => ?_)
  rw [z204] at hR
  have ee : eqp M M2 := eqp.z.tr e2
  refine t_bits (by have := hR.1; omega) ?_
  rw [bcn_9 hR.1]
  refine t_power (bcn_le R 8) (by omega) ?_
  have hpb := pw_b (bcn_le R 8) (show m ≤ 5 by omega)
  refine ⟨⟨by omega, by omega⟩, fun hle => ?_, fun hgt => q (-2) none M2 (eqm.p ee) s2 (rwm.p ee) ⟨fun h => absurd hnn h, fun _ => ⟨R, hR, fun _ => ⟨rfl, rfl⟩, fun h => by rw [hm] at h; omega⟩⟩⟩
  rintro M3 rfl
  unfold w_X12_sentences_55
  refine pj_lp_inv (fun y : Int × Int × pj_M => ∃ (k : Nat) (l : List Int), y.2.1 = (k : Int) ∧ k ≤ (bcn R 8) ^ m ∧ y.1 = scn (stD (M 204) R m) k ∧ eqm M y.2.2 ∧ msc y.2.2 ∧ rwsm y.2.2 l ∧ sfs (stD (M 204) R m) k (fun k => wls (wdf R k m) m) l) (fun y => ((((bcn R 8) ^ m : Nat) : Int) - y.2.1).toNat) ?_ (0, 0, _) ⟨0, [], rfl, Nat.zero_le _, rfl, (eqm.p ee).tr (eqm.t eqt2.z), s2.up, rwsm.nil, Or.inl ⟨fun k h => absurd h (Nat.not_lt_zero _), rfl⟩⟩
  rintro ⟨c, _, M3⟩ ⟨k, l, h1, hk, hc, e3, s3, rw3, fs3⟩ P hP
  dsimp only at h1 hc e3 s3 rw3 hP ⊢
  subst h1 hc
  have hsb := scn_b (S := stD (M 204) R m) k
  have g3 : M3 204 = M 204 := e3.at (by omega)
  unfold w_X12_sentences_55b
  refine ⟨⟨by omega, by omega⟩, ⟨by omega, by omega⟩, fun hend => ?_, fun hgo => t_layRow hR.1 (by omega) (by omega) (fun M4 f4 w4 => ?_)⟩
  · have : k = (bcn R 8) ^ m := by omega
    subst this
    exact q _ (some l) M3 e3 s3 rw3 ⟨fun h => absurd hnn h, fun _ => ⟨R, hR, fun h => by rw [hm] at h; omega, fun _ => by rw [hm]; exact ⟨rfl, l, rfl, fs3⟩⟩⟩
  rw [rm_0]
  have e4 : eqp M3 M4 := eqp.n (b := 208) (fun x => by unfold mpk; omega) f4
  have s4 : msc M4 := s3.eq (fun a a1 a2 => f4 a (by omega))
  have g4 : M4 204 = M 204 := (f4 204 (by decide)).trans g3
  refine t_isOf s4 (Or.inl rfl) (by rw [g4]; exact v.1) ⟨by omega, by omega⟩ (fun p p1 p2 => by rw [w4 p p1 p2]; exact wdf_b p) (fun t5 M5 ht5 e5 w5 _ s5 hi5 => ?_)
  have hS : t5 = 1 ↔ stD (M 204) R m k := by
    rw [hi5, g4]; unfold stD; rw [show sg (M4 208) 0 (m : Int) = sg (wdf R k m) 0 (m : Int) from sg_congr w4]
  have e35 := e4.tr e5
  have r5 : rwsm M5 l := rw3.p e35
  have em5 : eqm M M5 := e3.tr (eqm.p e35)
  have mu : ((((bcn R 8) ^ m : Nat) : Int) - ((k : Int) + 1)).toNat < ((((bcn R 8) ^ m : Nat) : Int) - (k : Int)).toNat := by omega
  refine ⟨in01 ht5, fun hne => ?_, fun hz => ?_⟩
  · have yS : stD (M 204) R m k := hS.mp (by omega)
    have fin : ∀ (M6 : pj_M) (l' : List Int), eqm M M6 → msc M6 → rwsm M6 l' → sfs (stD (M 204) R m) (k + 1) (fun k => wls (wdf R k m) m) l' → w_X12_sentences_116 203 (m : Int) (R : Int) (((bcn R 8) ^ m : Nat) : Int) (scn (stD (M 204) R m) k) (k : Int) (fun (x4 : Int) (x5 : Int) (M : pj_M) => P (x4, x5, M)) Q M6 := by
      intro M6 l' e6 s6 r6 f6
      unfold w_X12_sentences_116
      exact hP (scn (stD (M 204) R m) k + 1, (k : Int) + 1, M6) ⟨k + 1, l', by show (k : Int) + 1 = _; omega, by omega, by show scn _ k + 1 = _; rw [scn_s.1 yS], e6, s6, r6, f6⟩ mu
    unfold w_X12_sentences_87
    by_cases hz : scn (stD (M 204) R m) k = 0
    · have hnone := hsb.2.2 hz
      have hl0 : l = [] := by
        rcases fs3 with ⟨b1, b2⟩ | ⟨j, b1, b2, b3, b4⟩
        · exact b2
        · exact absurd b2 (hnone j b1)
      subst hl0
      refine pj_lp_inv (fun y : Int × pj_M => ∃ j : Nat, y.1 = (j : Int) ∧ j ≤ m ∧ eqt2 M5 y.2 ∧ rwsm y.2 (wls (wdf R k m) j)) (fun y => ((m : Int) - y.1).toNat) ?_ (0, M5) ⟨0, rfl, Nat.zero_le _, eqt2.rf, r5⟩
      rintro ⟨_, M6⟩ ⟨j, h1, hj, e6, r6⟩ P1 hP1
      dsimp only at h1 e6 r6 hP1 ⊢
      subst h1
      unfold w_X12_sentences_87b
      refine ⟨⟨by omega, by omega⟩, ⟨by omega, by omega⟩, fun hend => ?_, fun hgo2 => ⟨⟨by omega, by omega⟩, fun h => absurd hz h, fun _ => ⟨⟨by omega, by omega⟩, ?_⟩⟩⟩
      · have : j = m := by omega
        subst this
        exact fin M6 _ (em5.tr (eqm.t e6)) (s5.t e6) r6 (Or.inr ⟨k, by omega, yS, hnone, rfl⟩)
      · have hval : M6 208 (j : Int) = wdf R k m (j : Int) := by rw [e6.row (by decide) (by decide), w5, w4 (j : Int) (by omega) (by omega)]
        rw [rm_10, hval]
        have hwb := wdf_b (R := R) (k := k) (m := m) (j : Int)
        refine ⟨⟨by omega, by omega⟩, t_tellM r6 (by rw [wls_len]; omega) (fun M7 e7 r7 => hP1 ((j : Int) + 1, M7) ⟨j + 1, by show (j : Int) + 1 = _; omega, by omega, e6.tr e7, by rw [wls_s]; exact r7⟩ (by show ((m : Int) - ((j : Int) + 1)).toNat < ((m : Int) - (j : Int)).toNat; omega))⟩
    · have fs6 : sfs (stD (M 204) R m) (k + 1) (fun k => wls (wdf R k m) m) l := by
        rcases fs3 with ⟨b1, b2⟩ | ⟨j, b1, b2, b3, b4⟩
        · exfalso
          apply hz
          have hall : ∀ j : Nat, j ≤ k → scn (stD (M 204) R m) j = 0 := by
            intro j
            induction j with
            | zero => intro _; rfl
            | succ j ih => intro hj; rw [scn_s.2 (b1 j (by omega))]; exact ih (by omega)
          exact hall k (Nat.le_refl _)
        · exact Or.inr ⟨j, by omega, b2, b3, b4⟩
      refine pj_lp_inv (fun y : Int × pj_M => y = (0, M5)) (fun _ => 0) ?_ (0, M5) rfl
      rintro ⟨_, M6⟩ he P1 hP1
      obtain ⟨rfl, rfl⟩ := Prod.mk.inj he
      dsimp only
      unfold w_X12_sentences_87b
      refine ⟨⟨by omega, by omega⟩, ⟨by omega, by omega⟩, fun hend => fin _ l em5 s5 r5 fs6, fun hgo2 => ⟨⟨by omega, by omega⟩, fun h => fin _ l em5 s5 r5 fs6, fun h => absurd h hz⟩⟩
  · have nS : ¬ stD (M 204) R m k := fun h => by have := hS.mpr h; omega
    refine hP (scn (stD (M 204) R m) k, (k : Int) + 1, M5) ⟨k + 1, l, by show (k : Int) + 1 = _; omega, by omega, by show scn _ k = _; rw [scn_s.2 nS], em5, s5, r5, ?_⟩ mu
    rcases fs3 with ⟨b1, b2⟩ | ⟨j, b1, b2, b3, b4⟩
    · refine Or.inl ⟨fun j hj => ?_, b2⟩
      by_cases e : j = k
      · rw [e]; exact nS
      · exact b1 j (by omega)
    · exact Or.inr ⟨j, by omega, b2, b3, b4⟩
end
