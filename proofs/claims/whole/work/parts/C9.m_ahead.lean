section
variable {M : pj_M} {Q : Int → pj_M → Prop}
theorem m_ahead {i j : Int} (s : msc M) (v : dvl (M 204)) (hi : pj_in i) (hj : pj_in j) (q : ∀ r o M', eqm M M' → msc M' → rwm M M' o → s_fol (M 204) ((1 : Int) = 1) i j r o → Q r M') : w_X12_ahead 203 i j M Q := by
  have hn := v.2.2.1
  unfold w_X12_ahead
  rintro M1 rfl
  have v1 : dvl (pj_up M 203 5 0 204) := by rw [z204]; exact v
  refine t_isPieceM v1 hi hj (fun t ht hiff => ⟨in01 ht, fun h => ?_, fun h => ?_⟩)
  · rw [z204] at hiff
    have hp : isPc (M 204) i j := hiff.mp (by omega)
    have hp' := hp
    unfold isPc at hp'
    rw [rm_0]
    refine t_layAll s.up v1 (fun M2 e2 f2 => ?_)
    rw [z204] at f2
    have ee : eqp M M2 := eqp.z.tr e2
    refine t_isF f2 hp.1 hp.2.1 hp.2.2 (fun t2 ht2 hi2 => ⟨in01 ht2, fun hne => ?_, fun hz => ?_⟩)
    · have hfd : FD (M 204) i j := hi2.mp (by omega)
      have s2 := f2.1.2.2.2.2.1
      have fin : ∀ (R : Nat) (M3 : pj_M), eqp M M3 → msc M3 → R < 512 → ((i < j ∧ i = 0 → R = 0) ∧ (¬ (i < j ∧ i = 0) → ∀ s', s' < 9 → (R.testBit s' = true ↔ fr_in (gr_of (M 204)) (M 204 1).toNat (tkn 8 s' :: plD (M 204) i j)))) → w_X12_ahead_199 203 (R : Int) Q M3 := by
        intro R M3 e3 s3 hR hbit
        unfold w_X12_ahead_199
        rintro M14 rfl
        refine t_bits hR ⟨⟨by omega, by have := bcn_le R 9; omega⟩, t_tellM rwsm.nil (by decide) (fun M4 e4 r4 => ?_)⟩
        exact q _ (some [(bcn R 9 : Int)]) M4 ((eqm.p e3).tr ((eqm.t eqt2.z).tr (eqm.t e4))) ((s3.t eqt2.z).t e4) r4 ⟨fun h => absurd hp h, fun _ => ⟨fun h => absurd hfd h, fun _ => ⟨R, rfl, hR, rfl, fun h => absurd rfl h, fun _ => hbit⟩⟩⟩
      have loop : ∀ fi la : Int, (fi = 1 ↔ i = 0 ∧ 0 < j) → (fi = 0 ∨ fi = 1) → (la = 1 ↔ i < j ∧ j = M 204 73 + 2) → (la = 0 ∨ la = 1) → w_X12_ahead_84 203 i j fi la Q 0 0 M2 := by
        intro fi la hfi hfi2 hla hla2
        unfold w_X12_ahead_84
        refine pj_lp_inv (fun y : Int × Int × pj_M => ∃ R s : Nat, y.1 = (R : Int) ∧ y.2.1 = (s : Int) ∧ s ≤ 9 ∧ eqp M y.2.2 ∧ msc y.2.2 ∧ (fi = 1 → R = 0) ∧ gth (M 204) ((1 : Int) = 1) i j R (if fi = 1 then 0 else s)) (fun y => (9 - y.2.1).toNat) ?_ (0, 0, M2) ⟨0, 0, rfl, rfl, by decide, ee, s2, fun _ => rfl, by decide, fun s' hs' => ⟨fun h => by simp at h, fun h => by have := h.1; split at this <;> omega⟩⟩
        rintro ⟨_, _, M3⟩ ⟨R, k, h1, h2, hk, e3, s3, hl0, hg⟩ P hP
        dsimp only at h1 h2 e3 s3 hP ⊢
        subst h1 h2
        have e204 : M3 204 = M 204 := e3.at (by omega)
        have v3 : dvl (M3 204) := by rw [e204]; exact v
        have hRb := hg.1
        unfold w_X12_ahead_84b
        refine ⟨⟨by omega, by omega⟩, fun hend => fin R M3 e3 s3 hRb ⟨fun h => hl0 (hfi.mpr ⟨h.2, by omega⟩), fun h s' hs' => ?_⟩, fun hgo => ⟨in01 hfi2, fun hln => fin R M3 e3 s3 hRb ⟨fun h => hl0 (by omega), fun h => absurd (by have := hfi.mp (by omega); omega) h⟩, fun hl => ⟨⟨by omega, by omega⟩, ?_⟩⟩⟩
        · have hnl : ¬ fi = 1 := fun h' => h (by have := hfi.mp h'; omega)
          rw [if_neg hnl] at hg
          rw [hg.2 s' hs']
          constructor
          · rintro ⟨_, ⟨h, _⟩ | ⟨_, h⟩⟩
            · exact absurd rfl h
            · exact h
          · exact fun h => ⟨by omega, Or.inr ⟨rfl, h⟩⟩
        · rw [if_neg (by omega)] at hg
          have hnf : ¬ (i = 0 ∧ 0 < j) := fun h => by have := hfi.mpr h; omega
          have hpl : plD (M 204) i j = pcu (M 204) i j ++ (if j = M 204 73 + 2 ∧ i < j then [9] else []) := by rw [pl_mid hn.1 hp, if_neg hnf, List.nil_append]
          have hcb := pcn_b (j := j) hn.1 hp'.1
          have one : ∀ (M4 : pj_M) (wl : Int), eqp M M4 → msc M4 → M4 203 14 = wl → (0 ≤ wl ∧ wl ≤ 15) → sg (M4 209) 0 wl = (if k < 8 then [k] else []) ++ pcu (M 204) i j → w_X12_ahead_128 203 i j fi la (R : Int) (k : Int) (fun x5 x6 M => P (x5, x6, M)) Q M4 := by
            intro M4 wl e4 s4 n4 hwl hsg
            have e4204 : M4 204 = M 204 := e4.at (by omega)
            unfold w_X12_ahead_128
            refine t_layT (w := M4 209) s4 (by rw [e4204]; exact v) n4 hwl (fun _ _ _ => rfl) (fun M5 e5 e9 f5 => ?_)
            rw [e4204] at f5
            have ee5 : eqp M M5 := e4.tr e5
            have s5 := f5.1.2.2.2.2.1
            have key : ∀ y2 : Int, y2 = (if j = M 204 73 + 2 ∧ i < j then wl + 2 else wl + 1) → ∀ y1 : Int, y1 = (if k < 8 then 1 else 0) → w_X12_ahead_165 203 i j fi la (R : Int) (k : Int) 203 y1 y2 (fun x5 x6 M => P (x5, x6, M)) Q M5 := by
              intro y2 hy2 y1 hy1
              have hS : pfit (gr_of (M 204)) (M 204 1).toNat (M4 209) wl y1 y2 ↔ ((¬ ((1 : Int) = 1) ∧ fr_in (gr_of (M 204)) (M 204 1).toNat (plD (M 204) i j ++ [tkn 9 k])) ∨ ((1 : Int) = 1 ∧ fr_in (gr_of (M 204)) (M 204 1).toNat (tkn 8 k :: plD (M 204) i j))) := by
                have hl : sg (fr_w (M4 209) wl) y1 y2 = tkn 8 k :: plD (M 204) i j := by
                  obtain ⟨g1, g2, g3⟩ := sg_fr1 (w := M4 209) hwl.1
                  rw [hy1, hy2, hpl]
                  by_cases hk8 : k < 8
                  · have ht : tkn 8 k = k := by unfold tkn; rw [if_neg (by omega)]
                    rw [if_pos hk8, ht]
                    rw [if_pos hk8] at hsg
                    by_cases hf : j = M 204 73 + 2 ∧ i < j
                    · rw [if_pos hf, if_pos hf, g3, hsg]; rfl
                    · rw [if_neg hf, if_neg hf, g1, hsg, List.append_nil]; rfl
                  · have ht : tkn 8 k = 8 := by unfold tkn; rw [if_pos (by omega)]; rfl
                    rw [if_neg hk8, ht]
                    rw [if_neg hk8, List.nil_append] at hsg
                    by_cases hf : j = M 204 73 + 2 ∧ i < j
                    · rw [if_pos hf, if_pos hf, sg_frame hwl.1, hsg]
                    · rw [if_neg hf, if_neg hf, g2, hsg, List.append_nil]
                unfold pfit
                rw [hl]
                exact ⟨fun h => Or.inr ⟨rfl, h⟩, fun h => by rcases h with ⟨h, _⟩ | ⟨_, h⟩; exact absurd rfl h; exact h⟩
              obtain ⟨st1, st2⟩ := hg.step (by omega) hS
              have hy1b : 0 ≤ y1 ∧ y1 ≤ 1 := by rw [hy1]; split <;> omega
              have hy2b : wl + 1 ≤ y2 ∧ y2 ≤ wl + 2 := by rw [hy2]; split <;> omega
              unfold w_X12_ahead_165
              have nxt : ∀ R' : Nat, gth (M 204) ((1 : Int) = 1) i j R' (k + 1) → P ((R' : Int), (k : Int) + 1, M5) := fun R' hg' => hP ((R' : Int), (k : Int) + 1, M5) ⟨R', k + 1, rfl, by show (k : Int) + 1 = _; omega, by omega, ee5, s5, fun h => by omega, by rw [if_neg (by omega)]; exact hg'⟩ (by show (9 - ((k : Int) + 1)).toNat < (9 - (k : Int)).toNat; omega)
              refine t_isF f5 hy1b.1 (by omega) (by omega) (fun t5 ht5 hi5 => ⟨in01 ht5, fun hz5 => nxt R (st2 (fun h => by have := hi5.mpr h; omega)), fun hn5 => ?_⟩)
              have yes := st1 (hi5.mp (by omega))
              unfold w_X12_ahead_190
              have hpow : 2 ^ k < 2 ^ 9 := Nat.pow_lt_pow_right (by decide) (by omega)
              refine ⟨⟨by omega, by omega⟩, fun h8 => ?_, fun h8 => ?_⟩
              · have hk8 : k = 8 := by omega
                subst hk8
                rw [show (256 : Int) = ((2 ^ 8 : Nat) : Int) from rfl, pb_or (by omega) (by decide)]
                rintro z rfl
                exact nxt _ yes
              · rw [pb_one (by omega), pb_or (by omega) (by omega)]
                rintro z rfl
                exact nxt _ yes
            have h145 : ∀ y1 : Int, y1 = (if k < 8 then 1 else 0) → w_X12_ahead_145 203 i j fi la (R : Int) (k : Int) 203 y1 (fun x5 x6 M => P (x5, x6, M)) Q M5 := by
              intro y1 hy1
              unfold w_X12_ahead_145
              rw [show M5 203 14 = wl from f5.1.2.1]
              exact ⟨in01 hla2, fun h0 => key _ (by rw [if_neg (fun h' => by have := hla.mpr ⟨h'.2, h'.1⟩; omega)]) y1 hy1, fun h0 => key _ (by rw [if_pos (by have := hla.mp (by omega); omega)]) y1 hy1⟩
            exact ⟨⟨by omega, by omega⟩, fun h => h145 0 (by rw [if_neg (by omega)]), fun h => h145 1 (by rw [if_pos (by omega)])⟩
          have lay : ∀ fr : Int, fr = (if k < 8 then 1 else 0) → w_X12_ahead_110 203 i j fi la (R : Int) (k : Int) 203 i j fr (fun x5 x6 M => P (x5, x6, M)) Q M3 := by
            intro fr hfr
            unfold w_X12_ahead_110
            refine t_layPiece s3 v3 (by rw [e204]; exact hp) (by rw [hfr]; split <;> omega) (fun M4 e4 s4 n4 w4 => ?_)
            rw [e204] at n4 w4
            refine ⟨⟨by omega, by omega⟩, fun h8 => ?_, fun h8 => ?_⟩
            · have hf0 : fr = 0 := by rw [hfr, if_neg (by omega)]
              rw [hf0] at n4 w4
              refine one M4 _ (e3.tr e4) s4 n4 ⟨by omega, by omega⟩ ?_
              rw [if_neg (by omega), List.nil_append]
              exact sg_shift (fun x x1 x2 => w4 x x1 x2)
            · have hf1 : fr = 1 := by rw [hfr, if_pos (by omega)]
              rw [hf1] at n4 w4
              rw [rm_13]
              rintro M34 rfl
              have hk8 : k < 8 := by omega
              refine one _ (1 + pcn (M 204 73) i j) ((e3.tr e4).tr (eqp.up (by unfold mpk; omega))) ?_ (by rw [pu_ne (by decide)]; exact n4) ⟨by omega, by omega⟩ ?_
              · have rb : ∀ c, c ≠ 209 → bz M4 c → bz (pj_up M4 209 0 (k : Int)) c := fun c h1 hh x => by rw [pu_ne h1]; exact hh x
                obtain ⟨a1, a2, a3, a4, a5, a6⟩ := s4
                refine ⟨rb 210 (by decide) a1, rb 211 (by decide) a2, rb 212 (by decide) a3, rb 213 (by decide) a4, rb 214 (by decide) a5, fun x => ?_⟩
                rw [pu_if]; split
                · omega
                · exact a6 x
              · rw [if_pos hk8, sg_cons (by omega), pu_eq, Int.toNat_natCast]
                show k :: sg _ (0 + 1) (1 + pcn (M 204 73) i j) = k :: pcu (M 204) i j
                congr 1
                rw [show (0 : Int) + 1 = 1 by omega]
                exact sg_shift (fun x x1 x2 => by rw [pu_nk (by omega)]; exact w4 x x1 x2)
          exact ⟨fun h8 => lay 0 (by rw [if_neg (by omega)]), fun h8 => lay 1 (by rw [if_pos (by omega)])⟩
      have h52 : ∀ fi : Int, (fi = 1 ↔ i = 0 ∧ 0 < j) → (fi = 0 ∨ fi = 1) → w_X12_ahead_52 203 i j fi Q M2 := by
        intro fi hfi hfi2
        unfold w_X12_ahead_52 w_X12_ahead_75 w_X12_ahead_76
        rw [rm_0, show M2 204 = M 204 from ee.at (by omega)]
        exact ⟨hj, ⟨by omega, by omega⟩, fun hne => loop fi 0 hfi hfi2 ⟨fun h => absurd h (by decide), fun h => absurd h.2 hne⟩ (Or.inl rfl), fun heq => ⟨hi, hj, fun hle => loop fi 0 hfi hfi2 ⟨fun h => absurd h (by decide), fun h => by omega⟩ (Or.inl rfl), fun hgt => loop fi 1 hfi hfi2 ⟨fun _ => ⟨by omega, heq⟩, fun _ => rfl⟩ (Or.inr rfl)⟩⟩
      unfold w_X12_ahead_51
      exact ⟨hi, fun hne0 => h52 0 ⟨fun h => absurd h (by decide), fun h => absurd h.1 hne0⟩ (Or.inl rfl), fun h0 => ⟨hj, fun hle => h52 0 ⟨fun h => absurd h (by decide), fun h => by omega⟩ (Or.inl rfl), fun hgt => h52 1 ⟨fun _ => ⟨h0, by omega⟩, fun _ => rfl⟩ (Or.inr rfl)⟩⟩
    · exact q (-2) none M2 (eqm.p ee) f2.1.2.2.2.2.1 (rwm.p ee) ⟨fun h => absurd hp h, fun _ => ⟨fun _ => ⟨rfl, rfl⟩, fun h => by have := hi2.mpr h; omega⟩⟩
  · rw [z204] at hiff
    exact q (-1) none _ (eqm.p eqp.z) s.up (rwm.p eqp.z) ⟨fun _ => ⟨rfl, rfl⟩, fun hp => by have := hiff.mpr hp; omega⟩
end
