section PXT
variable {l : Launch} {g : pj_G} {Z : pj_Z} {c0 s0 L : Nat} {M : pj_M} {t : Nat × Nat × Nat} {xs : Nat → Int32} {i : Int}
theorem px_inv_m {M1 M2 : pj_M} (h : INV M1) (e2 : eqm M1 M2) (s2 : msc M2) (w2 : rwm M1 M2 none) : INV M2 := h.q (o := none) eqq.rf h.cs ⟨rfl, rfl⟩ e2 s2 w2
/-- the end of a question that may throw: both say the same -/
theorem px_tail (pcA pcB pcC : Nat) {r r2 : Int} (hg : pj_ph g = true) (inv : INV M) (hc : c0 ≤ 601024 ∧ s0 ≤ 7293034) (h5 : M 203 5 = r) (hr : r = 0 ∨ r = 1) (hv : r = 0 → pj_in r2 ∧ M 228 0 = r2)
    (e0 : (pj_cd mdL_law).lookup pcA = some (.aload_n 2, 1)) (e1 : (pj_cd mdL_law).lookup (pcA + 1) = some (.invokevirtual 55, 3)) (e4 : (pj_cd mdL_law).lookup (pcA + 4) = some (.iload 5, 2)) (e6 : (pj_cd mdL_law).lookup (pcA + 6) = some (.if_icmp .eq 5, 3)) (hB : pcA + 11 = pcB)
    (f0 : (pj_cd mdL_law).lookup pcB = some (.iload 5, 2)) (f2 : (pj_cd mdL_law).lookup (pcB + 2) = some (.ifCond .ne 15, 3)) (f5 : (pj_cd mdL_law).lookup (pcB + 5) = some (.aload_n 3, 1)) (f6 : (pj_cd mdL_law).lookup (pcB + 6) = some (.iconst 0, 1)) (f7 : (pj_cd mdL_law).lookup (pcB + 7) = some (.laload, 1)) (f8 : (pj_cd mdL_law).lookup (pcB + 8) = some (.iload 6, 2)) (f10 : (pj_cd mdL_law).lookup (pcB + 10) = some (.i2l, 1)) (f11 : (pj_cd mdL_law).lookup (pcB + 11) = some (.lcmp, 1)) (f12 : (pj_cd mdL_law).lookup (pcB + 12) = some (.ifCond .eq 5, 3)) (hC : pcB + 17 = pcC) {off : Int} (f17 : (pj_cd mdL_law).lookup pcC = some (.goto off, 3)) (hoff : (pcC : Int) + off = 1287)
    (kk : pj_R l g mdL_law (px_XL t g L xs) Z pj_NK c0 s0 1287 (px_LS i) [] M) : pj_R l g mdL_law (px_XL t g L xs) Z pj_NK c0 s0 pcA (px_LS i ++ [(5, .int (pj_I r)), (6, .int (pj_I r2))]) [] M := by
  have fin : pj_R l g mdL_law (px_XL t g L xs) Z pj_NK c0 s0 pcC (px_LS i ++ [(5, .int (pj_I r)), (6, .int (pj_I r2))]) [] M :=
    pj_goto 1287 f17 hoff (pj_sub_ls (fun q hq => List.mem_append_left _ hq) kk)
  refine pj_aload_n (pcA + 1) 2 e0 rfl rfl rfl ?_
  refine px_call (pcA + 4) 12 [] [] px_o203 (s_X12_thrown (Q := fun r3 M3 => M3 = M ∧ r3 = r) hg px_o203 (by unfold w_X12_thrown; exact ⟨rfl, h5⟩)) plL_55 e1 rfl rfl rfl (Nat.zero_le _) ⟨by decide, by decide⟩ ⟨rfl, rfl⟩ hc (fun r3 M3 hw => ?_)
  obtain ⟨rfl, rfl⟩ := hw
  refine pj_iload (pcA + 6) 5 e4 rfl rfl ?_
  refine px_same pcB e6 (by omega) ?_
  refine pj_iload (pcB + 2) 5 f0 rfl rfl ?_
  refine pj_if_ne pcC (pcB + 5) f2 (by omega) rfl (by rcases hr with h | h <;> (rw [h]; exact ⟨by omega, by omega⟩)) (fun _ => fin) (fun h => ?_)
  obtain ⟨v1, v2⟩ := hv (Classical.not_not.mp h)
  refine pj_aload_n (pcB + 6) 3 f5 rfl rfl rfl ?_
  refine pj_iconst (pcB + 7) f6 rfl ?_
  refine pj_lald (k := 1) (pcB + 8) f7 rfl rfl (by decide) (by decide) (by decide) (by decide) (by decide) ?_
  refine pj_iload (pcB + 10) 6 f8 rfl rfl ?_
  refine pj_i2l (pcB + 11) f10 rfl v1 ?_
  rw [v2]
  refine px_lsame (pcB + 12) f11 rfl ?_
  exact pj_if_eq pcC (pcB + 15) f12 (by omega) rfl ⟨by decide, by decide⟩ (fun _ => fin) (fun h => absurd rfl h)
set_option maxRecDepth 100000 in
set_option maxHeartbeats 4000000 in
theorem lc_symbol (hg : pj_ph g = true) (hl : l.stackTraces = false) (inv : INV M) (hL : L < 2147483648) (h0 : 0 ≤ i) (h1 : i + 4 < L) (hc : c0 + 1 ≤ 601024 ∧ s0 + 6 ≤ 7293034) (kk : ∀ M', INV M' → pj_R l g mdL_law (px_XL t g L xs) Z pj_NK (c0 + 1) (s0 + 6) 1287 (px_LS i) [] M') : pj_R l g mdL_law (px_XL t g L xs) Z pj_NK c0 s0 297 (px_LS i) [] M := by
  have gv : gvl M 14 := inv.dr.1.1
  have dA : M 14 3 = M 204 0 := inv.dr.1.2.1
  have dB : ∀ k, 0 ≤ k → k < M 204 0 → M 16 k = M 204 (1 + 6 * k + 1) ∧ ∀ s, 0 ≤ s → s < M 204 (1 + 6 * k + 1) → M 17 (k * 4 + s) = M 204 (1 + 6 * k + 2 + s) := fun k k1 k2 => (inv.dr.1.2.2.1 k k1 k2).2
  have g3 : 1 ≤ M 14 3 ∧ M 14 3 ≤ 12 := gv.1
  have g16 : ∀ k, 0 ≤ M 16 k ∧ M 16 k ≤ 4 := gv.2.2.1
  have g17 : ∀ k, 0 ≤ M 17 k ∧ M 17 k ≤ 13 := gv.2.2.2.1
  refine pj_aload_n 298 1 rfl rfl rfl rfl ?_
  refine px_arg (ex := []) 304 1 hL (by omega) (by omega) rfl rfl rfl rfl rfl rfl ?_
  refine px_arg (ex := []) 310 2 hL (by omega) (by omega) rfl rfl rfl rfl rfl rfl ?_
  obtain ⟨a, ha⟩ : ∃ a, a = px_x xs (i + 1) := ⟨_, rfl⟩
  obtain ⟨b, hb⟩ : ∃ b, b = px_x xs (i + 2) := ⟨_, rfl⟩
  have ina : pj_in a := by rw [ha]; exact px_x_in
  have inb : pj_in b := by rw [hb]; exact px_x_in
  rw [← ha, ← hb]
  refine pj_aload_n 311 3 rfl rfl rfl rfl ?_
  refine px_callL 314 (As := [.ref 0, .int (pj_I a), .int (pj_I b), .ref 228]) (st := []) (Y := px_Y t g) rfl plL_49 rfl rfl rfl (Nat.zero_le _) ⟨⟨by decide, by decide⟩, hc.1, hc.2⟩ (fun s h => h.1) (fun s U locs a b c => c.go a b) (fun U gg mk a h => h.calling)
    (t_Lsymbol (Q := fun r M1 => INV M1 ∧ M1 204 = M 204 ∧ ((¬ (0 ≤ a ∧ a < M 204 0 ∧ 0 ≤ b ∧ b < M 204 (1 + 6 * a + 1)) ∧ r = 1) ∨ ((0 ≤ a ∧ a < M 204 0 ∧ 0 ≤ b ∧ b < M 204 (1 + 6 * a + 1)) ∧ r = 0 ∧ M1 228 0 = M 204 (1 + 6 * a + 2 + b) ∧ pj_in (M 204 (1 + 6 * a + 2 + b))))) hg hl ina inb ⟨⟨by omega, by omega⟩, by omega⟩ (fun _ _ => ⟨⟨by have := g16 a; omega, by have := g16 a; omega⟩, (g16 a).2⟩) (fun _ => ⟨by have := g17 (a * 4 + b); omega, by have := g17 (a * 4 + b); omega⟩)
      (fun hn => ⟨inv, rfl, Or.inl ⟨fun hq => hn ⟨hq.1, by omega, hq.2.2.1, by rw [(dB a hq.1 hq.2.1).1]; exact hq.2.2.2⟩, rfl⟩⟩)
      (fun hy => ⟨px_inv_up inv, px_up (by decide), Or.inr (by
        have e1 := dB a hy.1 (by omega)
        have e2 := hy.2.2.2
        rw [e1.1] at e2
        have e3 := e1.2 b hy.2.2.1 e2
        have e4 := g17 (a * 4 + b)
        rw [e3] at e4
        exact ⟨⟨hy.1, by omega, hy.2.2.1, e2⟩, rfl, by rw [← e3]; simp [pj_up], ⟨by omega, by omega⟩⟩)⟩)) ?_
  intro v n' M1 hq
  obtain ⟨rfl, r, rfl, inv1, g1, hq⟩ := hq
  refine pj_istore (ls' := px_LS i ++ [(5, .int (pj_I r))]) 316 rfl (by decide) rfl rfl ?_
  refine pj_aload_n 317 2 rfl rfl rfl rfl ?_
  refine px_arg (ex := [(5, .int (pj_I r))]) 323 1 hL (by omega) (by omega) rfl rfl rfl rfl rfl rfl ?_
  refine px_arg (ex := [(5, .int (pj_I r))]) 329 2 hL (by omega) (by omega) rfl rfl rfl rfl rfl rfl ?_
  rw [← ha, ← hb]
  refine px_call 332 12 [.int (pj_I a), .int (pj_I b)] [] px_o203 (s_X12_symbol (Q := fun r2 M2 => INV M2 ∧ M2 203 5 = r ∧ (r = 0 ∨ r = 1) ∧ (r = 0 → pj_in r2 ∧ M2 228 0 = r2)) hg px_o203 (m_symbol inv1.m (by rw [g1]; exact inv.v) ina inb (fun hn M2 e2 s2 w2 h5 => ?_) (fun hy M2 e2 s2 w2 h5 => ?_))) plL_54 rfl rfl rfl rfl (Nat.zero_le _) ⟨by decide, by decide⟩ ⟨rfl, rfl⟩ hc (fun r2 M2 hw => ?_)
  · rw [g1] at hn
    rcases hq with ⟨_, rfl⟩ | ⟨hq, _⟩
    · exact ⟨px_inv_m inv1 e2 s2 w2, h5, Or.inr rfl, fun h => absurd h (by decide)⟩
    · exact absurd hq hn
  · rw [g1] at hy ⊢
    rcases hq with ⟨hq, _⟩ | ⟨_, rfl, k1, k2⟩
    · exact absurd hy hq
    · exact ⟨px_inv_m inv1 e2 s2 w2, h5, Or.inl rfl, fun _ => ⟨k2, by rw [e2.at (by decide)]; exact k1⟩⟩
  obtain ⟨inv2, h5, hr, hv⟩ := hw
  refine pj_istore (ls' := px_LS i ++ [(5, .int (pj_I r)), (6, .int (pj_I r2))]) 334 rfl (by decide) rfl rfl ?_
  exact px_tail 334 345 362 hg inv2 hc h5 hr hv rfl rfl rfl rfl rfl rfl rfl rfl rfl rfl rfl rfl rfl rfl rfl rfl (by decide) (kk M2 inv2)
set_option maxRecDepth 100000 in
set_option maxHeartbeats 4000000 in
theorem lc_at (hg : pj_ph g = true) (hl : l.stackTraces = false) (inv : INV M) (hL : L < 2147483648) (h0 : 0 ≤ i) (h1 : i + 4 < L) (hc : c0 + 1 ≤ 601024 ∧ s0 + 6 ≤ 7293034) (kk : ∀ M', INV M' → pj_R l g mdL_law (px_XL t g L xs) Z pj_NK (c0 + 1) (s0 + 6) 1287 (px_LS i) [] M') : pj_R l g mdL_law (px_XL t g L xs) Z pj_NK c0 s0 365 (px_LS i) [] M := by
  have lv : lvl M 18 := inv.dr.2.1.1
  have dA : M 18 1 = M 204 73 := inv.dr.2.1.2.1
  have dB : leq (M 204 73) (M 19) (lw (M 204)) := inv.dr.2.1.2.2
  have g3 : 0 ≤ M 18 1 ∧ M 18 1 ≤ 14 := lv.1
  have g19 : ∀ x, 0 ≤ M 19 x ∧ M 19 x ≤ 7 := lv.2
  refine pj_aload_n 366 1 rfl rfl rfl rfl ?_
  refine px_arg (ex := []) 372 1 hL (by omega) (by omega) rfl rfl rfl rfl rfl rfl ?_
  obtain ⟨a, ha⟩ : ∃ a, a = px_x xs (i + 1) := ⟨_, rfl⟩
  have ina : pj_in a := by rw [ha]; exact px_x_in
  rw [← ha]
  refine pj_aload_n 373 3 rfl rfl rfl rfl ?_
  refine px_callL 376 (As := [.ref 0, .int (pj_I a), .ref 228]) (st := []) (Y := px_Y t g) rfl plL_58 rfl rfl rfl (Nat.zero_le _) ⟨⟨by decide, by decide⟩, hc.1, hc.2⟩ (fun s h => h.1) (fun s U locs a b c => c.go a b) (fun U gg mk a h => h.calling)
    (t_Lat (Q := fun r M1 => INV M1 ∧ M1 204 = M 204 ∧ ((¬ (1 ≤ a ∧ a ≤ M 204 73) ∧ r = 1) ∨ ((1 ≤ a ∧ a ≤ M 204 73) ∧ r = 0 ∧ M1 228 0 = lw (M 204) (a - 1) ∧ pj_in (lw (M 204) (a - 1))))) hg hl ina ⟨⟨by omega, by omega⟩, by omega⟩ (fun _ => ⟨by have := g19 (a - 1); omega, by have := g19 (a - 1); omega⟩)
      (fun hn => ⟨inv, rfl, Or.inl ⟨by rw [← dA]; exact hn, rfl⟩⟩)
      (fun hy => ⟨px_inv_up inv, px_up (by decide), Or.inr (by
        rw [dA] at hy
        have e3 := dB (a - 1) (by omega) (by omega)
        have e4 := g19 (a - 1)
        rw [e3] at e4
        exact ⟨hy, rfl, by rw [← e3]; simp [pj_up], ⟨by omega, by omega⟩⟩)⟩)) ?_
  intro v n' M1 hq
  obtain ⟨rfl, r, rfl, inv1, g1, hq⟩ := hq
  refine pj_istore (ls' := px_LS i ++ [(5, .int (pj_I r))]) 378 rfl (by decide) rfl rfl ?_
  refine pj_aload_n 379 2 rfl rfl rfl rfl ?_
  refine px_arg (ex := [(5, .int (pj_I r))]) 385 1 hL (by omega) (by omega) rfl rfl rfl rfl rfl rfl ?_
  rw [← ha]
  refine px_call 388 12 [.int (pj_I a)] [] px_o203 (s_X12_at (Q := fun r2 M2 => INV M2 ∧ M2 203 5 = r ∧ (r = 0 ∨ r = 1) ∧ (r = 0 → pj_in r2 ∧ M2 228 0 = r2)) hg px_o203 (m_at inv1.m (by rw [g1]; exact inv.v) ina (fun hn M2 e2 s2 w2 h5 => ?_) (fun hy M2 e2 s2 w2 h5 => ?_))) plL_61 rfl rfl rfl rfl (Nat.zero_le _) ⟨by decide, by decide⟩ ⟨rfl, rfl⟩ hc (fun r2 M2 hw => ?_)
  · rw [g1] at hn
    rcases hq with ⟨_, rfl⟩ | ⟨hq, _⟩
    · exact ⟨px_inv_m inv1 e2 s2 w2, h5, Or.inr rfl, fun h => absurd h (by decide)⟩
    · exact absurd hq hn
  · rw [g1] at hy ⊢
    rcases hq with ⟨hq, _⟩ | ⟨_, rfl, k1, k2⟩
    · exact absurd hy hq
    · exact ⟨px_inv_m inv1 e2 s2 w2, h5, Or.inl rfl, fun _ => ⟨k2, by rw [e2.at (by decide)]; exact k1⟩⟩
  obtain ⟨inv2, h5, hr, hv⟩ := hw
  refine pj_istore (ls' := px_LS i ++ [(5, .int (pj_I r)), (6, .int (pj_I r2))]) 390 rfl (by decide) rfl rfl ?_
  exact px_tail 390 401 418 hg inv2 hc h5 hr hv rfl rfl rfl rfl rfl rfl rfl rfl rfl rfl rfl rfl rfl rfl rfl rfl (by decide) (kk M2 inv2)
set_option maxRecDepth 100000 in
set_option maxHeartbeats 4000000 in
theorem lc_row (hg : pj_ph g = true) (hl : l.stackTraces = false) (inv : INV M) (hL : L < 2147483648) (h0 : 0 ≤ i) (h1 : i + 4 < L) (hc : c0 + 1 ≤ 601024 ∧ s0 + 6 ≤ 7293034) (kk : ∀ M', INV M' → pj_R l g mdL_law (px_XL t g L xs) Z pj_NK (c0 + 1) (s0 + 6) 1287 (px_LS i) [] M') : pj_R l g mdL_law (px_XL t g L xs) Z pj_NK c0 s0 1232 (px_LS i) [] M := by
  obtain ⟨rl, ⟨l1, l2, l3⟩, ⟨l4, -, l5⟩⟩ := inv.2.2.2.2.2
  refine pj_aload_n 1233 1 rfl rfl rfl rfl ?_
  refine px_arg (ex := []) 1239 1 hL (by omega) (by omega) rfl rfl rfl rfl rfl rfl ?_
  obtain ⟨a, ha⟩ : ∃ a, a = px_x xs (i + 1) := ⟨_, rfl⟩
  have ina : pj_in a := by rw [ha]; exact px_x_in
  rw [← ha]
  refine pj_aload_n 1240 3 rfl rfl rfl rfl ?_
  refine px_callL 1243 (As := [.ref 0, .int (pj_I a), .ref 228]) (st := []) (Y := px_Y t g) rfl plL_187 rfl rfl rfl (Nat.zero_le _) ⟨⟨by decide, by decide⟩, hc.1, hc.2⟩ (fun s h => h.1) (fun s U locs a b c => c.go a b) (fun U gg mk a h => h.calling)
    (t_Lrow (Q := fun r M1 => INV M1 ∧ (M1 203 = M 203 ∧ M1 206 = M 206) ∧ ((¬ (0 ≤ a ∧ a < (rl.length : Int)) ∧ r = 1) ∨ ((0 ≤ a ∧ a < (rl.length : Int)) ∧ r = 0 ∧ M1 228 0 = M 206 a))) hg hl ina ⟨⟨by omega, by omega⟩, by omega⟩
      (fun hn => ⟨inv, ⟨rfl, rfl⟩, Or.inl ⟨by rw [← l1]; exact hn, rfl⟩⟩)
      (fun hy => ⟨px_inv_up inv, ⟨px_up (by decide), px_up (by decide)⟩, Or.inr (by
        rw [l1] at hy
        obtain ⟨k, rfl⟩ : ∃ k : Nat, a = (k : Int) := ⟨a.toNat, by omega⟩
        have hk : k < rl.length := by omega
        have e1 := l3 k _ (List.getElem?_eq_getElem hk)
        have e2 := l5 k _ (List.getElem?_eq_getElem hk)
        exact ⟨hy, rfl, by rw [e2, ← e1]; simp [pj_up]⟩)⟩)) ?_
  intro v n' M1 hq
  obtain ⟨rfl, r, rfl, inv1, ⟨g1, g2⟩, hq⟩ := hq
  refine pj_istore (ls' := px_LS i ++ [(5, .int (pj_I r))]) 1245 rfl (by decide) rfl rfl ?_
  refine pj_aload_n 1246 2 rfl rfl rfl rfl ?_
  refine px_arg (ex := [(5, .int (pj_I r))]) 1252 1 hL (by omega) (by omega) rfl rfl rfl rfl rfl rfl ?_
  rw [← ha]
  have hrm : rwsm M1 rl := by
    unfold rwsm
    rw [g1, g2]
    exact ⟨l4, l2, l5⟩
  refine px_callJ 1255 12 [.int (pj_I a)] [] px_o203 (s_X12_row (Q := fun r2 M2 => INV M2 ∧ M2 203 5 = r ∧ (r = 0 ∨ r = 1) ∧ (r = 0 → M2 228 0 = r2)) hg px_o203 (m_row (l := rl) inv1.m hrm ina (fun hn M2 e2 s2 w2 h5 => ?_) (fun hy M2 e2 s2 w2 h5 => ?_))) plL_189 rfl rfl rfl rfl (Nat.zero_le _) ⟨by decide, by decide⟩ ⟨rfl, rfl⟩ hc (fun r2 M2 hw => ?_)
  · rcases hq with ⟨_, rfl⟩ | ⟨hq, _⟩
    · exact ⟨px_inv_m inv1 e2 s2 w2, h5, Or.inr rfl, fun h => absurd h (by decide)⟩
    · exact absurd hq hn
  · rcases hq with ⟨hq, _⟩ | ⟨_, rfl, k1⟩
    · exact absurd hy hq
    · exact ⟨px_inv_m inv1 e2 s2 w2, h5, Or.inl rfl, fun _ => by rw [e2.at (by decide), g2]; exact k1⟩
  obtain ⟨inv2, h5, hr, hv⟩ := hw
  refine pj_lstore (ls' := px_LS i ++ [(5, .int (pj_I r)), (6, .long (pj_L r2))]) 1257 rfl (by decide) rfl rfl ?_
  have fin : pj_R l g mdL_law (px_XL t g L xs) Z pj_NK (c0 + 1) (s0 + 6) 1284 (px_LS i ++ [(5, .int (pj_I r)), (6, .long (pj_L r2))]) [] M2 :=
    pj_goto 1287 rfl (by decide) (pj_sub_ls (fun q hq => List.mem_append_left _ hq) (kk M2 inv2))
  refine pj_aload_n 1258 2 rfl rfl rfl rfl ?_
  refine px_call 1261 12 [] [] px_o203 (s_X12_thrown (Q := fun r3 M3 => M3 = M2 ∧ r3 = r) hg px_o203 (by unfold w_X12_thrown; exact ⟨rfl, h5⟩)) plL_55 rfl rfl rfl rfl (Nat.zero_le _) ⟨by decide, by decide⟩ ⟨rfl, rfl⟩ hc (fun r3 M3 hw => ?_)
  obtain ⟨rfl, rfl⟩ := hw
  refine pj_iload 1263 5 rfl rfl rfl ?_
  refine px_same 1268 rfl (by decide) ?_
  refine pj_iload 1270 5 rfl rfl rfl ?_
  refine pj_if_ne 1284 1273 rfl (by decide) rfl (by rcases hr with h | h <;> (rw [h]; exact ⟨by omega, by omega⟩)) (fun _ => fin) (fun h => ?_)
  have v2 := hv (Classical.not_not.mp h)
  refine pj_aload_n 1274 3 rfl rfl rfl rfl ?_
  refine pj_iconst 1275 rfl rfl ?_
  refine pj_lald (k := 1) 1276 rfl rfl rfl (by decide) (by decide) (by decide) (by decide) (by decide) ?_
  refine pj_lload 1278 6 rfl rfl rfl ?_
  rw [v2]
  refine px_lsame 1279 rfl rfl ?_
  exact pj_if_eq 1284 1282 rfl (by decide) rfl ⟨by decide, by decide⟩ (fun _ => fin) (fun h => absurd rfl h)
end PXT
