def mxX11_symbol : pj_MD := (yX11_symbol, cX11_symbol, 4, (some FieldType.int), RX11, { frames := 6, cells := 1, slots := 6, locals := 100 }, cdX11_symbol)
def mxX11_at : pj_MD := (yX11_at, cX11_at, 2, (some FieldType.int), RX11, { frames := 6, cells := 1, slots := 6, locals := 100 }, cdX11_at)
def mxX11_row : pj_MD := (yX11_row, cX11_row, 2, (some FieldType.long), RX11, { frames := 6, cells := 1, slots := 6, locals := 100 }, cdX11_row)
set_option maxRecDepth 100000 in
theorem gxX11_symbol : pj_gc mxX11_symbol := gcX11_symbol
set_option maxRecDepth 100000 in
theorem gxX11_at : pj_gc mxX11_at := gcX11_at
set_option maxRecDepth 100000 in
theorem gxX11_row : pj_gc mxX11_row := gcX11_row
def mdL_symbol : pj_MD := (yL_symbol, cL_symbol, 5, (some FieldType.int), RL, { frames := 7, cells := 1, slots := 6, locals := 140 }, cdL_symbol)
def mdL_at : pj_MD := (yL_at, cL_at, 4, (some FieldType.int), RL, { frames := 7, cells := 1, slots := 6, locals := 140 }, cdL_at)
def mdL_row : pj_MD := (yL_row, cL_row, 4, (some FieldType.int), RL, { frames := 7, cells := 1, slots := 6, locals := 140 }, cdL_row)
set_option maxRecDepth 100000 in
theorem gcL_symbol : pj_gc mdL_symbol := pj_gc_of (by decide +kernel)
set_option maxRecDepth 100000 in
theorem gcL_at : pj_gc mdL_at := pj_gc_of (by decide +kernel)
set_option maxRecDepth 100000 in
theorem gcL_row : pj_gc mdL_row := pj_gc_of (by decide +kernel)
abbrev px_hS : List (Nat × Nat × Nat × Nat) := [(0, 10, 13, 13)]
abbrev px_hA : List (Nat × Nat × Nat × Nat) := [(0, 9, 12, 13)]
abbrev px_hR : List (Nat × Nat × Nat × Nat) := [(0, 8, 11, 13)]
theorem plL_7 : pj_LV RL 7 mxX11_symbol 11 2 := ⟨List.mem_filter.mpr ⟨by decide +kernel, by decide +kernel⟩, List.mem_filter.mpr ⟨by decide +kernel, by decide +kernel⟩, List.mem_filter.mpr ⟨by decide +kernel, by decide +kernel⟩, List.mem_filter.mpr ⟨by decide +kernel, by decide +kernel⟩, List.mem_filter.mpr ⟨by decide +kernel, by decide +kernel⟩, ⟨by decide, by decide, by decide +kernel⟩, _, _, rfl⟩
theorem plL_15 : pj_LV RL 15 mxX11_at 11 1 := ⟨List.mem_filter.mpr ⟨by decide +kernel, by decide +kernel⟩, List.mem_filter.mpr ⟨by decide +kernel, by decide +kernel⟩, List.mem_filter.mpr ⟨by decide +kernel, by decide +kernel⟩, List.mem_filter.mpr ⟨by decide +kernel, by decide +kernel⟩, List.mem_filter.mpr ⟨by decide +kernel, by decide +kernel⟩, ⟨by decide, by decide, by decide +kernel⟩, _, _, rfl⟩
theorem plL_19 : pj_LV RL 19 mxX11_row 11 1 := ⟨List.mem_filter.mpr ⟨by decide +kernel, by decide +kernel⟩, List.mem_filter.mpr ⟨by decide +kernel, by decide +kernel⟩, List.mem_filter.mpr ⟨by decide +kernel, by decide +kernel⟩, List.mem_filter.mpr ⟨by decide +kernel, by decide +kernel⟩, List.mem_filter.mpr ⟨by decide +kernel, by decide +kernel⟩, ⟨by decide, by decide, by decide +kernel⟩, _, _, rfl⟩
theorem px_k13 : Cond.classLink RL 13 px_E ∈ pj_TB := List.mem_filter.mpr ⟨by decide +kernel, by decide +kernel⟩
theorem plL_49 : px_LL RL 49 mdL_symbol px_hS 4 := ⟨⟨List.mem_filter.mpr ⟨by decide +kernel, by decide +kernel⟩, List.mem_filter.mpr ⟨by decide +kernel, by decide +kernel⟩, List.mem_filter.mpr ⟨by decide +kernel, by decide +kernel⟩, List.mem_filter.mpr ⟨by decide +kernel, by decide +kernel⟩⟩, ⟨by decide, by decide, by decide +kernel⟩⟩
theorem plL_58 : px_LL RL 58 mdL_at px_hA 3 := ⟨⟨List.mem_filter.mpr ⟨by decide +kernel, by decide +kernel⟩, List.mem_filter.mpr ⟨by decide +kernel, by decide +kernel⟩, List.mem_filter.mpr ⟨by decide +kernel, by decide +kernel⟩, List.mem_filter.mpr ⟨by decide +kernel, by decide +kernel⟩⟩, ⟨by decide, by decide, by decide +kernel⟩⟩
theorem plL_187 : px_LL RL 187 mdL_row px_hR 3 := ⟨⟨List.mem_filter.mpr ⟨by decide +kernel, by decide +kernel⟩, List.mem_filter.mpr ⟨by decide +kernel, by decide +kernel⟩, List.mem_filter.mpr ⟨by decide +kernel, by decide +kernel⟩, List.mem_filter.mpr ⟨by decide +kernel, by decide +kernel⟩⟩, ⟨by decide, by decide, by decide +kernel⟩⟩
section PXB
variable {l : Launch} {g : pj_G} {t : Nat × Nat × Nat} {M : pj_M} {Q : Int → pj_M → Prop} {P : pj_M → Prop}
theorem px_o0 : pj_ob 0 11 := ⟨rfl, by decide⟩
theorem px_o13 : pj_ob 13 1 := ⟨rfl, by decide⟩
theorem px_o14 : pj_ob 14 4 := ⟨rfl, by decide⟩
theorem px_o18 : pj_ob 18 7 := ⟨rfl, by decide⟩
set_option maxRecDepth 100000 in
set_option maxHeartbeats 4000000 in
theorem t_symbol (hg : pj_ph g = true) (hl : l.stackTraces = false) {k i : Int} (hk : pj_in k) (hi : pj_in i) (hc : pj_in (M 14 3) ∧ M 14 3 ≤ 12) (hs : 0 ≤ k → k < M 14 3 → pj_in (M 16 k) ∧ M 16 k ≤ 4)
    (q0 : ¬ (0 ≤ k ∧ k < M 14 3 ∧ 0 ≤ i ∧ i < M 16 k) → P M) (q1 : 0 ≤ k ∧ k < M 14 3 ∧ 0 ≤ i ∧ i < M 16 k → Q (M 17 (k * 4 + i)) M) :
    px_S l g mxX11_symbol [.ref 0, .int (pj_I k), .int (pj_I i)] pj_NK M (px_Y t g) (pj_qi Q) P := by
  have thr : ∀ ls, ¬ (0 ≤ k ∧ k < M 14 3 ∧ 0 ≤ i ∧ i < M 16 k) → pj_R l g mxX11_symbol (fun s => px_tab [] s ∧ px_Y t g s) (px_Z g mxX11_symbol (pj_qi Q) P) pj_NK 0 0 34 ls [] M := fun ls h =>
    px_thrS hl (is := 162) (sa := t.1) (text := "no such symbol") (fun s h => ⟨h.1, h.2.1.1, h.2.2.1.1, h.2.2.1.2, h.2.2.2⟩) rfl rfl rfl rfl rfl rfl (q0 h) ⟨by decide, by decide, by decide, by decide⟩
  refine px_ofR (ls := [(0, .ref 0), (1, .int (pj_I k)), (2, .int (pj_I i))]) gxX11_symbol (by decide) rfl (Nat.le_of_ble_eq_true rfl) rfl ?_
  refine pj_aload_n 1 0 rfl rfl rfl rfl ?_
  refine pn_getr 4 11 2 hg px_o0 (by decide) rfl pfX11_26 rfl rfl ?_
  refine pn_getr 7 1 0 hg px_o13 (by decide) rfl pfX11_115 rfl rfl ?_
  refine pj_astore_n (ls' := [(0, .ref 0), (1, .int (pj_I k)), (2, .int (pj_I i)), (3, .ref 14)]) 8 rfl rfl (by decide) rfl rfl ?_
  refine pj_iload_n 9 1 rfl rfl rfl rfl ?_
  refine pj_if_lt 34 12 rfl (by decide) rfl hk (fun h1 => thr _ (by omega)) (fun h1 => ?_)
  refine pj_iload_n 13 1 rfl rfl rfl rfl ?_
  refine pj_aload_n 14 3 rfl rfl rfl rfl ?_
  refine pn_geti 17 4 3 3 px_o14 rfl pfX11_153 (Or.inl rfl) rfl rfl ?_
  refine pj_icmp_ge 34 20 rfl (by decide) rfl hk hc.1 (fun h2 => thr _ (by omega)) (fun h2 => ?_)
  refine pj_iload_n 21 2 rfl rfl rfl rfl ?_
  refine pj_if_lt 34 24 rfl (by decide) rfl hi (fun h3 => thr _ (by omega)) (fun h3 => ?_)
  have hs := hs (by omega) (by omega)
  refine pj_iload_n 25 2 rfl rfl rfl rfl ?_
  refine pj_aload_n 26 3 rfl rfl rfl rfl ?_
  refine pn_getr 29 4 1 hg px_o14 (by decide) rfl pfX11_156 rfl rfl ?_
  refine pj_iload_n 30 1 rfl rfl rfl rfl ?_
  refine pn_iald 31 12 ⟨rfl, by decide⟩ ⟨by omega, by show k < 12; omega⟩ rfl rfl ?_
  refine pj_icmp_lt 44 34 rfl (by decide) rfl hi hs.1 (fun h4 => ?_) (fun h4 => thr _ (fun q => h4 q.2.2.2))
  have h4 : i < M 16 k := h4
  refine pj_aload_n 45 3 rfl rfl rfl rfl ?_
  refine pn_getr 48 4 2 hg px_o14 (by decide) rfl pfX11_167 rfl rfl ?_
  refine pj_iload_n 49 1 rfl rfl rfl rfl ?_
  refine pj_iconst 50 rfl rfl ?_
  refine pj_imul 51 rfl rfl ?_
  refine pj_iload_n 52 2 rfl rfl rfl rfl ?_
  refine pj_iadd 53 rfl rfl ?_
  refine pn_iald 54 48 ⟨rfl, by decide⟩ ⟨by omega, by show k * 4 + i < 48; omega⟩ rfl rfl ?_
  exact px_iret rfl rfl ⟨Nat.zero_le _, Nat.zero_le _⟩ ⟨rfl, _, rfl, q1 ⟨by omega, by omega, by omega, h4⟩⟩
set_option maxRecDepth 100000 in
set_option maxHeartbeats 4000000 in
theorem t_at (hg : pj_ph g = true) (hl : l.stackTraces = false) {i : Int} (hi : pj_in i) (hc : pj_in (M 18 1) ∧ M 18 1 ≤ 14)
    (q0 : ¬ (1 ≤ i ∧ i ≤ M 18 1) → P M) (q1 : 1 ≤ i ∧ i ≤ M 18 1 → Q (M 19 (i - 1)) M) :
    px_S l g mxX11_at [.ref 0, .int (pj_I i)] pj_NK M (px_Y t g) (pj_qi Q) P := by
  have thr : ∀ ls, ¬ (1 ≤ i ∧ i ≤ M 18 1) → pj_R l g mxX11_at (fun s => px_tab [] s ∧ px_Y t g s) (px_Z g mxX11_at (pj_qi Q) P) pj_NK 0 0 14 ls [] M := fun ls h =>
    px_thrS hl (is := 173) (sa := t.2.1) (text := "no such place") (fun s h => ⟨h.1, h.2.1.2.1, h.2.2.1.1, h.2.2.1.2, h.2.2.2⟩) rfl rfl rfl rfl rfl rfl (q0 h) ⟨by decide, by decide, by decide, by decide⟩
  refine px_ofR (ls := [(0, .ref 0), (1, .int (pj_I i))]) gxX11_at (by decide) rfl (Nat.le_of_ble_eq_true rfl) rfl ?_
  refine pj_aload_n 1 0 rfl rfl rfl rfl ?_
  refine pn_getr 4 11 2 hg px_o0 (by decide) rfl pfX11_26 rfl rfl ?_
  refine pn_getr 7 1 1 hg px_o13 (by decide) rfl pfX11_132 rfl rfl ?_
  refine pj_iload_n 8 1 rfl rfl rfl rfl ?_
  refine pn_callVi 11 7 [.int (pj_I i)] [] (Q := fun r M' => M' = M ∧ ((r = 0 ∧ ¬ (1 ≤ i ∧ i ≤ M 18 1)) ∨ (r = 1 ∧ (1 ≤ i ∧ i ≤ M 18 1)))) px_o18 (s_X7_has hg px_o18 ?_) plX11_170 rfl rfl rfl rfl (Nat.zero_le _) ⟨⟨by decide, by decide⟩, rfl, rfl⟩ ?_
  · unfold w_X7_has
    exact ⟨hi, fun h => ⟨rfl, Or.inl ⟨rfl, by omega⟩⟩, fun h => ⟨hi, hc.1, fun h2 => ⟨rfl, Or.inl ⟨rfl, by omega⟩⟩, fun h2 => ⟨rfl, Or.inr ⟨rfl, by omega⟩⟩⟩⟩
  intro r M' hr
  obtain ⟨rfl, hr⟩ := hr
  refine pj_if_ne 24 14 rfl (by decide) rfl (by rcases hr with h | h <;> (rw [h.1]; exact ⟨by omega, by omega⟩)) (fun h1 => ?_) (fun h1 => thr _ (by rcases hr with h | h; exact h.2; omega))
  have hin : 1 ≤ i ∧ i ≤ M' 18 1 := by rcases hr with h | h; exact absurd h.1 h1; exact h.2
  refine pj_aload_n 25 0 rfl rfl rfl rfl ?_
  refine pn_getr 28 11 2 hg px_o0 (by decide) rfl pfX11_26 rfl rfl ?_
  refine pn_getr 31 1 1 hg px_o13 (by decide) rfl pfX11_132 rfl rfl ?_
  refine pn_getr 34 7 0 hg px_o18 (by decide) rfl pfX11_175 rfl rfl ?_
  refine pj_iload_n 35 1 rfl rfl rfl rfl ?_
  refine pj_iconst 36 rfl rfl ?_
  refine pj_isub 37 rfl rfl ?_
  refine pn_iald 38 14 ⟨rfl, by decide⟩ ⟨by omega, by show i - 1 < 14; omega⟩ rfl rfl ?_
  exact px_iret rfl rfl ⟨Nat.zero_le _, Nat.zero_le _⟩ ⟨rfl, _, rfl, q1 hin⟩
set_option maxRecDepth 100000 in
set_option maxHeartbeats 4000000 in
theorem t_row (hg : pj_ph g = true) (hl : l.stackTraces = false) {i : Int} (hi : pj_in i) (hc : pj_in (M 0 15) ∧ M 0 15 ≤ 40)
    (q0 : ¬ (0 ≤ i ∧ i < M 0 15) → P M) (q1 : 0 ≤ i ∧ i < M 0 15 → Q (M 186 i) M) :
    px_S l g mxX11_row [.ref 0, .int (pj_I i)] pj_NK M (px_Y t g) (pj_ql Q) P := by
  have thr : ∀ ls, ¬ (0 ≤ i ∧ i < M 0 15) → pj_R l g mxX11_row (fun s => px_tab [] s ∧ px_Y t g s) (px_Z g mxX11_row (pj_ql Q) P) pj_NK 0 0 12 ls [] M := fun ls h =>
    px_thrW hl (is := 367) (sa := t.2.2) (text := "no such number") (fun s h => ⟨h.1, h.2.1.2.2, h.2.2.1.1, h.2.2.1.2, h.2.2.2⟩) rfl rfl rfl rfl rfl rfl (q0 h) ⟨by decide, by decide, by decide, by decide⟩
  refine px_ofR (ls := [(0, .ref 0), (1, .int (pj_I i))]) gxX11_row (by decide) rfl (Nat.le_of_ble_eq_true rfl) rfl ?_
  refine pj_iload_n 1 1 rfl rfl rfl rfl ?_
  refine pj_if_lt 12 4 rfl (by decide) rfl hi (fun h1 => thr _ (by omega)) (fun h1 => ?_)
  refine pj_iload_n 5 1 rfl rfl rfl rfl ?_
  refine pj_aload_n 6 0 rfl rfl rfl rfl ?_
  refine pn_geti 9 11 15 15 px_o0 rfl pfX11_272 (Or.inl rfl) rfl rfl ?_
  refine pj_icmp_lt 23 12 rfl (by decide) rfl hi hc.1 (fun h4 => ?_) (fun h4 => thr _ (by omega))
  refine pj_aload_n 24 0 rfl rfl rfl rfl ?_
  refine pn_getr 27 11 14 hg px_o0 (by decide) rfl pfX11_89 rfl rfl ?_
  refine pj_iload_n 28 1 rfl rfl rfl rfl ?_
  refine pn_lald 29 40 ⟨rfl, by decide⟩ ⟨by omega, by show i < 40; omega⟩ rfl rfl ?_
  exact px_lret rfl rfl ⟨Nat.zero_le _, Nat.zero_le _⟩ ⟨rfl, _, rfl, q1 ⟨by omega, by omega⟩⟩
set_option maxRecDepth 100000 in
set_option maxHeartbeats 4000000 in
theorem t_Lsymbol (hg : pj_ph g = true) (hl : l.stackTraces = false) {k i : Int} (hk : pj_in k) (hi : pj_in i) (hc : pj_in (M 14 3) ∧ M 14 3 ≤ 12) (hs : 0 ≤ k → k < M 14 3 → pj_in (M 16 k) ∧ M 16 k ≤ 4) (hv : 0 ≤ k ∧ k < M 14 3 ∧ 0 ≤ i ∧ i < M 16 k → pj_in (M 17 (k * 4 + i)))
    (q0 : ¬ (0 ≤ k ∧ k < M 14 3 ∧ 0 ≤ i ∧ i < M 16 k) → Q 1 M) (q1 : 0 ≤ k ∧ k < M 14 3 ∧ 0 ≤ i ∧ i < M 16 k → Q 0 (pj_up M 228 0 (M 17 (k * 4 + i)))) :
    px_SL l g mdL_symbol px_hS [.ref 0, .int (pj_I k), .int (pj_I i), .ref 228] pj_NK M (px_Y t g) (pj_qi Q) := by
  refine px_ofRL (ls := [(0, .ref 0), (1, .int (pj_I k)), (2, .int (pj_I i)), (3, .ref 228)]) gcL_symbol (by decide) rfl (Nat.le_of_ble_eq_true rfl) rfl ?_
  refine pj_aload_n 1 3 rfl rfl rfl rfl ?_
  refine pj_iconst 2 rfl rfl ?_
  refine pj_aload_n 3 0 rfl rfl rfl rfl ?_
  refine pj_iload_n 4 1 rfl rfl rfl rfl ?_
  refine pj_iload_n 5 2 rfl rfl rfl rfl ?_
  refine px_callC 8 11 4 15 ⟨0, 10, 13, 13⟩ (As := [.int (pj_I k), .int (pj_I i)]) (st := [.int (pj_I 0), .ref 228]) (Y := px_Y t g) (Q1 := pj_qi (fun r M' => M' = M ∧ r = M 17 (k * 4 + i) ∧ (0 ≤ k ∧ k < M 14 3 ∧ 0 ≤ i ∧ i < M 16 k))) (P1 := fun M' => M' = M ∧ ¬ (0 ≤ k ∧ k < M 14 3 ∧ 0 ≤ i ∧ i < M 16 k)) rfl plL_7 rfl rfl rfl (by decide) ⟨⟨by decide, by decide⟩, by decide, by decide⟩ rfl (by decide) (by decide) (by decide) px_k13 (fun s h => ⟨h.1, h.2.2.2, h.2⟩) (fun s U locs a b c => c.go a b) (fun U gg mk a h => h.calling) (Or.inl ⟨rfl, rfl⟩) (by decide) rfl (t_symbol hg hl hk hi hc hs (fun h => ⟨rfl, h⟩) (fun h => ⟨rfl, rfl, h⟩)) ?_ ?_
  · intro v n' M' hq
    obtain ⟨rfl, r, rfl, rfl, rfl, hcn⟩ := hq
    refine pj_i2l 9 rfl rfl (hv hcn) ?_
    refine pj_last (k := 1) 10 rfl rfl rfl rfl (by decide) (by decide) (by decide) (by decide) ?_
    refine pj_goto 17 rfl (by decide) ?_
    refine pj_iconst 18 rfl rfl ?_
    exact px_iretL rfl rfl ⟨by decide, by decide⟩ ⟨rfl, _, rfl, q1 hcn⟩
  · intro M' hq
    obtain ⟨rfl, hcn⟩ := hq
    refine pj_iconst 16 rfl rfl ?_
    exact px_iretL rfl rfl ⟨by decide, by decide⟩ ⟨rfl, _, rfl, q0 hcn⟩
set_option maxRecDepth 100000 in
set_option maxHeartbeats 4000000 in
theorem t_Lat (hg : pj_ph g = true) (hl : l.stackTraces = false) {i : Int} (hi : pj_in i) (hc : pj_in (M 18 1) ∧ M 18 1 ≤ 14) (hv : 1 ≤ i ∧ i ≤ M 18 1 → pj_in (M 19 (i - 1)))
    (q0 : ¬ (1 ≤ i ∧ i ≤ M 18 1) → Q 1 M) (q1 : 1 ≤ i ∧ i ≤ M 18 1 → Q 0 (pj_up M 228 0 (M 19 (i - 1)))) :
    px_SL l g mdL_at px_hA [.ref 0, .int (pj_I i), .ref 228] pj_NK M (px_Y t g) (pj_qi Q) := by
  refine px_ofRL (ls := [(0, .ref 0), (1, .int (pj_I i)), (2, .ref 228)]) gcL_at (by decide) rfl (Nat.le_of_ble_eq_true rfl) rfl ?_
  refine pj_aload_n 1 2 rfl rfl rfl rfl ?_
  refine pj_iconst 2 rfl rfl ?_
  refine pj_aload_n 3 0 rfl rfl rfl rfl ?_
  refine pj_iload_n 4 1 rfl rfl rfl rfl ?_
  refine px_callC 7 11 3 13 ⟨0, 9, 12, 13⟩ (As := [.int (pj_I i)]) (st := [.int (pj_I 0), .ref 228]) (Y := px_Y t g) (Q1 := pj_qi (fun r M' => M' = M ∧ r = M 19 (i - 1) ∧ (1 ≤ i ∧ i ≤ M 18 1))) (P1 := fun M' => M' = M ∧ ¬ (1 ≤ i ∧ i ≤ M 18 1)) rfl plL_15 rfl rfl rfl (by decide) ⟨⟨by decide, by decide⟩, by decide, by decide⟩ rfl (by decide) (by decide) (by decide) px_k13 (fun s h => ⟨h.1, h.2.2.2, h.2⟩) (fun s U locs a b c => c.go a b) (fun U gg mk a h => h.calling) (Or.inr ⟨3, rfl, rfl, rfl⟩) (by decide) rfl (t_at hg hl hi hc (fun h => ⟨rfl, h⟩) (fun h => ⟨rfl, rfl, h⟩)) ?_ ?_
  · intro v n' M' hq
    obtain ⟨rfl, r, rfl, rfl, rfl, hcn⟩ := hq
    refine pj_i2l 8 rfl rfl (hv hcn) ?_
    refine pj_last (k := 1) 9 rfl rfl rfl rfl (by decide) (by decide) (by decide) (by decide) ?_
    refine pj_goto 15 rfl (by decide) ?_
    refine pj_iconst 16 rfl rfl ?_
    exact px_iretL rfl rfl ⟨by decide, by decide⟩ ⟨rfl, _, rfl, q1 hcn⟩
  · intro M' hq
    obtain ⟨rfl, hcn⟩ := hq
    refine pj_iconst 14 rfl rfl ?_
    exact px_iretL rfl rfl ⟨by decide, by decide⟩ ⟨rfl, _, rfl, q0 hcn⟩
set_option maxRecDepth 100000 in
set_option maxHeartbeats 4000000 in
theorem t_Lrow (hg : pj_ph g = true) (hl : l.stackTraces = false) {i : Int} (hi : pj_in i) (hc : pj_in (M 0 15) ∧ M 0 15 ≤ 40)
    (q0 : ¬ (0 ≤ i ∧ i < M 0 15) → Q 1 M) (q1 : 0 ≤ i ∧ i < M 0 15 → Q 0 (pj_up M 228 0 (M 186 i))) :
    px_SL l g mdL_row px_hR [.ref 0, .int (pj_I i), .ref 228] pj_NK M (px_Y t g) (pj_qi Q) := by
  refine px_ofRL (ls := [(0, .ref 0), (1, .int (pj_I i)), (2, .ref 228)]) gcL_row (by decide) rfl (Nat.le_of_ble_eq_true rfl) rfl ?_
  refine pj_aload_n 1 2 rfl rfl rfl rfl ?_
  refine pj_iconst 2 rfl rfl ?_
  refine pj_aload_n 3 0 rfl rfl rfl rfl ?_
  refine pj_iload_n 4 1 rfl rfl rfl rfl ?_
  refine px_callC 7 11 3 12 ⟨0, 8, 11, 13⟩ (As := [.int (pj_I i)]) (st := [.int (pj_I 0), .ref 228]) (Y := px_Y t g) (Q1 := pj_ql (fun r M' => M' = M ∧ r = M 186 i ∧ (0 ≤ i ∧ i < M 0 15))) (P1 := fun M' => M' = M ∧ ¬ (0 ≤ i ∧ i < M 0 15)) rfl plL_19 rfl rfl rfl (by decide) ⟨⟨by decide, by decide⟩, by decide, by decide⟩ rfl (by decide) (by decide) (by decide) px_k13 (fun s h => ⟨h.1, h.2.2.2, h.2⟩) (fun s U locs a b c => c.go a b) (fun U gg mk a h => h.calling) (Or.inr ⟨3, rfl, rfl, rfl⟩) (by decide) rfl (t_row hg hl hi hc (fun h => ⟨rfl, h⟩) (fun h => ⟨rfl, rfl, h⟩)) ?_ ?_
  · intro v n' M' hq
    obtain ⟨rfl, r, rfl, rfl, rfl, hcn⟩ := hq
    refine pj_last (k := 1) 8 rfl rfl rfl rfl (by decide) (by decide) (by decide) (by decide) ?_
    refine pj_goto 14 rfl (by decide) ?_
    refine pj_iconst 15 rfl rfl ?_
    exact px_iretL rfl rfl ⟨by decide, by decide⟩ ⟨rfl, _, rfl, q1 hcn⟩
  · intro M' hq
    obtain ⟨rfl, hcn⟩ := hq
    refine pj_iconst 13 rfl rfl ?_
    exact px_iretL rfl rfl ⟨by decide, by decide⟩ ⟨rfl, _, rfl, q0 hcn⟩
end PXB
