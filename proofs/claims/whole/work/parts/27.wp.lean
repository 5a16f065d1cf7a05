def w_X12_cell (x0 : Int) (x1 : Int) (x2 : Int) (M : pj_M) (Q : Int → pj_M → Prop) : Prop :=
  Q ((16 * ((16 * x0) + x1)) + x2) M
set_option maxRecDepth 20000 in
set_option maxHeartbeats 4000000 in
theorem s_X12_cell {l : Launch} {g : pj_G} (hg : pj_ph g = true) {x0 : Int} {x1 : Int} {x2 : Int} {M : pj_M} {Q : Int → pj_M → Prop}  (h : w_X12_cell x0 x1 x2 M Q) : pj_S l g mdX12_cell [.int (pj_I x0), .int (pj_I x1), .int (pj_I x2)] pj_NK M (pj_qi Q) := by
  refine pj_ofR (ls := [(0, .int (pj_I x0)), (1, .int (pj_I x1)), (2, .int (pj_I x2))]) gcX12_cell (by decide) rfl (Nat.le_of_ble_eq_true rfl) rfl ?_
  unfold w_X12_cell at h
  refine pj_bipush 2 rfl (by decide) rfl ?_
  refine pj_bipush 4 rfl (by decide) rfl ?_
  refine pj_iload_n 5 0 rfl rfl rfl rfl ?_
  refine pj_imul 6 rfl rfl ?_
  refine pj_iload_n 7 1 rfl rfl rfl rfl ?_
  refine pj_iadd 8 rfl rfl ?_
  refine pj_imul 9 rfl rfl ?_
  refine pj_iload_n 10 2 rfl rfl rfl rfl ?_
  refine pj_iadd 11 rfl rfl ?_
  exact pn_iret h rfl rfl
def w_X12_exact (r0 : Nat) (x1 : Int) (x2 : Int) (x3 : Int) (M : pj_M) (Q : Int → pj_M → Prop) : Prop :=
  (pj_in x1) ∧ ((8 ≤ x1 → w_X12_cell (x1 - 8) x2 x3 M (fun (t3 : Int) (M2 : pj_M) => ((0 : Int) ≤ t3 ∧ t3 < 1536) ∧ ((M2 (pj_rf r0 15) t3) = 0 ∨ (M2 (pj_rf r0 15) t3) = 1) ∧ Q (M2 (pj_rf r0 15) t3) M2)) ∧ (¬ 8 ≤ x1 → (pj_in x3) ∧ (pj_in (x2 + 1)) ∧ ((¬ x3 = (x2 + 1) → Q 0 M) ∧ (x3 = (x2 + 1) → ((0 : Int) ≤ x2 ∧ x2 < 16) ∧ (pj_in (M (pj_rf r0 13) x2)) ∧ (pj_in x1) ∧ ((¬ (M (pj_rf r0 13) x2) = x1 → Q 0 M) ∧ ((M (pj_rf r0 13) x2) = x1 → Q 1 M))))))
set_option maxRecDepth 20000 in
set_option maxHeartbeats 4000000 in
theorem s_X12_exact {l : Launch} {g : pj_G} (hg : pj_ph g = true) {r0 : Nat} {x1 : Int} {x2 : Int} {x3 : Int} {M : pj_M} {Q : Int → pj_M → Prop} (o0 : pj_ob r0 12) (h : w_X12_exact r0 x1 x2 x3 M Q) : pj_S l g mdX12_exact [.ref r0, .int (pj_I x1), .int (pj_I x2), .int (pj_I x3)] pj_NK M (pj_qi Q) := by
  refine pj_ofR (ls := [(0, .ref r0), (1, .int (pj_I x1)), (2, .int (pj_I x2)), (3, .int (pj_I x3))]) gcX12_exact (by decide) rfl (Nat.le_of_ble_eq_true rfl) rfl ?_
  unfold w_X12_exact at h
  refine pj_iload_n 1 1 rfl rfl rfl rfl ?_
  refine pj_bipush 3 rfl (by decide) rfl ?_
  obtain ⟨q1, h⟩ := h
  refine pj_icmp_ge 31 6 rfl (by decide) rfl q1 (show pj_in 8 by decide) (fun hc => ?_) (fun hc => ?_)
  · replace h := h.1 hc
    refine pj_aload_n 32 0 rfl rfl rfl rfl ?_
    refine pn_getr 35 12 15 hg o0 (pr_12_15 o0).2 rfl pfX12_33 rfl rfl ?_
    refine pj_iload_n 36 1 rfl rfl rfl rfl ?_
    refine pj_bipush 38 rfl (by decide) rfl ?_
    refine pj_isub 39 rfl rfl ?_
    refine pj_iload_n 40 2 rfl rfl rfl rfl ?_
    refine pj_iload_n 41 3 rfl rfl rfl rfl ?_
    refine pn_callSi 44 [.int (pj_I (x1 - 8)), .int (pj_I x2), .int (pj_I x3)] [.ref (pj_rf r0 15)] (s_X12_cell hg  h) plX12_183 rfl rfl rfl rfl (Nat.le_of_ble_eq_true rfl) (by decide) (fun t3 M2 h => ?_)
    obtain ⟨q4, h⟩ := h
    refine pn_bald 45 2 1536 (pr_12_15 o0) (by decide) q4 rfl rfl ?_
    obtain ⟨q5, h⟩ := h
    exact pn_zret q5 h rfl rfl
  · replace h := h.2 hc
    refine pj_iload_n 7 3 rfl rfl rfl rfl ?_
    refine pj_iload_n 8 2 rfl rfl rfl rfl ?_
    refine pj_iconst 9 rfl rfl ?_
    refine pj_iadd 10 rfl rfl ?_
    obtain ⟨q6, h⟩ := h
    obtain ⟨q7, h⟩ := h
    refine pj_icmp_ne 27 13 rfl (by decide) rfl q6 q7 (fun hc => ?_) (fun hc => ?_)
    · replace h := h.1 hc
      refine pj_iconst 28 rfl rfl ?_
      refine pj_goto 45 rfl (by decide) ?_
      exact pn_zret (by decide) h rfl rfl
    · replace h := h.2 (Classical.not_not.mp hc)
      refine pj_aload_n 14 0 rfl rfl rfl rfl ?_
      refine pn_getr 17 12 13 hg o0 (pr_12_13 o0).2 rfl pfX12_30 rfl rfl ?_
      refine pj_iload_n 18 2 rfl rfl rfl rfl ?_
      obtain ⟨q8, h⟩ := h
      refine pn_iald 19 16 (pr_12_13 o0) q8 rfl rfl ?_
      refine pj_iload_n 20 1 rfl rfl rfl rfl ?_
      obtain ⟨q9, h⟩ := h
      obtain ⟨q10, h⟩ := h
      refine pj_icmp_ne 27 23 rfl (by decide) rfl q9 q10 (fun hc => ?_) (fun hc => ?_)
      · replace h := h.1 hc
        refine pj_iconst 28 rfl rfl ?_
        refine pj_goto 45 rfl (by decide) ?_
        exact pn_zret (by decide) h rfl rfl
      · replace h := h.2 (Classical.not_not.mp hc)
        refine pj_iconst 24 rfl rfl ?_
        refine pj_goto 45 rfl (by decide) ?_
        exact pn_zret (by decide) h rfl rfl
def w_X12_part (r0 : Nat) (r1 : Nat) (x2 : Int) (x3 : Int) (x4 : Int) (M : pj_M) (Q : Int → pj_M → Prop) : Prop :=
  (pj_in x2) ∧ ((8 ≤ x2 → w_X12_cell (x2 - 8) x3 x4 M (fun (t3 : Int) (M2 : pj_M) => ((0 : Int) ≤ t3 ∧ t3 < ((pj_sh r1).2 : Int)) ∧ ((M2 r1 t3) = 0 ∨ (M2 r1 t3) = 1) ∧ Q (M2 r1 t3) M2)) ∧ (¬ 8 ≤ x2 → (pj_in x3) ∧ (pj_in x4) ∧ ((x3 = x4 → Q 1 M) ∧ (¬ x3 = x4 → w_X12_exact r0 x2 x3 x4 M (fun (t9 : Int) (M8 : pj_M) => (pj_in t9) ∧ ((t9 = 0 → Q 0 M8) ∧ (¬ t9 = 0 → Q 1 M8)))))))
set_option maxRecDepth 20000 in
set_option maxHeartbeats 4000000 in
theorem s_X12_part {l : Launch} {g : pj_G} (hg : pj_ph g = true) {r0 : Nat} {r1 : Nat} {x2 : Int} {x3 : Int} {x4 : Int} {M : pj_M} {Q : Int → pj_M → Prop} (o0 : pj_ob r0 12) (o1 : pj_oa r1 2) (h : w_X12_part r0 r1 x2 x3 x4 M Q) : pj_S l g mdX12_part [.ref r0, .ref r1, .int (pj_I x2), .int (pj_I x3), .int (pj_I x4)] pj_NK M (pj_qi Q) := by
  refine pj_ofR (ls := [(0, .ref r0), (1, .ref r1), (2, .int (pj_I x2)), (3, .int (pj_I x3)), (4, .int (pj_I x4))]) gcX12_part (by decide) rfl (Nat.le_of_ble_eq_true rfl) rfl ?_
  unfold w_X12_part at h
  refine pj_iload_n 1 2 rfl rfl rfl rfl ?_
  refine pj_bipush 3 rfl (by decide) rfl ?_
  obtain ⟨q1, h⟩ := h
  refine pj_icmp_ge 31 6 rfl (by decide) rfl q1 (show pj_in 8 by decide) (fun hc => ?_) (fun hc => ?_)
  · replace h := h.1 hc
    refine pj_aload_n 32 1 rfl rfl rfl rfl ?_
    refine pj_iload_n 33 2 rfl rfl rfl rfl ?_
    refine pj_bipush 35 rfl (by decide) rfl ?_
    refine pj_isub 36 rfl rfl ?_
    refine pj_iload_n 37 3 rfl rfl rfl rfl ?_
    refine pj_iload 39 4 rfl rfl rfl ?_
    refine pn_callSi 42 [.int (pj_I (x2 - 8)), .int (pj_I x3), .int (pj_I x4)] [.ref r1] (s_X12_cell hg  h) plX12_183 rfl rfl rfl rfl (Nat.le_of_ble_eq_true rfl) (by decide) (fun t3 M2 h => ?_)
    obtain ⟨q4, h⟩ := h
    refine pn_bald 43 2 ((pj_sh r1).2) (pr_len o1) (by decide) q4 rfl rfl ?_
    obtain ⟨q5, h⟩ := h
    exact pn_zret q5 h rfl rfl
  · replace h := h.2 hc
    refine pj_iload_n 7 3 rfl rfl rfl rfl ?_
    refine pj_iload 9 4 rfl rfl rfl ?_
    obtain ⟨q6, h⟩ := h
    obtain ⟨q7, h⟩ := h
    refine pj_icmp_eq 23 12 rfl (by decide) rfl q6 q7 (fun hc => ?_) (fun hc => ?_)
    · replace h := h.1 hc
      refine pj_iconst 24 rfl rfl ?_
      refine pj_goto 43 rfl (by decide) ?_
      exact pn_zret (by decide) h rfl rfl
    · replace h := h.2 hc
      refine pj_aload_n 13 0 rfl rfl rfl rfl ?_
      refine pj_iload_n 14 2 rfl rfl rfl rfl ?_
      refine pj_iload_n 15 3 rfl rfl rfl rfl ?_
      refine pj_iload 17 4 rfl rfl rfl ?_
      refine pn_callVi 20 12 [.int (pj_I x2), .int (pj_I x3), .int (pj_I x4)] [] o0 (s_X12_exact hg o0 h) plX12_187 rfl rfl rfl rfl (Nat.le_of_ble_eq_true rfl) (by decide) (fun t9 M8 h => ?_)
      obtain ⟨q10, h⟩ := h
      refine pj_if_eq 27 23 rfl (by decide) rfl q10  (fun hc => ?_) (fun hc => ?_)
      · replace h := h.1 hc
        refine pj_iconst 28 rfl rfl ?_
        refine pj_goto 43 rfl (by decide) ?_
        exact pn_zret (by decide) h rfl rfl
      · replace h := h.2 hc
        refine pj_iconst 24 rfl rfl ?_
        refine pj_goto 43 rfl (by decide) ?_
        exact pn_zret (by decide) h rfl rfl
def w_X12_onlyAt_22 (r0 : Nat) (x1 : Int) (x2 : Int) (x3 : Int) (u0 : Nat) (y1 : Int) (y2 : Int) (k2 : Int → pj_M → Prop) (Q : pj_M → Prop) (M : pj_M) : Prop :=
  (y2 = 0 ∨ y2 = 1) ∧ ((0 : Int) ≤ y1 ∧ y1 < 16) ∧ ∀ M7 : pj_M, M7 = pj_up M u0 y1 y2 → k2 (x3 + 1) M7
def w_X12_onlyAt_2b (r0 : Nat) (x1 : Int) (x2 : Int)  (Q : pj_M → Prop) (k2 : Int → pj_M → Prop) (x3 : Int) (M : pj_M) : Prop :=
  (pj_in x3) ∧ (pj_in x2) ∧ ((x2 < x3 → Q M) ∧ (¬ x2 < x3 → (pj_in x3) ∧ (pj_in x1) ∧ ((¬ x3 = x1 → w_X12_onlyAt_22 r0 x1 x2 x3 (pj_rf r0 19) x3 0 k2 Q M) ∧ (x3 = x1 → w_X12_onlyAt_22 r0 x1 x2 x3 (pj_rf r0 19) x3 1 k2 Q M))))
def w_X12_onlyAt_2 (r0 : Nat) (x1 : Int) (x2 : Int)  (Q : pj_M → Prop) (x3 : Int) (M : pj_M) : Prop := pj_lp (fun (k : Int × pj_M → Prop) (s : Int × pj_M) => w_X12_onlyAt_2b r0 x1 x2  Q (fun (x3 : Int) (M : pj_M) => k (x3, M)) s.1 s.2) (x3, M)
def w_X12_onlyAt (r0 : Nat) (x1 : Int) (x2 : Int) (M : pj_M) (Q : pj_M → Prop) : Prop :=
  w_X12_onlyAt_2 r0 x1 x2  Q x1 M
set_option maxRecDepth 20000 in
set_option maxHeartbeats 4000000 in
theorem s_X12_onlyAt_22 {l : Launch} {g : pj_G} (hg : pj_ph g = true) {r0 : Nat} {x1 : Int} {x2 : Int} {x3 : Int} {u0 : Nat} {y1 : Int} {y2 : Int} {M : pj_M} {Q : pj_M → Prop} {k2 : Int → pj_M → Prop} (o0 : pj_ob r0 12) (ou0 : pj_ol u0 2 16) (hk2 : ∀ (x3 : Int) (M : pj_M), k2 x3 M → pj_R l g mdX12_onlyAt pj_T (pj_Zm g mdX12_onlyAt (pj_qv Q)) pj_NK 0 0 2 [(0, .ref r0), (1, .int (pj_I x1)), (2, .int (pj_I x2)), (3, .int (pj_I x3))] [] M) (h : w_X12_onlyAt_22 r0 x1 x2 x3 u0 y1 y2 k2 Q M) : pj_R l g mdX12_onlyAt pj_T (pj_Zm g mdX12_onlyAt (pj_qv Q)) pj_NK 0 0 22 [(0, .ref r0), (1, .int (pj_I x1)), (2, .int (pj_I x2)), (3, .int (pj_I x3))] [.int (pj_I y2), .int (pj_I y1), .ref u0] M := by
  unfold w_X12_onlyAt_22 at h
  obtain ⟨q5, h⟩ := h
  obtain ⟨q6, h⟩ := h
  refine pn_zast 23 16 ou0 q5 q6 rfl rfl (fun M7 hM7 => ?_)
  replace h := h M7 hM7
  refine pj_iinc 26 3 (ls' := [(0, .ref r0), (1, .int (pj_I x1)), (2, .int (pj_I x2)), (3, .int (pj_I (x3 + 1)))]) rfl rfl (by decide) rfl rfl ?_
  refine pj_goto 2 rfl (by decide) ?_
  refine pn_sub [0, 1, 2, 3] rfl ?_
  exact hk2 _ _ h
set_option maxRecDepth 20000 in
set_option maxHeartbeats 4000000 in
theorem s_X12_onlyAt_2b {l : Launch} {g : pj_G} (hg : pj_ph g = true) {r0 : Nat} {x1 : Int} {x2 : Int} {x3 : Int} {M : pj_M} {Q : pj_M → Prop}  {k2 : Int → pj_M → Prop} (o0 : pj_ob r0 12)  (hk2 : ∀ (x3 : Int) (M : pj_M), k2 x3 M → pj_R l g mdX12_onlyAt pj_T (pj_Zm g mdX12_onlyAt (pj_qv Q)) pj_NK 0 0 2 [(0, .ref r0), (1, .int (pj_I x1)), (2, .int (pj_I x2)), (3, .int (pj_I x3))] [] M) (h : w_X12_onlyAt_2b r0 x1 x2  Q k2 x3 M) : pj_R l g mdX12_onlyAt pj_T (pj_Zm g mdX12_onlyAt (pj_qv Q)) pj_NK 0 0 2 [(0, .ref r0), (1, .int (pj_I x1)), (2, .int (pj_I x2)), (3, .int (pj_I x3))] [] M := by
  unfold w_X12_onlyAt_2b at h
  refine pj_iload_n 3 3 rfl rfl rfl rfl ?_
  refine pj_iload_n 4 2 rfl rfl rfl rfl ?_
  obtain ⟨q1, h⟩ := h
  obtain ⟨q2, h⟩ := h
  refine pj_icmp_gt 29 7 rfl (by decide) rfl q1 q2 (fun hc => ?_) (fun hc => ?_)
  · replace h := h.1 hc
    exact pn_vret h rfl rfl
  · replace h := h.2 hc
    refine pj_aload_n 8 0 rfl rfl rfl rfl ?_
    refine pn_getr 11 12 19 hg o0 (pr_12_19 o0).2 rfl pfX12_46 rfl rfl ?_
    refine pj_iload_n 12 3 rfl rfl rfl rfl ?_
    refine pj_iload_n 13 3 rfl rfl rfl rfl ?_
    refine pj_iload_n 14 1 rfl rfl rfl rfl ?_
    obtain ⟨q3, h⟩ := h
    obtain ⟨q4, h⟩ := h
    refine pj_icmp_ne 21 17 rfl (by decide) rfl q3 q4 (fun hc => ?_) (fun hc => ?_)
    · replace h := h.1 hc
      refine pj_iconst 22 rfl rfl ?_
      refine pn_sub [0, 1, 2, 3] rfl ?_
      exact s_X12_onlyAt_22 hg o0 (pr_12_19 o0) hk2 h
    · replace h := h.2 (Classical.not_not.mp hc)
      refine pj_iconst 18 rfl rfl ?_
      refine pj_goto 22 rfl (by decide) ?_
      refine pn_sub [0, 1, 2, 3] rfl ?_
      exact s_X12_onlyAt_22 hg o0 (pr_12_19 o0) hk2 h
set_option maxRecDepth 20000 in
set_option maxHeartbeats 4000000 in
theorem s_X12_onlyAt_2 {l : Launch} {g : pj_G} (hg : pj_ph g = true) {r0 : Nat} {x1 : Int} {x2 : Int} {x3 : Int} {M : pj_M} {Q : pj_M → Prop}  (o0 : pj_ob r0 12)  (h : w_X12_onlyAt_2 r0 x1 x2  Q x3 M) : pj_R l g mdX12_onlyAt pj_T (pj_Zm g mdX12_onlyAt (pj_qv Q)) pj_NK 0 0 2 [(0, .ref r0), (1, .int (pj_I x1)), (2, .int (pj_I x2)), (3, .int (pj_I x3))] [] M :=
  h (fun s => pj_R l g mdX12_onlyAt pj_T (pj_Zm g mdX12_onlyAt (pj_qv Q)) pj_NK 0 0 2 [(0, .ref r0), (1, .int (pj_I x1)), (2, .int (pj_I x2)), (3, .int (pj_I (s.1)))] [] s.2) (fun s hs => s_X12_onlyAt_2b hg o0  (fun _ _ q => q) hs)
set_option maxRecDepth 20000 in
set_option maxHeartbeats 4000000 in
theorem s_X12_onlyAt {l : Launch} {g : pj_G} (hg : pj_ph g = true) {r0 : Nat} {x1 : Int} {x2 : Int} {M : pj_M} {Q : pj_M → Prop} (o0 : pj_ob r0 12) (h : w_X12_onlyAt r0 x1 x2 M Q) : pj_S l g mdX12_onlyAt [.ref r0, .int (pj_I x1), .int (pj_I x2)] pj_NK M (pj_qv Q) := by
  refine pj_ofR (ls := [(0, .ref r0), (1, .int (pj_I x1)), (2, .int (pj_I x2))]) gcX12_onlyAt (by decide) rfl (Nat.le_of_ble_eq_true rfl) rfl ?_
  unfold w_X12_onlyAt at h
  refine pj_iload_n 1 1 rfl rfl rfl rfl ?_
  refine pj_istore_n 2 (ls' := [(0, .ref r0), (1, .int (pj_I x1)), (2, .int (pj_I x2)), (3, .int (pj_I x1))]) rfl rfl (by decide) rfl rfl ?_
  refine pn_sub [0, 1, 2, 3] rfl ?_
  exact s_X12_onlyAt_2 hg o0   h
def w_X12_goExact_147b (r0 : Nat) (x3 : Int)  (Q : pj_M → Prop) (k147 : Int → pj_M → Prop) (x4 : Int) (M : pj_M) : Prop :=
  (pj_in x4) ∧ (pj_in x3) ∧ ((x3 < x4 → Q M) ∧ (¬ x3 < x4 → ((0 : Int) ≤ x4 ∧ x4 < 16) ∧ ((M (pj_rf r0 20) x4) = 0 ∨ (M (pj_rf r0 20) x4) = 1) ∧ ((0 : Int) ≤ x4 ∧ x4 < 16) ∧ ∀ M10 : pj_M, M10 = pj_up M (pj_rf r0 19) x4 (M (pj_rf r0 20) x4) → k147 (x4 + 1) M10))
def w_X12_goExact_147 (r0 : Nat) (x3 : Int)  (Q : pj_M → Prop) (x4 : Int) (M : pj_M) : Prop := pj_lp (fun (k : Int × pj_M → Prop) (s : Int × pj_M) => w_X12_goExact_147b r0 x3  Q (fun (x4 : Int) (M : pj_M) => k (x4, M)) s.1 s.2) (x4, M)
def w_X12_goExact_131 (r0 : Nat) (x1 : Int) (x2 : Int) (x3 : Int) (x4 : Int) (x5 : Int) (u0 : Nat) (y1 : Int) (y2 : Int) (k26 : Int → pj_M → Prop) (k85 : Int → pj_M → Prop) (Q : pj_M → Prop) (M : pj_M) : Prop :=
  (y2 = 0 ∨ y2 = 1) ∧ ((0 : Int) ≤ y1 ∧ y1 < 16) ∧ ∀ M20 : pj_M, M20 = pj_up M u0 y1 y2 → k85 (x5 + 1) M20
def w_X12_goExact_126 (r0 : Nat) (x1 : Int) (x2 : Int) (x3 : Int) (x4 : Int) (x5 : Int) (u0 : Nat) (y1 : Int) (k26 : Int → pj_M → Prop) (k85 : Int → pj_M → Prop) (Q : pj_M → Prop) (M : pj_M) : Prop :=
  w_X12_goExact_131 r0 x1 x2 x3 x4 x5 u0 y1 1 k26 k85 Q M
def w_X12_goExact_85b (r0 : Nat) (x1 : Int) (x2 : Int) (x3 : Int) (x4 : Int) (k26 : Int → pj_M → Prop) (Q : pj_M → Prop) (k85 : Int → pj_M → Prop) (x5 : Int) (M : pj_M) : Prop :=
  (pj_in x5) ∧ (pj_in x3) ∧ ((x3 < x5 → k26 (x4 + 1) M) ∧ (¬ x3 < x5 → ((0 : Int) ≤ x5 ∧ x5 < 16) ∧ (pj_in (M (pj_rf r0 20) x5)) ∧ ((¬ (M (pj_rf r0 20) x5) = 0 → w_X12_goExact_126 r0 x1 x2 x3 x4 x5 (pj_rf r0 20) x5 k26 k85 Q M) ∧ ((M (pj_rf r0 20) x5) = 0 → w_X12_cell (x1 - 8) x4 x5 M (fun (t22 : Int) (M21 : pj_M) => ((0 : Int) ≤ t22 ∧ t22 < 1536) ∧ (pj_in (M21 (pj_rf r0 15) t22)) ∧ (((M21 (pj_rf r0 15) t22) = 0 → w_X12_goExact_131 r0 x1 x2 x3 x4 x5 (pj_rf r0 20) x5 0 k26 k85 Q M21) ∧ (¬ (M21 (pj_rf r0 15) t22) = 0 → w_X12_goExact_126 r0 x1 x2 x3 x4 x5 (pj_rf r0 20) x5 k26 k85 Q M21)))))))
def w_X12_goExact_85 (r0 : Nat) (x1 : Int) (x2 : Int) (x3 : Int) (x4 : Int) (k26 : Int → pj_M → Prop) (Q : pj_M → Prop) (x5 : Int) (M : pj_M) : Prop := pj_lp (fun (k : Int × pj_M → Prop) (s : Int × pj_M) => w_X12_goExact_85b r0 x1 x2 x3 x4 k26 Q (fun (x5 : Int) (M : pj_M) => k (x5, M)) s.1 s.2) (x5, M)
def w_X12_goExact_26b (r0 : Nat) (x1 : Int) (x2 : Int) (x3 : Int)  (Q : pj_M → Prop) (k26 : Int → pj_M → Prop) (x4 : Int) (M : pj_M) : Prop :=
  (pj_in x4) ∧ (pj_in x3) ∧ ((x3 < x4 → w_X12_goExact_147 r0 x3  Q x2 M) ∧ (¬ x3 < x4 → ((0 : Int) ≤ x4 ∧ x4 < 16) ∧ (pj_in (M (pj_rf r0 19) x4)) ∧ ((¬ (M (pj_rf r0 19) x4) = 0 → (pj_in x1) ∧ ((8 ≤ x1 → w_X12_goExact_85 r0 x1 x2 x3 x4 k26 Q x4 M) ∧ (¬ 8 ≤ x1 → (pj_in x4) ∧ (pj_in x3) ∧ ((x3 ≤ x4 → k26 (x4 + 1) M) ∧ (¬ x3 ≤ x4 → ((0 : Int) ≤ x4 ∧ x4 < 16) ∧ (pj_in (M (pj_rf r0 13) x4)) ∧ (pj_in x1) ∧ ((¬ (M (pj_rf r0 13) x4) = x1 → k26 (x4 + 1) M) ∧ ((M (pj_rf r0 13) x4) = x1 → ((0 : Int) ≤ (x4 + 1) ∧ (x4 + 1) < 16) ∧ ∀ M31 : pj_M, M31 = pj_up M (pj_rf r0 20) (x4 + 1) 1 → k26 (x4 + 1) M31))))))) ∧ ((M (pj_rf r0 19) x4) = 0 → k26 (x4 + 1) M))))
def w_X12_goExact_26 (r0 : Nat) (x1 : Int) (x2 : Int) (x3 : Int)  (Q : pj_M → Prop) (x4 : Int) (M : pj_M) : Prop := pj_lp (fun (k : Int × pj_M → Prop) (s : Int × pj_M) => w_X12_goExact_26b r0 x1 x2 x3  Q (fun (x4 : Int) (M : pj_M) => k (x4, M)) s.1 s.2) (x4, M)
def w_X12_goExact_3b (r0 : Nat) (x1 : Int) (x2 : Int) (x3 : Int)  (Q : pj_M → Prop) (k3 : Int → pj_M → Prop) (x4 : Int) (M : pj_M) : Prop :=
  (pj_in x4) ∧ (pj_in x3) ∧ ((x3 < x4 → w_X12_goExact_26 r0 x1 x2 x3  Q x2 M) ∧ (¬ x3 < x4 → ((0 : Int) ≤ x4 ∧ x4 < 16) ∧ ∀ M33 : pj_M, M33 = pj_up M (pj_rf r0 20) x4 0 → k3 (x4 + 1) M33))
def w_X12_goExact_3 (r0 : Nat) (x1 : Int) (x2 : Int) (x3 : Int)  (Q : pj_M → Prop) (x4 : Int) (M : pj_M) : Prop := pj_lp (fun (k : Int × pj_M → Prop) (s : Int × pj_M) => w_X12_goExact_3b r0 x1 x2 x3  Q (fun (x4 : Int) (M : pj_M) => k (x4, M)) s.1 s.2) (x4, M)
def w_X12_goExact (r0 : Nat) (x1 : Int) (x2 : Int) (x3 : Int) (M : pj_M) (Q : pj_M → Prop) : Prop :=
  w_X12_goExact_3 r0 x1 x2 x3  Q x2 M
set_option maxRecDepth 20000 in
set_option maxHeartbeats 4000000 in
theorem s_X12_goExact_147b {l : Launch} {g : pj_G} (hg : pj_ph g = true) {r0 : Nat} {x3 : Int} {x4 : Int} {M : pj_M} {Q : pj_M → Prop}  {k147 : Int → pj_M → Prop} (o0 : pj_ob r0 12)  (hk147 : ∀ (x4 : Int) (M : pj_M), k147 x4 M → pj_R l g mdX12_goExact pj_T (pj_Zm g mdX12_goExact (pj_qv Q)) pj_NK 0 0 147 [(0, .ref r0), (3, .int (pj_I x3)), (4, .int (pj_I x4))] [] M) (h : w_X12_goExact_147b r0 x3  Q k147 x4 M) : pj_R l g mdX12_goExact pj_T (pj_Zm g mdX12_goExact (pj_qv Q)) pj_NK 0 0 147 [(0, .ref r0), (3, .int (pj_I x3)), (4, .int (pj_I x4))] [] M := by
  unfold w_X12_goExact_147b at h
  refine pj_iload 149 2 rfl rfl rfl ?_
  refine pj_iload_n 150 1 rfl rfl rfl rfl ?_
  obtain ⟨q5, h⟩ := h
  obtain ⟨q6, h⟩ := h
  refine pj_icmp_gt 173 153 rfl (by decide) rfl q5 q6 (fun hc => ?_) (fun hc => ?_)
  · replace h := h.1 hc
    exact pn_vret h rfl rfl
  · replace h := h.2 hc
    refine pj_aload_n 154 0 rfl rfl rfl rfl ?_
    refine pn_getr 157 12 19 hg o0 (pr_12_19 o0).2 rfl pfX12_46 rfl rfl ?_
    refine pj_iload 159 2 rfl rfl rfl ?_
    refine pj_aload_n 160 0 rfl rfl rfl rfl ?_
    refine pn_getr 163 12 20 hg o0 (pr_12_20 o0).2 rfl pfX12_49 rfl rfl ?_
    refine pj_iload 165 2 rfl rfl rfl ?_
    obtain ⟨q7, h⟩ := h
    refine pn_bald 166 2 16 (pr_12_20 o0) (by decide) q7 rfl rfl ?_
    obtain ⟨q8, h⟩ := h
    obtain ⟨q9, h⟩ := h
    refine pn_zast 167 16 (pr_12_19 o0) q8 q9 rfl rfl (fun M10 hM10 => ?_)
    replace h := h M10 hM10
    refine pj_iinc 170 2 (ls' := [(0, .ref r0), (3, .int (pj_I x3)), (4, .int (pj_I (x4 + 1)))]) rfl rfl (by decide) rfl rfl ?_
    refine pj_goto 147 rfl (by decide) ?_
    refine pn_sub [0, 1, 2] rfl ?_
    exact hk147 _ _ h
set_option maxRecDepth 20000 in
set_option maxHeartbeats 4000000 in
theorem s_X12_goExact_147 {l : Launch} {g : pj_G} (hg : pj_ph g = true) {r0 : Nat} {x3 : Int} {x4 : Int} {M : pj_M} {Q : pj_M → Prop}  (o0 : pj_ob r0 12)  (h : w_X12_goExact_147 r0 x3  Q x4 M) : pj_R l g mdX12_goExact pj_T (pj_Zm g mdX12_goExact (pj_qv Q)) pj_NK 0 0 147 [(0, .ref r0), (3, .int (pj_I x3)), (4, .int (pj_I x4))] [] M :=
  h (fun s => pj_R l g mdX12_goExact pj_T (pj_Zm g mdX12_goExact (pj_qv Q)) pj_NK 0 0 147 [(0, .ref r0), (3, .int (pj_I x3)), (4, .int (pj_I (s.1)))] [] s.2) (fun s hs => s_X12_goExact_147b hg o0  (fun _ _ q => q) hs)
set_option maxRecDepth 20000 in
set_option maxHeartbeats 4000000 in
theorem s_X12_goExact_131 {l : Launch} {g : pj_G} (hg : pj_ph g = true) {r0 : Nat} {x1 : Int} {x2 : Int} {x3 : Int} {x4 : Int} {x5 : Int} {u0 : Nat} {y1 : Int} {y2 : Int} {M : pj_M} {Q : pj_M → Prop} {k26 : Int → pj_M → Prop} {k85 : Int → pj_M → Prop} (o0 : pj_ob r0 12) (ou0 : pj_ol u0 2 16) (hk26 : ∀ (x4 : Int) (M : pj_M), k26 x4 M → pj_R l g mdX12_goExact pj_T (pj_Zm g mdX12_goExact (pj_qv Q)) pj_NK 0 0 26 [(0, .ref r0), (1, .int (pj_I x1)), (2, .int (pj_I x2)), (3, .int (pj_I x3)), (4, .int (pj_I x4))] [] M) (hk85 : ∀ (x5 : Int) (M : pj_M), k85 x5 M → pj_R l g mdX12_goExact pj_T (pj_Zm g mdX12_goExact (pj_qv Q)) pj_NK 0 0 85 [(0, .ref r0), (1, .int (pj_I x1)), (2, .int (pj_I x2)), (3, .int (pj_I x3)), (4, .int (pj_I x4)), (5, .int (pj_I x5))] [] M) (h : w_X12_goExact_131 r0 x1 x2 x3 x4 x5 u0 y1 y2 k26 k85 Q M) : pj_R l g mdX12_goExact pj_T (pj_Zm g mdX12_goExact (pj_qv Q)) pj_NK 0 0 131 [(0, .ref r0), (1, .int (pj_I x1)), (2, .int (pj_I x2)), (3, .int (pj_I x3)), (4, .int (pj_I x4)), (5, .int (pj_I x5))] [.int (pj_I y2), .int (pj_I y1), .ref u0] M := by
  unfold w_X12_goExact_131 at h
  obtain ⟨q18, h⟩ := h
  obtain ⟨q19, h⟩ := h
  refine pn_zast 132 16 ou0 q18 q19 rfl rfl (fun M20 hM20 => ?_)
  replace h := h M20 hM20
  refine pj_iinc 135 5 (ls' := [(0, .ref r0), (1, .int (pj_I x1)), (2, .int (pj_I x2)), (3, .int (pj_I x3)), (4, .int (pj_I x4)), (5, .int (pj_I (x5 + 1)))]) rfl rfl (by decide) rfl rfl ?_
  refine pj_goto 85 rfl (by decide) ?_
  refine pn_sub [0, 1, 2, 3, 4, 5] rfl ?_
  exact hk85 _ _ h
set_option maxRecDepth 20000 in
set_option maxHeartbeats 4000000 in
theorem s_X12_goExact_126 {l : Launch} {g : pj_G} (hg : pj_ph g = true) {r0 : Nat} {x1 : Int} {x2 : Int} {x3 : Int} {x4 : Int} {x5 : Int} {u0 : Nat} {y1 : Int} {M : pj_M} {Q : pj_M → Prop} {k26 : Int → pj_M → Prop} {k85 : Int → pj_M → Prop} (o0 : pj_ob r0 12) (ou0 : pj_ol u0 2 16) (hk26 : ∀ (x4 : Int) (M : pj_M), k26 x4 M → pj_R l g mdX12_goExact pj_T (pj_Zm g mdX12_goExact (pj_qv Q)) pj_NK 0 0 26 [(0, .ref r0), (1, .int (pj_I x1)), (2, .int (pj_I x2)), (3, .int (pj_I x3)), (4, .int (pj_I x4))] [] M) (hk85 : ∀ (x5 : Int) (M : pj_M), k85 x5 M → pj_R l g mdX12_goExact pj_T (pj_Zm g mdX12_goExact (pj_qv Q)) pj_NK 0 0 85 [(0, .ref r0), (1, .int (pj_I x1)), (2, .int (pj_I x2)), (3, .int (pj_I x3)), (4, .int (pj_I x4)), (5, .int (pj_I x5))] [] M) (h : w_X12_goExact_126 r0 x1 x2 x3 x4 x5 u0 y1 k26 k85 Q M) : pj_R l g mdX12_goExact pj_T (pj_Zm g mdX12_goExact (pj_qv Q)) pj_NK 0 0 126 [(0, .ref r0), (1, .int (pj_I x1)), (2, .int (pj_I x2)), (3, .int (pj_I x3)), (4, .int (pj_I x4)), (5, .int (pj_I x5))] [.int (pj_I y1), .ref u0] M := by
  unfold w_X12_goExact_126 at h
  refine pj_iconst 127 rfl rfl ?_
  refine pj_goto 131 rfl (by decide) ?_
  refine pn_sub [0, 1, 2, 3, 4, 5] rfl ?_
  exact s_X12_goExact_131 hg o0 ou0 hk26 hk85 h
set_option maxRecDepth 20000 in
set_option maxHeartbeats 4000000 in
theorem s_X12_goExact_85b {l : Launch} {g : pj_G} (hg : pj_ph g = true) {r0 : Nat} {x1 : Int} {x2 : Int} {x3 : Int} {x4 : Int} {x5 : Int} {M : pj_M} {Q : pj_M → Prop} {k26 : Int → pj_M → Prop} {k85 : Int → pj_M → Prop} (o0 : pj_ob r0 12) (hk26 : ∀ (x4 : Int) (M : pj_M), k26 x4 M → pj_R l g mdX12_goExact pj_T (pj_Zm g mdX12_goExact (pj_qv Q)) pj_NK 0 0 26 [(0, .ref r0), (1, .int (pj_I x1)), (2, .int (pj_I x2)), (3, .int (pj_I x3)), (4, .int (pj_I x4))] [] M) (hk85 : ∀ (x5 : Int) (M : pj_M), k85 x5 M → pj_R l g mdX12_goExact pj_T (pj_Zm g mdX12_goExact (pj_qv Q)) pj_NK 0 0 85 [(0, .ref r0), (1, .int (pj_I x1)), (2, .int (pj_I x2)), (3, .int (pj_I x3)), (4, .int (pj_I x4)), (5, .int (pj_I x5))] [] M) (h : w_X12_goExact_85b r0 x1 x2 x3 x4 k26 Q k85 x5 M) : pj_R l g mdX12_goExact pj_T (pj_Zm g mdX12_goExact (pj_qv Q)) pj_NK 0 0 85 [(0, .ref r0), (1, .int (pj_I x1)), (2, .int (pj_I x2)), (3, .int (pj_I x3)), (4, .int (pj_I x4)), (5, .int (pj_I x5))] [] M := by
  unfold w_X12_goExact_85b at h
  refine pj_iload 87 5 rfl rfl rfl ?_
  refine pj_iload_n 88 3 rfl rfl rfl rfl ?_
  obtain ⟨q14, h⟩ := h
  obtain ⟨q15, h⟩ := h
  refine pj_icmp_gt 138 91 rfl (by decide) rfl q14 q15 (fun hc => ?_) (fun hc => ?_)
  · replace h := h.1 hc
    refine pj_iinc 141 4 (ls' := [(0, .ref r0), (1, .int (pj_I x1)), (2, .int (pj_I x2)), (3, .int (pj_I x3)), (4, .int (pj_I (x4 + 1))), (5, .int (pj_I x5))]) rfl rfl (by decide) rfl rfl ?_
    refine pj_goto 26 rfl (by decide) ?_
    refine pn_sub [0, 1, 2, 3, 4] rfl ?_
    exact hk26 _ _ h
  · replace h := h.2 hc
    refine pj_aload_n 92 0 rfl rfl rfl rfl ?_
    refine pn_getr 95 12 20 hg o0 (pr_12_20 o0).2 rfl pfX12_49 rfl rfl ?_
    refine pj_iload 97 5 rfl rfl rfl ?_
    refine pj_aload_n 98 0 rfl rfl rfl rfl ?_
    refine pn_getr 101 12 20 hg o0 (pr_12_20 o0).2 rfl pfX12_49 rfl rfl ?_
    refine pj_iload 103 5 rfl rfl rfl ?_
    obtain ⟨q16, h⟩ := h
    refine pn_bald 104 2 16 (pr_12_20 o0) (by decide) q16 rfl rfl ?_
    obtain ⟨q17, h⟩ := h
    refine pj_if_ne 126 107 rfl (by decide) rfl q17  (fun hc => ?_) (fun hc => ?_)
    · replace h := h.1 hc
      refine pn_sub [0, 1, 2, 3, 4, 5] rfl ?_
      exact s_X12_goExact_126 hg o0 (pr_12_20 o0) hk26 hk85 h
    · replace h := h.2 (Classical.not_not.mp hc)
      refine pj_aload_n 108 0 rfl rfl rfl rfl ?_
      refine pn_getr 111 12 15 hg o0 (pr_12_15 o0).2 rfl pfX12_33 rfl rfl ?_
      refine pj_iload_n 112 1 rfl rfl rfl rfl ?_
      refine pj_bipush 114 rfl (by decide) rfl ?_
      refine pj_isub 115 rfl rfl ?_
      refine pj_iload 117 4 rfl rfl rfl ?_
      refine pj_iload 119 5 rfl rfl rfl ?_
      refine pn_callSi 122 [.int (pj_I (x1 - 8)), .int (pj_I x4), .int (pj_I x5)] [.ref (pj_rf r0 15), .int (pj_I x5), .ref (pj_rf r0 20)] (s_X12_cell hg  h) plX12_183 rfl rfl rfl rfl (Nat.le_of_ble_eq_true rfl) (by decide) (fun t22 M21 h => ?_)
      obtain ⟨q23, h⟩ := h
      refine pn_bald 123 2 1536 (pr_12_15 o0) (by decide) q23 rfl rfl ?_
      obtain ⟨q24, h⟩ := h
      refine pj_if_eq 130 126 rfl (by decide) rfl q24  (fun hc => ?_) (fun hc => ?_)
      · replace h := h.1 hc
        refine pj_iconst 131 rfl rfl ?_
        refine pn_sub [0, 1, 2, 3, 4, 5] rfl ?_
        exact s_X12_goExact_131 hg o0 (pr_12_20 o0) hk26 hk85 h
      · replace h := h.2 hc
        refine pn_sub [0, 1, 2, 3, 4, 5] rfl ?_
        exact s_X12_goExact_126 hg o0 (pr_12_20 o0) hk26 hk85 h
set_option maxRecDepth 20000 in
set_option maxHeartbeats 4000000 in
theorem s_X12_goExact_85 {l : Launch} {g : pj_G} (hg : pj_ph g = true) {r0 : Nat} {x1 : Int} {x2 : Int} {x3 : Int} {x4 : Int} {x5 : Int} {M : pj_M} {Q : pj_M → Prop} {k26 : Int → pj_M → Prop} (o0 : pj_ob r0 12) (hk26 : ∀ (x4 : Int) (M : pj_M), k26 x4 M → pj_R l g mdX12_goExact pj_T (pj_Zm g mdX12_goExact (pj_qv Q)) pj_NK 0 0 26 [(0, .ref r0), (1, .int (pj_I x1)), (2, .int (pj_I x2)), (3, .int (pj_I x3)), (4, .int (pj_I x4))] [] M) (h : w_X12_goExact_85 r0 x1 x2 x3 x4 k26 Q x5 M) : pj_R l g mdX12_goExact pj_T (pj_Zm g mdX12_goExact (pj_qv Q)) pj_NK 0 0 85 [(0, .ref r0), (1, .int (pj_I x1)), (2, .int (pj_I x2)), (3, .int (pj_I x3)), (4, .int (pj_I x4)), (5, .int (pj_I x5))] [] M :=
  h (fun s => pj_R l g mdX12_goExact pj_T (pj_Zm g mdX12_goExact (pj_qv Q)) pj_NK 0 0 85 [(0, .ref r0), (1, .int (pj_I x1)), (2, .int (pj_I x2)), (3, .int (pj_I x3)), (4, .int (pj_I x4)), (5, .int (pj_I (s.1)))] [] s.2) (fun s hs => s_X12_goExact_85b hg o0 hk26 (fun _ _ q => q) hs)
set_option maxRecDepth 20000 in
set_option maxHeartbeats 4000000 in
theorem s_X12_goExact_26b {l : Launch} {g : pj_G} (hg : pj_ph g = true) {r0 : Nat} {x1 : Int} {x2 : Int} {x3 : Int} {x4 : Int} {M : pj_M} {Q : pj_M → Prop}  {k26 : Int → pj_M → Prop} (o0 : pj_ob r0 12)  (hk26 : ∀ (x4 : Int) (M : pj_M), k26 x4 M → pj_R l g mdX12_goExact pj_T (pj_Zm g mdX12_goExact (pj_qv Q)) pj_NK 0 0 26 [(0, .ref r0), (1, .int (pj_I x1)), (2, .int (pj_I x2)), (3, .int (pj_I x3)), (4, .int (pj_I x4))] [] M) (h : w_X12_goExact_26b r0 x1 x2 x3  Q k26 x4 M) : pj_R l g mdX12_goExact pj_T (pj_Zm g mdX12_goExact (pj_qv Q)) pj_NK 0 0 26 [(0, .ref r0), (1, .int (pj_I x1)), (2, .int (pj_I x2)), (3, .int (pj_I x3)), (4, .int (pj_I x4))] [] M := by
  unfold w_X12_goExact_26b at h
  refine pj_iload 28 4 rfl rfl rfl ?_
  refine pj_iload_n 29 3 rfl rfl rfl rfl ?_
  obtain ⟨q3, h⟩ := h
  obtain ⟨q4, h⟩ := h
  refine pj_icmp_gt 144 32 rfl (by decide) rfl q3 q4 (fun hc => ?_) (fun hc => ?_)
  · replace h := h.1 hc
    refine pj_iload_n 145 2 rfl rfl rfl rfl ?_
    refine pj_istore 147 (ls' := [(0, .ref r0), (1, .int (pj_I x1)), (2, .int (pj_I x2)), (3, .int (pj_I x3)), (4, .int (pj_I x2))]) rfl (by decide) rfl rfl ?_
    refine pn_sub [0, 3, 4] rfl ?_
    exact s_X12_goExact_147 hg o0   h
  · replace h := h.2 hc
    refine pj_aload_n 33 0 rfl rfl rfl rfl ?_
    refine pn_getr 36 12 19 hg o0 (pr_12_19 o0).2 rfl pfX12_46 rfl rfl ?_
    refine pj_iload 38 4 rfl rfl rfl ?_
    obtain ⟨q11, h⟩ := h
    refine pn_bald 39 2 16 (pr_12_19 o0) (by decide) q11 rfl rfl ?_
    obtain ⟨q12, h⟩ := h
    refine pj_if_ne 45 42 rfl (by decide) rfl q12  (fun hc => ?_) (fun hc => ?_)
    · replace h := h.1 hc
      refine pj_iload_n 46 1 rfl rfl rfl rfl ?_
      refine pj_bipush 48 rfl (by decide) rfl ?_
      obtain ⟨q13, h⟩ := h
      refine pj_icmp_ge 81 51 rfl (by decide) rfl q13 (show pj_in 8 by decide) (fun hc => ?_) (fun hc => ?_)
      · replace h := h.1 hc
        refine pj_iload 83 4 rfl rfl rfl ?_
        refine pj_istore 85 (ls' := [(0, .ref r0), (1, .int (pj_I x1)), (2, .int (pj_I x2)), (3, .int (pj_I x3)), (4, .int (pj_I x4)), (5, .int (pj_I x4))]) rfl (by decide) rfl rfl ?_
        refine pn_sub [0, 1, 2, 3, 4, 5] rfl ?_
        exact s_X12_goExact_85 hg o0  hk26 h
      · replace h := h.2 hc
        refine pj_iload 53 4 rfl rfl rfl ?_
        refine pj_iload_n 54 3 rfl rfl rfl rfl ?_
        obtain ⟨q25, h⟩ := h
        obtain ⟨q26, h⟩ := h
        refine pj_icmp_ge 138 57 rfl (by decide) rfl q25 q26 (fun hc => ?_) (fun hc => ?_)
        · replace h := h.1 hc
          refine pj_iinc 141 4 (ls' := [(0, .ref r0), (1, .int (pj_I x1)), (2, .int (pj_I x2)), (3, .int (pj_I x3)), (4, .int (pj_I (x4 + 1)))]) rfl rfl (by decide) rfl rfl ?_
          refine pj_goto 26 rfl (by decide) ?_
          refine pn_sub [0, 1, 2, 3, 4] rfl ?_
          exact hk26 _ _ h
        · replace h := h.2 hc
          refine pj_aload_n 58 0 rfl rfl rfl rfl ?_
          refine pn_getr 61 12 13 hg o0 (pr_12_13 o0).2 rfl pfX12_30 rfl rfl ?_
          refine pj_iload 63 4 rfl rfl rfl ?_
          obtain ⟨q27, h⟩ := h
          refine pn_iald 64 16 (pr_12_13 o0) q27 rfl rfl ?_
          refine pj_iload_n 65 1 rfl rfl rfl rfl ?_
          obtain ⟨q28, h⟩ := h
          obtain ⟨q29, h⟩ := h
          refine pj_icmp_ne 138 68 rfl (by decide) rfl q28 q29 (fun hc => ?_) (fun hc => ?_)
          · replace h := h.1 hc
            refine pj_iinc 141 4 (ls' := [(0, .ref r0), (1, .int (pj_I x1)), (2, .int (pj_I x2)), (3, .int (pj_I x3)), (4, .int (pj_I (x4 + 1)))]) rfl rfl (by decide) rfl rfl ?_
            refine pj_goto 26 rfl (by decide) ?_
            refine pn_sub [0, 1, 2, 3, 4] rfl ?_
            exact hk26 _ _ h
          · replace h := h.2 (Classical.not_not.mp hc)
            refine pj_aload_n 69 0 rfl rfl rfl rfl ?_
            refine pn_getr 72 12 20 hg o0 (pr_12_20 o0).2 rfl pfX12_49 rfl rfl ?_
            refine pj_iload 74 4 rfl rfl rfl ?_
            refine pj_iconst 75 rfl rfl ?_
            refine pj_iadd 76 rfl rfl ?_
            refine pj_iconst 77 rfl rfl ?_
            obtain ⟨q30, h⟩ := h
            refine pn_zast 78 16 (pr_12_20 o0) (by decide) q30 rfl rfl (fun M31 hM31 => ?_)
            replace h := h M31 hM31
            refine pj_goto 138 rfl (by decide) ?_
            refine pj_iinc 141 4 (ls' := [(0, .ref r0), (1, .int (pj_I x1)), (2, .int (pj_I x2)), (3, .int (pj_I x3)), (4, .int (pj_I (x4 + 1)))]) rfl rfl (by decide) rfl rfl ?_
            refine pj_goto 26 rfl (by decide) ?_
            refine pn_sub [0, 1, 2, 3, 4] rfl ?_
            exact hk26 _ _ h
    · replace h := h.2 (Classical.not_not.mp hc)
      refine pj_goto 138 rfl (by decide) ?_
      refine pj_iinc 141 4 (ls' := [(0, .ref r0), (1, .int (pj_I x1)), (2, .int (pj_I x2)), (3, .int (pj_I x3)), (4, .int (pj_I (x4 + 1)))]) rfl rfl (by decide) rfl rfl ?_
      refine pj_goto 26 rfl (by decide) ?_
      refine pn_sub [0, 1, 2, 3, 4] rfl ?_
      exact hk26 _ _ h
set_option maxRecDepth 20000 in
set_option maxHeartbeats 4000000 in
theorem s_X12_goExact_26 {l : Launch} {g : pj_G} (hg : pj_ph g = true) {r0 : Nat} {x1 : Int} {x2 : Int} {x3 : Int} {x4 : Int} {M : pj_M} {Q : pj_M → Prop}  (o0 : pj_ob r0 12)  (h : w_X12_goExact_26 r0 x1 x2 x3  Q x4 M) : pj_R l g mdX12_goExact pj_T (pj_Zm g mdX12_goExact (pj_qv Q)) pj_NK 0 0 26 [(0, .ref r0), (1, .int (pj_I x1)), (2, .int (pj_I x2)), (3, .int (pj_I x3)), (4, .int (pj_I x4))] [] M :=
  h (fun s => pj_R l g mdX12_goExact pj_T (pj_Zm g mdX12_goExact (pj_qv Q)) pj_NK 0 0 26 [(0, .ref r0), (1, .int (pj_I x1)), (2, .int (pj_I x2)), (3, .int (pj_I x3)), (4, .int (pj_I (s.1)))] [] s.2) (fun s hs => s_X12_goExact_26b hg o0  (fun _ _ q => q) hs)
set_option maxRecDepth 20000 in
set_option maxHeartbeats 4000000 in
theorem s_X12_goExact_3b {l : Launch} {g : pj_G} (hg : pj_ph g = true) {r0 : Nat} {x1 : Int} {x2 : Int} {x3 : Int} {x4 : Int} {M : pj_M} {Q : pj_M → Prop}  {k3 : Int → pj_M → Prop} (o0 : pj_ob r0 12)  (hk3 : ∀ (x4 : Int) (M : pj_M), k3 x4 M → pj_R l g mdX12_goExact pj_T (pj_Zm g mdX12_goExact (pj_qv Q)) pj_NK 0 0 3 [(0, .ref r0), (1, .int (pj_I x1)), (2, .int (pj_I x2)), (3, .int (pj_I x3)), (4, .int (pj_I x4))] [] M) (h : w_X12_goExact_3b r0 x1 x2 x3  Q k3 x4 M) : pj_R l g mdX12_goExact pj_T (pj_Zm g mdX12_goExact (pj_qv Q)) pj_NK 0 0 3 [(0, .ref r0), (1, .int (pj_I x1)), (2, .int (pj_I x2)), (3, .int (pj_I x3)), (4, .int (pj_I x4))] [] M := by
  unfold w_X12_goExact_3b at h
  refine pj_iload 5 4 rfl rfl rfl ?_
  refine pj_iload_n 6 3 rfl rfl rfl rfl ?_
  obtain ⟨q1, h⟩ := h
  obtain ⟨q2, h⟩ := h
  refine pj_icmp_gt 23 9 rfl (by decide) rfl q1 q2 (fun hc => ?_) (fun hc => ?_)
  · replace h := h.1 hc
    refine pj_iload_n 24 2 rfl rfl rfl rfl ?_
    refine pj_istore 26 (ls' := [(0, .ref r0), (1, .int (pj_I x1)), (2, .int (pj_I x2)), (3, .int (pj_I x3)), (4, .int (pj_I x2))]) rfl (by decide) rfl rfl ?_
    refine pn_sub [0, 1, 2, 3, 4] rfl ?_
    exact s_X12_goExact_26 hg o0   h
  · replace h := h.2 hc
    refine pj_aload_n 10 0 rfl rfl rfl rfl ?_
    refine pn_getr 13 12 20 hg o0 (pr_12_20 o0).2 rfl pfX12_49 rfl rfl ?_
    refine pj_iload 15 4 rfl rfl rfl ?_
    refine pj_iconst 16 rfl rfl ?_
    obtain ⟨q32, h⟩ := h
    refine pn_zast 17 16 (pr_12_20 o0) (by decide) q32 rfl rfl (fun M33 hM33 => ?_)
    replace h := h M33 hM33
    refine pj_iinc 20 4 (ls' := [(0, .ref r0), (1, .int (pj_I x1)), (2, .int (pj_I x2)), (3, .int (pj_I x3)), (4, .int (pj_I (x4 + 1)))]) rfl rfl (by decide) rfl rfl ?_
    refine pj_goto 3 rfl (by decide) ?_
    refine pn_sub [0, 1, 2, 3, 4] rfl ?_
    exact hk3 _ _ h
set_option maxRecDepth 20000 in
set_option maxHeartbeats 4000000 in
theorem s_X12_goExact_3 {l : Launch} {g : pj_G} (hg : pj_ph g = true) {r0 : Nat} {x1 : Int} {x2 : Int} {x3 : Int} {x4 : Int} {M : pj_M} {Q : pj_M → Prop}  (o0 : pj_ob r0 12)  (h : w_X12_goExact_3 r0 x1 x2 x3  Q x4 M) : pj_R l g mdX12_goExact pj_T (pj_Zm g mdX12_goExact (pj_qv Q)) pj_NK 0 0 3 [(0, .ref r0), (1, .int (pj_I x1)), (2, .int (pj_I x2)), (3, .int (pj_I x3)), (4, .int (pj_I x4))] [] M :=
  h (fun s => pj_R l g mdX12_goExact pj_T (pj_Zm g mdX12_goExact (pj_qv Q)) pj_NK 0 0 3 [(0, .ref r0), (1, .int (pj_I x1)), (2, .int (pj_I x2)), (3, .int (pj_I x3)), (4, .int (pj_I (s.1)))] [] s.2) (fun s hs => s_X12_goExact_3b hg o0  (fun _ _ q => q) hs)
set_option maxRecDepth 20000 in
set_option maxHeartbeats 4000000 in
theorem s_X12_goExact {l : Launch} {g : pj_G} (hg : pj_ph g = true) {r0 : Nat} {x1 : Int} {x2 : Int} {x3 : Int} {M : pj_M} {Q : pj_M → Prop} (o0 : pj_ob r0 12) (h : w_X12_goExact r0 x1 x2 x3 M Q) : pj_S l g mdX12_goExact [.ref r0, .int (pj_I x1), .int (pj_I x2), .int (pj_I x3)] pj_NK M (pj_qv Q) := by
  refine pj_ofR (ls := [(0, .ref r0), (1, .int (pj_I x1)), (2, .int (pj_I x2)), (3, .int (pj_I x3))]) gcX12_goExact (by decide) rfl (Nat.le_of_ble_eq_true rfl) rfl ?_
  unfold w_X12_goExact at h
  refine pj_iload_n 1 2 rfl rfl rfl rfl ?_
  refine pj_istore 3 (ls' := [(0, .ref r0), (1, .int (pj_I x1)), (2, .int (pj_I x2)), (3, .int (pj_I x3)), (4, .int (pj_I x2))]) rfl (by decide) rfl rfl ?_
  refine pn_sub [0, 1, 2, 3, 4] rfl ?_
  exact s_X12_goExact_3 hg o0   h
def w_X12_yieldsBy_9b (r0 : Nat) (x1 : Int) (x2 : Int) (x3 : Int)  (Q : Int → pj_M → Prop) (k9 : Int → pj_M → Prop) (x4 : Int) (M : pj_M) : Prop :=
  w_X12_longOf r0 x1 M (fun (t4 : Int) (M3 : pj_M) => (pj_in x4) ∧ (pj_in t4) ∧ ((t4 ≤ x4 → ((0 : Int) ≤ x3 ∧ x3 < 16) ∧ ((M3 (pj_rf r0 19) x3) = 0 ∨ (M3 (pj_rf r0 19) x3) = 1) ∧ Q (M3 (pj_rf r0 19) x3) M3) ∧ (¬ t4 ≤ x4 → w_X12_symbolOf r0 x1 x4 M3 (fun (t10 : Int) (M9 : pj_M) => w_X12_goExact r0 t10 x2 x3 M9 (fun (M11 : pj_M) => k9 (x4 + 1) M11)))))
def w_X12_yieldsBy_9 (r0 : Nat) (x1 : Int) (x2 : Int) (x3 : Int)  (Q : Int → pj_M → Prop) (x4 : Int) (M : pj_M) : Prop := pj_lp (fun (k : Int × pj_M → Prop) (s : Int × pj_M) => w_X12_yieldsBy_9b r0 x1 x2 x3  Q (fun (x4 : Int) (M : pj_M) => k (x4, M)) s.1 s.2) (x4, M)
def w_X12_yieldsBy (r0 : Nat) (x1 : Int) (x2 : Int) (x3 : Int) (M : pj_M) (Q : Int → pj_M → Prop) : Prop :=
  w_X12_onlyAt r0 x2 x3 M (fun (M1 : pj_M) => w_X12_yieldsBy_9 r0 x1 x2 x3  Q 0 M1)
set_option maxRecDepth 20000 in
set_option maxHeartbeats 4000000 in
theorem s_X12_yieldsBy_9b {l : Launch} {g : pj_G} (hg : pj_ph g = true) {r0 : Nat} {x1 : Int} {x2 : Int} {x3 : Int} {x4 : Int} {M : pj_M} {Q : Int → pj_M → Prop}  {k9 : Int → pj_M → Prop} (o0 : pj_ob r0 12)  (hk9 : ∀ (x4 : Int) (M : pj_M), k9 x4 M → pj_R l g mdX12_yieldsBy pj_T (pj_Zm g mdX12_yieldsBy (pj_qi Q)) pj_NK 0 0 9 [(0, .ref r0), (1, .int (pj_I x1)), (2, .int (pj_I x2)), (3, .int (pj_I x3)), (4, .int (pj_I x4))] [] M) (h : w_X12_yieldsBy_9b r0 x1 x2 x3  Q k9 x4 M) : pj_R l g mdX12_yieldsBy pj_T (pj_Zm g mdX12_yieldsBy (pj_qi Q)) pj_NK 0 0 9 [(0, .ref r0), (1, .int (pj_I x1)), (2, .int (pj_I x2)), (3, .int (pj_I x3)), (4, .int (pj_I x4))] [] M := by
  unfold w_X12_yieldsBy_9b at h
  refine pj_iload 11 4 rfl rfl rfl ?_
  refine pj_aload_n 12 0 rfl rfl rfl rfl ?_
  refine pj_iload_n 13 1 rfl rfl rfl rfl ?_
  refine pn_callVi 16 12 [.int (pj_I x1)] [.int (pj_I x4)] o0 (s_X12_longOf hg o0 h) plX12_176 rfl rfl rfl rfl (Nat.le_of_ble_eq_true rfl) (by decide) (fun t4 M3 h => ?_)
  obtain ⟨q5, h⟩ := h
  obtain ⟨q6, h⟩ := h
  refine pj_icmp_ge 38 19 rfl (by decide) rfl q5 q6 (fun hc => ?_) (fun hc => ?_)
  · replace h := h.1 hc
    refine pj_aload_n 39 0 rfl rfl rfl rfl ?_
    refine pn_getr 42 12 19 hg o0 (pr_12_19 o0).2 rfl pfX12_46 rfl rfl ?_
    refine pj_iload_n 43 3 rfl rfl rfl rfl ?_
    obtain ⟨q7, h⟩ := h
    refine pn_bald 44 2 16 (pr_12_19 o0) (by decide) q7 rfl rfl ?_
    obtain ⟨q8, h⟩ := h
    exact pn_zret q8 h rfl rfl
  · replace h := h.2 hc
    refine pj_aload_n 20 0 rfl rfl rfl rfl ?_
    refine pj_aload_n 21 0 rfl rfl rfl rfl ?_
    refine pj_iload_n 22 1 rfl rfl rfl rfl ?_
    refine pj_iload 24 4 rfl rfl rfl ?_
    refine pn_callVi 27 12 [.int (pj_I x1), .int (pj_I x4)] [.ref r0] o0 (s_X12_symbolOf hg o0 h) plX12_179 rfl rfl rfl rfl (Nat.le_of_ble_eq_true rfl) (by decide) (fun t10 M9 h => ?_)
    refine pj_iload_n 28 2 rfl rfl rfl rfl ?_
    refine pj_iload_n 29 3 rfl rfl rfl rfl ?_
    refine pn_callVv 32 12 [.int (pj_I t10), .int (pj_I x2), .int (pj_I x3)] [] o0 (s_X12_goExact hg o0 h) plX12_194 rfl rfl rfl rfl (Nat.le_of_ble_eq_true rfl) (by decide) (fun M11 h => ?_)
    refine pj_iinc 35 4 (ls' := [(0, .ref r0), (1, .int (pj_I x1)), (2, .int (pj_I x2)), (3, .int (pj_I x3)), (4, .int (pj_I (x4 + 1)))]) rfl rfl (by decide) rfl rfl ?_
    refine pj_goto 9 rfl (by decide) ?_
    refine pn_sub [0, 1, 2, 3, 4] rfl ?_
    exact hk9 _ _ h
set_option maxRecDepth 20000 in
set_option maxHeartbeats 4000000 in
theorem s_X12_yieldsBy_9 {l : Launch} {g : pj_G} (hg : pj_ph g = true) {r0 : Nat} {x1 : Int} {x2 : Int} {x3 : Int} {x4 : Int} {M : pj_M} {Q : Int → pj_M → Prop}  (o0 : pj_ob r0 12)  (h : w_X12_yieldsBy_9 r0 x1 x2 x3  Q x4 M) : pj_R l g mdX12_yieldsBy pj_T (pj_Zm g mdX12_yieldsBy (pj_qi Q)) pj_NK 0 0 9 [(0, .ref r0), (1, .int (pj_I x1)), (2, .int (pj_I x2)), (3, .int (pj_I x3)), (4, .int (pj_I x4))] [] M :=
  h (fun s => pj_R l g mdX12_yieldsBy pj_T (pj_Zm g mdX12_yieldsBy (pj_qi Q)) pj_NK 0 0 9 [(0, .ref r0), (1, .int (pj_I x1)), (2, .int (pj_I x2)), (3, .int (pj_I x3)), (4, .int (pj_I (s.1)))] [] s.2) (fun s hs => s_X12_yieldsBy_9b hg o0  (fun _ _ q => q) hs)
set_option maxRecDepth 20000 in
set_option maxHeartbeats 4000000 in
theorem s_X12_yieldsBy {l : Launch} {g : pj_G} (hg : pj_ph g = true) {r0 : Nat} {x1 : Int} {x2 : Int} {x3 : Int} {M : pj_M} {Q : Int → pj_M → Prop} (o0 : pj_ob r0 12) (h : w_X12_yieldsBy r0 x1 x2 x3 M Q) : pj_S l g mdX12_yieldsBy [.ref r0, .int (pj_I x1), .int (pj_I x2), .int (pj_I x3)] pj_NK M (pj_qi Q) := by
  refine pj_ofR (ls := [(0, .ref r0), (1, .int (pj_I x1)), (2, .int (pj_I x2)), (3, .int (pj_I x3))]) gcX12_yieldsBy (by decide) rfl (Nat.le_of_ble_eq_true rfl) rfl ?_
  unfold w_X12_yieldsBy at h
  refine pj_aload_n 1 0 rfl rfl rfl rfl ?_
  refine pj_iload_n 2 2 rfl rfl rfl rfl ?_
  refine pj_iload_n 3 3 rfl rfl rfl rfl ?_
  refine pn_callVv 6 12 [.int (pj_I x2), .int (pj_I x3)] [] o0 (s_X12_onlyAt hg o0 h) plX12_190 rfl rfl rfl rfl (Nat.le_of_ble_eq_true rfl) (by decide) (fun M1 h => ?_)
  refine pj_iconst 7 rfl rfl ?_
  refine pj_istore 9 (ls' := [(0, .ref r0), (1, .int (pj_I x1)), (2, .int (pj_I x2)), (3, .int (pj_I x3)), (4, .int (pj_I 0))]) rfl (by decide) rfl rfl ?_
  refine pn_sub [0, 1, 2, 3, 4] rfl ?_
  exact s_X12_yieldsBy_9 hg o0   h
def w_X12_beginsBy_29b (r0 : Nat) (x1 : Int) (x2 : Int) (x3 : Int) (x4 : Int) (k16 : Int → pj_M → Prop) (Q : Int → pj_M → Prop) (k29 : Int → pj_M → Prop) (x5 : Int) (M : pj_M) : Prop :=
  (pj_in x5) ∧ (pj_in x3) ∧ ((x3 < x5 → w_X12_symbolOf r0 x1 x4 M (fun (t12 : Int) (M11 : pj_M) => w_X12_goExact r0 t12 x2 x3 M11 (fun (M13 : pj_M) => k16 (x4 + 1) M13))) ∧ (¬ x3 < x5 → ((0 : Int) ≤ x5 ∧ x5 < 16) ∧ (pj_in (M (pj_rf r0 19) x5)) ∧ (((M (pj_rf r0 19) x5) = 0 → k29 (x5 + 1) M) ∧ (¬ (M (pj_rf r0 19) x5) = 0 → w_X12_symbolOf r0 x1 x4 M (fun (t18 : Int) (M17 : pj_M) => w_X12_part r0 (pj_rf r0 16) t18 x5 x3 M17 (fun (t20 : Int) (M19 : pj_M) => (pj_in t20) ∧ ((t20 = 0 → k29 (x5 + 1) M19) ∧ (¬ t20 = 0 → Q 1 M19))))))))
def w_X12_beginsBy_29 (r0 : Nat) (x1 : Int) (x2 : Int) (x3 : Int) (x4 : Int) (k16 : Int → pj_M → Prop) (Q : Int → pj_M → Prop) (x5 : Int) (M : pj_M) : Prop := pj_lp (fun (k : Int × pj_M → Prop) (s : Int × pj_M) => w_X12_beginsBy_29b r0 x1 x2 x3 x4 k16 Q (fun (x5 : Int) (M : pj_M) => k (x5, M)) s.1 s.2) (x5, M)
def w_X12_beginsBy_16b (r0 : Nat) (x1 : Int) (x2 : Int) (x3 : Int)  (Q : Int → pj_M → Prop) (k16 : Int → pj_M → Prop) (x4 : Int) (M : pj_M) : Prop :=
  w_X12_longOf r0 x1 M (fun (t6 : Int) (M5 : pj_M) => (pj_in x4) ∧ (pj_in t6) ∧ ((t6 ≤ x4 → Q 0 M5) ∧ (¬ t6 ≤ x4 → w_X12_beginsBy_29 r0 x1 x2 x3 x4 k16 Q x2 M5)))
def w_X12_beginsBy_16 (r0 : Nat) (x1 : Int) (x2 : Int) (x3 : Int)  (Q : Int → pj_M → Prop) (x4 : Int) (M : pj_M) : Prop := pj_lp (fun (k : Int × pj_M → Prop) (s : Int × pj_M) => w_X12_beginsBy_16b r0 x1 x2 x3  Q (fun (x4 : Int) (M : pj_M) => k (x4, M)) s.1 s.2) (x4, M)
def w_X12_beginsBy (r0 : Nat) (x1 : Int) (x2 : Int) (x3 : Int) (M : pj_M) (Q : Int → pj_M → Prop) : Prop :=
  (pj_in x2) ∧ (pj_in x3) ∧ ((¬ x2 = x3 → w_X12_onlyAt r0 x2 x3 M (fun (M3 : pj_M) => w_X12_beginsBy_16 r0 x1 x2 x3  Q 0 M3)) ∧ (x2 = x3 → Q 1 M))
set_option maxRecDepth 20000 in
set_option maxHeartbeats 4000000 in
theorem s_X12_beginsBy_29b {l : Launch} {g : pj_G} (hg : pj_ph g = true) {r0 : Nat} {x1 : Int} {x2 : Int} {x3 : Int} {x4 : Int} {x5 : Int} {M : pj_M} {Q : Int → pj_M → Prop} {k16 : Int → pj_M → Prop} {k29 : Int → pj_M → Prop} (o0 : pj_ob r0 12) (hk16 : ∀ (x4 : Int) (M : pj_M), k16 x4 M → pj_R l g mdX12_beginsBy pj_T (pj_Zm g mdX12_beginsBy (pj_qi Q)) pj_NK 0 0 16 [(0, .ref r0), (1, .int (pj_I x1)), (2, .int (pj_I x2)), (3, .int (pj_I x3)), (4, .int (pj_I x4))] [] M) (hk29 : ∀ (x5 : Int) (M : pj_M), k29 x5 M → pj_R l g mdX12_beginsBy pj_T (pj_Zm g mdX12_beginsBy (pj_qi Q)) pj_NK 0 0 29 [(0, .ref r0), (1, .int (pj_I x1)), (2, .int (pj_I x2)), (3, .int (pj_I x3)), (4, .int (pj_I x4)), (5, .int (pj_I x5))] [] M) (h : w_X12_beginsBy_29b r0 x1 x2 x3 x4 k16 Q k29 x5 M) : pj_R l g mdX12_beginsBy pj_T (pj_Zm g mdX12_beginsBy (pj_qi Q)) pj_NK 0 0 29 [(0, .ref r0), (1, .int (pj_I x1)), (2, .int (pj_I x2)), (3, .int (pj_I x3)), (4, .int (pj_I x4)), (5, .int (pj_I x5))] [] M := by
  unfold w_X12_beginsBy_29b at h
  refine pj_iload 31 5 rfl rfl rfl ?_
  refine pj_iload_n 32 3 rfl rfl rfl rfl ?_
  obtain ⟨q9, h⟩ := h
  obtain ⟨q10, h⟩ := h
  refine pj_icmp_gt 74 35 rfl (by decide) rfl q9 q10 (fun hc => ?_) (fun hc => ?_)
  · replace h := h.1 hc
    refine pj_aload_n 75 0 rfl rfl rfl rfl ?_
    refine pj_aload_n 76 0 rfl rfl rfl rfl ?_
    refine pj_iload_n 77 1 rfl rfl rfl rfl ?_
    refine pj_iload 79 4 rfl rfl rfl ?_
    refine pn_callVi 82 12 [.int (pj_I x1), .int (pj_I x4)] [.ref r0] o0 (s_X12_symbolOf hg o0 h) plX12_179 rfl rfl rfl rfl (Nat.le_of_ble_eq_true rfl) (by decide) (fun t12 M11 h => ?_)
    refine pj_iload_n 83 2 rfl rfl rfl rfl ?_
    refine pj_iload_n 84 3 rfl rfl rfl rfl ?_
    refine pn_callVv 87 12 [.int (pj_I t12), .int (pj_I x2), .int (pj_I x3)] [] o0 (s_X12_goExact hg o0 h) plX12_194 rfl rfl rfl rfl (Nat.le_of_ble_eq_true rfl) (by decide) (fun M13 h => ?_)
    refine pj_iinc 90 4 (ls' := [(0, .ref r0), (1, .int (pj_I x1)), (2, .int (pj_I x2)), (3, .int (pj_I x3)), (4, .int (pj_I (x4 + 1))), (5, .int (pj_I x5))]) rfl rfl (by decide) rfl rfl ?_
    refine pj_goto 16 rfl (by decide) ?_
    refine pn_sub [0, 1, 2, 3, 4] rfl ?_
    exact hk16 _ _ h
  · replace h := h.2 hc
    refine pj_aload_n 36 0 rfl rfl rfl rfl ?_
    refine pn_getr 39 12 19 hg o0 (pr_12_19 o0).2 rfl pfX12_46 rfl rfl ?_
    refine pj_iload 41 5 rfl rfl rfl ?_
    obtain ⟨q15, h⟩ := h
    refine pn_bald 42 2 16 (pr_12_19 o0) (by decide) q15 rfl rfl ?_
    obtain ⟨q16, h⟩ := h
    refine pj_if_eq 68 45 rfl (by decide) rfl q16  (fun hc => ?_) (fun hc => ?_)
    · replace h := h.1 hc
      refine pj_iinc 71 5 (ls' := [(0, .ref r0), (1, .int (pj_I x1)), (2, .int (pj_I x2)), (3, .int (pj_I x3)), (4, .int (pj_I x4)), (5, .int (pj_I (x5 + 1)))]) rfl rfl (by decide) rfl rfl ?_
      refine pj_goto 29 rfl (by decide) ?_
      refine pn_sub [0, 1, 2, 3, 4, 5] rfl ?_
      exact hk29 _ _ h
    · replace h := h.2 hc
      refine pj_aload_n 46 0 rfl rfl rfl rfl ?_
      refine pj_aload_n 47 0 rfl rfl rfl rfl ?_
      refine pn_getr 50 12 16 hg o0 (pr_12_16 o0).2 rfl pfX12_37 rfl rfl ?_
      refine pj_aload_n 51 0 rfl rfl rfl rfl ?_
      refine pj_iload_n 52 1 rfl rfl rfl rfl ?_
      refine pj_iload 54 4 rfl rfl rfl ?_
      refine pn_callVi 57 12 [.int (pj_I x1), .int (pj_I x4)] [.ref (pj_rf r0 16), .ref r0] o0 (s_X12_symbolOf hg o0 h) plX12_179 rfl rfl rfl rfl (Nat.le_of_ble_eq_true rfl) (by decide) (fun t18 M17 h => ?_)
      refine pj_iload 59 5 rfl rfl rfl ?_
      refine pj_iload_n 60 3 rfl rfl rfl rfl ?_
      refine pn_callVi 63 12 [.ref (pj_rf r0 16), .int (pj_I t18), .int (pj_I x5), .int (pj_I x3)] [] o0 (s_X12_part hg o0 (pj_oa_of (pr_12_16 o0)) h) plX12_198 rfl rfl rfl rfl (Nat.le_of_ble_eq_true rfl) (by decide) (fun t20 M19 h => ?_)
      obtain ⟨q21, h⟩ := h
      refine pj_if_eq 68 66 rfl (by decide) rfl q21  (fun hc => ?_) (fun hc => ?_)
      · replace h := h.1 hc
        refine pj_iinc 71 5 (ls' := [(0, .ref r0), (1, .int (pj_I x1)), (2, .int (pj_I x2)), (3, .int (pj_I x3)), (4, .int (pj_I x4)), (5, .int (pj_I (x5 + 1)))]) rfl rfl (by decide) rfl rfl ?_
        refine pj_goto 29 rfl (by decide) ?_
        refine pn_sub [0, 1, 2, 3, 4, 5] rfl ?_
        exact hk29 _ _ h
      · replace h := h.2 hc
        refine pj_iconst 67 rfl rfl ?_
        exact pn_zret (by decide) h rfl rfl
set_option maxRecDepth 20000 in
set_option maxHeartbeats 4000000 in
theorem s_X12_beginsBy_29 {l : Launch} {g : pj_G} (hg : pj_ph g = true) {r0 : Nat} {x1 : Int} {x2 : Int} {x3 : Int} {x4 : Int} {x5 : Int} {M : pj_M} {Q : Int → pj_M → Prop} {k16 : Int → pj_M → Prop} (o0 : pj_ob r0 12) (hk16 : ∀ (x4 : Int) (M : pj_M), k16 x4 M → pj_R l g mdX12_beginsBy pj_T (pj_Zm g mdX12_beginsBy (pj_qi Q)) pj_NK 0 0 16 [(0, .ref r0), (1, .int (pj_I x1)), (2, .int (pj_I x2)), (3, .int (pj_I x3)), (4, .int (pj_I x4))] [] M) (h : w_X12_beginsBy_29 r0 x1 x2 x3 x4 k16 Q x5 M) : pj_R l g mdX12_beginsBy pj_T (pj_Zm g mdX12_beginsBy (pj_qi Q)) pj_NK 0 0 29 [(0, .ref r0), (1, .int (pj_I x1)), (2, .int (pj_I x2)), (3, .int (pj_I x3)), (4, .int (pj_I x4)), (5, .int (pj_I x5))] [] M :=
  h (fun s => pj_R l g mdX12_beginsBy pj_T (pj_Zm g mdX12_beginsBy (pj_qi Q)) pj_NK 0 0 29 [(0, .ref r0), (1, .int (pj_I x1)), (2, .int (pj_I x2)), (3, .int (pj_I x3)), (4, .int (pj_I x4)), (5, .int (pj_I (s.1)))] [] s.2) (fun s hs => s_X12_beginsBy_29b hg o0 hk16 (fun _ _ q => q) hs)
set_option maxRecDepth 20000 in
set_option maxHeartbeats 4000000 in
theorem s_X12_beginsBy_16b {l : Launch} {g : pj_G} (hg : pj_ph g = true) {r0 : Nat} {x1 : Int} {x2 : Int} {x3 : Int} {x4 : Int} {M : pj_M} {Q : Int → pj_M → Prop}  {k16 : Int → pj_M → Prop} (o0 : pj_ob r0 12)  (hk16 : ∀ (x4 : Int) (M : pj_M), k16 x4 M → pj_R l g mdX12_beginsBy pj_T (pj_Zm g mdX12_beginsBy (pj_qi Q)) pj_NK 0 0 16 [(0, .ref r0), (1, .int (pj_I x1)), (2, .int (pj_I x2)), (3, .int (pj_I x3)), (4, .int (pj_I x4))] [] M) (h : w_X12_beginsBy_16b r0 x1 x2 x3  Q k16 x4 M) : pj_R l g mdX12_beginsBy pj_T (pj_Zm g mdX12_beginsBy (pj_qi Q)) pj_NK 0 0 16 [(0, .ref r0), (1, .int (pj_I x1)), (2, .int (pj_I x2)), (3, .int (pj_I x3)), (4, .int (pj_I x4))] [] M := by
  unfold w_X12_beginsBy_16b at h
  refine pj_iload 18 4 rfl rfl rfl ?_
  refine pj_aload_n 19 0 rfl rfl rfl rfl ?_
  refine pj_iload_n 20 1 rfl rfl rfl rfl ?_
  refine pn_callVi 23 12 [.int (pj_I x1)] [.int (pj_I x4)] o0 (s_X12_longOf hg o0 h) plX12_176 rfl rfl rfl rfl (Nat.le_of_ble_eq_true rfl) (by decide) (fun t6 M5 h => ?_)
  obtain ⟨q7, h⟩ := h
  obtain ⟨q8, h⟩ := h
  refine pj_icmp_ge 93 26 rfl (by decide) rfl q7 q8 (fun hc => ?_) (fun hc => ?_)
  · replace h := h.1 hc
    refine pj_iconst 94 rfl rfl ?_
    exact pn_zret (by decide) h rfl rfl
  · replace h := h.2 hc
    refine pj_iload_n 27 2 rfl rfl rfl rfl ?_
    refine pj_istore 29 (ls' := [(0, .ref r0), (1, .int (pj_I x1)), (2, .int (pj_I x2)), (3, .int (pj_I x3)), (4, .int (pj_I x4)), (5, .int (pj_I x2))]) rfl (by decide) rfl rfl ?_
    refine pn_sub [0, 1, 2, 3, 4, 5] rfl ?_
    exact s_X12_beginsBy_29 hg o0  hk16 h
set_option maxRecDepth 20000 in
set_option maxHeartbeats 4000000 in
theorem s_X12_beginsBy_16 {l : Launch} {g : pj_G} (hg : pj_ph g = true) {r0 : Nat} {x1 : Int} {x2 : Int} {x3 : Int} {x4 : Int} {M : pj_M} {Q : Int → pj_M → Prop}  (o0 : pj_ob r0 12)  (h : w_X12_beginsBy_16 r0 x1 x2 x3  Q x4 M) : pj_R l g mdX12_beginsBy pj_T (pj_Zm g mdX12_beginsBy (pj_qi Q)) pj_NK 0 0 16 [(0, .ref r0), (1, .int (pj_I x1)), (2, .int (pj_I x2)), (3, .int (pj_I x3)), (4, .int (pj_I x4))] [] M :=
  h (fun s => pj_R l g mdX12_beginsBy pj_T (pj_Zm g mdX12_beginsBy (pj_qi Q)) pj_NK 0 0 16 [(0, .ref r0), (1, .int (pj_I x1)), (2, .int (pj_I x2)), (3, .int (pj_I x3)), (4, .int (pj_I (s.1)))] [] s.2) (fun s hs => s_X12_beginsBy_16b hg o0  (fun _ _ q => q) hs)
set_option maxRecDepth 20000 in
set_option maxHeartbeats 4000000 in
theorem s_X12_beginsBy {l : Launch} {g : pj_G} (hg : pj_ph g = true) {r0 : Nat} {x1 : Int} {x2 : Int} {x3 : Int} {M : pj_M} {Q : Int → pj_M → Prop} (o0 : pj_ob r0 12) (h : w_X12_beginsBy r0 x1 x2 x3 M Q) : pj_S l g mdX12_beginsBy [.ref r0, .int (pj_I x1), .int (pj_I x2), .int (pj_I x3)] pj_NK M (pj_qi Q) := by
  refine pj_ofR (ls := [(0, .ref r0), (1, .int (pj_I x1)), (2, .int (pj_I x2)), (3, .int (pj_I x3))]) gcX12_beginsBy (by decide) rfl (Nat.le_of_ble_eq_true rfl) rfl ?_
  unfold w_X12_beginsBy at h
  refine pj_iload_n 1 2 rfl rfl rfl rfl ?_
  refine pj_iload_n 2 3 rfl rfl rfl rfl ?_
  obtain ⟨q1, h⟩ := h
  obtain ⟨q2, h⟩ := h
  refine pj_icmp_ne 7 5 rfl (by decide) rfl q1 q2 (fun hc => ?_) (fun hc => ?_)
  · replace h := h.1 hc
    refine pj_aload_n 8 0 rfl rfl rfl rfl ?_
    refine pj_iload_n 9 2 rfl rfl rfl rfl ?_
    refine pj_iload_n 10 3 rfl rfl rfl rfl ?_
    refine pn_callVv 13 12 [.int (pj_I x2), .int (pj_I x3)] [] o0 (s_X12_onlyAt hg o0 h) plX12_190 rfl rfl rfl rfl (Nat.le_of_ble_eq_true rfl) (by decide) (fun M3 h => ?_)
    refine pj_iconst 14 rfl rfl ?_
    refine pj_istore 16 (ls' := [(0, .ref r0), (1, .int (pj_I x1)), (2, .int (pj_I x2)), (3, .int (pj_I x3)), (4, .int (pj_I 0))]) rfl (by decide) rfl rfl ?_
    refine pn_sub [0, 1, 2, 3, 4] rfl ?_
    exact s_X12_beginsBy_16 hg o0   h
  · replace h := h.2 (Classical.not_not.mp hc)
    refine pj_iconst 6 rfl rfl ?_
    exact pn_zret (by decide) h rfl rfl
def w_X12_endsBy_66b (r0 : Nat) (x1 : Int) (x2 : Int) (x3 : Int) (x4 : Int) (k10 : Int → pj_M → Prop) (Q : Int → pj_M → Prop) (k66 : Int → pj_M → Prop) (x5 : Int) (M : pj_M) : Prop :=
  w_X12_longOf r0 x1 M (fun (t10 : Int) (M9 : pj_M) => (pj_in x5) ∧ (pj_in t10) ∧ ((t10 ≤ x5 → ((0 : Int) ≤ x3 ∧ x3 < 16) ∧ (pj_in (M9 (pj_rf r0 19) x3)) ∧ (((M9 (pj_rf r0 19) x3) = 0 → k10 (x4 + 1) M9) ∧ (¬ (M9 (pj_rf r0 19) x3) = 0 → Q 1 M9))) ∧ (¬ t10 ≤ x5 → w_X12_symbolOf r0 x1 x5 M9 (fun (t16 : Int) (M15 : pj_M) => w_X12_goExact r0 t16 x2 x3 M15 (fun (M17 : pj_M) => k66 (x5 + 1) M17)))))
def w_X12_endsBy_66 (r0 : Nat) (x1 : Int) (x2 : Int) (x3 : Int) (x4 : Int) (k10 : Int → pj_M → Prop) (Q : Int → pj_M → Prop) (x5 : Int) (M : pj_M) : Prop := pj_lp (fun (k : Int × pj_M → Prop) (s : Int × pj_M) => w_X12_endsBy_66b r0 x1 x2 x3 x4 k10 Q (fun (x5 : Int) (M : pj_M) => k (x5, M)) s.1 s.2) (x5, M)
def w_X12_endsBy_23b (r0 : Nat) (x1 : Int) (x2 : Int) (x3 : Int) (x4 : Int) (k10 : Int → pj_M → Prop) (Q : Int → pj_M → Prop) (k23 : Int → pj_M → Prop) (x5 : Int) (M : pj_M) : Prop :=
  (pj_in x5) ∧ (pj_in x3) ∧ ((x3 < x5 → w_X12_endsBy_66 r0 x1 x2 x3 x4 k10 Q (x4 + 1) M) ∧ (¬ x3 < x5 → w_X12_symbolOf r0 x1 x4 M (fun (t20 : Int) (M19 : pj_M) => w_X12_part r0 (pj_rf r0 17) t20 x2 x5 M19 (fun (t22 : Int) (M21 : pj_M) => (t22 = 0 ∨ t22 = 1) ∧ ((0 : Int) ≤ x5 ∧ x5 < 16) ∧ ∀ M25 : pj_M, M25 = pj_up M21 (pj_rf r0 19) x5 t22 → k23 (x5 + 1) M25))))
def w_X12_endsBy_23 (r0 : Nat) (x1 : Int) (x2 : Int) (x3 : Int) (x4 : Int) (k10 : Int → pj_M → Prop) (Q : Int → pj_M → Prop) (x5 : Int) (M : pj_M) : Prop := pj_lp (fun (k : Int × pj_M → Prop) (s : Int × pj_M) => w_X12_endsBy_23b r0 x1 x2 x3 x4 k10 Q (fun (x5 : Int) (M : pj_M) => k (x5, M)) s.1 s.2) (x5, M)
def w_X12_endsBy_10b (r0 : Nat) (x1 : Int) (x2 : Int) (x3 : Int)  (Q : Int → pj_M → Prop) (k10 : Int → pj_M → Prop) (x4 : Int) (M : pj_M) : Prop :=
  w_X12_longOf r0 x1 M (fun (t4 : Int) (M3 : pj_M) => (pj_in x4) ∧ (pj_in t4) ∧ ((t4 ≤ x4 → Q 0 M3) ∧ (¬ t4 ≤ x4 → w_X12_endsBy_23 r0 x1 x2 x3 x4 k10 Q x2 M3)))
def w_X12_endsBy_10 (r0 : Nat) (x1 : Int) (x2 : Int) (x3 : Int)  (Q : Int → pj_M → Prop) (x4 : Int) (M : pj_M) : Prop := pj_lp (fun (k : Int × pj_M → Prop) (s : Int × pj_M) => w_X12_endsBy_10b r0 x1 x2 x3  Q (fun (x4 : Int) (M : pj_M) => k (x4, M)) s.1 s.2) (x4, M)
def w_X12_endsBy (r0 : Nat) (x1 : Int) (x2 : Int) (x3 : Int) (M : pj_M) (Q : Int → pj_M → Prop) : Prop :=
  (pj_in x2) ∧ (pj_in x3) ∧ ((¬ x2 = x3 → w_X12_endsBy_10 r0 x1 x2 x3  Q 0 M) ∧ (x2 = x3 → Q 1 M))
set_option maxRecDepth 20000 in
set_option maxHeartbeats 4000000 in
theorem s_X12_endsBy_66b {l : Launch} {g : pj_G} (hg : pj_ph g = true) {r0 : Nat} {x1 : Int} {x2 : Int} {x3 : Int} {x4 : Int} {x5 : Int} {M : pj_M} {Q : Int → pj_M → Prop} {k10 : Int → pj_M → Prop} {k66 : Int → pj_M → Prop} (o0 : pj_ob r0 12) (hk10 : ∀ (x4 : Int) (M : pj_M), k10 x4 M → pj_R l g mdX12_endsBy pj_T (pj_Zm g mdX12_endsBy (pj_qi Q)) pj_NK 0 0 10 [(0, .ref r0), (1, .int (pj_I x1)), (2, .int (pj_I x2)), (3, .int (pj_I x3)), (4, .int (pj_I x4))] [] M) (hk66 : ∀ (x5 : Int) (M : pj_M), k66 x5 M → pj_R l g mdX12_endsBy pj_T (pj_Zm g mdX12_endsBy (pj_qi Q)) pj_NK 0 0 66 [(0, .ref r0), (1, .int (pj_I x1)), (2, .int (pj_I x2)), (3, .int (pj_I x3)), (4, .int (pj_I x4)), (5, .int (pj_I x5))] [] M) (h : w_X12_endsBy_66b r0 x1 x2 x3 x4 k10 Q k66 x5 M) : pj_R l g mdX12_endsBy pj_T (pj_Zm g mdX12_endsBy (pj_qi Q)) pj_NK 0 0 66 [(0, .ref r0), (1, .int (pj_I x1)), (2, .int (pj_I x2)), (3, .int (pj_I x3)), (4, .int (pj_I x4)), (5, .int (pj_I x5))] [] M := by
  unfold w_X12_endsBy_66b at h
  refine pj_iload 68 5 rfl rfl rfl ?_
  refine pj_aload_n 69 0 rfl rfl rfl rfl ?_
  refine pj_iload_n 70 1 rfl rfl rfl rfl ?_
  refine pn_callVi 73 12 [.int (pj_I x1)] [.int (pj_I x5)] o0 (s_X12_longOf hg o0 h) plX12_176 rfl rfl rfl rfl (Nat.le_of_ble_eq_true rfl) (by decide) (fun t10 M9 h => ?_)
  obtain ⟨q11, h⟩ := h
  obtain ⟨q12, h⟩ := h
  refine pj_icmp_ge 95 76 rfl (by decide) rfl q11 q12 (fun hc => ?_) (fun hc => ?_)
  · replace h := h.1 hc
    refine pj_aload_n 96 0 rfl rfl rfl rfl ?_
    refine pn_getr 99 12 19 hg o0 (pr_12_19 o0).2 rfl pfX12_46 rfl rfl ?_
    refine pj_iload_n 100 3 rfl rfl rfl rfl ?_
    obtain ⟨q13, h⟩ := h
    refine pn_bald 101 2 16 (pr_12_19 o0) (by decide) q13 rfl rfl ?_
    obtain ⟨q14, h⟩ := h
    refine pj_if_eq 106 104 rfl (by decide) rfl q14  (fun hc => ?_) (fun hc => ?_)
    · replace h := h.1 hc
      refine pj_iinc 109 4 (ls' := [(0, .ref r0), (1, .int (pj_I x1)), (2, .int (pj_I x2)), (3, .int (pj_I x3)), (4, .int (pj_I (x4 + 1))), (5, .int (pj_I x5))]) rfl rfl (by decide) rfl rfl ?_
      refine pj_goto 10 rfl (by decide) ?_
      refine pn_sub [0, 1, 2, 3, 4] rfl ?_
      exact hk10 _ _ h
    · replace h := h.2 hc
      refine pj_iconst 105 rfl rfl ?_
      exact pn_zret (by decide) h rfl rfl
  · replace h := h.2 hc
    refine pj_aload_n 77 0 rfl rfl rfl rfl ?_
    refine pj_aload_n 78 0 rfl rfl rfl rfl ?_
    refine pj_iload_n 79 1 rfl rfl rfl rfl ?_
    refine pj_iload 81 5 rfl rfl rfl ?_
    refine pn_callVi 84 12 [.int (pj_I x1), .int (pj_I x5)] [.ref r0] o0 (s_X12_symbolOf hg o0 h) plX12_179 rfl rfl rfl rfl (Nat.le_of_ble_eq_true rfl) (by decide) (fun t16 M15 h => ?_)
    refine pj_iload_n 85 2 rfl rfl rfl rfl ?_
    refine pj_iload_n 86 3 rfl rfl rfl rfl ?_
    refine pn_callVv 89 12 [.int (pj_I t16), .int (pj_I x2), .int (pj_I x3)] [] o0 (s_X12_goExact hg o0 h) plX12_194 rfl rfl rfl rfl (Nat.le_of_ble_eq_true rfl) (by decide) (fun M17 h => ?_)
    refine pj_iinc 92 5 (ls' := [(0, .ref r0), (1, .int (pj_I x1)), (2, .int (pj_I x2)), (3, .int (pj_I x3)), (4, .int (pj_I x4)), (5, .int (pj_I (x5 + 1)))]) rfl rfl (by decide) rfl rfl ?_
    refine pj_goto 66 rfl (by decide) ?_
    refine pn_sub [0, 1, 2, 3, 4, 5] rfl ?_
    exact hk66 _ _ h
set_option maxRecDepth 20000 in
set_option maxHeartbeats 4000000 in
theorem s_X12_endsBy_66 {l : Launch} {g : pj_G} (hg : pj_ph g = true) {r0 : Nat} {x1 : Int} {x2 : Int} {x3 : Int} {x4 : Int} {x5 : Int} {M : pj_M} {Q : Int → pj_M → Prop} {k10 : Int → pj_M → Prop} (o0 : pj_ob r0 12) (hk10 : ∀ (x4 : Int) (M : pj_M), k10 x4 M → pj_R l g mdX12_endsBy pj_T (pj_Zm g mdX12_endsBy (pj_qi Q)) pj_NK 0 0 10 [(0, .ref r0), (1, .int (pj_I x1)), (2, .int (pj_I x2)), (3, .int (pj_I x3)), (4, .int (pj_I x4))] [] M) (h : w_X12_endsBy_66 r0 x1 x2 x3 x4 k10 Q x5 M) : pj_R l g mdX12_endsBy pj_T (pj_Zm g mdX12_endsBy (pj_qi Q)) pj_NK 0 0 66 [(0, .ref r0), (1, .int (pj_I x1)), (2, .int (pj_I x2)), (3, .int (pj_I x3)), (4, .int (pj_I x4)), (5, .int (pj_I x5))] [] M :=
  h (fun s => pj_R l g mdX12_endsBy pj_T (pj_Zm g mdX12_endsBy (pj_qi Q)) pj_NK 0 0 66 [(0, .ref r0), (1, .int (pj_I x1)), (2, .int (pj_I x2)), (3, .int (pj_I x3)), (4, .int (pj_I x4)), (5, .int (pj_I (s.1)))] [] s.2) (fun s hs => s_X12_endsBy_66b hg o0 hk10 (fun _ _ q => q) hs)
set_option maxRecDepth 20000 in
set_option maxHeartbeats 4000000 in
theorem s_X12_endsBy_23b {l : Launch} {g : pj_G} (hg : pj_ph g = true) {r0 : Nat} {x1 : Int} {x2 : Int} {x3 : Int} {x4 : Int} {x5 : Int} {M : pj_M} {Q : Int → pj_M → Prop} {k10 : Int → pj_M → Prop} {k23 : Int → pj_M → Prop} (o0 : pj_ob r0 12) (hk10 : ∀ (x4 : Int) (M : pj_M), k10 x4 M → pj_R l g mdX12_endsBy pj_T (pj_Zm g mdX12_endsBy (pj_qi Q)) pj_NK 0 0 10 [(0, .ref r0), (1, .int (pj_I x1)), (2, .int (pj_I x2)), (3, .int (pj_I x3)), (4, .int (pj_I x4))] [] M) (hk23 : ∀ (x5 : Int) (M : pj_M), k23 x5 M → pj_R l g mdX12_endsBy pj_T (pj_Zm g mdX12_endsBy (pj_qi Q)) pj_NK 0 0 23 [(0, .ref r0), (1, .int (pj_I x1)), (2, .int (pj_I x2)), (3, .int (pj_I x3)), (4, .int (pj_I x4)), (5, .int (pj_I x5))] [] M) (h : w_X12_endsBy_23b r0 x1 x2 x3 x4 k10 Q k23 x5 M) : pj_R l g mdX12_endsBy pj_T (pj_Zm g mdX12_endsBy (pj_qi Q)) pj_NK 0 0 23 [(0, .ref r0), (1, .int (pj_I x1)), (2, .int (pj_I x2)), (3, .int (pj_I x3)), (4, .int (pj_I x4)), (5, .int (pj_I x5))] [] M := by
  unfold w_X12_endsBy_23b at h
  refine pj_iload 25 5 rfl rfl rfl ?_
  refine pj_iload_n 26 3 rfl rfl rfl rfl ?_
  obtain ⟨q7, h⟩ := h
  obtain ⟨q8, h⟩ := h
  refine pj_icmp_gt 60 29 rfl (by decide) rfl q7 q8 (fun hc => ?_) (fun hc => ?_)
  · replace h := h.1 hc
    refine pj_iload 62 4 rfl rfl rfl ?_
    refine pj_iconst 63 rfl rfl ?_
    refine pj_iadd 64 rfl rfl ?_
    refine pj_istore 66 (ls' := [(0, .ref r0), (1, .int (pj_I x1)), (2, .int (pj_I x2)), (3, .int (pj_I x3)), (4, .int (pj_I x4)), (5, .int (pj_I (x4 + 1)))]) rfl (by decide) rfl rfl ?_
    refine pn_sub [0, 1, 2, 3, 4, 5] rfl ?_
    exact s_X12_endsBy_66 hg o0  hk10 h
  · replace h := h.2 hc
    refine pj_aload_n 30 0 rfl rfl rfl rfl ?_
    refine pn_getr 33 12 19 hg o0 (pr_12_19 o0).2 rfl pfX12_46 rfl rfl ?_
    refine pj_iload 35 5 rfl rfl rfl ?_
    refine pj_aload_n 36 0 rfl rfl rfl rfl ?_
    refine pj_aload_n 37 0 rfl rfl rfl rfl ?_
    refine pn_getr 40 12 17 hg o0 (pr_12_17 o0).2 rfl pfX12_40 rfl rfl ?_
    refine pj_aload_n 41 0 rfl rfl rfl rfl ?_
    refine pj_iload_n 42 1 rfl rfl rfl rfl ?_
    refine pj_iload 44 4 rfl rfl rfl ?_
    refine pn_callVi 47 12 [.int (pj_I x1), .int (pj_I x4)] [.ref (pj_rf r0 17), .ref r0, .int (pj_I x5), .ref (pj_rf r0 19)] o0 (s_X12_symbolOf hg o0 h) plX12_179 rfl rfl rfl rfl (Nat.le_of_ble_eq_true rfl) (by decide) (fun t20 M19 h => ?_)
    refine pj_iload_n 48 2 rfl rfl rfl rfl ?_
    refine pj_iload 50 5 rfl rfl rfl ?_
    refine pn_callVi 53 12 [.ref (pj_rf r0 17), .int (pj_I t20), .int (pj_I x2), .int (pj_I x5)] [.int (pj_I x5), .ref (pj_rf r0 19)] o0 (s_X12_part hg o0 (pj_oa_of (pr_12_17 o0)) h) plX12_198 rfl rfl rfl rfl (Nat.le_of_ble_eq_true rfl) (by decide) (fun t22 M21 h => ?_)
    obtain ⟨q23, h⟩ := h
    obtain ⟨q24, h⟩ := h
    refine pn_zast 54 16 (pr_12_19 o0) q23 q24 rfl rfl (fun M25 hM25 => ?_)
    replace h := h M25 hM25
    refine pj_iinc 57 5 (ls' := [(0, .ref r0), (1, .int (pj_I x1)), (2, .int (pj_I x2)), (3, .int (pj_I x3)), (4, .int (pj_I x4)), (5, .int (pj_I (x5 + 1)))]) rfl rfl (by decide) rfl rfl ?_
    refine pj_goto 23 rfl (by decide) ?_
    refine pn_sub [0, 1, 2, 3, 4, 5] rfl ?_
    exact hk23 _ _ h
set_option maxRecDepth 20000 in
set_option maxHeartbeats 4000000 in
theorem s_X12_endsBy_23 {l : Launch} {g : pj_G} (hg : pj_ph g = true) {r0 : Nat} {x1 : Int} {x2 : Int} {x3 : Int} {x4 : Int} {x5 : Int} {M : pj_M} {Q : Int → pj_M → Prop} {k10 : Int → pj_M → Prop} (o0 : pj_ob r0 12) (hk10 : ∀ (x4 : Int) (M : pj_M), k10 x4 M → pj_R l g mdX12_endsBy pj_T (pj_Zm g mdX12_endsBy (pj_qi Q)) pj_NK 0 0 10 [(0, .ref r0), (1, .int (pj_I x1)), (2, .int (pj_I x2)), (3, .int (pj_I x3)), (4, .int (pj_I x4))] [] M) (h : w_X12_endsBy_23 r0 x1 x2 x3 x4 k10 Q x5 M) : pj_R l g mdX12_endsBy pj_T (pj_Zm g mdX12_endsBy (pj_qi Q)) pj_NK 0 0 23 [(0, .ref r0), (1, .int (pj_I x1)), (2, .int (pj_I x2)), (3, .int (pj_I x3)), (4, .int (pj_I x4)), (5, .int (pj_I x5))] [] M :=
  h (fun s => pj_R l g mdX12_endsBy pj_T (pj_Zm g mdX12_endsBy (pj_qi Q)) pj_NK 0 0 23 [(0, .ref r0), (1, .int (pj_I x1)), (2, .int (pj_I x2)), (3, .int (pj_I x3)), (4, .int (pj_I x4)), (5, .int (pj_I (s.1)))] [] s.2) (fun s hs => s_X12_endsBy_23b hg o0 hk10 (fun _ _ q => q) hs)
set_option maxRecDepth 20000 in
set_option maxHeartbeats 4000000 in
theorem s_X12_endsBy_10b {l : Launch} {g : pj_G} (hg : pj_ph g = true) {r0 : Nat} {x1 : Int} {x2 : Int} {x3 : Int} {x4 : Int} {M : pj_M} {Q : Int → pj_M → Prop}  {k10 : Int → pj_M → Prop} (o0 : pj_ob r0 12)  (hk10 : ∀ (x4 : Int) (M : pj_M), k10 x4 M → pj_R l g mdX12_endsBy pj_T (pj_Zm g mdX12_endsBy (pj_qi Q)) pj_NK 0 0 10 [(0, .ref r0), (1, .int (pj_I x1)), (2, .int (pj_I x2)), (3, .int (pj_I x3)), (4, .int (pj_I x4))] [] M) (h : w_X12_endsBy_10b r0 x1 x2 x3  Q k10 x4 M) : pj_R l g mdX12_endsBy pj_T (pj_Zm g mdX12_endsBy (pj_qi Q)) pj_NK 0 0 10 [(0, .ref r0), (1, .int (pj_I x1)), (2, .int (pj_I x2)), (3, .int (pj_I x3)), (4, .int (pj_I x4))] [] M := by
  unfold w_X12_endsBy_10b at h
  refine pj_iload 12 4 rfl rfl rfl ?_
  refine pj_aload_n 13 0 rfl rfl rfl rfl ?_
  refine pj_iload_n 14 1 rfl rfl rfl rfl ?_
  refine pn_callVi 17 12 [.int (pj_I x1)] [.int (pj_I x4)] o0 (s_X12_longOf hg o0 h) plX12_176 rfl rfl rfl rfl (Nat.le_of_ble_eq_true rfl) (by decide) (fun t4 M3 h => ?_)
  obtain ⟨q5, h⟩ := h
  obtain ⟨q6, h⟩ := h
  refine pj_icmp_ge 112 20 rfl (by decide) rfl q5 q6 (fun hc => ?_) (fun hc => ?_)
  · replace h := h.1 hc
    refine pj_iconst 113 rfl rfl ?_
    exact pn_zret (by decide) h rfl rfl
  · replace h := h.2 hc
    refine pj_iload_n 21 2 rfl rfl rfl rfl ?_
    refine pj_istore 23 (ls' := [(0, .ref r0), (1, .int (pj_I x1)), (2, .int (pj_I x2)), (3, .int (pj_I x3)), (4, .int (pj_I x4)), (5, .int (pj_I x2))]) rfl (by decide) rfl rfl ?_
    refine pn_sub [0, 1, 2, 3, 4, 5] rfl ?_
    exact s_X12_endsBy_23 hg o0  hk10 h
set_option maxRecDepth 20000 in
set_option maxHeartbeats 4000000 in
theorem s_X12_endsBy_10 {l : Launch} {g : pj_G} (hg : pj_ph g = true) {r0 : Nat} {x1 : Int} {x2 : Int} {x3 : Int} {x4 : Int} {M : pj_M} {Q : Int → pj_M → Prop}  (o0 : pj_ob r0 12)  (h : w_X12_endsBy_10 r0 x1 x2 x3  Q x4 M) : pj_R l g mdX12_endsBy pj_T (pj_Zm g mdX12_endsBy (pj_qi Q)) pj_NK 0 0 10 [(0, .ref r0), (1, .int (pj_I x1)), (2, .int (pj_I x2)), (3, .int (pj_I x3)), (4, .int (pj_I x4))] [] M :=
  h (fun s => pj_R l g mdX12_endsBy pj_T (pj_Zm g mdX12_endsBy (pj_qi Q)) pj_NK 0 0 10 [(0, .ref r0), (1, .int (pj_I x1)), (2, .int (pj_I x2)), (3, .int (pj_I x3)), (4, .int (pj_I (s.1)))] [] s.2) (fun s hs => s_X12_endsBy_10b hg o0  (fun _ _ q => q) hs)
set_option maxRecDepth 20000 in
set_option maxHeartbeats 4000000 in
theorem s_X12_endsBy {l : Launch} {g : pj_G} (hg : pj_ph g = true) {r0 : Nat} {x1 : Int} {x2 : Int} {x3 : Int} {M : pj_M} {Q : Int → pj_M → Prop} (o0 : pj_ob r0 12) (h : w_X12_endsBy r0 x1 x2 x3 M Q) : pj_S l g mdX12_endsBy [.ref r0, .int (pj_I x1), .int (pj_I x2), .int (pj_I x3)] pj_NK M (pj_qi Q) := by
  refine pj_ofR (ls := [(0, .ref r0), (1, .int (pj_I x1)), (2, .int (pj_I x2)), (3, .int (pj_I x3))]) gcX12_endsBy (by decide) rfl (Nat.le_of_ble_eq_true rfl) rfl ?_
  unfold w_X12_endsBy at h
  refine pj_iload_n 1 2 rfl rfl rfl rfl ?_
  refine pj_iload_n 2 3 rfl rfl rfl rfl ?_
  obtain ⟨q1, h⟩ := h
  obtain ⟨q2, h⟩ := h
  refine pj_icmp_ne 7 5 rfl (by decide) rfl q1 q2 (fun hc => ?_) (fun hc => ?_)
  · replace h := h.1 hc
    refine pj_iconst 8 rfl rfl ?_
    refine pj_istore 10 (ls' := [(0, .ref r0), (1, .int (pj_I x1)), (2, .int (pj_I x2)), (3, .int (pj_I x3)), (4, .int (pj_I 0))]) rfl (by decide) rfl rfl ?_
    refine pn_sub [0, 1, 2, 3, 4] rfl ?_
    exact s_X12_endsBy_10 hg o0   h
  · replace h := h.2 (Classical.not_not.mp hc)
    refine pj_iconst 6 rfl rfl ?_
    exact pn_zret (by decide) h rfl rfl
def w_X12_holdsBy_120b (r0 : Nat) (x1 : Int) (x2 : Int) (x3 : Int) (x4 : Int) (x5 : Int) (k51 : Int → pj_M → Prop) (k107 : Int → pj_M → Prop) (Q : Int → pj_M → Prop) (k120 : Int → pj_M → Prop) (x6 : Int) (M : pj_M) : Prop :=
  (pj_in x6) ∧ (pj_in x3) ∧ ((x3 < x6 → w_X12_symbolOf r0 x1 x5 M (fun (t20 : Int) (M19 : pj_M) => w_X12_goExact r0 t20 x2 x3 M19 (fun (M21 : pj_M) => k107 (x5 + 1) M21))) ∧ (¬ x3 < x6 → ((0 : Int) ≤ x6 ∧ x6 < 16) ∧ (pj_in (M (pj_rf r0 19) x6)) ∧ (((M (pj_rf r0 19) x6) = 0 → k120 (x6 + 1) M) ∧ (¬ (M (pj_rf r0 19) x6) = 0 → w_X12_symbolOf r0 x1 x5 M (fun (t26 : Int) (M25 : pj_M) => w_X12_part r0 (pj_rf r0 16) t26 x6 x3 M25 (fun (t28 : Int) (M27 : pj_M) => (pj_in t28) ∧ ((t28 = 0 → k120 (x6 + 1) M27) ∧ (¬ t28 = 0 → Q 1 M27))))))))
def w_X12_holdsBy_120 (r0 : Nat) (x1 : Int) (x2 : Int) (x3 : Int) (x4 : Int) (x5 : Int) (k51 : Int → pj_M → Prop) (k107 : Int → pj_M → Prop) (Q : Int → pj_M → Prop) (x6 : Int) (M : pj_M) : Prop := pj_lp (fun (k : Int × pj_M → Prop) (s : Int × pj_M) => w_X12_holdsBy_120b r0 x1 x2 x3 x4 x5 k51 k107 Q (fun (x6 : Int) (M : pj_M) => k (x6, M)) s.1 s.2) (x6, M)
def w_X12_holdsBy_107b (r0 : Nat) (x1 : Int) (x2 : Int) (x3 : Int) (x4 : Int) (k51 : Int → pj_M → Prop) (Q : Int → pj_M → Prop) (k107 : Int → pj_M → Prop) (x5 : Int) (M : pj_M) : Prop :=
  w_X12_longOf r0 x1 M (fun (t14 : Int) (M13 : pj_M) => (pj_in x5) ∧ (pj_in t14) ∧ ((t14 ≤ x5 → k51 (x4 + 1) M13) ∧ (¬ t14 ≤ x5 → w_X12_holdsBy_120 r0 x1 x2 x3 x4 x5 k51 k107 Q x2 M13)))
def w_X12_holdsBy_107 (r0 : Nat) (x1 : Int) (x2 : Int) (x3 : Int) (x4 : Int) (k51 : Int → pj_M → Prop) (Q : Int → pj_M → Prop) (x5 : Int) (M : pj_M) : Prop := pj_lp (fun (k : Int × pj_M → Prop) (s : Int × pj_M) => w_X12_holdsBy_107b r0 x1 x2 x3 x4 k51 Q (fun (x5 : Int) (M : pj_M) => k (x5, M)) s.1 s.2) (x5, M)
def w_X12_holdsBy_64b (r0 : Nat) (x1 : Int) (x2 : Int) (x3 : Int) (x4 : Int) (k51 : Int → pj_M → Prop) (Q : Int → pj_M → Prop) (k64 : Int → pj_M → Prop) (x5 : Int) (M : pj_M) : Prop :=
  (pj_in x5) ∧ (pj_in x3) ∧ ((x3 < x5 → w_X12_holdsBy_107 r0 x1 x2 x3 x4 k51 Q (x4 + 1) M) ∧ (¬ x3 < x5 → w_X12_symbolOf r0 x1 x4 M (fun (t31 : Int) (M30 : pj_M) => w_X12_part r0 (pj_rf r0 17) t31 x2 x5 M30 (fun (t33 : Int) (M32 : pj_M) => (t33 = 0 ∨ t33 = 1) ∧ ((0 : Int) ≤ x5 ∧ x5 < 16) ∧ ∀ M36 : pj_M, M36 = pj_up M32 (pj_rf r0 19) x5 t33 → k64 (x5 + 1) M36))))
def w_X12_holdsBy_64 (r0 : Nat) (x1 : Int) (x2 : Int) (x3 : Int) (x4 : Int) (k51 : Int → pj_M → Prop) (Q : Int → pj_M → Prop) (x5 : Int) (M : pj_M) : Prop := pj_lp (fun (k : Int × pj_M → Prop) (s : Int × pj_M) => w_X12_holdsBy_64b r0 x1 x2 x3 x4 k51 Q (fun (x5 : Int) (M : pj_M) => k (x5, M)) s.1 s.2) (x5, M)
def w_X12_holdsBy_51b (r0 : Nat) (x1 : Int) (x2 : Int) (x3 : Int)  (Q : Int → pj_M → Prop) (k51 : Int → pj_M → Prop) (x4 : Int) (M : pj_M) : Prop :=
  w_X12_longOf r0 x1 M (fun (t8 : Int) (M7 : pj_M) => (pj_in x4) ∧ (pj_in t8) ∧ ((t8 ≤ x4 → Q 0 M7) ∧ (¬ t8 ≤ x4 → w_X12_holdsBy_64 r0 x1 x2 x3 x4 k51 Q x2 M7)))
def w_X12_holdsBy_51 (r0 : Nat) (x1 : Int) (x2 : Int) (x3 : Int)  (Q : Int → pj_M → Prop) (x4 : Int) (M : pj_M) : Prop := pj_lp (fun (k : Int × pj_M → Prop) (s : Int × pj_M) => w_X12_holdsBy_51b r0 x1 x2 x3  Q (fun (x4 : Int) (M : pj_M) => k (x4, M)) s.1 s.2) (x4, M)
def w_X12_holdsBy_10b (r0 : Nat) (x1 : Int) (x2 : Int) (x3 : Int)  (Q : Int → pj_M → Prop) (k10 : Int → pj_M → Prop) (x4 : Int) (M : pj_M) : Prop :=
  w_X12_longOf r0 x1 M (fun (t4 : Int) (M3 : pj_M) => (pj_in x4) ∧ (pj_in t4) ∧ ((t4 ≤ x4 → w_X12_holdsBy_51 r0 x1 x2 x3  Q 0 M3) ∧ (¬ t4 ≤ x4 → w_X12_symbolOf r0 x1 x4 M3 (fun (t38 : Int) (M37 : pj_M) => w_X12_part r0 (pj_rf r0 18) t38 x2 x3 M37 (fun (t40 : Int) (M39 : pj_M) => (pj_in t40) ∧ ((t40 = 0 → k10 (x4 + 1) M39) ∧ (¬ t40 = 0 → Q 1 M39)))))))
def w_X12_holdsBy_10 (r0 : Nat) (x1 : Int) (x2 : Int) (x3 : Int)  (Q : Int → pj_M → Prop) (x4 : Int) (M : pj_M) : Prop := pj_lp (fun (k : Int × pj_M → Prop) (s : Int × pj_M) => w_X12_holdsBy_10b r0 x1 x2 x3  Q (fun (x4 : Int) (M : pj_M) => k (x4, M)) s.1 s.2) (x4, M)
def w_X12_holdsBy (r0 : Nat) (x1 : Int) (x2 : Int) (x3 : Int) (M : pj_M) (Q : Int → pj_M → Prop) : Prop :=
  (pj_in x2) ∧ (pj_in x3) ∧ ((¬ x2 = x3 → w_X12_holdsBy_10 r0 x1 x2 x3  Q 0 M) ∧ (x2 = x3 → Q 1 M))
set_option maxRecDepth 20000 in
set_option maxHeartbeats 4000000 in
theorem s_X12_holdsBy_120b {l : Launch} {g : pj_G} (hg : pj_ph g = true) {r0 : Nat} {x1 : Int} {x2 : Int} {x3 : Int} {x4 : Int} {x5 : Int} {x6 : Int} {M : pj_M} {Q : Int → pj_M → Prop} {k51 : Int → pj_M → Prop} {k107 : Int → pj_M → Prop} {k120 : Int → pj_M → Prop} (o0 : pj_ob r0 12) (hk51 : ∀ (x4 : Int) (M : pj_M), k51 x4 M → pj_R l g mdX12_holdsBy pj_T (pj_Zm g mdX12_holdsBy (pj_qi Q)) pj_NK 0 0 51 [(0, .ref r0), (1, .int (pj_I x1)), (2, .int (pj_I x2)), (3, .int (pj_I x3)), (4, .int (pj_I x4))] [] M) (hk107 : ∀ (x5 : Int) (M : pj_M), k107 x5 M → pj_R l g mdX12_holdsBy pj_T (pj_Zm g mdX12_holdsBy (pj_qi Q)) pj_NK 0 0 107 [(0, .ref r0), (1, .int (pj_I x1)), (2, .int (pj_I x2)), (3, .int (pj_I x3)), (4, .int (pj_I x4)), (5, .int (pj_I x5))] [] M) (hk120 : ∀ (x6 : Int) (M : pj_M), k120 x6 M → pj_R l g mdX12_holdsBy pj_T (pj_Zm g mdX12_holdsBy (pj_qi Q)) pj_NK 0 0 120 [(0, .ref r0), (1, .int (pj_I x1)), (2, .int (pj_I x2)), (3, .int (pj_I x3)), (4, .int (pj_I x4)), (5, .int (pj_I x5)), (6, .int (pj_I x6))] [] M) (h : w_X12_holdsBy_120b r0 x1 x2 x3 x4 x5 k51 k107 Q k120 x6 M) : pj_R l g mdX12_holdsBy pj_T (pj_Zm g mdX12_holdsBy (pj_qi Q)) pj_NK 0 0 120 [(0, .ref r0), (1, .int (pj_I x1)), (2, .int (pj_I x2)), (3, .int (pj_I x3)), (4, .int (pj_I x4)), (5, .int (pj_I x5)), (6, .int (pj_I x6))] [] M := by
  unfold w_X12_holdsBy_120b at h
  refine pj_iload 122 6 rfl rfl rfl ?_
  refine pj_iload_n 123 3 rfl rfl rfl rfl ?_
  obtain ⟨q17, h⟩ := h
  obtain ⟨q18, h⟩ := h
  refine pj_icmp_gt 165 126 rfl (by decide) rfl q17 q18 (fun hc => ?_) (fun hc => ?_)
  · replace h := h.1 hc
    refine pj_aload_n 166 0 rfl rfl rfl rfl ?_
    refine pj_aload_n 167 0 rfl rfl rfl rfl ?_
    refine pj_iload_n 168 1 rfl rfl rfl rfl ?_
    refine pj_iload 170 5 rfl rfl rfl ?_
    refine pn_callVi 173 12 [.int (pj_I x1), .int (pj_I x5)] [.ref r0] o0 (s_X12_symbolOf hg o0 h) plX12_179 rfl rfl rfl rfl (Nat.le_of_ble_eq_true rfl) (by decide) (fun t20 M19 h => ?_)
    refine pj_iload_n 174 2 rfl rfl rfl rfl ?_
    refine pj_iload_n 175 3 rfl rfl rfl rfl ?_
    refine pn_callVv 178 12 [.int (pj_I t20), .int (pj_I x2), .int (pj_I x3)] [] o0 (s_X12_goExact hg o0 h) plX12_194 rfl rfl rfl rfl (Nat.le_of_ble_eq_true rfl) (by decide) (fun M21 h => ?_)
    refine pj_iinc 181 5 (ls' := [(0, .ref r0), (1, .int (pj_I x1)), (2, .int (pj_I x2)), (3, .int (pj_I x3)), (4, .int (pj_I x4)), (5, .int (pj_I (x5 + 1))), (6, .int (pj_I x6))]) rfl rfl (by decide) rfl rfl ?_
    refine pj_goto 107 rfl (by decide) ?_
    refine pn_sub [0, 1, 2, 3, 4, 5] rfl ?_
    exact hk107 _ _ h
  · replace h := h.2 hc
    refine pj_aload_n 127 0 rfl rfl rfl rfl ?_
    refine pn_getr 130 12 19 hg o0 (pr_12_19 o0).2 rfl pfX12_46 rfl rfl ?_
    refine pj_iload 132 6 rfl rfl rfl ?_
    obtain ⟨q23, h⟩ := h
    refine pn_bald 133 2 16 (pr_12_19 o0) (by decide) q23 rfl rfl ?_
    obtain ⟨q24, h⟩ := h
    refine pj_if_eq 159 136 rfl (by decide) rfl q24  (fun hc => ?_) (fun hc => ?_)
    · replace h := h.1 hc
      refine pj_iinc 162 6 (ls' := [(0, .ref r0), (1, .int (pj_I x1)), (2, .int (pj_I x2)), (3, .int (pj_I x3)), (4, .int (pj_I x4)), (5, .int (pj_I x5)), (6, .int (pj_I (x6 + 1)))]) rfl rfl (by decide) rfl rfl ?_
      refine pj_goto 120 rfl (by decide) ?_
      refine pn_sub [0, 1, 2, 3, 4, 5, 6] rfl ?_
      exact hk120 _ _ h
    · replace h := h.2 hc
      refine pj_aload_n 137 0 rfl rfl rfl rfl ?_
      refine pj_aload_n 138 0 rfl rfl rfl rfl ?_
      refine pn_getr 141 12 16 hg o0 (pr_12_16 o0).2 rfl pfX12_37 rfl rfl ?_
      refine pj_aload_n 142 0 rfl rfl rfl rfl ?_
      refine pj_iload_n 143 1 rfl rfl rfl rfl ?_
      refine pj_iload 145 5 rfl rfl rfl ?_
      refine pn_callVi 148 12 [.int (pj_I x1), .int (pj_I x5)] [.ref (pj_rf r0 16), .ref r0] o0 (s_X12_symbolOf hg o0 h) plX12_179 rfl rfl rfl rfl (Nat.le_of_ble_eq_true rfl) (by decide) (fun t26 M25 h => ?_)
      refine pj_iload 150 6 rfl rfl rfl ?_
      refine pj_iload_n 151 3 rfl rfl rfl rfl ?_
      refine pn_callVi 154 12 [.ref (pj_rf r0 16), .int (pj_I t26), .int (pj_I x6), .int (pj_I x3)] [] o0 (s_X12_part hg o0 (pj_oa_of (pr_12_16 o0)) h) plX12_198 rfl rfl rfl rfl (Nat.le_of_ble_eq_true rfl) (by decide) (fun t28 M27 h => ?_)
      obtain ⟨q29, h⟩ := h
      refine pj_if_eq 159 157 rfl (by decide) rfl q29  (fun hc => ?_) (fun hc => ?_)
      · replace h := h.1 hc
        refine pj_iinc 162 6 (ls' := [(0, .ref r0), (1, .int (pj_I x1)), (2, .int (pj_I x2)), (3, .int (pj_I x3)), (4, .int (pj_I x4)), (5, .int (pj_I x5)), (6, .int (pj_I (x6 + 1)))]) rfl rfl (by decide) rfl rfl ?_
        refine pj_goto 120 rfl (by decide) ?_
        refine pn_sub [0, 1, 2, 3, 4, 5, 6] rfl ?_
        exact hk120 _ _ h
      · replace h := h.2 hc
        refine pj_iconst 158 rfl rfl ?_
        exact pn_zret (by decide) h rfl rfl
set_option maxRecDepth 20000 in
set_option maxHeartbeats 4000000 in
theorem s_X12_holdsBy_120 {l : Launch} {g : pj_G} (hg : pj_ph g = true) {r0 : Nat} {x1 : Int} {x2 : Int} {x3 : Int} {x4 : Int} {x5 : Int} {x6 : Int} {M : pj_M} {Q : Int → pj_M → Prop} {k51 : Int → pj_M → Prop} {k107 : Int → pj_M → Prop} (o0 : pj_ob r0 12) (hk51 : ∀ (x4 : Int) (M : pj_M), k51 x4 M → pj_R l g mdX12_holdsBy pj_T (pj_Zm g mdX12_holdsBy (pj_qi Q)) pj_NK 0 0 51 [(0, .ref r0), (1, .int (pj_I x1)), (2, .int (pj_I x2)), (3, .int (pj_I x3)), (4, .int (pj_I x4))] [] M) (hk107 : ∀ (x5 : Int) (M : pj_M), k107 x5 M → pj_R l g mdX12_holdsBy pj_T (pj_Zm g mdX12_holdsBy (pj_qi Q)) pj_NK 0 0 107 [(0, .ref r0), (1, .int (pj_I x1)), (2, .int (pj_I x2)), (3, .int (pj_I x3)), (4, .int (pj_I x4)), (5, .int (pj_I x5))] [] M) (h : w_X12_holdsBy_120 r0 x1 x2 x3 x4 x5 k51 k107 Q x6 M) : pj_R l g mdX12_holdsBy pj_T (pj_Zm g mdX12_holdsBy (pj_qi Q)) pj_NK 0 0 120 [(0, .ref r0), (1, .int (pj_I x1)), (2, .int (pj_I x2)), (3, .int (pj_I x3)), (4, .int (pj_I x4)), (5, .int (pj_I x5)), (6, .int (pj_I x6))] [] M :=
  h (fun s => pj_R l g mdX12_holdsBy pj_T (pj_Zm g mdX12_holdsBy (pj_qi Q)) pj_NK 0 0 120 [(0, .ref r0), (1, .int (pj_I x1)), (2, .int (pj_I x2)), (3, .int (pj_I x3)), (4, .int (pj_I x4)), (5, .int (pj_I x5)), (6, .int (pj_I (s.1)))] [] s.2) (fun s hs => s_X12_holdsBy_120b hg o0 hk51 hk107 (fun _ _ q => q) hs)
set_option maxRecDepth 20000 in
set_option maxHeartbeats 4000000 in
theorem s_X12_holdsBy_107b {l : Launch} {g : pj_G} (hg : pj_ph g = true) {r0 : Nat} {x1 : Int} {x2 : Int} {x3 : Int} {x4 : Int} {x5 : Int} {M : pj_M} {Q : Int → pj_M → Prop} {k51 : Int → pj_M → Prop} {k107 : Int → pj_M → Prop} (o0 : pj_ob r0 12) (hk51 : ∀ (x4 : Int) (M : pj_M), k51 x4 M → pj_R l g mdX12_holdsBy pj_T (pj_Zm g mdX12_holdsBy (pj_qi Q)) pj_NK 0 0 51 [(0, .ref r0), (1, .int (pj_I x1)), (2, .int (pj_I x2)), (3, .int (pj_I x3)), (4, .int (pj_I x4))] [] M) (hk107 : ∀ (x5 : Int) (M : pj_M), k107 x5 M → pj_R l g mdX12_holdsBy pj_T (pj_Zm g mdX12_holdsBy (pj_qi Q)) pj_NK 0 0 107 [(0, .ref r0), (1, .int (pj_I x1)), (2, .int (pj_I x2)), (3, .int (pj_I x3)), (4, .int (pj_I x4)), (5, .int (pj_I x5))] [] M) (h : w_X12_holdsBy_107b r0 x1 x2 x3 x4 k51 Q k107 x5 M) : pj_R l g mdX12_holdsBy pj_T (pj_Zm g mdX12_holdsBy (pj_qi Q)) pj_NK 0 0 107 [(0, .ref r0), (1, .int (pj_I x1)), (2, .int (pj_I x2)), (3, .int (pj_I x3)), (4, .int (pj_I x4)), (5, .int (pj_I x5))] [] M := by
  unfold w_X12_holdsBy_107b at h
  refine pj_iload 109 5 rfl rfl rfl ?_
  refine pj_aload_n 110 0 rfl rfl rfl rfl ?_
  refine pj_iload_n 111 1 rfl rfl rfl rfl ?_
  refine pn_callVi 114 12 [.int (pj_I x1)] [.int (pj_I x5)] o0 (s_X12_longOf hg o0 h) plX12_176 rfl rfl rfl rfl (Nat.le_of_ble_eq_true rfl) (by decide) (fun t14 M13 h => ?_)
  obtain ⟨q15, h⟩ := h
  obtain ⟨q16, h⟩ := h
  refine pj_icmp_ge 184 117 rfl (by decide) rfl q15 q16 (fun hc => ?_) (fun hc => ?_)
  · replace h := h.1 hc
    refine pj_iinc 187 4 (ls' := [(0, .ref r0), (1, .int (pj_I x1)), (2, .int (pj_I x2)), (3, .int (pj_I x3)), (4, .int (pj_I (x4 + 1))), (5, .int (pj_I x5))]) rfl rfl (by decide) rfl rfl ?_
    refine pj_goto 51 rfl (by decide) ?_
    refine pn_sub [0, 1, 2, 3, 4] rfl ?_
    exact hk51 _ _ h
  · replace h := h.2 hc
    refine pj_iload_n 118 2 rfl rfl rfl rfl ?_
    refine pj_istore 120 (ls' := [(0, .ref r0), (1, .int (pj_I x1)), (2, .int (pj_I x2)), (3, .int (pj_I x3)), (4, .int (pj_I x4)), (5, .int (pj_I x5)), (6, .int (pj_I x2))]) rfl (by decide) rfl rfl ?_
    refine pn_sub [0, 1, 2, 3, 4, 5, 6] rfl ?_
    exact s_X12_holdsBy_120 hg o0  hk51 hk107 h
set_option maxRecDepth 20000 in
set_option maxHeartbeats 4000000 in
theorem s_X12_holdsBy_107 {l : Launch} {g : pj_G} (hg : pj_ph g = true) {r0 : Nat} {x1 : Int} {x2 : Int} {x3 : Int} {x4 : Int} {x5 : Int} {M : pj_M} {Q : Int → pj_M → Prop} {k51 : Int → pj_M → Prop} (o0 : pj_ob r0 12) (hk51 : ∀ (x4 : Int) (M : pj_M), k51 x4 M → pj_R l g mdX12_holdsBy pj_T (pj_Zm g mdX12_holdsBy (pj_qi Q)) pj_NK 0 0 51 [(0, .ref r0), (1, .int (pj_I x1)), (2, .int (pj_I x2)), (3, .int (pj_I x3)), (4, .int (pj_I x4))] [] M) (h : w_X12_holdsBy_107 r0 x1 x2 x3 x4 k51 Q x5 M) : pj_R l g mdX12_holdsBy pj_T (pj_Zm g mdX12_holdsBy (pj_qi Q)) pj_NK 0 0 107 [(0, .ref r0), (1, .int (pj_I x1)), (2, .int (pj_I x2)), (3, .int (pj_I x3)), (4, .int (pj_I x4)), (5, .int (pj_I x5))] [] M :=
  h (fun s => pj_R l g mdX12_holdsBy pj_T (pj_Zm g mdX12_holdsBy (pj_qi Q)) pj_NK 0 0 107 [(0, .ref r0), (1, .int (pj_I x1)), (2, .int (pj_I x2)), (3, .int (pj_I x3)), (4, .int (pj_I x4)), (5, .int (pj_I (s.1)))] [] s.2) (fun s hs => s_X12_holdsBy_107b hg o0 hk51 (fun _ _ q => q) hs)
set_option maxRecDepth 20000 in
set_option maxHeartbeats 4000000 in
theorem s_X12_holdsBy_64b {l : Launch} {g : pj_G} (hg : pj_ph g = true) {r0 : Nat} {x1 : Int} {x2 : Int} {x3 : Int} {x4 : Int} {x5 : Int} {M : pj_M} {Q : Int → pj_M → Prop} {k51 : Int → pj_M → Prop} {k64 : Int → pj_M → Prop} (o0 : pj_ob r0 12) (hk51 : ∀ (x4 : Int) (M : pj_M), k51 x4 M → pj_R l g mdX12_holdsBy pj_T (pj_Zm g mdX12_holdsBy (pj_qi Q)) pj_NK 0 0 51 [(0, .ref r0), (1, .int (pj_I x1)), (2, .int (pj_I x2)), (3, .int (pj_I x3)), (4, .int (pj_I x4))] [] M) (hk64 : ∀ (x5 : Int) (M : pj_M), k64 x5 M → pj_R l g mdX12_holdsBy pj_T (pj_Zm g mdX12_holdsBy (pj_qi Q)) pj_NK 0 0 64 [(0, .ref r0), (1, .int (pj_I x1)), (2, .int (pj_I x2)), (3, .int (pj_I x3)), (4, .int (pj_I x4)), (5, .int (pj_I x5))] [] M) (h : w_X12_holdsBy_64b r0 x1 x2 x3 x4 k51 Q k64 x5 M) : pj_R l g mdX12_holdsBy pj_T (pj_Zm g mdX12_holdsBy (pj_qi Q)) pj_NK 0 0 64 [(0, .ref r0), (1, .int (pj_I x1)), (2, .int (pj_I x2)), (3, .int (pj_I x3)), (4, .int (pj_I x4)), (5, .int (pj_I x5))] [] M := by
  unfold w_X12_holdsBy_64b at h
  refine pj_iload 66 5 rfl rfl rfl ?_
  refine pj_iload_n 67 3 rfl rfl rfl rfl ?_
  obtain ⟨q11, h⟩ := h
  obtain ⟨q12, h⟩ := h
  refine pj_icmp_gt 101 70 rfl (by decide) rfl q11 q12 (fun hc => ?_) (fun hc => ?_)
  · replace h := h.1 hc
    refine pj_iload 103 4 rfl rfl rfl ?_
    refine pj_iconst 104 rfl rfl ?_
    refine pj_iadd 105 rfl rfl ?_
    refine pj_istore 107 (ls' := [(0, .ref r0), (1, .int (pj_I x1)), (2, .int (pj_I x2)), (3, .int (pj_I x3)), (4, .int (pj_I x4)), (5, .int (pj_I (x4 + 1)))]) rfl (by decide) rfl rfl ?_
    refine pn_sub [0, 1, 2, 3, 4, 5] rfl ?_
    exact s_X12_holdsBy_107 hg o0  hk51 h
  · replace h := h.2 hc
    refine pj_aload_n 71 0 rfl rfl rfl rfl ?_
    refine pn_getr 74 12 19 hg o0 (pr_12_19 o0).2 rfl pfX12_46 rfl rfl ?_
    refine pj_iload 76 5 rfl rfl rfl ?_
    refine pj_aload_n 77 0 rfl rfl rfl rfl ?_
    refine pj_aload_n 78 0 rfl rfl rfl rfl ?_
    refine pn_getr 81 12 17 hg o0 (pr_12_17 o0).2 rfl pfX12_40 rfl rfl ?_
    refine pj_aload_n 82 0 rfl rfl rfl rfl ?_
    refine pj_iload_n 83 1 rfl rfl rfl rfl ?_
    refine pj_iload 85 4 rfl rfl rfl ?_
    refine pn_callVi 88 12 [.int (pj_I x1), .int (pj_I x4)] [.ref (pj_rf r0 17), .ref r0, .int (pj_I x5), .ref (pj_rf r0 19)] o0 (s_X12_symbolOf hg o0 h) plX12_179 rfl rfl rfl rfl (Nat.le_of_ble_eq_true rfl) (by decide) (fun t31 M30 h => ?_)
    refine pj_iload_n 89 2 rfl rfl rfl rfl ?_
    refine pj_iload 91 5 rfl rfl rfl ?_
    refine pn_callVi 94 12 [.ref (pj_rf r0 17), .int (pj_I t31), .int (pj_I x2), .int (pj_I x5)] [.int (pj_I x5), .ref (pj_rf r0 19)] o0 (s_X12_part hg o0 (pj_oa_of (pr_12_17 o0)) h) plX12_198 rfl rfl rfl rfl (Nat.le_of_ble_eq_true rfl) (by decide) (fun t33 M32 h => ?_)
    obtain ⟨q34, h⟩ := h
    obtain ⟨q35, h⟩ := h
    refine pn_zast 95 16 (pr_12_19 o0) q34 q35 rfl rfl (fun M36 hM36 => ?_)
    replace h := h M36 hM36
    refine pj_iinc 98 5 (ls' := [(0, .ref r0), (1, .int (pj_I x1)), (2, .int (pj_I x2)), (3, .int (pj_I x3)), (4, .int (pj_I x4)), (5, .int (pj_I (x5 + 1)))]) rfl rfl (by decide) rfl rfl ?_
    refine pj_goto 64 rfl (by decide) ?_
    refine pn_sub [0, 1, 2, 3, 4, 5] rfl ?_
    exact hk64 _ _ h
set_option maxRecDepth 20000 in
set_option maxHeartbeats 4000000 in
theorem s_X12_holdsBy_64 {l : Launch} {g : pj_G} (hg : pj_ph g = true) {r0 : Nat} {x1 : Int} {x2 : Int} {x3 : Int} {x4 : Int} {x5 : Int} {M : pj_M} {Q : Int → pj_M → Prop} {k51 : Int → pj_M → Prop} (o0 : pj_ob r0 12) (hk51 : ∀ (x4 : Int) (M : pj_M), k51 x4 M → pj_R l g mdX12_holdsBy pj_T (pj_Zm g mdX12_holdsBy (pj_qi Q)) pj_NK 0 0 51 [(0, .ref r0), (1, .int (pj_I x1)), (2, .int (pj_I x2)), (3, .int (pj_I x3)), (4, .int (pj_I x4))] [] M) (h : w_X12_holdsBy_64 r0 x1 x2 x3 x4 k51 Q x5 M) : pj_R l g mdX12_holdsBy pj_T (pj_Zm g mdX12_holdsBy (pj_qi Q)) pj_NK 0 0 64 [(0, .ref r0), (1, .int (pj_I x1)), (2, .int (pj_I x2)), (3, .int (pj_I x3)), (4, .int (pj_I x4)), (5, .int (pj_I x5))] [] M :=
  h (fun s => pj_R l g mdX12_holdsBy pj_T (pj_Zm g mdX12_holdsBy (pj_qi Q)) pj_NK 0 0 64 [(0, .ref r0), (1, .int (pj_I x1)), (2, .int (pj_I x2)), (3, .int (pj_I x3)), (4, .int (pj_I x4)), (5, .int (pj_I (s.1)))] [] s.2) (fun s hs => s_X12_holdsBy_64b hg o0 hk51 (fun _ _ q => q) hs)
set_option maxRecDepth 20000 in
set_option maxHeartbeats 4000000 in
theorem s_X12_holdsBy_51b {l : Launch} {g : pj_G} (hg : pj_ph g = true) {r0 : Nat} {x1 : Int} {x2 : Int} {x3 : Int} {x4 : Int} {M : pj_M} {Q : Int → pj_M → Prop}  {k51 : Int → pj_M → Prop} (o0 : pj_ob r0 12)  (hk51 : ∀ (x4 : Int) (M : pj_M), k51 x4 M → pj_R l g mdX12_holdsBy pj_T (pj_Zm g mdX12_holdsBy (pj_qi Q)) pj_NK 0 0 51 [(0, .ref r0), (1, .int (pj_I x1)), (2, .int (pj_I x2)), (3, .int (pj_I x3)), (4, .int (pj_I x4))] [] M) (h : w_X12_holdsBy_51b r0 x1 x2 x3  Q k51 x4 M) : pj_R l g mdX12_holdsBy pj_T (pj_Zm g mdX12_holdsBy (pj_qi Q)) pj_NK 0 0 51 [(0, .ref r0), (1, .int (pj_I x1)), (2, .int (pj_I x2)), (3, .int (pj_I x3)), (4, .int (pj_I x4))] [] M := by
  unfold w_X12_holdsBy_51b at h
  refine pj_iload 53 4 rfl rfl rfl ?_
  refine pj_aload_n 54 0 rfl rfl rfl rfl ?_
  refine pj_iload_n 55 1 rfl rfl rfl rfl ?_
  refine pn_callVi 58 12 [.int (pj_I x1)] [.int (pj_I x4)] o0 (s_X12_longOf hg o0 h) plX12_176 rfl rfl rfl rfl (Nat.le_of_ble_eq_true rfl) (by decide) (fun t8 M7 h => ?_)
  obtain ⟨q9, h⟩ := h
  obtain ⟨q10, h⟩ := h
  refine pj_icmp_ge 190 61 rfl (by decide) rfl q9 q10 (fun hc => ?_) (fun hc => ?_)
  · replace h := h.1 hc
    refine pj_iconst 191 rfl rfl ?_
    exact pn_zret (by decide) h rfl rfl
  · replace h := h.2 hc
    refine pj_iload_n 62 2 rfl rfl rfl rfl ?_
    refine pj_istore 64 (ls' := [(0, .ref r0), (1, .int (pj_I x1)), (2, .int (pj_I x2)), (3, .int (pj_I x3)), (4, .int (pj_I x4)), (5, .int (pj_I x2))]) rfl (by decide) rfl rfl ?_
    refine pn_sub [0, 1, 2, 3, 4, 5] rfl ?_
    exact s_X12_holdsBy_64 hg o0  hk51 h
set_option maxRecDepth 20000 in
set_option maxHeartbeats 4000000 in
theorem s_X12_holdsBy_51 {l : Launch} {g : pj_G} (hg : pj_ph g = true) {r0 : Nat} {x1 : Int} {x2 : Int} {x3 : Int} {x4 : Int} {M : pj_M} {Q : Int → pj_M → Prop}  (o0 : pj_ob r0 12)  (h : w_X12_holdsBy_51 r0 x1 x2 x3  Q x4 M) : pj_R l g mdX12_holdsBy pj_T (pj_Zm g mdX12_holdsBy (pj_qi Q)) pj_NK 0 0 51 [(0, .ref r0), (1, .int (pj_I x1)), (2, .int (pj_I x2)), (3, .int (pj_I x3)), (4, .int (pj_I x4))] [] M :=
  h (fun s => pj_R l g mdX12_holdsBy pj_T (pj_Zm g mdX12_holdsBy (pj_qi Q)) pj_NK 0 0 51 [(0, .ref r0), (1, .int (pj_I x1)), (2, .int (pj_I x2)), (3, .int (pj_I x3)), (4, .int (pj_I (s.1)))] [] s.2) (fun s hs => s_X12_holdsBy_51b hg o0  (fun _ _ q => q) hs)
set_option maxRecDepth 20000 in
set_option maxHeartbeats 4000000 in
theorem s_X12_holdsBy_10b {l : Launch} {g : pj_G} (hg : pj_ph g = true) {r0 : Nat} {x1 : Int} {x2 : Int} {x3 : Int} {x4 : Int} {M : pj_M} {Q : Int → pj_M → Prop}  {k10 : Int → pj_M → Prop} (o0 : pj_ob r0 12)  (hk10 : ∀ (x4 : Int) (M : pj_M), k10 x4 M → pj_R l g mdX12_holdsBy pj_T (pj_Zm g mdX12_holdsBy (pj_qi Q)) pj_NK 0 0 10 [(0, .ref r0), (1, .int (pj_I x1)), (2, .int (pj_I x2)), (3, .int (pj_I x3)), (4, .int (pj_I x4))] [] M) (h : w_X12_holdsBy_10b r0 x1 x2 x3  Q k10 x4 M) : pj_R l g mdX12_holdsBy pj_T (pj_Zm g mdX12_holdsBy (pj_qi Q)) pj_NK 0 0 10 [(0, .ref r0), (1, .int (pj_I x1)), (2, .int (pj_I x2)), (3, .int (pj_I x3)), (4, .int (pj_I x4))] [] M := by
  unfold w_X12_holdsBy_10b at h
  refine pj_iload 12 4 rfl rfl rfl ?_
  refine pj_aload_n 13 0 rfl rfl rfl rfl ?_
  refine pj_iload_n 14 1 rfl rfl rfl rfl ?_
  refine pn_callVi 17 12 [.int (pj_I x1)] [.int (pj_I x4)] o0 (s_X12_longOf hg o0 h) plX12_176 rfl rfl rfl rfl (Nat.le_of_ble_eq_true rfl) (by decide) (fun t4 M3 h => ?_)
  obtain ⟨q5, h⟩ := h
  obtain ⟨q6, h⟩ := h
  refine pj_icmp_ge 48 20 rfl (by decide) rfl q5 q6 (fun hc => ?_) (fun hc => ?_)
  · replace h := h.1 hc
    refine pj_iconst 49 rfl rfl ?_
    refine pj_istore 51 (ls' := [(0, .ref r0), (1, .int (pj_I x1)), (2, .int (pj_I x2)), (3, .int (pj_I x3)), (4, .int (pj_I 0))]) rfl (by decide) rfl rfl ?_
    refine pn_sub [0, 1, 2, 3, 4] rfl ?_
    exact s_X12_holdsBy_51 hg o0   h
  · replace h := h.2 hc
    refine pj_aload_n 21 0 rfl rfl rfl rfl ?_
    refine pj_aload_n 22 0 rfl rfl rfl rfl ?_
    refine pn_getr 25 12 18 hg o0 (pr_12_18 o0).2 rfl pfX12_43 rfl rfl ?_
    refine pj_aload_n 26 0 rfl rfl rfl rfl ?_
    refine pj_iload_n 27 1 rfl rfl rfl rfl ?_
    refine pj_iload 29 4 rfl rfl rfl ?_
    refine pn_callVi 32 12 [.int (pj_I x1), .int (pj_I x4)] [.ref (pj_rf r0 18), .ref r0] o0 (s_X12_symbolOf hg o0 h) plX12_179 rfl rfl rfl rfl (Nat.le_of_ble_eq_true rfl) (by decide) (fun t38 M37 h => ?_)
    refine pj_iload_n 33 2 rfl rfl rfl rfl ?_
    refine pj_iload_n 34 3 rfl rfl rfl rfl ?_
    refine pn_callVi 37 12 [.ref (pj_rf r0 18), .int (pj_I t38), .int (pj_I x2), .int (pj_I x3)] [] o0 (s_X12_part hg o0 (pj_oa_of (pr_12_18 o0)) h) plX12_198 rfl rfl rfl rfl (Nat.le_of_ble_eq_true rfl) (by decide) (fun t40 M39 h => ?_)
    obtain ⟨q41, h⟩ := h
    refine pj_if_eq 42 40 rfl (by decide) rfl q41  (fun hc => ?_) (fun hc => ?_)
    · replace h := h.1 hc
      refine pj_iinc 45 4 (ls' := [(0, .ref r0), (1, .int (pj_I x1)), (2, .int (pj_I x2)), (3, .int (pj_I x3)), (4, .int (pj_I (x4 + 1)))]) rfl rfl (by decide) rfl rfl ?_
      refine pj_goto 10 rfl (by decide) ?_
      refine pn_sub [0, 1, 2, 3, 4] rfl ?_
      exact hk10 _ _ h
    · replace h := h.2 hc
      refine pj_iconst 41 rfl rfl ?_
      exact pn_zret (by decide) h rfl rfl
set_option maxRecDepth 20000 in
set_option maxHeartbeats 4000000 in
theorem s_X12_holdsBy_10 {l : Launch} {g : pj_G} (hg : pj_ph g = true) {r0 : Nat} {x1 : Int} {x2 : Int} {x3 : Int} {x4 : Int} {M : pj_M} {Q : Int → pj_M → Prop}  (o0 : pj_ob r0 12)  (h : w_X12_holdsBy_10 r0 x1 x2 x3  Q x4 M) : pj_R l g mdX12_holdsBy pj_T (pj_Zm g mdX12_holdsBy (pj_qi Q)) pj_NK 0 0 10 [(0, .ref r0), (1, .int (pj_I x1)), (2, .int (pj_I x2)), (3, .int (pj_I x3)), (4, .int (pj_I x4))] [] M :=
  h (fun s => pj_R l g mdX12_holdsBy pj_T (pj_Zm g mdX12_holdsBy (pj_qi Q)) pj_NK 0 0 10 [(0, .ref r0), (1, .int (pj_I x1)), (2, .int (pj_I x2)), (3, .int (pj_I x3)), (4, .int (pj_I (s.1)))] [] s.2) (fun s hs => s_X12_holdsBy_10b hg o0  (fun _ _ q => q) hs)
set_option maxRecDepth 20000 in
set_option maxHeartbeats 4000000 in
theorem s_X12_holdsBy {l : Launch} {g : pj_G} (hg : pj_ph g = true) {r0 : Nat} {x1 : Int} {x2 : Int} {x3 : Int} {M : pj_M} {Q : Int → pj_M → Prop} (o0 : pj_ob r0 12) (h : w_X12_holdsBy r0 x1 x2 x3 M Q) : pj_S l g mdX12_holdsBy [.ref r0, .int (pj_I x1), .int (pj_I x2), .int (pj_I x3)] pj_NK M (pj_qi Q) := by
  refine pj_ofR (ls := [(0, .ref r0), (1, .int (pj_I x1)), (2, .int (pj_I x2)), (3, .int (pj_I x3))]) gcX12_holdsBy (by decide) rfl (Nat.le_of_ble_eq_true rfl) rfl ?_
  unfold w_X12_holdsBy at h
  refine pj_iload_n 1 2 rfl rfl rfl rfl ?_
  refine pj_iload_n 2 3 rfl rfl rfl rfl ?_
  obtain ⟨q1, h⟩ := h
  obtain ⟨q2, h⟩ := h
  refine pj_icmp_ne 7 5 rfl (by decide) rfl q1 q2 (fun hc => ?_) (fun hc => ?_)
  · replace h := h.1 hc
    refine pj_iconst 8 rfl rfl ?_
    refine pj_istore 10 (ls' := [(0, .ref r0), (1, .int (pj_I x1)), (2, .int (pj_I x2)), (3, .int (pj_I x3)), (4, .int (pj_I 0))]) rfl (by decide) rfl rfl ?_
    refine pn_sub [0, 1, 2, 3, 4] rfl ?_
    exact s_X12_holdsBy_10 hg o0   h
  · replace h := h.2 (Classical.not_not.mp hc)
    refine pj_iconst 6 rfl rfl ?_
    exact pn_zret (by decide) h rfl rfl
def w_X12_by (r0 : Nat) (x1 : Int) (x2 : Int) (x3 : Int) (x4 : Int) (M : pj_M) (Q : Int → pj_M → Prop) : Prop :=
  (pj_in x1) ∧ ((¬ x1 = 0 → (pj_in x1) ∧ ((¬ x1 = 1 → (pj_in x1) ∧ ((¬ x1 = 2 → w_X12_holdsBy r0 x2 x3 x4 M (fun (t5 : Int) (M4 : pj_M) => (t5 = 0 ∨ t5 = 1) ∧ Q t5 M4)) ∧ (x1 = 2 → w_X12_endsBy r0 x2 x3 x4 M (fun (t8 : Int) (M7 : pj_M) => (t8 = 0 ∨ t8 = 1) ∧ Q t8 M7)))) ∧ (x1 = 1 → w_X12_beginsBy r0 x2 x3 x4 M (fun (t11 : Int) (M10 : pj_M) => (t11 = 0 ∨ t11 = 1) ∧ Q t11 M10)))) ∧ (x1 = 0 → w_X12_yieldsBy r0 x2 x3 x4 M (fun (t14 : Int) (M13 : pj_M) => (t14 = 0 ∨ t14 = 1) ∧ Q t14 M13)))
set_option maxRecDepth 20000 in
set_option maxHeartbeats 4000000 in
theorem s_X12_by {l : Launch} {g : pj_G} (hg : pj_ph g = true) {r0 : Nat} {x1 : Int} {x2 : Int} {x3 : Int} {x4 : Int} {M : pj_M} {Q : Int → pj_M → Prop} (o0 : pj_ob r0 12) (h : w_X12_by r0 x1 x2 x3 x4 M Q) : pj_S l g mdX12_by [.ref r0, .int (pj_I x1), .int (pj_I x2), .int (pj_I x3), .int (pj_I x4)] pj_NK M (pj_qi Q) := by
  refine pj_ofR (ls := [(0, .ref r0), (1, .int (pj_I x1)), (2, .int (pj_I x2)), (3, .int (pj_I x3)), (4, .int (pj_I x4))]) gcX12_by (by decide) rfl (Nat.le_of_ble_eq_true rfl) rfl ?_
  unfold w_X12_by at h
  refine pj_iload_n 1 1 rfl rfl rfl rfl ?_
  obtain ⟨q1, h⟩ := h
  refine pj_if_ne 15 4 rfl (by decide) rfl q1  (fun hc => ?_) (fun hc => ?_)
  · replace h := h.1 hc
    refine pj_iload_n 16 1 rfl rfl rfl rfl ?_
    refine pj_iconst 17 rfl rfl ?_
    obtain ⟨q2, h⟩ := h
    refine pj_icmp_ne 31 20 rfl (by decide) rfl q2 (show pj_in 1 by decide) (fun hc => ?_) (fun hc => ?_)
    · replace h := h.1 hc
      refine pj_iload_n 32 1 rfl rfl rfl rfl ?_
      refine pj_iconst 33 rfl rfl ?_
      obtain ⟨q3, h⟩ := h
      refine pj_icmp_ne 47 36 rfl (by decide) rfl q3 (show pj_in 2 by decide) (fun hc => ?_) (fun hc => ?_)
      · replace h := h.1 hc
        refine pj_aload_n 48 0 rfl rfl rfl rfl ?_
        refine pj_iload_n 49 2 rfl rfl rfl rfl ?_
        refine pj_iload_n 50 3 rfl rfl rfl rfl ?_
        refine pj_iload 52 4 rfl rfl rfl ?_
        refine pn_callVi 55 12 [.int (pj_I x2), .int (pj_I x3), .int (pj_I x4)] [] o0 (s_X12_holdsBy hg o0 h) plX12_211 rfl rfl rfl rfl (Nat.le_of_ble_eq_true rfl) (by decide) (fun t5 M4 h => ?_)
        obtain ⟨q6, h⟩ := h
        exact pn_zret q6 h rfl rfl
      · replace h := h.2 (Classical.not_not.mp hc)
        refine pj_aload_n 37 0 rfl rfl rfl rfl ?_
        refine pj_iload_n 38 2 rfl rfl rfl rfl ?_
        refine pj_iload_n 39 3 rfl rfl rfl rfl ?_
        refine pj_iload 41 4 rfl rfl rfl ?_
        refine pn_callVi 44 12 [.int (pj_I x2), .int (pj_I x3), .int (pj_I x4)] [] o0 (s_X12_endsBy hg o0 h) plX12_208 rfl rfl rfl rfl (Nat.le_of_ble_eq_true rfl) (by decide) (fun t8 M7 h => ?_)
        refine pj_goto 55 rfl (by decide) ?_
        obtain ⟨q9, h⟩ := h
        exact pn_zret q9 h rfl rfl
    · replace h := h.2 (Classical.not_not.mp hc)
      refine pj_aload_n 21 0 rfl rfl rfl rfl ?_
      refine pj_iload_n 22 2 rfl rfl rfl rfl ?_
      refine pj_iload_n 23 3 rfl rfl rfl rfl ?_
      refine pj_iload 25 4 rfl rfl rfl ?_
      refine pn_callVi 28 12 [.int (pj_I x2), .int (pj_I x3), .int (pj_I x4)] [] o0 (s_X12_beginsBy hg o0 h) plX12_205 rfl rfl rfl rfl (Nat.le_of_ble_eq_true rfl) (by decide) (fun t11 M10 h => ?_)
      refine pj_goto 55 rfl (by decide) ?_
      obtain ⟨q12, h⟩ := h
      exact pn_zret q12 h rfl rfl
  · replace h := h.2 (Classical.not_not.mp hc)
    refine pj_aload_n 5 0 rfl rfl rfl rfl ?_
    refine pj_iload_n 6 2 rfl rfl rfl rfl ?_
    refine pj_iload_n 7 3 rfl rfl rfl rfl ?_
    refine pj_iload 9 4 rfl rfl rfl ?_
    refine pn_callVi 12 12 [.int (pj_I x2), .int (pj_I x3), .int (pj_I x4)] [] o0 (s_X12_yieldsBy hg o0 h) plX12_202 rfl rfl rfl rfl (Nat.le_of_ble_eq_true rfl) (by decide) (fun t14 M13 h => ?_)
    refine pj_goto 55 rfl (by decide) ?_
    obtain ⟨q15, h⟩ := h
    exact pn_zret q15 h rfl rfl
def w_X12_layOne_57b (r0 : Nat) (x1 : Int) (r2 : Nat) (x3 : Int) (x4 : Int) (k21 : Int → pj_M → Prop) (k32 : Int → pj_M → Prop) (k46 : Int → pj_M → Prop) (Q : pj_M → Prop) (k57 : Int → Int → pj_M → Prop) (x5 : Int) (x6 : Int) (M : pj_M) : Prop :=
  ∃ b7 : Nat, (M r0 11 = (b7 : Int) ∧ pj_ol b7 1 95) ∧ (pj_in x6) ∧ (pj_in (M b7 0)) ∧ (((M b7 0) ≤ x6 → k46 x5 M) ∧ (¬ (M b7 0) ≤ x6 → ∃ b10 : Nat, (M r0 11 = (b10 : Int) ∧ pj_ol b10 1 95) ∧ w_X12_alt x6 M (fun (t12 : Int) (M11 : pj_M) => ((0 : Int) ≤ t12 ∧ t12 < 95) ∧ w_X12_cell (M11 b10 t12) x4 (x4 + x3) M11 (fun (t15 : Int) (M14 : pj_M) => ((0 : Int) ≤ t15 ∧ t15 < ((pj_sh r2).2 : Int)) ∧ (pj_in (M14 r2 t15)) ∧ ((¬ (M14 r2 t15) = 0 → k57 x5 (x6 + 1) M14) ∧ ((M14 r2 t15) = 0 → ∃ b18 : Nat, (M14 r0 11 = (b18 : Int) ∧ pj_ol b18 1 95) ∧ w_X12_isGood r0 b18 x6 M14 (fun (t20 : Int) (M19 : pj_M) => (pj_in t20) ∧ ((t20 = 0 → k57 x5 (x6 + 1) M19) ∧ (¬ t20 = 0 → w_X12_by r0 x1 x6 x4 (x4 + x3) M19 (fun (t23 : Int) (M22 : pj_M) => (pj_in t23) ∧ ((¬ t23 = 0 → ((0 : Int) ≤ t15 ∧ t15 < ((pj_sh r2).2 : Int)) ∧ ∀ M26 : pj_M, M26 = pj_up M22 r2 t15 1 → k57 1 (x6 + 1) M26) ∧ (t23 = 0 → k57 x5 (x6 + 1) M22))))))))))))
def w_X12_layOne_57 (r0 : Nat) (x1 : Int) (r2 : Nat) (x3 : Int) (x4 : Int) (k21 : Int → pj_M → Prop) (k32 : Int → pj_M → Prop) (k46 : Int → pj_M → Prop) (Q : pj_M → Prop) (x5 : Int) (x6 : Int) (M : pj_M) : Prop := pj_lp (fun (k : Int × Int × pj_M → Prop) (s : Int × Int × pj_M) => w_X12_layOne_57b r0 x1 r2 x3 x4 k21 k32 k46 Q (fun (x5 : Int) (x6 : Int) (M : pj_M) => k (x5, x6, M)) s.1 s.2.1 s.2.2) (x5, x6, M)
def w_X12_layOne_46b (r0 : Nat) (x1 : Int) (r2 : Nat) (x3 : Int) (x4 : Int) (k21 : Int → pj_M → Prop) (k32 : Int → pj_M → Prop) (Q : pj_M → Prop) (k46 : Int → pj_M → Prop) (x5 : Int) (M : pj_M) : Prop :=
  (pj_in x5) ∧ ((x5 = 0 → k32 (x4 + 1) M) ∧ (¬ x5 = 0 → w_X12_layOne_57 r0 x1 r2 x3 x4 k21 k32 k46 Q 0 0 M))
def w_X12_layOne_46 (r0 : Nat) (x1 : Int) (r2 : Nat) (x3 : Int) (x4 : Int) (k21 : Int → pj_M → Prop) (k32 : Int → pj_M → Prop) (Q : pj_M → Prop) (x5 : Int) (M : pj_M) : Prop := pj_lp (fun (k : Int × pj_M → Prop) (s : Int × pj_M) => w_X12_layOne_46b r0 x1 r2 x3 x4 k21 k32 Q (fun (x5 : Int) (M : pj_M) => k (x5, M)) s.1 s.2) (x5, M)
def w_X12_layOne_32b (r0 : Nat) (x1 : Int) (r2 : Nat) (x3 : Int) (k21 : Int → pj_M → Prop) (Q : pj_M → Prop) (k32 : Int → pj_M → Prop) (x4 : Int) (M : pj_M) : Prop :=
  (pj_in (x4 + x3)) ∧ (pj_in (M r0 14)) ∧ (((M r0 14) < (x4 + x3) → k21 (x3 + 1) M) ∧ (¬ (M r0 14) < (x4 + x3) → w_X12_layOne_46 r0 x1 r2 x3 x4 k21 k32 Q 1 M))
def w_X12_layOne_32 (r0 : Nat) (x1 : Int) (r2 : Nat) (x3 : Int) (k21 : Int → pj_M → Prop) (Q : pj_M → Prop) (x4 : Int) (M : pj_M) : Prop := pj_lp (fun (k : Int × pj_M → Prop) (s : Int × pj_M) => w_X12_layOne_32b r0 x1 r2 x3 k21 Q (fun (x4 : Int) (M : pj_M) => k (x4, M)) s.1 s.2) (x4, M)
def w_X12_layOne_21b (r0 : Nat) (x1 : Int) (r2 : Nat)  (Q : pj_M → Prop) (k21 : Int → pj_M → Prop) (x3 : Int) (M : pj_M) : Prop :=
  (pj_in x3) ∧ (pj_in (M r0 14)) ∧ (((M r0 14) < x3 → Q M) ∧ (¬ (M r0 14) < x3 → w_X12_layOne_32 r0 x1 r2 x3 k21 Q 0 M))
def w_X12_layOne_21 (r0 : Nat) (x1 : Int) (r2 : Nat)  (Q : pj_M → Prop) (x3 : Int) (M : pj_M) : Prop := pj_lp (fun (k : Int × pj_M → Prop) (s : Int × pj_M) => w_X12_layOne_21b r0 x1 r2  Q (fun (x3 : Int) (M : pj_M) => k (x3, M)) s.1 s.2) (x3, M)
def w_X12_layOne_2b (r0 : Nat) (x1 : Int) (r2 : Nat)  (Q : pj_M → Prop) (k2 : Int → pj_M → Prop) (x3 : Int) (M : pj_M) : Prop :=
  (pj_in x3) ∧ ((1536 ≤ x3 → w_X12_layOne_21 r0 x1 r2  Q 0 M) ∧ (¬ 1536 ≤ x3 → ((0 : Int) ≤ x3 ∧ x3 < ((pj_sh r2).2 : Int)) ∧ ∀ M28 : pj_M, M28 = pj_up M r2 x3 0 → k2 (x3 + 1) M28))
def w_X12_layOne_2 (r0 : Nat) (x1 : Int) (r2 : Nat)  (Q : pj_M → Prop) (x3 : Int) (M : pj_M) : Prop := pj_lp (fun (k : Int × pj_M → Prop) (s : Int × pj_M) => w_X12_layOne_2b r0 x1 r2  Q (fun (x3 : Int) (M : pj_M) => k (x3, M)) s.1 s.2) (x3, M)
def w_X12_layOne (r0 : Nat) (x1 : Int) (r2 : Nat) (M : pj_M) (Q : pj_M → Prop) : Prop :=
  w_X12_layOne_2 r0 x1 r2  Q 0 M
set_option maxRecDepth 20000 in
set_option maxHeartbeats 4000000 in
theorem s_X12_layOne_57b {l : Launch} {g : pj_G} (hg : pj_ph g = true) {r0 : Nat} {x1 : Int} {r2 : Nat} {x3 : Int} {x4 : Int} {x5 : Int} {x6 : Int} {M : pj_M} {Q : pj_M → Prop} {k21 : Int → pj_M → Prop} {k32 : Int → pj_M → Prop} {k46 : Int → pj_M → Prop} {k57 : Int → Int → pj_M → Prop} (o0 : pj_ob r0 12) (o2 : pj_ol r2 2 (pj_sh r2).2) (hk21 : ∀ (x3 : Int) (M : pj_M), k21 x3 M → pj_R l g mdX12_layOne pj_T (pj_Zm g mdX12_layOne (pj_qv Q)) pj_NK 0 0 21 [(0, .ref r0), (1, .int (pj_I x1)), (2, .ref r2), (3, .int (pj_I x3))] [] M) (hk32 : ∀ (x4 : Int) (M : pj_M), k32 x4 M → pj_R l g mdX12_layOne pj_T (pj_Zm g mdX12_layOne (pj_qv Q)) pj_NK 0 0 32 [(0, .ref r0), (1, .int (pj_I x1)), (2, .ref r2), (3, .int (pj_I x3)), (4, .int (pj_I x4))] [] M) (hk46 : ∀ (x5 : Int) (M : pj_M), k46 x5 M → pj_R l g mdX12_layOne pj_T (pj_Zm g mdX12_layOne (pj_qv Q)) pj_NK 0 0 46 [(0, .ref r0), (1, .int (pj_I x1)), (2, .ref r2), (3, .int (pj_I x3)), (4, .int (pj_I x4)), (5, .int (pj_I x5))] [] M) (hk57 : ∀ (x5 : Int) (x6 : Int) (M : pj_M), k57 x5 x6 M → pj_R l g mdX12_layOne pj_T (pj_Zm g mdX12_layOne (pj_qv Q)) pj_NK 0 0 57 [(0, .ref r0), (1, .int (pj_I x1)), (2, .ref r2), (3, .int (pj_I x3)), (4, .int (pj_I x4)), (5, .int (pj_I x5)), (6, .int (pj_I x6))] [] M) (h : w_X12_layOne_57b r0 x1 r2 x3 x4 k21 k32 k46 Q k57 x5 x6 M) : pj_R l g mdX12_layOne pj_T (pj_Zm g mdX12_layOne (pj_qv Q)) pj_NK 0 0 57 [(0, .ref r0), (1, .int (pj_I x1)), (2, .ref r2), (3, .int (pj_I x3)), (4, .int (pj_I x4)), (5, .int (pj_I x5)), (6, .int (pj_I x6))] [] M := by
  unfold w_X12_layOne_57b at h
  refine pj_iload 59 6 rfl rfl rfl ?_
  refine pj_aload_n 60 0 rfl rfl rfl rfl ?_
  obtain ⟨b7, ⟨hb7, ob7⟩, h⟩ := h
  refine pn_getd 63 12 11 11 o0 hb7 ob7.2 rfl pfX12_27 rfl rfl rfl ?_
  refine pj_iconst 64 rfl rfl ?_
  refine pn_iald 65 95 ob7 (show 0 ≤ (0 : Int) ∧ (0 : Int) < ((95 : Nat) : Int) by decide) rfl rfl ?_
  obtain ⟨q8, h⟩ := h
  obtain ⟨q9, h⟩ := h
  refine pj_icmp_ge 142 68 rfl (by decide) rfl q8 q9 (fun hc => ?_) (fun hc => ?_)
  · replace h := h.1 hc
    refine pj_goto 46 rfl (by decide) ?_
    refine pn_sub [0, 1, 2, 3, 4, 5] rfl ?_
    exact hk46 _ _ h
  · replace h := h.2 hc
    refine pj_aload_n 69 0 rfl rfl rfl rfl ?_
    obtain ⟨b10, ⟨hb10, ob10⟩, h⟩ := h
    refine pn_getd 72 12 11 11 o0 hb10 ob10.2 rfl pfX12_27 rfl rfl rfl ?_
    refine pj_iload 74 6 rfl rfl rfl ?_
    refine pn_callSi 77 [.int (pj_I x6)] [.ref b10] (s_X12_alt hg  h) plX12_127 rfl rfl rfl rfl (Nat.le_of_ble_eq_true rfl) (by decide) (fun t12 M11 h => ?_)
    obtain ⟨q13, h⟩ := h
    refine pn_iald 78 95 ob10 q13 rfl rfl ?_
    refine pj_iload 80 4 rfl rfl rfl ?_
    refine pj_iload 82 4 rfl rfl rfl ?_
    refine pj_iload_n 83 3 rfl rfl rfl rfl ?_
    refine pj_iadd 84 rfl rfl ?_
    refine pn_callSi 87 [.int (pj_I (M11 b10 t12)), .int (pj_I x4), .int (pj_I (x4 + x3))] [] (s_X12_cell hg  h) plX12_183 rfl rfl rfl rfl (Nat.le_of_ble_eq_true rfl) (by decide) (fun t15 M14 h => ?_)
    refine pj_istore 89 (ls' := [(0, .ref r0), (1, .int (pj_I x1)), (2, .ref r2), (3, .int (pj_I x3)), (4, .int (pj_I x4)), (5, .int (pj_I x5)), (6, .int (pj_I x6)), (7, .int (pj_I t15))]) rfl (by decide) rfl rfl ?_
    refine pj_aload_n 90 2 rfl rfl rfl rfl ?_
    refine pj_iload 92 7 rfl rfl rfl ?_
    obtain ⟨q16, h⟩ := h
    refine pn_bald 93 2 ((pj_sh r2).2) o2 (by decide) q16 rfl rfl ?_
    obtain ⟨q17, h⟩ := h
    refine pj_if_ne 136 96 rfl (by decide) rfl q17  (fun hc => ?_) (fun hc => ?_)
    · replace h := h.1 hc
      refine pj_iinc 139 6 (ls' := [(0, .ref r0), (1, .int (pj_I x1)), (2, .ref r2), (3, .int (pj_I x3)), (4, .int (pj_I x4)), (5, .int (pj_I x5)), (6, .int (pj_I (x6 + 1))), (7, .int (pj_I t15))]) rfl rfl (by decide) rfl rfl ?_
      refine pj_goto 57 rfl (by decide) ?_
      refine pn_sub [0, 1, 2, 3, 4, 5, 6] rfl ?_
      exact hk57 _ _ _ h
    · replace h := h.2 (Classical.not_not.mp hc)
      refine pj_aload_n 97 0 rfl rfl rfl rfl ?_
      refine pj_aload_n 98 0 rfl rfl rfl rfl ?_
      obtain ⟨b18, ⟨hb18, ob18⟩, h⟩ := h
      refine pn_getd 101 12 11 11 o0 hb18 ob18.2 rfl pfX12_27 rfl rfl rfl ?_
      refine pj_iload 103 6 rfl rfl rfl ?_
      refine pn_callVi 106 12 [.ref b18, .int (pj_I x6)] [] o0 (s_X12_isGood hg o0 (pj_oa_of ob18) h) plX12_172 rfl rfl rfl rfl (Nat.le_of_ble_eq_true rfl) (by decide) (fun t20 M19 h => ?_)
      obtain ⟨q21, h⟩ := h
      refine pj_if_eq 136 109 rfl (by decide) rfl q21  (fun hc => ?_) (fun hc => ?_)
      · replace h := h.1 hc
        refine pj_iinc 139 6 (ls' := [(0, .ref r0), (1, .int (pj_I x1)), (2, .ref r2), (3, .int (pj_I x3)), (4, .int (pj_I x4)), (5, .int (pj_I x5)), (6, .int (pj_I (x6 + 1))), (7, .int (pj_I t15))]) rfl rfl (by decide) rfl rfl ?_
        refine pj_goto 57 rfl (by decide) ?_
        refine pn_sub [0, 1, 2, 3, 4, 5, 6] rfl ?_
        exact hk57 _ _ _ h
      · replace h := h.2 hc
        refine pj_aload_n 110 0 rfl rfl rfl rfl ?_
        refine pj_iload_n 111 1 rfl rfl rfl rfl ?_
        refine pj_iload 113 6 rfl rfl rfl ?_
        refine pj_iload 115 4 rfl rfl rfl ?_
        refine pj_iload 117 4 rfl rfl rfl ?_
        refine pj_iload_n 118 3 rfl rfl rfl rfl ?_
        refine pj_iadd 119 rfl rfl ?_
        refine pn_callVi 122 12 [.int (pj_I x1), .int (pj_I x6), .int (pj_I x4), .int (pj_I (x4 + x3))] [] o0 (s_X12_by hg o0 h) plX12_217 rfl rfl rfl rfl (Nat.le_of_ble_eq_true rfl) (by decide) (fun t23 M22 h => ?_)
        obtain ⟨q24, h⟩ := h
        refine pj_if_ne 128 125 rfl (by decide) rfl q24  (fun hc => ?_) (fun hc => ?_)
        · replace h := h.1 hc
          refine pj_aload_n 129 2 rfl rfl rfl rfl ?_
          refine pj_iload 131 7 rfl rfl rfl ?_
          refine pj_iconst 132 rfl rfl ?_
          obtain ⟨q25, h⟩ := h
          refine pn_zast 133 ((pj_sh r2).2) o2 (by decide) q25 rfl rfl (fun M26 hM26 => ?_)
          replace h := h M26 hM26
          refine pj_iconst 134 rfl rfl ?_
          refine pj_istore 136 (ls' := [(0, .ref r0), (1, .int (pj_I x1)), (2, .ref r2), (3, .int (pj_I x3)), (4, .int (pj_I x4)), (5, .int (pj_I 1)), (6, .int (pj_I x6)), (7, .int (pj_I t15))]) rfl (by decide) rfl rfl ?_
          refine pj_iinc 139 6 (ls' := [(0, .ref r0), (1, .int (pj_I x1)), (2, .ref r2), (3, .int (pj_I x3)), (4, .int (pj_I x4)), (5, .int (pj_I 1)), (6, .int (pj_I (x6 + 1))), (7, .int (pj_I t15))]) rfl rfl (by decide) rfl rfl ?_
          refine pj_goto 57 rfl (by decide) ?_
          refine pn_sub [0, 1, 2, 3, 4, 5, 6] rfl ?_
          exact hk57 _ _ _ h
        · replace h := h.2 (Classical.not_not.mp hc)
          refine pj_goto 136 rfl (by decide) ?_
          refine pj_iinc 139 6 (ls' := [(0, .ref r0), (1, .int (pj_I x1)), (2, .ref r2), (3, .int (pj_I x3)), (4, .int (pj_I x4)), (5, .int (pj_I x5)), (6, .int (pj_I (x6 + 1))), (7, .int (pj_I t15))]) rfl rfl (by decide) rfl rfl ?_
          refine pj_goto 57 rfl (by decide) ?_
          refine pn_sub [0, 1, 2, 3, 4, 5, 6] rfl ?_
          exact hk57 _ _ _ h
set_option maxRecDepth 20000 in
set_option maxHeartbeats 4000000 in
theorem s_X12_layOne_57 {l : Launch} {g : pj_G} (hg : pj_ph g = true) {r0 : Nat} {x1 : Int} {r2 : Nat} {x3 : Int} {x4 : Int} {x5 : Int} {x6 : Int} {M : pj_M} {Q : pj_M → Prop} {k21 : Int → pj_M → Prop} {k32 : Int → pj_M → Prop} {k46 : Int → pj_M → Prop} (o0 : pj_ob r0 12) (o2 : pj_ol r2 2 (pj_sh r2).2) (hk21 : ∀ (x3 : Int) (M : pj_M), k21 x3 M → pj_R l g mdX12_layOne pj_T (pj_Zm g mdX12_layOne (pj_qv Q)) pj_NK 0 0 21 [(0, .ref r0), (1, .int (pj_I x1)), (2, .ref r2), (3, .int (pj_I x3))] [] M) (hk32 : ∀ (x4 : Int) (M : pj_M), k32 x4 M → pj_R l g mdX12_layOne pj_T (pj_Zm g mdX12_layOne (pj_qv Q)) pj_NK 0 0 32 [(0, .ref r0), (1, .int (pj_I x1)), (2, .ref r2), (3, .int (pj_I x3)), (4, .int (pj_I x4))] [] M) (hk46 : ∀ (x5 : Int) (M : pj_M), k46 x5 M → pj_R l g mdX12_layOne pj_T (pj_Zm g mdX12_layOne (pj_qv Q)) pj_NK 0 0 46 [(0, .ref r0), (1, .int (pj_I x1)), (2, .ref r2), (3, .int (pj_I x3)), (4, .int (pj_I x4)), (5, .int (pj_I x5))] [] M) (h : w_X12_layOne_57 r0 x1 r2 x3 x4 k21 k32 k46 Q x5 x6 M) : pj_R l g mdX12_layOne pj_T (pj_Zm g mdX12_layOne (pj_qv Q)) pj_NK 0 0 57 [(0, .ref r0), (1, .int (pj_I x1)), (2, .ref r2), (3, .int (pj_I x3)), (4, .int (pj_I x4)), (5, .int (pj_I x5)), (6, .int (pj_I x6))] [] M :=
  h (fun s => pj_R l g mdX12_layOne pj_T (pj_Zm g mdX12_layOne (pj_qv Q)) pj_NK 0 0 57 [(0, .ref r0), (1, .int (pj_I x1)), (2, .ref r2), (3, .int (pj_I x3)), (4, .int (pj_I x4)), (5, .int (pj_I (s.1))), (6, .int (pj_I (s.2.1)))] [] s.2.2) (fun s hs => s_X12_layOne_57b hg o0 o2 hk21 hk32 hk46 (fun _ _ _ q => q) hs)
set_option maxRecDepth 20000 in
set_option maxHeartbeats 4000000 in
theorem s_X12_layOne_46b {l : Launch} {g : pj_G} (hg : pj_ph g = true) {r0 : Nat} {x1 : Int} {r2 : Nat} {x3 : Int} {x4 : Int} {x5 : Int} {M : pj_M} {Q : pj_M → Prop} {k21 : Int → pj_M → Prop} {k32 : Int → pj_M → Prop} {k46 : Int → pj_M → Prop} (o0 : pj_ob r0 12) (o2 : pj_ol r2 2 (pj_sh r2).2) (hk21 : ∀ (x3 : Int) (M : pj_M), k21 x3 M → pj_R l g mdX12_layOne pj_T (pj_Zm g mdX12_layOne (pj_qv Q)) pj_NK 0 0 21 [(0, .ref r0), (1, .int (pj_I x1)), (2, .ref r2), (3, .int (pj_I x3))] [] M) (hk32 : ∀ (x4 : Int) (M : pj_M), k32 x4 M → pj_R l g mdX12_layOne pj_T (pj_Zm g mdX12_layOne (pj_qv Q)) pj_NK 0 0 32 [(0, .ref r0), (1, .int (pj_I x1)), (2, .ref r2), (3, .int (pj_I x3)), (4, .int (pj_I x4))] [] M) (hk46 : ∀ (x5 : Int) (M : pj_M), k46 x5 M → pj_R l g mdX12_layOne pj_T (pj_Zm g mdX12_layOne (pj_qv Q)) pj_NK 0 0 46 [(0, .ref r0), (1, .int (pj_I x1)), (2, .ref r2), (3, .int (pj_I x3)), (4, .int (pj_I x4)), (5, .int (pj_I x5))] [] M) (h : w_X12_layOne_46b r0 x1 r2 x3 x4 k21 k32 Q k46 x5 M) : pj_R l g mdX12_layOne pj_T (pj_Zm g mdX12_layOne (pj_qv Q)) pj_NK 0 0 46 [(0, .ref r0), (1, .int (pj_I x1)), (2, .ref r2), (3, .int (pj_I x3)), (4, .int (pj_I x4)), (5, .int (pj_I x5))] [] M := by
  unfold w_X12_layOne_46b at h
  refine pj_iload 48 5 rfl rfl rfl ?_
  obtain ⟨q6, h⟩ := h
  refine pj_if_eq 145 51 rfl (by decide) rfl q6  (fun hc => ?_) (fun hc => ?_)
  · replace h := h.1 hc
    refine pj_iinc 148 4 (ls' := [(0, .ref r0), (1, .int (pj_I x1)), (2, .ref r2), (3, .int (pj_I x3)), (4, .int (pj_I (x4 + 1))), (5, .int (pj_I x5))]) rfl rfl (by decide) rfl rfl ?_
    refine pj_goto 32 rfl (by decide) ?_
    refine pn_sub [0, 1, 2, 3, 4] rfl ?_
    exact hk32 _ _ h
  · replace h := h.2 hc
    refine pj_iconst 52 rfl rfl ?_
    refine pj_istore 54 (ls' := [(0, .ref r0), (1, .int (pj_I x1)), (2, .ref r2), (3, .int (pj_I x3)), (4, .int (pj_I x4)), (5, .int (pj_I 0))]) rfl (by decide) rfl rfl ?_
    refine pj_iconst 55 rfl rfl ?_
    refine pj_istore 57 (ls' := [(0, .ref r0), (1, .int (pj_I x1)), (2, .ref r2), (3, .int (pj_I x3)), (4, .int (pj_I x4)), (5, .int (pj_I 0)), (6, .int (pj_I 0))]) rfl (by decide) rfl rfl ?_
    refine pn_sub [0, 1, 2, 3, 4, 5, 6] rfl ?_
    exact s_X12_layOne_57 hg o0 o2  hk21 hk32 hk46 h
set_option maxRecDepth 20000 in
set_option maxHeartbeats 4000000 in
theorem s_X12_layOne_46 {l : Launch} {g : pj_G} (hg : pj_ph g = true) {r0 : Nat} {x1 : Int} {r2 : Nat} {x3 : Int} {x4 : Int} {x5 : Int} {M : pj_M} {Q : pj_M → Prop} {k21 : Int → pj_M → Prop} {k32 : Int → pj_M → Prop} (o0 : pj_ob r0 12) (o2 : pj_ol r2 2 (pj_sh r2).2) (hk21 : ∀ (x3 : Int) (M : pj_M), k21 x3 M → pj_R l g mdX12_layOne pj_T (pj_Zm g mdX12_layOne (pj_qv Q)) pj_NK 0 0 21 [(0, .ref r0), (1, .int (pj_I x1)), (2, .ref r2), (3, .int (pj_I x3))] [] M) (hk32 : ∀ (x4 : Int) (M : pj_M), k32 x4 M → pj_R l g mdX12_layOne pj_T (pj_Zm g mdX12_layOne (pj_qv Q)) pj_NK 0 0 32 [(0, .ref r0), (1, .int (pj_I x1)), (2, .ref r2), (3, .int (pj_I x3)), (4, .int (pj_I x4))] [] M) (h : w_X12_layOne_46 r0 x1 r2 x3 x4 k21 k32 Q x5 M) : pj_R l g mdX12_layOne pj_T (pj_Zm g mdX12_layOne (pj_qv Q)) pj_NK 0 0 46 [(0, .ref r0), (1, .int (pj_I x1)), (2, .ref r2), (3, .int (pj_I x3)), (4, .int (pj_I x4)), (5, .int (pj_I x5))] [] M :=
  h (fun s => pj_R l g mdX12_layOne pj_T (pj_Zm g mdX12_layOne (pj_qv Q)) pj_NK 0 0 46 [(0, .ref r0), (1, .int (pj_I x1)), (2, .ref r2), (3, .int (pj_I x3)), (4, .int (pj_I x4)), (5, .int (pj_I (s.1)))] [] s.2) (fun s hs => s_X12_layOne_46b hg o0 o2 hk21 hk32 (fun _ _ q => q) hs)
set_option maxRecDepth 20000 in
set_option maxHeartbeats 4000000 in
theorem s_X12_layOne_32b {l : Launch} {g : pj_G} (hg : pj_ph g = true) {r0 : Nat} {x1 : Int} {r2 : Nat} {x3 : Int} {x4 : Int} {M : pj_M} {Q : pj_M → Prop} {k21 : Int → pj_M → Prop} {k32 : Int → pj_M → Prop} (o0 : pj_ob r0 12) (o2 : pj_ol r2 2 (pj_sh r2).2) (hk21 : ∀ (x3 : Int) (M : pj_M), k21 x3 M → pj_R l g mdX12_layOne pj_T (pj_Zm g mdX12_layOne (pj_qv Q)) pj_NK 0 0 21 [(0, .ref r0), (1, .int (pj_I x1)), (2, .ref r2), (3, .int (pj_I x3))] [] M) (hk32 : ∀ (x4 : Int) (M : pj_M), k32 x4 M → pj_R l g mdX12_layOne pj_T (pj_Zm g mdX12_layOne (pj_qv Q)) pj_NK 0 0 32 [(0, .ref r0), (1, .int (pj_I x1)), (2, .ref r2), (3, .int (pj_I x3)), (4, .int (pj_I x4))] [] M) (h : w_X12_layOne_32b r0 x1 r2 x3 k21 Q k32 x4 M) : pj_R l g mdX12_layOne pj_T (pj_Zm g mdX12_layOne (pj_qv Q)) pj_NK 0 0 32 [(0, .ref r0), (1, .int (pj_I x1)), (2, .ref r2), (3, .int (pj_I x3)), (4, .int (pj_I x4))] [] M := by
  unfold w_X12_layOne_32b at h
  refine pj_iload 34 4 rfl rfl rfl ?_
  refine pj_iload_n 35 3 rfl rfl rfl rfl ?_
  refine pj_iadd 36 rfl rfl ?_
  refine pj_aload_n 37 0 rfl rfl rfl rfl ?_
  refine pn_geti 40 12 14 14 o0 rfl pfX12_214 (Or.inl rfl) rfl rfl ?_
  obtain ⟨q4, h⟩ := h
  obtain ⟨q5, h⟩ := h
  refine pj_icmp_gt 151 43 rfl (by decide) rfl q4 q5 (fun hc => ?_) (fun hc => ?_)
  · replace h := h.1 hc
    refine pj_iinc 154 3 (ls' := [(0, .ref r0), (1, .int (pj_I x1)), (2, .ref r2), (3, .int (pj_I (x3 + 1))), (4, .int (pj_I x4))]) rfl rfl (by decide) rfl rfl ?_
    refine pj_goto 21 rfl (by decide) ?_
    refine pn_sub [0, 1, 2, 3] rfl ?_
    exact hk21 _ _ h
  · replace h := h.2 hc
    refine pj_iconst 44 rfl rfl ?_
    refine pj_istore 46 (ls' := [(0, .ref r0), (1, .int (pj_I x1)), (2, .ref r2), (3, .int (pj_I x3)), (4, .int (pj_I x4)), (5, .int (pj_I 1))]) rfl (by decide) rfl rfl ?_
    refine pn_sub [0, 1, 2, 3, 4, 5] rfl ?_
    exact s_X12_layOne_46 hg o0 o2  hk21 hk32 h
set_option maxRecDepth 20000 in
set_option maxHeartbeats 4000000 in
theorem s_X12_layOne_32 {l : Launch} {g : pj_G} (hg : pj_ph g = true) {r0 : Nat} {x1 : Int} {r2 : Nat} {x3 : Int} {x4 : Int} {M : pj_M} {Q : pj_M → Prop} {k21 : Int → pj_M → Prop} (o0 : pj_ob r0 12) (o2 : pj_ol r2 2 (pj_sh r2).2) (hk21 : ∀ (x3 : Int) (M : pj_M), k21 x3 M → pj_R l g mdX12_layOne pj_T (pj_Zm g mdX12_layOne (pj_qv Q)) pj_NK 0 0 21 [(0, .ref r0), (1, .int (pj_I x1)), (2, .ref r2), (3, .int (pj_I x3))] [] M) (h : w_X12_layOne_32 r0 x1 r2 x3 k21 Q x4 M) : pj_R l g mdX12_layOne pj_T (pj_Zm g mdX12_layOne (pj_qv Q)) pj_NK 0 0 32 [(0, .ref r0), (1, .int (pj_I x1)), (2, .ref r2), (3, .int (pj_I x3)), (4, .int (pj_I x4))] [] M :=
  h (fun s => pj_R l g mdX12_layOne pj_T (pj_Zm g mdX12_layOne (pj_qv Q)) pj_NK 0 0 32 [(0, .ref r0), (1, .int (pj_I x1)), (2, .ref r2), (3, .int (pj_I x3)), (4, .int (pj_I (s.1)))] [] s.2) (fun s hs => s_X12_layOne_32b hg o0 o2 hk21 (fun _ _ q => q) hs)
set_option maxRecDepth 20000 in
set_option maxHeartbeats 4000000 in
theorem s_X12_layOne_21b {l : Launch} {g : pj_G} (hg : pj_ph g = true) {r0 : Nat} {x1 : Int} {r2 : Nat} {x3 : Int} {M : pj_M} {Q : pj_M → Prop}  {k21 : Int → pj_M → Prop} (o0 : pj_ob r0 12) (o2 : pj_ol r2 2 (pj_sh r2).2)  (hk21 : ∀ (x3 : Int) (M : pj_M), k21 x3 M → pj_R l g mdX12_layOne pj_T (pj_Zm g mdX12_layOne (pj_qv Q)) pj_NK 0 0 21 [(0, .ref r0), (1, .int (pj_I x1)), (2, .ref r2), (3, .int (pj_I x3))] [] M) (h : w_X12_layOne_21b r0 x1 r2  Q k21 x3 M) : pj_R l g mdX12_layOne pj_T (pj_Zm g mdX12_layOne (pj_qv Q)) pj_NK 0 0 21 [(0, .ref r0), (1, .int (pj_I x1)), (2, .ref r2), (3, .int (pj_I x3))] [] M := by
  unfold w_X12_layOne_21b at h
  refine pj_iload_n 22 3 rfl rfl rfl rfl ?_
  refine pj_aload_n 23 0 rfl rfl rfl rfl ?_
  refine pn_geti 26 12 14 14 o0 rfl pfX12_214 (Or.inl rfl) rfl rfl ?_
  obtain ⟨q2, h⟩ := h
  obtain ⟨q3, h⟩ := h
  refine pj_icmp_gt 157 29 rfl (by decide) rfl q2 q3 (fun hc => ?_) (fun hc => ?_)
  · replace h := h.1 hc
    exact pn_vret h rfl rfl
  · replace h := h.2 hc
    refine pj_iconst 30 rfl rfl ?_
    refine pj_istore 32 (ls' := [(0, .ref r0), (1, .int (pj_I x1)), (2, .ref r2), (3, .int (pj_I x3)), (4, .int (pj_I 0))]) rfl (by decide) rfl rfl ?_
    refine pn_sub [0, 1, 2, 3, 4] rfl ?_
    exact s_X12_layOne_32 hg o0 o2  hk21 h
set_option maxRecDepth 20000 in
set_option maxHeartbeats 4000000 in
theorem s_X12_layOne_21 {l : Launch} {g : pj_G} (hg : pj_ph g = true) {r0 : Nat} {x1 : Int} {r2 : Nat} {x3 : Int} {M : pj_M} {Q : pj_M → Prop}  (o0 : pj_ob r0 12) (o2 : pj_ol r2 2 (pj_sh r2).2)  (h : w_X12_layOne_21 r0 x1 r2  Q x3 M) : pj_R l g mdX12_layOne pj_T (pj_Zm g mdX12_layOne (pj_qv Q)) pj_NK 0 0 21 [(0, .ref r0), (1, .int (pj_I x1)), (2, .ref r2), (3, .int (pj_I x3))] [] M :=
  h (fun s => pj_R l g mdX12_layOne pj_T (pj_Zm g mdX12_layOne (pj_qv Q)) pj_NK 0 0 21 [(0, .ref r0), (1, .int (pj_I x1)), (2, .ref r2), (3, .int (pj_I (s.1)))] [] s.2) (fun s hs => s_X12_layOne_21b hg o0 o2  (fun _ _ q => q) hs)
set_option maxRecDepth 20000 in
set_option maxHeartbeats 4000000 in
theorem s_X12_layOne_2b {l : Launch} {g : pj_G} (hg : pj_ph g = true) {r0 : Nat} {x1 : Int} {r2 : Nat} {x3 : Int} {M : pj_M} {Q : pj_M → Prop}  {k2 : Int → pj_M → Prop} (o0 : pj_ob r0 12) (o2 : pj_ol r2 2 (pj_sh r2).2)  (hk2 : ∀ (x3 : Int) (M : pj_M), k2 x3 M → pj_R l g mdX12_layOne pj_T (pj_Zm g mdX12_layOne (pj_qv Q)) pj_NK 0 0 2 [(0, .ref r0), (1, .int (pj_I x1)), (2, .ref r2), (3, .int (pj_I x3))] [] M) (h : w_X12_layOne_2b r0 x1 r2  Q k2 x3 M) : pj_R l g mdX12_layOne pj_T (pj_Zm g mdX12_layOne (pj_qv Q)) pj_NK 0 0 2 [(0, .ref r0), (1, .int (pj_I x1)), (2, .ref r2), (3, .int (pj_I x3))] [] M := by
  unfold w_X12_layOne_2b at h
  refine pj_iload_n 3 3 rfl rfl rfl rfl ?_
  refine pj_sipush 6 rfl (by decide) rfl ?_
  obtain ⟨q1, h⟩ := h
  refine pj_icmp_ge 19 9 rfl (by decide) rfl q1 (show pj_in 1536 by decide) (fun hc => ?_) (fun hc => ?_)
  · replace h := h.1 hc
    refine pj_iconst 20 rfl rfl ?_
    refine pj_istore_n 21 (ls' := [(0, .ref r0), (1, .int (pj_I x1)), (2, .ref r2), (3, .int (pj_I 0))]) rfl rfl (by decide) rfl rfl ?_
    refine pn_sub [0, 1, 2, 3] rfl ?_
    exact s_X12_layOne_21 hg o0 o2   h
  · replace h := h.2 hc
    refine pj_aload_n 10 2 rfl rfl rfl rfl ?_
    refine pj_iload_n 11 3 rfl rfl rfl rfl ?_
    refine pj_iconst 12 rfl rfl ?_
    obtain ⟨q27, h⟩ := h
    refine pn_zast 13 ((pj_sh r2).2) o2 (by decide) q27 rfl rfl (fun M28 hM28 => ?_)
    replace h := h M28 hM28
    refine pj_iinc 16 3 (ls' := [(0, .ref r0), (1, .int (pj_I x1)), (2, .ref r2), (3, .int (pj_I (x3 + 1)))]) rfl rfl (by decide) rfl rfl ?_
    refine pj_goto 2 rfl (by decide) ?_
    refine pn_sub [0, 1, 2, 3] rfl ?_
    exact hk2 _ _ h
set_option maxRecDepth 20000 in
set_option maxHeartbeats 4000000 in
theorem s_X12_layOne_2 {l : Launch} {g : pj_G} (hg : pj_ph g = true) {r0 : Nat} {x1 : Int} {r2 : Nat} {x3 : Int} {M : pj_M} {Q : pj_M → Prop}  (o0 : pj_ob r0 12) (o2 : pj_ol r2 2 (pj_sh r2).2)  (h : w_X12_layOne_2 r0 x1 r2  Q x3 M) : pj_R l g mdX12_layOne pj_T (pj_Zm g mdX12_layOne (pj_qv Q)) pj_NK 0 0 2 [(0, .ref r0), (1, .int (pj_I x1)), (2, .ref r2), (3, .int (pj_I x3))] [] M :=
  h (fun s => pj_R l g mdX12_layOne pj_T (pj_Zm g mdX12_layOne (pj_qv Q)) pj_NK 0 0 2 [(0, .ref r0), (1, .int (pj_I x1)), (2, .ref r2), (3, .int (pj_I (s.1)))] [] s.2) (fun s hs => s_X12_layOne_2b hg o0 o2  (fun _ _ q => q) hs)
set_option maxRecDepth 20000 in
set_option maxHeartbeats 4000000 in
theorem s_X12_layOne {l : Launch} {g : pj_G} (hg : pj_ph g = true) {r0 : Nat} {x1 : Int} {r2 : Nat} {M : pj_M} {Q : pj_M → Prop} (o0 : pj_ob r0 12) (o2 : pj_oa r2 2) (h : w_X12_layOne r0 x1 r2 M Q) : pj_S l g mdX12_layOne [.ref r0, .int (pj_I x1), .ref r2] pj_NK M (pj_qv Q) := by
  refine pj_ofR (ls := [(0, .ref r0), (1, .int (pj_I x1)), (2, .ref r2)]) gcX12_layOne (by decide) rfl (Nat.le_of_ble_eq_true rfl) rfl ?_
  unfold w_X12_layOne at h
  refine pj_iconst 1 rfl rfl ?_
  refine pj_istore_n 2 (ls' := [(0, .ref r0), (1, .int (pj_I x1)), (2, .ref r2), (3, .int (pj_I 0))]) rfl rfl (by decide) rfl rfl ?_
  refine pn_sub [0, 1, 2, 3] rfl ?_
  exact s_X12_layOne_2 hg o0 (pr_len o2)   h
def w_X12_layWord_8b (r0 : Nat) (r1 : Nat) (x2 : Int) (x3 : Int)  (Q : pj_M → Prop) (k8 : Int → pj_M → Prop) (x4 : Int) (M : pj_M) : Prop :=
  (pj_in x4) ∧ (pj_in x3) ∧ ((x3 ≤ x4 → Q M) ∧ (¬ x3 ≤ x4 → ((0 : Int) ≤ (x2 + x4) ∧ (x2 + x4) < ((pj_sh r1).2 : Int)) ∧ ((0 : Int) ≤ x4 ∧ x4 < 16) ∧ ∀ M6 : pj_M, M6 = pj_up M (pj_rf r0 13) x4 (M r1 (x2 + x4)) → k8 (x4 + 1) M6))
def w_X12_layWord_8 (r0 : Nat) (r1 : Nat) (x2 : Int) (x3 : Int)  (Q : pj_M → Prop) (x4 : Int) (M : pj_M) : Prop := pj_lp (fun (k : Int × pj_M → Prop) (s : Int × pj_M) => w_X12_layWord_8b r0 r1 x2 x3  Q (fun (x4 : Int) (M : pj_M) => k (x4, M)) s.1 s.2) (x4, M)
def w_X12_layWord (r0 : Nat) (r1 : Nat) (x2 : Int) (x3 : Int) (M : pj_M) (Q : pj_M → Prop) : Prop :=
  ∀ M1 : pj_M, M1 = pj_up M r0 14 x3 → w_X12_layWord_8 r0 r1 x2 x3  Q 0 M1
set_option maxRecDepth 20000 in
set_option maxHeartbeats 4000000 in
theorem s_X12_layWord_8b {l : Launch} {g : pj_G} (hg : pj_ph g = true) {r0 : Nat} {r1 : Nat} {x2 : Int} {x3 : Int} {x4 : Int} {M : pj_M} {Q : pj_M → Prop}  {k8 : Int → pj_M → Prop} (o0 : pj_ob r0 12) (o1 : pj_ol r1 1 (pj_sh r1).2)  (hk8 : ∀ (x4 : Int) (M : pj_M), k8 x4 M → pj_R l g mdX12_layWord pj_T (pj_Zm g mdX12_layWord (pj_qv Q)) pj_NK 0 0 8 [(0, .ref r0), (1, .ref r1), (2, .int (pj_I x2)), (3, .int (pj_I x3)), (4, .int (pj_I x4))] [] M) (h : w_X12_layWord_8b r0 r1 x2 x3  Q k8 x4 M) : pj_R l g mdX12_layWord pj_T (pj_Zm g mdX12_layWord (pj_qv Q)) pj_NK 0 0 8 [(0, .ref r0), (1, .ref r1), (2, .int (pj_I x2)), (3, .int (pj_I x3)), (4, .int (pj_I x4))] [] M := by
  unfold w_X12_layWord_8b at h
  refine pj_iload 10 4 rfl rfl rfl ?_
  refine pj_iload_n 11 3 rfl rfl rfl rfl ?_
  obtain ⟨q2, h⟩ := h
  obtain ⟨q3, h⟩ := h
  refine pj_icmp_ge 33 14 rfl (by decide) rfl q2 q3 (fun hc => ?_) (fun hc => ?_)
  · replace h := h.1 hc
    exact pn_vret h rfl rfl
  · replace h := h.2 hc
    refine pj_aload_n 15 0 rfl rfl rfl rfl ?_
    refine pn_getr 18 12 13 hg o0 (pr_12_13 o0).2 rfl pfX12_30 rfl rfl ?_
    refine pj_iload 20 4 rfl rfl rfl ?_
    refine pj_aload_n 21 1 rfl rfl rfl rfl ?_
    refine pj_iload_n 22 2 rfl rfl rfl rfl ?_
    refine pj_iload 24 4 rfl rfl rfl ?_
    refine pj_iadd 25 rfl rfl ?_
    obtain ⟨q4, h⟩ := h
    refine pn_iald 26 ((pj_sh r1).2) o1 q4 rfl rfl ?_
    obtain ⟨q5, h⟩ := h
    refine pn_iast 27 16 (pr_12_13 o0)  q5 rfl rfl (fun M6 hM6 => ?_)
    replace h := h M6 hM6
    refine pj_iinc 30 4 (ls' := [(0, .ref r0), (1, .ref r1), (2, .int (pj_I x2)), (3, .int (pj_I x3)), (4, .int (pj_I (x4 + 1)))]) rfl rfl (by decide) rfl rfl ?_
    refine pj_goto 8 rfl (by decide) ?_
    refine pn_sub [0, 1, 2, 3, 4] rfl ?_
    exact hk8 _ _ h
set_option maxRecDepth 20000 in
set_option maxHeartbeats 4000000 in
theorem s_X12_layWord_8 {l : Launch} {g : pj_G} (hg : pj_ph g = true) {r0 : Nat} {r1 : Nat} {x2 : Int} {x3 : Int} {x4 : Int} {M : pj_M} {Q : pj_M → Prop}  (o0 : pj_ob r0 12) (o1 : pj_ol r1 1 (pj_sh r1).2)  (h : w_X12_layWord_8 r0 r1 x2 x3  Q x4 M) : pj_R l g mdX12_layWord pj_T (pj_Zm g mdX12_layWord (pj_qv Q)) pj_NK 0 0 8 [(0, .ref r0), (1, .ref r1), (2, .int (pj_I x2)), (3, .int (pj_I x3)), (4, .int (pj_I x4))] [] M :=
  h (fun s => pj_R l g mdX12_layWord pj_T (pj_Zm g mdX12_layWord (pj_qv Q)) pj_NK 0 0 8 [(0, .ref r0), (1, .ref r1), (2, .int (pj_I x2)), (3, .int (pj_I x3)), (4, .int (pj_I (s.1)))] [] s.2) (fun s hs => s_X12_layWord_8b hg o0 o1  (fun _ _ q => q) hs)
set_option maxRecDepth 20000 in
set_option maxHeartbeats 4000000 in
theorem s_X12_layWord {l : Launch} {g : pj_G} (hg : pj_ph g = true) {r0 : Nat} {r1 : Nat} {x2 : Int} {x3 : Int} {M : pj_M} {Q : pj_M → Prop} (o0 : pj_ob r0 12) (o1 : pj_oa r1 1) (h : w_X12_layWord r0 r1 x2 x3 M Q) : pj_S l g mdX12_layWord [.ref r0, .ref r1, .int (pj_I x2), .int (pj_I x3)] pj_NK M (pj_qv Q) := by
  refine pj_ofR (ls := [(0, .ref r0), (1, .ref r1), (2, .int (pj_I x2)), (3, .int (pj_I x3))]) gcX12_layWord (by decide) rfl (Nat.le_of_ble_eq_true rfl) rfl ?_
  unfold w_X12_layWord at h
  refine pj_aload_n 1 0 rfl rfl rfl rfl ?_
  refine pj_iload_n 2 3 rfl rfl rfl rfl ?_
  refine pn_puti 5 12 14 14 o0  rfl pfX12_214 rfl rfl rfl (fun M1 hM1 => ?_)
  replace h := h M1 hM1
  refine pj_iconst 6 rfl rfl ?_
  refine pj_istore 8 (ls' := [(0, .ref r0), (1, .ref r1), (2, .int (pj_I x2)), (3, .int (pj_I x3)), (4, .int (pj_I 0))]) rfl (by decide) rfl rfl ?_
  refine pn_sub [0, 1, 2, 3, 4] rfl ?_
  exact s_X12_layWord_8 hg o0 (pr_len o1)   h
def w_X12_layTables (r0 : Nat) (M : pj_M) (Q : pj_M → Prop) : Prop :=
  ∀ M1 : pj_M, M1 = pj_up M r0 11 ((pj_rf r0 0) : Int) → ∃ b2 : Nat, (M1 r0 11 = (b2 : Int) ∧ pj_ol b2 1 95) ∧ w_X12_layGood r0 b2 M1 (fun (M3 : pj_M) => w_X12_layOne r0 0 (pj_rf r0 15) M3 (fun (M5 : pj_M) => w_X12_layOne r0 1 (pj_rf r0 16) M5 (fun (M7 : pj_M) => w_X12_layOne r0 2 (pj_rf r0 17) M7 (fun (M9 : pj_M) => w_X12_layOne r0 3 (pj_rf r0 18) M9 (fun (M11 : pj_M) => Q M11)))))
set_option maxRecDepth 20000 in
set_option maxHeartbeats 4000000 in
theorem s_X12_layTables {l : Launch} {g : pj_G} (hg : pj_ph g = true) {r0 : Nat} {M : pj_M} {Q : pj_M → Prop} (o0 : pj_ob r0 12) (h : w_X12_layTables r0 M Q) : pj_S l g mdX12_layTables [.ref r0] pj_NK M (pj_qv Q) := by
  refine pj_ofR (ls := [(0, .ref r0)]) gcX12_layTables (by decide) rfl (Nat.le_of_ble_eq_true rfl) rfl ?_
  unfold w_X12_layTables at h
  refine pj_aload_n 1 0 rfl rfl rfl rfl ?_
  refine pj_aload_n 2 0 rfl rfl rfl rfl ?_
  refine pn_getr 5 12 0 hg o0 (pr_12_0 o0).2 rfl pfX12_9 rfl rfl ?_
  refine pn_putr 8 12 11 11 o0 (pr_12_0 o0).2 rfl pfX12_27 rfl rfl rfl (fun M1 hM1 => ?_)
  replace h := h M1 hM1
  refine pj_aload_n 9 0 rfl rfl rfl rfl ?_
  refine pj_aload_n 10 0 rfl rfl rfl rfl ?_
  obtain ⟨b2, ⟨hb2, ob2⟩, h⟩ := h
  refine pn_getd 13 12 11 11 o0 hb2 ob2.2 rfl pfX12_27 rfl rfl rfl ?_
  refine pn_callVv 16 12 [.ref b2] [] o0 (s_X12_layGood hg o0 (pj_oa_of ob2) h) plX12_156 rfl rfl rfl rfl (Nat.le_of_ble_eq_true rfl) (by decide) (fun M3 h => ?_)
  refine pj_aload_n 17 0 rfl rfl rfl rfl ?_
  refine pj_iconst 18 rfl rfl ?_
  refine pj_aload_n 19 0 rfl rfl rfl rfl ?_
  refine pn_getr 22 12 15 hg o0 (pr_12_15 o0).2 rfl pfX12_33 rfl rfl ?_
  refine pn_callVv 25 12 [.int (pj_I 0), .ref (pj_rf r0 15)] [] o0 (s_X12_layOne hg o0 (pj_oa_of (pr_12_15 o0)) h) plX12_228 rfl rfl rfl rfl (Nat.le_of_ble_eq_true rfl) (by decide) (fun M5 h => ?_)
  refine pj_aload_n 26 0 rfl rfl rfl rfl ?_
  refine pj_iconst 27 rfl rfl ?_
  refine pj_aload_n 28 0 rfl rfl rfl rfl ?_
  refine pn_getr 31 12 16 hg o0 (pr_12_16 o0).2 rfl pfX12_37 rfl rfl ?_
  refine pn_callVv 34 12 [.int (pj_I 1), .ref (pj_rf r0 16)] [] o0 (s_X12_layOne hg o0 (pj_oa_of (pr_12_16 o0)) h) plX12_228 rfl rfl rfl rfl (Nat.le_of_ble_eq_true rfl) (by decide) (fun M7 h => ?_)
  refine pj_aload_n 35 0 rfl rfl rfl rfl ?_
  refine pj_iconst 36 rfl rfl ?_
  refine pj_aload_n 37 0 rfl rfl rfl rfl ?_
  refine pn_getr 40 12 17 hg o0 (pr_12_17 o0).2 rfl pfX12_40 rfl rfl ?_
  refine pn_callVv 43 12 [.int (pj_I 2), .ref (pj_rf r0 17)] [] o0 (s_X12_layOne hg o0 (pj_oa_of (pr_12_17 o0)) h) plX12_228 rfl rfl rfl rfl (Nat.le_of_ble_eq_true rfl) (by decide) (fun M9 h => ?_)
  refine pj_aload_n 44 0 rfl rfl rfl rfl ?_
  refine pj_iconst 45 rfl rfl ?_
  refine pj_aload_n 46 0 rfl rfl rfl rfl ?_
  refine pn_getr 49 12 18 hg o0 (pr_12_18 o0).2 rfl pfX12_43 rfl rfl ?_
  refine pn_callVv 52 12 [.int (pj_I 3), .ref (pj_rf r0 18)] [] o0 (s_X12_layOne hg o0 (pj_oa_of (pr_12_18 o0)) h) plX12_228 rfl rfl rfl rfl (Nat.le_of_ble_eq_true rfl) (by decide) (fun M11 h => ?_)
  exact pn_vret h rfl rfl
def w_X12_layAll (r0 : Nat) (x1 : Int) (M : pj_M) (Q : pj_M → Prop) : Prop :=
  w_X12_layWord r0 (pj_rf r0 0) 74 x1 M (fun (M1 : pj_M) => w_X12_layTables r0 M1 (fun (M3 : pj_M) => Q M3))
set_option maxRecDepth 20000 in
set_option maxHeartbeats 4000000 in
theorem s_X12_layAll {l : Launch} {g : pj_G} (hg : pj_ph g = true) {r0 : Nat} {x1 : Int} {M : pj_M} {Q : pj_M → Prop} (o0 : pj_ob r0 12) (h : w_X12_layAll r0 x1 M Q) : pj_S l g mdX12_layAll [.ref r0, .int (pj_I x1)] pj_NK M (pj_qv Q) := by
  refine pj_ofR (ls := [(0, .ref r0), (1, .int (pj_I x1))]) gcX12_layAll (by decide) rfl (Nat.le_of_ble_eq_true rfl) rfl ?_
  unfold w_X12_layAll at h
  refine pj_aload_n 1 0 rfl rfl rfl rfl ?_
  refine pj_aload_n 2 0 rfl rfl rfl rfl ?_
  refine pn_getr 5 12 0 hg o0 (pr_12_0 o0).2 rfl pfX12_9 rfl rfl ?_
  refine pj_bipush 7 rfl (by decide) rfl ?_
  refine pj_iload_n 8 1 rfl rfl rfl rfl ?_
  refine pn_callVv 11 12 [.ref (pj_rf r0 0), .int (pj_I 74), .int (pj_I x1)] [] o0 (s_X12_layWord hg o0 (pj_oa_of (pr_12_0 o0)) h) plX12_221 rfl rfl rfl rfl (Nat.le_of_ble_eq_true rfl) (by decide) (fun M1 h => ?_)
  refine pj_aload_n 12 0 rfl rfl rfl rfl ?_
  refine pn_callVv 15 12 [] [] o0 (s_X12_layTables hg o0 h) plX12_225 rfl rfl rfl rfl (Nat.le_of_ble_eq_true rfl) (by decide) (fun M3 h => ?_)
  exact pn_vret h rfl rfl
def w_Jmax (x0 : Int) (x1 : Int) (M : pj_M) (Q : Int → pj_M → Prop) : Prop :=
  (pj_in x0) ∧ (pj_in x1) ∧ ((x0 < x1 → Q x1 M) ∧ (¬ x0 < x1 → Q x0 M))
set_option maxRecDepth 20000 in
set_option maxHeartbeats 4000000 in
theorem s_Jmax {l : Launch} {g : pj_G} (hg : pj_ph g = true) {x0 : Int} {x1 : Int} {M : pj_M} {Q : Int → pj_M → Prop}  (h : w_Jmax x0 x1 M Q) : pj_S l g mdJmax [.int (pj_I x0), .int (pj_I x1)] pj_NK M (pj_qi Q) := by
  refine pj_ofRF (ls := [(0, .int (pj_I x0)), (1, .int (pj_I x1))]) gcJmax pj_pJmax rfl (Nat.le_of_ble_eq_true rfl) rfl ?_
  unfold w_Jmax at h
  refine pj_iload_n 1 0 rfl rfl rfl rfl ?_
  refine pj_iload_n 2 1 rfl rfl rfl rfl ?_
  obtain ⟨q1, h⟩ := h
  obtain ⟨q2, h⟩ := h
  refine pj_icmp_lt 9 5 rfl (by decide) rfl q1 q2 (fun hc => ?_) (fun hc => ?_)
  · replace h := h.1 hc
    refine pj_iload_n 10 1 rfl rfl rfl rfl ?_
    exact pn_iret h rfl rfl
  · replace h := h.2 hc
    refine pj_iload_n 6 0 rfl rfl rfl rfl ?_
    refine pj_goto 10 rfl (by decide) ?_
    exact pn_iret h rfl rfl
