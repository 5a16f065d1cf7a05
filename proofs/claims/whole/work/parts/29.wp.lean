def w_X12_pairOf_2b (r0 : Nat) (x1 : Int) (x2 : Int)  (Q : Int → pj_M → Prop) (k2 : Int → pj_M → Prop) (x3 : Int) (M : pj_M) : Prop :=
  (pj_in x3) ∧ (pj_in (M (pj_rf r0 0) 88)) ∧ (((M (pj_rf r0 0) 88) ≤ x3 → Q (-1) M) ∧ (¬ (M (pj_rf r0 0) 88) ≤ x3 → ((0 : Int) ≤ ((89 + (2 * x3)) + x2) ∧ ((89 + (2 * x3)) + x2) < 95) ∧ (pj_in (M (pj_rf r0 0) ((89 + (2 * x3)) + x2))) ∧ (pj_in x1) ∧ ((¬ (M (pj_rf r0 0) ((89 + (2 * x3)) + x2)) = x1 → k2 (x3 + 1) M) ∧ ((M (pj_rf r0 0) ((89 + (2 * x3)) + x2)) = x1 → Q x3 M))))
def w_X12_pairOf_2 (r0 : Nat) (x1 : Int) (x2 : Int)  (Q : Int → pj_M → Prop) (x3 : Int) (M : pj_M) : Prop := pj_lp (fun (k : Int × pj_M → Prop) (s : Int × pj_M) => w_X12_pairOf_2b r0 x1 x2  Q (fun (x3 : Int) (M : pj_M) => k (x3, M)) s.1 s.2) (x3, M)
def w_X12_pairOf (r0 : Nat) (x1 : Int) (x2 : Int) (M : pj_M) (Q : Int → pj_M → Prop) : Prop :=
  w_X12_pairOf_2 r0 x1 x2  Q 0 M
set_option maxRecDepth 20000 in
set_option maxHeartbeats 4000000 in
theorem s_X12_pairOf_2b {l : Launch} {g : pj_G} (hg : pj_ph g = true) {r0 : Nat} {x1 : Int} {x2 : Int} {x3 : Int} {M : pj_M} {Q : Int → pj_M → Prop}  {k2 : Int → pj_M → Prop} (o0 : pj_ob r0 12)  (hk2 : ∀ (x3 : Int) (M : pj_M), k2 x3 M → pj_R l g mdX12_pairOf pj_T (pj_Zm g mdX12_pairOf (pj_qi Q)) pj_NK 0 0 2 [(0, .ref r0), (1, .int (pj_I x1)), (2, .int (pj_I x2)), (3, .int (pj_I x3))] [] M) (h : w_X12_pairOf_2b r0 x1 x2  Q k2 x3 M) : pj_R l g mdX12_pairOf pj_T (pj_Zm g mdX12_pairOf (pj_qi Q)) pj_NK 0 0 2 [(0, .ref r0), (1, .int (pj_I x1)), (2, .int (pj_I x2)), (3, .int (pj_I x3))] [] M := by
  unfold w_X12_pairOf_2b at h
  refine pj_iload_n 3 3 rfl rfl rfl rfl ?_
  refine pj_aload_n 4 0 rfl rfl rfl rfl ?_
  refine pn_getr 7 12 0 hg o0 (pr_12_0 o0).2 rfl pfX12_9 rfl rfl ?_
  refine pj_bipush 9 rfl (by decide) rfl ?_
  refine pn_iald 10 95 (pr_12_0 o0) (show 0 ≤ (88 : Int) ∧ (88 : Int) < ((95 : Nat) : Int) by decide) rfl rfl ?_
  obtain ⟨q1, h⟩ := h
  obtain ⟨q2, h⟩ := h
  refine pj_icmp_ge 38 13 rfl (by decide) rfl q1 q2 (fun hc => ?_) (fun hc => ?_)
  · replace h := h.1 hc
    refine pj_iconst 39 rfl rfl ?_
    exact pn_iret h rfl rfl
  · replace h := h.2 hc
    refine pj_aload_n 14 0 rfl rfl rfl rfl ?_
    refine pn_getr 17 12 0 hg o0 (pr_12_0 o0).2 rfl pfX12_9 rfl rfl ?_
    refine pj_bipush 19 rfl (by decide) rfl ?_
    refine pj_iconst 20 rfl rfl ?_
    refine pj_iload_n 21 3 rfl rfl rfl rfl ?_
    refine pj_imul 22 rfl rfl ?_
    refine pj_iadd 23 rfl rfl ?_
    refine pj_iload_n 24 2 rfl rfl rfl rfl ?_
    refine pj_iadd 25 rfl rfl ?_
    obtain ⟨q3, h⟩ := h
    refine pn_iald 26 95 (pr_12_0 o0) q3 rfl rfl ?_
    refine pj_iload_n 27 1 rfl rfl rfl rfl ?_
    obtain ⟨q4, h⟩ := h
    obtain ⟨q5, h⟩ := h
    refine pj_icmp_ne 32 30 rfl (by decide) rfl q4 q5 (fun hc => ?_) (fun hc => ?_)
    · replace h := h.1 hc
      refine pj_iinc 35 3 (ls' := [(0, .ref r0), (1, .int (pj_I x1)), (2, .int (pj_I x2)), (3, .int (pj_I (x3 + 1)))]) rfl rfl (by decide) rfl rfl ?_
      refine pj_goto 2 rfl (by decide) ?_
      refine pn_sub [0, 1, 2, 3] rfl ?_
      exact hk2 _ _ h
    · replace h := h.2 (Classical.not_not.mp hc)
      refine pj_iload_n 31 3 rfl rfl rfl rfl ?_
      exact pn_iret h rfl rfl
set_option maxRecDepth 20000 in
set_option maxHeartbeats 4000000 in
theorem s_X12_pairOf_2 {l : Launch} {g : pj_G} (hg : pj_ph g = true) {r0 : Nat} {x1 : Int} {x2 : Int} {x3 : Int} {M : pj_M} {Q : Int → pj_M → Prop}  (o0 : pj_ob r0 12)  (h : w_X12_pairOf_2 r0 x1 x2  Q x3 M) : pj_R l g mdX12_pairOf pj_T (pj_Zm g mdX12_pairOf (pj_qi Q)) pj_NK 0 0 2 [(0, .ref r0), (1, .int (pj_I x1)), (2, .int (pj_I x2)), (3, .int (pj_I x3))] [] M :=
  h (fun s => pj_R l g mdX12_pairOf pj_T (pj_Zm g mdX12_pairOf (pj_qi Q)) pj_NK 0 0 2 [(0, .ref r0), (1, .int (pj_I x1)), (2, .int (pj_I x2)), (3, .int (pj_I (s.1)))] [] s.2) (fun s hs => s_X12_pairOf_2b hg o0  (fun _ _ q => q) hs)
set_option maxRecDepth 20000 in
set_option maxHeartbeats 4000000 in
theorem s_X12_pairOf {l : Launch} {g : pj_G} (hg : pj_ph g = true) {r0 : Nat} {x1 : Int} {x2 : Int} {M : pj_M} {Q : Int → pj_M → Prop} (o0 : pj_ob r0 12) (h : w_X12_pairOf r0 x1 x2 M Q) : pj_S l g mdX12_pairOf [.ref r0, .int (pj_I x1), .int (pj_I x2)] pj_NK M (pj_qi Q) := by
  refine pj_ofR (ls := [(0, .ref r0), (1, .int (pj_I x1)), (2, .int (pj_I x2))]) gcX12_pairOf (by decide) rfl (Nat.le_of_ble_eq_true rfl) rfl ?_
  unfold w_X12_pairOf at h
  refine pj_iconst 1 rfl rfl ?_
  refine pj_istore_n 2 (ls' := [(0, .ref r0), (1, .int (pj_I x1)), (2, .int (pj_I x2)), (3, .int (pj_I 0))]) rfl rfl (by decide) rfl rfl ?_
  refine pn_sub [0, 1, 2, 3] rfl ?_
  exact s_X12_pairOf_2 hg o0   h
def w_X12_layMates_128 (r0 : Nat) (x1 : Int) (x2 : Int) (x5 : Int) (k25 : Int → Int → pj_M → Prop) (Q : pj_M → Prop) (M : pj_M) : Prop :=
  (pj_in x5) ∧ ((0 ≤ x5 → ((0 : Int) ≤ x5 ∧ x5 < 14) ∧ ((0 : Int) ≤ x2 ∧ x2 < 16) ∧ ∀ M16 : pj_M, M16 = pj_up M (pj_rf r0 23) x2 (M (pj_rf r0 24) x5) → ((0 : Int) ≤ x5 ∧ x5 < 14) ∧ ((0 : Int) ≤ (M16 (pj_rf r0 24) x5) ∧ (M16 (pj_rf r0 24) x5) < 16) ∧ ∀ M19 : pj_M, M19 = pj_up M16 (pj_rf r0 23) (M16 (pj_rf r0 24) x5) x2 → k25 x5 (x2 + 1) M19) ∧ (¬ 0 ≤ x5 → k25 x1 (x2 + 1) M))
def w_X12_layMates_90b (r0 : Nat) (x1 : Int) (x2 : Int) (x4 : Int) (k25 : Int → Int → pj_M → Prop) (Q : pj_M → Prop) (k90 : Int → pj_M → Prop) (x5 : Int) (M : pj_M) : Prop :=
  (pj_in x5) ∧ ((x5 < 0 → w_X12_layMates_128 r0 x1 x2 x5 k25 Q M) ∧ (¬ x5 < 0 → ((0 : Int) ≤ x5 ∧ x5 < 14) ∧ ((0 : Int) ≤ ((74 + (M (pj_rf r0 24) x5)) - 1) ∧ ((74 + (M (pj_rf r0 24) x5)) - 1) < 95) ∧ w_X12_pairOf r0 (M (pj_rf r0 0) ((74 + (M (pj_rf r0 24) x5)) - 1)) 0 M (fun (t23 : Int) (M22 : pj_M) => (pj_in t23) ∧ (pj_in x4) ∧ ((t23 = x4 → w_X12_layMates_128 r0 x1 x2 x5 k25 Q M22) ∧ (¬ t23 = x4 → k90 (x5 + (-1)) M22)))))
def w_X12_layMates_90 (r0 : Nat) (x1 : Int) (x2 : Int) (x4 : Int) (k25 : Int → Int → pj_M → Prop) (Q : pj_M → Prop) (x5 : Int) (M : pj_M) : Prop := pj_lp (fun (k : Int × pj_M → Prop) (s : Int × pj_M) => w_X12_layMates_90b r0 x1 x2 x4 k25 Q (fun (x5 : Int) (M : pj_M) => k (x5, M)) s.1 s.2) (x5, M)
def w_X12_layMates_68 (r0 : Nat) (x1 : Int) (x2 : Int) (x3 : Int) (k25 : Int → Int → pj_M → Prop) (Q : pj_M → Prop) (M : pj_M) : Prop :=
  w_X12_pairOf r0 x3 1 M (fun (t10 : Int) (M9 : pj_M) => (pj_in t10) ∧ ((¬ t10 = (-1) → w_X12_layMates_90 r0 x1 x2 t10 k25 Q (x1 - 1) M9) ∧ (t10 = (-1) → k25 x1 (x2 + 1) M9)))
def w_X12_layMates_25b (r0 : Nat)  (Q : pj_M → Prop) (k25 : Int → Int → pj_M → Prop) (x1 : Int) (x2 : Int) (M : pj_M) : Prop :=
  (pj_in x2) ∧ (pj_in (M (pj_rf r0 0) 73)) ∧ (((M (pj_rf r0 0) 73) < x2 → Q M) ∧ (¬ (M (pj_rf r0 0) 73) < x2 → ((0 : Int) ≤ ((74 + x2) - 1) ∧ ((74 + x2) - 1) < 95) ∧ ∀ z5 : Int, z5 = (M (pj_rf r0 0) ((74 + x2) - 1)) → w_X12_pairOf r0 z5 0 M (fun (t7 : Int) (M6 : pj_M) => (pj_in t7) ∧ ((t7 = (-1) → w_X12_layMates_68 r0 x1 x2 z5 k25 Q M6) ∧ (¬ t7 = (-1) → ((0 : Int) ≤ x1 ∧ x1 < 14) ∧ ∀ M27 : pj_M, M27 = pj_up M6 (pj_rf r0 24) x1 x2 → w_X12_layMates_68 r0 (x1 + 1) x2 z5 k25 Q M27)))))
def w_X12_layMates_25 (r0 : Nat)  (Q : pj_M → Prop) (x1 : Int) (x2 : Int) (M : pj_M) : Prop := pj_lp (fun (k : Int × Int × pj_M → Prop) (s : Int × Int × pj_M) => w_X12_layMates_25b r0  Q (fun (x1 : Int) (x2 : Int) (M : pj_M) => k (x1, x2, M)) s.1 s.2.1 s.2.2) (x1, x2, M)
def w_X12_layMates_4b (r0 : Nat) (x1 : Int)  (Q : pj_M → Prop) (k4 : Int → pj_M → Prop) (x2 : Int) (M : pj_M) : Prop :=
  (pj_in x2) ∧ ((16 ≤ x2 → w_X12_layMates_25 r0  Q x1 1 M) ∧ (¬ 16 ≤ x2 → ((0 : Int) ≤ x2 ∧ x2 < 16) ∧ ∀ M29 : pj_M, M29 = pj_up M (pj_rf r0 23) x2 0 → k4 (x2 + 1) M29))
def w_X12_layMates_4 (r0 : Nat) (x1 : Int)  (Q : pj_M → Prop) (x2 : Int) (M : pj_M) : Prop := pj_lp (fun (k : Int × pj_M → Prop) (s : Int × pj_M) => w_X12_layMates_4b r0 x1  Q (fun (x2 : Int) (M : pj_M) => k (x2, M)) s.1 s.2) (x2, M)
def w_X12_layMates (r0 : Nat) (M : pj_M) (Q : pj_M → Prop) : Prop :=
  w_X12_layMates_4 r0 0  Q 0 M
set_option maxRecDepth 20000 in
set_option maxHeartbeats 4000000 in
theorem s_X12_layMates_128 {l : Launch} {g : pj_G} (hg : pj_ph g = true) {r0 : Nat} {x1 : Int} {x2 : Int} {x5 : Int} {M : pj_M} {Q : pj_M → Prop} {k25 : Int → Int → pj_M → Prop} (o0 : pj_ob r0 12) (hk25 : ∀ (x1 : Int) (x2 : Int) (M : pj_M), k25 x1 x2 M → pj_R l g mdX12_layMates pj_T (pj_Zm g mdX12_layMates (pj_qv Q)) pj_NK 0 0 25 [(0, .ref r0), (1, .int (pj_I x1)), (2, .int (pj_I x2))] [] M) (h : w_X12_layMates_128 r0 x1 x2 x5 k25 Q M) : pj_R l g mdX12_layMates pj_T (pj_Zm g mdX12_layMates (pj_qv Q)) pj_NK 0 0 128 [(0, .ref r0), (1, .int (pj_I x1)), (2, .int (pj_I x2)), (5, .int (pj_I x5))] [] M := by
  unfold w_X12_layMates_128 at h
  refine pj_iload 130 3 rfl rfl rfl ?_
  obtain ⟨q13, h⟩ := h
  refine pj_if_ge 136 133 rfl (by decide) rfl q13  (fun hc => ?_) (fun hc => ?_)
  · replace h := h.1 hc
    refine pj_aload_n 137 0 rfl rfl rfl rfl ?_
    refine pn_getr 140 12 23 hg o0 (pr_12_23 o0).2 rfl pfX12_55 rfl rfl ?_
    refine pj_iload_n 141 2 rfl rfl rfl rfl ?_
    refine pj_aload_n 142 0 rfl rfl rfl rfl ?_
    refine pn_getr 145 12 24 hg o0 (pr_12_24 o0).2 rfl pfX12_58 rfl rfl ?_
    refine pj_iload 147 3 rfl rfl rfl ?_
    obtain ⟨q14, h⟩ := h
    refine pn_iald 148 14 (pr_12_24 o0) q14 rfl rfl ?_
    obtain ⟨q15, h⟩ := h
    refine pn_iast 149 16 (pr_12_23 o0)  q15 rfl rfl (fun M16 hM16 => ?_)
    replace h := h M16 hM16
    refine pj_aload_n 150 0 rfl rfl rfl rfl ?_
    refine pn_getr 153 12 23 hg o0 (pr_12_23 o0).2 rfl pfX12_55 rfl rfl ?_
    refine pj_aload_n 154 0 rfl rfl rfl rfl ?_
    refine pn_getr 157 12 24 hg o0 (pr_12_24 o0).2 rfl pfX12_58 rfl rfl ?_
    refine pj_iload 159 3 rfl rfl rfl ?_
    obtain ⟨q17, h⟩ := h
    refine pn_iald 160 14 (pr_12_24 o0) q17 rfl rfl ?_
    refine pj_iload_n 161 2 rfl rfl rfl rfl ?_
    obtain ⟨q18, h⟩ := h
    refine pn_iast 162 16 (pr_12_23 o0)  q18 rfl rfl (fun M19 hM19 => ?_)
    replace h := h M19 hM19
    refine pj_iload 164 3 rfl rfl rfl ?_
    refine pj_istore_n 165 (ls' := [(0, .ref r0), (1, .int (pj_I x5)), (2, .int (pj_I x2)), (5, .int (pj_I x5))]) rfl rfl (by decide) rfl rfl ?_
    refine pj_iinc 168 2 (ls' := [(0, .ref r0), (1, .int (pj_I x5)), (2, .int (pj_I (x2 + 1))), (5, .int (pj_I x5))]) rfl rfl (by decide) rfl rfl ?_
    refine pj_goto 25 rfl (by decide) ?_
    refine pn_sub [0, 1, 2] rfl ?_
    exact hk25 _ _ _ h
  · replace h := h.2 hc
    refine pj_goto 165 rfl (by decide) ?_
    refine pj_iinc 168 2 (ls' := [(0, .ref r0), (1, .int (pj_I x1)), (2, .int (pj_I (x2 + 1))), (5, .int (pj_I x5))]) rfl rfl (by decide) rfl rfl ?_
    refine pj_goto 25 rfl (by decide) ?_
    refine pn_sub [0, 1, 2] rfl ?_
    exact hk25 _ _ _ h
set_option maxRecDepth 20000 in
set_option maxHeartbeats 4000000 in
theorem s_X12_layMates_90b {l : Launch} {g : pj_G} (hg : pj_ph g = true) {r0 : Nat} {x1 : Int} {x2 : Int} {x4 : Int} {x5 : Int} {M : pj_M} {Q : pj_M → Prop} {k25 : Int → Int → pj_M → Prop} {k90 : Int → pj_M → Prop} (o0 : pj_ob r0 12) (hk25 : ∀ (x1 : Int) (x2 : Int) (M : pj_M), k25 x1 x2 M → pj_R l g mdX12_layMates pj_T (pj_Zm g mdX12_layMates (pj_qv Q)) pj_NK 0 0 25 [(0, .ref r0), (1, .int (pj_I x1)), (2, .int (pj_I x2))] [] M) (hk90 : ∀ (x5 : Int) (M : pj_M), k90 x5 M → pj_R l g mdX12_layMates pj_T (pj_Zm g mdX12_layMates (pj_qv Q)) pj_NK 0 0 90 [(0, .ref r0), (1, .int (pj_I x1)), (2, .int (pj_I x2)), (4, .int (pj_I x4)), (5, .int (pj_I x5))] [] M) (h : w_X12_layMates_90b r0 x1 x2 x4 k25 Q k90 x5 M) : pj_R l g mdX12_layMates pj_T (pj_Zm g mdX12_layMates (pj_qv Q)) pj_NK 0 0 90 [(0, .ref r0), (1, .int (pj_I x1)), (2, .int (pj_I x2)), (4, .int (pj_I x4)), (5, .int (pj_I x5))] [] M := by
  unfold w_X12_layMates_90b at h
  refine pj_iload 92 4 rfl rfl rfl ?_
  obtain ⟨q12, h⟩ := h
  refine pj_if_lt 128 95 rfl (by decide) rfl q12  (fun hc => ?_) (fun hc => ?_)
  · replace h := h.1 hc
    refine pn_sub [0, 1, 2, 4] rfl ?_
    exact s_X12_layMates_128 hg o0  hk25 h
  · replace h := h.2 hc
    refine pj_aload_n 96 0 rfl rfl rfl rfl ?_
    refine pj_aload_n 97 0 rfl rfl rfl rfl ?_
    refine pn_getr 100 12 0 hg o0 (pr_12_0 o0).2 rfl pfX12_9 rfl rfl ?_
    refine pj_bipush 102 rfl (by decide) rfl ?_
    refine pj_aload_n 103 0 rfl rfl rfl rfl ?_
    refine pn_getr 106 12 24 hg o0 (pr_12_24 o0).2 rfl pfX12_58 rfl rfl ?_
    refine pj_iload 108 4 rfl rfl rfl ?_
    obtain ⟨q20, h⟩ := h
    refine pn_iald 109 14 (pr_12_24 o0) q20 rfl rfl ?_
    refine pj_iadd 110 rfl rfl ?_
    refine pj_iconst 111 rfl rfl ?_
    refine pj_isub 112 rfl rfl ?_
    obtain ⟨q21, h⟩ := h
    refine pn_iald 113 95 (pr_12_0 o0) q21 rfl rfl ?_
    refine pj_iconst 114 rfl rfl ?_
    refine pn_callVi 117 12 [.int (pj_I (M (pj_rf r0 0) ((74 + (M (pj_rf r0 24) x5)) - 1))), .int (pj_I 0)] [] o0 (s_X12_pairOf hg o0 h) plX12_284 rfl rfl rfl rfl (Nat.le_of_ble_eq_true rfl) (by decide) (fun t23 M22 h => ?_)
    refine pj_iload 119 3 rfl rfl rfl ?_
    obtain ⟨q24, h⟩ := h
    obtain ⟨q25, h⟩ := h
    refine pj_icmp_eq 128 122 rfl (by decide) rfl q24 q25 (fun hc => ?_) (fun hc => ?_)
    · replace h := h.1 hc
      refine pn_sub [0, 1, 2, 4] rfl ?_
      exact s_X12_layMates_128 hg o0  hk25 h
    · replace h := h.2 hc
      refine pj_iinc 125 4 (ls' := [(0, .ref r0), (1, .int (pj_I x1)), (2, .int (pj_I x2)), (4, .int (pj_I x4)), (5, .int (pj_I (x5 + (-1))))]) rfl rfl (by decide) rfl rfl ?_
      refine pj_goto 90 rfl (by decide) ?_
      refine pn_sub [0, 1, 2, 3, 4] rfl ?_
      exact hk90 _ _ h
set_option maxRecDepth 20000 in
set_option maxHeartbeats 4000000 in
theorem s_X12_layMates_90 {l : Launch} {g : pj_G} (hg : pj_ph g = true) {r0 : Nat} {x1 : Int} {x2 : Int} {x4 : Int} {x5 : Int} {M : pj_M} {Q : pj_M → Prop} {k25 : Int → Int → pj_M → Prop} (o0 : pj_ob r0 12) (hk25 : ∀ (x1 : Int) (x2 : Int) (M : pj_M), k25 x1 x2 M → pj_R l g mdX12_layMates pj_T (pj_Zm g mdX12_layMates (pj_qv Q)) pj_NK 0 0 25 [(0, .ref r0), (1, .int (pj_I x1)), (2, .int (pj_I x2))] [] M) (h : w_X12_layMates_90 r0 x1 x2 x4 k25 Q x5 M) : pj_R l g mdX12_layMates pj_T (pj_Zm g mdX12_layMates (pj_qv Q)) pj_NK 0 0 90 [(0, .ref r0), (1, .int (pj_I x1)), (2, .int (pj_I x2)), (4, .int (pj_I x4)), (5, .int (pj_I x5))] [] M :=
  h (fun s => pj_R l g mdX12_layMates pj_T (pj_Zm g mdX12_layMates (pj_qv Q)) pj_NK 0 0 90 [(0, .ref r0), (1, .int (pj_I x1)), (2, .int (pj_I x2)), (4, .int (pj_I x4)), (5, .int (pj_I (s.1)))] [] s.2) (fun s hs => s_X12_layMates_90b hg o0 hk25 (fun _ _ q => q) hs)
set_option maxRecDepth 20000 in
set_option maxHeartbeats 4000000 in
theorem s_X12_layMates_68 {l : Launch} {g : pj_G} (hg : pj_ph g = true) {r0 : Nat} {x1 : Int} {x2 : Int} {x3 : Int} {M : pj_M} {Q : pj_M → Prop} {k25 : Int → Int → pj_M → Prop} (o0 : pj_ob r0 12) (hk25 : ∀ (x1 : Int) (x2 : Int) (M : pj_M), k25 x1 x2 M → pj_R l g mdX12_layMates pj_T (pj_Zm g mdX12_layMates (pj_qv Q)) pj_NK 0 0 25 [(0, .ref r0), (1, .int (pj_I x1)), (2, .int (pj_I x2))] [] M) (h : w_X12_layMates_68 r0 x1 x2 x3 k25 Q M) : pj_R l g mdX12_layMates pj_T (pj_Zm g mdX12_layMates (pj_qv Q)) pj_NK 0 0 68 [(0, .ref r0), (1, .int (pj_I x1)), (2, .int (pj_I x2)), (3, .int (pj_I x3))] [] M := by
  unfold w_X12_layMates_68 at h
  refine pj_aload_n 69 0 rfl rfl rfl rfl ?_
  refine pj_iload_n 70 3 rfl rfl rfl rfl ?_
  refine pj_iconst 71 rfl rfl ?_
  refine pn_callVi 74 12 [.int (pj_I x3), .int (pj_I 1)] [] o0 (s_X12_pairOf hg o0 h) plX12_284 rfl rfl rfl rfl (Nat.le_of_ble_eq_true rfl) (by decide) (fun t10 M9 h => ?_)
  refine pj_istore 76 (ls' := [(0, .ref r0), (1, .int (pj_I x1)), (2, .int (pj_I x2)), (3, .int (pj_I x3)), (4, .int (pj_I t10))]) rfl (by decide) rfl rfl ?_
  refine pj_iload 78 4 rfl rfl rfl ?_
  refine pj_iconst 79 rfl rfl ?_
  obtain ⟨q11, h⟩ := h
  refine pj_icmp_ne 85 82 rfl (by decide) rfl q11 (show pj_in (-1) by decide) (fun hc => ?_) (fun hc => ?_)
  · replace h := h.1 hc
    refine pj_iload_n 86 1 rfl rfl rfl rfl ?_
    refine pj_iconst 87 rfl rfl ?_
    refine pj_isub 88 rfl rfl ?_
    refine pj_istore 90 (ls' := [(0, .ref r0), (1, .int (pj_I x1)), (2, .int (pj_I x2)), (3, .int (pj_I x3)), (4, .int (pj_I t10)), (5, .int (pj_I (x1 - 1)))]) rfl (by decide) rfl rfl ?_
    refine pn_sub [0, 1, 2, 4, 5] rfl ?_
    exact s_X12_layMates_90 hg o0  hk25 h
  · replace h := h.2 (Classical.not_not.mp hc)
    refine pj_goto 165 rfl (by decide) ?_
    refine pj_iinc 168 2 (ls' := [(0, .ref r0), (1, .int (pj_I x1)), (2, .int (pj_I (x2 + 1))), (3, .int (pj_I x3)), (4, .int (pj_I t10))]) rfl rfl (by decide) rfl rfl ?_
    refine pj_goto 25 rfl (by decide) ?_
    refine pn_sub [0, 1, 2] rfl ?_
    exact hk25 _ _ _ h
set_option maxRecDepth 20000 in
set_option maxHeartbeats 4000000 in
theorem s_X12_layMates_25b {l : Launch} {g : pj_G} (hg : pj_ph g = true) {r0 : Nat} {x1 : Int} {x2 : Int} {M : pj_M} {Q : pj_M → Prop}  {k25 : Int → Int → pj_M → Prop} (o0 : pj_ob r0 12)  (hk25 : ∀ (x1 : Int) (x2 : Int) (M : pj_M), k25 x1 x2 M → pj_R l g mdX12_layMates pj_T (pj_Zm g mdX12_layMates (pj_qv Q)) pj_NK 0 0 25 [(0, .ref r0), (1, .int (pj_I x1)), (2, .int (pj_I x2))] [] M) (h : w_X12_layMates_25b r0  Q k25 x1 x2 M) : pj_R l g mdX12_layMates pj_T (pj_Zm g mdX12_layMates (pj_qv Q)) pj_NK 0 0 25 [(0, .ref r0), (1, .int (pj_I x1)), (2, .int (pj_I x2))] [] M := by
  unfold w_X12_layMates_25b at h
  refine pj_iload_n 26 2 rfl rfl rfl rfl ?_
  refine pj_aload_n 27 0 rfl rfl rfl rfl ?_
  refine pn_getr 30 12 0 hg o0 (pr_12_0 o0).2 rfl pfX12_9 rfl rfl ?_
  refine pj_bipush 32 rfl (by decide) rfl ?_
  refine pn_iald 33 95 (pr_12_0 o0) (show 0 ≤ (73 : Int) ∧ (73 : Int) < ((95 : Nat) : Int) by decide) rfl rfl ?_
  obtain ⟨q2, h⟩ := h
  obtain ⟨q3, h⟩ := h
  refine pj_icmp_gt 171 36 rfl (by decide) rfl q2 q3 (fun hc => ?_) (fun hc => ?_)
  · replace h := h.1 hc
    exact pn_vret h rfl rfl
  · replace h := h.2 hc
    refine pj_aload_n 37 0 rfl rfl rfl rfl ?_
    refine pn_getr 40 12 0 hg o0 (pr_12_0 o0).2 rfl pfX12_9 rfl rfl ?_
    refine pj_bipush 42 rfl (by decide) rfl ?_
    refine pj_iload_n 43 2 rfl rfl rfl rfl ?_
    refine pj_iadd 44 rfl rfl ?_
    refine pj_iconst 45 rfl rfl ?_
    refine pj_isub 46 rfl rfl ?_
    obtain ⟨q4, h⟩ := h
    refine pn_iald 47 95 (pr_12_0 o0) q4 rfl rfl ?_
    refine pn_nm (fun z5 hz5 => ?_)
    replace h := h z5 hz5
    refine pj_istore_n 48 (ls' := [(0, .ref r0), (1, .int (pj_I x1)), (2, .int (pj_I x2)), (3, .int (pj_I z5))]) rfl rfl (by decide) rfl rfl ?_
    refine pj_aload_n 49 0 rfl rfl rfl rfl ?_
    refine pj_iload_n 50 3 rfl rfl rfl rfl ?_
    refine pj_iconst 51 rfl rfl ?_
    refine pn_callVi 54 12 [.int (pj_I z5), .int (pj_I 0)] [] o0 (s_X12_pairOf hg o0 h) plX12_284 rfl rfl rfl rfl (Nat.le_of_ble_eq_true rfl) (by decide) (fun t7 M6 h => ?_)
    refine pj_iconst 55 rfl rfl ?_
    obtain ⟨q8, h⟩ := h
    refine pj_icmp_eq 68 58 rfl (by decide) rfl q8 (show pj_in (-1) by decide) (fun hc => ?_) (fun hc => ?_)
    · replace h := h.1 hc
      refine pn_sub [0, 1, 2, 3] rfl ?_
      exact s_X12_layMates_68 hg o0  hk25 h
    · replace h := h.2 hc
      refine pj_aload_n 59 0 rfl rfl rfl rfl ?_
      refine pn_getr 62 12 24 hg o0 (pr_12_24 o0).2 rfl pfX12_58 rfl rfl ?_
      refine pj_iload_n 63 1 rfl rfl rfl rfl ?_
      refine pj_iinc 66 1 (ls' := [(0, .ref r0), (1, .int (pj_I (x1 + 1))), (2, .int (pj_I x2)), (3, .int (pj_I z5))]) rfl rfl (by decide) rfl rfl ?_
      refine pj_iload_n 67 2 rfl rfl rfl rfl ?_
      obtain ⟨q26, h⟩ := h
      refine pn_iast 68 14 (pr_12_24 o0)  q26 rfl rfl (fun M27 hM27 => ?_)
      replace h := h M27 hM27
      refine pn_sub [0, 1, 2, 3] rfl ?_
      exact s_X12_layMates_68 hg o0  hk25 h
set_option maxRecDepth 20000 in
set_option maxHeartbeats 4000000 in
theorem s_X12_layMates_25 {l : Launch} {g : pj_G} (hg : pj_ph g = true) {r0 : Nat} {x1 : Int} {x2 : Int} {M : pj_M} {Q : pj_M → Prop}  (o0 : pj_ob r0 12)  (h : w_X12_layMates_25 r0  Q x1 x2 M) : pj_R l g mdX12_layMates pj_T (pj_Zm g mdX12_layMates (pj_qv Q)) pj_NK 0 0 25 [(0, .ref r0), (1, .int (pj_I x1)), (2, .int (pj_I x2))] [] M :=
  h (fun s => pj_R l g mdX12_layMates pj_T (pj_Zm g mdX12_layMates (pj_qv Q)) pj_NK 0 0 25 [(0, .ref r0), (1, .int (pj_I (s.1))), (2, .int (pj_I (s.2.1)))] [] s.2.2) (fun s hs => s_X12_layMates_25b hg o0  (fun _ _ _ q => q) hs)
set_option maxRecDepth 20000 in
set_option maxHeartbeats 4000000 in
theorem s_X12_layMates_4b {l : Launch} {g : pj_G} (hg : pj_ph g = true) {r0 : Nat} {x1 : Int} {x2 : Int} {M : pj_M} {Q : pj_M → Prop}  {k4 : Int → pj_M → Prop} (o0 : pj_ob r0 12)  (hk4 : ∀ (x2 : Int) (M : pj_M), k4 x2 M → pj_R l g mdX12_layMates pj_T (pj_Zm g mdX12_layMates (pj_qv Q)) pj_NK 0 0 4 [(0, .ref r0), (1, .int (pj_I x1)), (2, .int (pj_I x2))] [] M) (h : w_X12_layMates_4b r0 x1  Q k4 x2 M) : pj_R l g mdX12_layMates pj_T (pj_Zm g mdX12_layMates (pj_qv Q)) pj_NK 0 0 4 [(0, .ref r0), (1, .int (pj_I x1)), (2, .int (pj_I x2))] [] M := by
  unfold w_X12_layMates_4b at h
  refine pj_iload_n 5 2 rfl rfl rfl rfl ?_
  refine pj_bipush 7 rfl (by decide) rfl ?_
  obtain ⟨q1, h⟩ := h
  refine pj_icmp_ge 23 10 rfl (by decide) rfl q1 (show pj_in 16 by decide) (fun hc => ?_) (fun hc => ?_)
  · replace h := h.1 hc
    refine pj_iconst 24 rfl rfl ?_
    refine pj_istore_n 25 (ls' := [(0, .ref r0), (1, .int (pj_I x1)), (2, .int (pj_I 1))]) rfl rfl (by decide) rfl rfl ?_
    refine pn_sub [0, 1, 2] rfl ?_
    exact s_X12_layMates_25 hg o0   h
  · replace h := h.2 hc
    refine pj_aload_n 11 0 rfl rfl rfl rfl ?_
    refine pn_getr 14 12 23 hg o0 (pr_12_23 o0).2 rfl pfX12_55 rfl rfl ?_
    refine pj_iload_n 15 2 rfl rfl rfl rfl ?_
    refine pj_iconst 16 rfl rfl ?_
    obtain ⟨q28, h⟩ := h
    refine pn_iast 17 16 (pr_12_23 o0)  q28 rfl rfl (fun M29 hM29 => ?_)
    replace h := h M29 hM29
    refine pj_iinc 20 2 (ls' := [(0, .ref r0), (1, .int (pj_I x1)), (2, .int (pj_I (x2 + 1)))]) rfl rfl (by decide) rfl rfl ?_
    refine pj_goto 4 rfl (by decide) ?_
    refine pn_sub [0, 1, 2] rfl ?_
    exact hk4 _ _ h
set_option maxRecDepth 20000 in
set_option maxHeartbeats 4000000 in
theorem s_X12_layMates_4 {l : Launch} {g : pj_G} (hg : pj_ph g = true) {r0 : Nat} {x1 : Int} {x2 : Int} {M : pj_M} {Q : pj_M → Prop}  (o0 : pj_ob r0 12)  (h : w_X12_layMates_4 r0 x1  Q x2 M) : pj_R l g mdX12_layMates pj_T (pj_Zm g mdX12_layMates (pj_qv Q)) pj_NK 0 0 4 [(0, .ref r0), (1, .int (pj_I x1)), (2, .int (pj_I x2))] [] M :=
  h (fun s => pj_R l g mdX12_layMates pj_T (pj_Zm g mdX12_layMates (pj_qv Q)) pj_NK 0 0 4 [(0, .ref r0), (1, .int (pj_I x1)), (2, .int (pj_I (s.1)))] [] s.2) (fun s hs => s_X12_layMates_4b hg o0  (fun _ _ q => q) hs)
set_option maxRecDepth 20000 in
set_option maxHeartbeats 4000000 in
theorem s_X12_layMates {l : Launch} {g : pj_G} (hg : pj_ph g = true) {r0 : Nat} {M : pj_M} {Q : pj_M → Prop} (o0 : pj_ob r0 12) (h : w_X12_layMates r0 M Q) : pj_S l g mdX12_layMates [.ref r0] pj_NK M (pj_qv Q) := by
  refine pj_ofR (ls := [(0, .ref r0)]) gcX12_layMates (by decide) rfl (Nat.le_of_ble_eq_true rfl) rfl ?_
  unfold w_X12_layMates at h
  refine pj_iconst 1 rfl rfl ?_
  refine pj_istore_n 2 (ls' := [(0, .ref r0), (1, .int (pj_I 0))]) rfl rfl (by decide) rfl rfl ?_
  refine pj_iconst 3 rfl rfl ?_
  refine pj_istore_n 4 (ls' := [(0, .ref r0), (1, .int (pj_I 0)), (2, .int (pj_I 0))]) rfl rfl (by decide) rfl rfl ?_
  refine pn_sub [0, 1, 2] rfl ?_
  exact s_X12_layMates_4 hg o0   h
def w_X12_led (r0 : Nat) (M : pj_M) (Q : Int → pj_M → Prop) : Prop :=
  ∀ M1 : pj_M, M1 = pj_up M r0 5 0 → w_X12_layAll r0 (M1 (pj_rf r0 0) 73) M1 (fun (M2 : pj_M) => w_X12_layMates r0 M2 (fun (M4 : pj_M) => w_X12_layReport r0 1 M4 (fun (M6 : pj_M) => w_X12_tellPieces r0 M6 (fun (M8 : pj_M) => Q (M8 r0 22) M8))))
set_option maxRecDepth 20000 in
set_option maxHeartbeats 4000000 in
theorem s_X12_led {l : Launch} {g : pj_G} (hg : pj_ph g = true) {r0 : Nat} {M : pj_M} {Q : Int → pj_M → Prop} (o0 : pj_ob r0 12) (h : w_X12_led r0 M Q) : pj_S l g mdX12_led [.ref r0] pj_NK M (pj_qi Q) := by
  refine pj_ofR (ls := [(0, .ref r0)]) gcX12_led (by decide) rfl (Nat.le_of_ble_eq_true rfl) rfl ?_
  unfold w_X12_led at h
  refine pj_aload_n 1 0 rfl rfl rfl rfl ?_
  refine pj_iconst 2 rfl rfl ?_
  refine pn_puti 5 12 5 5 o0  rfl pfX12_88 rfl rfl rfl (fun M1 hM1 => ?_)
  replace h := h M1 hM1
  refine pj_aload_n 6 0 rfl rfl rfl rfl ?_
  refine pj_aload_n 7 0 rfl rfl rfl rfl ?_
  refine pn_getr 10 12 0 hg o0 (pr_12_0 o0).2 rfl pfX12_9 rfl rfl ?_
  refine pj_bipush 12 rfl (by decide) rfl ?_
  refine pn_iald 13 95 (pr_12_0 o0) (show 0 ≤ (73 : Int) ∧ (73 : Int) < ((95 : Nat) : Int) by decide) rfl rfl ?_
  refine pn_callVv 16 12 [.int (pj_I (M1 (pj_rf r0 0) 73))] [] o0 (s_X12_layAll hg o0 h) plX12_246 rfl rfl rfl rfl (Nat.le_of_ble_eq_true rfl) (by decide) (fun M2 h => ?_)
  refine pj_aload_n 17 0 rfl rfl rfl rfl ?_
  refine pn_callVv 20 12 [] [] o0 (s_X12_layMates hg o0 h) plX12_287 rfl rfl rfl rfl (Nat.le_of_ble_eq_true rfl) (by decide) (fun M4 h => ?_)
  refine pj_aload_n 21 0 rfl rfl rfl rfl ?_
  refine pj_iconst 22 rfl rfl ?_
  refine pn_callVv 25 12 [.int (pj_I 1)] [] o0 (s_X12_layReport hg o0 h) plX12_277 rfl rfl rfl rfl (Nat.le_of_ble_eq_true rfl) (by decide) (fun M6 h => ?_)
  refine pj_aload_n 26 0 rfl rfl rfl rfl ?_
  refine pn_callVv 29 12 [] [] o0 (s_X12_tellPieces hg o0 h) plX12_281 rfl rfl rfl rfl (Nat.le_of_ble_eq_true rfl) (by decide) (fun M8 h => ?_)
  refine pj_aload_n 30 0 rfl rfl rfl rfl ?_
  refine pn_geti 33 12 22 22 o0 rfl pfX12_268 (Or.inl rfl) rfl rfl ?_
  exact pn_iret h rfl rfl
def w_X12_least_37b (r0 : Nat) (x1 : Int) (k23 : Int → pj_M → Prop) (Q : Int → pj_M → Prop) (k37 : Int → pj_M → Prop) (x2 : Int) (M : pj_M) : Prop :=
  (pj_in x2) ∧ (pj_in ((M r0 14) + 2)) ∧ ((((M r0 14) + 2) < x2 → k23 (x1 + 1) M) ∧ (¬ ((M r0 14) + 2) < x2 → w_X12_isFit r0 x1 x2 M (fun (t12 : Int) (M11 : pj_M) => (pj_in t12) ∧ ((¬ t12 = 0 → k37 (x2 + 1) M11) ∧ (t12 = 0 → w_X12_isFit r0 (x1 + 1) x2 M11 (fun (t15 : Int) (M14 : pj_M) => (pj_in t15) ∧ ((t15 = 0 → k37 (x2 + 1) M14) ∧ (¬ t15 = 0 → w_X12_isFit r0 x1 (x2 - 1) M14 (fun (t18 : Int) (M17 : pj_M) => (pj_in t18) ∧ ((t18 = 0 → k37 (x2 + 1) M17) ∧ (¬ t18 = 0 → w_X12_put r0 x1 x2 M17 (fun (M20 : pj_M) => k37 (x2 + 1) M20))))))))))))
def w_X12_least_37 (r0 : Nat) (x1 : Int) (k23 : Int → pj_M → Prop) (Q : Int → pj_M → Prop) (x2 : Int) (M : pj_M) : Prop := pj_lp (fun (k : Int × pj_M → Prop) (s : Int × pj_M) => w_X12_least_37b r0 x1 k23 Q (fun (x2 : Int) (M : pj_M) => k (x2, M)) s.1 s.2) (x2, M)
def w_X12_least_23b (r0 : Nat)  (Q : Int → pj_M → Prop) (k23 : Int → pj_M → Prop) (x1 : Int) (M : pj_M) : Prop :=
  (pj_in x1) ∧ (pj_in ((M r0 14) + 2)) ∧ ((((M r0 14) + 2) < x1 → w_X12_tellPieces r0 M (fun (M7 : pj_M) => Q (M7 r0 22) M7)) ∧ (¬ ((M r0 14) + 2) < x1 → w_X12_least_37 r0 x1 k23 Q (x1 + 1) M))
def w_X12_least_23 (r0 : Nat)  (Q : Int → pj_M → Prop) (x1 : Int) (M : pj_M) : Prop := pj_lp (fun (k : Int × pj_M → Prop) (s : Int × pj_M) => w_X12_least_23b r0  Q (fun (x1 : Int) (M : pj_M) => k (x1, M)) s.1 s.2) (x1, M)
def w_X12_least (r0 : Nat) (M : pj_M) (Q : Int → pj_M → Prop) : Prop :=
  ∀ M1 : pj_M, M1 = pj_up M r0 5 0 → w_X12_layAll r0 (M1 (pj_rf r0 0) 73) M1 (fun (M2 : pj_M) => ∀ M4 : pj_M, M4 = pj_up M2 r0 22 0 → w_X12_least_23 r0  Q 0 M4)
set_option maxRecDepth 20000 in
set_option maxHeartbeats 4000000 in
theorem s_X12_least_37b {l : Launch} {g : pj_G} (hg : pj_ph g = true) {r0 : Nat} {x1 : Int} {x2 : Int} {M : pj_M} {Q : Int → pj_M → Prop} {k23 : Int → pj_M → Prop} {k37 : Int → pj_M → Prop} (o0 : pj_ob r0 12) (hk23 : ∀ (x1 : Int) (M : pj_M), k23 x1 M → pj_R l g mdX12_least pj_T (pj_Zm g mdX12_least (pj_qi Q)) pj_NK 0 0 23 [(0, .ref r0), (1, .int (pj_I x1))] [] M) (hk37 : ∀ (x2 : Int) (M : pj_M), k37 x2 M → pj_R l g mdX12_least pj_T (pj_Zm g mdX12_least (pj_qi Q)) pj_NK 0 0 37 [(0, .ref r0), (1, .int (pj_I x1)), (2, .int (pj_I x2))] [] M) (h : w_X12_least_37b r0 x1 k23 Q k37 x2 M) : pj_R l g mdX12_least pj_T (pj_Zm g mdX12_least (pj_qi Q)) pj_NK 0 0 37 [(0, .ref r0), (1, .int (pj_I x1)), (2, .int (pj_I x2))] [] M := by
  unfold w_X12_least_37b at h
  refine pj_iload_n 38 2 rfl rfl rfl rfl ?_
  refine pj_aload_n 39 0 rfl rfl rfl rfl ?_
  refine pn_geti 42 12 14 14 o0 rfl pfX12_214 (Or.inl rfl) rfl rfl ?_
  refine pj_iconst 43 rfl rfl ?_
  refine pj_iadd 44 rfl rfl ?_
  obtain ⟨q9, h⟩ := h
  obtain ⟨q10, h⟩ := h
  refine pj_icmp_gt 90 47 rfl (by decide) rfl q9 q10 (fun hc => ?_) (fun hc => ?_)
  · replace h := h.1 hc
    refine pj_iinc 93 1 (ls' := [(0, .ref r0), (1, .int (pj_I (x1 + 1))), (2, .int (pj_I x2))]) rfl rfl (by decide) rfl rfl ?_
    refine pj_goto 23 rfl (by decide) ?_
    refine pn_sub [0, 1] rfl ?_
    exact hk23 _ _ h
  · replace h := h.2 hc
    refine pj_aload_n 48 0 rfl rfl rfl rfl ?_
    refine pj_iload_n 49 1 rfl rfl rfl rfl ?_
    refine pj_iload_n 50 2 rfl rfl rfl rfl ?_
    refine pn_callVi 53 12 [.int (pj_I x1), .int (pj_I x2)] [] o0 (s_X12_isFit hg o0 h) plX12_249 rfl rfl rfl rfl (Nat.le_of_ble_eq_true rfl) (by decide) (fun t12 M11 h => ?_)
    obtain ⟨q13, h⟩ := h
    refine pj_if_ne 84 56 rfl (by decide) rfl q13  (fun hc => ?_) (fun hc => ?_)
    · replace h := h.1 hc
      refine pj_iinc 87 2 (ls' := [(0, .ref r0), (1, .int (pj_I x1)), (2, .int (pj_I (x2 + 1)))]) rfl rfl (by decide) rfl rfl ?_
      refine pj_goto 37 rfl (by decide) ?_
      refine pn_sub [0, 1, 2] rfl ?_
      exact hk37 _ _ h
    · replace h := h.2 (Classical.not_not.mp hc)
      refine pj_aload_n 57 0 rfl rfl rfl rfl ?_
      refine pj_iload_n 58 1 rfl rfl rfl rfl ?_
      refine pj_iconst 59 rfl rfl ?_
      refine pj_iadd 60 rfl rfl ?_
      refine pj_iload_n 61 2 rfl rfl rfl rfl ?_
      refine pn_callVi 64 12 [.int (pj_I (x1 + 1)), .int (pj_I x2)] [] o0 (s_X12_isFit hg o0 h) plX12_249 rfl rfl rfl rfl (Nat.le_of_ble_eq_true rfl) (by decide) (fun t15 M14 h => ?_)
      obtain ⟨q16, h⟩ := h
      refine pj_if_eq 84 67 rfl (by decide) rfl q16  (fun hc => ?_) (fun hc => ?_)
      · replace h := h.1 hc
        refine pj_iinc 87 2 (ls' := [(0, .ref r0), (1, .int (pj_I x1)), (2, .int (pj_I (x2 + 1)))]) rfl rfl (by decide) rfl rfl ?_
        refine pj_goto 37 rfl (by decide) ?_
        refine pn_sub [0, 1, 2] rfl ?_
        exact hk37 _ _ h
      · replace h := h.2 hc
        refine pj_aload_n 68 0 rfl rfl rfl rfl ?_
        refine pj_iload_n 69 1 rfl rfl rfl rfl ?_
        refine pj_iload_n 70 2 rfl rfl rfl rfl ?_
        refine pj_iconst 71 rfl rfl ?_
        refine pj_isub 72 rfl rfl ?_
        refine pn_callVi 75 12 [.int (pj_I x1), .int (pj_I (x2 - 1))] [] o0 (s_X12_isFit hg o0 h) plX12_249 rfl rfl rfl rfl (Nat.le_of_ble_eq_true rfl) (by decide) (fun t18 M17 h => ?_)
        obtain ⟨q19, h⟩ := h
        refine pj_if_eq 84 78 rfl (by decide) rfl q19  (fun hc => ?_) (fun hc => ?_)
        · replace h := h.1 hc
          refine pj_iinc 87 2 (ls' := [(0, .ref r0), (1, .int (pj_I x1)), (2, .int (pj_I (x2 + 1)))]) rfl rfl (by decide) rfl rfl ?_
          refine pj_goto 37 rfl (by decide) ?_
          refine pn_sub [0, 1, 2] rfl ?_
          exact hk37 _ _ h
        · replace h := h.2 hc
          refine pj_aload_n 79 0 rfl rfl rfl rfl ?_
          refine pj_iload_n 80 1 rfl rfl rfl rfl ?_
          refine pj_iload_n 81 2 rfl rfl rfl rfl ?_
          refine pn_callVv 84 12 [.int (pj_I x1), .int (pj_I x2)] [] o0 (s_X12_put hg o0 h) plX12_271 rfl rfl rfl rfl (Nat.le_of_ble_eq_true rfl) (by decide) (fun M20 h => ?_)
          refine pj_iinc 87 2 (ls' := [(0, .ref r0), (1, .int (pj_I x1)), (2, .int (pj_I (x2 + 1)))]) rfl rfl (by decide) rfl rfl ?_
          refine pj_goto 37 rfl (by decide) ?_
          refine pn_sub [0, 1, 2] rfl ?_
          exact hk37 _ _ h
set_option maxRecDepth 20000 in
set_option maxHeartbeats 4000000 in
theorem s_X12_least_37 {l : Launch} {g : pj_G} (hg : pj_ph g = true) {r0 : Nat} {x1 : Int} {x2 : Int} {M : pj_M} {Q : Int → pj_M → Prop} {k23 : Int → pj_M → Prop} (o0 : pj_ob r0 12) (hk23 : ∀ (x1 : Int) (M : pj_M), k23 x1 M → pj_R l g mdX12_least pj_T (pj_Zm g mdX12_least (pj_qi Q)) pj_NK 0 0 23 [(0, .ref r0), (1, .int (pj_I x1))] [] M) (h : w_X12_least_37 r0 x1 k23 Q x2 M) : pj_R l g mdX12_least pj_T (pj_Zm g mdX12_least (pj_qi Q)) pj_NK 0 0 37 [(0, .ref r0), (1, .int (pj_I x1)), (2, .int (pj_I x2))] [] M :=
  h (fun s => pj_R l g mdX12_least pj_T (pj_Zm g mdX12_least (pj_qi Q)) pj_NK 0 0 37 [(0, .ref r0), (1, .int (pj_I x1)), (2, .int (pj_I (s.1)))] [] s.2) (fun s hs => s_X12_least_37b hg o0 hk23 (fun _ _ q => q) hs)
set_option maxRecDepth 20000 in
set_option maxHeartbeats 4000000 in
theorem s_X12_least_23b {l : Launch} {g : pj_G} (hg : pj_ph g = true) {r0 : Nat} {x1 : Int} {M : pj_M} {Q : Int → pj_M → Prop}  {k23 : Int → pj_M → Prop} (o0 : pj_ob r0 12)  (hk23 : ∀ (x1 : Int) (M : pj_M), k23 x1 M → pj_R l g mdX12_least pj_T (pj_Zm g mdX12_least (pj_qi Q)) pj_NK 0 0 23 [(0, .ref r0), (1, .int (pj_I x1))] [] M) (h : w_X12_least_23b r0  Q k23 x1 M) : pj_R l g mdX12_least pj_T (pj_Zm g mdX12_least (pj_qi Q)) pj_NK 0 0 23 [(0, .ref r0), (1, .int (pj_I x1))] [] M := by
  unfold w_X12_least_23b at h
  refine pj_iload_n 24 1 rfl rfl rfl rfl ?_
  refine pj_aload_n 25 0 rfl rfl rfl rfl ?_
  refine pn_geti 28 12 14 14 o0 rfl pfX12_214 (Or.inl rfl) rfl rfl ?_
  refine pj_iconst 29 rfl rfl ?_
  refine pj_iadd 30 rfl rfl ?_
  obtain ⟨q5, h⟩ := h
  obtain ⟨q6, h⟩ := h
  refine pj_icmp_gt 96 33 rfl (by decide) rfl q5 q6 (fun hc => ?_) (fun hc => ?_)
  · replace h := h.1 hc
    refine pj_aload_n 97 0 rfl rfl rfl rfl ?_
    refine pn_callVv 100 12 [] [] o0 (s_X12_tellPieces hg o0 h) plX12_281 rfl rfl rfl rfl (Nat.le_of_ble_eq_true rfl) (by decide) (fun M7 h => ?_)
    refine pj_aload_n 101 0 rfl rfl rfl rfl ?_
    refine pn_geti 104 12 22 22 o0 rfl pfX12_268 (Or.inl rfl) rfl rfl ?_
    exact pn_iret h rfl rfl
  · replace h := h.2 hc
    refine pj_iload_n 34 1 rfl rfl rfl rfl ?_
    refine pj_iconst 35 rfl rfl ?_
    refine pj_iadd 36 rfl rfl ?_
    refine pj_istore_n 37 (ls' := [(0, .ref r0), (1, .int (pj_I x1)), (2, .int (pj_I (x1 + 1)))]) rfl rfl (by decide) rfl rfl ?_
    refine pn_sub [0, 1, 2] rfl ?_
    exact s_X12_least_37 hg o0  hk23 h
set_option maxRecDepth 20000 in
set_option maxHeartbeats 4000000 in
theorem s_X12_least_23 {l : Launch} {g : pj_G} (hg : pj_ph g = true) {r0 : Nat} {x1 : Int} {M : pj_M} {Q : Int → pj_M → Prop}  (o0 : pj_ob r0 12)  (h : w_X12_least_23 r0  Q x1 M) : pj_R l g mdX12_least pj_T (pj_Zm g mdX12_least (pj_qi Q)) pj_NK 0 0 23 [(0, .ref r0), (1, .int (pj_I x1))] [] M :=
  h (fun s => pj_R l g mdX12_least pj_T (pj_Zm g mdX12_least (pj_qi Q)) pj_NK 0 0 23 [(0, .ref r0), (1, .int (pj_I (s.1)))] [] s.2) (fun s hs => s_X12_least_23b hg o0  (fun _ _ q => q) hs)
set_option maxRecDepth 20000 in
set_option maxHeartbeats 4000000 in
theorem s_X12_least {l : Launch} {g : pj_G} (hg : pj_ph g = true) {r0 : Nat} {M : pj_M} {Q : Int → pj_M → Prop} (o0 : pj_ob r0 12) (h : w_X12_least r0 M Q) : pj_S l g mdX12_least [.ref r0] pj_NK M (pj_qi Q) := by
  refine pj_ofR (ls := [(0, .ref r0)]) gcX12_least (by decide) rfl (Nat.le_of_ble_eq_true rfl) rfl ?_
  unfold w_X12_least at h
  refine pj_aload_n 1 0 rfl rfl rfl rfl ?_
  refine pj_iconst 2 rfl rfl ?_
  refine pn_puti 5 12 5 5 o0  rfl pfX12_88 rfl rfl rfl (fun M1 hM1 => ?_)
  replace h := h M1 hM1
  refine pj_aload_n 6 0 rfl rfl rfl rfl ?_
  refine pj_aload_n 7 0 rfl rfl rfl rfl ?_
  refine pn_getr 10 12 0 hg o0 (pr_12_0 o0).2 rfl pfX12_9 rfl rfl ?_
  refine pj_bipush 12 rfl (by decide) rfl ?_
  refine pn_iald 13 95 (pr_12_0 o0) (show 0 ≤ (73 : Int) ∧ (73 : Int) < ((95 : Nat) : Int) by decide) rfl rfl ?_
  refine pn_callVv 16 12 [.int (pj_I (M1 (pj_rf r0 0) 73))] [] o0 (s_X12_layAll hg o0 h) plX12_246 rfl rfl rfl rfl (Nat.le_of_ble_eq_true rfl) (by decide) (fun M2 h => ?_)
  refine pj_aload_n 17 0 rfl rfl rfl rfl ?_
  refine pj_iconst 18 rfl rfl ?_
  refine pn_puti 21 12 22 22 o0  rfl pfX12_268 rfl rfl rfl (fun M4 hM4 => ?_)
  replace h := h M4 hM4
  refine pj_iconst 22 rfl rfl ?_
  refine pj_istore_n 23 (ls' := [(0, .ref r0), (1, .int (pj_I 0))]) rfl rfl (by decide) rfl rfl ?_
  refine pn_sub [0, 1] rfl ?_
  exact s_X12_least_23 hg o0   h
def w_X12_mate_59 (r0 : Nat) (x1 : Int) (u0 : Nat) (y1 : Int)  (Q : Int → pj_M → Prop) (M : pj_M) : Prop :=
  w_X12_tell u0 y1 M (fun (M13 : pj_M) => ((0 : Int) ≤ x1 ∧ x1 < 16) ∧ Q (M13 (pj_rf r0 23) x1) M13)
def w_X12_mate (r0 : Nat) (x1 : Int) (M : pj_M) (Q : Int → pj_M → Prop) : Prop :=
  ∀ M1 : pj_M, M1 = pj_up M r0 5 0 → w_X12_in x1 1 (M1 (pj_rf r0 0) 73) M1 (fun (t3 : Int) (M2 : pj_M) => (pj_in t3) ∧ ((¬ t3 = 0 → w_X12_layMates r0 M2 (fun (M5 : pj_M) => ((0 : Int) ≤ x1 ∧ x1 < 16) ∧ (pj_in (M5 (pj_rf r0 23) x1)) ∧ ((¬ (M5 (pj_rf r0 23) x1) = 0 → ∀ M9 : pj_M, M9 = pj_up M5 r0 4 0 → ((0 : Int) ≤ x1 ∧ x1 < 16) ∧ (pj_in (M9 (pj_rf r0 23) x1)) ∧ (pj_in x1) ∧ ((x1 ≤ (M9 (pj_rf r0 23) x1) → w_X12_mate_59 r0 x1 r0 0  Q M9) ∧ (¬ x1 ≤ (M9 (pj_rf r0 23) x1) → w_X12_mate_59 r0 x1 r0 1  Q M9))) ∧ ((M5 (pj_rf r0 23) x1) = 0 → Q (-2) M5)))) ∧ (t3 = 0 → Q (-1) M2)))
set_option maxRecDepth 20000 in
set_option maxHeartbeats 4000000 in
theorem s_X12_mate_59 {l : Launch} {g : pj_G} (hg : pj_ph g = true) {r0 : Nat} {x1 : Int} {u0 : Nat} {y1 : Int} {M : pj_M} {Q : Int → pj_M → Prop}  (o0 : pj_ob r0 12) (ou0 : pj_ob u0 12)  (h : w_X12_mate_59 r0 x1 u0 y1  Q M) : pj_R l g mdX12_mate pj_T (pj_Zm g mdX12_mate (pj_qi Q)) pj_NK 0 0 59 [(0, .ref r0), (1, .int (pj_I x1))] [.long (pj_L y1), .ref u0] M := by
  unfold w_X12_mate_59 at h
  refine pn_callVv 62 12 [.long (pj_L y1)] [] ou0 (s_X12_tell hg ou0 h) plX12_260 rfl rfl rfl rfl (Nat.le_of_ble_eq_true rfl) (by decide) (fun M13 h => ?_)
  refine pj_aload_n 63 0 rfl rfl rfl rfl ?_
  refine pn_getr 66 12 23 hg o0 (pr_12_23 o0).2 rfl pfX12_55 rfl rfl ?_
  refine pj_iload_n 67 1 rfl rfl rfl rfl ?_
  obtain ⟨q15, h⟩ := h
  refine pn_iald 68 16 (pr_12_23 o0) q15 rfl rfl ?_
  exact pn_iret h rfl rfl
set_option maxRecDepth 20000 in
set_option maxHeartbeats 4000000 in
theorem s_X12_mate {l : Launch} {g : pj_G} (hg : pj_ph g = true) {r0 : Nat} {x1 : Int} {M : pj_M} {Q : Int → pj_M → Prop} (o0 : pj_ob r0 12) (h : w_X12_mate r0 x1 M Q) : pj_S l g mdX12_mate [.ref r0, .int (pj_I x1)] pj_NK M (pj_qi Q) := by
  refine pj_ofR (ls := [(0, .ref r0), (1, .int (pj_I x1))]) gcX12_mate (by decide) rfl (Nat.le_of_ble_eq_true rfl) rfl ?_
  unfold w_X12_mate at h
  refine pj_aload_n 1 0 rfl rfl rfl rfl ?_
  refine pj_iconst 2 rfl rfl ?_
  refine pn_puti 5 12 5 5 o0  rfl pfX12_88 rfl rfl rfl (fun M1 hM1 => ?_)
  replace h := h M1 hM1
  refine pj_iload_n 6 1 rfl rfl rfl rfl ?_
  refine pj_iconst 7 rfl rfl ?_
  refine pj_aload_n 8 0 rfl rfl rfl rfl ?_
  refine pn_getr 11 12 0 hg o0 (pr_12_0 o0).2 rfl pfX12_9 rfl rfl ?_
  refine pj_bipush 13 rfl (by decide) rfl ?_
  refine pn_iald 14 95 (pr_12_0 o0) (show 0 ≤ (73 : Int) ∧ (73 : Int) < ((95 : Nat) : Int) by decide) rfl rfl ?_
  refine pn_callSi 17 [.int (pj_I x1), .int (pj_I 1), .int (pj_I (M1 (pj_rf r0 0) 73))] [] (s_X12_in hg  h) plX12_98 rfl rfl rfl rfl (Nat.le_of_ble_eq_true rfl) (by decide) (fun t3 M2 h => ?_)
  obtain ⟨q4, h⟩ := h
  refine pj_if_ne 22 20 rfl (by decide) rfl q4  (fun hc => ?_) (fun hc => ?_)
  · replace h := h.1 hc
    refine pj_aload_n 23 0 rfl rfl rfl rfl ?_
    refine pn_callVv 26 12 [] [] o0 (s_X12_layMates hg o0 h) plX12_287 rfl rfl rfl rfl (Nat.le_of_ble_eq_true rfl) (by decide) (fun M5 h => ?_)
    refine pj_aload_n 27 0 rfl rfl rfl rfl ?_
    refine pn_getr 30 12 23 hg o0 (pr_12_23 o0).2 rfl pfX12_55 rfl rfl ?_
    refine pj_iload_n 31 1 rfl rfl rfl rfl ?_
    obtain ⟨q7, h⟩ := h
    refine pn_iald 32 16 (pr_12_23 o0) q7 rfl rfl ?_
    obtain ⟨q8, h⟩ := h
    refine pj_if_ne 38 35 rfl (by decide) rfl q8  (fun hc => ?_) (fun hc => ?_)
    · replace h := h.1 hc
      refine pj_aload_n 39 0 rfl rfl rfl rfl ?_
      refine pj_iconst 40 rfl rfl ?_
      refine pn_puti 43 12 4 4 o0  rfl pfX12_92 rfl rfl rfl (fun M9 hM9 => ?_)
      replace h := h M9 hM9
      refine pj_aload_n 44 0 rfl rfl rfl rfl ?_
      refine pj_aload_n 45 0 rfl rfl rfl rfl ?_
      refine pn_getr 48 12 23 hg o0 (pr_12_23 o0).2 rfl pfX12_55 rfl rfl ?_
      refine pj_iload_n 49 1 rfl rfl rfl rfl ?_
      obtain ⟨q10, h⟩ := h
      refine pn_iald 50 16 (pr_12_23 o0) q10 rfl rfl ?_
      refine pj_iload_n 51 1 rfl rfl rfl rfl ?_
      obtain ⟨q11, h⟩ := h
      obtain ⟨q12, h⟩ := h
      refine pj_icmp_ge 58 54 rfl (by decide) rfl q11 q12 (fun hc => ?_) (fun hc => ?_)
      · replace h := h.1 hc
        refine pj_lconst 59 0 rfl (by decide) rfl ?_
        refine pn_sub [0, 1] rfl ?_
        exact s_X12_mate_59 hg o0 o0  h
      · replace h := h.2 hc
        refine pj_lconst 55 1 rfl (by decide) rfl ?_
        refine pj_goto 59 rfl (by decide) ?_
        refine pn_sub [0, 1] rfl ?_
        exact s_X12_mate_59 hg o0 o0  h
    · replace h := h.2 (Classical.not_not.mp hc)
      refine pj_bipush 37 rfl (by decide) rfl ?_
      exact pn_iret h rfl rfl
  · replace h := h.2 (Classical.not_not.mp hc)
    refine pj_iconst 21 rfl rfl ?_
    exact pn_iret h rfl rfl
def w_X12_cost_31b (r0 : Nat) (x1 : Int) (x2 : Int) (x3 : Int)  (Q : Int → pj_M → Prop) (k31 : Int → pj_M → Prop) (x4 : Int) (M : pj_M) : Prop :=
  (pj_in x4) ∧ (pj_in x3) ∧ ((x3 ≤ x4 → Q (x3 - x2) M) ∧ (¬ x3 ≤ x4 → ((0 : Int) ≤ x4 ∧ x4 < 16) ∧ (pj_in (M (pj_rf r0 13) x4)) ∧ (pj_in x1) ∧ ((¬ (M (pj_rf r0 13) x4) = x1 → k31 (x4 + 1) M) ∧ ((M (pj_rf r0 13) x4) = x1 → Q ((x3 - x2) - 1) M))))
def w_X12_cost_31 (r0 : Nat) (x1 : Int) (x2 : Int) (x3 : Int)  (Q : Int → pj_M → Prop) (x4 : Int) (M : pj_M) : Prop := pj_lp (fun (k : Int × pj_M → Prop) (s : Int × pj_M) => w_X12_cost_31b r0 x1 x2 x3  Q (fun (x4 : Int) (M : pj_M) => k (x4, M)) s.1 s.2) (x4, M)
def w_X12_cost (r0 : Nat) (x1 : Int) (x2 : Int) (x3 : Int) (M : pj_M) (Q : Int → pj_M → Prop) : Prop :=
  (pj_in x1) ∧ ((x1 < 8 → (pj_in x2) ∧ (pj_in x3) ∧ ((¬ x2 = x3 → w_X12_cost_31 r0 x1 x2 x3  Q x2 M) ∧ (x2 = x3 → Q 1 M))) ∧ (¬ x1 < 8 → w_X12_cell (x1 - 8) x2 x3 M (fun (t10 : Int) (M9 : pj_M) => ((0 : Int) ≤ t10 ∧ t10 < 1536) ∧ Q (M9 (pj_rf r0 25) t10) M9)))
set_option maxRecDepth 20000 in
set_option maxHeartbeats 4000000 in
theorem s_X12_cost_31b {l : Launch} {g : pj_G} (hg : pj_ph g = true) {r0 : Nat} {x1 : Int} {x2 : Int} {x3 : Int} {x4 : Int} {M : pj_M} {Q : Int → pj_M → Prop}  {k31 : Int → pj_M → Prop} (o0 : pj_ob r0 12)  (hk31 : ∀ (x4 : Int) (M : pj_M), k31 x4 M → pj_R l g mdX12_cost pj_T (pj_Zm g mdX12_cost (pj_qi Q)) pj_NK 0 0 31 [(0, .ref r0), (1, .int (pj_I x1)), (2, .int (pj_I x2)), (3, .int (pj_I x3)), (4, .int (pj_I x4))] [] M) (h : w_X12_cost_31b r0 x1 x2 x3  Q k31 x4 M) : pj_R l g mdX12_cost pj_T (pj_Zm g mdX12_cost (pj_qi Q)) pj_NK 0 0 31 [(0, .ref r0), (1, .int (pj_I x1)), (2, .int (pj_I x2)), (3, .int (pj_I x3)), (4, .int (pj_I x4))] [] M := by
  unfold w_X12_cost_31b at h
  refine pj_iload 33 4 rfl rfl rfl ?_
  refine pj_iload_n 34 3 rfl rfl rfl rfl ?_
  obtain ⟨q4, h⟩ := h
  obtain ⟨q5, h⟩ := h
  refine pj_icmp_ge 60 37 rfl (by decide) rfl q4 q5 (fun hc => ?_) (fun hc => ?_)
  · replace h := h.1 hc
    refine pj_iload_n 61 3 rfl rfl rfl rfl ?_
    refine pj_iload_n 62 2 rfl rfl rfl rfl ?_
    refine pj_isub 63 rfl rfl ?_
    exact pn_iret h rfl rfl
  · replace h := h.2 hc
    refine pj_aload_n 38 0 rfl rfl rfl rfl ?_
    refine pn_getr 41 12 13 hg o0 (pr_12_13 o0).2 rfl pfX12_30 rfl rfl ?_
    refine pj_iload 43 4 rfl rfl rfl ?_
    obtain ⟨q6, h⟩ := h
    refine pn_iald 44 16 (pr_12_13 o0) q6 rfl rfl ?_
    refine pj_iload_n 45 1 rfl rfl rfl rfl ?_
    obtain ⟨q7, h⟩ := h
    obtain ⟨q8, h⟩ := h
    refine pj_icmp_ne 54 48 rfl (by decide) rfl q7 q8 (fun hc => ?_) (fun hc => ?_)
    · replace h := h.1 hc
      refine pj_iinc 57 4 (ls' := [(0, .ref r0), (1, .int (pj_I x1)), (2, .int (pj_I x2)), (3, .int (pj_I x3)), (4, .int (pj_I (x4 + 1)))]) rfl rfl (by decide) rfl rfl ?_
      refine pj_goto 31 rfl (by decide) ?_
      refine pn_sub [0, 1, 2, 3, 4] rfl ?_
      exact hk31 _ _ h
    · replace h := h.2 (Classical.not_not.mp hc)
      refine pj_iload_n 49 3 rfl rfl rfl rfl ?_
      refine pj_iload_n 50 2 rfl rfl rfl rfl ?_
      refine pj_isub 51 rfl rfl ?_
      refine pj_iconst 52 rfl rfl ?_
      refine pj_isub 53 rfl rfl ?_
      exact pn_iret h rfl rfl
set_option maxRecDepth 20000 in
set_option maxHeartbeats 4000000 in
theorem s_X12_cost_31 {l : Launch} {g : pj_G} (hg : pj_ph g = true) {r0 : Nat} {x1 : Int} {x2 : Int} {x3 : Int} {x4 : Int} {M : pj_M} {Q : Int → pj_M → Prop}  (o0 : pj_ob r0 12)  (h : w_X12_cost_31 r0 x1 x2 x3  Q x4 M) : pj_R l g mdX12_cost pj_T (pj_Zm g mdX12_cost (pj_qi Q)) pj_NK 0 0 31 [(0, .ref r0), (1, .int (pj_I x1)), (2, .int (pj_I x2)), (3, .int (pj_I x3)), (4, .int (pj_I x4))] [] M :=
  h (fun s => pj_R l g mdX12_cost pj_T (pj_Zm g mdX12_cost (pj_qi Q)) pj_NK 0 0 31 [(0, .ref r0), (1, .int (pj_I x1)), (2, .int (pj_I x2)), (3, .int (pj_I x3)), (4, .int (pj_I (s.1)))] [] s.2) (fun s hs => s_X12_cost_31b hg o0  (fun _ _ q => q) hs)
set_option maxRecDepth 20000 in
set_option maxHeartbeats 4000000 in
theorem s_X12_cost {l : Launch} {g : pj_G} (hg : pj_ph g = true) {r0 : Nat} {x1 : Int} {x2 : Int} {x3 : Int} {M : pj_M} {Q : Int → pj_M → Prop} (o0 : pj_ob r0 12) (h : w_X12_cost r0 x1 x2 x3 M Q) : pj_S l g mdX12_cost [.ref r0, .int (pj_I x1), .int (pj_I x2), .int (pj_I x3)] pj_NK M (pj_qi Q) := by
  refine pj_ofR (ls := [(0, .ref r0), (1, .int (pj_I x1)), (2, .int (pj_I x2)), (3, .int (pj_I x3))]) gcX12_cost (by decide) rfl (Nat.le_of_ble_eq_true rfl) rfl ?_
  unfold w_X12_cost at h
  refine pj_iload_n 1 1 rfl rfl rfl rfl ?_
  refine pj_bipush 3 rfl (by decide) rfl ?_
  obtain ⟨q1, h⟩ := h
  refine pj_icmp_lt 21 6 rfl (by decide) rfl q1 (show pj_in 8 by decide) (fun hc => ?_) (fun hc => ?_)
  · replace h := h.1 hc
    refine pj_iload_n 22 2 rfl rfl rfl rfl ?_
    refine pj_iload_n 23 3 rfl rfl rfl rfl ?_
    obtain ⟨q2, h⟩ := h
    obtain ⟨q3, h⟩ := h
    refine pj_icmp_ne 28 26 rfl (by decide) rfl q2 q3 (fun hc => ?_) (fun hc => ?_)
    · replace h := h.1 hc
      refine pj_iload_n 29 2 rfl rfl rfl rfl ?_
      refine pj_istore 31 (ls' := [(0, .ref r0), (1, .int (pj_I x1)), (2, .int (pj_I x2)), (3, .int (pj_I x3)), (4, .int (pj_I x2))]) rfl (by decide) rfl rfl ?_
      refine pn_sub [0, 1, 2, 3, 4] rfl ?_
      exact s_X12_cost_31 hg o0   h
    · replace h := h.2 (Classical.not_not.mp hc)
      refine pj_iconst 27 rfl rfl ?_
      exact pn_iret h rfl rfl
  · replace h := h.2 hc
    refine pj_aload_n 7 0 rfl rfl rfl rfl ?_
    refine pn_getr 10 12 25 hg o0 (pr_12_25 o0).2 rfl pfX12_61 rfl rfl ?_
    refine pj_iload_n 11 1 rfl rfl rfl rfl ?_
    refine pj_bipush 13 rfl (by decide) rfl ?_
    refine pj_isub 14 rfl rfl ?_
    refine pj_iload_n 15 2 rfl rfl rfl rfl ?_
    refine pj_iload_n 16 3 rfl rfl rfl rfl ?_
    refine pn_callSi 19 [.int (pj_I (x1 - 8)), .int (pj_I x2), .int (pj_I x3)] [.ref (pj_rf r0 25)] (s_X12_cell hg  h) plX12_183 rfl rfl rfl rfl (Nat.le_of_ble_eq_true rfl) (by decide) (fun t10 M9 h => ?_)
    obtain ⟨q11, h⟩ := h
    refine pn_iald 20 1536 (pr_12_25 o0) q11 rfl rfl ?_
    exact pn_iret h rfl rfl
def w_X12_costBy_159b (r0 : Nat) (x1 : Int) (x2 : Int) (x3 : Int) (x4 : Int) (k50 : Int → pj_M → Prop) (Q : Int → pj_M → Prop) (k159 : Int → pj_M → Prop) (x5 : Int) (M : pj_M) : Prop :=
  (pj_in x5) ∧ (pj_in x3) ∧ ((x3 < x5 → k50 (x4 + 1) M) ∧ (¬ x3 < x5 → ((0 : Int) ≤ x5 ∧ x5 < 16) ∧ ((0 : Int) ≤ x5 ∧ x5 < 16) ∧ ∀ M19 : pj_M, M19 = pj_up M (pj_rf r0 26) x5 (M (pj_rf r0 27) x5) → k159 (x5 + 1) M19))
def w_X12_costBy_159 (r0 : Nat) (x1 : Int) (x2 : Int) (x3 : Int) (x4 : Int) (k50 : Int → pj_M → Prop) (Q : Int → pj_M → Prop) (x5 : Int) (M : pj_M) : Prop := pj_lp (fun (k : Int × pj_M → Prop) (s : Int × pj_M) => w_X12_costBy_159b r0 x1 x2 x3 x4 k50 Q (fun (x5 : Int) (M : pj_M) => k (x5, M)) s.1 s.2) (x5, M)
def w_X12_costBy_98b (r0 : Nat) (x1 : Int) (x2 : Int) (x3 : Int) (x4 : Int) (x5 : Int) (k50 : Int → pj_M → Prop) (k88 : Int → pj_M → Prop) (Q : Int → pj_M → Prop) (k98 : Int → pj_M → Prop) (x6 : Int) (M : pj_M) : Prop :=
  (pj_in x6) ∧ (pj_in x3) ∧ ((x3 < x6 → k88 (x5 + 1) M) ∧ (¬ x3 < x6 → ((0 : Int) ≤ x6 ∧ x6 < 16) ∧ ((0 : Int) ≤ x5 ∧ x5 < 16) ∧ w_X12_symbolOf r0 x1 x4 M (fun (t25 : Int) (M24 : pj_M) => w_X12_cost r0 t25 x5 x6 M24 (fun (t27 : Int) (M26 : pj_M) => w_Jmin (M (pj_rf r0 27) x6) ((M (pj_rf r0 26) x5) + t27) M26 (fun (t29 : Int) (M28 : pj_M) => ((0 : Int) ≤ x6 ∧ x6 < 16) ∧ ∀ M31 : pj_M, M31 = pj_up M28 (pj_rf r0 27) x6 t29 → k98 (x6 + 1) M31)))))
def w_X12_costBy_98 (r0 : Nat) (x1 : Int) (x2 : Int) (x3 : Int) (x4 : Int) (x5 : Int) (k50 : Int → pj_M → Prop) (k88 : Int → pj_M → Prop) (Q : Int → pj_M → Prop) (x6 : Int) (M : pj_M) : Prop := pj_lp (fun (k : Int × pj_M → Prop) (s : Int × pj_M) => w_X12_costBy_98b r0 x1 x2 x3 x4 x5 k50 k88 Q (fun (x6 : Int) (M : pj_M) => k (x6, M)) s.1 s.2) (x6, M)
def w_X12_costBy_88b (r0 : Nat) (x1 : Int) (x2 : Int) (x3 : Int) (x4 : Int) (k50 : Int → pj_M → Prop) (Q : Int → pj_M → Prop) (k88 : Int → pj_M → Prop) (x5 : Int) (M : pj_M) : Prop :=
  (pj_in x5) ∧ (pj_in x3) ∧ ((x3 < x5 → w_X12_costBy_159 r0 x1 x2 x3 x4 k50 Q x2 M) ∧ (¬ x3 < x5 → w_X12_costBy_98 r0 x1 x2 x3 x4 x5 k50 k88 Q x5 M))
def w_X12_costBy_88 (r0 : Nat) (x1 : Int) (x2 : Int) (x3 : Int) (x4 : Int) (k50 : Int → pj_M → Prop) (Q : Int → pj_M → Prop) (x5 : Int) (M : pj_M) : Prop := pj_lp (fun (k : Int × pj_M → Prop) (s : Int × pj_M) => w_X12_costBy_88b r0 x1 x2 x3 x4 k50 Q (fun (x5 : Int) (M : pj_M) => k (x5, M)) s.1 s.2) (x5, M)
def w_X12_costBy_63b (r0 : Nat) (x1 : Int) (x2 : Int) (x3 : Int) (x4 : Int) (k50 : Int → pj_M → Prop) (Q : Int → pj_M → Prop) (k63 : Int → pj_M → Prop) (x5 : Int) (M : pj_M) : Prop :=
  (pj_in x5) ∧ (pj_in x3) ∧ ((x3 < x5 → w_X12_costBy_88 r0 x1 x2 x3 x4 k50 Q x2 M) ∧ (¬ x3 < x5 → ((0 : Int) ≤ x5 ∧ x5 < 16) ∧ ∀ M33 : pj_M, M33 = pj_up M (pj_rf r0 27) x5 1000000 → k63 (x5 + 1) M33))
def w_X12_costBy_63 (r0 : Nat) (x1 : Int) (x2 : Int) (x3 : Int) (x4 : Int) (k50 : Int → pj_M → Prop) (Q : Int → pj_M → Prop) (x5 : Int) (M : pj_M) : Prop := pj_lp (fun (k : Int × pj_M → Prop) (s : Int × pj_M) => w_X12_costBy_63b r0 x1 x2 x3 x4 k50 Q (fun (x5 : Int) (M : pj_M) => k (x5, M)) s.1 s.2) (x5, M)
def w_X12_costBy_50b (r0 : Nat) (x1 : Int) (x2 : Int) (x3 : Int)  (Q : Int → pj_M → Prop) (k50 : Int → pj_M → Prop) (x4 : Int) (M : pj_M) : Prop :=
  w_X12_longOf r0 x1 M (fun (t7 : Int) (M6 : pj_M) => (pj_in x4) ∧ (pj_in t7) ∧ ((t7 ≤ x4 → ((0 : Int) ≤ x3 ∧ x3 < 16) ∧ Q (M6 (pj_rf r0 26) x3) M6) ∧ (¬ t7 ≤ x4 → w_X12_costBy_63 r0 x1 x2 x3 x4 k50 Q x2 M6)))
def w_X12_costBy_50 (r0 : Nat) (x1 : Int) (x2 : Int) (x3 : Int)  (Q : Int → pj_M → Prop) (x4 : Int) (M : pj_M) : Prop := pj_lp (fun (k : Int × pj_M → Prop) (s : Int × pj_M) => w_X12_costBy_50b r0 x1 x2 x3  Q (fun (x4 : Int) (M : pj_M) => k (x4, M)) s.1 s.2) (x4, M)
def w_X12_costBy_40 (r0 : Nat) (x1 : Int) (x2 : Int) (x3 : Int) (x4 : Int) (u0 : Nat) (y1 : Int) (y2 : Int) (k15 : Int → pj_M → Prop) (Q : Int → pj_M → Prop) (M : pj_M) : Prop :=
  ((0 : Int) ≤ y1 ∧ y1 < 16) ∧ ∀ M37 : pj_M, M37 = pj_up M u0 y1 y2 → k15 (x4 + 1) M37
def w_X12_costBy_15b (r0 : Nat) (x1 : Int) (x2 : Int) (x3 : Int)  (Q : Int → pj_M → Prop) (k15 : Int → pj_M → Prop) (x4 : Int) (M : pj_M) : Prop :=
  (pj_in x4) ∧ (pj_in x3) ∧ ((x3 < x4 → w_X12_costBy_50 r0 x1 x2 x3  Q 0 M) ∧ (¬ x3 < x4 → (pj_in x4) ∧ (pj_in x2) ∧ ((¬ x4 = x2 → w_X12_costBy_40 r0 x1 x2 x3 x4 (pj_rf r0 26) x4 1000000 k15 Q M) ∧ (x4 = x2 → w_X12_costBy_40 r0 x1 x2 x3 x4 (pj_rf r0 26) x4 0 k15 Q M))))
def w_X12_costBy_15 (r0 : Nat) (x1 : Int) (x2 : Int) (x3 : Int)  (Q : Int → pj_M → Prop) (x4 : Int) (M : pj_M) : Prop := pj_lp (fun (k : Int × pj_M → Prop) (s : Int × pj_M) => w_X12_costBy_15b r0 x1 x2 x3  Q (fun (x4 : Int) (M : pj_M) => k (x4, M)) s.1 s.2) (x4, M)
def w_X12_costBy (r0 : Nat) (x1 : Int) (x2 : Int) (x3 : Int) (M : pj_M) (Q : Int → pj_M → Prop) : Prop :=
  w_X12_longOf r0 x1 M (fun (t2 : Int) (M1 : pj_M) => (pj_in t2) ∧ ((¬ t2 = 0 → w_X12_costBy_15 r0 x1 x2 x3  Q x2 M1) ∧ (t2 = 0 → Q (x3 - x2) M1)))
set_option maxRecDepth 20000 in
set_option maxHeartbeats 4000000 in
theorem s_X12_costBy_159b {l : Launch} {g : pj_G} (hg : pj_ph g = true) {r0 : Nat} {x1 : Int} {x2 : Int} {x3 : Int} {x4 : Int} {x5 : Int} {M : pj_M} {Q : Int → pj_M → Prop} {k50 : Int → pj_M → Prop} {k159 : Int → pj_M → Prop} (o0 : pj_ob r0 12) (hk50 : ∀ (x4 : Int) (M : pj_M), k50 x4 M → pj_R l g mdX12_costBy pj_T (pj_Zm g mdX12_costBy (pj_qi Q)) pj_NK 0 0 50 [(0, .ref r0), (1, .int (pj_I x1)), (2, .int (pj_I x2)), (3, .int (pj_I x3)), (4, .int (pj_I x4))] [] M) (hk159 : ∀ (x5 : Int) (M : pj_M), k159 x5 M → pj_R l g mdX12_costBy pj_T (pj_Zm g mdX12_costBy (pj_qi Q)) pj_NK 0 0 159 [(0, .ref r0), (1, .int (pj_I x1)), (2, .int (pj_I x2)), (3, .int (pj_I x3)), (4, .int (pj_I x4)), (5, .int (pj_I x5))] [] M) (h : w_X12_costBy_159b r0 x1 x2 x3 x4 k50 Q k159 x5 M) : pj_R l g mdX12_costBy pj_T (pj_Zm g mdX12_costBy (pj_qi Q)) pj_NK 0 0 159 [(0, .ref r0), (1, .int (pj_I x1)), (2, .int (pj_I x2)), (3, .int (pj_I x3)), (4, .int (pj_I x4)), (5, .int (pj_I x5))] [] M := by
  unfold w_X12_costBy_159b at h
  refine pj_iload 161 5 rfl rfl rfl ?_
  refine pj_iload_n 162 3 rfl rfl rfl rfl ?_
  obtain ⟨q15, h⟩ := h
  obtain ⟨q16, h⟩ := h
  refine pj_icmp_gt 185 165 rfl (by decide) rfl q15 q16 (fun hc => ?_) (fun hc => ?_)
  · replace h := h.1 hc
    refine pj_iinc 188 4 (ls' := [(0, .ref r0), (1, .int (pj_I x1)), (2, .int (pj_I x2)), (3, .int (pj_I x3)), (4, .int (pj_I (x4 + 1))), (5, .int (pj_I x5))]) rfl rfl (by decide) rfl rfl ?_
    refine pj_goto 50 rfl (by decide) ?_
    refine pn_sub [0, 1, 2, 3, 4] rfl ?_
    exact hk50 _ _ h
  · replace h := h.2 hc
    refine pj_aload_n 166 0 rfl rfl rfl rfl ?_
    refine pn_getr 169 12 26 hg o0 (pr_12_26 o0).2 rfl pfX12_64 rfl rfl ?_
    refine pj_iload 171 5 rfl rfl rfl ?_
    refine pj_aload_n 172 0 rfl rfl rfl rfl ?_
    refine pn_getr 175 12 27 hg o0 (pr_12_27 o0).2 rfl pfX12_67 rfl rfl ?_
    refine pj_iload 177 5 rfl rfl rfl ?_
    obtain ⟨q17, h⟩ := h
    refine pn_iald 178 16 (pr_12_27 o0) q17 rfl rfl ?_
    obtain ⟨q18, h⟩ := h
    refine pn_iast 179 16 (pr_12_26 o0)  q18 rfl rfl (fun M19 hM19 => ?_)
    replace h := h M19 hM19
    refine pj_iinc 182 5 (ls' := [(0, .ref r0), (1, .int (pj_I x1)), (2, .int (pj_I x2)), (3, .int (pj_I x3)), (4, .int (pj_I x4)), (5, .int (pj_I (x5 + 1)))]) rfl rfl (by decide) rfl rfl ?_
    refine pj_goto 159 rfl (by decide) ?_
    refine pn_sub [0, 1, 2, 3, 4, 5] rfl ?_
    exact hk159 _ _ h
set_option maxRecDepth 20000 in
set_option maxHeartbeats 4000000 in
theorem s_X12_costBy_159 {l : Launch} {g : pj_G} (hg : pj_ph g = true) {r0 : Nat} {x1 : Int} {x2 : Int} {x3 : Int} {x4 : Int} {x5 : Int} {M : pj_M} {Q : Int → pj_M → Prop} {k50 : Int → pj_M → Prop} (o0 : pj_ob r0 12) (hk50 : ∀ (x4 : Int) (M : pj_M), k50 x4 M → pj_R l g mdX12_costBy pj_T (pj_Zm g mdX12_costBy (pj_qi Q)) pj_NK 0 0 50 [(0, .ref r0), (1, .int (pj_I x1)), (2, .int (pj_I x2)), (3, .int (pj_I x3)), (4, .int (pj_I x4))] [] M) (h : w_X12_costBy_159 r0 x1 x2 x3 x4 k50 Q x5 M) : pj_R l g mdX12_costBy pj_T (pj_Zm g mdX12_costBy (pj_qi Q)) pj_NK 0 0 159 [(0, .ref r0), (1, .int (pj_I x1)), (2, .int (pj_I x2)), (3, .int (pj_I x3)), (4, .int (pj_I x4)), (5, .int (pj_I x5))] [] M :=
  h (fun s => pj_R l g mdX12_costBy pj_T (pj_Zm g mdX12_costBy (pj_qi Q)) pj_NK 0 0 159 [(0, .ref r0), (1, .int (pj_I x1)), (2, .int (pj_I x2)), (3, .int (pj_I x3)), (4, .int (pj_I x4)), (5, .int (pj_I (s.1)))] [] s.2) (fun s hs => s_X12_costBy_159b hg o0 hk50 (fun _ _ q => q) hs)
set_option maxRecDepth 20000 in
set_option maxHeartbeats 4000000 in
theorem s_X12_costBy_98b {l : Launch} {g : pj_G} (hg : pj_ph g = true) {r0 : Nat} {x1 : Int} {x2 : Int} {x3 : Int} {x4 : Int} {x5 : Int} {x6 : Int} {M : pj_M} {Q : Int → pj_M → Prop} {k50 : Int → pj_M → Prop} {k88 : Int → pj_M → Prop} {k98 : Int → pj_M → Prop} (o0 : pj_ob r0 12) (hk50 : ∀ (x4 : Int) (M : pj_M), k50 x4 M → pj_R l g mdX12_costBy pj_T (pj_Zm g mdX12_costBy (pj_qi Q)) pj_NK 0 0 50 [(0, .ref r0), (1, .int (pj_I x1)), (2, .int (pj_I x2)), (3, .int (pj_I x3)), (4, .int (pj_I x4))] [] M) (hk88 : ∀ (x5 : Int) (M : pj_M), k88 x5 M → pj_R l g mdX12_costBy pj_T (pj_Zm g mdX12_costBy (pj_qi Q)) pj_NK 0 0 88 [(0, .ref r0), (1, .int (pj_I x1)), (2, .int (pj_I x2)), (3, .int (pj_I x3)), (4, .int (pj_I x4)), (5, .int (pj_I x5))] [] M) (hk98 : ∀ (x6 : Int) (M : pj_M), k98 x6 M → pj_R l g mdX12_costBy pj_T (pj_Zm g mdX12_costBy (pj_qi Q)) pj_NK 0 0 98 [(0, .ref r0), (1, .int (pj_I x1)), (2, .int (pj_I x2)), (3, .int (pj_I x3)), (4, .int (pj_I x4)), (5, .int (pj_I x5)), (6, .int (pj_I x6))] [] M) (h : w_X12_costBy_98b r0 x1 x2 x3 x4 x5 k50 k88 Q k98 x6 M) : pj_R l g mdX12_costBy pj_T (pj_Zm g mdX12_costBy (pj_qi Q)) pj_NK 0 0 98 [(0, .ref r0), (1, .int (pj_I x1)), (2, .int (pj_I x2)), (3, .int (pj_I x3)), (4, .int (pj_I x4)), (5, .int (pj_I x5)), (6, .int (pj_I x6))] [] M := by
  unfold w_X12_costBy_98b at h
  refine pj_iload 100 6 rfl rfl rfl ?_
  refine pj_iload_n 101 3 rfl rfl rfl rfl ?_
  obtain ⟨q20, h⟩ := h
  obtain ⟨q21, h⟩ := h
  refine pj_icmp_gt 150 104 rfl (by decide) rfl q20 q21 (fun hc => ?_) (fun hc => ?_)
  · replace h := h.1 hc
    refine pj_iinc 153 5 (ls' := [(0, .ref r0), (1, .int (pj_I x1)), (2, .int (pj_I x2)), (3, .int (pj_I x3)), (4, .int (pj_I x4)), (5, .int (pj_I (x5 + 1))), (6, .int (pj_I x6))]) rfl rfl (by decide) rfl rfl ?_
    refine pj_goto 88 rfl (by decide) ?_
    refine pn_sub [0, 1, 2, 3, 4, 5] rfl ?_
    exact hk88 _ _ h
  · replace h := h.2 hc
    refine pj_aload_n 105 0 rfl rfl rfl rfl ?_
    refine pn_getr 108 12 27 hg o0 (pr_12_27 o0).2 rfl pfX12_67 rfl rfl ?_
    refine pj_iload 110 6 rfl rfl rfl ?_
    refine pj_aload_n 111 0 rfl rfl rfl rfl ?_
    refine pn_getr 114 12 27 hg o0 (pr_12_27 o0).2 rfl pfX12_67 rfl rfl ?_
    refine pj_iload 116 6 rfl rfl rfl ?_
    obtain ⟨q22, h⟩ := h
    refine pn_iald 117 16 (pr_12_27 o0) q22 rfl rfl ?_
    refine pj_aload_n 118 0 rfl rfl rfl rfl ?_
    refine pn_getr 121 12 26 hg o0 (pr_12_26 o0).2 rfl pfX12_64 rfl rfl ?_
    refine pj_iload 123 5 rfl rfl rfl ?_
    obtain ⟨q23, h⟩ := h
    refine pn_iald 124 16 (pr_12_26 o0) q23 rfl rfl ?_
    refine pj_aload_n 125 0 rfl rfl rfl rfl ?_
    refine pj_aload_n 126 0 rfl rfl rfl rfl ?_
    refine pj_iload_n 127 1 rfl rfl rfl rfl ?_
    refine pj_iload 129 4 rfl rfl rfl ?_
    refine pn_callVi 132 12 [.int (pj_I x1), .int (pj_I x4)] [.ref r0, .int (pj_I (M (pj_rf r0 26) x5)), .int (pj_I (M (pj_rf r0 27) x6)), .int (pj_I x6), .ref (pj_rf r0 27)] o0 (s_X12_symbolOf hg o0 h) plX12_179 rfl rfl rfl rfl (Nat.le_of_ble_eq_true rfl) (by decide) (fun t25 M24 h => ?_)
    refine pj_iload 134 5 rfl rfl rfl ?_
    refine pj_iload 136 6 rfl rfl rfl ?_
    refine pn_callVi 139 12 [.int (pj_I t25), .int (pj_I x5), .int (pj_I x6)] [.int (pj_I (M (pj_rf r0 26) x5)), .int (pj_I (M (pj_rf r0 27) x6)), .int (pj_I x6), .ref (pj_rf r0 27)] o0 (s_X12_cost hg o0 h) plX12_291 rfl rfl rfl rfl (Nat.le_of_ble_eq_true rfl) (by decide) (fun t27 M26 h => ?_)
    refine pj_iadd 140 rfl rfl ?_
    refine pn_callSi 143 [.int (pj_I (M (pj_rf r0 27) x6)), .int (pj_I ((M (pj_rf r0 26) x5) + t27))] [.int (pj_I x6), .ref (pj_rf r0 27)] (s_Jmin hg  h) plX12_237 rfl rfl rfl rfl (Nat.le_of_ble_eq_true rfl) (by decide) (fun t29 M28 h => ?_)
    obtain ⟨q30, h⟩ := h
    refine pn_iast 144 16 (pr_12_27 o0)  q30 rfl rfl (fun M31 hM31 => ?_)
    replace h := h M31 hM31
    refine pj_iinc 147 6 (ls' := [(0, .ref r0), (1, .int (pj_I x1)), (2, .int (pj_I x2)), (3, .int (pj_I x3)), (4, .int (pj_I x4)), (5, .int (pj_I x5)), (6, .int (pj_I (x6 + 1)))]) rfl rfl (by decide) rfl rfl ?_
    refine pj_goto 98 rfl (by decide) ?_
    refine pn_sub [0, 1, 2, 3, 4, 5, 6] rfl ?_
    exact hk98 _ _ h
set_option maxRecDepth 20000 in
set_option maxHeartbeats 4000000 in
theorem s_X12_costBy_98 {l : Launch} {g : pj_G} (hg : pj_ph g = true) {r0 : Nat} {x1 : Int} {x2 : Int} {x3 : Int} {x4 : Int} {x5 : Int} {x6 : Int} {M : pj_M} {Q : Int → pj_M → Prop} {k50 : Int → pj_M → Prop} {k88 : Int → pj_M → Prop} (o0 : pj_ob r0 12) (hk50 : ∀ (x4 : Int) (M : pj_M), k50 x4 M → pj_R l g mdX12_costBy pj_T (pj_Zm g mdX12_costBy (pj_qi Q)) pj_NK 0 0 50 [(0, .ref r0), (1, .int (pj_I x1)), (2, .int (pj_I x2)), (3, .int (pj_I x3)), (4, .int (pj_I x4))] [] M) (hk88 : ∀ (x5 : Int) (M : pj_M), k88 x5 M → pj_R l g mdX12_costBy pj_T (pj_Zm g mdX12_costBy (pj_qi Q)) pj_NK 0 0 88 [(0, .ref r0), (1, .int (pj_I x1)), (2, .int (pj_I x2)), (3, .int (pj_I x3)), (4, .int (pj_I x4)), (5, .int (pj_I x5))] [] M) (h : w_X12_costBy_98 r0 x1 x2 x3 x4 x5 k50 k88 Q x6 M) : pj_R l g mdX12_costBy pj_T (pj_Zm g mdX12_costBy (pj_qi Q)) pj_NK 0 0 98 [(0, .ref r0), (1, .int (pj_I x1)), (2, .int (pj_I x2)), (3, .int (pj_I x3)), (4, .int (pj_I x4)), (5, .int (pj_I x5)), (6, .int (pj_I x6))] [] M :=
  h (fun s => pj_R l g mdX12_costBy pj_T (pj_Zm g mdX12_costBy (pj_qi Q)) pj_NK 0 0 98 [(0, .ref r0), (1, .int (pj_I x1)), (2, .int (pj_I x2)), (3, .int (pj_I x3)), (4, .int (pj_I x4)), (5, .int (pj_I x5)), (6, .int (pj_I (s.1)))] [] s.2) (fun s hs => s_X12_costBy_98b hg o0 hk50 hk88 (fun _ _ q => q) hs)
set_option maxRecDepth 20000 in
set_option maxHeartbeats 4000000 in
theorem s_X12_costBy_88b {l : Launch} {g : pj_G} (hg : pj_ph g = true) {r0 : Nat} {x1 : Int} {x2 : Int} {x3 : Int} {x4 : Int} {x5 : Int} {M : pj_M} {Q : Int → pj_M → Prop} {k50 : Int → pj_M → Prop} {k88 : Int → pj_M → Prop} (o0 : pj_ob r0 12) (hk50 : ∀ (x4 : Int) (M : pj_M), k50 x4 M → pj_R l g mdX12_costBy pj_T (pj_Zm g mdX12_costBy (pj_qi Q)) pj_NK 0 0 50 [(0, .ref r0), (1, .int (pj_I x1)), (2, .int (pj_I x2)), (3, .int (pj_I x3)), (4, .int (pj_I x4))] [] M) (hk88 : ∀ (x5 : Int) (M : pj_M), k88 x5 M → pj_R l g mdX12_costBy pj_T (pj_Zm g mdX12_costBy (pj_qi Q)) pj_NK 0 0 88 [(0, .ref r0), (1, .int (pj_I x1)), (2, .int (pj_I x2)), (3, .int (pj_I x3)), (4, .int (pj_I x4)), (5, .int (pj_I x5))] [] M) (h : w_X12_costBy_88b r0 x1 x2 x3 x4 k50 Q k88 x5 M) : pj_R l g mdX12_costBy pj_T (pj_Zm g mdX12_costBy (pj_qi Q)) pj_NK 0 0 88 [(0, .ref r0), (1, .int (pj_I x1)), (2, .int (pj_I x2)), (3, .int (pj_I x3)), (4, .int (pj_I x4)), (5, .int (pj_I x5))] [] M := by
  unfold w_X12_costBy_88b at h
  refine pj_iload 90 5 rfl rfl rfl ?_
  refine pj_iload_n 91 3 rfl rfl rfl rfl ?_
  obtain ⟨q13, h⟩ := h
  obtain ⟨q14, h⟩ := h
  refine pj_icmp_gt 156 94 rfl (by decide) rfl q13 q14 (fun hc => ?_) (fun hc => ?_)
  · replace h := h.1 hc
    refine pj_iload_n 157 2 rfl rfl rfl rfl ?_
    refine pj_istore 159 (ls' := [(0, .ref r0), (1, .int (pj_I x1)), (2, .int (pj_I x2)), (3, .int (pj_I x3)), (4, .int (pj_I x4)), (5, .int (pj_I x2))]) rfl (by decide) rfl rfl ?_
    refine pn_sub [0, 1, 2, 3, 4, 5] rfl ?_
    exact s_X12_costBy_159 hg o0  hk50 h
  · replace h := h.2 hc
    refine pj_iload 96 5 rfl rfl rfl ?_
    refine pj_istore 98 (ls' := [(0, .ref r0), (1, .int (pj_I x1)), (2, .int (pj_I x2)), (3, .int (pj_I x3)), (4, .int (pj_I x4)), (5, .int (pj_I x5)), (6, .int (pj_I x5))]) rfl (by decide) rfl rfl ?_
    refine pn_sub [0, 1, 2, 3, 4, 5, 6] rfl ?_
    exact s_X12_costBy_98 hg o0  hk50 hk88 h
set_option maxRecDepth 20000 in
set_option maxHeartbeats 4000000 in
theorem s_X12_costBy_88 {l : Launch} {g : pj_G} (hg : pj_ph g = true) {r0 : Nat} {x1 : Int} {x2 : Int} {x3 : Int} {x4 : Int} {x5 : Int} {M : pj_M} {Q : Int → pj_M → Prop} {k50 : Int → pj_M → Prop} (o0 : pj_ob r0 12) (hk50 : ∀ (x4 : Int) (M : pj_M), k50 x4 M → pj_R l g mdX12_costBy pj_T (pj_Zm g mdX12_costBy (pj_qi Q)) pj_NK 0 0 50 [(0, .ref r0), (1, .int (pj_I x1)), (2, .int (pj_I x2)), (3, .int (pj_I x3)), (4, .int (pj_I x4))] [] M) (h : w_X12_costBy_88 r0 x1 x2 x3 x4 k50 Q x5 M) : pj_R l g mdX12_costBy pj_T (pj_Zm g mdX12_costBy (pj_qi Q)) pj_NK 0 0 88 [(0, .ref r0), (1, .int (pj_I x1)), (2, .int (pj_I x2)), (3, .int (pj_I x3)), (4, .int (pj_I x4)), (5, .int (pj_I x5))] [] M :=
  h (fun s => pj_R l g mdX12_costBy pj_T (pj_Zm g mdX12_costBy (pj_qi Q)) pj_NK 0 0 88 [(0, .ref r0), (1, .int (pj_I x1)), (2, .int (pj_I x2)), (3, .int (pj_I x3)), (4, .int (pj_I x4)), (5, .int (pj_I (s.1)))] [] s.2) (fun s hs => s_X12_costBy_88b hg o0 hk50 (fun _ _ q => q) hs)
set_option maxRecDepth 20000 in
set_option maxHeartbeats 4000000 in
theorem s_X12_costBy_63b {l : Launch} {g : pj_G} (hg : pj_ph g = true) {r0 : Nat} {x1 : Int} {x2 : Int} {x3 : Int} {x4 : Int} {x5 : Int} {M : pj_M} {Q : Int → pj_M → Prop} {k50 : Int → pj_M → Prop} {k63 : Int → pj_M → Prop} (o0 : pj_ob r0 12) (hk50 : ∀ (x4 : Int) (M : pj_M), k50 x4 M → pj_R l g mdX12_costBy pj_T (pj_Zm g mdX12_costBy (pj_qi Q)) pj_NK 0 0 50 [(0, .ref r0), (1, .int (pj_I x1)), (2, .int (pj_I x2)), (3, .int (pj_I x3)), (4, .int (pj_I x4))] [] M) (hk63 : ∀ (x5 : Int) (M : pj_M), k63 x5 M → pj_R l g mdX12_costBy pj_T (pj_Zm g mdX12_costBy (pj_qi Q)) pj_NK 0 0 63 [(0, .ref r0), (1, .int (pj_I x1)), (2, .int (pj_I x2)), (3, .int (pj_I x3)), (4, .int (pj_I x4)), (5, .int (pj_I x5))] [] M) (h : w_X12_costBy_63b r0 x1 x2 x3 x4 k50 Q k63 x5 M) : pj_R l g mdX12_costBy pj_T (pj_Zm g mdX12_costBy (pj_qi Q)) pj_NK 0 0 63 [(0, .ref r0), (1, .int (pj_I x1)), (2, .int (pj_I x2)), (3, .int (pj_I x3)), (4, .int (pj_I x4)), (5, .int (pj_I x5))] [] M := by
  unfold w_X12_costBy_63b at h
  refine pj_iload 65 5 rfl rfl rfl ?_
  refine pj_iload_n 66 3 rfl rfl rfl rfl ?_
  obtain ⟨q11, h⟩ := h
  obtain ⟨q12, h⟩ := h
  refine pj_icmp_gt 85 69 rfl (by decide) rfl q11 q12 (fun hc => ?_) (fun hc => ?_)
  · replace h := h.1 hc
    refine pj_iload_n 86 2 rfl rfl rfl rfl ?_
    refine pj_istore 88 (ls' := [(0, .ref r0), (1, .int (pj_I x1)), (2, .int (pj_I x2)), (3, .int (pj_I x3)), (4, .int (pj_I x4)), (5, .int (pj_I x2))]) rfl (by decide) rfl rfl ?_
    refine pn_sub [0, 1, 2, 3, 4, 5] rfl ?_
    exact s_X12_costBy_88 hg o0  hk50 h
  · replace h := h.2 hc
    refine pj_aload_n 70 0 rfl rfl rfl rfl ?_
    refine pn_getr 73 12 27 hg o0 (pr_12_27 o0).2 rfl pfX12_67 rfl rfl ?_
    refine pj_iload 75 5 rfl rfl rfl ?_
    refine pj_ldc_w 78 1000000 rfl pkX12_290 rfl ?_
    obtain ⟨q32, h⟩ := h
    refine pn_iast 79 16 (pr_12_27 o0)  q32 rfl rfl (fun M33 hM33 => ?_)
    replace h := h M33 hM33
    refine pj_iinc 82 5 (ls' := [(0, .ref r0), (1, .int (pj_I x1)), (2, .int (pj_I x2)), (3, .int (pj_I x3)), (4, .int (pj_I x4)), (5, .int (pj_I (x5 + 1)))]) rfl rfl (by decide) rfl rfl ?_
    refine pj_goto 63 rfl (by decide) ?_
    refine pn_sub [0, 1, 2, 3, 4, 5] rfl ?_
    exact hk63 _ _ h
set_option maxRecDepth 20000 in
set_option maxHeartbeats 4000000 in
theorem s_X12_costBy_63 {l : Launch} {g : pj_G} (hg : pj_ph g = true) {r0 : Nat} {x1 : Int} {x2 : Int} {x3 : Int} {x4 : Int} {x5 : Int} {M : pj_M} {Q : Int → pj_M → Prop} {k50 : Int → pj_M → Prop} (o0 : pj_ob r0 12) (hk50 : ∀ (x4 : Int) (M : pj_M), k50 x4 M → pj_R l g mdX12_costBy pj_T (pj_Zm g mdX12_costBy (pj_qi Q)) pj_NK 0 0 50 [(0, .ref r0), (1, .int (pj_I x1)), (2, .int (pj_I x2)), (3, .int (pj_I x3)), (4, .int (pj_I x4))] [] M) (h : w_X12_costBy_63 r0 x1 x2 x3 x4 k50 Q x5 M) : pj_R l g mdX12_costBy pj_T (pj_Zm g mdX12_costBy (pj_qi Q)) pj_NK 0 0 63 [(0, .ref r0), (1, .int (pj_I x1)), (2, .int (pj_I x2)), (3, .int (pj_I x3)), (4, .int (pj_I x4)), (5, .int (pj_I x5))] [] M :=
  h (fun s => pj_R l g mdX12_costBy pj_T (pj_Zm g mdX12_costBy (pj_qi Q)) pj_NK 0 0 63 [(0, .ref r0), (1, .int (pj_I x1)), (2, .int (pj_I x2)), (3, .int (pj_I x3)), (4, .int (pj_I x4)), (5, .int (pj_I (s.1)))] [] s.2) (fun s hs => s_X12_costBy_63b hg o0 hk50 (fun _ _ q => q) hs)
set_option maxRecDepth 20000 in
set_option maxHeartbeats 4000000 in
theorem s_X12_costBy_50b {l : Launch} {g : pj_G} (hg : pj_ph g = true) {r0 : Nat} {x1 : Int} {x2 : Int} {x3 : Int} {x4 : Int} {M : pj_M} {Q : Int → pj_M → Prop}  {k50 : Int → pj_M → Prop} (o0 : pj_ob r0 12)  (hk50 : ∀ (x4 : Int) (M : pj_M), k50 x4 M → pj_R l g mdX12_costBy pj_T (pj_Zm g mdX12_costBy (pj_qi Q)) pj_NK 0 0 50 [(0, .ref r0), (1, .int (pj_I x1)), (2, .int (pj_I x2)), (3, .int (pj_I x3)), (4, .int (pj_I x4))] [] M) (h : w_X12_costBy_50b r0 x1 x2 x3  Q k50 x4 M) : pj_R l g mdX12_costBy pj_T (pj_Zm g mdX12_costBy (pj_qi Q)) pj_NK 0 0 50 [(0, .ref r0), (1, .int (pj_I x1)), (2, .int (pj_I x2)), (3, .int (pj_I x3)), (4, .int (pj_I x4))] [] M := by
  unfold w_X12_costBy_50b at h
  refine pj_iload 52 4 rfl rfl rfl ?_
  refine pj_aload_n 53 0 rfl rfl rfl rfl ?_
  refine pj_iload_n 54 1 rfl rfl rfl rfl ?_
  refine pn_callVi 57 12 [.int (pj_I x1)] [.int (pj_I x4)] o0 (s_X12_longOf hg o0 h) plX12_176 rfl rfl rfl rfl (Nat.le_of_ble_eq_true rfl) (by decide) (fun t7 M6 h => ?_)
  obtain ⟨q8, h⟩ := h
  obtain ⟨q9, h⟩ := h
  refine pj_icmp_ge 191 60 rfl (by decide) rfl q8 q9 (fun hc => ?_) (fun hc => ?_)
  · replace h := h.1 hc
    refine pj_aload_n 192 0 rfl rfl rfl rfl ?_
    refine pn_getr 195 12 26 hg o0 (pr_12_26 o0).2 rfl pfX12_64 rfl rfl ?_
    refine pj_iload_n 196 3 rfl rfl rfl rfl ?_
    obtain ⟨q10, h⟩ := h
    refine pn_iald 197 16 (pr_12_26 o0) q10 rfl rfl ?_
    exact pn_iret h rfl rfl
  · replace h := h.2 hc
    refine pj_iload_n 61 2 rfl rfl rfl rfl ?_
    refine pj_istore 63 (ls' := [(0, .ref r0), (1, .int (pj_I x1)), (2, .int (pj_I x2)), (3, .int (pj_I x3)), (4, .int (pj_I x4)), (5, .int (pj_I x2))]) rfl (by decide) rfl rfl ?_
    refine pn_sub [0, 1, 2, 3, 4, 5] rfl ?_
    exact s_X12_costBy_63 hg o0  hk50 h
set_option maxRecDepth 20000 in
set_option maxHeartbeats 4000000 in
theorem s_X12_costBy_50 {l : Launch} {g : pj_G} (hg : pj_ph g = true) {r0 : Nat} {x1 : Int} {x2 : Int} {x3 : Int} {x4 : Int} {M : pj_M} {Q : Int → pj_M → Prop}  (o0 : pj_ob r0 12)  (h : w_X12_costBy_50 r0 x1 x2 x3  Q x4 M) : pj_R l g mdX12_costBy pj_T (pj_Zm g mdX12_costBy (pj_qi Q)) pj_NK 0 0 50 [(0, .ref r0), (1, .int (pj_I x1)), (2, .int (pj_I x2)), (3, .int (pj_I x3)), (4, .int (pj_I x4))] [] M :=
  h (fun s => pj_R l g mdX12_costBy pj_T (pj_Zm g mdX12_costBy (pj_qi Q)) pj_NK 0 0 50 [(0, .ref r0), (1, .int (pj_I x1)), (2, .int (pj_I x2)), (3, .int (pj_I x3)), (4, .int (pj_I (s.1)))] [] s.2) (fun s hs => s_X12_costBy_50b hg o0  (fun _ _ q => q) hs)
set_option maxRecDepth 20000 in
set_option maxHeartbeats 4000000 in
theorem s_X12_costBy_40 {l : Launch} {g : pj_G} (hg : pj_ph g = true) {r0 : Nat} {x1 : Int} {x2 : Int} {x3 : Int} {x4 : Int} {u0 : Nat} {y1 : Int} {y2 : Int} {M : pj_M} {Q : Int → pj_M → Prop} {k15 : Int → pj_M → Prop} (o0 : pj_ob r0 12) (ou0 : pj_ol u0 1 16) (hk15 : ∀ (x4 : Int) (M : pj_M), k15 x4 M → pj_R l g mdX12_costBy pj_T (pj_Zm g mdX12_costBy (pj_qi Q)) pj_NK 0 0 15 [(0, .ref r0), (1, .int (pj_I x1)), (2, .int (pj_I x2)), (3, .int (pj_I x3)), (4, .int (pj_I x4))] [] M) (h : w_X12_costBy_40 r0 x1 x2 x3 x4 u0 y1 y2 k15 Q M) : pj_R l g mdX12_costBy pj_T (pj_Zm g mdX12_costBy (pj_qi Q)) pj_NK 0 0 40 [(0, .ref r0), (1, .int (pj_I x1)), (2, .int (pj_I x2)), (3, .int (pj_I x3)), (4, .int (pj_I x4))] [.int (pj_I y2), .int (pj_I y1), .ref u0] M := by
  unfold w_X12_costBy_40 at h
  obtain ⟨q36, h⟩ := h
  refine pn_iast 41 16 ou0  q36 rfl rfl (fun M37 hM37 => ?_)
  replace h := h M37 hM37
  refine pj_iinc 44 4 (ls' := [(0, .ref r0), (1, .int (pj_I x1)), (2, .int (pj_I x2)), (3, .int (pj_I x3)), (4, .int (pj_I (x4 + 1)))]) rfl rfl (by decide) rfl rfl ?_
  refine pj_goto 15 rfl (by decide) ?_
  refine pn_sub [0, 1, 2, 3, 4] rfl ?_
  exact hk15 _ _ h
set_option maxRecDepth 20000 in
set_option maxHeartbeats 4000000 in
theorem s_X12_costBy_15b {l : Launch} {g : pj_G} (hg : pj_ph g = true) {r0 : Nat} {x1 : Int} {x2 : Int} {x3 : Int} {x4 : Int} {M : pj_M} {Q : Int → pj_M → Prop}  {k15 : Int → pj_M → Prop} (o0 : pj_ob r0 12)  (hk15 : ∀ (x4 : Int) (M : pj_M), k15 x4 M → pj_R l g mdX12_costBy pj_T (pj_Zm g mdX12_costBy (pj_qi Q)) pj_NK 0 0 15 [(0, .ref r0), (1, .int (pj_I x1)), (2, .int (pj_I x2)), (3, .int (pj_I x3)), (4, .int (pj_I x4))] [] M) (h : w_X12_costBy_15b r0 x1 x2 x3  Q k15 x4 M) : pj_R l g mdX12_costBy pj_T (pj_Zm g mdX12_costBy (pj_qi Q)) pj_NK 0 0 15 [(0, .ref r0), (1, .int (pj_I x1)), (2, .int (pj_I x2)), (3, .int (pj_I x3)), (4, .int (pj_I x4))] [] M := by
  unfold w_X12_costBy_15b at h
  refine pj_iload 17 4 rfl rfl rfl ?_
  refine pj_iload_n 18 3 rfl rfl rfl rfl ?_
  obtain ⟨q4, h⟩ := h
  obtain ⟨q5, h⟩ := h
  refine pj_icmp_gt 47 21 rfl (by decide) rfl q4 q5 (fun hc => ?_) (fun hc => ?_)
  · replace h := h.1 hc
    refine pj_iconst 48 rfl rfl ?_
    refine pj_istore 50 (ls' := [(0, .ref r0), (1, .int (pj_I x1)), (2, .int (pj_I x2)), (3, .int (pj_I x3)), (4, .int (pj_I 0))]) rfl (by decide) rfl rfl ?_
    refine pn_sub [0, 1, 2, 3, 4] rfl ?_
    exact s_X12_costBy_50 hg o0   h
  · replace h := h.2 hc
    refine pj_aload_n 22 0 rfl rfl rfl rfl ?_
    refine pn_getr 25 12 26 hg o0 (pr_12_26 o0).2 rfl pfX12_64 rfl rfl ?_
    refine pj_iload 27 4 rfl rfl rfl ?_
    refine pj_iload 29 4 rfl rfl rfl ?_
    refine pj_iload_n 30 2 rfl rfl rfl rfl ?_
    obtain ⟨q34, h⟩ := h
    obtain ⟨q35, h⟩ := h
    refine pj_icmp_ne 37 33 rfl (by decide) rfl q34 q35 (fun hc => ?_) (fun hc => ?_)
    · replace h := h.1 hc
      refine pj_ldc_w 40 1000000 rfl pkX12_290 rfl ?_
      refine pn_sub [0, 1, 2, 3, 4] rfl ?_
      exact s_X12_costBy_40 hg o0 (pr_12_26 o0) hk15 h
    · replace h := h.2 (Classical.not_not.mp hc)
      refine pj_iconst 34 rfl rfl ?_
      refine pj_goto 40 rfl (by decide) ?_
      refine pn_sub [0, 1, 2, 3, 4] rfl ?_
      exact s_X12_costBy_40 hg o0 (pr_12_26 o0) hk15 h
set_option maxRecDepth 20000 in
set_option maxHeartbeats 4000000 in
theorem s_X12_costBy_15 {l : Launch} {g : pj_G} (hg : pj_ph g = true) {r0 : Nat} {x1 : Int} {x2 : Int} {x3 : Int} {x4 : Int} {M : pj_M} {Q : Int → pj_M → Prop}  (o0 : pj_ob r0 12)  (h : w_X12_costBy_15 r0 x1 x2 x3  Q x4 M) : pj_R l g mdX12_costBy pj_T (pj_Zm g mdX12_costBy (pj_qi Q)) pj_NK 0 0 15 [(0, .ref r0), (1, .int (pj_I x1)), (2, .int (pj_I x2)), (3, .int (pj_I x3)), (4, .int (pj_I x4))] [] M :=
  h (fun s => pj_R l g mdX12_costBy pj_T (pj_Zm g mdX12_costBy (pj_qi Q)) pj_NK 0 0 15 [(0, .ref r0), (1, .int (pj_I x1)), (2, .int (pj_I x2)), (3, .int (pj_I x3)), (4, .int (pj_I (s.1)))] [] s.2) (fun s hs => s_X12_costBy_15b hg o0  (fun _ _ q => q) hs)
set_option maxRecDepth 20000 in
set_option maxHeartbeats 4000000 in
theorem s_X12_costBy {l : Launch} {g : pj_G} (hg : pj_ph g = true) {r0 : Nat} {x1 : Int} {x2 : Int} {x3 : Int} {M : pj_M} {Q : Int → pj_M → Prop} (o0 : pj_ob r0 12) (h : w_X12_costBy r0 x1 x2 x3 M Q) : pj_S l g mdX12_costBy [.ref r0, .int (pj_I x1), .int (pj_I x2), .int (pj_I x3)] pj_NK M (pj_qi Q) := by
  refine pj_ofR (ls := [(0, .ref r0), (1, .int (pj_I x1)), (2, .int (pj_I x2)), (3, .int (pj_I x3))]) gcX12_costBy (by decide) rfl (Nat.le_of_ble_eq_true rfl) rfl ?_
  unfold w_X12_costBy at h
  refine pj_aload_n 1 0 rfl rfl rfl rfl ?_
  refine pj_iload_n 2 1 rfl rfl rfl rfl ?_
  refine pn_callVi 5 12 [.int (pj_I x1)] [] o0 (s_X12_longOf hg o0 h) plX12_176 rfl rfl rfl rfl (Nat.le_of_ble_eq_true rfl) (by decide) (fun t2 M1 h => ?_)
  obtain ⟨q3, h⟩ := h
  refine pj_if_ne 12 8 rfl (by decide) rfl q3  (fun hc => ?_) (fun hc => ?_)
  · replace h := h.1 hc
    refine pj_iload_n 13 2 rfl rfl rfl rfl ?_
    refine pj_istore 15 (ls' := [(0, .ref r0), (1, .int (pj_I x1)), (2, .int (pj_I x2)), (3, .int (pj_I x3)), (4, .int (pj_I x2))]) rfl (by decide) rfl rfl ?_
    refine pn_sub [0, 1, 2, 3, 4] rfl ?_
    exact s_X12_costBy_15 hg o0   h
  · replace h := h.2 (Classical.not_not.mp hc)
    refine pj_iload_n 9 3 rfl rfl rfl rfl ?_
    refine pj_iload_n 10 2 rfl rfl rfl rfl ?_
    refine pj_isub 11 rfl rfl ?_
    exact pn_iret h rfl rfl
def w_X12_neededOf_57b (r0 : Nat) (x1 : Int) (x2 : Int) (k26 : Int → pj_M → Prop) (k36 : Int → pj_M → Prop) (k48 : Int → pj_M → Prop) (Q : Int → pj_M → Prop) (k57 : Int → Int → pj_M → Prop) (x3 : Int) (x4 : Int) (M : pj_M) : Prop :=
  ∃ b12 : Nat, (M r0 11 = (b12 : Int) ∧ pj_ol b12 1 95) ∧ (pj_in x4) ∧ (pj_in (M b12 0)) ∧ (((M b12 0) ≤ x4 → k48 x3 M) ∧ (¬ (M b12 0) ≤ x4 → ∃ b15 : Nat, (M r0 11 = (b15 : Int) ∧ pj_ol b15 1 95) ∧ w_X12_isGood r0 b15 x4 M (fun (t17 : Int) (M16 : pj_M) => (pj_in t17) ∧ ((¬ t17 = 0 → ∃ b19 : Nat, (M16 r0 11 = (b19 : Int) ∧ pj_ol b19 1 95) ∧ w_X12_alt x4 M16 (fun (t21 : Int) (M20 : pj_M) => ((0 : Int) ≤ t21 ∧ t21 < 95) ∧ w_X12_cell (M20 b19 t21) x2 (x2 + x1) M20 (fun (t24 : Int) (M23 : pj_M) => w_X12_costBy r0 x4 x2 (x2 + x1) M23 (fun (t26 : Int) (M25 : pj_M) => ((0 : Int) ≤ t24 ∧ t24 < 1536) ∧ (pj_in t26) ∧ (pj_in (M25 (pj_rf r0 25) t24)) ∧ ((t26 < (M25 (pj_rf r0 25) t24) → ((0 : Int) ≤ t24 ∧ t24 < 1536) ∧ ∀ M31 : pj_M, M31 = pj_up M25 (pj_rf r0 25) t24 t26 → k57 1 (x4 + 1) M31) ∧ (¬ t26 < (M25 (pj_rf r0 25) t24) → k57 x3 (x4 + 1) M25)))))) ∧ (t17 = 0 → k57 x3 (x4 + 1) M16)))))
def w_X12_neededOf_57 (r0 : Nat) (x1 : Int) (x2 : Int) (k26 : Int → pj_M → Prop) (k36 : Int → pj_M → Prop) (k48 : Int → pj_M → Prop) (Q : Int → pj_M → Prop) (x3 : Int) (x4 : Int) (M : pj_M) : Prop := pj_lp (fun (k : Int × Int × pj_M → Prop) (s : Int × Int × pj_M) => w_X12_neededOf_57b r0 x1 x2 k26 k36 k48 Q (fun (x3 : Int) (x4 : Int) (M : pj_M) => k (x3, x4, M)) s.1 s.2.1 s.2.2) (x3, x4, M)
def w_X12_neededOf_48b (r0 : Nat) (x1 : Int) (x2 : Int) (k26 : Int → pj_M → Prop) (k36 : Int → pj_M → Prop) (Q : Int → pj_M → Prop) (k48 : Int → pj_M → Prop) (x3 : Int) (M : pj_M) : Prop :=
  (pj_in x3) ∧ ((x3 = 0 → k36 (x2 + 1) M) ∧ (¬ x3 = 0 → w_X12_neededOf_57 r0 x1 x2 k26 k36 k48 Q 0 0 M))
def w_X12_neededOf_48 (r0 : Nat) (x1 : Int) (x2 : Int) (k26 : Int → pj_M → Prop) (k36 : Int → pj_M → Prop) (Q : Int → pj_M → Prop) (x3 : Int) (M : pj_M) : Prop := pj_lp (fun (k : Int × pj_M → Prop) (s : Int × pj_M) => w_X12_neededOf_48b r0 x1 x2 k26 k36 Q (fun (x3 : Int) (M : pj_M) => k (x3, M)) s.1 s.2) (x3, M)
def w_X12_neededOf_36b (r0 : Nat) (x1 : Int) (k26 : Int → pj_M → Prop) (Q : Int → pj_M → Prop) (k36 : Int → pj_M → Prop) (x2 : Int) (M : pj_M) : Prop :=
  (pj_in (x2 + x1)) ∧ (pj_in (M r0 14)) ∧ (((M r0 14) < (x2 + x1) → k26 (x1 + 1) M) ∧ (¬ (M r0 14) < (x2 + x1) → w_X12_neededOf_48 r0 x1 x2 k26 k36 Q 1 M))
def w_X12_neededOf_36 (r0 : Nat) (x1 : Int) (k26 : Int → pj_M → Prop) (Q : Int → pj_M → Prop) (x2 : Int) (M : pj_M) : Prop := pj_lp (fun (k : Int × pj_M → Prop) (s : Int × pj_M) => w_X12_neededOf_36b r0 x1 k26 Q (fun (x2 : Int) (M : pj_M) => k (x2, M)) s.1 s.2) (x2, M)
def w_X12_neededOf_26b (r0 : Nat)  (Q : Int → pj_M → Prop) (k26 : Int → pj_M → Prop) (x1 : Int) (M : pj_M) : Prop :=
  (pj_in x1) ∧ (pj_in (M r0 14)) ∧ (((M r0 14) < x1 → w_X12_start r0 M (fun (t5 : Int) (M4 : pj_M) => w_X12_cell t5 0 (M4 r0 14) M4 (fun (t7 : Int) (M6 : pj_M) => ((0 : Int) ≤ t7 ∧ t7 < 1536) ∧ Q (M6 (pj_rf r0 25) t7) M6))) ∧ (¬ (M r0 14) < x1 → w_X12_neededOf_36 r0 x1 k26 Q 0 M))
def w_X12_neededOf_26 (r0 : Nat)  (Q : Int → pj_M → Prop) (x1 : Int) (M : pj_M) : Prop := pj_lp (fun (k : Int × pj_M → Prop) (s : Int × pj_M) => w_X12_neededOf_26b r0  Q (fun (x1 : Int) (M : pj_M) => k (x1, M)) s.1 s.2) (x1, M)
def w_X12_neededOf_2b (r0 : Nat)  (Q : Int → pj_M → Prop) (k2 : Int → pj_M → Prop) (x1 : Int) (M : pj_M) : Prop :=
  (pj_in x1) ∧ ((1536 ≤ x1 → w_X12_neededOf_26 r0  Q 0 M) ∧ (¬ 1536 ≤ x1 → ((0 : Int) ≤ x1 ∧ x1 < 1536) ∧ ∀ M33 : pj_M, M33 = pj_up M (pj_rf r0 25) x1 1000000 → k2 (x1 + 1) M33))
def w_X12_neededOf_2 (r0 : Nat)  (Q : Int → pj_M → Prop) (x1 : Int) (M : pj_M) : Prop := pj_lp (fun (k : Int × pj_M → Prop) (s : Int × pj_M) => w_X12_neededOf_2b r0  Q (fun (x1 : Int) (M : pj_M) => k (x1, M)) s.1 s.2) (x1, M)
def w_X12_neededOf (r0 : Nat) (M : pj_M) (Q : Int → pj_M → Prop) : Prop :=
  w_X12_neededOf_2 r0  Q 0 M
set_option maxRecDepth 20000 in
set_option maxHeartbeats 4000000 in
theorem s_X12_neededOf_57b {l : Launch} {g : pj_G} (hg : pj_ph g = true) {r0 : Nat} {x1 : Int} {x2 : Int} {x3 : Int} {x4 : Int} {M : pj_M} {Q : Int → pj_M → Prop} {k26 : Int → pj_M → Prop} {k36 : Int → pj_M → Prop} {k48 : Int → pj_M → Prop} {k57 : Int → Int → pj_M → Prop} (o0 : pj_ob r0 12) (hk26 : ∀ (x1 : Int) (M : pj_M), k26 x1 M → pj_R l g mdX12_neededOf pj_T (pj_Zm g mdX12_neededOf (pj_qi Q)) pj_NK 0 0 26 [(0, .ref r0), (1, .int (pj_I x1))] [] M) (hk36 : ∀ (x2 : Int) (M : pj_M), k36 x2 M → pj_R l g mdX12_neededOf pj_T (pj_Zm g mdX12_neededOf (pj_qi Q)) pj_NK 0 0 36 [(0, .ref r0), (1, .int (pj_I x1)), (2, .int (pj_I x2))] [] M) (hk48 : ∀ (x3 : Int) (M : pj_M), k48 x3 M → pj_R l g mdX12_neededOf pj_T (pj_Zm g mdX12_neededOf (pj_qi Q)) pj_NK 0 0 48 [(0, .ref r0), (1, .int (pj_I x1)), (2, .int (pj_I x2)), (3, .int (pj_I x3))] [] M) (hk57 : ∀ (x3 : Int) (x4 : Int) (M : pj_M), k57 x3 x4 M → pj_R l g mdX12_neededOf pj_T (pj_Zm g mdX12_neededOf (pj_qi Q)) pj_NK 0 0 57 [(0, .ref r0), (1, .int (pj_I x1)), (2, .int (pj_I x2)), (3, .int (pj_I x3)), (4, .int (pj_I x4))] [] M) (h : w_X12_neededOf_57b r0 x1 x2 k26 k36 k48 Q k57 x3 x4 M) : pj_R l g mdX12_neededOf pj_T (pj_Zm g mdX12_neededOf (pj_qi Q)) pj_NK 0 0 57 [(0, .ref r0), (1, .int (pj_I x1)), (2, .int (pj_I x2)), (3, .int (pj_I x3)), (4, .int (pj_I x4))] [] M := by
  unfold w_X12_neededOf_57b at h
  refine pj_iload 59 4 rfl rfl rfl ?_
  refine pj_aload_n 60 0 rfl rfl rfl rfl ?_
  obtain ⟨b12, ⟨hb12, ob12⟩, h⟩ := h
  refine pn_getd 63 12 11 11 o0 hb12 ob12.2 rfl pfX12_27 rfl rfl rfl ?_
  refine pj_iconst 64 rfl rfl ?_
  refine pn_iald 65 95 ob12 (show 0 ≤ (0 : Int) ∧ (0 : Int) < ((95 : Nat) : Int) by decide) rfl rfl ?_
  obtain ⟨q13, h⟩ := h
  obtain ⟨q14, h⟩ := h
  refine pj_icmp_ge 147 68 rfl (by decide) rfl q13 q14 (fun hc => ?_) (fun hc => ?_)
  · replace h := h.1 hc
    refine pj_goto 48 rfl (by decide) ?_
    refine pn_sub [0, 1, 2, 3] rfl ?_
    exact hk48 _ _ h
  · replace h := h.2 hc
    refine pj_aload_n 69 0 rfl rfl rfl rfl ?_
    refine pj_aload_n 70 0 rfl rfl rfl rfl ?_
    obtain ⟨b15, ⟨hb15, ob15⟩, h⟩ := h
    refine pn_getd 73 12 11 11 o0 hb15 ob15.2 rfl pfX12_27 rfl rfl rfl ?_
    refine pj_iload 75 4 rfl rfl rfl ?_
    refine pn_callVi 78 12 [.ref b15, .int (pj_I x4)] [] o0 (s_X12_isGood hg o0 (pj_oa_of ob15) h) plX12_172 rfl rfl rfl rfl (Nat.le_of_ble_eq_true rfl) (by decide) (fun t17 M16 h => ?_)
    obtain ⟨q18, h⟩ := h
    refine pj_if_ne 84 81 rfl (by decide) rfl q18  (fun hc => ?_) (fun hc => ?_)
    · replace h := h.1 hc
      refine pj_aload_n 85 0 rfl rfl rfl rfl ?_
      obtain ⟨b19, ⟨hb19, ob19⟩, h⟩ := h
      refine pn_getd 88 12 11 11 o0 hb19 ob19.2 rfl pfX12_27 rfl rfl rfl ?_
      refine pj_iload 90 4 rfl rfl rfl ?_
      refine pn_callSi 93 [.int (pj_I x4)] [.ref b19] (s_X12_alt hg  h) plX12_127 rfl rfl rfl rfl (Nat.le_of_ble_eq_true rfl) (by decide) (fun t21 M20 h => ?_)
      obtain ⟨q22, h⟩ := h
      refine pn_iald 94 95 ob19 q22 rfl rfl ?_
      refine pj_iload_n 95 2 rfl rfl rfl rfl ?_
      refine pj_iload_n 96 2 rfl rfl rfl rfl ?_
      refine pj_iload_n 97 1 rfl rfl rfl rfl ?_
      refine pj_iadd 98 rfl rfl ?_
      refine pn_callSi 101 [.int (pj_I (M20 b19 t21)), .int (pj_I x2), .int (pj_I (x2 + x1))] [] (s_X12_cell hg  h) plX12_183 rfl rfl rfl rfl (Nat.le_of_ble_eq_true rfl) (by decide) (fun t24 M23 h => ?_)
      refine pj_istore 103 (ls' := [(0, .ref r0), (1, .int (pj_I x1)), (2, .int (pj_I x2)), (3, .int (pj_I x3)), (4, .int (pj_I x4)), (5, .int (pj_I t24))]) rfl (by decide) rfl rfl ?_
      refine pj_aload_n 104 0 rfl rfl rfl rfl ?_
      refine pj_iload 106 4 rfl rfl rfl ?_
      refine pj_iload_n 107 2 rfl rfl rfl rfl ?_
      refine pj_iload_n 108 2 rfl rfl rfl rfl ?_
      refine pj_iload_n 109 1 rfl rfl rfl rfl ?_
      refine pj_iadd 110 rfl rfl ?_
      refine pn_callVi 113 12 [.int (pj_I x4), .int (pj_I x2), .int (pj_I (x2 + x1))] [] o0 (s_X12_costBy hg o0 h) plX12_294 rfl rfl rfl rfl (Nat.le_of_ble_eq_true rfl) (by decide) (fun t26 M25 h => ?_)
      refine pj_istore 115 (ls' := [(0, .ref r0), (1, .int (pj_I x1)), (2, .int (pj_I x2)), (3, .int (pj_I x3)), (4, .int (pj_I x4)), (5, .int (pj_I t24)), (6, .int (pj_I t26))]) rfl (by decide) rfl rfl ?_
      refine pj_iload 117 6 rfl rfl rfl ?_
      refine pj_aload_n 118 0 rfl rfl rfl rfl ?_
      refine pn_getr 121 12 25 hg o0 (pr_12_25 o0).2 rfl pfX12_61 rfl rfl ?_
      refine pj_iload 123 5 rfl rfl rfl ?_
      obtain ⟨q27, h⟩ := h
      refine pn_iald 124 1536 (pr_12_25 o0) q27 rfl rfl ?_
      obtain ⟨q28, h⟩ := h
      obtain ⟨q29, h⟩ := h
      refine pj_icmp_lt 130 127 rfl (by decide) rfl q28 q29 (fun hc => ?_) (fun hc => ?_)
      · replace h := h.1 hc
        refine pj_aload_n 131 0 rfl rfl rfl rfl ?_
        refine pn_getr 134 12 25 hg o0 (pr_12_25 o0).2 rfl pfX12_61 rfl rfl ?_
        refine pj_iload 136 5 rfl rfl rfl ?_
        refine pj_iload 138 6 rfl rfl rfl ?_
        obtain ⟨q30, h⟩ := h
        refine pn_iast 139 1536 (pr_12_25 o0)  q30 rfl rfl (fun M31 hM31 => ?_)
        replace h := h M31 hM31
        refine pj_iconst 140 rfl rfl ?_
        refine pj_istore_n 141 (ls' := [(0, .ref r0), (1, .int (pj_I x1)), (2, .int (pj_I x2)), (3, .int (pj_I 1)), (4, .int (pj_I x4)), (5, .int (pj_I t24)), (6, .int (pj_I t26))]) rfl rfl (by decide) rfl rfl ?_
        refine pj_iinc 144 4 (ls' := [(0, .ref r0), (1, .int (pj_I x1)), (2, .int (pj_I x2)), (3, .int (pj_I 1)), (4, .int (pj_I (x4 + 1))), (5, .int (pj_I t24)), (6, .int (pj_I t26))]) rfl rfl (by decide) rfl rfl ?_
        refine pj_goto 57 rfl (by decide) ?_
        refine pn_sub [0, 1, 2, 3, 4] rfl ?_
        exact hk57 _ _ _ h
      · replace h := h.2 hc
        refine pj_goto 141 rfl (by decide) ?_
        refine pj_iinc 144 4 (ls' := [(0, .ref r0), (1, .int (pj_I x1)), (2, .int (pj_I x2)), (3, .int (pj_I x3)), (4, .int (pj_I (x4 + 1))), (5, .int (pj_I t24)), (6, .int (pj_I t26))]) rfl rfl (by decide) rfl rfl ?_
        refine pj_goto 57 rfl (by decide) ?_
        refine pn_sub [0, 1, 2, 3, 4] rfl ?_
        exact hk57 _ _ _ h
    · replace h := h.2 (Classical.not_not.mp hc)
      refine pj_goto 141 rfl (by decide) ?_
      refine pj_iinc 144 4 (ls' := [(0, .ref r0), (1, .int (pj_I x1)), (2, .int (pj_I x2)), (3, .int (pj_I x3)), (4, .int (pj_I (x4 + 1)))]) rfl rfl (by decide) rfl rfl ?_
      refine pj_goto 57 rfl (by decide) ?_
      refine pn_sub [0, 1, 2, 3, 4] rfl ?_
      exact hk57 _ _ _ h
set_option maxRecDepth 20000 in
set_option maxHeartbeats 4000000 in
theorem s_X12_neededOf_57 {l : Launch} {g : pj_G} (hg : pj_ph g = true) {r0 : Nat} {x1 : Int} {x2 : Int} {x3 : Int} {x4 : Int} {M : pj_M} {Q : Int → pj_M → Prop} {k26 : Int → pj_M → Prop} {k36 : Int → pj_M → Prop} {k48 : Int → pj_M → Prop} (o0 : pj_ob r0 12) (hk26 : ∀ (x1 : Int) (M : pj_M), k26 x1 M → pj_R l g mdX12_neededOf pj_T (pj_Zm g mdX12_neededOf (pj_qi Q)) pj_NK 0 0 26 [(0, .ref r0), (1, .int (pj_I x1))] [] M) (hk36 : ∀ (x2 : Int) (M : pj_M), k36 x2 M → pj_R l g mdX12_neededOf pj_T (pj_Zm g mdX12_neededOf (pj_qi Q)) pj_NK 0 0 36 [(0, .ref r0), (1, .int (pj_I x1)), (2, .int (pj_I x2))] [] M) (hk48 : ∀ (x3 : Int) (M : pj_M), k48 x3 M → pj_R l g mdX12_neededOf pj_T (pj_Zm g mdX12_neededOf (pj_qi Q)) pj_NK 0 0 48 [(0, .ref r0), (1, .int (pj_I x1)), (2, .int (pj_I x2)), (3, .int (pj_I x3))] [] M) (h : w_X12_neededOf_57 r0 x1 x2 k26 k36 k48 Q x3 x4 M) : pj_R l g mdX12_neededOf pj_T (pj_Zm g mdX12_neededOf (pj_qi Q)) pj_NK 0 0 57 [(0, .ref r0), (1, .int (pj_I x1)), (2, .int (pj_I x2)), (3, .int (pj_I x3)), (4, .int (pj_I x4))] [] M :=
  h (fun s => pj_R l g mdX12_neededOf pj_T (pj_Zm g mdX12_neededOf (pj_qi Q)) pj_NK 0 0 57 [(0, .ref r0), (1, .int (pj_I x1)), (2, .int (pj_I x2)), (3, .int (pj_I (s.1))), (4, .int (pj_I (s.2.1)))] [] s.2.2) (fun s hs => s_X12_neededOf_57b hg o0 hk26 hk36 hk48 (fun _ _ _ q => q) hs)
set_option maxRecDepth 20000 in
set_option maxHeartbeats 4000000 in
theorem s_X12_neededOf_48b {l : Launch} {g : pj_G} (hg : pj_ph g = true) {r0 : Nat} {x1 : Int} {x2 : Int} {x3 : Int} {M : pj_M} {Q : Int → pj_M → Prop} {k26 : Int → pj_M → Prop} {k36 : Int → pj_M → Prop} {k48 : Int → pj_M → Prop} (o0 : pj_ob r0 12) (hk26 : ∀ (x1 : Int) (M : pj_M), k26 x1 M → pj_R l g mdX12_neededOf pj_T (pj_Zm g mdX12_neededOf (pj_qi Q)) pj_NK 0 0 26 [(0, .ref r0), (1, .int (pj_I x1))] [] M) (hk36 : ∀ (x2 : Int) (M : pj_M), k36 x2 M → pj_R l g mdX12_neededOf pj_T (pj_Zm g mdX12_neededOf (pj_qi Q)) pj_NK 0 0 36 [(0, .ref r0), (1, .int (pj_I x1)), (2, .int (pj_I x2))] [] M) (hk48 : ∀ (x3 : Int) (M : pj_M), k48 x3 M → pj_R l g mdX12_neededOf pj_T (pj_Zm g mdX12_neededOf (pj_qi Q)) pj_NK 0 0 48 [(0, .ref r0), (1, .int (pj_I x1)), (2, .int (pj_I x2)), (3, .int (pj_I x3))] [] M) (h : w_X12_neededOf_48b r0 x1 x2 k26 k36 Q k48 x3 M) : pj_R l g mdX12_neededOf pj_T (pj_Zm g mdX12_neededOf (pj_qi Q)) pj_NK 0 0 48 [(0, .ref r0), (1, .int (pj_I x1)), (2, .int (pj_I x2)), (3, .int (pj_I x3))] [] M := by
  unfold w_X12_neededOf_48b at h
  refine pj_iload_n 49 3 rfl rfl rfl rfl ?_
  obtain ⟨q11, h⟩ := h
  refine pj_if_eq 150 52 rfl (by decide) rfl q11  (fun hc => ?_) (fun hc => ?_)
  · replace h := h.1 hc
    refine pj_iinc 153 2 (ls' := [(0, .ref r0), (1, .int (pj_I x1)), (2, .int (pj_I (x2 + 1))), (3, .int (pj_I x3))]) rfl rfl (by decide) rfl rfl ?_
    refine pj_goto 36 rfl (by decide) ?_
    refine pn_sub [0, 1, 2] rfl ?_
    exact hk36 _ _ h
  · replace h := h.2 hc
    refine pj_iconst 53 rfl rfl ?_
    refine pj_istore_n 54 (ls' := [(0, .ref r0), (1, .int (pj_I x1)), (2, .int (pj_I x2)), (3, .int (pj_I 0))]) rfl rfl (by decide) rfl rfl ?_
    refine pj_iconst 55 rfl rfl ?_
    refine pj_istore 57 (ls' := [(0, .ref r0), (1, .int (pj_I x1)), (2, .int (pj_I x2)), (3, .int (pj_I 0)), (4, .int (pj_I 0))]) rfl (by decide) rfl rfl ?_
    refine pn_sub [0, 1, 2, 3, 4] rfl ?_
    exact s_X12_neededOf_57 hg o0  hk26 hk36 hk48 h
set_option maxRecDepth 20000 in
set_option maxHeartbeats 4000000 in
theorem s_X12_neededOf_48 {l : Launch} {g : pj_G} (hg : pj_ph g = true) {r0 : Nat} {x1 : Int} {x2 : Int} {x3 : Int} {M : pj_M} {Q : Int → pj_M → Prop} {k26 : Int → pj_M → Prop} {k36 : Int → pj_M → Prop} (o0 : pj_ob r0 12) (hk26 : ∀ (x1 : Int) (M : pj_M), k26 x1 M → pj_R l g mdX12_neededOf pj_T (pj_Zm g mdX12_neededOf (pj_qi Q)) pj_NK 0 0 26 [(0, .ref r0), (1, .int (pj_I x1))] [] M) (hk36 : ∀ (x2 : Int) (M : pj_M), k36 x2 M → pj_R l g mdX12_neededOf pj_T (pj_Zm g mdX12_neededOf (pj_qi Q)) pj_NK 0 0 36 [(0, .ref r0), (1, .int (pj_I x1)), (2, .int (pj_I x2))] [] M) (h : w_X12_neededOf_48 r0 x1 x2 k26 k36 Q x3 M) : pj_R l g mdX12_neededOf pj_T (pj_Zm g mdX12_neededOf (pj_qi Q)) pj_NK 0 0 48 [(0, .ref r0), (1, .int (pj_I x1)), (2, .int (pj_I x2)), (3, .int (pj_I x3))] [] M :=
  h (fun s => pj_R l g mdX12_neededOf pj_T (pj_Zm g mdX12_neededOf (pj_qi Q)) pj_NK 0 0 48 [(0, .ref r0), (1, .int (pj_I x1)), (2, .int (pj_I x2)), (3, .int (pj_I (s.1)))] [] s.2) (fun s hs => s_X12_neededOf_48b hg o0 hk26 hk36 (fun _ _ q => q) hs)
set_option maxRecDepth 20000 in
set_option maxHeartbeats 4000000 in
theorem s_X12_neededOf_36b {l : Launch} {g : pj_G} (hg : pj_ph g = true) {r0 : Nat} {x1 : Int} {x2 : Int} {M : pj_M} {Q : Int → pj_M → Prop} {k26 : Int → pj_M → Prop} {k36 : Int → pj_M → Prop} (o0 : pj_ob r0 12) (hk26 : ∀ (x1 : Int) (M : pj_M), k26 x1 M → pj_R l g mdX12_neededOf pj_T (pj_Zm g mdX12_neededOf (pj_qi Q)) pj_NK 0 0 26 [(0, .ref r0), (1, .int (pj_I x1))] [] M) (hk36 : ∀ (x2 : Int) (M : pj_M), k36 x2 M → pj_R l g mdX12_neededOf pj_T (pj_Zm g mdX12_neededOf (pj_qi Q)) pj_NK 0 0 36 [(0, .ref r0), (1, .int (pj_I x1)), (2, .int (pj_I x2))] [] M) (h : w_X12_neededOf_36b r0 x1 k26 Q k36 x2 M) : pj_R l g mdX12_neededOf pj_T (pj_Zm g mdX12_neededOf (pj_qi Q)) pj_NK 0 0 36 [(0, .ref r0), (1, .int (pj_I x1)), (2, .int (pj_I x2))] [] M := by
  unfold w_X12_neededOf_36b at h
  refine pj_iload_n 37 2 rfl rfl rfl rfl ?_
  refine pj_iload_n 38 1 rfl rfl rfl rfl ?_
  refine pj_iadd 39 rfl rfl ?_
  refine pj_aload_n 40 0 rfl rfl rfl rfl ?_
  refine pn_geti 43 12 14 14 o0 rfl pfX12_214 (Or.inl rfl) rfl rfl ?_
  obtain ⟨q9, h⟩ := h
  obtain ⟨q10, h⟩ := h
  refine pj_icmp_gt 156 46 rfl (by decide) rfl q9 q10 (fun hc => ?_) (fun hc => ?_)
  · replace h := h.1 hc
    refine pj_iinc 159 1 (ls' := [(0, .ref r0), (1, .int (pj_I (x1 + 1))), (2, .int (pj_I x2))]) rfl rfl (by decide) rfl rfl ?_
    refine pj_goto 26 rfl (by decide) ?_
    refine pn_sub [0, 1] rfl ?_
    exact hk26 _ _ h
  · replace h := h.2 hc
    refine pj_iconst 47 rfl rfl ?_
    refine pj_istore_n 48 (ls' := [(0, .ref r0), (1, .int (pj_I x1)), (2, .int (pj_I x2)), (3, .int (pj_I 1))]) rfl rfl (by decide) rfl rfl ?_
    refine pn_sub [0, 1, 2, 3] rfl ?_
    exact s_X12_neededOf_48 hg o0  hk26 hk36 h
set_option maxRecDepth 20000 in
set_option maxHeartbeats 4000000 in
theorem s_X12_neededOf_36 {l : Launch} {g : pj_G} (hg : pj_ph g = true) {r0 : Nat} {x1 : Int} {x2 : Int} {M : pj_M} {Q : Int → pj_M → Prop} {k26 : Int → pj_M → Prop} (o0 : pj_ob r0 12) (hk26 : ∀ (x1 : Int) (M : pj_M), k26 x1 M → pj_R l g mdX12_neededOf pj_T (pj_Zm g mdX12_neededOf (pj_qi Q)) pj_NK 0 0 26 [(0, .ref r0), (1, .int (pj_I x1))] [] M) (h : w_X12_neededOf_36 r0 x1 k26 Q x2 M) : pj_R l g mdX12_neededOf pj_T (pj_Zm g mdX12_neededOf (pj_qi Q)) pj_NK 0 0 36 [(0, .ref r0), (1, .int (pj_I x1)), (2, .int (pj_I x2))] [] M :=
  h (fun s => pj_R l g mdX12_neededOf pj_T (pj_Zm g mdX12_neededOf (pj_qi Q)) pj_NK 0 0 36 [(0, .ref r0), (1, .int (pj_I x1)), (2, .int (pj_I (s.1)))] [] s.2) (fun s hs => s_X12_neededOf_36b hg o0 hk26 (fun _ _ q => q) hs)
set_option maxRecDepth 20000 in
set_option maxHeartbeats 4000000 in
theorem s_X12_neededOf_26b {l : Launch} {g : pj_G} (hg : pj_ph g = true) {r0 : Nat} {x1 : Int} {M : pj_M} {Q : Int → pj_M → Prop}  {k26 : Int → pj_M → Prop} (o0 : pj_ob r0 12)  (hk26 : ∀ (x1 : Int) (M : pj_M), k26 x1 M → pj_R l g mdX12_neededOf pj_T (pj_Zm g mdX12_neededOf (pj_qi Q)) pj_NK 0 0 26 [(0, .ref r0), (1, .int (pj_I x1))] [] M) (h : w_X12_neededOf_26b r0  Q k26 x1 M) : pj_R l g mdX12_neededOf pj_T (pj_Zm g mdX12_neededOf (pj_qi Q)) pj_NK 0 0 26 [(0, .ref r0), (1, .int (pj_I x1))] [] M := by
  unfold w_X12_neededOf_26b at h
  refine pj_iload_n 27 1 rfl rfl rfl rfl ?_
  refine pj_aload_n 28 0 rfl rfl rfl rfl ?_
  refine pn_geti 31 12 14 14 o0 rfl pfX12_214 (Or.inl rfl) rfl rfl ?_
  obtain ⟨q2, h⟩ := h
  obtain ⟨q3, h⟩ := h
  refine pj_icmp_gt 162 34 rfl (by decide) rfl q2 q3 (fun hc => ?_) (fun hc => ?_)
  · replace h := h.1 hc
    refine pj_aload_n 163 0 rfl rfl rfl rfl ?_
    refine pn_getr 166 12 25 hg o0 (pr_12_25 o0).2 rfl pfX12_61 rfl rfl ?_
    refine pj_aload_n 167 0 rfl rfl rfl rfl ?_
    refine pn_callVi 170 12 [] [.ref (pj_rf r0 25)] o0 (s_X12_start hg o0 h) plX12_240 rfl rfl rfl rfl (Nat.le_of_ble_eq_true rfl) (by decide) (fun t5 M4 h => ?_)
    refine pj_iconst 171 rfl rfl ?_
    refine pj_aload_n 172 0 rfl rfl rfl rfl ?_
    refine pn_geti 175 12 14 14 o0 rfl pfX12_214 (Or.inl rfl) rfl rfl ?_
    refine pn_callSi 178 [.int (pj_I t5), .int (pj_I 0), .int (pj_I (M4 r0 14))] [.ref (pj_rf r0 25)] (s_X12_cell hg  h) plX12_183 rfl rfl rfl rfl (Nat.le_of_ble_eq_true rfl) (by decide) (fun t7 M6 h => ?_)
    obtain ⟨q8, h⟩ := h
    refine pn_iald 179 1536 (pr_12_25 o0) q8 rfl rfl ?_
    exact pn_iret h rfl rfl
  · replace h := h.2 hc
    refine pj_iconst 35 rfl rfl ?_
    refine pj_istore_n 36 (ls' := [(0, .ref r0), (1, .int (pj_I x1)), (2, .int (pj_I 0))]) rfl rfl (by decide) rfl rfl ?_
    refine pn_sub [0, 1, 2] rfl ?_
    exact s_X12_neededOf_36 hg o0  hk26 h
set_option maxRecDepth 20000 in
set_option maxHeartbeats 4000000 in
theorem s_X12_neededOf_26 {l : Launch} {g : pj_G} (hg : pj_ph g = true) {r0 : Nat} {x1 : Int} {M : pj_M} {Q : Int → pj_M → Prop}  (o0 : pj_ob r0 12)  (h : w_X12_neededOf_26 r0  Q x1 M) : pj_R l g mdX12_neededOf pj_T (pj_Zm g mdX12_neededOf (pj_qi Q)) pj_NK 0 0 26 [(0, .ref r0), (1, .int (pj_I x1))] [] M :=
  h (fun s => pj_R l g mdX12_neededOf pj_T (pj_Zm g mdX12_neededOf (pj_qi Q)) pj_NK 0 0 26 [(0, .ref r0), (1, .int (pj_I (s.1)))] [] s.2) (fun s hs => s_X12_neededOf_26b hg o0  (fun _ _ q => q) hs)
set_option maxRecDepth 20000 in
set_option maxHeartbeats 4000000 in
theorem s_X12_neededOf_2b {l : Launch} {g : pj_G} (hg : pj_ph g = true) {r0 : Nat} {x1 : Int} {M : pj_M} {Q : Int → pj_M → Prop}  {k2 : Int → pj_M → Prop} (o0 : pj_ob r0 12)  (hk2 : ∀ (x1 : Int) (M : pj_M), k2 x1 M → pj_R l g mdX12_neededOf pj_T (pj_Zm g mdX12_neededOf (pj_qi Q)) pj_NK 0 0 2 [(0, .ref r0), (1, .int (pj_I x1))] [] M) (h : w_X12_neededOf_2b r0  Q k2 x1 M) : pj_R l g mdX12_neededOf pj_T (pj_Zm g mdX12_neededOf (pj_qi Q)) pj_NK 0 0 2 [(0, .ref r0), (1, .int (pj_I x1))] [] M := by
  unfold w_X12_neededOf_2b at h
  refine pj_iload_n 3 1 rfl rfl rfl rfl ?_
  refine pj_sipush 6 rfl (by decide) rfl ?_
  obtain ⟨q1, h⟩ := h
  refine pj_icmp_ge 24 9 rfl (by decide) rfl q1 (show pj_in 1536 by decide) (fun hc => ?_) (fun hc => ?_)
  · replace h := h.1 hc
    refine pj_iconst 25 rfl rfl ?_
    refine pj_istore_n 26 (ls' := [(0, .ref r0), (1, .int (pj_I 0))]) rfl rfl (by decide) rfl rfl ?_
    refine pn_sub [0, 1] rfl ?_
    exact s_X12_neededOf_26 hg o0   h
  · replace h := h.2 hc
    refine pj_aload_n 10 0 rfl rfl rfl rfl ?_
    refine pn_getr 13 12 25 hg o0 (pr_12_25 o0).2 rfl pfX12_61 rfl rfl ?_
    refine pj_iload_n 14 1 rfl rfl rfl rfl ?_
    refine pj_ldc_w 17 1000000 rfl pkX12_290 rfl ?_
    obtain ⟨q32, h⟩ := h
    refine pn_iast 18 1536 (pr_12_25 o0)  q32 rfl rfl (fun M33 hM33 => ?_)
    replace h := h M33 hM33
    refine pj_iinc 21 1 (ls' := [(0, .ref r0), (1, .int (pj_I (x1 + 1)))]) rfl rfl (by decide) rfl rfl ?_
    refine pj_goto 2 rfl (by decide) ?_
    refine pn_sub [0, 1] rfl ?_
    exact hk2 _ _ h
set_option maxRecDepth 20000 in
set_option maxHeartbeats 4000000 in
theorem s_X12_neededOf_2 {l : Launch} {g : pj_G} (hg : pj_ph g = true) {r0 : Nat} {x1 : Int} {M : pj_M} {Q : Int → pj_M → Prop}  (o0 : pj_ob r0 12)  (h : w_X12_neededOf_2 r0  Q x1 M) : pj_R l g mdX12_neededOf pj_T (pj_Zm g mdX12_neededOf (pj_qi Q)) pj_NK 0 0 2 [(0, .ref r0), (1, .int (pj_I x1))] [] M :=
  h (fun s => pj_R l g mdX12_neededOf pj_T (pj_Zm g mdX12_neededOf (pj_qi Q)) pj_NK 0 0 2 [(0, .ref r0), (1, .int (pj_I (s.1)))] [] s.2) (fun s hs => s_X12_neededOf_2b hg o0  (fun _ _ q => q) hs)
set_option maxRecDepth 20000 in
set_option maxHeartbeats 4000000 in
theorem s_X12_neededOf {l : Launch} {g : pj_G} (hg : pj_ph g = true) {r0 : Nat} {M : pj_M} {Q : Int → pj_M → Prop} (o0 : pj_ob r0 12) (h : w_X12_neededOf r0 M Q) : pj_S l g mdX12_neededOf [.ref r0] pj_NK M (pj_qi Q) := by
  refine pj_ofR (ls := [(0, .ref r0)]) gcX12_neededOf (by decide) rfl (Nat.le_of_ble_eq_true rfl) rfl ?_
  unfold w_X12_neededOf at h
  refine pj_iconst 1 rfl rfl ?_
  refine pj_istore_n 2 (ls' := [(0, .ref r0), (1, .int (pj_I 0))]) rfl rfl (by decide) rfl rfl ?_
  refine pn_sub [0, 1] rfl ?_
  exact s_X12_neededOf_2 hg o0   h
def w_X12_needed (r0 : Nat) (M : pj_M) (Q : Int → pj_M → Prop) : Prop :=
  ∀ M1 : pj_M, M1 = pj_up M r0 5 0 → w_X12_layAll r0 (M1 (pj_rf r0 0) 73) M1 (fun (M2 : pj_M) => w_X12_layReport r0 0 M2 (fun (M4 : pj_M) => ∀ M6 : pj_M, M6 = pj_up M4 r0 4 0 → (pj_in (M6 r0 22)) ∧ w_X12_tell r0 (M6 r0 22) M6 (fun (M8 : pj_M) => w_X12_neededOf r0 M8 (fun (t11 : Int) (M10 : pj_M) => Q t11 M10))))
set_option maxRecDepth 20000 in
set_option maxHeartbeats 4000000 in
theorem s_X12_needed {l : Launch} {g : pj_G} (hg : pj_ph g = true) {r0 : Nat} {M : pj_M} {Q : Int → pj_M → Prop} (o0 : pj_ob r0 12) (h : w_X12_needed r0 M Q) : pj_S l g mdX12_needed [.ref r0] pj_NK M (pj_qi Q) := by
  refine pj_ofR (ls := [(0, .ref r0)]) gcX12_needed (by decide) rfl (Nat.le_of_ble_eq_true rfl) rfl ?_
  unfold w_X12_needed at h
  refine pj_aload_n 1 0 rfl rfl rfl rfl ?_
  refine pj_iconst 2 rfl rfl ?_
  refine pn_puti 5 12 5 5 o0  rfl pfX12_88 rfl rfl rfl (fun M1 hM1 => ?_)
  replace h := h M1 hM1
  refine pj_aload_n 6 0 rfl rfl rfl rfl ?_
  refine pj_aload_n 7 0 rfl rfl rfl rfl ?_
  refine pn_getr 10 12 0 hg o0 (pr_12_0 o0).2 rfl pfX12_9 rfl rfl ?_
  refine pj_bipush 12 rfl (by decide) rfl ?_
  refine pn_iald 13 95 (pr_12_0 o0) (show 0 ≤ (73 : Int) ∧ (73 : Int) < ((95 : Nat) : Int) by decide) rfl rfl ?_
  refine pn_callVv 16 12 [.int (pj_I (M1 (pj_rf r0 0) 73))] [] o0 (s_X12_layAll hg o0 h) plX12_246 rfl rfl rfl rfl (Nat.le_of_ble_eq_true rfl) (by decide) (fun M2 h => ?_)
  refine pj_aload_n 17 0 rfl rfl rfl rfl ?_
  refine pj_iconst 18 rfl rfl ?_
  refine pn_callVv 21 12 [.int (pj_I 0)] [] o0 (s_X12_layReport hg o0 h) plX12_277 rfl rfl rfl rfl (Nat.le_of_ble_eq_true rfl) (by decide) (fun M4 h => ?_)
  refine pj_aload_n 22 0 rfl rfl rfl rfl ?_
  refine pj_iconst 23 rfl rfl ?_
  refine pn_puti 26 12 4 4 o0  rfl pfX12_92 rfl rfl rfl (fun M6 hM6 => ?_)
  replace h := h M6 hM6
  refine pj_aload_n 27 0 rfl rfl rfl rfl ?_
  refine pj_aload_n 28 0 rfl rfl rfl rfl ?_
  refine pn_geti 31 12 22 22 o0 rfl pfX12_268 (Or.inl rfl) rfl rfl ?_
  obtain ⟨q7, h⟩ := h
  refine pj_i2l 32 rfl rfl q7 ?_
  refine pn_callVv 35 12 [.long (pj_L (M6 r0 22))] [] o0 (s_X12_tell hg o0 h) plX12_260 rfl rfl rfl rfl (Nat.le_of_ble_eq_true rfl) (by decide) (fun M8 h => ?_)
  refine pj_aload_n 36 0 rfl rfl rfl rfl ?_
  refine pn_callVi 39 12 [] [] o0 (s_X12_neededOf hg o0 h) plX12_297 rfl rfl rfl rfl (Nat.le_of_ble_eq_true rfl) (by decide) (fun t11 M10 h => ?_)
  exact pn_iret h rfl rfl
def w_X12_reportWithout_61 (r0 : Nat)  (Q : Int → pj_M → Prop) (M : pj_M) : Prop :=
  w_X12_layTables r0 M (fun (M4 : pj_M) => w_X12_layReport r0 0 M4 (fun (M6 : pj_M) => Q (M6 r0 22) M6))
def w_X12_reportWithout_23b (r0 : Nat)  (Q : Int → pj_M → Prop) (k23 : Int → pj_M → Prop) (x2 : Int) (M : pj_M) : Prop :=
  (pj_in x2) ∧ (pj_in (M r0 14)) ∧ (((M r0 14) ≤ x2 → ∀ M10 : pj_M, M10 = pj_up M r0 14 ((M r0 14) - 1) → w_X12_reportWithout_61 r0  Q M10) ∧ (¬ (M r0 14) ≤ x2 → ((0 : Int) ≤ x2 ∧ x2 < 16) ∧ ((0 : Int) ≤ (x2 - 1) ∧ (x2 - 1) < 16) ∧ ∀ M13 : pj_M, M13 = pj_up M (pj_rf r0 13) (x2 - 1) (M (pj_rf r0 13) x2) → k23 (x2 + 1) M13))
def w_X12_reportWithout_23 (r0 : Nat)  (Q : Int → pj_M → Prop) (x2 : Int) (M : pj_M) : Prop := pj_lp (fun (k : Int × pj_M → Prop) (s : Int × pj_M) => w_X12_reportWithout_23b r0  Q (fun (x2 : Int) (M : pj_M) => k (x2, M)) s.1 s.2) (x2, M)
def w_X12_reportWithout (r0 : Nat) (x1 : Int) (M : pj_M) (Q : Int → pj_M → Prop) : Prop :=
  w_X12_layWord r0 (pj_rf r0 0) 74 (M (pj_rf r0 0) 73) M (fun (M1 : pj_M) => (pj_in x1) ∧ ((x1 ≤ 0 → w_X12_reportWithout_61 r0  Q M1) ∧ (¬ x1 ≤ 0 → w_X12_reportWithout_23 r0  Q x1 M1)))
set_option maxRecDepth 20000 in
set_option maxHeartbeats 4000000 in
theorem s_X12_reportWithout_61 {l : Launch} {g : pj_G} (hg : pj_ph g = true) {r0 : Nat} {M : pj_M} {Q : Int → pj_M → Prop}  (o0 : pj_ob r0 12)  (h : w_X12_reportWithout_61 r0  Q M) : pj_R l g mdX12_reportWithout pj_T (pj_Zm g mdX12_reportWithout (pj_qi Q)) pj_NK 0 0 61 [(0, .ref r0)] [] M := by
  unfold w_X12_reportWithout_61 at h
  refine pj_aload_n 62 0 rfl rfl rfl rfl ?_
  refine pn_callVv 65 12 [] [] o0 (s_X12_layTables hg o0 h) plX12_225 rfl rfl rfl rfl (Nat.le_of_ble_eq_true rfl) (by decide) (fun M4 h => ?_)
  refine pj_aload_n 66 0 rfl rfl rfl rfl ?_
  refine pj_iconst 67 rfl rfl ?_
  refine pn_callVv 70 12 [.int (pj_I 0)] [] o0 (s_X12_layReport hg o0 h) plX12_277 rfl rfl rfl rfl (Nat.le_of_ble_eq_true rfl) (by decide) (fun M6 h => ?_)
  refine pj_aload_n 71 0 rfl rfl rfl rfl ?_
  refine pn_geti 74 12 22 22 o0 rfl pfX12_268 (Or.inl rfl) rfl rfl ?_
  exact pn_iret h rfl rfl
set_option maxRecDepth 20000 in
set_option maxHeartbeats 4000000 in
theorem s_X12_reportWithout_23b {l : Launch} {g : pj_G} (hg : pj_ph g = true) {r0 : Nat} {x2 : Int} {M : pj_M} {Q : Int → pj_M → Prop}  {k23 : Int → pj_M → Prop} (o0 : pj_ob r0 12)  (hk23 : ∀ (x2 : Int) (M : pj_M), k23 x2 M → pj_R l g mdX12_reportWithout pj_T (pj_Zm g mdX12_reportWithout (pj_qi Q)) pj_NK 0 0 23 [(0, .ref r0), (2, .int (pj_I x2))] [] M) (h : w_X12_reportWithout_23b r0  Q k23 x2 M) : pj_R l g mdX12_reportWithout pj_T (pj_Zm g mdX12_reportWithout (pj_qi Q)) pj_NK 0 0 23 [(0, .ref r0), (2, .int (pj_I x2))] [] M := by
  unfold w_X12_reportWithout_23b at h
  refine pj_iload_n 24 1 rfl rfl rfl rfl ?_
  refine pj_aload_n 25 0 rfl rfl rfl rfl ?_
  refine pn_geti 28 12 14 14 o0 rfl pfX12_214 (Or.inl rfl) rfl rfl ?_
  obtain ⟨q8, h⟩ := h
  obtain ⟨q9, h⟩ := h
  refine pj_icmp_ge 51 31 rfl (by decide) rfl q8 q9 (fun hc => ?_) (fun hc => ?_)
  · replace h := h.1 hc
    refine pj_aload_n 52 0 rfl rfl rfl rfl ?_
    refine pj_dup 53 rfl rfl rfl ?_
    refine pn_geti 56 12 14 14 o0 rfl pfX12_214 (Or.inl rfl) rfl rfl ?_
    refine pj_iconst 57 rfl rfl ?_
    refine pj_isub 58 rfl rfl ?_
    refine pn_puti 61 12 14 14 o0  rfl pfX12_214 rfl rfl rfl (fun M10 hM10 => ?_)
    replace h := h M10 hM10
    refine pn_sub [0] rfl ?_
    exact s_X12_reportWithout_61 hg o0   h
  · replace h := h.2 hc
    refine pj_aload_n 32 0 rfl rfl rfl rfl ?_
    refine pn_getr 35 12 13 hg o0 (pr_12_13 o0).2 rfl pfX12_30 rfl rfl ?_
    refine pj_iload_n 36 1 rfl rfl rfl rfl ?_
    refine pj_iconst 37 rfl rfl ?_
    refine pj_isub 38 rfl rfl ?_
    refine pj_aload_n 39 0 rfl rfl rfl rfl ?_
    refine pn_getr 42 12 13 hg o0 (pr_12_13 o0).2 rfl pfX12_30 rfl rfl ?_
    refine pj_iload_n 43 1 rfl rfl rfl rfl ?_
    obtain ⟨q11, h⟩ := h
    refine pn_iald 44 16 (pr_12_13 o0) q11 rfl rfl ?_
    obtain ⟨q12, h⟩ := h
    refine pn_iast 45 16 (pr_12_13 o0)  q12 rfl rfl (fun M13 hM13 => ?_)
    replace h := h M13 hM13
    refine pj_iinc 48 1 (ls' := [(0, .ref r0), (2, .int (pj_I (x2 + 1)))]) rfl rfl (by decide) rfl rfl ?_
    refine pj_goto 23 rfl (by decide) ?_
    refine pn_sub [0, 1] rfl ?_
    exact hk23 _ _ h
set_option maxRecDepth 20000 in
set_option maxHeartbeats 4000000 in
theorem s_X12_reportWithout_23 {l : Launch} {g : pj_G} (hg : pj_ph g = true) {r0 : Nat} {x2 : Int} {M : pj_M} {Q : Int → pj_M → Prop}  (o0 : pj_ob r0 12)  (h : w_X12_reportWithout_23 r0  Q x2 M) : pj_R l g mdX12_reportWithout pj_T (pj_Zm g mdX12_reportWithout (pj_qi Q)) pj_NK 0 0 23 [(0, .ref r0), (2, .int (pj_I x2))] [] M :=
  h (fun s => pj_R l g mdX12_reportWithout pj_T (pj_Zm g mdX12_reportWithout (pj_qi Q)) pj_NK 0 0 23 [(0, .ref r0), (2, .int (pj_I (s.1)))] [] s.2) (fun s hs => s_X12_reportWithout_23b hg o0  (fun _ _ q => q) hs)
set_option maxRecDepth 20000 in
set_option maxHeartbeats 4000000 in
theorem s_X12_reportWithout {l : Launch} {g : pj_G} (hg : pj_ph g = true) {r0 : Nat} {x1 : Int} {M : pj_M} {Q : Int → pj_M → Prop} (o0 : pj_ob r0 12) (h : w_X12_reportWithout r0 x1 M Q) : pj_S l g mdX12_reportWithout [.ref r0, .int (pj_I x1)] pj_NK M (pj_qi Q) := by
  refine pj_ofR (ls := [(0, .ref r0), (1, .int (pj_I x1))]) gcX12_reportWithout (by decide) rfl (Nat.le_of_ble_eq_true rfl) rfl ?_
  unfold w_X12_reportWithout at h
  refine pj_aload_n 1 0 rfl rfl rfl rfl ?_
  refine pj_aload_n 2 0 rfl rfl rfl rfl ?_
  refine pn_getr 5 12 0 hg o0 (pr_12_0 o0).2 rfl pfX12_9 rfl rfl ?_
  refine pj_bipush 7 rfl (by decide) rfl ?_
  refine pj_aload_n 8 0 rfl rfl rfl rfl ?_
  refine pn_getr 11 12 0 hg o0 (pr_12_0 o0).2 rfl pfX12_9 rfl rfl ?_
  refine pj_bipush 13 rfl (by decide) rfl ?_
  refine pn_iald 14 95 (pr_12_0 o0) (show 0 ≤ (73 : Int) ∧ (73 : Int) < ((95 : Nat) : Int) by decide) rfl rfl ?_
  refine pn_callVv 17 12 [.ref (pj_rf r0 0), .int (pj_I 74), .int (pj_I (M (pj_rf r0 0) 73))] [] o0 (s_X12_layWord hg o0 (pj_oa_of (pr_12_0 o0)) h) plX12_221 rfl rfl rfl rfl (Nat.le_of_ble_eq_true rfl) (by decide) (fun M1 h => ?_)
  refine pj_iload_n 18 1 rfl rfl rfl rfl ?_
  obtain ⟨q3, h⟩ := h
  refine pj_if_le 61 21 rfl (by decide) rfl q3  (fun hc => ?_) (fun hc => ?_)
  · replace h := h.1 hc
    refine pn_sub [0] rfl ?_
    exact s_X12_reportWithout_61 hg o0   h
  · replace h := h.2 hc
    refine pj_iload_n 22 1 rfl rfl rfl rfl ?_
    refine pj_istore_n 23 (ls' := [(0, .ref r0), (1, .int (pj_I x1)), (2, .int (pj_I x1))]) rfl rfl (by decide) rfl rfl ?_
    refine pn_sub [0, 2] rfl ?_
    exact s_X12_reportWithout_23 hg o0   h
def w_X12_without (r0 : Nat) (x1 : Int) (M : pj_M) (Q : Int → pj_M → Prop) : Prop :=
  ∀ M1 : pj_M, M1 = pj_up M r0 5 0 → w_X12_in x1 1 (M1 (pj_rf r0 0) 73) M1 (fun (t3 : Int) (M2 : pj_M) => (pj_in t3) ∧ ((¬ t3 = 0 → w_X12_reportWithout r0 0 M2 (fun (t6 : Int) (M5 : pj_M) => w_X12_reportWithout r0 x1 M5 (fun (t8 : Int) (M7 : pj_M) => ∀ M9 : pj_M, M9 = pj_up M7 r0 4 0 → (pj_in (t6 - t8)) ∧ w_X12_tell r0 (t6 - t8) M9 (fun (M11 : pj_M) => Q t8 M11)))) ∧ (t3 = 0 → Q (-1) M2)))
set_option maxRecDepth 20000 in
set_option maxHeartbeats 4000000 in
theorem s_X12_without {l : Launch} {g : pj_G} (hg : pj_ph g = true) {r0 : Nat} {x1 : Int} {M : pj_M} {Q : Int → pj_M → Prop} (o0 : pj_ob r0 12) (h : w_X12_without r0 x1 M Q) : pj_S l g mdX12_without [.ref r0, .int (pj_I x1)] pj_NK M (pj_qi Q) := by
  refine pj_ofR (ls := [(0, .ref r0), (1, .int (pj_I x1))]) gcX12_without (by decide) rfl (Nat.le_of_ble_eq_true rfl) rfl ?_
  unfold w_X12_without at h
  refine pj_aload_n 1 0 rfl rfl rfl rfl ?_
  refine pj_iconst 2 rfl rfl ?_
  refine pn_puti 5 12 5 5 o0  rfl pfX12_88 rfl rfl rfl (fun M1 hM1 => ?_)
  replace h := h M1 hM1
  refine pj_iload_n 6 1 rfl rfl rfl rfl ?_
  refine pj_iconst 7 rfl rfl ?_
  refine pj_aload_n 8 0 rfl rfl rfl rfl ?_
  refine pn_getr 11 12 0 hg o0 (pr_12_0 o0).2 rfl pfX12_9 rfl rfl ?_
  refine pj_bipush 13 rfl (by decide) rfl ?_
  refine pn_iald 14 95 (pr_12_0 o0) (show 0 ≤ (73 : Int) ∧ (73 : Int) < ((95 : Nat) : Int) by decide) rfl rfl ?_
  refine pn_callSi 17 [.int (pj_I x1), .int (pj_I 1), .int (pj_I (M1 (pj_rf r0 0) 73))] [] (s_X12_in hg  h) plX12_98 rfl rfl rfl rfl (Nat.le_of_ble_eq_true rfl) (by decide) (fun t3 M2 h => ?_)
  obtain ⟨q4, h⟩ := h
  refine pj_if_ne 22 20 rfl (by decide) rfl q4  (fun hc => ?_) (fun hc => ?_)
  · replace h := h.1 hc
    refine pj_aload_n 23 0 rfl rfl rfl rfl ?_
    refine pj_iconst 24 rfl rfl ?_
    refine pn_callVi 27 12 [.int (pj_I 0)] [] o0 (s_X12_reportWithout hg o0 h) plX12_300 rfl rfl rfl rfl (Nat.le_of_ble_eq_true rfl) (by decide) (fun t6 M5 h => ?_)
    refine pj_istore_n 28 (ls' := [(0, .ref r0), (1, .int (pj_I x1)), (2, .int (pj_I t6))]) rfl rfl (by decide) rfl rfl ?_
    refine pj_aload_n 29 0 rfl rfl rfl rfl ?_
    refine pj_iload_n 30 1 rfl rfl rfl rfl ?_
    refine pn_callVi 33 12 [.int (pj_I x1)] [] o0 (s_X12_reportWithout hg o0 h) plX12_300 rfl rfl rfl rfl (Nat.le_of_ble_eq_true rfl) (by decide) (fun t8 M7 h => ?_)
    refine pj_istore_n 34 (ls' := [(0, .ref r0), (1, .int (pj_I x1)), (2, .int (pj_I t6)), (3, .int (pj_I t8))]) rfl rfl (by decide) rfl rfl ?_
    refine pj_aload_n 35 0 rfl rfl rfl rfl ?_
    refine pj_iconst 36 rfl rfl ?_
    refine pn_puti 39 12 4 4 o0  rfl pfX12_92 rfl rfl rfl (fun M9 hM9 => ?_)
    replace h := h M9 hM9
    refine pj_aload_n 40 0 rfl rfl rfl rfl ?_
    refine pj_iload_n 41 2 rfl rfl rfl rfl ?_
    refine pj_iload_n 42 3 rfl rfl rfl rfl ?_
    refine pj_isub 43 rfl rfl ?_
    obtain ⟨q10, h⟩ := h
    refine pj_i2l 44 rfl rfl q10 ?_
    refine pn_callVv 47 12 [.long (pj_L (t6 - t8))] [] o0 (s_X12_tell hg o0 h) plX12_260 rfl rfl rfl rfl (Nat.le_of_ble_eq_true rfl) (by decide) (fun M11 h => ?_)
    refine pj_iload_n 48 3 rfl rfl rfl rfl ?_
    exact pn_iret h rfl rfl
  · replace h := h.2 (Classical.not_not.mp hc)
    refine pj_iconst 21 rfl rfl ?_
    exact pn_iret h rfl rfl
def w_X12_blames_56 (r0 : Nat) (x3 : Int) (x4 : Int) (k24 : Int → Int → Int → pj_M → Prop) (Q : Int → pj_M → Prop) (M : pj_M) : Prop :=
  k24 x3 x4 (x3 + 1) M
def w_X12_blames_24b (r0 : Nat)  (Q : Int → pj_M → Prop) (k24 : Int → Int → Int → pj_M → Prop) (x1 : Int) (x2 : Int) (x3 : Int) (M : pj_M) : Prop :=
  (pj_in x3) ∧ (pj_in (M (pj_rf r0 0) 73)) ∧ (((M (pj_rf r0 0) 73) < x3 → ∀ M5 : pj_M, M5 = pj_up M r0 4 0 → (pj_in x2) ∧ w_X12_tell r0 x2 M5 (fun (M7 : pj_M) => Q x1 M7)) ∧ (¬ (M (pj_rf r0 0) 73) < x3 → w_X12_reportWithout r0 x3 M (fun (t10 : Int) (M9 : pj_M) => (pj_in x1) ∧ ((x1 = (-1) → w_X12_blames_56 r0 x3 t10 k24 Q M9) ∧ (¬ x1 = (-1) → (pj_in t10) ∧ (pj_in x2) ∧ ((t10 < x2 → w_X12_blames_56 r0 x3 t10 k24 Q M9) ∧ (¬ t10 < x2 → k24 x1 x2 (x3 + 1) M9)))))))
def w_X12_blames_24 (r0 : Nat)  (Q : Int → pj_M → Prop) (x1 : Int) (x2 : Int) (x3 : Int) (M : pj_M) : Prop := pj_lp (fun (k : Int × Int × Int × pj_M → Prop) (s : Int × Int × Int × pj_M) => w_X12_blames_24b r0  Q (fun (x1 : Int) (x2 : Int) (x3 : Int) (M : pj_M) => k (x1, x2, x3, M)) s.1 s.2.1 s.2.2.1 s.2.2.2) (x1, x2, x3, M)
def w_X12_blames (r0 : Nat) (M : pj_M) (Q : Int → pj_M → Prop) : Prop :=
  ∀ M1 : pj_M, M1 = pj_up M r0 5 0 → (pj_in (M1 (pj_rf r0 0) 73)) ∧ ((¬ (M1 (pj_rf r0 0) 73) = 0 → w_X12_blames_24 r0  Q (-1) 0 1 M1) ∧ ((M1 (pj_rf r0 0) 73) = 0 → Q (-2) M1))
set_option maxRecDepth 20000 in
set_option maxHeartbeats 4000000 in
theorem s_X12_blames_56 {l : Launch} {g : pj_G} (hg : pj_ph g = true) {r0 : Nat} {x3 : Int} {x4 : Int} {M : pj_M} {Q : Int → pj_M → Prop} {k24 : Int → Int → Int → pj_M → Prop} (o0 : pj_ob r0 12) (hk24 : ∀ (x1 : Int) (x2 : Int) (x3 : Int) (M : pj_M), k24 x1 x2 x3 M → pj_R l g mdX12_blames pj_T (pj_Zm g mdX12_blames (pj_qi Q)) pj_NK 0 0 24 [(0, .ref r0), (1, .int (pj_I x1)), (2, .int (pj_I x2)), (3, .int (pj_I x3))] [] M) (h : w_X12_blames_56 r0 x3 x4 k24 Q M) : pj_R l g mdX12_blames pj_T (pj_Zm g mdX12_blames (pj_qi Q)) pj_NK 0 0 56 [(0, .ref r0), (3, .int (pj_I x3)), (4, .int (pj_I x4))] [] M := by
  unfold w_X12_blames_56 at h
  refine pj_iload_n 57 1 rfl rfl rfl rfl ?_
  refine pj_istore_n 58 (ls' := [(0, .ref r0), (1, .int (pj_I x3)), (3, .int (pj_I x3)), (4, .int (pj_I x4))]) rfl rfl (by decide) rfl rfl ?_
  refine pj_iload 60 3 rfl rfl rfl ?_
  refine pj_istore_n 61 (ls' := [(0, .ref r0), (1, .int (pj_I x3)), (2, .int (pj_I x4)), (3, .int (pj_I x3)), (4, .int (pj_I x4))]) rfl rfl (by decide) rfl rfl ?_
  refine pj_iinc 64 3 (ls' := [(0, .ref r0), (1, .int (pj_I x3)), (2, .int (pj_I x4)), (3, .int (pj_I (x3 + 1))), (4, .int (pj_I x4))]) rfl rfl (by decide) rfl rfl ?_
  refine pj_goto 24 rfl (by decide) ?_
  refine pn_sub [0, 1, 2, 3] rfl ?_
  exact hk24 _ _ _ _ h
set_option maxRecDepth 20000 in
set_option maxHeartbeats 4000000 in
theorem s_X12_blames_24b {l : Launch} {g : pj_G} (hg : pj_ph g = true) {r0 : Nat} {x1 : Int} {x2 : Int} {x3 : Int} {M : pj_M} {Q : Int → pj_M → Prop}  {k24 : Int → Int → Int → pj_M → Prop} (o0 : pj_ob r0 12)  (hk24 : ∀ (x1 : Int) (x2 : Int) (x3 : Int) (M : pj_M), k24 x1 x2 x3 M → pj_R l g mdX12_blames pj_T (pj_Zm g mdX12_blames (pj_qi Q)) pj_NK 0 0 24 [(0, .ref r0), (1, .int (pj_I x1)), (2, .int (pj_I x2)), (3, .int (pj_I x3))] [] M) (h : w_X12_blames_24b r0  Q k24 x1 x2 x3 M) : pj_R l g mdX12_blames pj_T (pj_Zm g mdX12_blames (pj_qi Q)) pj_NK 0 0 24 [(0, .ref r0), (1, .int (pj_I x1)), (2, .int (pj_I x2)), (3, .int (pj_I x3))] [] M := by
  unfold w_X12_blames_24b at h
  refine pj_iload_n 25 3 rfl rfl rfl rfl ?_
  refine pj_aload_n 26 0 rfl rfl rfl rfl ?_
  refine pn_getr 29 12 0 hg o0 (pr_12_0 o0).2 rfl pfX12_9 rfl rfl ?_
  refine pj_bipush 31 rfl (by decide) rfl ?_
  refine pn_iald 32 95 (pr_12_0 o0) (show 0 ≤ (73 : Int) ∧ (73 : Int) < ((95 : Nat) : Int) by decide) rfl rfl ?_
  obtain ⟨q3, h⟩ := h
  obtain ⟨q4, h⟩ := h
  refine pj_icmp_gt 67 35 rfl (by decide) rfl q3 q4 (fun hc => ?_) (fun hc => ?_)
  · replace h := h.1 hc
    refine pj_aload_n 68 0 rfl rfl rfl rfl ?_
    refine pj_iconst 69 rfl rfl ?_
    refine pn_puti 72 12 4 4 o0  rfl pfX12_92 rfl rfl rfl (fun M5 hM5 => ?_)
    replace h := h M5 hM5
    refine pj_aload_n 73 0 rfl rfl rfl rfl ?_
    refine pj_iload_n 74 2 rfl rfl rfl rfl ?_
    obtain ⟨q6, h⟩ := h
    refine pj_i2l 75 rfl rfl q6 ?_
    refine pn_callVv 78 12 [.long (pj_L x2)] [] o0 (s_X12_tell hg o0 h) plX12_260 rfl rfl rfl rfl (Nat.le_of_ble_eq_true rfl) (by decide) (fun M7 h => ?_)
    refine pj_iload_n 79 1 rfl rfl rfl rfl ?_
    exact pn_iret h rfl rfl
  · replace h := h.2 hc
    refine pj_aload_n 36 0 rfl rfl rfl rfl ?_
    refine pj_iload_n 37 3 rfl rfl rfl rfl ?_
    refine pn_callVi 40 12 [.int (pj_I x3)] [] o0 (s_X12_reportWithout hg o0 h) plX12_300 rfl rfl rfl rfl (Nat.le_of_ble_eq_true rfl) (by decide) (fun t10 M9 h => ?_)
    refine pj_istore 42 (ls' := [(0, .ref r0), (1, .int (pj_I x1)), (2, .int (pj_I x2)), (3, .int (pj_I x3)), (4, .int (pj_I t10))]) rfl (by decide) rfl rfl ?_
    refine pj_iload_n 43 1 rfl rfl rfl rfl ?_
    refine pj_iconst 44 rfl rfl ?_
    obtain ⟨q11, h⟩ := h
    refine pj_icmp_eq 56 47 rfl (by decide) rfl q11 (show pj_in (-1) by decide) (fun hc => ?_) (fun hc => ?_)
    · replace h := h.1 hc
      refine pn_sub [0, 3, 4] rfl ?_
      exact s_X12_blames_56 hg o0  hk24 h
    · replace h := h.2 hc
      refine pj_iload 49 4 rfl rfl rfl ?_
      refine pj_iload_n 50 2 rfl rfl rfl rfl ?_
      obtain ⟨q12, h⟩ := h
      obtain ⟨q13, h⟩ := h
      refine pj_icmp_lt 56 53 rfl (by decide) rfl q12 q13 (fun hc => ?_) (fun hc => ?_)
      · replace h := h.1 hc
        refine pn_sub [0, 3, 4] rfl ?_
        exact s_X12_blames_56 hg o0  hk24 h
      · replace h := h.2 hc
        refine pj_goto 61 rfl (by decide) ?_
        refine pj_iinc 64 3 (ls' := [(0, .ref r0), (1, .int (pj_I x1)), (2, .int (pj_I x2)), (3, .int (pj_I (x3 + 1))), (4, .int (pj_I t10))]) rfl rfl (by decide) rfl rfl ?_
        refine pj_goto 24 rfl (by decide) ?_
        refine pn_sub [0, 1, 2, 3] rfl ?_
        exact hk24 _ _ _ _ h
set_option maxRecDepth 20000 in
set_option maxHeartbeats 4000000 in
theorem s_X12_blames_24 {l : Launch} {g : pj_G} (hg : pj_ph g = true) {r0 : Nat} {x1 : Int} {x2 : Int} {x3 : Int} {M : pj_M} {Q : Int → pj_M → Prop}  (o0 : pj_ob r0 12)  (h : w_X12_blames_24 r0  Q x1 x2 x3 M) : pj_R l g mdX12_blames pj_T (pj_Zm g mdX12_blames (pj_qi Q)) pj_NK 0 0 24 [(0, .ref r0), (1, .int (pj_I x1)), (2, .int (pj_I x2)), (3, .int (pj_I x3))] [] M :=
  h (fun s => pj_R l g mdX12_blames pj_T (pj_Zm g mdX12_blames (pj_qi Q)) pj_NK 0 0 24 [(0, .ref r0), (1, .int (pj_I (s.1))), (2, .int (pj_I (s.2.1))), (3, .int (pj_I (s.2.2.1)))] [] s.2.2.2) (fun s hs => s_X12_blames_24b hg o0  (fun _ _ _ _ q => q) hs)
set_option maxRecDepth 20000 in
set_option maxHeartbeats 4000000 in
theorem s_X12_blames {l : Launch} {g : pj_G} (hg : pj_ph g = true) {r0 : Nat} {M : pj_M} {Q : Int → pj_M → Prop} (o0 : pj_ob r0 12) (h : w_X12_blames r0 M Q) : pj_S l g mdX12_blames [.ref r0] pj_NK M (pj_qi Q) := by
  refine pj_ofR (ls := [(0, .ref r0)]) gcX12_blames (by decide) rfl (Nat.le_of_ble_eq_true rfl) rfl ?_
  unfold w_X12_blames at h
  refine pj_aload_n 1 0 rfl rfl rfl rfl ?_
  refine pj_iconst 2 rfl rfl ?_
  refine pn_puti 5 12 5 5 o0  rfl pfX12_88 rfl rfl rfl (fun M1 hM1 => ?_)
  replace h := h M1 hM1
  refine pj_aload_n 6 0 rfl rfl rfl rfl ?_
  refine pn_getr 9 12 0 hg o0 (pr_12_0 o0).2 rfl pfX12_9 rfl rfl ?_
  refine pj_bipush 11 rfl (by decide) rfl ?_
  refine pn_iald 12 95 (pr_12_0 o0) (show 0 ≤ (73 : Int) ∧ (73 : Int) < ((95 : Nat) : Int) by decide) rfl rfl ?_
  obtain ⟨q2, h⟩ := h
  refine pj_if_ne 18 15 rfl (by decide) rfl q2  (fun hc => ?_) (fun hc => ?_)
  · replace h := h.1 hc
    refine pj_iconst 19 rfl rfl ?_
    refine pj_istore_n 20 (ls' := [(0, .ref r0), (1, .int (pj_I (-1)))]) rfl rfl (by decide) rfl rfl ?_
    refine pj_iconst 21 rfl rfl ?_
    refine pj_istore_n 22 (ls' := [(0, .ref r0), (1, .int (pj_I (-1))), (2, .int (pj_I 0))]) rfl rfl (by decide) rfl rfl ?_
    refine pj_iconst 23 rfl rfl ?_
    refine pj_istore_n 24 (ls' := [(0, .ref r0), (1, .int (pj_I (-1))), (2, .int (pj_I 0)), (3, .int (pj_I 1))]) rfl rfl (by decide) rfl rfl ?_
    refine pn_sub [0, 1, 2, 3] rfl ?_
    exact s_X12_blames_24 hg o0   h
  · replace h := h.2 (Classical.not_not.mp hc)
    refine pj_bipush 17 rfl (by decide) rfl ?_
    exact pn_iret h rfl rfl
def w_X12_longestWith_55 (r0 : Nat) (x1 : Int) (x2 : Int) (x3 : Int) (y0 : Int) (k12 : Int → pj_M → Prop) (k26 : Int → pj_M → Prop) (Q : Int → pj_M → Prop) (M : pj_M) : Prop :=
  (pj_in y0) ∧ ((y0 = 0 → k26 (x3 + 1) M) ∧ (¬ y0 = 0 → (pj_in (x3 - x2)) ∧ (pj_in ((M r0 29) - (M r0 28))) ∧ (((x3 - x2) ≤ ((M r0 29) - (M r0 28)) → k26 (x3 + 1) M) ∧ (¬ (x3 - x2) ≤ ((M r0 29) - (M r0 28)) → w_X12_isFit r0 x2 x3 M (fun (t12 : Int) (M11 : pj_M) => (pj_in t12) ∧ ((¬ t12 = 0 → ∀ M14 : pj_M, M14 = pj_up M11 r0 28 x2 → ∀ M15 : pj_M, M15 = pj_up M14 r0 29 x3 → k26 (x3 + 1) M15) ∧ (t12 = 0 → k26 (x3 + 1) M11)))))))
def w_X12_longestWith_50 (r0 : Nat) (x1 : Int) (x2 : Int) (x3 : Int) (k12 : Int → pj_M → Prop) (k26 : Int → pj_M → Prop) (Q : Int → pj_M → Prop) (M : pj_M) : Prop :=
  w_X12_longestWith_55 r0 x1 x2 x3 1 k12 k26 Q M
def w_X12_longestWith_54 (r0 : Nat) (x1 : Int) (x2 : Int) (x3 : Int) (k12 : Int → pj_M → Prop) (k26 : Int → pj_M → Prop) (Q : Int → pj_M → Prop) (M : pj_M) : Prop :=
  w_X12_longestWith_55 r0 x1 x2 x3 0 k12 k26 Q M
def w_X12_longestWith_26b (r0 : Nat) (x1 : Int) (x2 : Int) (k12 : Int → pj_M → Prop) (Q : Int → pj_M → Prop) (k26 : Int → pj_M → Prop) (x3 : Int) (M : pj_M) : Prop :=
  (pj_in x3) ∧ (pj_in ((M r0 14) + 2)) ∧ ((((M r0 14) + 2) < x3 → k12 (x2 + 1) M) ∧ (¬ ((M r0 14) + 2) < x3 → (pj_in x1) ∧ ((x1 < 0 → w_X12_longestWith_50 r0 x1 x2 x3 k12 k26 Q M) ∧ (¬ x1 < 0 → (pj_in x2) ∧ (pj_in x1) ∧ ((x1 < x2 → w_X12_longestWith_54 r0 x1 x2 x3 k12 k26 Q M) ∧ (¬ x1 < x2 → (pj_in x1) ∧ (pj_in x3) ∧ ((x3 ≤ x1 → w_X12_longestWith_54 r0 x1 x2 x3 k12 k26 Q M) ∧ (¬ x3 ≤ x1 → w_X12_longestWith_50 r0 x1 x2 x3 k12 k26 Q M))))))))
def w_X12_longestWith_26 (r0 : Nat) (x1 : Int) (x2 : Int) (k12 : Int → pj_M → Prop) (Q : Int → pj_M → Prop) (x3 : Int) (M : pj_M) : Prop := pj_lp (fun (k : Int × pj_M → Prop) (s : Int × pj_M) => w_X12_longestWith_26b r0 x1 x2 k12 Q (fun (x3 : Int) (M : pj_M) => k (x3, M)) s.1 s.2) (x3, M)
def w_X12_longestWith_12b (r0 : Nat) (x1 : Int)  (Q : Int → pj_M → Prop) (k12 : Int → pj_M → Prop) (x2 : Int) (M : pj_M) : Prop :=
  (pj_in x2) ∧ (pj_in ((M r0 14) + 2)) ∧ ((((M r0 14) + 2) < x2 → Q ((M r0 29) - (M r0 28)) M) ∧ (¬ ((M r0 14) + 2) < x2 → w_X12_longestWith_26 r0 x1 x2 k12 Q (x2 + 1) M))
def w_X12_longestWith_12 (r0 : Nat) (x1 : Int)  (Q : Int → pj_M → Prop) (x2 : Int) (M : pj_M) : Prop := pj_lp (fun (k : Int × pj_M → Prop) (s : Int × pj_M) => w_X12_longestWith_12b r0 x1  Q (fun (x2 : Int) (M : pj_M) => k (x2, M)) s.1 s.2) (x2, M)
def w_X12_longestWith (r0 : Nat) (x1 : Int) (M : pj_M) (Q : Int → pj_M → Prop) : Prop :=
  ∀ M1 : pj_M, M1 = pj_up M r0 28 0 → ∀ M2 : pj_M, M2 = pj_up M1 r0 29 0 → w_X12_longestWith_12 r0 x1  Q 0 M2
set_option maxRecDepth 20000 in
set_option maxHeartbeats 4000000 in
theorem s_X12_longestWith_55 {l : Launch} {g : pj_G} (hg : pj_ph g = true) {r0 : Nat} {x1 : Int} {x2 : Int} {x3 : Int} {y0 : Int} {M : pj_M} {Q : Int → pj_M → Prop} {k12 : Int → pj_M → Prop} {k26 : Int → pj_M → Prop} (o0 : pj_ob r0 12) (hk12 : ∀ (x2 : Int) (M : pj_M), k12 x2 M → pj_R l g mdX12_longestWith pj_T (pj_Zm g mdX12_longestWith (pj_qi Q)) pj_NK 0 0 12 [(0, .ref r0), (1, .int (pj_I x1)), (2, .int (pj_I x2))] [] M) (hk26 : ∀ (x3 : Int) (M : pj_M), k26 x3 M → pj_R l g mdX12_longestWith pj_T (pj_Zm g mdX12_longestWith (pj_qi Q)) pj_NK 0 0 26 [(0, .ref r0), (1, .int (pj_I x1)), (2, .int (pj_I x2)), (3, .int (pj_I x3))] [] M) (h : w_X12_longestWith_55 r0 x1 x2 x3 y0 k12 k26 Q M) : pj_R l g mdX12_longestWith pj_T (pj_Zm g mdX12_longestWith (pj_qi Q)) pj_NK 0 0 55 [(0, .ref r0), (1, .int (pj_I x1)), (2, .int (pj_I x2)), (3, .int (pj_I x3))] [.int (pj_I y0)] M := by
  unfold w_X12_longestWith_55 at h
  refine pj_istore 57 (ls' := [(0, .ref r0), (1, .int (pj_I x1)), (2, .int (pj_I x2)), (3, .int (pj_I x3)), (4, .int (pj_I y0))]) rfl (by decide) rfl rfl ?_
  refine pj_iload 59 4 rfl rfl rfl ?_
  obtain ⟨q8, h⟩ := h
  refine pj_if_eq 99 62 rfl (by decide) rfl q8  (fun hc => ?_) (fun hc => ?_)
  · replace h := h.1 hc
    refine pj_iinc 102 3 (ls' := [(0, .ref r0), (1, .int (pj_I x1)), (2, .int (pj_I x2)), (3, .int (pj_I (x3 + 1))), (4, .int (pj_I y0))]) rfl rfl (by decide) rfl rfl ?_
    refine pj_goto 26 rfl (by decide) ?_
    refine pn_sub [0, 1, 2, 3] rfl ?_
    exact hk26 _ _ h
  · replace h := h.2 hc
    refine pj_iload_n 63 3 rfl rfl rfl rfl ?_
    refine pj_iload_n 64 2 rfl rfl rfl rfl ?_
    refine pj_isub 65 rfl rfl ?_
    refine pj_aload_n 66 0 rfl rfl rfl rfl ?_
    refine pn_geti 69 12 29 29 o0 rfl pfX12_306 (Or.inl rfl) rfl rfl ?_
    refine pj_aload_n 70 0 rfl rfl rfl rfl ?_
    refine pn_geti 73 12 28 28 o0 rfl pfX12_303 (Or.inl rfl) rfl rfl ?_
    refine pj_isub 74 rfl rfl ?_
    obtain ⟨q9, h⟩ := h
    obtain ⟨q10, h⟩ := h
    refine pj_icmp_le 99 77 rfl (by decide) rfl q9 q10 (fun hc => ?_) (fun hc => ?_)
    · replace h := h.1 hc
      refine pj_iinc 102 3 (ls' := [(0, .ref r0), (1, .int (pj_I x1)), (2, .int (pj_I x2)), (3, .int (pj_I (x3 + 1))), (4, .int (pj_I y0))]) rfl rfl (by decide) rfl rfl ?_
      refine pj_goto 26 rfl (by decide) ?_
      refine pn_sub [0, 1, 2, 3] rfl ?_
      exact hk26 _ _ h
    · replace h := h.2 hc
      refine pj_aload_n 78 0 rfl rfl rfl rfl ?_
      refine pj_iload_n 79 2 rfl rfl rfl rfl ?_
      refine pj_iload_n 80 3 rfl rfl rfl rfl ?_
      refine pn_callVi 83 12 [.int (pj_I x2), .int (pj_I x3)] [] o0 (s_X12_isFit hg o0 h) plX12_249 rfl rfl rfl rfl (Nat.le_of_ble_eq_true rfl) (by decide) (fun t12 M11 h => ?_)
      obtain ⟨q13, h⟩ := h
      refine pj_if_ne 89 86 rfl (by decide) rfl q13  (fun hc => ?_) (fun hc => ?_)
      · replace h := h.1 hc
        refine pj_aload_n 90 0 rfl rfl rfl rfl ?_
        refine pj_iload_n 91 2 rfl rfl rfl rfl ?_
        refine pn_puti 94 12 28 28 o0  rfl pfX12_303 rfl rfl rfl (fun M14 hM14 => ?_)
        replace h := h M14 hM14
        refine pj_aload_n 95 0 rfl rfl rfl rfl ?_
        refine pj_iload_n 96 3 rfl rfl rfl rfl ?_
        refine pn_puti 99 12 29 29 o0  rfl pfX12_306 rfl rfl rfl (fun M15 hM15 => ?_)
        replace h := h M15 hM15
        refine pj_iinc 102 3 (ls' := [(0, .ref r0), (1, .int (pj_I x1)), (2, .int (pj_I x2)), (3, .int (pj_I (x3 + 1))), (4, .int (pj_I y0))]) rfl rfl (by decide) rfl rfl ?_
        refine pj_goto 26 rfl (by decide) ?_
        refine pn_sub [0, 1, 2, 3] rfl ?_
        exact hk26 _ _ h
      · replace h := h.2 (Classical.not_not.mp hc)
        refine pj_goto 99 rfl (by decide) ?_
        refine pj_iinc 102 3 (ls' := [(0, .ref r0), (1, .int (pj_I x1)), (2, .int (pj_I x2)), (3, .int (pj_I (x3 + 1))), (4, .int (pj_I y0))]) rfl rfl (by decide) rfl rfl ?_
        refine pj_goto 26 rfl (by decide) ?_
        refine pn_sub [0, 1, 2, 3] rfl ?_
        exact hk26 _ _ h
set_option maxRecDepth 20000 in
set_option maxHeartbeats 4000000 in
theorem s_X12_longestWith_50 {l : Launch} {g : pj_G} (hg : pj_ph g = true) {r0 : Nat} {x1 : Int} {x2 : Int} {x3 : Int} {M : pj_M} {Q : Int → pj_M → Prop} {k12 : Int → pj_M → Prop} {k26 : Int → pj_M → Prop} (o0 : pj_ob r0 12) (hk12 : ∀ (x2 : Int) (M : pj_M), k12 x2 M → pj_R l g mdX12_longestWith pj_T (pj_Zm g mdX12_longestWith (pj_qi Q)) pj_NK 0 0 12 [(0, .ref r0), (1, .int (pj_I x1)), (2, .int (pj_I x2))] [] M) (hk26 : ∀ (x3 : Int) (M : pj_M), k26 x3 M → pj_R l g mdX12_longestWith pj_T (pj_Zm g mdX12_longestWith (pj_qi Q)) pj_NK 0 0 26 [(0, .ref r0), (1, .int (pj_I x1)), (2, .int (pj_I x2)), (3, .int (pj_I x3))] [] M) (h : w_X12_longestWith_50 r0 x1 x2 x3 k12 k26 Q M) : pj_R l g mdX12_longestWith pj_T (pj_Zm g mdX12_longestWith (pj_qi Q)) pj_NK 0 0 50 [(0, .ref r0), (1, .int (pj_I x1)), (2, .int (pj_I x2)), (3, .int (pj_I x3))] [] M := by
  unfold w_X12_longestWith_50 at h
  refine pj_iconst 51 rfl rfl ?_
  refine pj_goto 55 rfl (by decide) ?_
  refine pn_sub [0, 1, 2, 3] rfl ?_
  exact s_X12_longestWith_55 hg o0  hk12 hk26 h
set_option maxRecDepth 20000 in
set_option maxHeartbeats 4000000 in
theorem s_X12_longestWith_54 {l : Launch} {g : pj_G} (hg : pj_ph g = true) {r0 : Nat} {x1 : Int} {x2 : Int} {x3 : Int} {M : pj_M} {Q : Int → pj_M → Prop} {k12 : Int → pj_M → Prop} {k26 : Int → pj_M → Prop} (o0 : pj_ob r0 12) (hk12 : ∀ (x2 : Int) (M : pj_M), k12 x2 M → pj_R l g mdX12_longestWith pj_T (pj_Zm g mdX12_longestWith (pj_qi Q)) pj_NK 0 0 12 [(0, .ref r0), (1, .int (pj_I x1)), (2, .int (pj_I x2))] [] M) (hk26 : ∀ (x3 : Int) (M : pj_M), k26 x3 M → pj_R l g mdX12_longestWith pj_T (pj_Zm g mdX12_longestWith (pj_qi Q)) pj_NK 0 0 26 [(0, .ref r0), (1, .int (pj_I x1)), (2, .int (pj_I x2)), (3, .int (pj_I x3))] [] M) (h : w_X12_longestWith_54 r0 x1 x2 x3 k12 k26 Q M) : pj_R l g mdX12_longestWith pj_T (pj_Zm g mdX12_longestWith (pj_qi Q)) pj_NK 0 0 54 [(0, .ref r0), (1, .int (pj_I x1)), (2, .int (pj_I x2)), (3, .int (pj_I x3))] [] M := by
  unfold w_X12_longestWith_54 at h
  refine pj_iconst 55 rfl rfl ?_
  refine pn_sub [0, 1, 2, 3] rfl ?_
  exact s_X12_longestWith_55 hg o0  hk12 hk26 h
set_option maxRecDepth 20000 in
set_option maxHeartbeats 4000000 in
theorem s_X12_longestWith_26b {l : Launch} {g : pj_G} (hg : pj_ph g = true) {r0 : Nat} {x1 : Int} {x2 : Int} {x3 : Int} {M : pj_M} {Q : Int → pj_M → Prop} {k12 : Int → pj_M → Prop} {k26 : Int → pj_M → Prop} (o0 : pj_ob r0 12) (hk12 : ∀ (x2 : Int) (M : pj_M), k12 x2 M → pj_R l g mdX12_longestWith pj_T (pj_Zm g mdX12_longestWith (pj_qi Q)) pj_NK 0 0 12 [(0, .ref r0), (1, .int (pj_I x1)), (2, .int (pj_I x2))] [] M) (hk26 : ∀ (x3 : Int) (M : pj_M), k26 x3 M → pj_R l g mdX12_longestWith pj_T (pj_Zm g mdX12_longestWith (pj_qi Q)) pj_NK 0 0 26 [(0, .ref r0), (1, .int (pj_I x1)), (2, .int (pj_I x2)), (3, .int (pj_I x3))] [] M) (h : w_X12_longestWith_26b r0 x1 x2 k12 Q k26 x3 M) : pj_R l g mdX12_longestWith pj_T (pj_Zm g mdX12_longestWith (pj_qi Q)) pj_NK 0 0 26 [(0, .ref r0), (1, .int (pj_I x1)), (2, .int (pj_I x2)), (3, .int (pj_I x3))] [] M := by
  unfold w_X12_longestWith_26b at h
  refine pj_iload_n 27 3 rfl rfl rfl rfl ?_
  refine pj_aload_n 28 0 rfl rfl rfl rfl ?_
  refine pn_geti 31 12 14 14 o0 rfl pfX12_214 (Or.inl rfl) rfl rfl ?_
  refine pj_iconst 32 rfl rfl ?_
  refine pj_iadd 33 rfl rfl ?_
  obtain ⟨q5, h⟩ := h
  obtain ⟨q6, h⟩ := h
  refine pj_icmp_gt 105 36 rfl (by decide) rfl q5 q6 (fun hc => ?_) (fun hc => ?_)
  · replace h := h.1 hc
    refine pj_iinc 108 2 (ls' := [(0, .ref r0), (1, .int (pj_I x1)), (2, .int (pj_I (x2 + 1))), (3, .int (pj_I x3))]) rfl rfl (by decide) rfl rfl ?_
    refine pj_goto 12 rfl (by decide) ?_
    refine pn_sub [0, 1, 2] rfl ?_
    exact hk12 _ _ h
  · replace h := h.2 hc
    refine pj_iload_n 37 1 rfl rfl rfl rfl ?_
    obtain ⟨q7, h⟩ := h
    refine pj_if_lt 50 40 rfl (by decide) rfl q7  (fun hc => ?_) (fun hc => ?_)
    · replace h := h.1 hc
      refine pn_sub [0, 1, 2, 3] rfl ?_
      exact s_X12_longestWith_50 hg o0  hk12 hk26 h
    · replace h := h.2 hc
      refine pj_iload_n 41 2 rfl rfl rfl rfl ?_
      refine pj_iload_n 42 1 rfl rfl rfl rfl ?_
      obtain ⟨q16, h⟩ := h
      obtain ⟨q17, h⟩ := h
      refine pj_icmp_gt 54 45 rfl (by decide) rfl q16 q17 (fun hc => ?_) (fun hc => ?_)
      · replace h := h.1 hc
        refine pn_sub [0, 1, 2, 3] rfl ?_
        exact s_X12_longestWith_54 hg o0  hk12 hk26 h
      · replace h := h.2 hc
        refine pj_iload_n 46 1 rfl rfl rfl rfl ?_
        refine pj_iload_n 47 3 rfl rfl rfl rfl ?_
        obtain ⟨q18, h⟩ := h
        obtain ⟨q19, h⟩ := h
        refine pj_icmp_ge 54 50 rfl (by decide) rfl q18 q19 (fun hc => ?_) (fun hc => ?_)
        · replace h := h.1 hc
          refine pn_sub [0, 1, 2, 3] rfl ?_
          exact s_X12_longestWith_54 hg o0  hk12 hk26 h
        · replace h := h.2 hc
          refine pn_sub [0, 1, 2, 3] rfl ?_
          exact s_X12_longestWith_50 hg o0  hk12 hk26 h
set_option maxRecDepth 20000 in
set_option maxHeartbeats 4000000 in
theorem s_X12_longestWith_26 {l : Launch} {g : pj_G} (hg : pj_ph g = true) {r0 : Nat} {x1 : Int} {x2 : Int} {x3 : Int} {M : pj_M} {Q : Int → pj_M → Prop} {k12 : Int → pj_M → Prop} (o0 : pj_ob r0 12) (hk12 : ∀ (x2 : Int) (M : pj_M), k12 x2 M → pj_R l g mdX12_longestWith pj_T (pj_Zm g mdX12_longestWith (pj_qi Q)) pj_NK 0 0 12 [(0, .ref r0), (1, .int (pj_I x1)), (2, .int (pj_I x2))] [] M) (h : w_X12_longestWith_26 r0 x1 x2 k12 Q x3 M) : pj_R l g mdX12_longestWith pj_T (pj_Zm g mdX12_longestWith (pj_qi Q)) pj_NK 0 0 26 [(0, .ref r0), (1, .int (pj_I x1)), (2, .int (pj_I x2)), (3, .int (pj_I x3))] [] M :=
  h (fun s => pj_R l g mdX12_longestWith pj_T (pj_Zm g mdX12_longestWith (pj_qi Q)) pj_NK 0 0 26 [(0, .ref r0), (1, .int (pj_I x1)), (2, .int (pj_I x2)), (3, .int (pj_I (s.1)))] [] s.2) (fun s hs => s_X12_longestWith_26b hg o0 hk12 (fun _ _ q => q) hs)
set_option maxRecDepth 20000 in
set_option maxHeartbeats 4000000 in
theorem s_X12_longestWith_12b {l : Launch} {g : pj_G} (hg : pj_ph g = true) {r0 : Nat} {x1 : Int} {x2 : Int} {M : pj_M} {Q : Int → pj_M → Prop}  {k12 : Int → pj_M → Prop} (o0 : pj_ob r0 12)  (hk12 : ∀ (x2 : Int) (M : pj_M), k12 x2 M → pj_R l g mdX12_longestWith pj_T (pj_Zm g mdX12_longestWith (pj_qi Q)) pj_NK 0 0 12 [(0, .ref r0), (1, .int (pj_I x1)), (2, .int (pj_I x2))] [] M) (h : w_X12_longestWith_12b r0 x1  Q k12 x2 M) : pj_R l g mdX12_longestWith pj_T (pj_Zm g mdX12_longestWith (pj_qi Q)) pj_NK 0 0 12 [(0, .ref r0), (1, .int (pj_I x1)), (2, .int (pj_I x2))] [] M := by
  unfold w_X12_longestWith_12b at h
  refine pj_iload_n 13 2 rfl rfl rfl rfl ?_
  refine pj_aload_n 14 0 rfl rfl rfl rfl ?_
  refine pn_geti 17 12 14 14 o0 rfl pfX12_214 (Or.inl rfl) rfl rfl ?_
  refine pj_iconst 18 rfl rfl ?_
  refine pj_iadd 19 rfl rfl ?_
  obtain ⟨q3, h⟩ := h
  obtain ⟨q4, h⟩ := h
  refine pj_icmp_gt 111 22 rfl (by decide) rfl q3 q4 (fun hc => ?_) (fun hc => ?_)
  · replace h := h.1 hc
    refine pj_aload_n 112 0 rfl rfl rfl rfl ?_
    refine pn_geti 115 12 29 29 o0 rfl pfX12_306 (Or.inl rfl) rfl rfl ?_
    refine pj_aload_n 116 0 rfl rfl rfl rfl ?_
    refine pn_geti 119 12 28 28 o0 rfl pfX12_303 (Or.inl rfl) rfl rfl ?_
    refine pj_isub 120 rfl rfl ?_
    exact pn_iret h rfl rfl
  · replace h := h.2 hc
    refine pj_iload_n 23 2 rfl rfl rfl rfl ?_
    refine pj_iconst 24 rfl rfl ?_
    refine pj_iadd 25 rfl rfl ?_
    refine pj_istore_n 26 (ls' := [(0, .ref r0), (1, .int (pj_I x1)), (2, .int (pj_I x2)), (3, .int (pj_I (x2 + 1)))]) rfl rfl (by decide) rfl rfl ?_
    refine pn_sub [0, 1, 2, 3] rfl ?_
    exact s_X12_longestWith_26 hg o0  hk12 h
set_option maxRecDepth 20000 in
set_option maxHeartbeats 4000000 in
theorem s_X12_longestWith_12 {l : Launch} {g : pj_G} (hg : pj_ph g = true) {r0 : Nat} {x1 : Int} {x2 : Int} {M : pj_M} {Q : Int → pj_M → Prop}  (o0 : pj_ob r0 12)  (h : w_X12_longestWith_12 r0 x1  Q x2 M) : pj_R l g mdX12_longestWith pj_T (pj_Zm g mdX12_longestWith (pj_qi Q)) pj_NK 0 0 12 [(0, .ref r0), (1, .int (pj_I x1)), (2, .int (pj_I x2))] [] M :=
  h (fun s => pj_R l g mdX12_longestWith pj_T (pj_Zm g mdX12_longestWith (pj_qi Q)) pj_NK 0 0 12 [(0, .ref r0), (1, .int (pj_I x1)), (2, .int (pj_I (s.1)))] [] s.2) (fun s hs => s_X12_longestWith_12b hg o0  (fun _ _ q => q) hs)
set_option maxRecDepth 20000 in
set_option maxHeartbeats 4000000 in
theorem s_X12_longestWith {l : Launch} {g : pj_G} (hg : pj_ph g = true) {r0 : Nat} {x1 : Int} {M : pj_M} {Q : Int → pj_M → Prop} (o0 : pj_ob r0 12) (h : w_X12_longestWith r0 x1 M Q) : pj_S l g mdX12_longestWith [.ref r0, .int (pj_I x1)] pj_NK M (pj_qi Q) := by
  refine pj_ofR (ls := [(0, .ref r0), (1, .int (pj_I x1))]) gcX12_longestWith (by decide) rfl (Nat.le_of_ble_eq_true rfl) rfl ?_
  unfold w_X12_longestWith at h
  refine pj_aload_n 1 0 rfl rfl rfl rfl ?_
  refine pj_iconst 2 rfl rfl ?_
  refine pn_puti 5 12 28 28 o0  rfl pfX12_303 rfl rfl rfl (fun M1 hM1 => ?_)
  replace h := h M1 hM1
  refine pj_aload_n 6 0 rfl rfl rfl rfl ?_
  refine pj_iconst 7 rfl rfl ?_
  refine pn_puti 10 12 29 29 o0  rfl pfX12_306 rfl rfl rfl (fun M2 hM2 => ?_)
  replace h := h M2 hM2
  refine pj_iconst 11 rfl rfl ?_
  refine pj_istore_n 12 (ls' := [(0, .ref r0), (1, .int (pj_I x1)), (2, .int (pj_I 0))]) rfl rfl (by decide) rfl rfl ?_
  refine pn_sub [0, 1, 2] rfl ?_
  exact s_X12_longestWith_12 hg o0   h
