def w_X12_readRule_66b (r0 : Nat) (x1 : Int)  (Q : pj_M → Prop) (k66 : pj_M → Prop)  (M : pj_M) : Prop :=
  w_X12_fine r0 M (fun (t14 : Int) (M13 : pj_M) => (pj_in t14) ∧ ((t14 = 0 → Q M13) ∧ (¬ t14 = 0 → w_X12_here r0 M13 (fun (t17 : Int) (M16 : pj_M) => (pj_in t17) ∧ ((¬ t17 = 124 → Q M16) ∧ (t17 = 124 → w_X12_readAlternative r0 x1 124 M16 (fun (M19 : pj_M) => k66  M19)))))))
def w_X12_readRule_66 (r0 : Nat) (x1 : Int)  (Q : pj_M → Prop)  (M : pj_M) : Prop := pj_lp (fun (k : pj_M → Prop) (s : pj_M) => w_X12_readRule_66b r0 x1  Q (fun  (M : pj_M) => k M) s) M
def w_X12_readRule_42 (r0 : Nat)  (Q : pj_M → Prop) (M : pj_M) : Prop :=
  w_X12_oneOf r0 65 6 M (fun (t7 : Int) (M6 : pj_M) => w_X12_fine r0 M6 (fun (t9 : Int) (M8 : pj_M) => (pj_in t9) ∧ ((¬ t9 = 0 → w_X12_readAlternative r0 t7 61 M8 (fun (M11 : pj_M) => w_X12_readRule_66 r0 t7  Q  M11)) ∧ (t9 = 0 → Q M8))))
def w_X12_readRule (r0 : Nat) (M : pj_M) (Q : pj_M → Prop) : Prop :=
  w_X12_here r0 M (fun (t2 : Int) (M1 : pj_M) => w_X12_in t2 65 70 M1 (fun (t4 : Int) (M3 : pj_M) => (pj_in t4) ∧ ((t4 = 0 → w_X12_readRule_42 r0  Q M3) ∧ (¬ t4 = 0 → w_X12_ruled (pj_rf r0 9) M3 (fun (t22 : Int) (M21 : pj_M) => w_X12_here r0 M21 (fun (t24 : Int) (M23 : pj_M) => w_X12_has t22 (t24 - 65) M23 (fun (t26 : Int) (M25 : pj_M) => (pj_in t26) ∧ ((t26 = 0 → w_X12_readRule_42 r0  Q M25) ∧ (¬ t26 = 0 → w_X12_fault r0 (M25 r0 7) M25 (fun (M28 : pj_M) => w_X12_readRule_42 r0  Q M28))))))))))
set_option maxRecDepth 20000 in
set_option maxHeartbeats 4000000 in
theorem s_X12_readRule_66b {l : Launch} {g : pj_G} (hg : pj_ph g = true) {r0 : Nat} {x1 : Int} {M : pj_M} {Q : pj_M → Prop}  {k66 : pj_M → Prop} (o0 : pj_ob r0 12)  (hk66 : ∀  (M : pj_M), k66  M → pj_R l g mdX12_readRule pj_T (pj_Zm g mdX12_readRule (pj_qv Q)) pj_NK 0 0 66 [(0, .ref r0), (1, .int (pj_I x1))] [] M) (h : w_X12_readRule_66b r0 x1  Q k66  M) : pj_R l g mdX12_readRule pj_T (pj_Zm g mdX12_readRule (pj_qv Q)) pj_NK 0 0 66 [(0, .ref r0), (1, .int (pj_I x1))] [] M := by
  unfold w_X12_readRule_66b at h
  refine pj_aload_n 67 0 rfl rfl rfl rfl ?_
  refine pn_callVi 70 12 [] [] o0 (s_X12_fine hg o0 h) plX12_111 rfl rfl rfl rfl (Nat.le_of_ble_eq_true rfl) (by decide) (fun t14 M13 h => ?_)
  obtain ⟨q15, h⟩ := h
  refine pj_if_eq 92 73 rfl (by decide) rfl q15  (fun hc => ?_) (fun hc => ?_)
  · replace h := h.1 hc
    exact pn_vret h rfl rfl
  · replace h := h.2 hc
    refine pj_aload_n 74 0 rfl rfl rfl rfl ?_
    refine pn_callVi 77 12 [] [] o0 (s_X12_here hg o0 h) plX12_115 rfl rfl rfl rfl (Nat.le_of_ble_eq_true rfl) (by decide) (fun t17 M16 h => ?_)
    refine pj_bipush 79 rfl (by decide) rfl ?_
    obtain ⟨q18, h⟩ := h
    refine pj_icmp_ne 92 82 rfl (by decide) rfl q18 (show pj_in 124 by decide) (fun hc => ?_) (fun hc => ?_)
    · replace h := h.1 hc
      exact pn_vret h rfl rfl
    · replace h := h.2 (Classical.not_not.mp hc)
      refine pj_aload_n 83 0 rfl rfl rfl rfl ?_
      refine pj_iload_n 84 1 rfl rfl rfl rfl ?_
      refine pj_bipush 86 rfl (by decide) rfl ?_
      refine pn_callVv 89 12 [.int (pj_I x1), .int (pj_I 124)] [] o0 (s_X12_readAlternative hg o0 h) plX12_139 rfl rfl rfl rfl (Nat.le_of_ble_eq_true rfl) (by decide) (fun M19 h => ?_)
      refine pj_goto 66 rfl (by decide) ?_
      refine pn_sub [0, 1] rfl ?_
      exact hk66  _ h
set_option maxRecDepth 20000 in
set_option maxHeartbeats 4000000 in
theorem s_X12_readRule_66 {l : Launch} {g : pj_G} (hg : pj_ph g = true) {r0 : Nat} {x1 : Int} {M : pj_M} {Q : pj_M → Prop}  (o0 : pj_ob r0 12)  (h : w_X12_readRule_66 r0 x1  Q  M) : pj_R l g mdX12_readRule pj_T (pj_Zm g mdX12_readRule (pj_qv Q)) pj_NK 0 0 66 [(0, .ref r0), (1, .int (pj_I x1))] [] M :=
  h (fun s => pj_R l g mdX12_readRule pj_T (pj_Zm g mdX12_readRule (pj_qv Q)) pj_NK 0 0 66 [(0, .ref r0), (1, .int (pj_I x1))] [] s) (fun s hs => s_X12_readRule_66b hg o0  (fun  _ q => q) hs)
set_option maxRecDepth 20000 in
set_option maxHeartbeats 4000000 in
theorem s_X12_readRule_42 {l : Launch} {g : pj_G} (hg : pj_ph g = true) {r0 : Nat} {M : pj_M} {Q : pj_M → Prop}  (o0 : pj_ob r0 12)  (h : w_X12_readRule_42 r0  Q M) : pj_R l g mdX12_readRule pj_T (pj_Zm g mdX12_readRule (pj_qv Q)) pj_NK 0 0 42 [(0, .ref r0)] [] M := by
  unfold w_X12_readRule_42 at h
  refine pj_aload_n 43 0 rfl rfl rfl rfl ?_
  refine pj_bipush 45 rfl (by decide) rfl ?_
  refine pj_bipush 47 rfl (by decide) rfl ?_
  refine pn_callVi 50 12 [.int (pj_I 65), .int (pj_I 6)] [] o0 (s_X12_oneOf hg o0 h) plX12_123 rfl rfl rfl rfl (Nat.le_of_ble_eq_true rfl) (by decide) (fun t7 M6 h => ?_)
  refine pj_istore_n 51 (ls' := [(0, .ref r0), (1, .int (pj_I t7))]) rfl rfl (by decide) rfl rfl ?_
  refine pj_aload_n 52 0 rfl rfl rfl rfl ?_
  refine pn_callVi 55 12 [] [] o0 (s_X12_fine hg o0 h) plX12_111 rfl rfl rfl rfl (Nat.le_of_ble_eq_true rfl) (by decide) (fun t9 M8 h => ?_)
  obtain ⟨q10, h⟩ := h
  refine pj_if_ne 59 58 rfl (by decide) rfl q10  (fun hc => ?_) (fun hc => ?_)
  · replace h := h.1 hc
    refine pj_aload_n 60 0 rfl rfl rfl rfl ?_
    refine pj_iload_n 61 1 rfl rfl rfl rfl ?_
    refine pj_bipush 63 rfl (by decide) rfl ?_
    refine pn_callVv 66 12 [.int (pj_I t7), .int (pj_I 61)] [] o0 (s_X12_readAlternative hg o0 h) plX12_139 rfl rfl rfl rfl (Nat.le_of_ble_eq_true rfl) (by decide) (fun M11 h => ?_)
    refine pn_sub [0, 1] rfl ?_
    exact s_X12_readRule_66 hg o0   h
  · replace h := h.2 (Classical.not_not.mp hc)
    exact pn_vret h rfl rfl
set_option maxRecDepth 20000 in
set_option maxHeartbeats 4000000 in
theorem s_X12_readRule {l : Launch} {g : pj_G} (hg : pj_ph g = true) {r0 : Nat} {M : pj_M} {Q : pj_M → Prop} (o0 : pj_ob r0 12) (h : w_X12_readRule r0 M Q) : pj_S l g mdX12_readRule [.ref r0] pj_NK M (pj_qv Q) := by
  refine pj_ofR (ls := [(0, .ref r0)]) gcX12_readRule (by decide) rfl (Nat.le_of_ble_eq_true rfl) rfl ?_
  unfold w_X12_readRule at h
  refine pj_aload_n 1 0 rfl rfl rfl rfl ?_
  refine pn_callVi 4 12 [] [] o0 (s_X12_here hg o0 h) plX12_115 rfl rfl rfl rfl (Nat.le_of_ble_eq_true rfl) (by decide) (fun t2 M1 h => ?_)
  refine pj_bipush 6 rfl (by decide) rfl ?_
  refine pj_bipush 8 rfl (by decide) rfl ?_
  refine pn_callSi 11 [.int (pj_I t2), .int (pj_I 65), .int (pj_I 70)] [] (s_X12_in hg  h) plX12_98 rfl rfl rfl rfl (Nat.le_of_ble_eq_true rfl) (by decide) (fun t4 M3 h => ?_)
  obtain ⟨q5, h⟩ := h
  refine pj_if_eq 42 14 rfl (by decide) rfl q5  (fun hc => ?_) (fun hc => ?_)
  · replace h := h.1 hc
    refine pn_sub [0] rfl ?_
    exact s_X12_readRule_42 hg o0   h
  · replace h := h.2 hc
    refine pj_aload_n 15 0 rfl rfl rfl rfl ?_
    refine pn_getr 18 12 9 hg o0 (pr_12_9 o0).2 rfl pfX12_21 rfl rfl ?_
    refine pn_callSi 21 [.ref (pj_rf r0 9)] [] (s_X12_ruled hg (pj_oa_of (pr_12_9 o0)) h) plX12_131 rfl rfl rfl rfl (Nat.le_of_ble_eq_true rfl) (by decide) (fun t22 M21 h => ?_)
    refine pj_aload_n 22 0 rfl rfl rfl rfl ?_
    refine pn_callVi 25 12 [] [.int (pj_I t22)] o0 (s_X12_here hg o0 h) plX12_115 rfl rfl rfl rfl (Nat.le_of_ble_eq_true rfl) (by decide) (fun t24 M23 h => ?_)
    refine pj_bipush 27 rfl (by decide) rfl ?_
    refine pj_isub 28 rfl rfl ?_
    refine pn_callSi 31 [.int (pj_I t22), .int (pj_I (t24 - 65))] [] (s_X12_has hg  h) plX12_135 rfl rfl rfl rfl (Nat.le_of_ble_eq_true rfl) (by decide) (fun t26 M25 h => ?_)
    obtain ⟨q27, h⟩ := h
    refine pj_if_eq 42 34 rfl (by decide) rfl q27  (fun hc => ?_) (fun hc => ?_)
    · replace h := h.1 hc
      refine pn_sub [0] rfl ?_
      exact s_X12_readRule_42 hg o0   h
    · replace h := h.2 hc
      refine pj_aload_n 35 0 rfl rfl rfl rfl ?_
      refine pj_aload_n 36 0 rfl rfl rfl rfl ?_
      refine pn_geti 39 12 7 7 o0 rfl pfX12_105 (Or.inl rfl) rfl rfl ?_
      refine pn_callVv 42 12 [.int (pj_I (M25 r0 7))] [] o0 (s_X12_fault hg o0 h) plX12_119 rfl rfl rfl rfl (Nat.le_of_ble_eq_true rfl) (by decide) (fun M28 h => ?_)
      refine pn_sub [0] rfl ?_
      exact s_X12_readRule_42 hg o0   h
def w_X12_hasAllRules_16b (r0 : Nat) (x1 : Int) (x2 : Int) (k7 : Int → pj_M → Prop) (Q : Int → pj_M → Prop) (k16 : Int → pj_M → Prop) (x3 : Int) (M : pj_M) : Prop :=
  w_X12_alt x2 M (fun (t7 : Int) (M6 : pj_M) => ((0 : Int) ≤ (t7 + 1) ∧ (t7 + 1) < ((pj_sh r0).2 : Int)) ∧ (pj_in x3) ∧ (pj_in (M6 r0 (t7 + 1))) ∧ (((M6 r0 (t7 + 1)) ≤ x3 → k7 (x2 + 1) M6) ∧ (¬ (M6 r0 (t7 + 1)) ≤ x3 → w_X12_alt x2 M6 (fun (t12 : Int) (M11 : pj_M) => ((0 : Int) ≤ ((t12 + 2) + x3) ∧ ((t12 + 2) + x3) < ((pj_sh r0).2 : Int)) ∧ (pj_in (M11 r0 ((t12 + 2) + x3))) ∧ (((M11 r0 ((t12 + 2) + x3)) < 8 → k16 (x3 + 1) M11) ∧ (¬ (M11 r0 ((t12 + 2) + x3)) < 8 → w_X12_alt x2 M11 (fun (t16 : Int) (M15 : pj_M) => ((0 : Int) ≤ ((t16 + 2) + x3) ∧ ((t16 + 2) + x3) < ((pj_sh r0).2 : Int)) ∧ w_X12_has x1 ((M15 r0 ((t16 + 2) + x3)) - 8) M15 (fun (t19 : Int) (M18 : pj_M) => (pj_in t19) ∧ ((¬ t19 = 0 → k16 (x3 + 1) M18) ∧ (t19 = 0 → Q 0 M18))))))))))
def w_X12_hasAllRules_16 (r0 : Nat) (x1 : Int) (x2 : Int) (k7 : Int → pj_M → Prop) (Q : Int → pj_M → Prop) (x3 : Int) (M : pj_M) : Prop := pj_lp (fun (k : Int × pj_M → Prop) (s : Int × pj_M) => w_X12_hasAllRules_16b r0 x1 x2 k7 Q (fun (x3 : Int) (M : pj_M) => k (x3, M)) s.1 s.2) (x3, M)
def w_X12_hasAllRules_7b (r0 : Nat) (x1 : Int)  (Q : Int → pj_M → Prop) (k7 : Int → pj_M → Prop) (x2 : Int) (M : pj_M) : Prop :=
  ((0 : Int) ≤ 0 ∧ 0 < ((pj_sh r0).2 : Int)) ∧ (pj_in x2) ∧ (pj_in (M r0 0)) ∧ (((M r0 0) ≤ x2 → Q 1 M) ∧ (¬ (M r0 0) ≤ x2 → w_X12_hasAllRules_16 r0 x1 x2 k7 Q 0 M))
def w_X12_hasAllRules_7 (r0 : Nat) (x1 : Int)  (Q : Int → pj_M → Prop) (x2 : Int) (M : pj_M) : Prop := pj_lp (fun (k : Int × pj_M → Prop) (s : Int × pj_M) => w_X12_hasAllRules_7b r0 x1  Q (fun (x2 : Int) (M : pj_M) => k (x2, M)) s.1 s.2) (x2, M)
def w_X12_hasAllRules (r0 : Nat) (M : pj_M) (Q : Int → pj_M → Prop) : Prop :=
  w_X12_ruled r0 M (fun (t2 : Int) (M1 : pj_M) => w_X12_hasAllRules_7 r0 t2  Q 0 M1)
set_option maxRecDepth 20000 in
set_option maxHeartbeats 4000000 in
theorem s_X12_hasAllRules_16b {l : Launch} {g : pj_G} (hg : pj_ph g = true) {r0 : Nat} {x1 : Int} {x2 : Int} {x3 : Int} {M : pj_M} {Q : Int → pj_M → Prop} {k7 : Int → pj_M → Prop} {k16 : Int → pj_M → Prop} (o0 : pj_ol r0 1 (pj_sh r0).2) (hk7 : ∀ (x2 : Int) (M : pj_M), k7 x2 M → pj_R l g mdX12_hasAllRules pj_T (pj_Zm g mdX12_hasAllRules (pj_qi Q)) pj_NK 0 0 7 [(0, .ref r0), (1, .int (pj_I x1)), (2, .int (pj_I x2))] [] M) (hk16 : ∀ (x3 : Int) (M : pj_M), k16 x3 M → pj_R l g mdX12_hasAllRules pj_T (pj_Zm g mdX12_hasAllRules (pj_qi Q)) pj_NK 0 0 16 [(0, .ref r0), (1, .int (pj_I x1)), (2, .int (pj_I x2)), (3, .int (pj_I x3))] [] M) (h : w_X12_hasAllRules_16b r0 x1 x2 k7 Q k16 x3 M) : pj_R l g mdX12_hasAllRules pj_T (pj_Zm g mdX12_hasAllRules (pj_qi Q)) pj_NK 0 0 16 [(0, .ref r0), (1, .int (pj_I x1)), (2, .int (pj_I x2)), (3, .int (pj_I x3))] [] M := by
  unfold w_X12_hasAllRules_16b at h
  refine pj_iload_n 17 3 rfl rfl rfl rfl ?_
  refine pj_aload_n 18 0 rfl rfl rfl rfl ?_
  refine pj_iload_n 19 2 rfl rfl rfl rfl ?_
  refine pn_callSi 22 [.int (pj_I x2)] [.ref r0, .int (pj_I x3)] (s_X12_alt hg  h) plX12_127 rfl rfl rfl rfl (Nat.le_of_ble_eq_true rfl) (by decide) (fun t7 M6 h => ?_)
  refine pj_iconst 23 rfl rfl ?_
  refine pj_iadd 24 rfl rfl ?_
  obtain ⟨q8, h⟩ := h
  refine pn_iald 25 ((pj_sh r0).2) o0 q8 rfl rfl ?_
  obtain ⟨q9, h⟩ := h
  obtain ⟨q10, h⟩ := h
  refine pj_icmp_ge 71 28 rfl (by decide) rfl q9 q10 (fun hc => ?_) (fun hc => ?_)
  · replace h := h.1 hc
    refine pj_iinc 74 2 (ls' := [(0, .ref r0), (1, .int (pj_I x1)), (2, .int (pj_I (x2 + 1))), (3, .int (pj_I x3))]) rfl rfl (by decide) rfl rfl ?_
    refine pj_goto 7 rfl (by decide) ?_
    refine pn_sub [0, 1, 2] rfl ?_
    exact hk7 _ _ h
  · replace h := h.2 hc
    refine pj_aload_n 29 0 rfl rfl rfl rfl ?_
    refine pj_iload_n 30 2 rfl rfl rfl rfl ?_
    refine pn_callSi 33 [.int (pj_I x2)] [.ref r0] (s_X12_alt hg  h) plX12_127 rfl rfl rfl rfl (Nat.le_of_ble_eq_true rfl) (by decide) (fun t12 M11 h => ?_)
    refine pj_iconst 34 rfl rfl ?_
    refine pj_iadd 35 rfl rfl ?_
    refine pj_iload_n 36 3 rfl rfl rfl rfl ?_
    refine pj_iadd 37 rfl rfl ?_
    obtain ⟨q13, h⟩ := h
    refine pn_iald 38 ((pj_sh r0).2) o0 q13 rfl rfl ?_
    refine pj_bipush 40 rfl (by decide) rfl ?_
    obtain ⟨q14, h⟩ := h
    refine pj_icmp_lt 65 43 rfl (by decide) rfl q14 (show pj_in 8 by decide) (fun hc => ?_) (fun hc => ?_)
    · replace h := h.1 hc
      refine pj_iinc 68 3 (ls' := [(0, .ref r0), (1, .int (pj_I x1)), (2, .int (pj_I x2)), (3, .int (pj_I (x3 + 1)))]) rfl rfl (by decide) rfl rfl ?_
      refine pj_goto 16 rfl (by decide) ?_
      refine pn_sub [0, 1, 2, 3] rfl ?_
      exact hk16 _ _ h
    · replace h := h.2 hc
      refine pj_iload_n 44 1 rfl rfl rfl rfl ?_
      refine pj_aload_n 45 0 rfl rfl rfl rfl ?_
      refine pj_iload_n 46 2 rfl rfl rfl rfl ?_
      refine pn_callSi 49 [.int (pj_I x2)] [.ref r0, .int (pj_I x1)] (s_X12_alt hg  h) plX12_127 rfl rfl rfl rfl (Nat.le_of_ble_eq_true rfl) (by decide) (fun t16 M15 h => ?_)
      refine pj_iconst 50 rfl rfl ?_
      refine pj_iadd 51 rfl rfl ?_
      refine pj_iload_n 52 3 rfl rfl rfl rfl ?_
      refine pj_iadd 53 rfl rfl ?_
      obtain ⟨q17, h⟩ := h
      refine pn_iald 54 ((pj_sh r0).2) o0 q17 rfl rfl ?_
      refine pj_bipush 56 rfl (by decide) rfl ?_
      refine pj_isub 57 rfl rfl ?_
      refine pn_callSi 60 [.int (pj_I x1), .int (pj_I ((M15 r0 ((t16 + 2) + x3)) - 8))] [] (s_X12_has hg  h) plX12_135 rfl rfl rfl rfl (Nat.le_of_ble_eq_true rfl) (by decide) (fun t19 M18 h => ?_)
      obtain ⟨q20, h⟩ := h
      refine pj_if_ne 65 63 rfl (by decide) rfl q20  (fun hc => ?_) (fun hc => ?_)
      · replace h := h.1 hc
        refine pj_iinc 68 3 (ls' := [(0, .ref r0), (1, .int (pj_I x1)), (2, .int (pj_I x2)), (3, .int (pj_I (x3 + 1)))]) rfl rfl (by decide) rfl rfl ?_
        refine pj_goto 16 rfl (by decide) ?_
        refine pn_sub [0, 1, 2, 3] rfl ?_
        exact hk16 _ _ h
      · replace h := h.2 (Classical.not_not.mp hc)
        refine pj_iconst 64 rfl rfl ?_
        exact pn_zret (by decide) h rfl rfl
set_option maxRecDepth 20000 in
set_option maxHeartbeats 4000000 in
theorem s_X12_hasAllRules_16 {l : Launch} {g : pj_G} (hg : pj_ph g = true) {r0 : Nat} {x1 : Int} {x2 : Int} {x3 : Int} {M : pj_M} {Q : Int → pj_M → Prop} {k7 : Int → pj_M → Prop} (o0 : pj_ol r0 1 (pj_sh r0).2) (hk7 : ∀ (x2 : Int) (M : pj_M), k7 x2 M → pj_R l g mdX12_hasAllRules pj_T (pj_Zm g mdX12_hasAllRules (pj_qi Q)) pj_NK 0 0 7 [(0, .ref r0), (1, .int (pj_I x1)), (2, .int (pj_I x2))] [] M) (h : w_X12_hasAllRules_16 r0 x1 x2 k7 Q x3 M) : pj_R l g mdX12_hasAllRules pj_T (pj_Zm g mdX12_hasAllRules (pj_qi Q)) pj_NK 0 0 16 [(0, .ref r0), (1, .int (pj_I x1)), (2, .int (pj_I x2)), (3, .int (pj_I x3))] [] M :=
  h (fun s => pj_R l g mdX12_hasAllRules pj_T (pj_Zm g mdX12_hasAllRules (pj_qi Q)) pj_NK 0 0 16 [(0, .ref r0), (1, .int (pj_I x1)), (2, .int (pj_I x2)), (3, .int (pj_I (s.1)))] [] s.2) (fun s hs => s_X12_hasAllRules_16b hg o0 hk7 (fun _ _ q => q) hs)
set_option maxRecDepth 20000 in
set_option maxHeartbeats 4000000 in
theorem s_X12_hasAllRules_7b {l : Launch} {g : pj_G} (hg : pj_ph g = true) {r0 : Nat} {x1 : Int} {x2 : Int} {M : pj_M} {Q : Int → pj_M → Prop}  {k7 : Int → pj_M → Prop} (o0 : pj_ol r0 1 (pj_sh r0).2)  (hk7 : ∀ (x2 : Int) (M : pj_M), k7 x2 M → pj_R l g mdX12_hasAllRules pj_T (pj_Zm g mdX12_hasAllRules (pj_qi Q)) pj_NK 0 0 7 [(0, .ref r0), (1, .int (pj_I x1)), (2, .int (pj_I x2))] [] M) (h : w_X12_hasAllRules_7b r0 x1  Q k7 x2 M) : pj_R l g mdX12_hasAllRules pj_T (pj_Zm g mdX12_hasAllRules (pj_qi Q)) pj_NK 0 0 7 [(0, .ref r0), (1, .int (pj_I x1)), (2, .int (pj_I x2))] [] M := by
  unfold w_X12_hasAllRules_7b at h
  refine pj_iload_n 8 2 rfl rfl rfl rfl ?_
  refine pj_aload_n 9 0 rfl rfl rfl rfl ?_
  refine pj_iconst 10 rfl rfl ?_
  obtain ⟨q3, h⟩ := h
  refine pn_iald 11 ((pj_sh r0).2) o0 q3 rfl rfl ?_
  obtain ⟨q4, h⟩ := h
  obtain ⟨q5, h⟩ := h
  refine pj_icmp_ge 77 14 rfl (by decide) rfl q4 q5 (fun hc => ?_) (fun hc => ?_)
  · replace h := h.1 hc
    refine pj_iconst 78 rfl rfl ?_
    exact pn_zret (by decide) h rfl rfl
  · replace h := h.2 hc
    refine pj_iconst 15 rfl rfl ?_
    refine pj_istore_n 16 (ls' := [(0, .ref r0), (1, .int (pj_I x1)), (2, .int (pj_I x2)), (3, .int (pj_I 0))]) rfl rfl (by decide) rfl rfl ?_
    refine pn_sub [0, 1, 2, 3] rfl ?_
    exact s_X12_hasAllRules_16 hg o0  hk7 h
set_option maxRecDepth 20000 in
set_option maxHeartbeats 4000000 in
theorem s_X12_hasAllRules_7 {l : Launch} {g : pj_G} (hg : pj_ph g = true) {r0 : Nat} {x1 : Int} {x2 : Int} {M : pj_M} {Q : Int → pj_M → Prop}  (o0 : pj_ol r0 1 (pj_sh r0).2)  (h : w_X12_hasAllRules_7 r0 x1  Q x2 M) : pj_R l g mdX12_hasAllRules pj_T (pj_Zm g mdX12_hasAllRules (pj_qi Q)) pj_NK 0 0 7 [(0, .ref r0), (1, .int (pj_I x1)), (2, .int (pj_I x2))] [] M :=
  h (fun s => pj_R l g mdX12_hasAllRules pj_T (pj_Zm g mdX12_hasAllRules (pj_qi Q)) pj_NK 0 0 7 [(0, .ref r0), (1, .int (pj_I x1)), (2, .int (pj_I (s.1)))] [] s.2) (fun s hs => s_X12_hasAllRules_7b hg o0  (fun _ _ q => q) hs)
set_option maxRecDepth 20000 in
set_option maxHeartbeats 4000000 in
theorem s_X12_hasAllRules {l : Launch} {g : pj_G} (hg : pj_ph g = true) {r0 : Nat} {M : pj_M} {Q : Int → pj_M → Prop} (o0 : pj_oa r0 1) (h : w_X12_hasAllRules r0 M Q) : pj_S l g mdX12_hasAllRules [.ref r0] pj_NK M (pj_qi Q) := by
  refine pj_ofR (ls := [(0, .ref r0)]) gcX12_hasAllRules (by decide) rfl (Nat.le_of_ble_eq_true rfl) rfl ?_
  unfold w_X12_hasAllRules at h
  refine pj_aload_n 1 0 rfl rfl rfl rfl ?_
  refine pn_callSi 4 [.ref r0] [] (s_X12_ruled hg o0 h) plX12_131 rfl rfl rfl rfl (Nat.le_of_ble_eq_true rfl) (by decide) (fun t2 M1 h => ?_)
  refine pj_istore_n 5 (ls' := [(0, .ref r0), (1, .int (pj_I t2))]) rfl rfl (by decide) rfl rfl ?_
  refine pj_iconst 6 rfl rfl ?_
  refine pj_istore_n 7 (ls' := [(0, .ref r0), (1, .int (pj_I t2)), (2, .int (pj_I 0))]) rfl rfl (by decide) rfl rfl ?_
  refine pn_sub [0, 1, 2] rfl ?_
  exact s_X12_hasAllRules_7 hg (pr_len o0)   h
def w_X12_isGood_2b (r0 : Nat) (r1 : Nat) (x2 : Int)  (Q : Int → pj_M → Prop) (k2 : Int → pj_M → Prop) (x3 : Int) (M : pj_M) : Prop :=
  w_X12_alt x2 M (fun (t2 : Int) (M1 : pj_M) => ((0 : Int) ≤ (t2 + 1) ∧ (t2 + 1) < ((pj_sh r1).2 : Int)) ∧ (pj_in x3) ∧ (pj_in (M1 r1 (t2 + 1))) ∧ (((M1 r1 (t2 + 1)) ≤ x3 → Q 1 M1) ∧ (¬ (M1 r1 (t2 + 1)) ≤ x3 → w_X12_alt x2 M1 (fun (t7 : Int) (M6 : pj_M) => ((0 : Int) ≤ ((t7 + 2) + x3) ∧ ((t7 + 2) + x3) < ((pj_sh r1).2 : Int)) ∧ (pj_in (M6 r1 ((t7 + 2) + x3))) ∧ (((M6 r1 ((t7 + 2) + x3)) < 8 → k2 (x3 + 1) M6) ∧ (¬ (M6 r1 ((t7 + 2) + x3)) < 8 → w_X12_alt x2 M6 (fun (t11 : Int) (M10 : pj_M) => ((0 : Int) ≤ ((t11 + 2) + x3) ∧ ((t11 + 2) + x3) < ((pj_sh r1).2 : Int)) ∧ w_X12_has (M6 r0 12) ((M10 r1 ((t11 + 2) + x3)) - 8) M10 (fun (t14 : Int) (M13 : pj_M) => (pj_in t14) ∧ ((¬ t14 = 0 → k2 (x3 + 1) M13) ∧ (t14 = 0 → Q 0 M13))))))))))
def w_X12_isGood_2 (r0 : Nat) (r1 : Nat) (x2 : Int)  (Q : Int → pj_M → Prop) (x3 : Int) (M : pj_M) : Prop := pj_lp (fun (k : Int × pj_M → Prop) (s : Int × pj_M) => w_X12_isGood_2b r0 r1 x2  Q (fun (x3 : Int) (M : pj_M) => k (x3, M)) s.1 s.2) (x3, M)
def w_X12_isGood (r0 : Nat) (r1 : Nat) (x2 : Int) (M : pj_M) (Q : Int → pj_M → Prop) : Prop :=
  w_X12_isGood_2 r0 r1 x2  Q 0 M
set_option maxRecDepth 20000 in
set_option maxHeartbeats 4000000 in
theorem s_X12_isGood_2b {l : Launch} {g : pj_G} (hg : pj_ph g = true) {r0 : Nat} {r1 : Nat} {x2 : Int} {x3 : Int} {M : pj_M} {Q : Int → pj_M → Prop}  {k2 : Int → pj_M → Prop} (o0 : pj_ob r0 12) (o1 : pj_ol r1 1 (pj_sh r1).2)  (hk2 : ∀ (x3 : Int) (M : pj_M), k2 x3 M → pj_R l g mdX12_isGood pj_T (pj_Zm g mdX12_isGood (pj_qi Q)) pj_NK 0 0 2 [(0, .ref r0), (1, .ref r1), (2, .int (pj_I x2)), (3, .int (pj_I x3))] [] M) (h : w_X12_isGood_2b r0 r1 x2  Q k2 x3 M) : pj_R l g mdX12_isGood pj_T (pj_Zm g mdX12_isGood (pj_qi Q)) pj_NK 0 0 2 [(0, .ref r0), (1, .ref r1), (2, .int (pj_I x2)), (3, .int (pj_I x3))] [] M := by
  unfold w_X12_isGood_2b at h
  refine pj_iload_n 3 3 rfl rfl rfl rfl ?_
  refine pj_aload_n 4 1 rfl rfl rfl rfl ?_
  refine pj_iload_n 5 2 rfl rfl rfl rfl ?_
  refine pn_callSi 8 [.int (pj_I x2)] [.ref r1, .int (pj_I x3)] (s_X12_alt hg  h) plX12_127 rfl rfl rfl rfl (Nat.le_of_ble_eq_true rfl) (by decide) (fun t2 M1 h => ?_)
  refine pj_iconst 9 rfl rfl ?_
  refine pj_iadd 10 rfl rfl ?_
  obtain ⟨q3, h⟩ := h
  refine pn_iald 11 ((pj_sh r1).2) o1 q3 rfl rfl ?_
  obtain ⟨q4, h⟩ := h
  obtain ⟨q5, h⟩ := h
  refine pj_icmp_ge 60 14 rfl (by decide) rfl q4 q5 (fun hc => ?_) (fun hc => ?_)
  · replace h := h.1 hc
    refine pj_iconst 61 rfl rfl ?_
    exact pn_zret (by decide) h rfl rfl
  · replace h := h.2 hc
    refine pj_aload_n 15 1 rfl rfl rfl rfl ?_
    refine pj_iload_n 16 2 rfl rfl rfl rfl ?_
    refine pn_callSi 19 [.int (pj_I x2)] [.ref r1] (s_X12_alt hg  h) plX12_127 rfl rfl rfl rfl (Nat.le_of_ble_eq_true rfl) (by decide) (fun t7 M6 h => ?_)
    refine pj_iconst 20 rfl rfl ?_
    refine pj_iadd 21 rfl rfl ?_
    refine pj_iload_n 22 3 rfl rfl rfl rfl ?_
    refine pj_iadd 23 rfl rfl ?_
    obtain ⟨q8, h⟩ := h
    refine pn_iald 24 ((pj_sh r1).2) o1 q8 rfl rfl ?_
    refine pj_bipush 26 rfl (by decide) rfl ?_
    obtain ⟨q9, h⟩ := h
    refine pj_icmp_lt 54 29 rfl (by decide) rfl q9 (show pj_in 8 by decide) (fun hc => ?_) (fun hc => ?_)
    · replace h := h.1 hc
      refine pj_iinc 57 3 (ls' := [(0, .ref r0), (1, .ref r1), (2, .int (pj_I x2)), (3, .int (pj_I (x3 + 1)))]) rfl rfl (by decide) rfl rfl ?_
      refine pj_goto 2 rfl (by decide) ?_
      refine pn_sub [0, 1, 2, 3] rfl ?_
      exact hk2 _ _ h
    · replace h := h.2 hc
      refine pj_aload_n 30 0 rfl rfl rfl rfl ?_
      refine pn_geti 33 12 12 12 o0 rfl pfX12_160 (Or.inl rfl) rfl rfl ?_
      refine pj_aload_n 34 1 rfl rfl rfl rfl ?_
      refine pj_iload_n 35 2 rfl rfl rfl rfl ?_
      refine pn_callSi 38 [.int (pj_I x2)] [.ref r1, .int (pj_I (M6 r0 12))] (s_X12_alt hg  h) plX12_127 rfl rfl rfl rfl (Nat.le_of_ble_eq_true rfl) (by decide) (fun t11 M10 h => ?_)
      refine pj_iconst 39 rfl rfl ?_
      refine pj_iadd 40 rfl rfl ?_
      refine pj_iload_n 41 3 rfl rfl rfl rfl ?_
      refine pj_iadd 42 rfl rfl ?_
      obtain ⟨q12, h⟩ := h
      refine pn_iald 43 ((pj_sh r1).2) o1 q12 rfl rfl ?_
      refine pj_bipush 45 rfl (by decide) rfl ?_
      refine pj_isub 46 rfl rfl ?_
      refine pn_callSi 49 [.int (pj_I (M6 r0 12)), .int (pj_I ((M10 r1 ((t11 + 2) + x3)) - 8))] [] (s_X12_has hg  h) plX12_135 rfl rfl rfl rfl (Nat.le_of_ble_eq_true rfl) (by decide) (fun t14 M13 h => ?_)
      obtain ⟨q15, h⟩ := h
      refine pj_if_ne 54 52 rfl (by decide) rfl q15  (fun hc => ?_) (fun hc => ?_)
      · replace h := h.1 hc
        refine pj_iinc 57 3 (ls' := [(0, .ref r0), (1, .ref r1), (2, .int (pj_I x2)), (3, .int (pj_I (x3 + 1)))]) rfl rfl (by decide) rfl rfl ?_
        refine pj_goto 2 rfl (by decide) ?_
        refine pn_sub [0, 1, 2, 3] rfl ?_
        exact hk2 _ _ h
      · replace h := h.2 (Classical.not_not.mp hc)
        refine pj_iconst 53 rfl rfl ?_
        exact pn_zret (by decide) h rfl rfl
set_option maxRecDepth 20000 in
set_option maxHeartbeats 4000000 in
theorem s_X12_isGood_2 {l : Launch} {g : pj_G} (hg : pj_ph g = true) {r0 : Nat} {r1 : Nat} {x2 : Int} {x3 : Int} {M : pj_M} {Q : Int → pj_M → Prop}  (o0 : pj_ob r0 12) (o1 : pj_ol r1 1 (pj_sh r1).2)  (h : w_X12_isGood_2 r0 r1 x2  Q x3 M) : pj_R l g mdX12_isGood pj_T (pj_Zm g mdX12_isGood (pj_qi Q)) pj_NK 0 0 2 [(0, .ref r0), (1, .ref r1), (2, .int (pj_I x2)), (3, .int (pj_I x3))] [] M :=
  h (fun s => pj_R l g mdX12_isGood pj_T (pj_Zm g mdX12_isGood (pj_qi Q)) pj_NK 0 0 2 [(0, .ref r0), (1, .ref r1), (2, .int (pj_I x2)), (3, .int (pj_I (s.1)))] [] s.2) (fun s hs => s_X12_isGood_2b hg o0 o1  (fun _ _ q => q) hs)
set_option maxRecDepth 20000 in
set_option maxHeartbeats 4000000 in
theorem s_X12_isGood {l : Launch} {g : pj_G} (hg : pj_ph g = true) {r0 : Nat} {r1 : Nat} {x2 : Int} {M : pj_M} {Q : Int → pj_M → Prop} (o0 : pj_ob r0 12) (o1 : pj_oa r1 1) (h : w_X12_isGood r0 r1 x2 M Q) : pj_S l g mdX12_isGood [.ref r0, .ref r1, .int (pj_I x2)] pj_NK M (pj_qi Q) := by
  refine pj_ofR (ls := [(0, .ref r0), (1, .ref r1), (2, .int (pj_I x2))]) gcX12_isGood (by decide) rfl (Nat.le_of_ble_eq_true rfl) rfl ?_
  unfold w_X12_isGood at h
  refine pj_iconst 1 rfl rfl ?_
  refine pj_istore_n 2 (ls' := [(0, .ref r0), (1, .ref r1), (2, .int (pj_I x2)), (3, .int (pj_I 0))]) rfl rfl (by decide) rfl rfl ?_
  refine pn_sub [0, 1, 2, 3] rfl ?_
  exact s_X12_isGood_2 hg o0 (pr_len o1)   h
def w_X12_layGood_22b (r0 : Nat) (r1 : Nat) (x2 : Int) (k7 : Int → pj_M → Prop) (Q : pj_M → Prop) (k22 : Int → pj_M → Prop) (x3 : Int) (M : pj_M) : Prop :=
  ((0 : Int) ≤ 0 ∧ 0 < ((pj_sh r1).2 : Int)) ∧ (pj_in x3) ∧ (pj_in (M r1 0)) ∧ (((M r1 0) ≤ x3 → k7 x2 M) ∧ (¬ (M r1 0) ≤ x3 → w_X12_isGood r0 r1 x3 M (fun (t9 : Int) (M8 : pj_M) => (pj_in t9) ∧ ((t9 = 0 → k22 (x3 + 1) M8) ∧ (¬ t9 = 0 → w_X12_alt x3 M8 (fun (t12 : Int) (M11 : pj_M) => ((0 : Int) ≤ t12 ∧ t12 < ((pj_sh r1).2 : Int)) ∧ ∀ M14 : pj_M, M14 = pj_up M11 r0 12 (pj_or (M8 r0 12) (pj_shl 1 (M11 r1 t12))) → k22 (x3 + 1) M14))))))
def w_X12_layGood_22 (r0 : Nat) (r1 : Nat) (x2 : Int) (k7 : Int → pj_M → Prop) (Q : pj_M → Prop) (x3 : Int) (M : pj_M) : Prop := pj_lp (fun (k : Int × pj_M → Prop) (s : Int × pj_M) => w_X12_layGood_22b r0 r1 x2 k7 Q (fun (x3 : Int) (M : pj_M) => k (x3, M)) s.1 s.2) (x3, M)
def w_X12_layGood_7b (r0 : Nat) (r1 : Nat)  (Q : pj_M → Prop) (k7 : Int → pj_M → Prop) (x2 : Int) (M : pj_M) : Prop :=
  (pj_in x2) ∧ (pj_in (M r0 12)) ∧ ((x2 = (M r0 12) → Q M) ∧ (¬ x2 = (M r0 12) → ∀ z4 : Int, z4 = (M r0 12) → w_X12_layGood_22 r0 r1 z4 k7 Q 0 M))
def w_X12_layGood_7 (r0 : Nat) (r1 : Nat)  (Q : pj_M → Prop) (x2 : Int) (M : pj_M) : Prop := pj_lp (fun (k : Int × pj_M → Prop) (s : Int × pj_M) => w_X12_layGood_7b r0 r1  Q (fun (x2 : Int) (M : pj_M) => k (x2, M)) s.1 s.2) (x2, M)
def w_X12_layGood (r0 : Nat) (r1 : Nat) (M : pj_M) (Q : pj_M → Prop) : Prop :=
  ∀ M1 : pj_M, M1 = pj_up M r0 12 0 → w_X12_layGood_7 r0 r1  Q (-1) M1
set_option maxRecDepth 20000 in
set_option maxHeartbeats 4000000 in
theorem s_X12_layGood_22b {l : Launch} {g : pj_G} (hg : pj_ph g = true) {r0 : Nat} {r1 : Nat} {x2 : Int} {x3 : Int} {M : pj_M} {Q : pj_M → Prop} {k7 : Int → pj_M → Prop} {k22 : Int → pj_M → Prop} (o0 : pj_ob r0 12) (o1 : pj_ol r1 1 (pj_sh r1).2) (hk7 : ∀ (x2 : Int) (M : pj_M), k7 x2 M → pj_R l g mdX12_layGood pj_T (pj_Zm g mdX12_layGood (pj_qv Q)) pj_NK 0 0 7 [(0, .ref r0), (1, .ref r1), (2, .int (pj_I x2))] [] M) (hk22 : ∀ (x3 : Int) (M : pj_M), k22 x3 M → pj_R l g mdX12_layGood pj_T (pj_Zm g mdX12_layGood (pj_qv Q)) pj_NK 0 0 22 [(0, .ref r0), (1, .ref r1), (2, .int (pj_I x2)), (3, .int (pj_I x3))] [] M) (h : w_X12_layGood_22b r0 r1 x2 k7 Q k22 x3 M) : pj_R l g mdX12_layGood pj_T (pj_Zm g mdX12_layGood (pj_qv Q)) pj_NK 0 0 22 [(0, .ref r0), (1, .ref r1), (2, .int (pj_I x2)), (3, .int (pj_I x3))] [] M := by
  unfold w_X12_layGood_22b at h
  refine pj_iload_n 23 3 rfl rfl rfl rfl ?_
  refine pj_aload_n 24 1 rfl rfl rfl rfl ?_
  refine pj_iconst 25 rfl rfl ?_
  obtain ⟨q5, h⟩ := h
  refine pn_iald 26 ((pj_sh r1).2) o1 q5 rfl rfl ?_
  obtain ⟨q6, h⟩ := h
  obtain ⟨q7, h⟩ := h
  refine pj_icmp_ge 61 29 rfl (by decide) rfl q6 q7 (fun hc => ?_) (fun hc => ?_)
  · replace h := h.1 hc
    refine pj_goto 7 rfl (by decide) ?_
    refine pn_sub [0, 1, 2] rfl ?_
    exact hk7 _ _ h
  · replace h := h.2 hc
    refine pj_aload_n 30 0 rfl rfl rfl rfl ?_
    refine pj_aload_n 31 1 rfl rfl rfl rfl ?_
    refine pj_iload_n 32 3 rfl rfl rfl rfl ?_
    refine pn_callVi 35 12 [.ref r1, .int (pj_I x3)] [] o0 (s_X12_isGood hg o0 (pj_oa_of o1) h) plX12_172 rfl rfl rfl rfl (Nat.le_of_ble_eq_true rfl) (by decide) (fun t9 M8 h => ?_)
    obtain ⟨q10, h⟩ := h
    refine pj_if_eq 55 38 rfl (by decide) rfl q10  (fun hc => ?_) (fun hc => ?_)
    · replace h := h.1 hc
      refine pj_iinc 58 3 (ls' := [(0, .ref r0), (1, .ref r1), (2, .int (pj_I x2)), (3, .int (pj_I (x3 + 1)))]) rfl rfl (by decide) rfl rfl ?_
      refine pj_goto 22 rfl (by decide) ?_
      refine pn_sub [0, 1, 2, 3] rfl ?_
      exact hk22 _ _ h
    · replace h := h.2 hc
      refine pj_aload_n 39 0 rfl rfl rfl rfl ?_
      refine pj_dup 40 rfl rfl rfl ?_
      refine pn_geti 43 12 12 12 o0 rfl pfX12_160 (Or.inl rfl) rfl rfl ?_
      refine pj_iconst 44 rfl rfl ?_
      refine pj_aload_n 45 1 rfl rfl rfl rfl ?_
      refine pj_iload_n 46 3 rfl rfl rfl rfl ?_
      refine pn_callSi 49 [.int (pj_I x3)] [.ref r1, .int (pj_I 1), .int (pj_I (M8 r0 12)), .ref r0] (s_X12_alt hg  h) plX12_127 rfl rfl rfl rfl (Nat.le_of_ble_eq_true rfl) (by decide) (fun t12 M11 h => ?_)
      obtain ⟨q13, h⟩ := h
      refine pn_iald 50 ((pj_sh r1).2) o1 q13 rfl rfl ?_
      refine pj_ishl 51 rfl rfl ?_
      refine pj_ior 52 rfl rfl ?_
      refine pn_puti 55 12 12 12 o0  rfl pfX12_160 rfl rfl rfl (fun M14 hM14 => ?_)
      replace h := h M14 hM14
      refine pj_iinc 58 3 (ls' := [(0, .ref r0), (1, .ref r1), (2, .int (pj_I x2)), (3, .int (pj_I (x3 + 1)))]) rfl rfl (by decide) rfl rfl ?_
      refine pj_goto 22 rfl (by decide) ?_
      refine pn_sub [0, 1, 2, 3] rfl ?_
      exact hk22 _ _ h
set_option maxRecDepth 20000 in
set_option maxHeartbeats 4000000 in
theorem s_X12_layGood_22 {l : Launch} {g : pj_G} (hg : pj_ph g = true) {r0 : Nat} {r1 : Nat} {x2 : Int} {x3 : Int} {M : pj_M} {Q : pj_M → Prop} {k7 : Int → pj_M → Prop} (o0 : pj_ob r0 12) (o1 : pj_ol r1 1 (pj_sh r1).2) (hk7 : ∀ (x2 : Int) (M : pj_M), k7 x2 M → pj_R l g mdX12_layGood pj_T (pj_Zm g mdX12_layGood (pj_qv Q)) pj_NK 0 0 7 [(0, .ref r0), (1, .ref r1), (2, .int (pj_I x2))] [] M) (h : w_X12_layGood_22 r0 r1 x2 k7 Q x3 M) : pj_R l g mdX12_layGood pj_T (pj_Zm g mdX12_layGood (pj_qv Q)) pj_NK 0 0 22 [(0, .ref r0), (1, .ref r1), (2, .int (pj_I x2)), (3, .int (pj_I x3))] [] M :=
  h (fun s => pj_R l g mdX12_layGood pj_T (pj_Zm g mdX12_layGood (pj_qv Q)) pj_NK 0 0 22 [(0, .ref r0), (1, .ref r1), (2, .int (pj_I x2)), (3, .int (pj_I (s.1)))] [] s.2) (fun s hs => s_X12_layGood_22b hg o0 o1 hk7 (fun _ _ q => q) hs)
set_option maxRecDepth 20000 in
set_option maxHeartbeats 4000000 in
theorem s_X12_layGood_7b {l : Launch} {g : pj_G} (hg : pj_ph g = true) {r0 : Nat} {r1 : Nat} {x2 : Int} {M : pj_M} {Q : pj_M → Prop}  {k7 : Int → pj_M → Prop} (o0 : pj_ob r0 12) (o1 : pj_ol r1 1 (pj_sh r1).2)  (hk7 : ∀ (x2 : Int) (M : pj_M), k7 x2 M → pj_R l g mdX12_layGood pj_T (pj_Zm g mdX12_layGood (pj_qv Q)) pj_NK 0 0 7 [(0, .ref r0), (1, .ref r1), (2, .int (pj_I x2))] [] M) (h : w_X12_layGood_7b r0 r1  Q k7 x2 M) : pj_R l g mdX12_layGood pj_T (pj_Zm g mdX12_layGood (pj_qv Q)) pj_NK 0 0 7 [(0, .ref r0), (1, .ref r1), (2, .int (pj_I x2))] [] M := by
  unfold w_X12_layGood_7b at h
  refine pj_iload_n 8 2 rfl rfl rfl rfl ?_
  refine pj_aload_n 9 0 rfl rfl rfl rfl ?_
  refine pn_geti 12 12 12 12 o0 rfl pfX12_160 (Or.inl rfl) rfl rfl ?_
  obtain ⟨q2, h⟩ := h
  obtain ⟨q3, h⟩ := h
  refine pj_icmp_eq 64 15 rfl (by decide) rfl q2 q3 (fun hc => ?_) (fun hc => ?_)
  · replace h := h.1 hc
    exact pn_vret h rfl rfl
  · replace h := h.2 hc
    refine pj_aload_n 16 0 rfl rfl rfl rfl ?_
    refine pn_geti 19 12 12 12 o0 rfl pfX12_160 (Or.inl rfl) rfl rfl ?_
    refine pn_nm (fun z4 hz4 => ?_)
    replace h := h z4 hz4
    refine pj_istore_n 20 (ls' := [(0, .ref r0), (1, .ref r1), (2, .int (pj_I z4))]) rfl rfl (by decide) rfl rfl ?_
    refine pj_iconst 21 rfl rfl ?_
    refine pj_istore_n 22 (ls' := [(0, .ref r0), (1, .ref r1), (2, .int (pj_I z4)), (3, .int (pj_I 0))]) rfl rfl (by decide) rfl rfl ?_
    refine pn_sub [0, 1, 2, 3] rfl ?_
    exact s_X12_layGood_22 hg o0 o1  hk7 h
set_option maxRecDepth 20000 in
set_option maxHeartbeats 4000000 in
theorem s_X12_layGood_7 {l : Launch} {g : pj_G} (hg : pj_ph g = true) {r0 : Nat} {r1 : Nat} {x2 : Int} {M : pj_M} {Q : pj_M → Prop}  (o0 : pj_ob r0 12) (o1 : pj_ol r1 1 (pj_sh r1).2)  (h : w_X12_layGood_7 r0 r1  Q x2 M) : pj_R l g mdX12_layGood pj_T (pj_Zm g mdX12_layGood (pj_qv Q)) pj_NK 0 0 7 [(0, .ref r0), (1, .ref r1), (2, .int (pj_I x2))] [] M :=
  h (fun s => pj_R l g mdX12_layGood pj_T (pj_Zm g mdX12_layGood (pj_qv Q)) pj_NK 0 0 7 [(0, .ref r0), (1, .ref r1), (2, .int (pj_I (s.1)))] [] s.2) (fun s hs => s_X12_layGood_7b hg o0 o1  (fun _ _ q => q) hs)
set_option maxRecDepth 20000 in
set_option maxHeartbeats 4000000 in
theorem s_X12_layGood {l : Launch} {g : pj_G} (hg : pj_ph g = true) {r0 : Nat} {r1 : Nat} {M : pj_M} {Q : pj_M → Prop} (o0 : pj_ob r0 12) (o1 : pj_oa r1 1) (h : w_X12_layGood r0 r1 M Q) : pj_S l g mdX12_layGood [.ref r0, .ref r1] pj_NK M (pj_qv Q) := by
  refine pj_ofR (ls := [(0, .ref r0), (1, .ref r1)]) gcX12_layGood (by decide) rfl (Nat.le_of_ble_eq_true rfl) rfl ?_
  unfold w_X12_layGood at h
  refine pj_aload_n 1 0 rfl rfl rfl rfl ?_
  refine pj_iconst 2 rfl rfl ?_
  refine pn_puti 5 12 12 12 o0  rfl pfX12_160 rfl rfl rfl (fun M1 hM1 => ?_)
  replace h := h M1 hM1
  refine pj_iconst 6 rfl rfl ?_
  refine pj_istore_n 7 (ls' := [(0, .ref r0), (1, .ref r1), (2, .int (pj_I (-1)))]) rfl rfl (by decide) rfl rfl ?_
  refine pn_sub [0, 1, 2] rfl ?_
  exact s_X12_layGood_7 hg o0 (pr_len o1)   h
def w_X12_note_51b (r0 : Nat)  (Q : pj_M → Prop) (k51 : Int → pj_M → Prop) (x1 : Int) (M : pj_M) : Prop :=
  (pj_in x1) ∧ ((95 ≤ x1 → ∀ M3 : pj_M, M3 = pj_up M r0 34 ((M r0 34) + 1) → Q M3) ∧ (¬ 95 ≤ x1 → ((0 : Int) ≤ x1 ∧ x1 < 95) ∧ ((0 : Int) ≤ ((95 * (M r0 34)) + x1) ∧ ((95 * (M r0 34)) + x1) < 950) ∧ ∀ M6 : pj_M, M6 = pj_up M (pj_rf r0 33) ((95 * (M r0 34)) + x1) (M (pj_rf r0 35) x1) → k51 (x1 + 1) M6))
def w_X12_note_51 (r0 : Nat)  (Q : pj_M → Prop) (x1 : Int) (M : pj_M) : Prop := pj_lp (fun (k : Int × pj_M → Prop) (s : Int × pj_M) => w_X12_note_51b r0  Q (fun (x1 : Int) (M : pj_M) => k (x1, M)) s.1 s.2) (x1, M)
def w_X12_note_49 (r0 : Nat)  (Q : pj_M → Prop) (M : pj_M) : Prop :=
  w_X12_note_51 r0  Q 0 M
def w_X12_note_11b (r0 : Nat)  (Q : pj_M → Prop) (k11 : Int → pj_M → Prop) (x1 : Int) (M : pj_M) : Prop :=
  (pj_in x1) ∧ ((855 ≤ x1 → ∀ M8 : pj_M, M8 = pj_up M r0 34 ((M r0 34) - 1) → w_X12_note_49 r0  Q M8) ∧ (¬ 855 ≤ x1 → ((0 : Int) ≤ (x1 + 95) ∧ (x1 + 95) < 950) ∧ ((0 : Int) ≤ x1 ∧ x1 < 950) ∧ ∀ M11 : pj_M, M11 = pj_up M (pj_rf r0 33) x1 (M (pj_rf r0 33) (x1 + 95)) → k11 (x1 + 1) M11))
def w_X12_note_11 (r0 : Nat)  (Q : pj_M → Prop) (x1 : Int) (M : pj_M) : Prop := pj_lp (fun (k : Int × pj_M → Prop) (s : Int × pj_M) => w_X12_note_11b r0  Q (fun (x1 : Int) (M : pj_M) => k (x1, M)) s.1 s.2) (x1, M)
def w_X12_note (r0 : Nat) (M : pj_M) (Q : pj_M → Prop) : Prop :=
  (pj_in (M r0 34)) ∧ ((¬ (M r0 34) = 10 → w_X12_note_49 r0  Q M) ∧ ((M r0 34) = 10 → w_X12_note_11 r0  Q 0 M))
set_option maxRecDepth 20000 in
set_option maxHeartbeats 4000000 in
theorem s_X12_note_51b {l : Launch} {g : pj_G} (hg : pj_ph g = true) {r0 : Nat} {x1 : Int} {M : pj_M} {Q : pj_M → Prop}  {k51 : Int → pj_M → Prop} (o0 : pj_ob r0 12)  (hk51 : ∀ (x1 : Int) (M : pj_M), k51 x1 M → pj_R l g mdX12_note pj_T (pj_Zm g mdX12_note (pj_qv Q)) pj_NK 0 0 51 [(0, .ref r0), (1, .int (pj_I x1))] [] M) (h : w_X12_note_51b r0  Q k51 x1 M) : pj_R l g mdX12_note pj_T (pj_Zm g mdX12_note (pj_qv Q)) pj_NK 0 0 51 [(0, .ref r0), (1, .int (pj_I x1))] [] M := by
  unfold w_X12_note_51b at h
  refine pj_iload_n 52 1 rfl rfl rfl rfl ?_
  refine pj_bipush 54 rfl (by decide) rfl ?_
  obtain ⟨q2, h⟩ := h
  refine pj_icmp_ge 83 57 rfl (by decide) rfl q2 (show pj_in 95 by decide) (fun hc => ?_) (fun hc => ?_)
  · replace h := h.1 hc
    refine pj_aload_n 84 0 rfl rfl rfl rfl ?_
    refine pj_dup 85 rfl rfl rfl ?_
    refine pn_geti 88 12 34 34 o0 rfl pfX12_342 (Or.inl rfl) rfl rfl ?_
    refine pj_iconst 89 rfl rfl ?_
    refine pj_iadd 90 rfl rfl ?_
    refine pn_puti 93 12 34 34 o0  rfl pfX12_342 rfl rfl rfl (fun M3 hM3 => ?_)
    replace h := h M3 hM3
    exact pn_vret h rfl rfl
  · replace h := h.2 hc
    refine pj_aload_n 58 0 rfl rfl rfl rfl ?_
    refine pn_getr 61 12 33 hg o0 (pr_12_33 o0).2 rfl pfX12_79 rfl rfl ?_
    refine pj_bipush 63 rfl (by decide) rfl ?_
    refine pj_aload_n 64 0 rfl rfl rfl rfl ?_
    refine pn_geti 67 12 34 34 o0 rfl pfX12_342 (Or.inl rfl) rfl rfl ?_
    refine pj_imul 68 rfl rfl ?_
    refine pj_iload_n 69 1 rfl rfl rfl rfl ?_
    refine pj_iadd 70 rfl rfl ?_
    refine pj_aload_n 71 0 rfl rfl rfl rfl ?_
    refine pn_getr 74 12 35 hg o0 (pr_12_35 o0).2 rfl pfX12_82 rfl rfl ?_
    refine pj_iload_n 75 1 rfl rfl rfl rfl ?_
    obtain ⟨q4, h⟩ := h
    refine pn_iald 76 95 (pr_12_35 o0) q4 rfl rfl ?_
    obtain ⟨q5, h⟩ := h
    refine pn_iast 77 950 (pr_12_33 o0)  q5 rfl rfl (fun M6 hM6 => ?_)
    replace h := h M6 hM6
    refine pj_iinc 80 1 (ls' := [(0, .ref r0), (1, .int (pj_I (x1 + 1)))]) rfl rfl (by decide) rfl rfl ?_
    refine pj_goto 51 rfl (by decide) ?_
    refine pn_sub [0, 1] rfl ?_
    exact hk51 _ _ h
set_option maxRecDepth 20000 in
set_option maxHeartbeats 4000000 in
theorem s_X12_note_51 {l : Launch} {g : pj_G} (hg : pj_ph g = true) {r0 : Nat} {x1 : Int} {M : pj_M} {Q : pj_M → Prop}  (o0 : pj_ob r0 12)  (h : w_X12_note_51 r0  Q x1 M) : pj_R l g mdX12_note pj_T (pj_Zm g mdX12_note (pj_qv Q)) pj_NK 0 0 51 [(0, .ref r0), (1, .int (pj_I x1))] [] M :=
  h (fun s => pj_R l g mdX12_note pj_T (pj_Zm g mdX12_note (pj_qv Q)) pj_NK 0 0 51 [(0, .ref r0), (1, .int (pj_I (s.1)))] [] s.2) (fun s hs => s_X12_note_51b hg o0  (fun _ _ q => q) hs)
set_option maxRecDepth 20000 in
set_option maxHeartbeats 4000000 in
theorem s_X12_note_49 {l : Launch} {g : pj_G} (hg : pj_ph g = true) {r0 : Nat} {M : pj_M} {Q : pj_M → Prop}  (o0 : pj_ob r0 12)  (h : w_X12_note_49 r0  Q M) : pj_R l g mdX12_note pj_T (pj_Zm g mdX12_note (pj_qv Q)) pj_NK 0 0 49 [(0, .ref r0)] [] M := by
  unfold w_X12_note_49 at h
  refine pj_iconst 50 rfl rfl ?_
  refine pj_istore_n 51 (ls' := [(0, .ref r0), (1, .int (pj_I 0))]) rfl rfl (by decide) rfl rfl ?_
  refine pn_sub [0, 1] rfl ?_
  exact s_X12_note_51 hg o0   h
set_option maxRecDepth 20000 in
set_option maxHeartbeats 4000000 in
theorem s_X12_note_11b {l : Launch} {g : pj_G} (hg : pj_ph g = true) {r0 : Nat} {x1 : Int} {M : pj_M} {Q : pj_M → Prop}  {k11 : Int → pj_M → Prop} (o0 : pj_ob r0 12)  (hk11 : ∀ (x1 : Int) (M : pj_M), k11 x1 M → pj_R l g mdX12_note pj_T (pj_Zm g mdX12_note (pj_qv Q)) pj_NK 0 0 11 [(0, .ref r0), (1, .int (pj_I x1))] [] M) (h : w_X12_note_11b r0  Q k11 x1 M) : pj_R l g mdX12_note pj_T (pj_Zm g mdX12_note (pj_qv Q)) pj_NK 0 0 11 [(0, .ref r0), (1, .int (pj_I x1))] [] M := by
  unfold w_X12_note_11b at h
  refine pj_iload_n 12 1 rfl rfl rfl rfl ?_
  refine pj_sipush 15 rfl (by decide) rfl ?_
  obtain ⟨q7, h⟩ := h
  refine pj_icmp_ge 39 18 rfl (by decide) rfl q7 (show pj_in 855 by decide) (fun hc => ?_) (fun hc => ?_)
  · replace h := h.1 hc
    refine pj_aload_n 40 0 rfl rfl rfl rfl ?_
    refine pj_dup 41 rfl rfl rfl ?_
    refine pn_geti 44 12 34 34 o0 rfl pfX12_342 (Or.inl rfl) rfl rfl ?_
    refine pj_iconst 45 rfl rfl ?_
    refine pj_isub 46 rfl rfl ?_
    refine pn_puti 49 12 34 34 o0  rfl pfX12_342 rfl rfl rfl (fun M8 hM8 => ?_)
    replace h := h M8 hM8
    refine pn_sub [0] rfl ?_
    exact s_X12_note_49 hg o0   h
  · replace h := h.2 hc
    refine pj_aload_n 19 0 rfl rfl rfl rfl ?_
    refine pn_getr 22 12 33 hg o0 (pr_12_33 o0).2 rfl pfX12_79 rfl rfl ?_
    refine pj_iload_n 23 1 rfl rfl rfl rfl ?_
    refine pj_aload_n 24 0 rfl rfl rfl rfl ?_
    refine pn_getr 27 12 33 hg o0 (pr_12_33 o0).2 rfl pfX12_79 rfl rfl ?_
    refine pj_iload_n 28 1 rfl rfl rfl rfl ?_
    refine pj_bipush 30 rfl (by decide) rfl ?_
    refine pj_iadd 31 rfl rfl ?_
    obtain ⟨q9, h⟩ := h
    refine pn_iald 32 950 (pr_12_33 o0) q9 rfl rfl ?_
    obtain ⟨q10, h⟩ := h
    refine pn_iast 33 950 (pr_12_33 o0)  q10 rfl rfl (fun M11 hM11 => ?_)
    replace h := h M11 hM11
    refine pj_iinc 36 1 (ls' := [(0, .ref r0), (1, .int (pj_I (x1 + 1)))]) rfl rfl (by decide) rfl rfl ?_
    refine pj_goto 11 rfl (by decide) ?_
    refine pn_sub [0, 1] rfl ?_
    exact hk11 _ _ h
set_option maxRecDepth 20000 in
set_option maxHeartbeats 4000000 in
theorem s_X12_note_11 {l : Launch} {g : pj_G} (hg : pj_ph g = true) {r0 : Nat} {x1 : Int} {M : pj_M} {Q : pj_M → Prop}  (o0 : pj_ob r0 12)  (h : w_X12_note_11 r0  Q x1 M) : pj_R l g mdX12_note pj_T (pj_Zm g mdX12_note (pj_qv Q)) pj_NK 0 0 11 [(0, .ref r0), (1, .int (pj_I x1))] [] M :=
  h (fun s => pj_R l g mdX12_note pj_T (pj_Zm g mdX12_note (pj_qv Q)) pj_NK 0 0 11 [(0, .ref r0), (1, .int (pj_I (s.1)))] [] s.2) (fun s hs => s_X12_note_11b hg o0  (fun _ _ q => q) hs)
set_option maxRecDepth 20000 in
set_option maxHeartbeats 4000000 in
theorem s_X12_note {l : Launch} {g : pj_G} (hg : pj_ph g = true) {r0 : Nat} {M : pj_M} {Q : pj_M → Prop} (o0 : pj_ob r0 12) (h : w_X12_note r0 M Q) : pj_S l g mdX12_note [.ref r0] pj_NK M (pj_qv Q) := by
  refine pj_ofR (ls := [(0, .ref r0)]) gcX12_note (by decide) rfl (Nat.le_of_ble_eq_true rfl) rfl ?_
  unfold w_X12_note at h
  refine pj_aload_n 1 0 rfl rfl rfl rfl ?_
  refine pn_geti 4 12 34 34 o0 rfl pfX12_342 (Or.inl rfl) rfl rfl ?_
  refine pj_bipush 6 rfl (by decide) rfl ?_
  obtain ⟨q1, h⟩ := h
  refine pj_icmp_ne 49 9 rfl (by decide) rfl q1 (show pj_in 10 by decide) (fun hc => ?_) (fun hc => ?_)
  · replace h := h.1 hc
    refine pn_sub [0] rfl ?_
    exact s_X12_note_49 hg o0   h
  · replace h := h.2 (Classical.not_not.mp hc)
    refine pj_iconst 10 rfl rfl ?_
    refine pj_istore_n 11 (ls' := [(0, .ref r0), (1, .int (pj_I 0))]) rfl rfl (by decide) rfl rfl ?_
    refine pn_sub [0, 1] rfl ?_
    exact s_X12_note_11 hg o0   h
def w_X12_change_2b (r0 : Nat)  (Q : pj_M → Prop) (k2 : Int → pj_M → Prop) (x1 : Int) (M : pj_M) : Prop :=
  (pj_in x1) ∧ ((95 ≤ x1 → w_X12_note r0 M (fun (M2 : pj_M) => Q M2)) ∧ (¬ 95 ≤ x1 → ((0 : Int) ≤ x1 ∧ x1 < 95) ∧ ((0 : Int) ≤ x1 ∧ x1 < 95) ∧ ∀ M6 : pj_M, M6 = pj_up M (pj_rf r0 35) x1 (M (pj_rf r0 0) x1) → k2 (x1 + 1) M6))
def w_X12_change_2 (r0 : Nat)  (Q : pj_M → Prop) (x1 : Int) (M : pj_M) : Prop := pj_lp (fun (k : Int × pj_M → Prop) (s : Int × pj_M) => w_X12_change_2b r0  Q (fun (x1 : Int) (M : pj_M) => k (x1, M)) s.1 s.2) (x1, M)
def w_X12_change (r0 : Nat) (M : pj_M) (Q : pj_M → Prop) : Prop :=
  w_X12_change_2 r0  Q 0 M
set_option maxRecDepth 20000 in
set_option maxHeartbeats 4000000 in
theorem s_X12_change_2b {l : Launch} {g : pj_G} (hg : pj_ph g = true) {r0 : Nat} {x1 : Int} {M : pj_M} {Q : pj_M → Prop}  {k2 : Int → pj_M → Prop} (o0 : pj_ob r0 12)  (hk2 : ∀ (x1 : Int) (M : pj_M), k2 x1 M → pj_R l g mdX12_change pj_T (pj_Zm g mdX12_change (pj_qv Q)) pj_NK 0 0 2 [(0, .ref r0), (1, .int (pj_I x1))] [] M) (h : w_X12_change_2b r0  Q k2 x1 M) : pj_R l g mdX12_change pj_T (pj_Zm g mdX12_change (pj_qv Q)) pj_NK 0 0 2 [(0, .ref r0), (1, .int (pj_I x1))] [] M := by
  unfold w_X12_change_2b at h
  refine pj_iload_n 3 1 rfl rfl rfl rfl ?_
  refine pj_bipush 5 rfl (by decide) rfl ?_
  obtain ⟨q1, h⟩ := h
  refine pj_icmp_ge 26 8 rfl (by decide) rfl q1 (show pj_in 95 by decide) (fun hc => ?_) (fun hc => ?_)
  · replace h := h.1 hc
    refine pj_aload_n 27 0 rfl rfl rfl rfl ?_
    refine pn_callVv 30 12 [] [] o0 (s_X12_note hg o0 h) plX12_339 rfl rfl rfl rfl (Nat.le_of_ble_eq_true rfl) (by decide) (fun M2 h => ?_)
    exact pn_vret h rfl rfl
  · replace h := h.2 hc
    refine pj_aload_n 9 0 rfl rfl rfl rfl ?_
    refine pn_getr 12 12 35 hg o0 (pr_12_35 o0).2 rfl pfX12_82 rfl rfl ?_
    refine pj_iload_n 13 1 rfl rfl rfl rfl ?_
    refine pj_aload_n 14 0 rfl rfl rfl rfl ?_
    refine pn_getr 17 12 0 hg o0 (pr_12_0 o0).2 rfl pfX12_9 rfl rfl ?_
    refine pj_iload_n 18 1 rfl rfl rfl rfl ?_
    obtain ⟨q4, h⟩ := h
    refine pn_iald 19 95 (pr_12_0 o0) q4 rfl rfl ?_
    obtain ⟨q5, h⟩ := h
    refine pn_iast 20 95 (pr_12_35 o0)  q5 rfl rfl (fun M6 hM6 => ?_)
    replace h := h M6 hM6
    refine pj_iinc 23 1 (ls' := [(0, .ref r0), (1, .int (pj_I (x1 + 1)))]) rfl rfl (by decide) rfl rfl ?_
    refine pj_goto 2 rfl (by decide) ?_
    refine pn_sub [0, 1] rfl ?_
    exact hk2 _ _ h
set_option maxRecDepth 20000 in
set_option maxHeartbeats 4000000 in
theorem s_X12_change_2 {l : Launch} {g : pj_G} (hg : pj_ph g = true) {r0 : Nat} {x1 : Int} {M : pj_M} {Q : pj_M → Prop}  (o0 : pj_ob r0 12)  (h : w_X12_change_2 r0  Q x1 M) : pj_R l g mdX12_change pj_T (pj_Zm g mdX12_change (pj_qv Q)) pj_NK 0 0 2 [(0, .ref r0), (1, .int (pj_I x1))] [] M :=
  h (fun s => pj_R l g mdX12_change pj_T (pj_Zm g mdX12_change (pj_qv Q)) pj_NK 0 0 2 [(0, .ref r0), (1, .int (pj_I (s.1)))] [] s.2) (fun s hs => s_X12_change_2b hg o0  (fun _ _ q => q) hs)
set_option maxRecDepth 20000 in
set_option maxHeartbeats 4000000 in
theorem s_X12_change {l : Launch} {g : pj_G} (hg : pj_ph g = true) {r0 : Nat} {M : pj_M} {Q : pj_M → Prop} (o0 : pj_ob r0 12) (h : w_X12_change r0 M Q) : pj_S l g mdX12_change [.ref r0] pj_NK M (pj_qv Q) := by
  refine pj_ofR (ls := [(0, .ref r0)]) gcX12_change (by decide) rfl (Nat.le_of_ble_eq_true rfl) rfl ?_
  unfold w_X12_change at h
  refine pj_iconst 1 rfl rfl ?_
  refine pj_istore_n 2 (ls' := [(0, .ref r0), (1, .int (pj_I 0))]) rfl rfl (by decide) rfl rfl ?_
  refine pn_sub [0, 1] rfl ?_
  exact s_X12_change_2 hg o0   h
def w_X12_grammar_132b (r0 : Nat)  (Q : Int → pj_M → Prop) (k132 : Int → pj_M → Prop) (x1 : Int) (M : pj_M) : Prop :=
  (pj_in x1) ∧ ((73 ≤ x1 → Q (M (pj_rf r0 0) 0) M) ∧ (¬ 73 ≤ x1 → ((0 : Int) ≤ x1 ∧ x1 < 73) ∧ ((0 : Int) ≤ x1 ∧ x1 < 95) ∧ ∀ M29 : pj_M, M29 = pj_up M (pj_rf r0 0) x1 (M (pj_rf r0 9) x1) → k132 (x1 + 1) M29))
def w_X12_grammar_132 (r0 : Nat)  (Q : Int → pj_M → Prop) (x1 : Int) (M : pj_M) : Prop := pj_lp (fun (k : Int × pj_M → Prop) (s : Int × pj_M) => w_X12_grammar_132b r0  Q (fun (x1 : Int) (M : pj_M) => k (x1, M)) s.1 s.2) (x1, M)
def w_X12_grammar_67 (r0 : Nat)  (Q : Int → pj_M → Prop) (M : pj_M) : Prop :=
  w_X12_wasRight r0 M (fun (t11 : Int) (M10 : pj_M) => (pj_in t11) ∧ ((¬ t11 = 0 → w_X12_hasAllRules (pj_rf r0 9) M10 (fun (t14 : Int) (M13 : pj_M) => (pj_in t14) ∧ ((¬ t14 = 0 → w_X12_layGood r0 (pj_rf r0 9) M13 (fun (M16 : pj_M) => w_X12_alt 0 M16 (fun (t19 : Int) (M18 : pj_M) => ((0 : Int) ≤ t19 ∧ t19 < 73) ∧ w_X12_has (M16 r0 12) (M18 (pj_rf r0 9) t19) M18 (fun (t22 : Int) (M21 : pj_M) => (pj_in t22) ∧ ((¬ t22 = 0 → w_X12_change r0 M21 (fun (M24 : pj_M) => w_X12_grammar_132 r0  Q 0 M24)) ∧ (t22 = 0 → Q (-200) M21)))))) ∧ (t14 = 0 → Q (-201) M13)))) ∧ (t11 = 0 → Q ((-1) - (M10 r0 8)) M10)))
def w_X12_grammar_34b (r0 : Nat)  (Q : Int → pj_M → Prop) (k34 : pj_M → Prop)  (M : pj_M) : Prop :=
  w_X12_fine r0 M (fun (t8 : Int) (M7 : pj_M) => (pj_in t8) ∧ ((t8 = 0 → w_X12_grammar_67 r0  Q M7) ∧ (¬ t8 = 0 → w_X12_here r0 M7 (fun (t31 : Int) (M30 : pj_M) => (pj_in t31) ∧ ((¬ t31 = 59 → w_X12_grammar_67 r0  Q M30) ∧ (t31 = 59 → ∀ M33 : pj_M, M33 = pj_up M30 r0 7 ((M30 r0 7) + 1) → w_X12_readRule r0 M33 (fun (M34 : pj_M) => k34  M34)))))))
def w_X12_grammar_34 (r0 : Nat)  (Q : Int → pj_M → Prop)  (M : pj_M) : Prop := pj_lp (fun (k : pj_M → Prop) (s : pj_M) => w_X12_grammar_34b r0  Q (fun  (M : pj_M) => k M) s) M
def w_X12_grammar_11b (r0 : Nat)  (Q : Int → pj_M → Prop) (k11 : Int → pj_M → Prop) (x1 : Int) (M : pj_M) : Prop :=
  (pj_in x1) ∧ ((73 ≤ x1 → w_X12_readRule r0 M (fun (M5 : pj_M) => w_X12_grammar_34 r0  Q  M5)) ∧ (¬ 73 ≤ x1 → ((0 : Int) ≤ x1 ∧ x1 < 73) ∧ ∀ M37 : pj_M, M37 = pj_up M (pj_rf r0 9) x1 0 → k11 (x1 + 1) M37))
def w_X12_grammar_11 (r0 : Nat)  (Q : Int → pj_M → Prop) (x1 : Int) (M : pj_M) : Prop := pj_lp (fun (k : Int × pj_M → Prop) (s : Int × pj_M) => w_X12_grammar_11b r0  Q (fun (x1 : Int) (M : pj_M) => k (x1, M)) s.1 s.2) (x1, M)
def w_X12_grammar (r0 : Nat) (M : pj_M) (Q : Int → pj_M → Prop) : Prop :=
  ∀ M1 : pj_M, M1 = pj_up M r0 5 0 → w_X12_begin r0 M1 (fun (M2 : pj_M) => w_X12_grammar_11 r0  Q 0 M2)
set_option maxRecDepth 20000 in
set_option maxHeartbeats 4000000 in
theorem s_X12_grammar_132b {l : Launch} {g : pj_G} (hg : pj_ph g = true) {r0 : Nat} {x1 : Int} {M : pj_M} {Q : Int → pj_M → Prop}  {k132 : Int → pj_M → Prop} (o0 : pj_ob r0 12)  (hk132 : ∀ (x1 : Int) (M : pj_M), k132 x1 M → pj_R l g mdX12_grammar pj_T (pj_Zm g mdX12_grammar (pj_qi Q)) pj_NK 0 0 132 [(0, .ref r0), (1, .int (pj_I x1))] [] M) (h : w_X12_grammar_132b r0  Q k132 x1 M) : pj_R l g mdX12_grammar pj_T (pj_Zm g mdX12_grammar (pj_qi Q)) pj_NK 0 0 132 [(0, .ref r0), (1, .int (pj_I x1))] [] M := by
  unfold w_X12_grammar_132b at h
  refine pj_iload_n 133 1 rfl rfl rfl rfl ?_
  refine pj_bipush 135 rfl (by decide) rfl ?_
  obtain ⟨q26, h⟩ := h
  refine pj_icmp_ge 156 138 rfl (by decide) rfl q26 (show pj_in 73 by decide) (fun hc => ?_) (fun hc => ?_)
  · replace h := h.1 hc
    refine pj_aload_n 157 0 rfl rfl rfl rfl ?_
    refine pn_getr 160 12 0 hg o0 (pr_12_0 o0).2 rfl pfX12_9 rfl rfl ?_
    refine pj_iconst 161 rfl rfl ?_
    refine pn_iald 162 95 (pr_12_0 o0) (show 0 ≤ (0 : Int) ∧ (0 : Int) < ((95 : Nat) : Int) by decide) rfl rfl ?_
    exact pn_iret h rfl rfl
  · replace h := h.2 hc
    refine pj_aload_n 139 0 rfl rfl rfl rfl ?_
    refine pn_getr 142 12 0 hg o0 (pr_12_0 o0).2 rfl pfX12_9 rfl rfl ?_
    refine pj_iload_n 143 1 rfl rfl rfl rfl ?_
    refine pj_aload_n 144 0 rfl rfl rfl rfl ?_
    refine pn_getr 147 12 9 hg o0 (pr_12_9 o0).2 rfl pfX12_21 rfl rfl ?_
    refine pj_iload_n 148 1 rfl rfl rfl rfl ?_
    obtain ⟨q27, h⟩ := h
    refine pn_iald 149 73 (pr_12_9 o0) q27 rfl rfl ?_
    obtain ⟨q28, h⟩ := h
    refine pn_iast 150 95 (pr_12_0 o0)  q28 rfl rfl (fun M29 hM29 => ?_)
    replace h := h M29 hM29
    refine pj_iinc 153 1 (ls' := [(0, .ref r0), (1, .int (pj_I (x1 + 1)))]) rfl rfl (by decide) rfl rfl ?_
    refine pj_goto 132 rfl (by decide) ?_
    refine pn_sub [0, 1] rfl ?_
    exact hk132 _ _ h
set_option maxRecDepth 20000 in
set_option maxHeartbeats 4000000 in
theorem s_X12_grammar_132 {l : Launch} {g : pj_G} (hg : pj_ph g = true) {r0 : Nat} {x1 : Int} {M : pj_M} {Q : Int → pj_M → Prop}  (o0 : pj_ob r0 12)  (h : w_X12_grammar_132 r0  Q x1 M) : pj_R l g mdX12_grammar pj_T (pj_Zm g mdX12_grammar (pj_qi Q)) pj_NK 0 0 132 [(0, .ref r0), (1, .int (pj_I x1))] [] M :=
  h (fun s => pj_R l g mdX12_grammar pj_T (pj_Zm g mdX12_grammar (pj_qi Q)) pj_NK 0 0 132 [(0, .ref r0), (1, .int (pj_I (s.1)))] [] s.2) (fun s hs => s_X12_grammar_132b hg o0  (fun _ _ q => q) hs)
set_option maxRecDepth 20000 in
set_option maxHeartbeats 4000000 in
theorem s_X12_grammar_67 {l : Launch} {g : pj_G} (hg : pj_ph g = true) {r0 : Nat} {M : pj_M} {Q : Int → pj_M → Prop}  (o0 : pj_ob r0 12)  (h : w_X12_grammar_67 r0  Q M) : pj_R l g mdX12_grammar pj_T (pj_Zm g mdX12_grammar (pj_qi Q)) pj_NK 0 0 67 [(0, .ref r0)] [] M := by
  unfold w_X12_grammar_67 at h
  refine pj_aload_n 68 0 rfl rfl rfl rfl ?_
  refine pn_callVi 71 12 [] [] o0 (s_X12_wasRight hg o0 h) plX12_149 rfl rfl rfl rfl (Nat.le_of_ble_eq_true rfl) (by decide) (fun t11 M10 h => ?_)
  obtain ⟨q12, h⟩ := h
  refine pj_if_ne 81 74 rfl (by decide) rfl q12  (fun hc => ?_) (fun hc => ?_)
  · replace h := h.1 hc
    refine pj_aload_n 82 0 rfl rfl rfl rfl ?_
    refine pn_getr 85 12 9 hg o0 (pr_12_9 o0).2 rfl pfX12_21 rfl rfl ?_
    refine pn_callSi 88 [.ref (pj_rf r0 9)] [] (s_X12_hasAllRules hg (pj_oa_of (pr_12_9 o0)) h) plX12_152 rfl rfl rfl rfl (Nat.le_of_ble_eq_true rfl) (by decide) (fun t14 M13 h => ?_)
    obtain ⟨q15, h⟩ := h
    refine pj_if_ne 95 91 rfl (by decide) rfl q15  (fun hc => ?_) (fun hc => ?_)
    · replace h := h.1 hc
      refine pj_aload_n 96 0 rfl rfl rfl rfl ?_
      refine pj_aload_n 97 0 rfl rfl rfl rfl ?_
      refine pn_getr 100 12 9 hg o0 (pr_12_9 o0).2 rfl pfX12_21 rfl rfl ?_
      refine pn_callVv 103 12 [.ref (pj_rf r0 9)] [] o0 (s_X12_layGood hg o0 (pj_oa_of (pr_12_9 o0)) h) plX12_156 rfl rfl rfl rfl (Nat.le_of_ble_eq_true rfl) (by decide) (fun M16 h => ?_)
      refine pj_aload_n 104 0 rfl rfl rfl rfl ?_
      refine pn_geti 107 12 12 12 o0 rfl pfX12_160 (Or.inl rfl) rfl rfl ?_
      refine pj_aload_n 108 0 rfl rfl rfl rfl ?_
      refine pn_getr 111 12 9 hg o0 (pr_12_9 o0).2 rfl pfX12_21 rfl rfl ?_
      refine pj_iconst 112 rfl rfl ?_
      refine pn_callSi 115 [.int (pj_I 0)] [.ref (pj_rf r0 9), .int (pj_I (M16 r0 12))] (s_X12_alt hg  h) plX12_127 rfl rfl rfl rfl (Nat.le_of_ble_eq_true rfl) (by decide) (fun t19 M18 h => ?_)
      obtain ⟨q20, h⟩ := h
      refine pn_iald 116 73 (pr_12_9 o0) q20 rfl rfl ?_
      refine pn_callSi 119 [.int (pj_I (M16 r0 12)), .int (pj_I (M18 (pj_rf r0 9) t19))] [] (s_X12_has hg  h) plX12_135 rfl rfl rfl rfl (Nat.le_of_ble_eq_true rfl) (by decide) (fun t22 M21 h => ?_)
      obtain ⟨q23, h⟩ := h
      refine pj_if_ne 126 122 rfl (by decide) rfl q23  (fun hc => ?_) (fun hc => ?_)
      · replace h := h.1 hc
        refine pj_aload_n 127 0 rfl rfl rfl rfl ?_
        refine pn_callVv 130 12 [] [] o0 (s_X12_change hg o0 h) plX12_163 rfl rfl rfl rfl (Nat.le_of_ble_eq_true rfl) (by decide) (fun M24 h => ?_)
        refine pj_iconst 131 rfl rfl ?_
        refine pj_istore_n 132 (ls' := [(0, .ref r0), (1, .int (pj_I 0))]) rfl rfl (by decide) rfl rfl ?_
        refine pn_sub [0, 1] rfl ?_
        exact s_X12_grammar_132 hg o0   h
      · replace h := h.2 (Classical.not_not.mp hc)
        refine pj_sipush 125 rfl (by decide) rfl ?_
        exact pn_iret h rfl rfl
    · replace h := h.2 (Classical.not_not.mp hc)
      refine pj_sipush 94 rfl (by decide) rfl ?_
      exact pn_iret h rfl rfl
  · replace h := h.2 (Classical.not_not.mp hc)
    refine pj_iconst 75 rfl rfl ?_
    refine pj_aload_n 76 0 rfl rfl rfl rfl ?_
    refine pn_geti 79 12 8 8 o0 rfl pfX12_108 (Or.inl rfl) rfl rfl ?_
    refine pj_isub 80 rfl rfl ?_
    exact pn_iret h rfl rfl
set_option maxRecDepth 20000 in
set_option maxHeartbeats 4000000 in
theorem s_X12_grammar_34b {l : Launch} {g : pj_G} (hg : pj_ph g = true) {r0 : Nat} {M : pj_M} {Q : Int → pj_M → Prop}  {k34 : pj_M → Prop} (o0 : pj_ob r0 12)  (hk34 : ∀  (M : pj_M), k34  M → pj_R l g mdX12_grammar pj_T (pj_Zm g mdX12_grammar (pj_qi Q)) pj_NK 0 0 34 [(0, .ref r0)] [] M) (h : w_X12_grammar_34b r0  Q k34  M) : pj_R l g mdX12_grammar pj_T (pj_Zm g mdX12_grammar (pj_qi Q)) pj_NK 0 0 34 [(0, .ref r0)] [] M := by
  unfold w_X12_grammar_34b at h
  refine pj_aload_n 35 0 rfl rfl rfl rfl ?_
  refine pn_callVi 38 12 [] [] o0 (s_X12_fine hg o0 h) plX12_111 rfl rfl rfl rfl (Nat.le_of_ble_eq_true rfl) (by decide) (fun t8 M7 h => ?_)
  obtain ⟨q9, h⟩ := h
  refine pj_if_eq 67 41 rfl (by decide) rfl q9  (fun hc => ?_) (fun hc => ?_)
  · replace h := h.1 hc
    refine pn_sub [0] rfl ?_
    exact s_X12_grammar_67 hg o0   h
  · replace h := h.2 hc
    refine pj_aload_n 42 0 rfl rfl rfl rfl ?_
    refine pn_callVi 45 12 [] [] o0 (s_X12_here hg o0 h) plX12_115 rfl rfl rfl rfl (Nat.le_of_ble_eq_true rfl) (by decide) (fun t31 M30 h => ?_)
    refine pj_bipush 47 rfl (by decide) rfl ?_
    obtain ⟨q32, h⟩ := h
    refine pj_icmp_ne 67 50 rfl (by decide) rfl q32 (show pj_in 59 by decide) (fun hc => ?_) (fun hc => ?_)
    · replace h := h.1 hc
      refine pn_sub [0] rfl ?_
      exact s_X12_grammar_67 hg o0   h
    · replace h := h.2 (Classical.not_not.mp hc)
      refine pj_aload_n 51 0 rfl rfl rfl rfl ?_
      refine pj_dup 52 rfl rfl rfl ?_
      refine pn_geti 55 12 7 7 o0 rfl pfX12_105 (Or.inl rfl) rfl rfl ?_
      refine pj_iconst 56 rfl rfl ?_
      refine pj_iadd 57 rfl rfl ?_
      refine pn_puti 60 12 7 7 o0  rfl pfX12_105 rfl rfl rfl (fun M33 hM33 => ?_)
      replace h := h M33 hM33
      refine pj_aload_n 61 0 rfl rfl rfl rfl ?_
      refine pn_callVv 64 12 [] [] o0 (s_X12_readRule hg o0 h) plX12_146 rfl rfl rfl rfl (Nat.le_of_ble_eq_true rfl) (by decide) (fun M34 h => ?_)
      refine pj_goto 34 rfl (by decide) ?_
      refine pn_sub [0] rfl ?_
      exact hk34  _ h
set_option maxRecDepth 20000 in
set_option maxHeartbeats 4000000 in
theorem s_X12_grammar_34 {l : Launch} {g : pj_G} (hg : pj_ph g = true) {r0 : Nat} {M : pj_M} {Q : Int → pj_M → Prop}  (o0 : pj_ob r0 12)  (h : w_X12_grammar_34 r0  Q  M) : pj_R l g mdX12_grammar pj_T (pj_Zm g mdX12_grammar (pj_qi Q)) pj_NK 0 0 34 [(0, .ref r0)] [] M :=
  h (fun s => pj_R l g mdX12_grammar pj_T (pj_Zm g mdX12_grammar (pj_qi Q)) pj_NK 0 0 34 [(0, .ref r0)] [] s) (fun s hs => s_X12_grammar_34b hg o0  (fun  _ q => q) hs)
set_option maxRecDepth 20000 in
set_option maxHeartbeats 4000000 in
theorem s_X12_grammar_11b {l : Launch} {g : pj_G} (hg : pj_ph g = true) {r0 : Nat} {x1 : Int} {M : pj_M} {Q : Int → pj_M → Prop}  {k11 : Int → pj_M → Prop} (o0 : pj_ob r0 12)  (hk11 : ∀ (x1 : Int) (M : pj_M), k11 x1 M → pj_R l g mdX12_grammar pj_T (pj_Zm g mdX12_grammar (pj_qi Q)) pj_NK 0 0 11 [(0, .ref r0), (1, .int (pj_I x1))] [] M) (h : w_X12_grammar_11b r0  Q k11 x1 M) : pj_R l g mdX12_grammar pj_T (pj_Zm g mdX12_grammar (pj_qi Q)) pj_NK 0 0 11 [(0, .ref r0), (1, .int (pj_I x1))] [] M := by
  unfold w_X12_grammar_11b at h
  refine pj_iload_n 12 1 rfl rfl rfl rfl ?_
  refine pj_bipush 14 rfl (by decide) rfl ?_
  obtain ⟨q4, h⟩ := h
  refine pj_icmp_ge 30 17 rfl (by decide) rfl q4 (show pj_in 73 by decide) (fun hc => ?_) (fun hc => ?_)
  · replace h := h.1 hc
    refine pj_aload_n 31 0 rfl rfl rfl rfl ?_
    refine pn_callVv 34 12 [] [] o0 (s_X12_readRule hg o0 h) plX12_146 rfl rfl rfl rfl (Nat.le_of_ble_eq_true rfl) (by decide) (fun M5 h => ?_)
    refine pn_sub [0] rfl ?_
    exact s_X12_grammar_34 hg o0   h
  · replace h := h.2 hc
    refine pj_aload_n 18 0 rfl rfl rfl rfl ?_
    refine pn_getr 21 12 9 hg o0 (pr_12_9 o0).2 rfl pfX12_21 rfl rfl ?_
    refine pj_iload_n 22 1 rfl rfl rfl rfl ?_
    refine pj_iconst 23 rfl rfl ?_
    obtain ⟨q36, h⟩ := h
    refine pn_iast 24 73 (pr_12_9 o0)  q36 rfl rfl (fun M37 hM37 => ?_)
    replace h := h M37 hM37
    refine pj_iinc 27 1 (ls' := [(0, .ref r0), (1, .int (pj_I (x1 + 1)))]) rfl rfl (by decide) rfl rfl ?_
    refine pj_goto 11 rfl (by decide) ?_
    refine pn_sub [0, 1] rfl ?_
    exact hk11 _ _ h
set_option maxRecDepth 20000 in
set_option maxHeartbeats 4000000 in
theorem s_X12_grammar_11 {l : Launch} {g : pj_G} (hg : pj_ph g = true) {r0 : Nat} {x1 : Int} {M : pj_M} {Q : Int → pj_M → Prop}  (o0 : pj_ob r0 12)  (h : w_X12_grammar_11 r0  Q x1 M) : pj_R l g mdX12_grammar pj_T (pj_Zm g mdX12_grammar (pj_qi Q)) pj_NK 0 0 11 [(0, .ref r0), (1, .int (pj_I x1))] [] M :=
  h (fun s => pj_R l g mdX12_grammar pj_T (pj_Zm g mdX12_grammar (pj_qi Q)) pj_NK 0 0 11 [(0, .ref r0), (1, .int (pj_I (s.1)))] [] s.2) (fun s hs => s_X12_grammar_11b hg o0  (fun _ _ q => q) hs)
set_option maxRecDepth 20000 in
set_option maxHeartbeats 4000000 in
theorem s_X12_grammar {l : Launch} {g : pj_G} (hg : pj_ph g = true) {r0 : Nat} {M : pj_M} {Q : Int → pj_M → Prop} (o0 : pj_ob r0 12) (h : w_X12_grammar r0 M Q) : pj_S l g mdX12_grammar [.ref r0] pj_NK M (pj_qi Q) := by
  refine pj_ofR (ls := [(0, .ref r0)]) gcX12_grammar (by decide) rfl (Nat.le_of_ble_eq_true rfl) rfl ?_
  unfold w_X12_grammar at h
  refine pj_aload_n 1 0 rfl rfl rfl rfl ?_
  refine pj_iconst 2 rfl rfl ?_
  refine pn_puti 5 12 5 5 o0  rfl pfX12_88 rfl rfl rfl (fun M1 hM1 => ?_)
  replace h := h M1 hM1
  refine pj_aload_n 6 0 rfl rfl rfl rfl ?_
  refine pn_callVv 9 12 [] [] o0 (s_X12_begin hg o0 h) plX12_143 rfl rfl rfl rfl (Nat.le_of_ble_eq_true rfl) (by decide) (fun M2 h => ?_)
  refine pj_iconst 10 rfl rfl ?_
  refine pj_istore_n 11 (ls' := [(0, .ref r0), (1, .int (pj_I 0))]) rfl rfl (by decide) rfl rfl ?_
  refine pn_sub [0, 1] rfl ?_
  exact s_X12_grammar_11 hg o0   h
def w_X12_setLine_39 (r0 : Nat) (x1 : Int) (x2 : Int) (u0 : Nat) (y1 : Int) (y2 : Int) (k10 : Int → pj_M → Prop) (Q : pj_M → Prop) (M : pj_M) : Prop :=
  ((0 : Int) ≤ y1 ∧ y1 < 95) ∧ ∀ M6 : pj_M, M6 = pj_up M u0 y1 y2 → k10 (x2 + 1) M6
def w_X12_setLine_10b (r0 : Nat) (x1 : Int)  (Q : pj_M → Prop) (k10 : Int → pj_M → Prop) (x2 : Int) (M : pj_M) : Prop :=
  (pj_in x2) ∧ ((14 ≤ x2 → Q M) ∧ (¬ 14 ≤ x2 → (pj_in x2) ∧ (pj_in x1) ∧ ((x1 ≤ x2 → w_X12_setLine_39 r0 x1 x2 (pj_rf r0 0) (74 + x2) 0 k10 Q M) ∧ (¬ x1 ≤ x2 → ((0 : Int) ≤ x2 ∧ x2 < 80) ∧ w_X12_setLine_39 r0 x1 x2 (pj_rf r0 0) (74 + x2) (M (pj_rf r0 10) x2) k10 Q M))))
def w_X12_setLine_10 (r0 : Nat) (x1 : Int)  (Q : pj_M → Prop) (x2 : Int) (M : pj_M) : Prop := pj_lp (fun (k : Int × pj_M → Prop) (s : Int × pj_M) => w_X12_setLine_10b r0 x1  Q (fun (x2 : Int) (M : pj_M) => k (x2, M)) s.1 s.2) (x2, M)
def w_X12_setLine (r0 : Nat) (x1 : Int) (M : pj_M) (Q : pj_M → Prop) : Prop :=
  ∀ M1 : pj_M, M1 = pj_up M (pj_rf r0 0) 73 x1 → w_X12_setLine_10 r0 x1  Q 0 M1
set_option maxRecDepth 20000 in
set_option maxHeartbeats 4000000 in
theorem s_X12_setLine_39 {l : Launch} {g : pj_G} (hg : pj_ph g = true) {r0 : Nat} {x1 : Int} {x2 : Int} {u0 : Nat} {y1 : Int} {y2 : Int} {M : pj_M} {Q : pj_M → Prop} {k10 : Int → pj_M → Prop} (o0 : pj_ob r0 12) (ou0 : pj_ol u0 1 95) (hk10 : ∀ (x2 : Int) (M : pj_M), k10 x2 M → pj_R l g mdX12_setLine pj_T (pj_Zm g mdX12_setLine (pj_qv Q)) pj_NK 0 0 10 [(0, .ref r0), (1, .int (pj_I x1)), (2, .int (pj_I x2))] [] M) (h : w_X12_setLine_39 r0 x1 x2 u0 y1 y2 k10 Q M) : pj_R l g mdX12_setLine pj_T (pj_Zm g mdX12_setLine (pj_qv Q)) pj_NK 0 0 39 [(0, .ref r0), (1, .int (pj_I x1)), (2, .int (pj_I x2))] [.int (pj_I y2), .int (pj_I y1), .ref u0] M := by
  unfold w_X12_setLine_39 at h
  obtain ⟨q5, h⟩ := h
  refine pn_iast 40 95 ou0  q5 rfl rfl (fun M6 hM6 => ?_)
  replace h := h M6 hM6
  refine pj_iinc 43 2 (ls' := [(0, .ref r0), (1, .int (pj_I x1)), (2, .int (pj_I (x2 + 1)))]) rfl rfl (by decide) rfl rfl ?_
  refine pj_goto 10 rfl (by decide) ?_
  refine pn_sub [0, 1, 2] rfl ?_
  exact hk10 _ _ h
set_option maxRecDepth 20000 in
set_option maxHeartbeats 4000000 in
theorem s_X12_setLine_10b {l : Launch} {g : pj_G} (hg : pj_ph g = true) {r0 : Nat} {x1 : Int} {x2 : Int} {M : pj_M} {Q : pj_M → Prop}  {k10 : Int → pj_M → Prop} (o0 : pj_ob r0 12)  (hk10 : ∀ (x2 : Int) (M : pj_M), k10 x2 M → pj_R l g mdX12_setLine pj_T (pj_Zm g mdX12_setLine (pj_qv Q)) pj_NK 0 0 10 [(0, .ref r0), (1, .int (pj_I x1)), (2, .int (pj_I x2))] [] M) (h : w_X12_setLine_10b r0 x1  Q k10 x2 M) : pj_R l g mdX12_setLine pj_T (pj_Zm g mdX12_setLine (pj_qv Q)) pj_NK 0 0 10 [(0, .ref r0), (1, .int (pj_I x1)), (2, .int (pj_I x2))] [] M := by
  unfold w_X12_setLine_10b at h
  refine pj_iload_n 11 2 rfl rfl rfl rfl ?_
  refine pj_bipush 13 rfl (by decide) rfl ?_
  obtain ⟨q2, h⟩ := h
  refine pj_icmp_ge 46 16 rfl (by decide) rfl q2 (show pj_in 14 by decide) (fun hc => ?_) (fun hc => ?_)
  · replace h := h.1 hc
    exact pn_vret h rfl rfl
  · replace h := h.2 hc
    refine pj_aload_n 17 0 rfl rfl rfl rfl ?_
    refine pn_getr 20 12 0 hg o0 (pr_12_0 o0).2 rfl pfX12_9 rfl rfl ?_
    refine pj_bipush 22 rfl (by decide) rfl ?_
    refine pj_iload_n 23 2 rfl rfl rfl rfl ?_
    refine pj_iadd 24 rfl rfl ?_
    refine pj_iload_n 25 2 rfl rfl rfl rfl ?_
    refine pj_iload_n 26 1 rfl rfl rfl rfl ?_
    obtain ⟨q3, h⟩ := h
    obtain ⟨q4, h⟩ := h
    refine pj_icmp_ge 38 29 rfl (by decide) rfl q3 q4 (fun hc => ?_) (fun hc => ?_)
    · replace h := h.1 hc
      refine pj_iconst 39 rfl rfl ?_
      refine pn_sub [0, 1, 2] rfl ?_
      exact s_X12_setLine_39 hg o0 (pr_12_0 o0) hk10 h
    · replace h := h.2 hc
      refine pj_aload_n 30 0 rfl rfl rfl rfl ?_
      refine pn_getr 33 12 10 hg o0 (pr_12_10 o0).2 rfl pfX12_24 rfl rfl ?_
      refine pj_iload_n 34 2 rfl rfl rfl rfl ?_
      obtain ⟨q7, h⟩ := h
      refine pn_iald 35 80 (pr_12_10 o0) q7 rfl rfl ?_
      refine pj_goto 39 rfl (by decide) ?_
      refine pn_sub [0, 1, 2] rfl ?_
      exact s_X12_setLine_39 hg o0 (pr_12_0 o0) hk10 h
set_option maxRecDepth 20000 in
set_option maxHeartbeats 4000000 in
theorem s_X12_setLine_10 {l : Launch} {g : pj_G} (hg : pj_ph g = true) {r0 : Nat} {x1 : Int} {x2 : Int} {M : pj_M} {Q : pj_M → Prop}  (o0 : pj_ob r0 12)  (h : w_X12_setLine_10 r0 x1  Q x2 M) : pj_R l g mdX12_setLine pj_T (pj_Zm g mdX12_setLine (pj_qv Q)) pj_NK 0 0 10 [(0, .ref r0), (1, .int (pj_I x1)), (2, .int (pj_I x2))] [] M :=
  h (fun s => pj_R l g mdX12_setLine pj_T (pj_Zm g mdX12_setLine (pj_qv Q)) pj_NK 0 0 10 [(0, .ref r0), (1, .int (pj_I x1)), (2, .int (pj_I (s.1)))] [] s.2) (fun s hs => s_X12_setLine_10b hg o0  (fun _ _ q => q) hs)
set_option maxRecDepth 20000 in
set_option maxHeartbeats 4000000 in
theorem s_X12_setLine {l : Launch} {g : pj_G} (hg : pj_ph g = true) {r0 : Nat} {x1 : Int} {M : pj_M} {Q : pj_M → Prop} (o0 : pj_ob r0 12) (h : w_X12_setLine r0 x1 M Q) : pj_S l g mdX12_setLine [.ref r0, .int (pj_I x1)] pj_NK M (pj_qv Q) := by
  refine pj_ofR (ls := [(0, .ref r0), (1, .int (pj_I x1))]) gcX12_setLine (by decide) rfl (Nat.le_of_ble_eq_true rfl) rfl ?_
  unfold w_X12_setLine at h
  refine pj_aload_n 1 0 rfl rfl rfl rfl ?_
  refine pn_getr 4 12 0 hg o0 (pr_12_0 o0).2 rfl pfX12_9 rfl rfl ?_
  refine pj_bipush 6 rfl (by decide) rfl ?_
  refine pj_iload_n 7 1 rfl rfl rfl rfl ?_
  refine pn_iast 8 95 (pr_12_0 o0)  (show 0 ≤ (73 : Int) ∧ (73 : Int) < ((95 : Nat) : Int) by decide) rfl rfl (fun M1 hM1 => ?_)
  replace h := h M1 hM1
  refine pj_iconst 9 rfl rfl ?_
  refine pj_istore_n 10 (ls' := [(0, .ref r0), (1, .int (pj_I x1)), (2, .int (pj_I 0))]) rfl rfl (by decide) rfl rfl ?_
  refine pn_sub [0, 1, 2] rfl ?_
  exact s_X12_setLine_10 hg o0   h
def w_X12_line_63 (r0 : Nat) (x1 : Int)  (Q : Int → pj_M → Prop) (M : pj_M) : Prop :=
  w_X12_wasRight r0 M (fun (t8 : Int) (M7 : pj_M) => (pj_in t8) ∧ ((¬ t8 = 0 → w_X12_change r0 M7 (fun (M10 : pj_M) => w_X12_setLine r0 x1 M10 (fun (M12 : pj_M) => Q x1 M12))) ∧ (t8 = 0 → Q ((-1) - (M7 r0 8)) M7)))
def w_X12_line_43 (r0 : Nat) (x1 : Int) (k11 : Int → pj_M → Prop) (Q : Int → pj_M → Prop) (M : pj_M) : Prop :=
  w_X12_oneOf r0 97 8 M (fun (t18 : Int) (M17 : pj_M) => ((0 : Int) ≤ x1 ∧ x1 < 80) ∧ ∀ M20 : pj_M, M20 = pj_up M17 (pj_rf r0 10) x1 t18 → k11 (x1 + 1) M20)
def w_X12_line_11b (r0 : Nat)  (Q : Int → pj_M → Prop) (k11 : Int → pj_M → Prop) (x1 : Int) (M : pj_M) : Prop :=
  w_X12_fine r0 M (fun (t5 : Int) (M4 : pj_M) => (pj_in t5) ∧ ((t5 = 0 → w_X12_line_63 r0 x1  Q M4) ∧ (¬ t5 = 0 → (pj_in (M4 r0 7)) ∧ (pj_in (M4 r0 6)) ∧ (((M4 r0 6) ≤ (M4 r0 7) → w_X12_line_63 r0 x1  Q M4) ∧ (¬ (M4 r0 6) ≤ (M4 r0 7) → (pj_in x1) ∧ ((¬ x1 = 14 → w_X12_line_43 r0 x1 k11 Q M4) ∧ (x1 = 14 → w_X12_fault r0 (M4 r0 7) M4 (fun (M21 : pj_M) => w_X12_line_43 r0 x1 k11 Q M21))))))))
def w_X12_line_11 (r0 : Nat)  (Q : Int → pj_M → Prop) (x1 : Int) (M : pj_M) : Prop := pj_lp (fun (k : Int × pj_M → Prop) (s : Int × pj_M) => w_X12_line_11b r0  Q (fun (x1 : Int) (M : pj_M) => k (x1, M)) s.1 s.2) (x1, M)
def w_X12_line (r0 : Nat) (M : pj_M) (Q : Int → pj_M → Prop) : Prop :=
  ∀ M1 : pj_M, M1 = pj_up M r0 5 0 → w_X12_begin r0 M1 (fun (M2 : pj_M) => w_X12_line_11 r0  Q 0 M2)
set_option maxRecDepth 20000 in
set_option maxHeartbeats 4000000 in
theorem s_X12_line_63 {l : Launch} {g : pj_G} (hg : pj_ph g = true) {r0 : Nat} {x1 : Int} {M : pj_M} {Q : Int → pj_M → Prop}  (o0 : pj_ob r0 12)  (h : w_X12_line_63 r0 x1  Q M) : pj_R l g mdX12_line pj_T (pj_Zm g mdX12_line (pj_qi Q)) pj_NK 0 0 63 [(0, .ref r0), (1, .int (pj_I x1))] [] M := by
  unfold w_X12_line_63 at h
  refine pj_aload_n 64 0 rfl rfl rfl rfl ?_
  refine pn_callVi 67 12 [] [] o0 (s_X12_wasRight hg o0 h) plX12_149 rfl rfl rfl rfl (Nat.le_of_ble_eq_true rfl) (by decide) (fun t8 M7 h => ?_)
  obtain ⟨q9, h⟩ := h
  refine pj_if_ne 77 70 rfl (by decide) rfl q9  (fun hc => ?_) (fun hc => ?_)
  · replace h := h.1 hc
    refine pj_aload_n 78 0 rfl rfl rfl rfl ?_
    refine pn_callVv 81 12 [] [] o0 (s_X12_change hg o0 h) plX12_163 rfl rfl rfl rfl (Nat.le_of_ble_eq_true rfl) (by decide) (fun M10 h => ?_)
    refine pj_aload_n 82 0 rfl rfl rfl rfl ?_
    refine pj_iload_n 83 1 rfl rfl rfl rfl ?_
    refine pn_callVv 86 12 [.int (pj_I x1)] [] o0 (s_X12_setLine hg o0 h) plX12_166 rfl rfl rfl rfl (Nat.le_of_ble_eq_true rfl) (by decide) (fun M12 h => ?_)
    refine pj_iload_n 87 1 rfl rfl rfl rfl ?_
    exact pn_iret h rfl rfl
  · replace h := h.2 (Classical.not_not.mp hc)
    refine pj_iconst 71 rfl rfl ?_
    refine pj_aload_n 72 0 rfl rfl rfl rfl ?_
    refine pn_geti 75 12 8 8 o0 rfl pfX12_108 (Or.inl rfl) rfl rfl ?_
    refine pj_isub 76 rfl rfl ?_
    exact pn_iret h rfl rfl
set_option maxRecDepth 20000 in
set_option maxHeartbeats 4000000 in
theorem s_X12_line_43 {l : Launch} {g : pj_G} (hg : pj_ph g = true) {r0 : Nat} {x1 : Int} {M : pj_M} {Q : Int → pj_M → Prop} {k11 : Int → pj_M → Prop} (o0 : pj_ob r0 12) (hk11 : ∀ (x1 : Int) (M : pj_M), k11 x1 M → pj_R l g mdX12_line pj_T (pj_Zm g mdX12_line (pj_qi Q)) pj_NK 0 0 11 [(0, .ref r0), (1, .int (pj_I x1))] [] M) (h : w_X12_line_43 r0 x1 k11 Q M) : pj_R l g mdX12_line pj_T (pj_Zm g mdX12_line (pj_qi Q)) pj_NK 0 0 43 [(0, .ref r0), (1, .int (pj_I x1))] [] M := by
  unfold w_X12_line_43 at h
  refine pj_aload_n 44 0 rfl rfl rfl rfl ?_
  refine pn_getr 47 12 10 hg o0 (pr_12_10 o0).2 rfl pfX12_24 rfl rfl ?_
  refine pj_iload_n 48 1 rfl rfl rfl rfl ?_
  refine pj_aload_n 49 0 rfl rfl rfl rfl ?_
  refine pj_bipush 51 rfl (by decide) rfl ?_
  refine pj_bipush 53 rfl (by decide) rfl ?_
  refine pn_callVi 56 12 [.int (pj_I 97), .int (pj_I 8)] [.int (pj_I x1), .ref (pj_rf r0 10)] o0 (s_X12_oneOf hg o0 h) plX12_123 rfl rfl rfl rfl (Nat.le_of_ble_eq_true rfl) (by decide) (fun t18 M17 h => ?_)
  obtain ⟨q19, h⟩ := h
  refine pn_iast 57 80 (pr_12_10 o0)  q19 rfl rfl (fun M20 hM20 => ?_)
  replace h := h M20 hM20
  refine pj_iinc 60 1 (ls' := [(0, .ref r0), (1, .int (pj_I (x1 + 1)))]) rfl rfl (by decide) rfl rfl ?_
  refine pj_goto 11 rfl (by decide) ?_
  refine pn_sub [0, 1] rfl ?_
  exact hk11 _ _ h
set_option maxRecDepth 20000 in
set_option maxHeartbeats 4000000 in
theorem s_X12_line_11b {l : Launch} {g : pj_G} (hg : pj_ph g = true) {r0 : Nat} {x1 : Int} {M : pj_M} {Q : Int → pj_M → Prop}  {k11 : Int → pj_M → Prop} (o0 : pj_ob r0 12)  (hk11 : ∀ (x1 : Int) (M : pj_M), k11 x1 M → pj_R l g mdX12_line pj_T (pj_Zm g mdX12_line (pj_qi Q)) pj_NK 0 0 11 [(0, .ref r0), (1, .int (pj_I x1))] [] M) (h : w_X12_line_11b r0  Q k11 x1 M) : pj_R l g mdX12_line pj_T (pj_Zm g mdX12_line (pj_qi Q)) pj_NK 0 0 11 [(0, .ref r0), (1, .int (pj_I x1))] [] M := by
  unfold w_X12_line_11b at h
  refine pj_aload_n 12 0 rfl rfl rfl rfl ?_
  refine pn_callVi 15 12 [] [] o0 (s_X12_fine hg o0 h) plX12_111 rfl rfl rfl rfl (Nat.le_of_ble_eq_true rfl) (by decide) (fun t5 M4 h => ?_)
  obtain ⟨q6, h⟩ := h
  refine pj_if_eq 63 18 rfl (by decide) rfl q6  (fun hc => ?_) (fun hc => ?_)
  · replace h := h.1 hc
    refine pn_sub [0, 1] rfl ?_
    exact s_X12_line_63 hg o0   h
  · replace h := h.2 hc
    refine pj_aload_n 19 0 rfl rfl rfl rfl ?_
    refine pn_geti 22 12 7 7 o0 rfl pfX12_105 (Or.inl rfl) rfl rfl ?_
    refine pj_aload_n 23 0 rfl rfl rfl rfl ?_
    refine pn_geti 26 12 6 6 o0 rfl pfX12_102 (Or.inl rfl) rfl rfl ?_
    obtain ⟨q14, h⟩ := h
    obtain ⟨q15, h⟩ := h
    refine pj_icmp_ge 63 29 rfl (by decide) rfl q14 q15 (fun hc => ?_) (fun hc => ?_)
    · replace h := h.1 hc
      refine pn_sub [0, 1] rfl ?_
      exact s_X12_line_63 hg o0   h
    · replace h := h.2 hc
      refine pj_iload_n 30 1 rfl rfl rfl rfl ?_
      refine pj_bipush 32 rfl (by decide) rfl ?_
      obtain ⟨q16, h⟩ := h
      refine pj_icmp_ne 43 35 rfl (by decide) rfl q16 (show pj_in 14 by decide) (fun hc => ?_) (fun hc => ?_)
      · replace h := h.1 hc
        refine pn_sub [0, 1] rfl ?_
        exact s_X12_line_43 hg o0  hk11 h
      · replace h := h.2 (Classical.not_not.mp hc)
        refine pj_aload_n 36 0 rfl rfl rfl rfl ?_
        refine pj_aload_n 37 0 rfl rfl rfl rfl ?_
        refine pn_geti 40 12 7 7 o0 rfl pfX12_105 (Or.inl rfl) rfl rfl ?_
        refine pn_callVv 43 12 [.int (pj_I (M4 r0 7))] [] o0 (s_X12_fault hg o0 h) plX12_119 rfl rfl rfl rfl (Nat.le_of_ble_eq_true rfl) (by decide) (fun M21 h => ?_)
        refine pn_sub [0, 1] rfl ?_
        exact s_X12_line_43 hg o0  hk11 h
set_option maxRecDepth 20000 in
set_option maxHeartbeats 4000000 in
theorem s_X12_line_11 {l : Launch} {g : pj_G} (hg : pj_ph g = true) {r0 : Nat} {x1 : Int} {M : pj_M} {Q : Int → pj_M → Prop}  (o0 : pj_ob r0 12)  (h : w_X12_line_11 r0  Q x1 M) : pj_R l g mdX12_line pj_T (pj_Zm g mdX12_line (pj_qi Q)) pj_NK 0 0 11 [(0, .ref r0), (1, .int (pj_I x1))] [] M :=
  h (fun s => pj_R l g mdX12_line pj_T (pj_Zm g mdX12_line (pj_qi Q)) pj_NK 0 0 11 [(0, .ref r0), (1, .int (pj_I (s.1)))] [] s.2) (fun s hs => s_X12_line_11b hg o0  (fun _ _ q => q) hs)
set_option maxRecDepth 20000 in
set_option maxHeartbeats 4000000 in
theorem s_X12_line {l : Launch} {g : pj_G} (hg : pj_ph g = true) {r0 : Nat} {M : pj_M} {Q : Int → pj_M → Prop} (o0 : pj_ob r0 12) (h : w_X12_line r0 M Q) : pj_S l g mdX12_line [.ref r0] pj_NK M (pj_qi Q) := by
  refine pj_ofR (ls := [(0, .ref r0)]) gcX12_line (by decide) rfl (Nat.le_of_ble_eq_true rfl) rfl ?_
  unfold w_X12_line at h
  refine pj_aload_n 1 0 rfl rfl rfl rfl ?_
  refine pj_iconst 2 rfl rfl ?_
  refine pn_puti 5 12 5 5 o0  rfl pfX12_88 rfl rfl rfl (fun M1 hM1 => ?_)
  replace h := h M1 hM1
  refine pj_aload_n 6 0 rfl rfl rfl rfl ?_
  refine pn_callVv 9 12 [] [] o0 (s_X12_begin hg o0 h) plX12_143 rfl rfl rfl rfl (Nat.le_of_ble_eq_true rfl) (by decide) (fun M2 h => ?_)
  refine pj_iconst 10 rfl rfl ?_
  refine pj_istore_n 11 (ls' := [(0, .ref r0), (1, .int (pj_I 0))]) rfl rfl (by decide) rfl rfl ?_
  refine pn_sub [0, 1] rfl ?_
  exact s_X12_line_11 hg o0   h
def w_X12_brackets_174 (r0 : Nat) (x1 : Int) (x2 : Int) (u0 : Nat) (y1 : Int) (y2 : Int) (k145 : Int → pj_M → Prop) (Q : Int → pj_M → Prop) (M : pj_M) : Prop :=
  ((0 : Int) ≤ y1 ∧ y1 < 95) ∧ ∀ M18 : pj_M, M18 = pj_up M u0 y1 y2 → k145 (x2 + 1) M18
def w_X12_brackets_145b (r0 : Nat) (x1 : Int)  (Q : Int → pj_M → Prop) (k145 : Int → pj_M → Prop) (x2 : Int) (M : pj_M) : Prop :=
  (pj_in x2) ∧ ((6 ≤ x2 → Q (pj_div x1 2) M) ∧ (¬ 6 ≤ x2 → (pj_in x2) ∧ (pj_in x1) ∧ ((x1 ≤ x2 → w_X12_brackets_174 r0 x1 x2 (pj_rf r0 0) (89 + x2) 0 k145 Q M) ∧ (¬ x1 ≤ x2 → ((0 : Int) ≤ x2 ∧ x2 < 80) ∧ w_X12_brackets_174 r0 x1 x2 (pj_rf r0 0) (89 + x2) (M (pj_rf r0 10) x2) k145 Q M))))
def w_X12_brackets_145 (r0 : Nat) (x1 : Int)  (Q : Int → pj_M → Prop) (x2 : Int) (M : pj_M) : Prop := pj_lp (fun (k : Int × pj_M → Prop) (s : Int × pj_M) => w_X12_brackets_145b r0 x1  Q (fun (x2 : Int) (M : pj_M) => k (x2, M)) s.1 s.2) (x2, M)
def w_X12_brackets_115 (r0 : Nat) (x1 : Int)  (Q : Int → pj_M → Prop) (M : pj_M) : Prop :=
  w_X12_wasRight r0 M (fun (t9 : Int) (M8 : pj_M) => (pj_in t9) ∧ ((¬ t9 = 0 → w_X12_change r0 M8 (fun (M11 : pj_M) => ∀ M13 : pj_M, M13 = pj_up M11 (pj_rf r0 0) 88 (pj_div x1 2) → w_X12_brackets_145 r0 x1  Q 0 M13)) ∧ (t9 = 0 → Q ((-1) - (M8 r0 8)) M8)))
def w_X12_brackets_100 (r0 : Nat) (x1 : Int)  (Q : Int → pj_M → Prop) (M : pj_M) : Prop :=
  (pj_in (pj_rem x1 2)) ∧ ((¬ (pj_rem x1 2) = 1 → w_X12_brackets_115 r0 x1  Q M) ∧ ((pj_rem x1 2) = 1 → w_X12_fault r0 (M r0 6) M (fun (M20 : pj_M) => w_X12_brackets_115 r0 x1  Q M20)))
def w_X12_brackets_87 (r0 : Nat) (x1 : Int) (x2 : Int) (k11 : Int → pj_M → Prop) (Q : Int → pj_M → Prop) (M : pj_M) : Prop :=
  ((0 : Int) ≤ x1 ∧ x1 < 80) ∧ ∀ M30 : pj_M, M30 = pj_up M (pj_rf r0 10) x1 x2 → k11 (x1 + 1) M30
def w_X12_brackets_40b (r0 : Nat) (x1 : Int) (x2 : Int) (k11 : Int → pj_M → Prop) (Q : Int → pj_M → Prop) (k40 : Int → pj_M → Prop) (x3 : Int) (M : pj_M) : Prop :=
  (pj_in x3) ∧ (pj_in x1) ∧ ((x1 ≤ x3 → (pj_in x1) ∧ ((¬ x1 = 6 → w_X12_brackets_87 r0 x1 x2 k11 Q M) ∧ (x1 = 6 → w_X12_fault r0 ((M r0 7) - 1) M (fun (M31 : pj_M) => w_X12_brackets_87 r0 x1 x2 k11 Q M31)))) ∧ (¬ x1 ≤ x3 → ((0 : Int) ≤ x3 ∧ x3 < 80) ∧ (pj_in (M (pj_rf r0 10) x3)) ∧ (pj_in x2) ∧ ((¬ (M (pj_rf r0 10) x3) = x2 → k40 (x3 + 1) M) ∧ ((M (pj_rf r0 10) x3) = x2 → w_X12_fault r0 ((M r0 7) - 1) M (fun (M36 : pj_M) => k40 (x3 + 1) M36)))))
def w_X12_brackets_40 (r0 : Nat) (x1 : Int) (x2 : Int) (k11 : Int → pj_M → Prop) (Q : Int → pj_M → Prop) (x3 : Int) (M : pj_M) : Prop := pj_lp (fun (k : Int × pj_M → Prop) (s : Int × pj_M) => w_X12_brackets_40b r0 x1 x2 k11 Q (fun (x3 : Int) (M : pj_M) => k (x3, M)) s.1 s.2) (x3, M)
def w_X12_brackets_11b (r0 : Nat)  (Q : Int → pj_M → Prop) (k11 : Int → pj_M → Prop) (x1 : Int) (M : pj_M) : Prop :=
  w_X12_fine r0 M (fun (t5 : Int) (M4 : pj_M) => (pj_in t5) ∧ ((t5 = 0 → w_X12_brackets_100 r0 x1  Q M4) ∧ (¬ t5 = 0 → (pj_in (M4 r0 7)) ∧ (pj_in (M4 r0 6)) ∧ (((M4 r0 6) ≤ (M4 r0 7) → w_X12_brackets_100 r0 x1  Q M4) ∧ (¬ (M4 r0 6) ≤ (M4 r0 7) → w_X12_oneOf r0 97 8 M4 (fun (t25 : Int) (M24 : pj_M) => w_X12_brackets_40 r0 x1 t25 k11 Q 0 M24))))))
def w_X12_brackets_11 (r0 : Nat)  (Q : Int → pj_M → Prop) (x1 : Int) (M : pj_M) : Prop := pj_lp (fun (k : Int × pj_M → Prop) (s : Int × pj_M) => w_X12_brackets_11b r0  Q (fun (x1 : Int) (M : pj_M) => k (x1, M)) s.1 s.2) (x1, M)
def w_X12_brackets (r0 : Nat) (M : pj_M) (Q : Int → pj_M → Prop) : Prop :=
  ∀ M1 : pj_M, M1 = pj_up M r0 5 0 → w_X12_begin r0 M1 (fun (M2 : pj_M) => w_X12_brackets_11 r0  Q 0 M2)
set_option maxRecDepth 20000 in
set_option maxHeartbeats 4000000 in
theorem s_X12_brackets_174 {l : Launch} {g : pj_G} (hg : pj_ph g = true) {r0 : Nat} {x1 : Int} {x2 : Int} {u0 : Nat} {y1 : Int} {y2 : Int} {M : pj_M} {Q : Int → pj_M → Prop} {k145 : Int → pj_M → Prop} (o0 : pj_ob r0 12) (ou0 : pj_ol u0 1 95) (hk145 : ∀ (x2 : Int) (M : pj_M), k145 x2 M → pj_R l g mdX12_brackets pj_T (pj_Zm g mdX12_brackets (pj_qi Q)) pj_NK 0 0 145 [(0, .ref r0), (1, .int (pj_I x1)), (2, .int (pj_I x2))] [] M) (h : w_X12_brackets_174 r0 x1 x2 u0 y1 y2 k145 Q M) : pj_R l g mdX12_brackets pj_T (pj_Zm g mdX12_brackets (pj_qi Q)) pj_NK 0 0 174 [(0, .ref r0), (1, .int (pj_I x1)), (2, .int (pj_I x2))] [.int (pj_I y2), .int (pj_I y1), .ref u0] M := by
  unfold w_X12_brackets_174 at h
  obtain ⟨q17, h⟩ := h
  refine pn_iast 175 95 ou0  q17 rfl rfl (fun M18 hM18 => ?_)
  replace h := h M18 hM18
  refine pj_iinc 178 2 (ls' := [(0, .ref r0), (1, .int (pj_I x1)), (2, .int (pj_I (x2 + 1)))]) rfl rfl (by decide) rfl rfl ?_
  refine pj_goto 145 rfl (by decide) ?_
  refine pn_sub [0, 1, 2] rfl ?_
  exact hk145 _ _ h
set_option maxRecDepth 20000 in
set_option maxHeartbeats 4000000 in
theorem s_X12_brackets_145b {l : Launch} {g : pj_G} (hg : pj_ph g = true) {r0 : Nat} {x1 : Int} {x2 : Int} {M : pj_M} {Q : Int → pj_M → Prop}  {k145 : Int → pj_M → Prop} (o0 : pj_ob r0 12)  (hk145 : ∀ (x2 : Int) (M : pj_M), k145 x2 M → pj_R l g mdX12_brackets pj_T (pj_Zm g mdX12_brackets (pj_qi Q)) pj_NK 0 0 145 [(0, .ref r0), (1, .int (pj_I x1)), (2, .int (pj_I x2))] [] M) (h : w_X12_brackets_145b r0 x1  Q k145 x2 M) : pj_R l g mdX12_brackets pj_T (pj_Zm g mdX12_brackets (pj_qi Q)) pj_NK 0 0 145 [(0, .ref r0), (1, .int (pj_I x1)), (2, .int (pj_I x2))] [] M := by
  unfold w_X12_brackets_145b at h
  refine pj_iload_n 146 2 rfl rfl rfl rfl ?_
  refine pj_bipush 148 rfl (by decide) rfl ?_
  obtain ⟨q14, h⟩ := h
  refine pj_icmp_ge 181 151 rfl (by decide) rfl q14 (show pj_in 6 by decide) (fun hc => ?_) (fun hc => ?_)
  · replace h := h.1 hc
    refine pj_iload_n 182 1 rfl rfl rfl rfl ?_
    refine pj_iconst 183 rfl rfl ?_
    refine pj_idiv 184 rfl rfl (show pj_in 2 by decide) (by decide) ?_
    exact pn_iret h rfl rfl
  · replace h := h.2 hc
    refine pj_aload_n 152 0 rfl rfl rfl rfl ?_
    refine pn_getr 155 12 0 hg o0 (pr_12_0 o0).2 rfl pfX12_9 rfl rfl ?_
    refine pj_bipush 157 rfl (by decide) rfl ?_
    refine pj_iload_n 158 2 rfl rfl rfl rfl ?_
    refine pj_iadd 159 rfl rfl ?_
    refine pj_iload_n 160 2 rfl rfl rfl rfl ?_
    refine pj_iload_n 161 1 rfl rfl rfl rfl ?_
    obtain ⟨q15, h⟩ := h
    obtain ⟨q16, h⟩ := h
    refine pj_icmp_ge 173 164 rfl (by decide) rfl q15 q16 (fun hc => ?_) (fun hc => ?_)
    · replace h := h.1 hc
      refine pj_iconst 174 rfl rfl ?_
      refine pn_sub [0, 1, 2] rfl ?_
      exact s_X12_brackets_174 hg o0 (pr_12_0 o0) hk145 h
    · replace h := h.2 hc
      refine pj_aload_n 165 0 rfl rfl rfl rfl ?_
      refine pn_getr 168 12 10 hg o0 (pr_12_10 o0).2 rfl pfX12_24 rfl rfl ?_
      refine pj_iload_n 169 2 rfl rfl rfl rfl ?_
      obtain ⟨q19, h⟩ := h
      refine pn_iald 170 80 (pr_12_10 o0) q19 rfl rfl ?_
      refine pj_goto 174 rfl (by decide) ?_
      refine pn_sub [0, 1, 2] rfl ?_
      exact s_X12_brackets_174 hg o0 (pr_12_0 o0) hk145 h
set_option maxRecDepth 20000 in
set_option maxHeartbeats 4000000 in
theorem s_X12_brackets_145 {l : Launch} {g : pj_G} (hg : pj_ph g = true) {r0 : Nat} {x1 : Int} {x2 : Int} {M : pj_M} {Q : Int → pj_M → Prop}  (o0 : pj_ob r0 12)  (h : w_X12_brackets_145 r0 x1  Q x2 M) : pj_R l g mdX12_brackets pj_T (pj_Zm g mdX12_brackets (pj_qi Q)) pj_NK 0 0 145 [(0, .ref r0), (1, .int (pj_I x1)), (2, .int (pj_I x2))] [] M :=
  h (fun s => pj_R l g mdX12_brackets pj_T (pj_Zm g mdX12_brackets (pj_qi Q)) pj_NK 0 0 145 [(0, .ref r0), (1, .int (pj_I x1)), (2, .int (pj_I (s.1)))] [] s.2) (fun s hs => s_X12_brackets_145b hg o0  (fun _ _ q => q) hs)
set_option maxRecDepth 20000 in
set_option maxHeartbeats 4000000 in
theorem s_X12_brackets_115 {l : Launch} {g : pj_G} (hg : pj_ph g = true) {r0 : Nat} {x1 : Int} {M : pj_M} {Q : Int → pj_M → Prop}  (o0 : pj_ob r0 12)  (h : w_X12_brackets_115 r0 x1  Q M) : pj_R l g mdX12_brackets pj_T (pj_Zm g mdX12_brackets (pj_qi Q)) pj_NK 0 0 115 [(0, .ref r0), (1, .int (pj_I x1))] [] M := by
  unfold w_X12_brackets_115 at h
  refine pj_aload_n 116 0 rfl rfl rfl rfl ?_
  refine pn_callVi 119 12 [] [] o0 (s_X12_wasRight hg o0 h) plX12_149 rfl rfl rfl rfl (Nat.le_of_ble_eq_true rfl) (by decide) (fun t9 M8 h => ?_)
  obtain ⟨q10, h⟩ := h
  refine pj_if_ne 129 122 rfl (by decide) rfl q10  (fun hc => ?_) (fun hc => ?_)
  · replace h := h.1 hc
    refine pj_aload_n 130 0 rfl rfl rfl rfl ?_
    refine pn_callVv 133 12 [] [] o0 (s_X12_change hg o0 h) plX12_163 rfl rfl rfl rfl (Nat.le_of_ble_eq_true rfl) (by decide) (fun M11 h => ?_)
    refine pj_aload_n 134 0 rfl rfl rfl rfl ?_
    refine pn_getr 137 12 0 hg o0 (pr_12_0 o0).2 rfl pfX12_9 rfl rfl ?_
    refine pj_bipush 139 rfl (by decide) rfl ?_
    refine pj_iload_n 140 1 rfl rfl rfl rfl ?_
    refine pj_iconst 141 rfl rfl ?_
    refine pj_idiv 142 rfl rfl (show pj_in 2 by decide) (by decide) ?_
    refine pn_iast 143 95 (pr_12_0 o0)  (show 0 ≤ (88 : Int) ∧ (88 : Int) < ((95 : Nat) : Int) by decide) rfl rfl (fun M13 hM13 => ?_)
    replace h := h M13 hM13
    refine pj_iconst 144 rfl rfl ?_
    refine pj_istore_n 145 (ls' := [(0, .ref r0), (1, .int (pj_I x1)), (2, .int (pj_I 0))]) rfl rfl (by decide) rfl rfl ?_
    refine pn_sub [0, 1, 2] rfl ?_
    exact s_X12_brackets_145 hg o0   h
  · replace h := h.2 (Classical.not_not.mp hc)
    refine pj_iconst 123 rfl rfl ?_
    refine pj_aload_n 124 0 rfl rfl rfl rfl ?_
    refine pn_geti 127 12 8 8 o0 rfl pfX12_108 (Or.inl rfl) rfl rfl ?_
    refine pj_isub 128 rfl rfl ?_
    exact pn_iret h rfl rfl
set_option maxRecDepth 20000 in
set_option maxHeartbeats 4000000 in
theorem s_X12_brackets_100 {l : Launch} {g : pj_G} (hg : pj_ph g = true) {r0 : Nat} {x1 : Int} {M : pj_M} {Q : Int → pj_M → Prop}  (o0 : pj_ob r0 12)  (h : w_X12_brackets_100 r0 x1  Q M) : pj_R l g mdX12_brackets pj_T (pj_Zm g mdX12_brackets (pj_qi Q)) pj_NK 0 0 100 [(0, .ref r0), (1, .int (pj_I x1))] [] M := by
  unfold w_X12_brackets_100 at h
  refine pj_iload_n 101 1 rfl rfl rfl rfl ?_
  refine pj_iconst 102 rfl rfl ?_
  refine pj_irem 103 rfl rfl (show pj_in 2 by decide) (by decide) ?_
  refine pj_iconst 104 rfl rfl ?_
  obtain ⟨q7, h⟩ := h
  refine pj_icmp_ne 115 107 rfl (by decide) rfl q7 (show pj_in 1 by decide) (fun hc => ?_) (fun hc => ?_)
  · replace h := h.1 hc
    refine pn_sub [0, 1] rfl ?_
    exact s_X12_brackets_115 hg o0   h
  · replace h := h.2 (Classical.not_not.mp hc)
    refine pj_aload_n 108 0 rfl rfl rfl rfl ?_
    refine pj_aload_n 109 0 rfl rfl rfl rfl ?_
    refine pn_geti 112 12 6 6 o0 rfl pfX12_102 (Or.inl rfl) rfl rfl ?_
    refine pn_callVv 115 12 [.int (pj_I (M r0 6))] [] o0 (s_X12_fault hg o0 h) plX12_119 rfl rfl rfl rfl (Nat.le_of_ble_eq_true rfl) (by decide) (fun M20 h => ?_)
    refine pn_sub [0, 1] rfl ?_
    exact s_X12_brackets_115 hg o0   h
set_option maxRecDepth 20000 in
set_option maxHeartbeats 4000000 in
theorem s_X12_brackets_87 {l : Launch} {g : pj_G} (hg : pj_ph g = true) {r0 : Nat} {x1 : Int} {x2 : Int} {M : pj_M} {Q : Int → pj_M → Prop} {k11 : Int → pj_M → Prop} (o0 : pj_ob r0 12) (hk11 : ∀ (x1 : Int) (M : pj_M), k11 x1 M → pj_R l g mdX12_brackets pj_T (pj_Zm g mdX12_brackets (pj_qi Q)) pj_NK 0 0 11 [(0, .ref r0), (1, .int (pj_I x1))] [] M) (h : w_X12_brackets_87 r0 x1 x2 k11 Q M) : pj_R l g mdX12_brackets pj_T (pj_Zm g mdX12_brackets (pj_qi Q)) pj_NK 0 0 87 [(0, .ref r0), (1, .int (pj_I x1)), (2, .int (pj_I x2))] [] M := by
  unfold w_X12_brackets_87 at h
  refine pj_aload_n 88 0 rfl rfl rfl rfl ?_
  refine pn_getr 91 12 10 hg o0 (pr_12_10 o0).2 rfl pfX12_24 rfl rfl ?_
  refine pj_iload_n 92 1 rfl rfl rfl rfl ?_
  refine pj_iload_n 93 2 rfl rfl rfl rfl ?_
  obtain ⟨q29, h⟩ := h
  refine pn_iast 94 80 (pr_12_10 o0)  q29 rfl rfl (fun M30 hM30 => ?_)
  replace h := h M30 hM30
  refine pj_iinc 97 1 (ls' := [(0, .ref r0), (1, .int (pj_I (x1 + 1))), (2, .int (pj_I x2))]) rfl rfl (by decide) rfl rfl ?_
  refine pj_goto 11 rfl (by decide) ?_
  refine pn_sub [0, 1] rfl ?_
  exact hk11 _ _ h
set_option maxRecDepth 20000 in
set_option maxHeartbeats 4000000 in
theorem s_X12_brackets_40b {l : Launch} {g : pj_G} (hg : pj_ph g = true) {r0 : Nat} {x1 : Int} {x2 : Int} {x3 : Int} {M : pj_M} {Q : Int → pj_M → Prop} {k11 : Int → pj_M → Prop} {k40 : Int → pj_M → Prop} (o0 : pj_ob r0 12) (hk11 : ∀ (x1 : Int) (M : pj_M), k11 x1 M → pj_R l g mdX12_brackets pj_T (pj_Zm g mdX12_brackets (pj_qi Q)) pj_NK 0 0 11 [(0, .ref r0), (1, .int (pj_I x1))] [] M) (hk40 : ∀ (x3 : Int) (M : pj_M), k40 x3 M → pj_R l g mdX12_brackets pj_T (pj_Zm g mdX12_brackets (pj_qi Q)) pj_NK 0 0 40 [(0, .ref r0), (1, .int (pj_I x1)), (2, .int (pj_I x2)), (3, .int (pj_I x3))] [] M) (h : w_X12_brackets_40b r0 x1 x2 k11 Q k40 x3 M) : pj_R l g mdX12_brackets pj_T (pj_Zm g mdX12_brackets (pj_qi Q)) pj_NK 0 0 40 [(0, .ref r0), (1, .int (pj_I x1)), (2, .int (pj_I x2)), (3, .int (pj_I x3))] [] M := by
  unfold w_X12_brackets_40b at h
  refine pj_iload_n 41 3 rfl rfl rfl rfl ?_
  refine pj_iload_n 42 1 rfl rfl rfl rfl ?_
  obtain ⟨q26, h⟩ := h
  obtain ⟨q27, h⟩ := h
  refine pj_icmp_ge 71 45 rfl (by decide) rfl q26 q27 (fun hc => ?_) (fun hc => ?_)
  · replace h := h.1 hc
    refine pj_iload_n 72 1 rfl rfl rfl rfl ?_
    refine pj_bipush 74 rfl (by decide) rfl ?_
    obtain ⟨q28, h⟩ := h
    refine pj_icmp_ne 87 77 rfl (by decide) rfl q28 (show pj_in 6 by decide) (fun hc => ?_) (fun hc => ?_)
    · replace h := h.1 hc
      refine pn_sub [0, 1, 2] rfl ?_
      exact s_X12_brackets_87 hg o0  hk11 h
    · replace h := h.2 (Classical.not_not.mp hc)
      refine pj_aload_n 78 0 rfl rfl rfl rfl ?_
      refine pj_aload_n 79 0 rfl rfl rfl rfl ?_
      refine pn_geti 82 12 7 7 o0 rfl pfX12_105 (Or.inl rfl) rfl rfl ?_
      refine pj_iconst 83 rfl rfl ?_
      refine pj_isub 84 rfl rfl ?_
      refine pn_callVv 87 12 [.int (pj_I ((M r0 7) - 1))] [] o0 (s_X12_fault hg o0 h) plX12_119 rfl rfl rfl rfl (Nat.le_of_ble_eq_true rfl) (by decide) (fun M31 h => ?_)
      refine pn_sub [0, 1, 2] rfl ?_
      exact s_X12_brackets_87 hg o0  hk11 h
  · replace h := h.2 hc
    refine pj_aload_n 46 0 rfl rfl rfl rfl ?_
    refine pn_getr 49 12 10 hg o0 (pr_12_10 o0).2 rfl pfX12_24 rfl rfl ?_
    refine pj_iload_n 50 3 rfl rfl rfl rfl ?_
    obtain ⟨q33, h⟩ := h
    refine pn_iald 51 80 (pr_12_10 o0) q33 rfl rfl ?_
    refine pj_iload_n 52 2 rfl rfl rfl rfl ?_
    obtain ⟨q34, h⟩ := h
    obtain ⟨q35, h⟩ := h
    refine pj_icmp_ne 65 55 rfl (by decide) rfl q34 q35 (fun hc => ?_) (fun hc => ?_)
    · replace h := h.1 hc
      refine pj_iinc 68 3 (ls' := [(0, .ref r0), (1, .int (pj_I x1)), (2, .int (pj_I x2)), (3, .int (pj_I (x3 + 1)))]) rfl rfl (by decide) rfl rfl ?_
      refine pj_goto 40 rfl (by decide) ?_
      refine pn_sub [0, 1, 2, 3] rfl ?_
      exact hk40 _ _ h
    · replace h := h.2 (Classical.not_not.mp hc)
      refine pj_aload_n 56 0 rfl rfl rfl rfl ?_
      refine pj_aload_n 57 0 rfl rfl rfl rfl ?_
      refine pn_geti 60 12 7 7 o0 rfl pfX12_105 (Or.inl rfl) rfl rfl ?_
      refine pj_iconst 61 rfl rfl ?_
      refine pj_isub 62 rfl rfl ?_
      refine pn_callVv 65 12 [.int (pj_I ((M r0 7) - 1))] [] o0 (s_X12_fault hg o0 h) plX12_119 rfl rfl rfl rfl (Nat.le_of_ble_eq_true rfl) (by decide) (fun M36 h => ?_)
      refine pj_iinc 68 3 (ls' := [(0, .ref r0), (1, .int (pj_I x1)), (2, .int (pj_I x2)), (3, .int (pj_I (x3 + 1)))]) rfl rfl (by decide) rfl rfl ?_
      refine pj_goto 40 rfl (by decide) ?_
      refine pn_sub [0, 1, 2, 3] rfl ?_
      exact hk40 _ _ h
set_option maxRecDepth 20000 in
set_option maxHeartbeats 4000000 in
theorem s_X12_brackets_40 {l : Launch} {g : pj_G} (hg : pj_ph g = true) {r0 : Nat} {x1 : Int} {x2 : Int} {x3 : Int} {M : pj_M} {Q : Int → pj_M → Prop} {k11 : Int → pj_M → Prop} (o0 : pj_ob r0 12) (hk11 : ∀ (x1 : Int) (M : pj_M), k11 x1 M → pj_R l g mdX12_brackets pj_T (pj_Zm g mdX12_brackets (pj_qi Q)) pj_NK 0 0 11 [(0, .ref r0), (1, .int (pj_I x1))] [] M) (h : w_X12_brackets_40 r0 x1 x2 k11 Q x3 M) : pj_R l g mdX12_brackets pj_T (pj_Zm g mdX12_brackets (pj_qi Q)) pj_NK 0 0 40 [(0, .ref r0), (1, .int (pj_I x1)), (2, .int (pj_I x2)), (3, .int (pj_I x3))] [] M :=
  h (fun s => pj_R l g mdX12_brackets pj_T (pj_Zm g mdX12_brackets (pj_qi Q)) pj_NK 0 0 40 [(0, .ref r0), (1, .int (pj_I x1)), (2, .int (pj_I x2)), (3, .int (pj_I (s.1)))] [] s.2) (fun s hs => s_X12_brackets_40b hg o0 hk11 (fun _ _ q => q) hs)
set_option maxRecDepth 20000 in
set_option maxHeartbeats 4000000 in
theorem s_X12_brackets_11b {l : Launch} {g : pj_G} (hg : pj_ph g = true) {r0 : Nat} {x1 : Int} {M : pj_M} {Q : Int → pj_M → Prop}  {k11 : Int → pj_M → Prop} (o0 : pj_ob r0 12)  (hk11 : ∀ (x1 : Int) (M : pj_M), k11 x1 M → pj_R l g mdX12_brackets pj_T (pj_Zm g mdX12_brackets (pj_qi Q)) pj_NK 0 0 11 [(0, .ref r0), (1, .int (pj_I x1))] [] M) (h : w_X12_brackets_11b r0  Q k11 x1 M) : pj_R l g mdX12_brackets pj_T (pj_Zm g mdX12_brackets (pj_qi Q)) pj_NK 0 0 11 [(0, .ref r0), (1, .int (pj_I x1))] [] M := by
  unfold w_X12_brackets_11b at h
  refine pj_aload_n 12 0 rfl rfl rfl rfl ?_
  refine pn_callVi 15 12 [] [] o0 (s_X12_fine hg o0 h) plX12_111 rfl rfl rfl rfl (Nat.le_of_ble_eq_true rfl) (by decide) (fun t5 M4 h => ?_)
  obtain ⟨q6, h⟩ := h
  refine pj_if_eq 100 18 rfl (by decide) rfl q6  (fun hc => ?_) (fun hc => ?_)
  · replace h := h.1 hc
    refine pn_sub [0, 1] rfl ?_
    exact s_X12_brackets_100 hg o0   h
  · replace h := h.2 hc
    refine pj_aload_n 19 0 rfl rfl rfl rfl ?_
    refine pn_geti 22 12 7 7 o0 rfl pfX12_105 (Or.inl rfl) rfl rfl ?_
    refine pj_aload_n 23 0 rfl rfl rfl rfl ?_
    refine pn_geti 26 12 6 6 o0 rfl pfX12_102 (Or.inl rfl) rfl rfl ?_
    obtain ⟨q22, h⟩ := h
    obtain ⟨q23, h⟩ := h
    refine pj_icmp_ge 100 29 rfl (by decide) rfl q22 q23 (fun hc => ?_) (fun hc => ?_)
    · replace h := h.1 hc
      refine pn_sub [0, 1] rfl ?_
      exact s_X12_brackets_100 hg o0   h
    · replace h := h.2 hc
      refine pj_aload_n 30 0 rfl rfl rfl rfl ?_
      refine pj_bipush 32 rfl (by decide) rfl ?_
      refine pj_bipush 34 rfl (by decide) rfl ?_
      refine pn_callVi 37 12 [.int (pj_I 97), .int (pj_I 8)] [] o0 (s_X12_oneOf hg o0 h) plX12_123 rfl rfl rfl rfl (Nat.le_of_ble_eq_true rfl) (by decide) (fun t25 M24 h => ?_)
      refine pj_istore_n 38 (ls' := [(0, .ref r0), (1, .int (pj_I x1)), (2, .int (pj_I t25))]) rfl rfl (by decide) rfl rfl ?_
      refine pj_iconst 39 rfl rfl ?_
      refine pj_istore_n 40 (ls' := [(0, .ref r0), (1, .int (pj_I x1)), (2, .int (pj_I t25)), (3, .int (pj_I 0))]) rfl rfl (by decide) rfl rfl ?_
      refine pn_sub [0, 1, 2, 3] rfl ?_
      exact s_X12_brackets_40 hg o0  hk11 h
set_option maxRecDepth 20000 in
set_option maxHeartbeats 4000000 in
theorem s_X12_brackets_11 {l : Launch} {g : pj_G} (hg : pj_ph g = true) {r0 : Nat} {x1 : Int} {M : pj_M} {Q : Int → pj_M → Prop}  (o0 : pj_ob r0 12)  (h : w_X12_brackets_11 r0  Q x1 M) : pj_R l g mdX12_brackets pj_T (pj_Zm g mdX12_brackets (pj_qi Q)) pj_NK 0 0 11 [(0, .ref r0), (1, .int (pj_I x1))] [] M :=
  h (fun s => pj_R l g mdX12_brackets pj_T (pj_Zm g mdX12_brackets (pj_qi Q)) pj_NK 0 0 11 [(0, .ref r0), (1, .int (pj_I (s.1)))] [] s.2) (fun s hs => s_X12_brackets_11b hg o0  (fun _ _ q => q) hs)
set_option maxRecDepth 20000 in
set_option maxHeartbeats 4000000 in
theorem s_X12_brackets {l : Launch} {g : pj_G} (hg : pj_ph g = true) {r0 : Nat} {M : pj_M} {Q : Int → pj_M → Prop} (o0 : pj_ob r0 12) (h : w_X12_brackets r0 M Q) : pj_S l g mdX12_brackets [.ref r0] pj_NK M (pj_qi Q) := by
  refine pj_ofR (ls := [(0, .ref r0)]) gcX12_brackets (by decide) rfl (Nat.le_of_ble_eq_true rfl) rfl ?_
  unfold w_X12_brackets at h
  refine pj_aload_n 1 0 rfl rfl rfl rfl ?_
  refine pj_iconst 2 rfl rfl ?_
  refine pn_puti 5 12 5 5 o0  rfl pfX12_88 rfl rfl rfl (fun M1 hM1 => ?_)
  replace h := h M1 hM1
  refine pj_aload_n 6 0 rfl rfl rfl rfl ?_
  refine pn_callVv 9 12 [] [] o0 (s_X12_begin hg o0 h) plX12_143 rfl rfl rfl rfl (Nat.le_of_ble_eq_true rfl) (by decide) (fun M2 h => ?_)
  refine pj_iconst 10 rfl rfl ?_
  refine pj_istore_n 11 (ls' := [(0, .ref r0), (1, .int (pj_I 0))]) rfl rfl (by decide) rfl rfl ?_
  refine pn_sub [0, 1] rfl ?_
  exact s_X12_brackets_11 hg o0   h
def w_X12_symbol (r0 : Nat) (x1 : Int) (x2 : Int) (M : pj_M) (Q : Int → pj_M → Prop) : Prop :=
  ∀ M1 : pj_M, M1 = pj_up M r0 5 0 → w_X12_in x1 0 ((M1 (pj_rf r0 0) 0) - 1) M1 (fun (t3 : Int) (M2 : pj_M) => (pj_in t3) ∧ ((¬ t3 = 0 → w_X12_alt x1 M2 (fun (t6 : Int) (M5 : pj_M) => ((0 : Int) ≤ (t6 + 1) ∧ (t6 + 1) < 95) ∧ w_X12_in x2 0 ((M5 (pj_rf r0 0) (t6 + 1)) - 1) M5 (fun (t9 : Int) (M8 : pj_M) => (pj_in t9) ∧ ((t9 = 0 → w_X12_lost r0 M8 (fun (t12 : Int) (M11 : pj_M) => Q t12 M11)) ∧ (¬ t9 = 0 → w_X12_alt x1 M8 (fun (t14 : Int) (M13 : pj_M) => ((0 : Int) ≤ ((t14 + 2) + x2) ∧ ((t14 + 2) + x2) < 95) ∧ Q (M13 (pj_rf r0 0) ((t14 + 2) + x2)) M13)))))) ∧ (t3 = 0 → w_X12_lost r0 M2 (fun (t17 : Int) (M16 : pj_M) => Q t17 M16))))
set_option maxRecDepth 20000 in
set_option maxHeartbeats 4000000 in
theorem s_X12_symbol {l : Launch} {g : pj_G} (hg : pj_ph g = true) {r0 : Nat} {x1 : Int} {x2 : Int} {M : pj_M} {Q : Int → pj_M → Prop} (o0 : pj_ob r0 12) (h : w_X12_symbol r0 x1 x2 M Q) : pj_S l g mdX12_symbol [.ref r0, .int (pj_I x1), .int (pj_I x2)] pj_NK M (pj_qi Q) := by
  refine pj_ofR (ls := [(0, .ref r0), (1, .int (pj_I x1)), (2, .int (pj_I x2))]) gcX12_symbol (by decide) rfl (Nat.le_of_ble_eq_true rfl) rfl ?_
  unfold w_X12_symbol at h
  refine pj_aload_n 1 0 rfl rfl rfl rfl ?_
  refine pj_iconst 2 rfl rfl ?_
  refine pn_puti 5 12 5 5 o0  rfl pfX12_88 rfl rfl rfl (fun M1 hM1 => ?_)
  replace h := h M1 hM1
  refine pj_iload_n 6 1 rfl rfl rfl rfl ?_
  refine pj_iconst 7 rfl rfl ?_
  refine pj_aload_n 8 0 rfl rfl rfl rfl ?_
  refine pn_getr 11 12 0 hg o0 (pr_12_0 o0).2 rfl pfX12_9 rfl rfl ?_
  refine pj_iconst 12 rfl rfl ?_
  refine pn_iald 13 95 (pr_12_0 o0) (show 0 ≤ (0 : Int) ∧ (0 : Int) < ((95 : Nat) : Int) by decide) rfl rfl ?_
  refine pj_iconst 14 rfl rfl ?_
  refine pj_isub 15 rfl rfl ?_
  refine pn_callSi 18 [.int (pj_I x1), .int (pj_I 0), .int (pj_I ((M1 (pj_rf r0 0) 0) - 1))] [] (s_X12_in hg  h) plX12_98 rfl rfl rfl rfl (Nat.le_of_ble_eq_true rfl) (by decide) (fun t3 M2 h => ?_)
  obtain ⟨q4, h⟩ := h
  refine pj_if_ne 26 21 rfl (by decide) rfl q4  (fun hc => ?_) (fun hc => ?_)
  · replace h := h.1 hc
    refine pj_iload_n 27 2 rfl rfl rfl rfl ?_
    refine pj_iconst 28 rfl rfl ?_
    refine pj_aload_n 29 0 rfl rfl rfl rfl ?_
    refine pn_getr 32 12 0 hg o0 (pr_12_0 o0).2 rfl pfX12_9 rfl rfl ?_
    refine pj_iload_n 33 1 rfl rfl rfl rfl ?_
    refine pn_callSi 36 [.int (pj_I x1)] [.ref (pj_rf r0 0), .int (pj_I 0), .int (pj_I x2)] (s_X12_alt hg  h) plX12_127 rfl rfl rfl rfl (Nat.le_of_ble_eq_true rfl) (by decide) (fun t6 M5 h => ?_)
    refine pj_iconst 37 rfl rfl ?_
    refine pj_iadd 38 rfl rfl ?_
    obtain ⟨q7, h⟩ := h
    refine pn_iald 39 95 (pr_12_0 o0) q7 rfl rfl ?_
    refine pj_iconst 40 rfl rfl ?_
    refine pj_isub 41 rfl rfl ?_
    refine pn_callSi 44 [.int (pj_I x2), .int (pj_I 0), .int (pj_I ((M5 (pj_rf r0 0) (t6 + 1)) - 1))] [] (s_X12_in hg  h) plX12_98 rfl rfl rfl rfl (Nat.le_of_ble_eq_true rfl) (by decide) (fun t9 M8 h => ?_)
    obtain ⟨q10, h⟩ := h
    refine pj_if_eq 63 47 rfl (by decide) rfl q10  (fun hc => ?_) (fun hc => ?_)
    · replace h := h.1 hc
      refine pj_aload_n 64 0 rfl rfl rfl rfl ?_
      refine pn_callVi 67 12 [] [] o0 (s_X12_lost hg o0 h) plX12_169 rfl rfl rfl rfl (Nat.le_of_ble_eq_true rfl) (by decide) (fun t12 M11 h => ?_)
      exact pn_iret h rfl rfl
    · replace h := h.2 hc
      refine pj_aload_n 48 0 rfl rfl rfl rfl ?_
      refine pn_getr 51 12 0 hg o0 (pr_12_0 o0).2 rfl pfX12_9 rfl rfl ?_
      refine pj_iload_n 52 1 rfl rfl rfl rfl ?_
      refine pn_callSi 55 [.int (pj_I x1)] [.ref (pj_rf r0 0)] (s_X12_alt hg  h) plX12_127 rfl rfl rfl rfl (Nat.le_of_ble_eq_true rfl) (by decide) (fun t14 M13 h => ?_)
      refine pj_iconst 56 rfl rfl ?_
      refine pj_iadd 57 rfl rfl ?_
      refine pj_iload_n 58 2 rfl rfl rfl rfl ?_
      refine pj_iadd 59 rfl rfl ?_
      obtain ⟨q15, h⟩ := h
      refine pn_iald 60 95 (pr_12_0 o0) q15 rfl rfl ?_
      refine pj_goto 67 rfl (by decide) ?_
      exact pn_iret h rfl rfl
  · replace h := h.2 (Classical.not_not.mp hc)
    refine pj_aload_n 22 0 rfl rfl rfl rfl ?_
    refine pn_callVi 25 12 [] [] o0 (s_X12_lost hg o0 h) plX12_169 rfl rfl rfl rfl (Nat.le_of_ble_eq_true rfl) (by decide) (fun t17 M16 h => ?_)
    exact pn_iret h rfl rfl
def w_X12_at (r0 : Nat) (x1 : Int) (M : pj_M) (Q : Int → pj_M → Prop) : Prop :=
  ∀ M1 : pj_M, M1 = pj_up M r0 5 0 → w_X12_in x1 1 (M1 (pj_rf r0 0) 73) M1 (fun (t3 : Int) (M2 : pj_M) => (pj_in t3) ∧ ((t3 = 0 → w_X12_lost r0 M2 (fun (t6 : Int) (M5 : pj_M) => Q t6 M5)) ∧ (¬ t3 = 0 → ((0 : Int) ≤ ((74 + x1) - 1) ∧ ((74 + x1) - 1) < 95) ∧ Q (M2 (pj_rf r0 0) ((74 + x1) - 1)) M2)))
set_option maxRecDepth 20000 in
set_option maxHeartbeats 4000000 in
theorem s_X12_at {l : Launch} {g : pj_G} (hg : pj_ph g = true) {r0 : Nat} {x1 : Int} {M : pj_M} {Q : Int → pj_M → Prop} (o0 : pj_ob r0 12) (h : w_X12_at r0 x1 M Q) : pj_S l g mdX12_at [.ref r0, .int (pj_I x1)] pj_NK M (pj_qi Q) := by
  refine pj_ofR (ls := [(0, .ref r0), (1, .int (pj_I x1))]) gcX12_at (by decide) rfl (Nat.le_of_ble_eq_true rfl) rfl ?_
  unfold w_X12_at at h
  refine pj_aload_n 1 0 rfl rfl rfl rfl ?_
  refine pj_iconst 2 rfl rfl ?_
  refine pn_puti 5 12 5 5 o0  rfl pfX12_88 rfl rfl rfl (fun M1 hM1 => ?_)
  replace h := h M1 hM1
  refine pj_iload_n 6 1 rfl rfl rfl rfl ?_
  refine pj_iconst 7 rfl rfl ?_
  refine pj_aload_n 8 0 rfl rfl rfl rfl ?_
  refine pn_getr 11 12 0 hg o0 (pr_12_0 o0).2 rfl pfX12_9 rfl rfl ?_
  refine pj_bipush 13 rfl (by decide) rfl ?_
  refine pn_iald 14 95 (pr_12_0 o0) (show 0 ≤ (73 : Int) ∧ (73 : Int) < ((95 : Nat) : Int) by decide) rfl rfl ?_
  refine pn_callSi 17 [.int (pj_I x1), .int (pj_I 1), .int (pj_I (M1 (pj_rf r0 0) 73))] [] (s_X12_in hg  h) plX12_98 rfl rfl rfl rfl (Nat.le_of_ble_eq_true rfl) (by decide) (fun t3 M2 h => ?_)
  obtain ⟨q4, h⟩ := h
  refine pj_if_eq 34 20 rfl (by decide) rfl q4  (fun hc => ?_) (fun hc => ?_)
  · replace h := h.1 hc
    refine pj_aload_n 35 0 rfl rfl rfl rfl ?_
    refine pn_callVi 38 12 [] [] o0 (s_X12_lost hg o0 h) plX12_169 rfl rfl rfl rfl (Nat.le_of_ble_eq_true rfl) (by decide) (fun t6 M5 h => ?_)
    exact pn_iret h rfl rfl
  · replace h := h.2 hc
    refine pj_aload_n 21 0 rfl rfl rfl rfl ?_
    refine pn_getr 24 12 0 hg o0 (pr_12_0 o0).2 rfl pfX12_9 rfl rfl ?_
    refine pj_bipush 26 rfl (by decide) rfl ?_
    refine pj_iload_n 27 1 rfl rfl rfl rfl ?_
    refine pj_iadd 28 rfl rfl ?_
    refine pj_iconst 29 rfl rfl ?_
    refine pj_isub 30 rfl rfl ?_
    obtain ⟨q7, h⟩ := h
    refine pn_iald 31 95 (pr_12_0 o0) q7 rfl rfl ?_
    refine pj_goto 38 rfl (by decide) ?_
    exact pn_iret h rfl rfl
def w_X12_sheet_108 (x1 : Int) (x2 : Int) (u0 : Nat) (y1 : Int)  (Q : Int → pj_M → Prop) (M : pj_M) : Prop :=
  w_X12_setLine u0 y1 M (fun (M9 : pj_M) => (pj_in x1) ∧ ((¬ x1 = 3 → Q x2 M9) ∧ (x1 = 3 → Q (-3) M9)))
def w_X12_sheet_70 (r0 : Nat) (x1 : Int) (x2 : Int) (x4 : Int) (x5 : Int) (x6 : Int) (y0 : Int) (k40 : Int → Int → pj_M → Prop) (Q : Int → pj_M → Prop) (M : pj_M) : Prop :=
  ((0 : Int) ≤ x6 ∧ x6 < 80) ∧ ∀ M15 : pj_M, M15 = pj_up M (pj_rf r0 10) x6 (pj_and y0 7) → k40 (x5 + x4) (x6 + 1) M15
def w_X12_sheet_40b (r0 : Nat) (x1 : Int) (x2 : Int) (x4 : Int)  (Q : Int → pj_M → Prop) (k40 : Int → Int → pj_M → Prop) (x5 : Int) (x6 : Int) (M : pj_M) : Prop :=
  (pj_in x6) ∧ ((14 ≤ x6 → (pj_in x1) ∧ ((¬ x1 = 3 → w_X12_sheet_108 x1 x2 r0 x2  Q M) ∧ (x1 = 3 → w_X12_sheet_108 x1 x2 r0 0  Q M))) ∧ (¬ 14 ≤ x6 → (pj_in x1) ∧ ((¬ x1 = 0 → (pj_in x1) ∧ ((¬ x1 = 1 → w_X12_sheet_70 r0 x1 x2 x4 x5 x6 x5 k40 Q M) ∧ (x1 = 1 → w_X12_sheet_70 r0 x1 x2 x4 x5 x6 (pj_i2s x5) k40 Q M))) ∧ (x1 = 0 → w_X12_sheet_70 r0 x1 x2 x4 x5 x6 (pj_i2b x5) k40 Q M))))
def w_X12_sheet_40 (r0 : Nat) (x1 : Int) (x2 : Int) (x4 : Int)  (Q : Int → pj_M → Prop) (x5 : Int) (x6 : Int) (M : pj_M) : Prop := pj_lp (fun (k : Int × Int × pj_M → Prop) (s : Int × Int × pj_M) => w_X12_sheet_40b r0 x1 x2 x4  Q (fun (x5 : Int) (x6 : Int) (M : pj_M) => k (x5, x6, M)) s.1 s.2.1 s.2.2) (x5, x6, M)
def w_X12_sheet_34 (r0 : Nat) (x1 : Int) (x2 : Int) (x3 : Int) (x4 : Int)  (Q : Int → pj_M → Prop) (M : pj_M) : Prop :=
  w_X12_sheet_40 r0 x1 x2 x4  Q x3 0 M
def w_X12_sheet (r0 : Nat) (x1 : Int) (x2 : Int) (x3 : Int) (x4 : Int) (M : pj_M) (Q : Int → pj_M → Prop) : Prop :=
  ∀ M1 : pj_M, M1 = pj_up M r0 5 0 → w_X12_in x1 0 3 M1 (fun (t3 : Int) (M2 : pj_M) => (pj_in t3) ∧ ((t3 = 0 → Q (-1) M2) ∧ (¬ t3 = 0 → (pj_in x2) ∧ ((x2 ≤ 14 → (pj_in x1) ∧ ((3 ≤ x1 → w_X12_sheet_34 r0 x1 x2 x3 x4  Q M2) ∧ (¬ 3 ≤ x1 → (pj_in x2) ∧ ((0 ≤ x2 → w_X12_sheet_34 r0 x1 x2 x3 x4  Q M2) ∧ (¬ 0 ≤ x2 → Q (-2) M2))))) ∧ (¬ x2 ≤ 14 → Q (-1) M2)))))
set_option maxRecDepth 20000 in
set_option maxHeartbeats 4000000 in
theorem s_X12_sheet_108 {l : Launch} {g : pj_G} (hg : pj_ph g = true) {x1 : Int} {x2 : Int} {u0 : Nat} {y1 : Int} {M : pj_M} {Q : Int → pj_M → Prop}  (ou0 : pj_ob u0 12)  (h : w_X12_sheet_108 x1 x2 u0 y1  Q M) : pj_R l g mdX12_sheet pj_T (pj_Zm g mdX12_sheet (pj_qi Q)) pj_NK 0 0 108 [(1, .int (pj_I x1)), (2, .int (pj_I x2))] [.int (pj_I y1), .ref u0] M := by
  unfold w_X12_sheet_108 at h
  refine pn_callVv 111 12 [.int (pj_I y1)] [] ou0 (s_X12_setLine hg ou0 h) plX12_166 rfl rfl rfl rfl (Nat.le_of_ble_eq_true rfl) (by decide) (fun M9 h => ?_)
  refine pj_iload_n 112 0 rfl rfl rfl rfl ?_
  refine pj_iconst 113 rfl rfl ?_
  obtain ⟨q11, h⟩ := h
  refine pj_icmp_ne 121 116 rfl (by decide) rfl q11 (show pj_in 3 by decide) (fun hc => ?_) (fun hc => ?_)
  · replace h := h.1 hc
    refine pj_iload_n 122 1 rfl rfl rfl rfl ?_
    exact pn_iret h rfl rfl
  · replace h := h.2 (Classical.not_not.mp hc)
    refine pj_bipush 118 rfl (by decide) rfl ?_
    refine pj_goto 122 rfl (by decide) ?_
    exact pn_iret h rfl rfl
set_option maxRecDepth 20000 in
set_option maxHeartbeats 4000000 in
theorem s_X12_sheet_70 {l : Launch} {g : pj_G} (hg : pj_ph g = true) {r0 : Nat} {x1 : Int} {x2 : Int} {x4 : Int} {x5 : Int} {x6 : Int} {y0 : Int} {M : pj_M} {Q : Int → pj_M → Prop} {k40 : Int → Int → pj_M → Prop} (o0 : pj_ob r0 12) (hk40 : ∀ (x5 : Int) (x6 : Int) (M : pj_M), k40 x5 x6 M → pj_R l g mdX12_sheet pj_T (pj_Zm g mdX12_sheet (pj_qi Q)) pj_NK 0 0 40 [(0, .ref r0), (1, .int (pj_I x1)), (2, .int (pj_I x2)), (4, .int (pj_I x4)), (5, .int (pj_I x5)), (6, .int (pj_I x6))] [] M) (h : w_X12_sheet_70 r0 x1 x2 x4 x5 x6 y0 k40 Q M) : pj_R l g mdX12_sheet pj_T (pj_Zm g mdX12_sheet (pj_qi Q)) pj_NK 0 0 70 [(0, .ref r0), (1, .int (pj_I x1)), (2, .int (pj_I x2)), (4, .int (pj_I x4)), (5, .int (pj_I x5)), (6, .int (pj_I x6))] [.int (pj_I y0)] M := by
  unfold w_X12_sheet_70 at h
  refine pj_istore 72 (ls' := [(0, .ref r0), (1, .int (pj_I x1)), (2, .int (pj_I x2)), (4, .int (pj_I x4)), (5, .int (pj_I x5)), (6, .int (pj_I x6)), (7, .int (pj_I y0))]) rfl (by decide) rfl rfl ?_
  refine pj_aload_n 73 0 rfl rfl rfl rfl ?_
  refine pn_getr 76 12 10 hg o0 (pr_12_10 o0).2 rfl pfX12_24 rfl rfl ?_
  refine pj_iload 78 5 rfl rfl rfl ?_
  refine pj_iload 80 6 rfl rfl rfl ?_
  refine pj_bipush 82 rfl (by decide) rfl ?_
  refine pj_iand 83 rfl rfl ?_
  obtain ⟨q14, h⟩ := h
  refine pn_iast 84 80 (pr_12_10 o0)  q14 rfl rfl (fun M15 hM15 => ?_)
  replace h := h M15 hM15
  refine pj_iload 86 4 rfl rfl rfl ?_
  refine pj_iload 88 3 rfl rfl rfl ?_
  refine pj_iadd 89 rfl rfl ?_
  refine pj_istore 91 (ls' := [(0, .ref r0), (1, .int (pj_I x1)), (2, .int (pj_I x2)), (4, .int (pj_I x4)), (5, .int (pj_I (x5 + x4))), (6, .int (pj_I x6)), (7, .int (pj_I y0))]) rfl (by decide) rfl rfl ?_
  refine pj_iinc 94 5 (ls' := [(0, .ref r0), (1, .int (pj_I x1)), (2, .int (pj_I x2)), (4, .int (pj_I x4)), (5, .int (pj_I (x5 + x4))), (6, .int (pj_I (x6 + 1))), (7, .int (pj_I y0))]) rfl rfl (by decide) rfl rfl ?_
  refine pj_goto 40 rfl (by decide) ?_
  refine pn_sub [0, 1, 2, 3, 4, 5] rfl ?_
  exact hk40 _ _ _ h
set_option maxRecDepth 20000 in
set_option maxHeartbeats 4000000 in
theorem s_X12_sheet_40b {l : Launch} {g : pj_G} (hg : pj_ph g = true) {r0 : Nat} {x1 : Int} {x2 : Int} {x4 : Int} {x5 : Int} {x6 : Int} {M : pj_M} {Q : Int → pj_M → Prop}  {k40 : Int → Int → pj_M → Prop} (o0 : pj_ob r0 12)  (hk40 : ∀ (x5 : Int) (x6 : Int) (M : pj_M), k40 x5 x6 M → pj_R l g mdX12_sheet pj_T (pj_Zm g mdX12_sheet (pj_qi Q)) pj_NK 0 0 40 [(0, .ref r0), (1, .int (pj_I x1)), (2, .int (pj_I x2)), (4, .int (pj_I x4)), (5, .int (pj_I x5)), (6, .int (pj_I x6))] [] M) (h : w_X12_sheet_40b r0 x1 x2 x4  Q k40 x5 x6 M) : pj_R l g mdX12_sheet pj_T (pj_Zm g mdX12_sheet (pj_qi Q)) pj_NK 0 0 40 [(0, .ref r0), (1, .int (pj_I x1)), (2, .int (pj_I x2)), (4, .int (pj_I x4)), (5, .int (pj_I x5)), (6, .int (pj_I x6))] [] M := by
  unfold w_X12_sheet_40b at h
  refine pj_iload 42 5 rfl rfl rfl ?_
  refine pj_bipush 44 rfl (by decide) rfl ?_
  obtain ⟨q7, h⟩ := h
  refine pj_icmp_ge 97 47 rfl (by decide) rfl q7 (show pj_in 14 by decide) (fun hc => ?_) (fun hc => ?_)
  · replace h := h.1 hc
    refine pj_aload_n 98 0 rfl rfl rfl rfl ?_
    refine pj_iload_n 99 1 rfl rfl rfl rfl ?_
    refine pj_iconst 100 rfl rfl ?_
    obtain ⟨q8, h⟩ := h
    refine pj_icmp_ne 107 103 rfl (by decide) rfl q8 (show pj_in 3 by decide) (fun hc => ?_) (fun hc => ?_)
    · replace h := h.1 hc
      refine pj_iload_n 108 2 rfl rfl rfl rfl ?_
      refine pn_sub [1, 2] rfl ?_
      exact s_X12_sheet_108 hg  o0  h
    · replace h := h.2 (Classical.not_not.mp hc)
      refine pj_iconst 104 rfl rfl ?_
      refine pj_goto 108 rfl (by decide) ?_
      refine pn_sub [1, 2] rfl ?_
      exact s_X12_sheet_108 hg  o0  h
  · replace h := h.2 hc
    refine pj_iload_n 48 1 rfl rfl rfl rfl ?_
    obtain ⟨q12, h⟩ := h
    refine pj_if_ne 57 51 rfl (by decide) rfl q12  (fun hc => ?_) (fun hc => ?_)
    · replace h := h.1 hc
      refine pj_iload_n 58 1 rfl rfl rfl rfl ?_
      refine pj_iconst 59 rfl rfl ?_
      obtain ⟨q13, h⟩ := h
      refine pj_icmp_ne 68 62 rfl (by decide) rfl q13 (show pj_in 1 by decide) (fun hc => ?_) (fun hc => ?_)
      · replace h := h.1 hc
        refine pj_iload 70 4 rfl rfl rfl ?_
        refine pn_sub [0, 1, 2, 3, 4, 5] rfl ?_
        exact s_X12_sheet_70 hg o0  hk40 h
      · replace h := h.2 (Classical.not_not.mp hc)
        refine pj_iload 64 4 rfl rfl rfl ?_
        refine pj_i2s_r 65 rfl rfl ?_
        refine pj_goto 70 rfl (by decide) ?_
        refine pn_sub [0, 1, 2, 3, 4, 5] rfl ?_
        exact s_X12_sheet_70 hg o0  hk40 h
    · replace h := h.2 (Classical.not_not.mp hc)
      refine pj_iload 53 4 rfl rfl rfl ?_
      refine pj_i2b_r 54 rfl rfl ?_
      refine pj_goto 70 rfl (by decide) ?_
      refine pn_sub [0, 1, 2, 3, 4, 5] rfl ?_
      exact s_X12_sheet_70 hg o0  hk40 h
set_option maxRecDepth 20000 in
set_option maxHeartbeats 4000000 in
theorem s_X12_sheet_40 {l : Launch} {g : pj_G} (hg : pj_ph g = true) {r0 : Nat} {x1 : Int} {x2 : Int} {x4 : Int} {x5 : Int} {x6 : Int} {M : pj_M} {Q : Int → pj_M → Prop}  (o0 : pj_ob r0 12)  (h : w_X12_sheet_40 r0 x1 x2 x4  Q x5 x6 M) : pj_R l g mdX12_sheet pj_T (pj_Zm g mdX12_sheet (pj_qi Q)) pj_NK 0 0 40 [(0, .ref r0), (1, .int (pj_I x1)), (2, .int (pj_I x2)), (4, .int (pj_I x4)), (5, .int (pj_I x5)), (6, .int (pj_I x6))] [] M :=
  h (fun s => pj_R l g mdX12_sheet pj_T (pj_Zm g mdX12_sheet (pj_qi Q)) pj_NK 0 0 40 [(0, .ref r0), (1, .int (pj_I x1)), (2, .int (pj_I x2)), (4, .int (pj_I x4)), (5, .int (pj_I (s.1))), (6, .int (pj_I (s.2.1)))] [] s.2.2) (fun s hs => s_X12_sheet_40b hg o0  (fun _ _ _ q => q) hs)
set_option maxRecDepth 20000 in
set_option maxHeartbeats 4000000 in
theorem s_X12_sheet_34 {l : Launch} {g : pj_G} (hg : pj_ph g = true) {r0 : Nat} {x1 : Int} {x2 : Int} {x3 : Int} {x4 : Int} {M : pj_M} {Q : Int → pj_M → Prop}  (o0 : pj_ob r0 12)  (h : w_X12_sheet_34 r0 x1 x2 x3 x4  Q M) : pj_R l g mdX12_sheet pj_T (pj_Zm g mdX12_sheet (pj_qi Q)) pj_NK 0 0 34 [(0, .ref r0), (1, .int (pj_I x1)), (2, .int (pj_I x2)), (3, .int (pj_I x3)), (4, .int (pj_I x4))] [] M := by
  unfold w_X12_sheet_34 at h
  refine pj_iload_n 35 3 rfl rfl rfl rfl ?_
  refine pj_istore 37 (ls' := [(0, .ref r0), (1, .int (pj_I x1)), (2, .int (pj_I x2)), (3, .int (pj_I x3)), (4, .int (pj_I x4)), (5, .int (pj_I x3))]) rfl (by decide) rfl rfl ?_
  refine pj_iconst 38 rfl rfl ?_
  refine pj_istore 40 (ls' := [(0, .ref r0), (1, .int (pj_I x1)), (2, .int (pj_I x2)), (3, .int (pj_I x3)), (4, .int (pj_I x4)), (5, .int (pj_I x3)), (6, .int (pj_I 0))]) rfl (by decide) rfl rfl ?_
  refine pn_sub [0, 1, 2, 4, 5, 6] rfl ?_
  exact s_X12_sheet_40 hg o0   h
set_option maxRecDepth 20000 in
set_option maxHeartbeats 4000000 in
theorem s_X12_sheet {l : Launch} {g : pj_G} (hg : pj_ph g = true) {r0 : Nat} {x1 : Int} {x2 : Int} {x3 : Int} {x4 : Int} {M : pj_M} {Q : Int → pj_M → Prop} (o0 : pj_ob r0 12) (h : w_X12_sheet r0 x1 x2 x3 x4 M Q) : pj_S l g mdX12_sheet [.ref r0, .int (pj_I x1), .int (pj_I x2), .int (pj_I x3), .int (pj_I x4)] pj_NK M (pj_qi Q) := by
  refine pj_ofR (ls := [(0, .ref r0), (1, .int (pj_I x1)), (2, .int (pj_I x2)), (3, .int (pj_I x3)), (4, .int (pj_I x4))]) gcX12_sheet (by decide) rfl (Nat.le_of_ble_eq_true rfl) rfl ?_
  unfold w_X12_sheet at h
  refine pj_aload_n 1 0 rfl rfl rfl rfl ?_
  refine pj_iconst 2 rfl rfl ?_
  refine pn_puti 5 12 5 5 o0  rfl pfX12_88 rfl rfl rfl (fun M1 hM1 => ?_)
  replace h := h M1 hM1
  refine pj_iload_n 6 1 rfl rfl rfl rfl ?_
  refine pj_iconst 7 rfl rfl ?_
  refine pj_iconst 8 rfl rfl ?_
  refine pn_callSi 11 [.int (pj_I x1), .int (pj_I 0), .int (pj_I 3)] [] (s_X12_in hg  h) plX12_98 rfl rfl rfl rfl (Nat.le_of_ble_eq_true rfl) (by decide) (fun t3 M2 h => ?_)
  obtain ⟨q4, h⟩ := h
  refine pj_if_eq 20 14 rfl (by decide) rfl q4  (fun hc => ?_) (fun hc => ?_)
  · replace h := h.1 hc
    refine pj_iconst 21 rfl rfl ?_
    exact pn_iret h rfl rfl
  · replace h := h.2 hc
    refine pj_iload_n 15 2 rfl rfl rfl rfl ?_
    refine pj_bipush 17 rfl (by decide) rfl ?_
    obtain ⟨q5, h⟩ := h
    refine pj_icmp_le 22 20 rfl (by decide) rfl q5 (show pj_in 14 by decide) (fun hc => ?_) (fun hc => ?_)
    · replace h := h.1 hc
      refine pj_iload_n 23 1 rfl rfl rfl rfl ?_
      refine pj_iconst 24 rfl rfl ?_
      obtain ⟨q6, h⟩ := h
      refine pj_icmp_ge 34 27 rfl (by decide) rfl q6 (show pj_in 3 by decide) (fun hc => ?_) (fun hc => ?_)
      · replace h := h.1 hc
        refine pn_sub [0, 1, 2, 3, 4] rfl ?_
        exact s_X12_sheet_34 hg o0   h
      · replace h := h.2 hc
        refine pj_iload_n 28 2 rfl rfl rfl rfl ?_
        obtain ⟨q16, h⟩ := h
        refine pj_if_ge 34 31 rfl (by decide) rfl q16  (fun hc => ?_) (fun hc => ?_)
        · replace h := h.1 hc
          refine pn_sub [0, 1, 2, 3, 4] rfl ?_
          exact s_X12_sheet_34 hg o0   h
        · replace h := h.2 hc
          refine pj_bipush 33 rfl (by decide) rfl ?_
          exact pn_iret h rfl rfl
    · replace h := h.2 hc
      refine pj_iconst 21 rfl rfl ?_
      exact pn_iret h rfl rfl
def w_X12_longOf (r0 : Nat) (x1 : Int) (M : pj_M) (Q : Int → pj_M → Prop) : Prop :=
  ∃ b1 : Nat, (M r0 11 = (b1 : Int) ∧ pj_ol b1 1 95) ∧ w_X12_alt x1 M (fun (t3 : Int) (M2 : pj_M) => ((0 : Int) ≤ (t3 + 1) ∧ (t3 + 1) < 95) ∧ Q (M2 b1 (t3 + 1)) M2)
set_option maxRecDepth 20000 in
set_option maxHeartbeats 4000000 in
theorem s_X12_longOf {l : Launch} {g : pj_G} (hg : pj_ph g = true) {r0 : Nat} {x1 : Int} {M : pj_M} {Q : Int → pj_M → Prop} (o0 : pj_ob r0 12) (h : w_X12_longOf r0 x1 M Q) : pj_S l g mdX12_longOf [.ref r0, .int (pj_I x1)] pj_NK M (pj_qi Q) := by
  refine pj_ofR (ls := [(0, .ref r0), (1, .int (pj_I x1))]) gcX12_longOf (by decide) rfl (Nat.le_of_ble_eq_true rfl) rfl ?_
  unfold w_X12_longOf at h
  refine pj_aload_n 1 0 rfl rfl rfl rfl ?_
  obtain ⟨b1, ⟨hb1, ob1⟩, h⟩ := h
  refine pn_getd 4 12 11 11 o0 hb1 ob1.2 rfl pfX12_27 rfl rfl rfl ?_
  refine pj_iload_n 5 1 rfl rfl rfl rfl ?_
  refine pn_callSi 8 [.int (pj_I x1)] [.ref b1] (s_X12_alt hg  h) plX12_127 rfl rfl rfl rfl (Nat.le_of_ble_eq_true rfl) (by decide) (fun t3 M2 h => ?_)
  refine pj_iconst 9 rfl rfl ?_
  refine pj_iadd 10 rfl rfl ?_
  obtain ⟨q4, h⟩ := h
  refine pn_iald 11 95 ob1 q4 rfl rfl ?_
  exact pn_iret h rfl rfl
def w_X12_symbolOf (r0 : Nat) (x1 : Int) (x2 : Int) (M : pj_M) (Q : Int → pj_M → Prop) : Prop :=
  ∃ b1 : Nat, (M r0 11 = (b1 : Int) ∧ pj_ol b1 1 95) ∧ w_X12_alt x1 M (fun (t3 : Int) (M2 : pj_M) => ((0 : Int) ≤ ((t3 + 2) + x2) ∧ ((t3 + 2) + x2) < 95) ∧ Q (M2 b1 ((t3 + 2) + x2)) M2)
set_option maxRecDepth 20000 in
set_option maxHeartbeats 4000000 in
theorem s_X12_symbolOf {l : Launch} {g : pj_G} (hg : pj_ph g = true) {r0 : Nat} {x1 : Int} {x2 : Int} {M : pj_M} {Q : Int → pj_M → Prop} (o0 : pj_ob r0 12) (h : w_X12_symbolOf r0 x1 x2 M Q) : pj_S l g mdX12_symbolOf [.ref r0, .int (pj_I x1), .int (pj_I x2)] pj_NK M (pj_qi Q) := by
  refine pj_ofR (ls := [(0, .ref r0), (1, .int (pj_I x1)), (2, .int (pj_I x2))]) gcX12_symbolOf (by decide) rfl (Nat.le_of_ble_eq_true rfl) rfl ?_
  unfold w_X12_symbolOf at h
  refine pj_aload_n 1 0 rfl rfl rfl rfl ?_
  obtain ⟨b1, ⟨hb1, ob1⟩, h⟩ := h
  refine pn_getd 4 12 11 11 o0 hb1 ob1.2 rfl pfX12_27 rfl rfl rfl ?_
  refine pj_iload_n 5 1 rfl rfl rfl rfl ?_
  refine pn_callSi 8 [.int (pj_I x1)] [.ref b1] (s_X12_alt hg  h) plX12_127 rfl rfl rfl rfl (Nat.le_of_ble_eq_true rfl) (by decide) (fun t3 M2 h => ?_)
  refine pj_iconst 9 rfl rfl ?_
  refine pj_iadd 10 rfl rfl ?_
  refine pj_iload_n 11 2 rfl rfl rfl rfl ?_
  refine pj_iadd 12 rfl rfl ?_
  obtain ⟨q4, h⟩ := h
  refine pn_iald 13 95 ob1 q4 rfl rfl ?_
  exact pn_iret h rfl rfl
def w_X12_start (r0 : Nat) (M : pj_M) (Q : Int → pj_M → Prop) : Prop :=
  ∃ b1 : Nat, (M r0 11 = (b1 : Int) ∧ pj_ol b1 1 95) ∧ w_X12_alt 0 M (fun (t3 : Int) (M2 : pj_M) => ((0 : Int) ≤ t3 ∧ t3 < 95) ∧ Q (M2 b1 t3) M2)
set_option maxRecDepth 20000 in
set_option maxHeartbeats 4000000 in
theorem s_X12_start {l : Launch} {g : pj_G} (hg : pj_ph g = true) {r0 : Nat} {M : pj_M} {Q : Int → pj_M → Prop} (o0 : pj_ob r0 12) (h : w_X12_start r0 M Q) : pj_S l g mdX12_start [.ref r0] pj_NK M (pj_qi Q) := by
  refine pj_ofR (ls := [(0, .ref r0)]) gcX12_start (by decide) rfl (Nat.le_of_ble_eq_true rfl) rfl ?_
  unfold w_X12_start at h
  refine pj_aload_n 1 0 rfl rfl rfl rfl ?_
  obtain ⟨b1, ⟨hb1, ob1⟩, h⟩ := h
  refine pn_getd 4 12 11 11 o0 hb1 ob1.2 rfl pfX12_27 rfl rfl rfl ?_
  refine pj_iconst 5 rfl rfl ?_
  refine pn_callSi 8 [.int (pj_I 0)] [.ref b1] (s_X12_alt hg  h) plX12_127 rfl rfl rfl rfl (Nat.le_of_ble_eq_true rfl) (by decide) (fun t3 M2 h => ?_)
  obtain ⟨q4, h⟩ := h
  refine pn_iald 9 95 ob1 q4 rfl rfl ?_
  exact pn_iret h rfl rfl
def w_X12_signsOf_81b (r0 : Nat) (x3 : Int) (x5 : Int) (k24 : Int → Int → Int → pj_M → Prop) (k34 : Int → Int → Int → pj_M → Prop) (Q : Int → pj_M → Prop) (k81 : Int → Int → Int → pj_M → Prop) (x2 : Int) (x4 : Int) (x6 : Int) (M : pj_M) : Prop :=
  w_X12_longOf r0 x5 M (fun (t21 : Int) (M20 : pj_M) => (pj_in x6) ∧ (pj_in t21) ∧ ((t21 ≤ x6 → k34 x2 x4 (x5 + 1) M20) ∧ (¬ t21 ≤ x6 → w_X12_symbolOf r0 x5 x6 M20 (fun (t25 : Int) (M24 : pj_M) => (pj_in t25) ∧ ((8 ≤ t25 → w_X12_symbolOf r0 x5 x6 M24 (fun (t28 : Int) (M27 : pj_M) => ∀ z29 : Int, z29 = (pj_or x2 (pj_shl 1 (t28 - 8))) → k81 z29 x4 (x6 + 1) M27)) ∧ (¬ 8 ≤ t25 → w_X12_symbolOf r0 x5 x6 M24 (fun (t31 : Int) (M30 : pj_M) => ∀ z32 : Int, z32 = (pj_or x4 (pj_shl 1 t31)) → k81 x2 z32 (x6 + 1) M30)))))))
def w_X12_signsOf_81 (r0 : Nat) (x3 : Int) (x5 : Int) (k24 : Int → Int → Int → pj_M → Prop) (k34 : Int → Int → Int → pj_M → Prop) (Q : Int → pj_M → Prop) (x2 : Int) (x4 : Int) (x6 : Int) (M : pj_M) : Prop := pj_lp (fun (k : Int × Int × Int × pj_M → Prop) (s : Int × Int × Int × pj_M) => w_X12_signsOf_81b r0 x3 x5 k24 k34 Q (fun (x2 : Int) (x4 : Int) (x6 : Int) (M : pj_M) => k (x2, x4, x6, M)) s.1 s.2.1 s.2.2.1 s.2.2.2) (x2, x4, x6, M)
def w_X12_signsOf_34b (r0 : Nat) (x3 : Int) (k24 : Int → Int → Int → pj_M → Prop) (Q : Int → pj_M → Prop) (k34 : Int → Int → Int → pj_M → Prop) (x2 : Int) (x4 : Int) (x5 : Int) (M : pj_M) : Prop :=
  ∃ b6 : Nat, (M r0 11 = (b6 : Int) ∧ pj_ol b6 1 95) ∧ (pj_in x5) ∧ (pj_in (M b6 0)) ∧ (((M b6 0) ≤ x5 → k24 x2 x3 x4 M) ∧ (¬ (M b6 0) ≤ x5 → ∃ b9 : Nat, (M r0 11 = (b9 : Int) ∧ pj_ol b9 1 95) ∧ w_X12_alt x5 M (fun (t11 : Int) (M10 : pj_M) => ((0 : Int) ≤ t11 ∧ t11 < 95) ∧ w_X12_has x2 (M10 b9 t11) M10 (fun (t14 : Int) (M13 : pj_M) => (pj_in t14) ∧ ((t14 = 0 → k34 x2 x4 (x5 + 1) M13) ∧ (¬ t14 = 0 → ∃ b16 : Nat, (M13 r0 11 = (b16 : Int) ∧ pj_ol b16 1 95) ∧ w_X12_isGood r0 b16 x5 M13 (fun (t18 : Int) (M17 : pj_M) => (pj_in t18) ∧ ((¬ t18 = 0 → w_X12_signsOf_81 r0 x3 x5 k24 k34 Q x2 x4 0 M17) ∧ (t18 = 0 → k34 x2 x4 (x5 + 1) M17)))))))))
def w_X12_signsOf_34 (r0 : Nat) (x3 : Int) (k24 : Int → Int → Int → pj_M → Prop) (Q : Int → pj_M → Prop) (x2 : Int) (x4 : Int) (x5 : Int) (M : pj_M) : Prop := pj_lp (fun (k : Int × Int × Int × pj_M → Prop) (s : Int × Int × Int × pj_M) => w_X12_signsOf_34b r0 x3 k24 Q (fun (x2 : Int) (x4 : Int) (x5 : Int) (M : pj_M) => k (x2, x4, x5, M)) s.1 s.2.1 s.2.2.1 s.2.2.2) (x2, x4, x5, M)
def w_X12_signsOf_24b (r0 : Nat)  (Q : Int → pj_M → Prop) (k24 : Int → Int → Int → pj_M → Prop) (x2 : Int) (x3 : Int) (x4 : Int) (M : pj_M) : Prop :=
  (pj_in x3) ∧ (pj_in x2) ∧ ((x3 = x2 → Q x4 M) ∧ (¬ x3 = x2 → w_X12_signsOf_34 r0 x2 k24 Q x2 x4 0 M))
def w_X12_signsOf_24 (r0 : Nat)  (Q : Int → pj_M → Prop) (x2 : Int) (x3 : Int) (x4 : Int) (M : pj_M) : Prop := pj_lp (fun (k : Int × Int × Int × pj_M → Prop) (s : Int × Int × Int × pj_M) => w_X12_signsOf_24b r0  Q (fun (x2 : Int) (x3 : Int) (x4 : Int) (M : pj_M) => k (x2, x3, x4, M)) s.1 s.2.1 s.2.2.1 s.2.2.2) (x2, x3, x4, M)
def w_X12_signsOf_18 (r0 : Nat) (y0 : Int)  (Q : Int → pj_M → Prop) (M : pj_M) : Prop :=
  w_X12_signsOf_24 r0  Q y0 (-1) 0 M
def w_X12_signsOf (r0 : Nat) (x1 : Int) (M : pj_M) (Q : Int → pj_M → Prop) : Prop :=
  w_X12_has (M r0 12) x1 M (fun (t2 : Int) (M1 : pj_M) => (pj_in t2) ∧ ((t2 = 0 → w_X12_signsOf_18 r0 0  Q M1) ∧ (¬ t2 = 0 → w_X12_signsOf_18 r0 (pj_shl 1 x1)  Q M1)))
set_option maxRecDepth 20000 in
set_option maxHeartbeats 4000000 in
theorem s_X12_signsOf_81b {l : Launch} {g : pj_G} (hg : pj_ph g = true) {r0 : Nat} {x2 : Int} {x3 : Int} {x4 : Int} {x5 : Int} {x6 : Int} {M : pj_M} {Q : Int → pj_M → Prop} {k24 : Int → Int → Int → pj_M → Prop} {k34 : Int → Int → Int → pj_M → Prop} {k81 : Int → Int → Int → pj_M → Prop} (o0 : pj_ob r0 12) (hk24 : ∀ (x2 : Int) (x3 : Int) (x4 : Int) (M : pj_M), k24 x2 x3 x4 M → pj_R l g mdX12_signsOf pj_T (pj_Zm g mdX12_signsOf (pj_qi Q)) pj_NK 0 0 24 [(0, .ref r0), (2, .int (pj_I x2)), (3, .int (pj_I x3)), (4, .int (pj_I x4))] [] M) (hk34 : ∀ (x2 : Int) (x4 : Int) (x5 : Int) (M : pj_M), k34 x2 x4 x5 M → pj_R l g mdX12_signsOf pj_T (pj_Zm g mdX12_signsOf (pj_qi Q)) pj_NK 0 0 34 [(0, .ref r0), (2, .int (pj_I x2)), (3, .int (pj_I x3)), (4, .int (pj_I x4)), (5, .int (pj_I x5))] [] M) (hk81 : ∀ (x2 : Int) (x4 : Int) (x6 : Int) (M : pj_M), k81 x2 x4 x6 M → pj_R l g mdX12_signsOf pj_T (pj_Zm g mdX12_signsOf (pj_qi Q)) pj_NK 0 0 81 [(0, .ref r0), (2, .int (pj_I x2)), (3, .int (pj_I x3)), (4, .int (pj_I x4)), (5, .int (pj_I x5)), (6, .int (pj_I x6))] [] M) (h : w_X12_signsOf_81b r0 x3 x5 k24 k34 Q k81 x2 x4 x6 M) : pj_R l g mdX12_signsOf pj_T (pj_Zm g mdX12_signsOf (pj_qi Q)) pj_NK 0 0 81 [(0, .ref r0), (2, .int (pj_I x2)), (3, .int (pj_I x3)), (4, .int (pj_I x4)), (5, .int (pj_I x5)), (6, .int (pj_I x6))] [] M := by
  unfold w_X12_signsOf_81b at h
  refine pj_iload 83 5 rfl rfl rfl ?_
  refine pj_aload_n 84 0 rfl rfl rfl rfl ?_
  refine pj_iload 86 4 rfl rfl rfl ?_
  refine pn_callVi 89 12 [.int (pj_I x5)] [.int (pj_I x6)] o0 (s_X12_longOf hg o0 h) plX12_176 rfl rfl rfl rfl (Nat.le_of_ble_eq_true rfl) (by decide) (fun t21 M20 h => ?_)
  obtain ⟨q22, h⟩ := h
  obtain ⟨q23, h⟩ := h
  refine pj_icmp_ge 145 92 rfl (by decide) rfl q22 q23 (fun hc => ?_) (fun hc => ?_)
  · replace h := h.1 hc
    refine pj_iinc 148 4 (ls' := [(0, .ref r0), (2, .int (pj_I x2)), (3, .int (pj_I x3)), (4, .int (pj_I x4)), (5, .int (pj_I (x5 + 1))), (6, .int (pj_I x6))]) rfl rfl (by decide) rfl rfl ?_
    refine pj_goto 34 rfl (by decide) ?_
    refine pn_sub [0, 1, 2, 3, 4] rfl ?_
    exact hk34 _ _ _ _ h
  · replace h := h.2 hc
    refine pj_aload_n 93 0 rfl rfl rfl rfl ?_
    refine pj_iload 95 4 rfl rfl rfl ?_
    refine pj_iload 97 5 rfl rfl rfl ?_
    refine pn_callVi 100 12 [.int (pj_I x5), .int (pj_I x6)] [] o0 (s_X12_symbolOf hg o0 h) plX12_179 rfl rfl rfl rfl (Nat.le_of_ble_eq_true rfl) (by decide) (fun t25 M24 h => ?_)
    refine pj_bipush 102 rfl (by decide) rfl ?_
    obtain ⟨q26, h⟩ := h
    refine pj_icmp_ge 123 105 rfl (by decide) rfl q26 (show pj_in 8 by decide) (fun hc => ?_) (fun hc => ?_)
    · replace h := h.1 hc
      refine pj_iload_n 124 1 rfl rfl rfl rfl ?_
      refine pj_iconst 125 rfl rfl ?_
      refine pj_aload_n 126 0 rfl rfl rfl rfl ?_
      refine pj_iload 128 4 rfl rfl rfl ?_
      refine pj_iload 130 5 rfl rfl rfl ?_
      refine pn_callVi 133 12 [.int (pj_I x5), .int (pj_I x6)] [.int (pj_I 1), .int (pj_I x2)] o0 (s_X12_symbolOf hg o0 h) plX12_179 rfl rfl rfl rfl (Nat.le_of_ble_eq_true rfl) (by decide) (fun t28 M27 h => ?_)
      refine pj_bipush 135 rfl (by decide) rfl ?_
      refine pj_isub 136 rfl rfl ?_
      refine pj_ishl 137 rfl rfl ?_
      refine pj_ior 138 rfl rfl ?_
      refine pn_nm (fun z29 hz29 => ?_)
      replace h := h z29 hz29
      refine pj_istore_n 139 (ls' := [(0, .ref r0), (2, .int (pj_I z29)), (3, .int (pj_I x3)), (4, .int (pj_I x4)), (5, .int (pj_I x5)), (6, .int (pj_I x6))]) rfl rfl (by decide) rfl rfl ?_
      refine pj_iinc 142 5 (ls' := [(0, .ref r0), (2, .int (pj_I z29)), (3, .int (pj_I x3)), (4, .int (pj_I x4)), (5, .int (pj_I x5)), (6, .int (pj_I (x6 + 1)))]) rfl rfl (by decide) rfl rfl ?_
      refine pj_goto 81 rfl (by decide) ?_
      refine pn_sub [0, 1, 2, 3, 4, 5] rfl ?_
      exact hk81 _ _ _ _ h
    · replace h := h.2 hc
      refine pj_iload 107 3 rfl rfl rfl ?_
      refine pj_iconst 108 rfl rfl ?_
      refine pj_aload_n 109 0 rfl rfl rfl rfl ?_
      refine pj_iload 111 4 rfl rfl rfl ?_
      refine pj_iload 113 5 rfl rfl rfl ?_
      refine pn_callVi 116 12 [.int (pj_I x5), .int (pj_I x6)] [.int (pj_I 1), .int (pj_I x4)] o0 (s_X12_symbolOf hg o0 h) plX12_179 rfl rfl rfl rfl (Nat.le_of_ble_eq_true rfl) (by decide) (fun t31 M30 h => ?_)
      refine pj_ishl 117 rfl rfl ?_
      refine pj_ior 118 rfl rfl ?_
      refine pn_nm (fun z32 hz32 => ?_)
      replace h := h z32 hz32
      refine pj_istore 120 (ls' := [(0, .ref r0), (2, .int (pj_I x2)), (3, .int (pj_I x3)), (4, .int (pj_I z32)), (5, .int (pj_I x5)), (6, .int (pj_I x6))]) rfl (by decide) rfl rfl ?_
      refine pj_goto 139 rfl (by decide) ?_
      refine pj_iinc 142 5 (ls' := [(0, .ref r0), (2, .int (pj_I x2)), (3, .int (pj_I x3)), (4, .int (pj_I z32)), (5, .int (pj_I x5)), (6, .int (pj_I (x6 + 1)))]) rfl rfl (by decide) rfl rfl ?_
      refine pj_goto 81 rfl (by decide) ?_
      refine pn_sub [0, 1, 2, 3, 4, 5] rfl ?_
      exact hk81 _ _ _ _ h
set_option maxRecDepth 20000 in
set_option maxHeartbeats 4000000 in
theorem s_X12_signsOf_81 {l : Launch} {g : pj_G} (hg : pj_ph g = true) {r0 : Nat} {x2 : Int} {x3 : Int} {x4 : Int} {x5 : Int} {x6 : Int} {M : pj_M} {Q : Int → pj_M → Prop} {k24 : Int → Int → Int → pj_M → Prop} {k34 : Int → Int → Int → pj_M → Prop} (o0 : pj_ob r0 12) (hk24 : ∀ (x2 : Int) (x3 : Int) (x4 : Int) (M : pj_M), k24 x2 x3 x4 M → pj_R l g mdX12_signsOf pj_T (pj_Zm g mdX12_signsOf (pj_qi Q)) pj_NK 0 0 24 [(0, .ref r0), (2, .int (pj_I x2)), (3, .int (pj_I x3)), (4, .int (pj_I x4))] [] M) (hk34 : ∀ (x2 : Int) (x4 : Int) (x5 : Int) (M : pj_M), k34 x2 x4 x5 M → pj_R l g mdX12_signsOf pj_T (pj_Zm g mdX12_signsOf (pj_qi Q)) pj_NK 0 0 34 [(0, .ref r0), (2, .int (pj_I x2)), (3, .int (pj_I x3)), (4, .int (pj_I x4)), (5, .int (pj_I x5))] [] M) (h : w_X12_signsOf_81 r0 x3 x5 k24 k34 Q x2 x4 x6 M) : pj_R l g mdX12_signsOf pj_T (pj_Zm g mdX12_signsOf (pj_qi Q)) pj_NK 0 0 81 [(0, .ref r0), (2, .int (pj_I x2)), (3, .int (pj_I x3)), (4, .int (pj_I x4)), (5, .int (pj_I x5)), (6, .int (pj_I x6))] [] M :=
  h (fun s => pj_R l g mdX12_signsOf pj_T (pj_Zm g mdX12_signsOf (pj_qi Q)) pj_NK 0 0 81 [(0, .ref r0), (2, .int (pj_I (s.1))), (3, .int (pj_I x3)), (4, .int (pj_I (s.2.1))), (5, .int (pj_I x5)), (6, .int (pj_I (s.2.2.1)))] [] s.2.2.2) (fun s hs => s_X12_signsOf_81b hg o0 hk24 hk34 (fun _ _ _ _ q => q) hs)
set_option maxRecDepth 20000 in
set_option maxHeartbeats 4000000 in
theorem s_X12_signsOf_34b {l : Launch} {g : pj_G} (hg : pj_ph g = true) {r0 : Nat} {x2 : Int} {x3 : Int} {x4 : Int} {x5 : Int} {M : pj_M} {Q : Int → pj_M → Prop} {k24 : Int → Int → Int → pj_M → Prop} {k34 : Int → Int → Int → pj_M → Prop} (o0 : pj_ob r0 12) (hk24 : ∀ (x2 : Int) (x3 : Int) (x4 : Int) (M : pj_M), k24 x2 x3 x4 M → pj_R l g mdX12_signsOf pj_T (pj_Zm g mdX12_signsOf (pj_qi Q)) pj_NK 0 0 24 [(0, .ref r0), (2, .int (pj_I x2)), (3, .int (pj_I x3)), (4, .int (pj_I x4))] [] M) (hk34 : ∀ (x2 : Int) (x4 : Int) (x5 : Int) (M : pj_M), k34 x2 x4 x5 M → pj_R l g mdX12_signsOf pj_T (pj_Zm g mdX12_signsOf (pj_qi Q)) pj_NK 0 0 34 [(0, .ref r0), (2, .int (pj_I x2)), (3, .int (pj_I x3)), (4, .int (pj_I x4)), (5, .int (pj_I x5))] [] M) (h : w_X12_signsOf_34b r0 x3 k24 Q k34 x2 x4 x5 M) : pj_R l g mdX12_signsOf pj_T (pj_Zm g mdX12_signsOf (pj_qi Q)) pj_NK 0 0 34 [(0, .ref r0), (2, .int (pj_I x2)), (3, .int (pj_I x3)), (4, .int (pj_I x4)), (5, .int (pj_I x5))] [] M := by
  unfold w_X12_signsOf_34b at h
  refine pj_iload 36 4 rfl rfl rfl ?_
  refine pj_aload_n 37 0 rfl rfl rfl rfl ?_
  obtain ⟨b6, ⟨hb6, ob6⟩, h⟩ := h
  refine pn_getd 40 12 11 11 o0 hb6 ob6.2 rfl pfX12_27 rfl rfl rfl ?_
  refine pj_iconst 41 rfl rfl ?_
  refine pn_iald 42 95 ob6 (show 0 ≤ (0 : Int) ∧ (0 : Int) < ((95 : Nat) : Int) by decide) rfl rfl ?_
  obtain ⟨q7, h⟩ := h
  obtain ⟨q8, h⟩ := h
  refine pj_icmp_ge 151 45 rfl (by decide) rfl q7 q8 (fun hc => ?_) (fun hc => ?_)
  · replace h := h.1 hc
    refine pj_goto 24 rfl (by decide) ?_
    refine pn_sub [0, 1, 2, 3] rfl ?_
    exact hk24 _ _ _ _ h
  · replace h := h.2 hc
    refine pj_iload_n 46 1 rfl rfl rfl rfl ?_
    refine pj_aload_n 47 0 rfl rfl rfl rfl ?_
    obtain ⟨b9, ⟨hb9, ob9⟩, h⟩ := h
    refine pn_getd 50 12 11 11 o0 hb9 ob9.2 rfl pfX12_27 rfl rfl rfl ?_
    refine pj_iload 52 4 rfl rfl rfl ?_
    refine pn_callSi 55 [.int (pj_I x5)] [.ref b9, .int (pj_I x2)] (s_X12_alt hg  h) plX12_127 rfl rfl rfl rfl (Nat.le_of_ble_eq_true rfl) (by decide) (fun t11 M10 h => ?_)
    obtain ⟨q12, h⟩ := h
    refine pn_iald 56 95 ob9 q12 rfl rfl ?_
    refine pn_callSi 59 [.int (pj_I x2), .int (pj_I (M10 b9 t11))] [] (s_X12_has hg  h) plX12_135 rfl rfl rfl rfl (Nat.le_of_ble_eq_true rfl) (by decide) (fun t14 M13 h => ?_)
    obtain ⟨q15, h⟩ := h
    refine pj_if_eq 145 62 rfl (by decide) rfl q15  (fun hc => ?_) (fun hc => ?_)
    · replace h := h.1 hc
      refine pj_iinc 148 4 (ls' := [(0, .ref r0), (2, .int (pj_I x2)), (3, .int (pj_I x3)), (4, .int (pj_I x4)), (5, .int (pj_I (x5 + 1)))]) rfl rfl (by decide) rfl rfl ?_
      refine pj_goto 34 rfl (by decide) ?_
      refine pn_sub [0, 1, 2, 3, 4] rfl ?_
      exact hk34 _ _ _ _ h
    · replace h := h.2 hc
      refine pj_aload_n 63 0 rfl rfl rfl rfl ?_
      refine pj_aload_n 64 0 rfl rfl rfl rfl ?_
      obtain ⟨b16, ⟨hb16, ob16⟩, h⟩ := h
      refine pn_getd 67 12 11 11 o0 hb16 ob16.2 rfl pfX12_27 rfl rfl rfl ?_
      refine pj_iload 69 4 rfl rfl rfl ?_
      refine pn_callVi 72 12 [.ref b16, .int (pj_I x5)] [] o0 (s_X12_isGood hg o0 (pj_oa_of ob16) h) plX12_172 rfl rfl rfl rfl (Nat.le_of_ble_eq_true rfl) (by decide) (fun t18 M17 h => ?_)
      obtain ⟨q19, h⟩ := h
      refine pj_if_ne 78 75 rfl (by decide) rfl q19  (fun hc => ?_) (fun hc => ?_)
      · replace h := h.1 hc
        refine pj_iconst 79 rfl rfl ?_
        refine pj_istore 81 (ls' := [(0, .ref r0), (2, .int (pj_I x2)), (3, .int (pj_I x3)), (4, .int (pj_I x4)), (5, .int (pj_I x5)), (6, .int (pj_I 0))]) rfl (by decide) rfl rfl ?_
        refine pn_sub [0, 1, 2, 3, 4, 5] rfl ?_
        exact s_X12_signsOf_81 hg o0  hk24 hk34 h
      · replace h := h.2 (Classical.not_not.mp hc)
        refine pj_goto 145 rfl (by decide) ?_
        refine pj_iinc 148 4 (ls' := [(0, .ref r0), (2, .int (pj_I x2)), (3, .int (pj_I x3)), (4, .int (pj_I x4)), (5, .int (pj_I (x5 + 1)))]) rfl rfl (by decide) rfl rfl ?_
        refine pj_goto 34 rfl (by decide) ?_
        refine pn_sub [0, 1, 2, 3, 4] rfl ?_
        exact hk34 _ _ _ _ h
set_option maxRecDepth 20000 in
set_option maxHeartbeats 4000000 in
theorem s_X12_signsOf_34 {l : Launch} {g : pj_G} (hg : pj_ph g = true) {r0 : Nat} {x2 : Int} {x3 : Int} {x4 : Int} {x5 : Int} {M : pj_M} {Q : Int → pj_M → Prop} {k24 : Int → Int → Int → pj_M → Prop} (o0 : pj_ob r0 12) (hk24 : ∀ (x2 : Int) (x3 : Int) (x4 : Int) (M : pj_M), k24 x2 x3 x4 M → pj_R l g mdX12_signsOf pj_T (pj_Zm g mdX12_signsOf (pj_qi Q)) pj_NK 0 0 24 [(0, .ref r0), (2, .int (pj_I x2)), (3, .int (pj_I x3)), (4, .int (pj_I x4))] [] M) (h : w_X12_signsOf_34 r0 x3 k24 Q x2 x4 x5 M) : pj_R l g mdX12_signsOf pj_T (pj_Zm g mdX12_signsOf (pj_qi Q)) pj_NK 0 0 34 [(0, .ref r0), (2, .int (pj_I x2)), (3, .int (pj_I x3)), (4, .int (pj_I x4)), (5, .int (pj_I x5))] [] M :=
  h (fun s => pj_R l g mdX12_signsOf pj_T (pj_Zm g mdX12_signsOf (pj_qi Q)) pj_NK 0 0 34 [(0, .ref r0), (2, .int (pj_I (s.1))), (3, .int (pj_I x3)), (4, .int (pj_I (s.2.1))), (5, .int (pj_I (s.2.2.1)))] [] s.2.2.2) (fun s hs => s_X12_signsOf_34b hg o0 hk24 (fun _ _ _ _ q => q) hs)
set_option maxRecDepth 20000 in
set_option maxHeartbeats 4000000 in
theorem s_X12_signsOf_24b {l : Launch} {g : pj_G} (hg : pj_ph g = true) {r0 : Nat} {x2 : Int} {x3 : Int} {x4 : Int} {M : pj_M} {Q : Int → pj_M → Prop}  {k24 : Int → Int → Int → pj_M → Prop} (o0 : pj_ob r0 12)  (hk24 : ∀ (x2 : Int) (x3 : Int) (x4 : Int) (M : pj_M), k24 x2 x3 x4 M → pj_R l g mdX12_signsOf pj_T (pj_Zm g mdX12_signsOf (pj_qi Q)) pj_NK 0 0 24 [(0, .ref r0), (2, .int (pj_I x2)), (3, .int (pj_I x3)), (4, .int (pj_I x4))] [] M) (h : w_X12_signsOf_24b r0  Q k24 x2 x3 x4 M) : pj_R l g mdX12_signsOf pj_T (pj_Zm g mdX12_signsOf (pj_qi Q)) pj_NK 0 0 24 [(0, .ref r0), (2, .int (pj_I x2)), (3, .int (pj_I x3)), (4, .int (pj_I x4))] [] M := by
  unfold w_X12_signsOf_24b at h
  refine pj_iload_n 25 2 rfl rfl rfl rfl ?_
  refine pj_iload_n 26 1 rfl rfl rfl rfl ?_
  obtain ⟨q4, h⟩ := h
  obtain ⟨q5, h⟩ := h
  refine pj_icmp_eq 154 29 rfl (by decide) rfl q4 q5 (fun hc => ?_) (fun hc => ?_)
  · replace h := h.1 hc
    refine pj_iload 156 3 rfl rfl rfl ?_
    exact pn_iret h rfl rfl
  · replace h := h.2 hc
    refine pj_iload_n 30 1 rfl rfl rfl rfl ?_
    refine pj_istore_n 31 (ls' := [(0, .ref r0), (2, .int (pj_I x2)), (3, .int (pj_I x2)), (4, .int (pj_I x4))]) rfl rfl (by decide) rfl rfl ?_
    refine pj_iconst 32 rfl rfl ?_
    refine pj_istore 34 (ls' := [(0, .ref r0), (2, .int (pj_I x2)), (3, .int (pj_I x2)), (4, .int (pj_I x4)), (5, .int (pj_I 0))]) rfl (by decide) rfl rfl ?_
    refine pn_sub [0, 1, 2, 3, 4] rfl ?_
    exact s_X12_signsOf_34 hg o0  hk24 h
set_option maxRecDepth 20000 in
set_option maxHeartbeats 4000000 in
theorem s_X12_signsOf_24 {l : Launch} {g : pj_G} (hg : pj_ph g = true) {r0 : Nat} {x2 : Int} {x3 : Int} {x4 : Int} {M : pj_M} {Q : Int → pj_M → Prop}  (o0 : pj_ob r0 12)  (h : w_X12_signsOf_24 r0  Q x2 x3 x4 M) : pj_R l g mdX12_signsOf pj_T (pj_Zm g mdX12_signsOf (pj_qi Q)) pj_NK 0 0 24 [(0, .ref r0), (2, .int (pj_I x2)), (3, .int (pj_I x3)), (4, .int (pj_I x4))] [] M :=
  h (fun s => pj_R l g mdX12_signsOf pj_T (pj_Zm g mdX12_signsOf (pj_qi Q)) pj_NK 0 0 24 [(0, .ref r0), (2, .int (pj_I (s.1))), (3, .int (pj_I (s.2.1))), (4, .int (pj_I (s.2.2.1)))] [] s.2.2.2) (fun s hs => s_X12_signsOf_24b hg o0  (fun _ _ _ _ q => q) hs)
set_option maxRecDepth 20000 in
set_option maxHeartbeats 4000000 in
theorem s_X12_signsOf_18 {l : Launch} {g : pj_G} (hg : pj_ph g = true) {r0 : Nat} {y0 : Int} {M : pj_M} {Q : Int → pj_M → Prop}  (o0 : pj_ob r0 12)  (h : w_X12_signsOf_18 r0 y0  Q M) : pj_R l g mdX12_signsOf pj_T (pj_Zm g mdX12_signsOf (pj_qi Q)) pj_NK 0 0 18 [(0, .ref r0)] [.int (pj_I y0)] M := by
  unfold w_X12_signsOf_18 at h
  refine pj_istore_n 19 (ls' := [(0, .ref r0), (2, .int (pj_I y0))]) rfl rfl (by decide) rfl rfl ?_
  refine pj_iconst 20 rfl rfl ?_
  refine pj_istore_n 21 (ls' := [(0, .ref r0), (2, .int (pj_I y0)), (3, .int (pj_I (-1)))]) rfl rfl (by decide) rfl rfl ?_
  refine pj_iconst 22 rfl rfl ?_
  refine pj_istore 24 (ls' := [(0, .ref r0), (2, .int (pj_I y0)), (3, .int (pj_I (-1))), (4, .int (pj_I 0))]) rfl (by decide) rfl rfl ?_
  refine pn_sub [0, 1, 2, 3] rfl ?_
  exact s_X12_signsOf_24 hg o0   h
set_option maxRecDepth 20000 in
set_option maxHeartbeats 4000000 in
theorem s_X12_signsOf {l : Launch} {g : pj_G} (hg : pj_ph g = true) {r0 : Nat} {x1 : Int} {M : pj_M} {Q : Int → pj_M → Prop} (o0 : pj_ob r0 12) (h : w_X12_signsOf r0 x1 M Q) : pj_S l g mdX12_signsOf [.ref r0, .int (pj_I x1)] pj_NK M (pj_qi Q) := by
  refine pj_ofR (ls := [(0, .ref r0), (1, .int (pj_I x1))]) gcX12_signsOf (by decide) rfl (Nat.le_of_ble_eq_true rfl) rfl ?_
  unfold w_X12_signsOf at h
  refine pj_aload_n 1 0 rfl rfl rfl rfl ?_
  refine pn_geti 4 12 12 12 o0 rfl pfX12_160 (Or.inl rfl) rfl rfl ?_
  refine pj_iload_n 5 1 rfl rfl rfl rfl ?_
  refine pn_callSi 8 [.int (pj_I (M r0 12)), .int (pj_I x1)] [] (s_X12_has hg  h) plX12_135 rfl rfl rfl rfl (Nat.le_of_ble_eq_true rfl) (by decide) (fun t2 M1 h => ?_)
  obtain ⟨q3, h⟩ := h
  refine pj_if_eq 17 11 rfl (by decide) rfl q3  (fun hc => ?_) (fun hc => ?_)
  · replace h := h.1 hc
    refine pj_iconst 18 rfl rfl ?_
    refine pn_sub [0] rfl ?_
    exact s_X12_signsOf_18 hg o0   h
  · replace h := h.2 hc
    refine pj_iconst 12 rfl rfl ?_
    refine pj_iload_n 13 1 rfl rfl rfl rfl ?_
    refine pj_ishl 14 rfl rfl ?_
    refine pj_goto 18 rfl (by decide) ?_
    refine pn_sub [0] rfl ?_
    exact s_X12_signsOf_18 hg o0   h
