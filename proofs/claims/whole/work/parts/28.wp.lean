def w_X12_isFit (r0 : Nat) (x1 : Int) (x2 : Int) (M : pj_M) (Q : Int → pj_M → Prop) : Prop :=
  (pj_in x1) ∧ (pj_in x2) ∧ ((¬ x1 = x2 → w_Jmax 0 (x1 - 1) M (fun (t4 : Int) (M3 : pj_M) => w_Jmin (M3 r0 14) (x2 - 1) M3 (fun (t6 : Int) (M5 : pj_M) => w_X12_start r0 M5 (fun (t8 : Int) (M7 : pj_M) => w_X12_cell t8 t4 t6 M7 (fun (t10 : Int) (M9 : pj_M) => (pj_in x1) ∧ ((¬ x1 = 0 → (pj_in x2) ∧ (pj_in ((M9 r0 14) + 2)) ∧ ((¬ x2 = ((M9 r0 14) + 2) → ((0 : Int) ≤ t10 ∧ t10 < 1536) ∧ ((M9 (pj_rf r0 18) t10) = 0 ∨ (M9 (pj_rf r0 18) t10) = 1) ∧ Q (M9 (pj_rf r0 18) t10) M9) ∧ (x2 = ((M9 r0 14) + 2) → ((0 : Int) ≤ t10 ∧ t10 < 1536) ∧ ((M9 (pj_rf r0 17) t10) = 0 ∨ (M9 (pj_rf r0 17) t10) = 1) ∧ Q (M9 (pj_rf r0 17) t10) M9))) ∧ (x1 = 0 → (pj_in x2) ∧ (pj_in ((M9 r0 14) + 2)) ∧ ((¬ x2 = ((M9 r0 14) + 2) → ((0 : Int) ≤ t10 ∧ t10 < 1536) ∧ ((M9 (pj_rf r0 16) t10) = 0 ∨ (M9 (pj_rf r0 16) t10) = 1) ∧ Q (M9 (pj_rf r0 16) t10) M9) ∧ (x2 = ((M9 r0 14) + 2) → ((0 : Int) ≤ t10 ∧ t10 < 1536) ∧ ((M9 (pj_rf r0 15) t10) = 0 ∨ (M9 (pj_rf r0 15) t10) = 1) ∧ Q (M9 (pj_rf r0 15) t10) M9))))))))) ∧ (x1 = x2 → Q 1 M))
set_option maxRecDepth 20000 in
set_option maxHeartbeats 4000000 in
theorem s_X12_isFit {l : Launch} {g : pj_G} (hg : pj_ph g = true) {r0 : Nat} {x1 : Int} {x2 : Int} {M : pj_M} {Q : Int → pj_M → Prop} (o0 : pj_ob r0 12) (h : w_X12_isFit r0 x1 x2 M Q) : pj_S l g mdX12_isFit [.ref r0, .int (pj_I x1), .int (pj_I x2)] pj_NK M (pj_qi Q) := by
  refine pj_ofR (ls := [(0, .ref r0), (1, .int (pj_I x1)), (2, .int (pj_I x2))]) gcX12_isFit (by decide) rfl (Nat.le_of_ble_eq_true rfl) rfl ?_
  unfold w_X12_isFit at h
  refine pj_iload_n 1 1 rfl rfl rfl rfl ?_
  refine pj_iload_n 2 2 rfl rfl rfl rfl ?_
  obtain ⟨q1, h⟩ := h
  obtain ⟨q2, h⟩ := h
  refine pj_icmp_ne 7 5 rfl (by decide) rfl q1 q2 (fun hc => ?_) (fun hc => ?_)
  · replace h := h.1 hc
    refine pj_iconst 8 rfl rfl ?_
    refine pj_iload_n 9 1 rfl rfl rfl rfl ?_
    refine pj_iconst 10 rfl rfl ?_
    refine pj_isub 11 rfl rfl ?_
    refine pn_callSi 14 [.int (pj_I 0), .int (pj_I (x1 - 1))] [] (s_Jmax hg  h) plX12_232 rfl rfl rfl rfl (Nat.le_of_ble_eq_true rfl) (by decide) (fun t4 M3 h => ?_)
    refine pj_istore_n 15 (ls' := [(0, .ref r0), (1, .int (pj_I x1)), (2, .int (pj_I x2)), (3, .int (pj_I t4))]) rfl rfl (by decide) rfl rfl ?_
    refine pj_aload_n 16 0 rfl rfl rfl rfl ?_
    refine pn_geti 19 12 14 14 o0 rfl pfX12_214 (Or.inl rfl) rfl rfl ?_
    refine pj_iload_n 20 2 rfl rfl rfl rfl ?_
    refine pj_iconst 21 rfl rfl ?_
    refine pj_isub 22 rfl rfl ?_
    refine pn_callSi 25 [.int (pj_I (M3 r0 14)), .int (pj_I (x2 - 1))] [] (s_Jmin hg  h) plX12_237 rfl rfl rfl rfl (Nat.le_of_ble_eq_true rfl) (by decide) (fun t6 M5 h => ?_)
    refine pj_istore 27 (ls' := [(0, .ref r0), (1, .int (pj_I x1)), (2, .int (pj_I x2)), (3, .int (pj_I t4)), (4, .int (pj_I t6))]) rfl (by decide) rfl rfl ?_
    refine pj_aload_n 28 0 rfl rfl rfl rfl ?_
    refine pn_callVi 31 12 [] [] o0 (s_X12_start hg o0 h) plX12_240 rfl rfl rfl rfl (Nat.le_of_ble_eq_true rfl) (by decide) (fun t8 M7 h => ?_)
    refine pj_iload_n 32 3 rfl rfl rfl rfl ?_
    refine pj_iload 34 4 rfl rfl rfl ?_
    refine pn_callSi 37 [.int (pj_I t8), .int (pj_I t4), .int (pj_I t6)] [] (s_X12_cell hg  h) plX12_183 rfl rfl rfl rfl (Nat.le_of_ble_eq_true rfl) (by decide) (fun t10 M9 h => ?_)
    refine pj_istore 39 (ls' := [(0, .ref r0), (1, .int (pj_I x1)), (2, .int (pj_I x2)), (3, .int (pj_I t4)), (4, .int (pj_I t6)), (5, .int (pj_I t10))]) rfl (by decide) rfl rfl ?_
    refine pj_iload_n 40 1 rfl rfl rfl rfl ?_
    obtain ⟨q11, h⟩ := h
    refine pj_if_ne 73 43 rfl (by decide) rfl q11  (fun hc => ?_) (fun hc => ?_)
    · replace h := h.1 hc
      refine pj_iload_n 74 2 rfl rfl rfl rfl ?_
      refine pj_aload_n 75 0 rfl rfl rfl rfl ?_
      refine pn_geti 78 12 14 14 o0 rfl pfX12_214 (Or.inl rfl) rfl rfl ?_
      refine pj_iconst 79 rfl rfl ?_
      refine pj_iadd 80 rfl rfl ?_
      obtain ⟨q12, h⟩ := h
      obtain ⟨q13, h⟩ := h
      refine pj_icmp_ne 93 83 rfl (by decide) rfl q12 q13 (fun hc => ?_) (fun hc => ?_)
      · replace h := h.1 hc
        refine pj_aload_n 94 0 rfl rfl rfl rfl ?_
        refine pn_getr 97 12 18 hg o0 (pr_12_18 o0).2 rfl pfX12_43 rfl rfl ?_
        refine pj_iload 99 5 rfl rfl rfl ?_
        obtain ⟨q14, h⟩ := h
        refine pn_bald 100 2 1536 (pr_12_18 o0) (by decide) q14 rfl rfl ?_
        obtain ⟨q15, h⟩ := h
        exact pn_zret q15 h rfl rfl
      · replace h := h.2 (Classical.not_not.mp hc)
        refine pj_aload_n 84 0 rfl rfl rfl rfl ?_
        refine pn_getr 87 12 17 hg o0 (pr_12_17 o0).2 rfl pfX12_40 rfl rfl ?_
        refine pj_iload 89 5 rfl rfl rfl ?_
        obtain ⟨q16, h⟩ := h
        refine pn_bald 90 2 1536 (pr_12_17 o0) (by decide) q16 rfl rfl ?_
        refine pj_goto 100 rfl (by decide) ?_
        obtain ⟨q17, h⟩ := h
        exact pn_zret q17 h rfl rfl
    · replace h := h.2 (Classical.not_not.mp hc)
      refine pj_iload_n 44 2 rfl rfl rfl rfl ?_
      refine pj_aload_n 45 0 rfl rfl rfl rfl ?_
      refine pn_geti 48 12 14 14 o0 rfl pfX12_214 (Or.inl rfl) rfl rfl ?_
      refine pj_iconst 49 rfl rfl ?_
      refine pj_iadd 50 rfl rfl ?_
      obtain ⟨q18, h⟩ := h
      obtain ⟨q19, h⟩ := h
      refine pj_icmp_ne 63 53 rfl (by decide) rfl q18 q19 (fun hc => ?_) (fun hc => ?_)
      · replace h := h.1 hc
        refine pj_aload_n 64 0 rfl rfl rfl rfl ?_
        refine pn_getr 67 12 16 hg o0 (pr_12_16 o0).2 rfl pfX12_37 rfl rfl ?_
        refine pj_iload 69 5 rfl rfl rfl ?_
        obtain ⟨q20, h⟩ := h
        refine pn_bald 70 2 1536 (pr_12_16 o0) (by decide) q20 rfl rfl ?_
        refine pj_goto 100 rfl (by decide) ?_
        obtain ⟨q21, h⟩ := h
        exact pn_zret q21 h rfl rfl
      · replace h := h.2 (Classical.not_not.mp hc)
        refine pj_aload_n 54 0 rfl rfl rfl rfl ?_
        refine pn_getr 57 12 15 hg o0 (pr_12_15 o0).2 rfl pfX12_33 rfl rfl ?_
        refine pj_iload 59 5 rfl rfl rfl ?_
        obtain ⟨q22, h⟩ := h
        refine pn_bald 60 2 1536 (pr_12_15 o0) (by decide) q22 rfl rfl ?_
        refine pj_goto 100 rfl (by decide) ?_
        obtain ⟨q23, h⟩ := h
        exact pn_zret q23 h rfl rfl
  · replace h := h.2 (Classical.not_not.mp hc)
    refine pj_iconst 6 rfl rfl ?_
    exact pn_zret (by decide) h rfl rfl
def w_X12_isPiece (r0 : Nat) (x1 : Int) (x2 : Int) (M : pj_M) (Q : Int → pj_M → Prop) : Prop :=
  (pj_in x1) ∧ ((x1 < 0 → Q 0 M) ∧ (¬ x1 < 0 → (pj_in x2) ∧ (pj_in x1) ∧ ((x2 < x1 → Q 0 M) ∧ (¬ x2 < x1 → (pj_in x2) ∧ (pj_in ((M (pj_rf r0 0) 73) + 2)) ∧ ((((M (pj_rf r0 0) 73) + 2) < x2 → Q 0 M) ∧ (¬ ((M (pj_rf r0 0) 73) + 2) < x2 → Q 1 M))))))
set_option maxRecDepth 20000 in
set_option maxHeartbeats 4000000 in
theorem s_X12_isPiece {l : Launch} {g : pj_G} (hg : pj_ph g = true) {r0 : Nat} {x1 : Int} {x2 : Int} {M : pj_M} {Q : Int → pj_M → Prop} (o0 : pj_ob r0 12) (h : w_X12_isPiece r0 x1 x2 M Q) : pj_S l g mdX12_isPiece [.ref r0, .int (pj_I x1), .int (pj_I x2)] pj_NK M (pj_qi Q) := by
  refine pj_ofR (ls := [(0, .ref r0), (1, .int (pj_I x1)), (2, .int (pj_I x2))]) gcX12_isPiece (by decide) rfl (Nat.le_of_ble_eq_true rfl) rfl ?_
  unfold w_X12_isPiece at h
  refine pj_iload_n 1 1 rfl rfl rfl rfl ?_
  obtain ⟨q1, h⟩ := h
  refine pj_if_lt 26 4 rfl (by decide) rfl q1  (fun hc => ?_) (fun hc => ?_)
  · replace h := h.1 hc
    refine pj_iconst 27 rfl rfl ?_
    exact pn_zret (by decide) h rfl rfl
  · replace h := h.2 hc
    refine pj_iload_n 5 2 rfl rfl rfl rfl ?_
    refine pj_iload_n 6 1 rfl rfl rfl rfl ?_
    obtain ⟨q2, h⟩ := h
    obtain ⟨q3, h⟩ := h
    refine pj_icmp_lt 26 9 rfl (by decide) rfl q2 q3 (fun hc => ?_) (fun hc => ?_)
    · replace h := h.1 hc
      refine pj_iconst 27 rfl rfl ?_
      exact pn_zret (by decide) h rfl rfl
    · replace h := h.2 hc
      refine pj_iload_n 10 2 rfl rfl rfl rfl ?_
      refine pj_aload_n 11 0 rfl rfl rfl rfl ?_
      refine pn_getr 14 12 0 hg o0 (pr_12_0 o0).2 rfl pfX12_9 rfl rfl ?_
      refine pj_bipush 16 rfl (by decide) rfl ?_
      refine pn_iald 17 95 (pr_12_0 o0) (show 0 ≤ (73 : Int) ∧ (73 : Int) < ((95 : Nat) : Int) by decide) rfl rfl ?_
      refine pj_iconst 18 rfl rfl ?_
      refine pj_iadd 19 rfl rfl ?_
      obtain ⟨q4, h⟩ := h
      obtain ⟨q5, h⟩ := h
      refine pj_icmp_gt 26 22 rfl (by decide) rfl q4 q5 (fun hc => ?_) (fun hc => ?_)
      · replace h := h.1 hc
        refine pj_iconst 27 rfl rfl ?_
        exact pn_zret (by decide) h rfl rfl
      · replace h := h.2 hc
        refine pj_iconst 23 rfl rfl ?_
        refine pj_goto 27 rfl (by decide) ?_
        exact pn_zret (by decide) h rfl rfl
def w_X12_fits (r0 : Nat) (x1 : Int) (x2 : Int) (M : pj_M) (Q : Int → pj_M → Prop) : Prop :=
  ∀ M1 : pj_M, M1 = pj_up M r0 5 0 → w_X12_isPiece r0 x1 x2 M1 (fun (t3 : Int) (M2 : pj_M) => (pj_in t3) ∧ ((¬ t3 = 0 → w_X12_layAll r0 (M2 (pj_rf r0 0) 73) M2 (fun (M5 : pj_M) => w_X12_isFit r0 x1 x2 M5 (fun (t8 : Int) (M7 : pj_M) => (pj_in t8) ∧ ((t8 = 0 → Q 0 M7) ∧ (¬ t8 = 0 → Q 1 M7))))) ∧ (t3 = 0 → Q (-1) M2)))
set_option maxRecDepth 20000 in
set_option maxHeartbeats 4000000 in
theorem s_X12_fits {l : Launch} {g : pj_G} (hg : pj_ph g = true) {r0 : Nat} {x1 : Int} {x2 : Int} {M : pj_M} {Q : Int → pj_M → Prop} (o0 : pj_ob r0 12) (h : w_X12_fits r0 x1 x2 M Q) : pj_S l g mdX12_fits [.ref r0, .int (pj_I x1), .int (pj_I x2)] pj_NK M (pj_qi Q) := by
  refine pj_ofR (ls := [(0, .ref r0), (1, .int (pj_I x1)), (2, .int (pj_I x2))]) gcX12_fits (by decide) rfl (Nat.le_of_ble_eq_true rfl) rfl ?_
  unfold w_X12_fits at h
  refine pj_aload_n 1 0 rfl rfl rfl rfl ?_
  refine pj_iconst 2 rfl rfl ?_
  refine pn_puti 5 12 5 5 o0  rfl pfX12_88 rfl rfl rfl (fun M1 hM1 => ?_)
  replace h := h M1 hM1
  refine pj_aload_n 6 0 rfl rfl rfl rfl ?_
  refine pj_iload_n 7 1 rfl rfl rfl rfl ?_
  refine pj_iload_n 8 2 rfl rfl rfl rfl ?_
  refine pn_callVi 11 12 [.int (pj_I x1), .int (pj_I x2)] [] o0 (s_X12_isPiece hg o0 h) plX12_243 rfl rfl rfl rfl (Nat.le_of_ble_eq_true rfl) (by decide) (fun t3 M2 h => ?_)
  obtain ⟨q4, h⟩ := h
  refine pj_if_ne 16 14 rfl (by decide) rfl q4  (fun hc => ?_) (fun hc => ?_)
  · replace h := h.1 hc
    refine pj_aload_n 17 0 rfl rfl rfl rfl ?_
    refine pj_aload_n 18 0 rfl rfl rfl rfl ?_
    refine pn_getr 21 12 0 hg o0 (pr_12_0 o0).2 rfl pfX12_9 rfl rfl ?_
    refine pj_bipush 23 rfl (by decide) rfl ?_
    refine pn_iald 24 95 (pr_12_0 o0) (show 0 ≤ (73 : Int) ∧ (73 : Int) < ((95 : Nat) : Int) by decide) rfl rfl ?_
    refine pn_callVv 27 12 [.int (pj_I (M2 (pj_rf r0 0) 73))] [] o0 (s_X12_layAll hg o0 h) plX12_246 rfl rfl rfl rfl (Nat.le_of_ble_eq_true rfl) (by decide) (fun M5 h => ?_)
    refine pj_aload_n 28 0 rfl rfl rfl rfl ?_
    refine pj_iload_n 29 1 rfl rfl rfl rfl ?_
    refine pj_iload_n 30 2 rfl rfl rfl rfl ?_
    refine pn_callVi 33 12 [.int (pj_I x1), .int (pj_I x2)] [] o0 (s_X12_isFit hg o0 h) plX12_249 rfl rfl rfl rfl (Nat.le_of_ble_eq_true rfl) (by decide) (fun t8 M7 h => ?_)
    obtain ⟨q9, h⟩ := h
    refine pj_if_eq 40 36 rfl (by decide) rfl q9  (fun hc => ?_) (fun hc => ?_)
    · replace h := h.1 hc
      refine pj_iconst 41 rfl rfl ?_
      exact pn_iret h rfl rfl
    · replace h := h.2 hc
      refine pj_iconst 37 rfl rfl ?_
      refine pj_goto 41 rfl (by decide) ?_
      exact pn_iret h rfl rfl
  · replace h := h.2 (Classical.not_not.mp hc)
    refine pj_iconst 15 rfl rfl ?_
    exact pn_iret h rfl rfl
def w_X12_onwards_37b (r0 : Nat) (x1 : Int)  (Q : Int → pj_M → Prop) (k37 : Int → pj_M → Prop) (x2 : Int) (M : pj_M) : Prop :=
  (pj_in x2) ∧ (pj_in ((M (pj_rf r0 0) 73) + 2)) ∧ ((((M (pj_rf r0 0) 73) + 2) ≤ x2 → Q x2 M) ∧ (¬ ((M (pj_rf r0 0) 73) + 2) ≤ x2 → w_X12_isFit r0 x1 (x2 + 1) M (fun (t10 : Int) (M9 : pj_M) => (pj_in t10) ∧ ((t10 = 0 → Q x2 M9) ∧ (¬ t10 = 0 → k37 (x2 + 1) M9)))))
def w_X12_onwards_37 (r0 : Nat) (x1 : Int)  (Q : Int → pj_M → Prop) (x2 : Int) (M : pj_M) : Prop := pj_lp (fun (k : Int × pj_M → Prop) (s : Int × pj_M) => w_X12_onwards_37b r0 x1  Q (fun (x2 : Int) (M : pj_M) => k (x2, M)) s.1 s.2) (x2, M)
def w_X12_onwards (r0 : Nat) (x1 : Int) (M : pj_M) (Q : Int → pj_M → Prop) : Prop :=
  ∀ M1 : pj_M, M1 = pj_up M r0 5 0 → w_X12_in x1 0 ((M1 (pj_rf r0 0) 73) + 2) M1 (fun (t3 : Int) (M2 : pj_M) => (pj_in t3) ∧ ((¬ t3 = 0 → w_X12_layAll r0 (M2 (pj_rf r0 0) 73) M2 (fun (M5 : pj_M) => w_X12_onwards_37 r0 x1  Q x1 M5)) ∧ (t3 = 0 → Q (-1) M2)))
set_option maxRecDepth 20000 in
set_option maxHeartbeats 4000000 in
theorem s_X12_onwards_37b {l : Launch} {g : pj_G} (hg : pj_ph g = true) {r0 : Nat} {x1 : Int} {x2 : Int} {M : pj_M} {Q : Int → pj_M → Prop}  {k37 : Int → pj_M → Prop} (o0 : pj_ob r0 12)  (hk37 : ∀ (x2 : Int) (M : pj_M), k37 x2 M → pj_R l g mdX12_onwards pj_T (pj_Zm g mdX12_onwards (pj_qi Q)) pj_NK 0 0 37 [(0, .ref r0), (1, .int (pj_I x1)), (2, .int (pj_I x2))] [] M) (h : w_X12_onwards_37b r0 x1  Q k37 x2 M) : pj_R l g mdX12_onwards pj_T (pj_Zm g mdX12_onwards (pj_qi Q)) pj_NK 0 0 37 [(0, .ref r0), (1, .int (pj_I x1)), (2, .int (pj_I x2))] [] M := by
  unfold w_X12_onwards_37b at h
  refine pj_iload_n 38 2 rfl rfl rfl rfl ?_
  refine pj_aload_n 39 0 rfl rfl rfl rfl ?_
  refine pn_getr 42 12 0 hg o0 (pr_12_0 o0).2 rfl pfX12_9 rfl rfl ?_
  refine pj_bipush 44 rfl (by decide) rfl ?_
  refine pn_iald 45 95 (pr_12_0 o0) (show 0 ≤ (73 : Int) ∧ (73 : Int) < ((95 : Nat) : Int) by decide) rfl rfl ?_
  refine pj_iconst 46 rfl rfl ?_
  refine pj_iadd 47 rfl rfl ?_
  obtain ⟨q7, h⟩ := h
  obtain ⟨q8, h⟩ := h
  refine pj_icmp_ge 67 50 rfl (by decide) rfl q7 q8 (fun hc => ?_) (fun hc => ?_)
  · replace h := h.1 hc
    refine pj_iload_n 68 2 rfl rfl rfl rfl ?_
    exact pn_iret h rfl rfl
  · replace h := h.2 hc
    refine pj_aload_n 51 0 rfl rfl rfl rfl ?_
    refine pj_iload_n 52 1 rfl rfl rfl rfl ?_
    refine pj_iload_n 53 2 rfl rfl rfl rfl ?_
    refine pj_iconst 54 rfl rfl ?_
    refine pj_iadd 55 rfl rfl ?_
    refine pn_callVi 58 12 [.int (pj_I x1), .int (pj_I (x2 + 1))] [] o0 (s_X12_isFit hg o0 h) plX12_249 rfl rfl rfl rfl (Nat.le_of_ble_eq_true rfl) (by decide) (fun t10 M9 h => ?_)
    obtain ⟨q11, h⟩ := h
    refine pj_if_eq 67 61 rfl (by decide) rfl q11  (fun hc => ?_) (fun hc => ?_)
    · replace h := h.1 hc
      refine pj_iload_n 68 2 rfl rfl rfl rfl ?_
      exact pn_iret h rfl rfl
    · replace h := h.2 hc
      refine pj_iinc 64 2 (ls' := [(0, .ref r0), (1, .int (pj_I x1)), (2, .int (pj_I (x2 + 1)))]) rfl rfl (by decide) rfl rfl ?_
      refine pj_goto 37 rfl (by decide) ?_
      refine pn_sub [0, 1, 2] rfl ?_
      exact hk37 _ _ h
set_option maxRecDepth 20000 in
set_option maxHeartbeats 4000000 in
theorem s_X12_onwards_37 {l : Launch} {g : pj_G} (hg : pj_ph g = true) {r0 : Nat} {x1 : Int} {x2 : Int} {M : pj_M} {Q : Int → pj_M → Prop}  (o0 : pj_ob r0 12)  (h : w_X12_onwards_37 r0 x1  Q x2 M) : pj_R l g mdX12_onwards pj_T (pj_Zm g mdX12_onwards (pj_qi Q)) pj_NK 0 0 37 [(0, .ref r0), (1, .int (pj_I x1)), (2, .int (pj_I x2))] [] M :=
  h (fun s => pj_R l g mdX12_onwards pj_T (pj_Zm g mdX12_onwards (pj_qi Q)) pj_NK 0 0 37 [(0, .ref r0), (1, .int (pj_I x1)), (2, .int (pj_I (s.1)))] [] s.2) (fun s hs => s_X12_onwards_37b hg o0  (fun _ _ q => q) hs)
set_option maxRecDepth 20000 in
set_option maxHeartbeats 4000000 in
theorem s_X12_onwards {l : Launch} {g : pj_G} (hg : pj_ph g = true) {r0 : Nat} {x1 : Int} {M : pj_M} {Q : Int → pj_M → Prop} (o0 : pj_ob r0 12) (h : w_X12_onwards r0 x1 M Q) : pj_S l g mdX12_onwards [.ref r0, .int (pj_I x1)] pj_NK M (pj_qi Q) := by
  refine pj_ofR (ls := [(0, .ref r0), (1, .int (pj_I x1))]) gcX12_onwards (by decide) rfl (Nat.le_of_ble_eq_true rfl) rfl ?_
  unfold w_X12_onwards at h
  refine pj_aload_n 1 0 rfl rfl rfl rfl ?_
  refine pj_iconst 2 rfl rfl ?_
  refine pn_puti 5 12 5 5 o0  rfl pfX12_88 rfl rfl rfl (fun M1 hM1 => ?_)
  replace h := h M1 hM1
  refine pj_iload_n 6 1 rfl rfl rfl rfl ?_
  refine pj_iconst 7 rfl rfl ?_
  refine pj_aload_n 8 0 rfl rfl rfl rfl ?_
  refine pn_getr 11 12 0 hg o0 (pr_12_0 o0).2 rfl pfX12_9 rfl rfl ?_
  refine pj_bipush 13 rfl (by decide) rfl ?_
  refine pn_iald 14 95 (pr_12_0 o0) (show 0 ≤ (73 : Int) ∧ (73 : Int) < ((95 : Nat) : Int) by decide) rfl rfl ?_
  refine pj_iconst 15 rfl rfl ?_
  refine pj_iadd 16 rfl rfl ?_
  refine pn_callSi 19 [.int (pj_I x1), .int (pj_I 0), .int (pj_I ((M1 (pj_rf r0 0) 73) + 2))] [] (s_X12_in hg  h) plX12_98 rfl rfl rfl rfl (Nat.le_of_ble_eq_true rfl) (by decide) (fun t3 M2 h => ?_)
  obtain ⟨q4, h⟩ := h
  refine pj_if_ne 24 22 rfl (by decide) rfl q4  (fun hc => ?_) (fun hc => ?_)
  · replace h := h.1 hc
    refine pj_aload_n 25 0 rfl rfl rfl rfl ?_
    refine pj_aload_n 26 0 rfl rfl rfl rfl ?_
    refine pn_getr 29 12 0 hg o0 (pr_12_0 o0).2 rfl pfX12_9 rfl rfl ?_
    refine pj_bipush 31 rfl (by decide) rfl ?_
    refine pn_iald 32 95 (pr_12_0 o0) (show 0 ≤ (73 : Int) ∧ (73 : Int) < ((95 : Nat) : Int) by decide) rfl rfl ?_
    refine pn_callVv 35 12 [.int (pj_I (M2 (pj_rf r0 0) 73))] [] o0 (s_X12_layAll hg o0 h) plX12_246 rfl rfl rfl rfl (Nat.le_of_ble_eq_true rfl) (by decide) (fun M5 h => ?_)
    refine pj_iload_n 36 1 rfl rfl rfl rfl ?_
    refine pj_istore_n 37 (ls' := [(0, .ref r0), (1, .int (pj_I x1)), (2, .int (pj_I x1))]) rfl rfl (by decide) rfl rfl ?_
    refine pn_sub [0, 1, 2] rfl ?_
    exact s_X12_onwards_37 hg o0   h
  · replace h := h.2 (Classical.not_not.mp hc)
    refine pj_iconst 23 rfl rfl ?_
    exact pn_iret h rfl rfl
def w_X12_back_37b (r0 : Nat) (x1 : Int)  (Q : Int → pj_M → Prop) (k37 : Int → pj_M → Prop) (x2 : Int) (M : pj_M) : Prop :=
  (pj_in x2) ∧ ((x2 ≤ 0 → Q x2 M) ∧ (¬ x2 ≤ 0 → w_X12_isFit r0 (x2 - 1) x1 M (fun (t9 : Int) (M8 : pj_M) => (pj_in t9) ∧ ((t9 = 0 → Q x2 M8) ∧ (¬ t9 = 0 → k37 (x2 + (-1)) M8)))))
def w_X12_back_37 (r0 : Nat) (x1 : Int)  (Q : Int → pj_M → Prop) (x2 : Int) (M : pj_M) : Prop := pj_lp (fun (k : Int × pj_M → Prop) (s : Int × pj_M) => w_X12_back_37b r0 x1  Q (fun (x2 : Int) (M : pj_M) => k (x2, M)) s.1 s.2) (x2, M)
def w_X12_back (r0 : Nat) (x1 : Int) (M : pj_M) (Q : Int → pj_M → Prop) : Prop :=
  ∀ M1 : pj_M, M1 = pj_up M r0 5 0 → w_X12_in x1 0 ((M1 (pj_rf r0 0) 73) + 2) M1 (fun (t3 : Int) (M2 : pj_M) => (pj_in t3) ∧ ((¬ t3 = 0 → w_X12_layAll r0 (M2 (pj_rf r0 0) 73) M2 (fun (M5 : pj_M) => w_X12_back_37 r0 x1  Q x1 M5)) ∧ (t3 = 0 → Q (-1) M2)))
set_option maxRecDepth 20000 in
set_option maxHeartbeats 4000000 in
theorem s_X12_back_37b {l : Launch} {g : pj_G} (hg : pj_ph g = true) {r0 : Nat} {x1 : Int} {x2 : Int} {M : pj_M} {Q : Int → pj_M → Prop}  {k37 : Int → pj_M → Prop} (o0 : pj_ob r0 12)  (hk37 : ∀ (x2 : Int) (M : pj_M), k37 x2 M → pj_R l g mdX12_back pj_T (pj_Zm g mdX12_back (pj_qi Q)) pj_NK 0 0 37 [(0, .ref r0), (1, .int (pj_I x1)), (2, .int (pj_I x2))] [] M) (h : w_X12_back_37b r0 x1  Q k37 x2 M) : pj_R l g mdX12_back pj_T (pj_Zm g mdX12_back (pj_qi Q)) pj_NK 0 0 37 [(0, .ref r0), (1, .int (pj_I x1)), (2, .int (pj_I x2))] [] M := by
  unfold w_X12_back_37b at h
  refine pj_iload_n 38 2 rfl rfl rfl rfl ?_
  obtain ⟨q7, h⟩ := h
  refine pj_if_le 58 41 rfl (by decide) rfl q7  (fun hc => ?_) (fun hc => ?_)
  · replace h := h.1 hc
    refine pj_iload_n 59 2 rfl rfl rfl rfl ?_
    exact pn_iret h rfl rfl
  · replace h := h.2 hc
    refine pj_aload_n 42 0 rfl rfl rfl rfl ?_
    refine pj_iload_n 43 2 rfl rfl rfl rfl ?_
    refine pj_iconst 44 rfl rfl ?_
    refine pj_isub 45 rfl rfl ?_
    refine pj_iload_n 46 1 rfl rfl rfl rfl ?_
    refine pn_callVi 49 12 [.int (pj_I (x2 - 1)), .int (pj_I x1)] [] o0 (s_X12_isFit hg o0 h) plX12_249 rfl rfl rfl rfl (Nat.le_of_ble_eq_true rfl) (by decide) (fun t9 M8 h => ?_)
    obtain ⟨q10, h⟩ := h
    refine pj_if_eq 58 52 rfl (by decide) rfl q10  (fun hc => ?_) (fun hc => ?_)
    · replace h := h.1 hc
      refine pj_iload_n 59 2 rfl rfl rfl rfl ?_
      exact pn_iret h rfl rfl
    · replace h := h.2 hc
      refine pj_iinc 55 2 (ls' := [(0, .ref r0), (1, .int (pj_I x1)), (2, .int (pj_I (x2 + (-1))))]) rfl rfl (by decide) rfl rfl ?_
      refine pj_goto 37 rfl (by decide) ?_
      refine pn_sub [0, 1, 2] rfl ?_
      exact hk37 _ _ h
set_option maxRecDepth 20000 in
set_option maxHeartbeats 4000000 in
theorem s_X12_back_37 {l : Launch} {g : pj_G} (hg : pj_ph g = true) {r0 : Nat} {x1 : Int} {x2 : Int} {M : pj_M} {Q : Int → pj_M → Prop}  (o0 : pj_ob r0 12)  (h : w_X12_back_37 r0 x1  Q x2 M) : pj_R l g mdX12_back pj_T (pj_Zm g mdX12_back (pj_qi Q)) pj_NK 0 0 37 [(0, .ref r0), (1, .int (pj_I x1)), (2, .int (pj_I x2))] [] M :=
  h (fun s => pj_R l g mdX12_back pj_T (pj_Zm g mdX12_back (pj_qi Q)) pj_NK 0 0 37 [(0, .ref r0), (1, .int (pj_I x1)), (2, .int (pj_I (s.1)))] [] s.2) (fun s hs => s_X12_back_37b hg o0  (fun _ _ q => q) hs)
set_option maxRecDepth 20000 in
set_option maxHeartbeats 4000000 in
theorem s_X12_back {l : Launch} {g : pj_G} (hg : pj_ph g = true) {r0 : Nat} {x1 : Int} {M : pj_M} {Q : Int → pj_M → Prop} (o0 : pj_ob r0 12) (h : w_X12_back r0 x1 M Q) : pj_S l g mdX12_back [.ref r0, .int (pj_I x1)] pj_NK M (pj_qi Q) := by
  refine pj_ofR (ls := [(0, .ref r0), (1, .int (pj_I x1))]) gcX12_back (by decide) rfl (Nat.le_of_ble_eq_true rfl) rfl ?_
  unfold w_X12_back at h
  refine pj_aload_n 1 0 rfl rfl rfl rfl ?_
  refine pj_iconst 2 rfl rfl ?_
  refine pn_puti 5 12 5 5 o0  rfl pfX12_88 rfl rfl rfl (fun M1 hM1 => ?_)
  replace h := h M1 hM1
  refine pj_iload_n 6 1 rfl rfl rfl rfl ?_
  refine pj_iconst 7 rfl rfl ?_
  refine pj_aload_n 8 0 rfl rfl rfl rfl ?_
  refine pn_getr 11 12 0 hg o0 (pr_12_0 o0).2 rfl pfX12_9 rfl rfl ?_
  refine pj_bipush 13 rfl (by decide) rfl ?_
  refine pn_iald 14 95 (pr_12_0 o0) (show 0 ≤ (73 : Int) ∧ (73 : Int) < ((95 : Nat) : Int) by decide) rfl rfl ?_
  refine pj_iconst 15 rfl rfl ?_
  refine pj_iadd 16 rfl rfl ?_
  refine pn_callSi 19 [.int (pj_I x1), .int (pj_I 0), .int (pj_I ((M1 (pj_rf r0 0) 73) + 2))] [] (s_X12_in hg  h) plX12_98 rfl rfl rfl rfl (Nat.le_of_ble_eq_true rfl) (by decide) (fun t3 M2 h => ?_)
  obtain ⟨q4, h⟩ := h
  refine pj_if_ne 24 22 rfl (by decide) rfl q4  (fun hc => ?_) (fun hc => ?_)
  · replace h := h.1 hc
    refine pj_aload_n 25 0 rfl rfl rfl rfl ?_
    refine pj_aload_n 26 0 rfl rfl rfl rfl ?_
    refine pn_getr 29 12 0 hg o0 (pr_12_0 o0).2 rfl pfX12_9 rfl rfl ?_
    refine pj_bipush 31 rfl (by decide) rfl ?_
    refine pn_iald 32 95 (pr_12_0 o0) (show 0 ≤ (73 : Int) ∧ (73 : Int) < ((95 : Nat) : Int) by decide) rfl rfl ?_
    refine pn_callVv 35 12 [.int (pj_I (M2 (pj_rf r0 0) 73))] [] o0 (s_X12_layAll hg o0 h) plX12_246 rfl rfl rfl rfl (Nat.le_of_ble_eq_true rfl) (by decide) (fun M5 h => ?_)
    refine pj_iload_n 36 1 rfl rfl rfl rfl ?_
    refine pj_istore_n 37 (ls' := [(0, .ref r0), (1, .int (pj_I x1)), (2, .int (pj_I x1))]) rfl rfl (by decide) rfl rfl ?_
    refine pn_sub [0, 1, 2] rfl ?_
    exact s_X12_back_37 hg o0   h
  · replace h := h.2 (Classical.not_not.mp hc)
    refine pj_iconst 23 rfl rfl ?_
    exact pn_iret h rfl rfl
def w_X12_sentence (r0 : Nat) (M : pj_M) (Q : Int → pj_M → Prop) : Prop :=
  ∀ M1 : pj_M, M1 = pj_up M r0 5 0 → w_X12_layAll r0 (M1 (pj_rf r0 0) 73) M1 (fun (M2 : pj_M) => w_X12_isFit r0 0 ((M2 (pj_rf r0 0) 73) + 2) M2 (fun (t5 : Int) (M4 : pj_M) => (pj_in t5) ∧ ((t5 = 0 → Q 0 M4) ∧ (¬ t5 = 0 → Q 1 M4))))
set_option maxRecDepth 20000 in
set_option maxHeartbeats 4000000 in
theorem s_X12_sentence {l : Launch} {g : pj_G} (hg : pj_ph g = true) {r0 : Nat} {M : pj_M} {Q : Int → pj_M → Prop} (o0 : pj_ob r0 12) (h : w_X12_sentence r0 M Q) : pj_S l g mdX12_sentence [.ref r0] pj_NK M (pj_qi Q) := by
  refine pj_ofR (ls := [(0, .ref r0)]) gcX12_sentence (by decide) rfl (Nat.le_of_ble_eq_true rfl) rfl ?_
  unfold w_X12_sentence at h
  refine pj_aload_n 1 0 rfl rfl rfl rfl ?_
  refine pj_iconst 2 rfl rfl ?_
  refine pn_puti 5 12 5 5 o0  rfl pfX12_88 rfl rfl rfl (fun M1 hM1 => ?_)
  replace h := h M1 hM1
  refine pj_aload_n 6 0 rfl rfl rfl rfl ?_
  refine pj_aload_n 7 0 rfl rfl rfl rfl ?_
  refine pn_getr 10 12 0 hg o0 (pr_12_0 o0).2 rfl pfX12_9 rfl rfl ?_
  refine pj_bipush 12 rfl (by decide) rfl ?_
  refine pn_iald 13 95 (pr_12_0 o0) (show 0 ≤ (73 : Int) ∧ (73 : Int) < ((95 : Nat) : Int) by decide) rfl rfl ?_
  refine pn_callVv 16 12 [.int (pj_I (M1 (pj_rf r0 0) 73))] [] o0 (s_X12_layAll hg o0 h) plX12_246 rfl rfl rfl rfl (Nat.le_of_ble_eq_true rfl) (by decide) (fun M2 h => ?_)
  refine pj_aload_n 17 0 rfl rfl rfl rfl ?_
  refine pj_iconst 18 rfl rfl ?_
  refine pj_aload_n 19 0 rfl rfl rfl rfl ?_
  refine pn_getr 22 12 0 hg o0 (pr_12_0 o0).2 rfl pfX12_9 rfl rfl ?_
  refine pj_bipush 24 rfl (by decide) rfl ?_
  refine pn_iald 25 95 (pr_12_0 o0) (show 0 ≤ (73 : Int) ∧ (73 : Int) < ((95 : Nat) : Int) by decide) rfl rfl ?_
  refine pj_iconst 26 rfl rfl ?_
  refine pj_iadd 27 rfl rfl ?_
  refine pn_callVi 30 12 [.int (pj_I 0), .int (pj_I ((M2 (pj_rf r0 0) 73) + 2))] [] o0 (s_X12_isFit hg o0 h) plX12_249 rfl rfl rfl rfl (Nat.le_of_ble_eq_true rfl) (by decide) (fun t5 M4 h => ?_)
  obtain ⟨q6, h⟩ := h
  refine pj_if_eq 37 33 rfl (by decide) rfl q6  (fun hc => ?_) (fun hc => ?_)
  · replace h := h.1 hc
    refine pj_iconst 38 rfl rfl ?_
    exact pn_iret h rfl rfl
  · replace h := h.2 hc
    refine pj_iconst 34 rfl rfl ?_
    refine pj_goto 38 rfl (by decide) ?_
    exact pn_iret h rfl rfl
def w_X12_layPiece_31b (r0 : Nat) (x5 : Int)  (Q : pj_M → Prop) (k31 : Int → pj_M → Prop) (x6 : Int) (M : pj_M) : Prop :=
  (pj_in x6) ∧ (pj_in x5) ∧ ((x5 < x6 → Q M) ∧ (¬ x5 < x6 → ∀ M8 : pj_M, M8 = pj_up M r0 14 ((M r0 14) + 1) → ((0 : Int) ≤ ((74 + x6) - 1) ∧ ((74 + x6) - 1) < 95) ∧ ((0 : Int) ≤ (M r0 14) ∧ (M r0 14) < 16) ∧ ∀ M11 : pj_M, M11 = pj_up M8 (pj_rf r0 13) (M r0 14) (M8 (pj_rf r0 0) ((74 + x6) - 1)) → k31 (x6 + 1) M11))
def w_X12_layPiece_31 (r0 : Nat) (x5 : Int)  (Q : pj_M → Prop) (x6 : Int) (M : pj_M) : Prop := pj_lp (fun (k : Int × pj_M → Prop) (s : Int × pj_M) => w_X12_layPiece_31b r0 x5  Q (fun (x6 : Int) (M : pj_M) => k (x6, M)) s.1 s.2) (x6, M)
def w_X12_layPiece (r0 : Nat) (x1 : Int) (x2 : Int) (x3 : Int) (M : pj_M) (Q : pj_M → Prop) : Prop :=
  w_Jmax 1 x1 M (fun (t2 : Int) (M1 : pj_M) => w_Jmin (M1 (pj_rf r0 0) 73) (x2 - 1) M1 (fun (t4 : Int) (M3 : pj_M) => ∀ M5 : pj_M, M5 = pj_up M3 r0 14 x3 → w_X12_layPiece_31 r0 t4  Q t2 M5))
set_option maxRecDepth 20000 in
set_option maxHeartbeats 4000000 in
theorem s_X12_layPiece_31b {l : Launch} {g : pj_G} (hg : pj_ph g = true) {r0 : Nat} {x5 : Int} {x6 : Int} {M : pj_M} {Q : pj_M → Prop}  {k31 : Int → pj_M → Prop} (o0 : pj_ob r0 12)  (hk31 : ∀ (x6 : Int) (M : pj_M), k31 x6 M → pj_R l g mdX12_layPiece pj_T (pj_Zm g mdX12_layPiece (pj_qv Q)) pj_NK 0 0 31 [(0, .ref r0), (5, .int (pj_I x5)), (6, .int (pj_I x6))] [] M) (h : w_X12_layPiece_31b r0 x5  Q k31 x6 M) : pj_R l g mdX12_layPiece pj_T (pj_Zm g mdX12_layPiece (pj_qv Q)) pj_NK 0 0 31 [(0, .ref r0), (5, .int (pj_I x5)), (6, .int (pj_I x6))] [] M := by
  unfold w_X12_layPiece_31b at h
  refine pj_iload 33 2 rfl rfl rfl ?_
  refine pj_iload 35 1 rfl rfl rfl ?_
  obtain ⟨q6, h⟩ := h
  obtain ⟨q7, h⟩ := h
  refine pj_icmp_gt 72 38 rfl (by decide) rfl q6 q7 (fun hc => ?_) (fun hc => ?_)
  · replace h := h.1 hc
    exact pn_vret h rfl rfl
  · replace h := h.2 hc
    refine pj_aload_n 39 0 rfl rfl rfl rfl ?_
    refine pn_getr 42 12 13 hg o0 (pr_12_13 o0).2 rfl pfX12_30 rfl rfl ?_
    refine pj_aload_n 43 0 rfl rfl rfl rfl ?_
    refine pj_dup 44 rfl rfl rfl ?_
    refine pn_geti 47 12 14 14 o0 rfl pfX12_214 (Or.inl rfl) rfl rfl ?_
    refine pj_dup_x1 48 rfl rfl rfl rfl ?_
    refine pj_iconst 49 rfl rfl ?_
    refine pj_iadd 50 rfl rfl ?_
    refine pn_puti 53 12 14 14 o0  rfl pfX12_214 rfl rfl rfl (fun M8 hM8 => ?_)
    replace h := h M8 hM8
    refine pj_aload_n 54 0 rfl rfl rfl rfl ?_
    refine pn_getr 57 12 0 hg o0 (pr_12_0 o0).2 rfl pfX12_9 rfl rfl ?_
    refine pj_bipush 59 rfl (by decide) rfl ?_
    refine pj_iload 61 2 rfl rfl rfl ?_
    refine pj_iadd 62 rfl rfl ?_
    refine pj_iconst 63 rfl rfl ?_
    refine pj_isub 64 rfl rfl ?_
    obtain ⟨q9, h⟩ := h
    refine pn_iald 65 95 (pr_12_0 o0) q9 rfl rfl ?_
    obtain ⟨q10, h⟩ := h
    refine pn_iast 66 16 (pr_12_13 o0)  q10 rfl rfl (fun M11 hM11 => ?_)
    replace h := h M11 hM11
    refine pj_iinc 69 2 (ls' := [(0, .ref r0), (5, .int (pj_I x5)), (6, .int (pj_I (x6 + 1)))]) rfl rfl (by decide) rfl rfl ?_
    refine pj_goto 31 rfl (by decide) ?_
    refine pn_sub [0, 1, 2] rfl ?_
    exact hk31 _ _ h
set_option maxRecDepth 20000 in
set_option maxHeartbeats 4000000 in
theorem s_X12_layPiece_31 {l : Launch} {g : pj_G} (hg : pj_ph g = true) {r0 : Nat} {x5 : Int} {x6 : Int} {M : pj_M} {Q : pj_M → Prop}  (o0 : pj_ob r0 12)  (h : w_X12_layPiece_31 r0 x5  Q x6 M) : pj_R l g mdX12_layPiece pj_T (pj_Zm g mdX12_layPiece (pj_qv Q)) pj_NK 0 0 31 [(0, .ref r0), (5, .int (pj_I x5)), (6, .int (pj_I x6))] [] M :=
  h (fun s => pj_R l g mdX12_layPiece pj_T (pj_Zm g mdX12_layPiece (pj_qv Q)) pj_NK 0 0 31 [(0, .ref r0), (5, .int (pj_I x5)), (6, .int (pj_I (s.1)))] [] s.2) (fun s hs => s_X12_layPiece_31b hg o0  (fun _ _ q => q) hs)
set_option maxRecDepth 20000 in
set_option maxHeartbeats 4000000 in
theorem s_X12_layPiece {l : Launch} {g : pj_G} (hg : pj_ph g = true) {r0 : Nat} {x1 : Int} {x2 : Int} {x3 : Int} {M : pj_M} {Q : pj_M → Prop} (o0 : pj_ob r0 12) (h : w_X12_layPiece r0 x1 x2 x3 M Q) : pj_S l g mdX12_layPiece [.ref r0, .int (pj_I x1), .int (pj_I x2), .int (pj_I x3)] pj_NK M (pj_qv Q) := by
  refine pj_ofR (ls := [(0, .ref r0), (1, .int (pj_I x1)), (2, .int (pj_I x2)), (3, .int (pj_I x3))]) gcX12_layPiece (by decide) rfl (Nat.le_of_ble_eq_true rfl) rfl ?_
  unfold w_X12_layPiece at h
  refine pj_iconst 1 rfl rfl ?_
  refine pj_iload_n 2 1 rfl rfl rfl rfl ?_
  refine pn_callSi 5 [.int (pj_I 1), .int (pj_I x1)] [] (s_Jmax hg  h) plX12_232 rfl rfl rfl rfl (Nat.le_of_ble_eq_true rfl) (by decide) (fun t2 M1 h => ?_)
  refine pj_istore 7 (ls' := [(0, .ref r0), (1, .int (pj_I x1)), (2, .int (pj_I x2)), (3, .int (pj_I x3)), (4, .int (pj_I t2))]) rfl (by decide) rfl rfl ?_
  refine pj_aload_n 8 0 rfl rfl rfl rfl ?_
  refine pn_getr 11 12 0 hg o0 (pr_12_0 o0).2 rfl pfX12_9 rfl rfl ?_
  refine pj_bipush 13 rfl (by decide) rfl ?_
  refine pn_iald 14 95 (pr_12_0 o0) (show 0 ≤ (73 : Int) ∧ (73 : Int) < ((95 : Nat) : Int) by decide) rfl rfl ?_
  refine pj_iload_n 15 2 rfl rfl rfl rfl ?_
  refine pj_iconst 16 rfl rfl ?_
  refine pj_isub 17 rfl rfl ?_
  refine pn_callSi 20 [.int (pj_I (M1 (pj_rf r0 0) 73)), .int (pj_I (x2 - 1))] [] (s_Jmin hg  h) plX12_237 rfl rfl rfl rfl (Nat.le_of_ble_eq_true rfl) (by decide) (fun t4 M3 h => ?_)
  refine pj_istore 22 (ls' := [(0, .ref r0), (1, .int (pj_I x1)), (2, .int (pj_I x2)), (3, .int (pj_I x3)), (4, .int (pj_I t2)), (5, .int (pj_I t4))]) rfl (by decide) rfl rfl ?_
  refine pj_aload_n 23 0 rfl rfl rfl rfl ?_
  refine pj_iload_n 24 3 rfl rfl rfl rfl ?_
  refine pn_puti 27 12 14 14 o0  rfl pfX12_214 rfl rfl rfl (fun M5 hM5 => ?_)
  replace h := h M5 hM5
  refine pj_iload 29 4 rfl rfl rfl ?_
  refine pj_istore 31 (ls' := [(0, .ref r0), (1, .int (pj_I x1)), (2, .int (pj_I x2)), (3, .int (pj_I x3)), (4, .int (pj_I t2)), (5, .int (pj_I t4)), (6, .int (pj_I t2))]) rfl (by decide) rfl rfl ?_
  refine pn_sub [0, 5, 6] rfl ?_
  exact s_X12_layPiece_31 hg o0   h
def w_X12_next_198 (r0 : Nat) (x5 : Int)  (Q : Int → pj_M → Prop) (M : pj_M) : Prop :=
  ∀ M14 : pj_M, M14 = pj_up M r0 4 0 → w_Jbits x5 M14 (fun (t16 : Int) (M15 : pj_M) => (pj_in t16) ∧ w_X12_tell r0 t16 M15 (fun (M18 : pj_M) => Q x5 M18))
def w_X12_next_189 (r0 : Nat) (x1 : Int) (x2 : Int) (x3 : Int) (x4 : Int) (x6 : Int) (y0 : Int) (y1 : Int) (k84 : Int → Int → pj_M → Prop) (Q : Int → pj_M → Prop) (M : pj_M) : Prop :=
  ∀ z32 : Int, z32 = (pj_or y0 y1) → k84 z32 (x6 + 1) M
def w_X12_next_164 (r0 : Nat) (x1 : Int) (x2 : Int) (x3 : Int) (x4 : Int) (x5 : Int) (x6 : Int) (u0 : Nat) (y1 : Int) (y2 : Int) (k84 : Int → Int → pj_M → Prop) (Q : Int → pj_M → Prop) (M : pj_M) : Prop :=
  w_X12_isFit u0 y1 y2 M (fun (t29 : Int) (M28 : pj_M) => (pj_in t29) ∧ ((t29 = 0 → k84 x5 (x6 + 1) M28) ∧ (¬ t29 = 0 → (pj_in x6) ∧ ((8 ≤ x6 → w_X12_next_189 r0 x1 x2 x3 x4 x6 x5 256 k84 Q M28) ∧ (¬ 8 ≤ x6 → w_X12_next_189 r0 x1 x2 x3 x4 x6 x5 (pj_shl 1 x6) k84 Q M28)))))
def w_X12_next_142 (r0 : Nat) (x1 : Int) (x2 : Int) (x3 : Int) (x4 : Int) (x5 : Int) (x6 : Int) (u0 : Nat) (y1 : Int) (k84 : Int → Int → pj_M → Prop) (Q : Int → pj_M → Prop) (M : pj_M) : Prop :=
  (pj_in x6) ∧ ((8 ≤ x6 → w_X12_next_164 r0 x1 x2 x3 x4 x5 x6 u0 y1 ((M r0 14) + 2) k84 Q M) ∧ (¬ 8 ≤ x6 → w_X12_next_164 r0 x1 x2 x3 x4 x5 x6 u0 y1 ((M r0 14) + 1) k84 Q M))
def w_X12_next_128 (r0 : Nat) (x1 : Int) (x2 : Int) (x3 : Int) (x4 : Int) (x5 : Int) (x6 : Int) (k84 : Int → Int → pj_M → Prop) (Q : Int → pj_M → Prop) (M : pj_M) : Prop :=
  w_X12_layTables r0 M (fun (M24 : pj_M) => (pj_in x3) ∧ ((x3 = 0 → w_X12_next_142 r0 x1 x2 x3 x4 x5 x6 r0 1 k84 Q M24) ∧ (¬ x3 = 0 → w_X12_next_142 r0 x1 x2 x3 x4 x5 x6 r0 0 k84 Q M24)))
def w_X12_next_84b (r0 : Nat) (x1 : Int) (x2 : Int) (x3 : Int) (x4 : Int)  (Q : Int → pj_M → Prop) (k84 : Int → Int → pj_M → Prop) (x5 : Int) (x6 : Int) (M : pj_M) : Prop :=
  (pj_in x6) ∧ ((8 < x6 → w_X12_next_198 r0 x5  Q M) ∧ (¬ 8 < x6 → (pj_in x4) ∧ ((¬ x4 = 0 → w_X12_next_198 r0 x5  Q M) ∧ (x4 = 0 → w_X12_layPiece r0 x1 x2 0 M (fun (M21 : pj_M) => (pj_in x6) ∧ ((8 ≤ x6 → w_X12_next_128 r0 x1 x2 x3 x4 x5 x6 k84 Q M21) ∧ (¬ 8 ≤ x6 → ∀ M33 : pj_M, M33 = pj_up M21 r0 14 ((M21 r0 14) + 1) → ((0 : Int) ≤ (M21 r0 14) ∧ (M21 r0 14) < 16) ∧ ∀ M35 : pj_M, M35 = pj_up M33 (pj_rf r0 13) (M21 r0 14) x6 → w_X12_next_128 r0 x1 x2 x3 x4 x5 x6 k84 Q M35)))))))
def w_X12_next_84 (r0 : Nat) (x1 : Int) (x2 : Int) (x3 : Int) (x4 : Int)  (Q : Int → pj_M → Prop) (x5 : Int) (x6 : Int) (M : pj_M) : Prop := pj_lp (fun (k : Int × Int × pj_M → Prop) (s : Int × Int × pj_M) => w_X12_next_84b r0 x1 x2 x3 x4  Q (fun (x5 : Int) (x6 : Int) (M : pj_M) => k (x5, x6, M)) s.1 s.2.1 s.2.2) (x5, x6, M)
def w_X12_next_76 (r0 : Nat) (x1 : Int) (x2 : Int) (x3 : Int) (y0 : Int)  (Q : Int → pj_M → Prop) (M : pj_M) : Prop :=
  w_X12_next_84 r0 x1 x2 x3 y0  Q 0 0 M
def w_X12_next_75 (r0 : Nat) (x1 : Int) (x2 : Int) (x3 : Int)  (Q : Int → pj_M → Prop) (M : pj_M) : Prop :=
  w_X12_next_76 r0 x1 x2 x3 0  Q M
def w_X12_next_52 (r0 : Nat) (x1 : Int) (x2 : Int) (y0 : Int)  (Q : Int → pj_M → Prop) (M : pj_M) : Prop :=
  (pj_in x2) ∧ (pj_in ((M (pj_rf r0 0) 73) + 2)) ∧ ((¬ x2 = ((M (pj_rf r0 0) 73) + 2) → w_X12_next_75 r0 x1 x2 y0  Q M) ∧ (x2 = ((M (pj_rf r0 0) 73) + 2) → (pj_in x1) ∧ (pj_in x2) ∧ ((x2 ≤ x1 → w_X12_next_75 r0 x1 x2 y0  Q M) ∧ (¬ x2 ≤ x1 → w_X12_next_76 r0 x1 x2 y0 1  Q M))))
def w_X12_next_51 (r0 : Nat) (x1 : Int) (x2 : Int)  (Q : Int → pj_M → Prop) (M : pj_M) : Prop :=
  w_X12_next_52 r0 x1 x2 0  Q M
def w_X12_next (r0 : Nat) (x1 : Int) (x2 : Int) (M : pj_M) (Q : Int → pj_M → Prop) : Prop :=
  ∀ M1 : pj_M, M1 = pj_up M r0 5 0 → w_X12_isPiece r0 x1 x2 M1 (fun (t3 : Int) (M2 : pj_M) => (pj_in t3) ∧ ((¬ t3 = 0 → w_X12_layAll r0 (M2 (pj_rf r0 0) 73) M2 (fun (M5 : pj_M) => w_X12_isFit r0 x1 x2 M5 (fun (t8 : Int) (M7 : pj_M) => (pj_in t8) ∧ ((¬ t8 = 0 → (pj_in x1) ∧ ((¬ x1 = 0 → w_X12_next_51 r0 x1 x2  Q M7) ∧ (x1 = 0 → (pj_in x2) ∧ ((x2 ≤ 0 → w_X12_next_51 r0 x1 x2  Q M7) ∧ (¬ x2 ≤ 0 → w_X12_next_52 r0 x1 x2 1  Q M7))))) ∧ (t8 = 0 → Q (-2) M7))))) ∧ (t3 = 0 → Q (-1) M2)))
set_option maxRecDepth 20000 in
set_option maxHeartbeats 4000000 in
theorem s_X12_next_198 {l : Launch} {g : pj_G} (hg : pj_ph g = true) {r0 : Nat} {x5 : Int} {M : pj_M} {Q : Int → pj_M → Prop}  (o0 : pj_ob r0 12)  (h : w_X12_next_198 r0 x5  Q M) : pj_R l g mdX12_next pj_T (pj_Zm g mdX12_next (pj_qi Q)) pj_NK 0 0 198 [(0, .ref r0), (5, .int (pj_I x5))] [] M := by
  unfold w_X12_next_198 at h
  refine pj_aload_n 199 0 rfl rfl rfl rfl ?_
  refine pj_iconst 200 rfl rfl ?_
  refine pn_puti 203 12 4 4 o0  rfl pfX12_92 rfl rfl rfl (fun M14 hM14 => ?_)
  replace h := h M14 hM14
  refine pj_aload_n 204 0 rfl rfl rfl rfl ?_
  refine pj_iload 206 1 rfl rfl rfl ?_
  refine pn_callSi 209 [.int (pj_I x5)] [.ref r0] (s_Jbits hg  h) plX12_255 rfl rfl rfl rfl (Nat.le_of_ble_eq_true rfl) (by decide) (fun t16 M15 h => ?_)
  obtain ⟨q17, h⟩ := h
  refine pj_i2l 210 rfl rfl q17 ?_
  refine pn_callVv 213 12 [.long (pj_L t16)] [] o0 (s_X12_tell hg o0 h) plX12_260 rfl rfl rfl rfl (Nat.le_of_ble_eq_true rfl) (by decide) (fun M18 h => ?_)
  refine pj_iload 215 1 rfl rfl rfl ?_
  exact pn_iret h rfl rfl
set_option maxRecDepth 20000 in
set_option maxHeartbeats 4000000 in
theorem s_X12_next_189 {l : Launch} {g : pj_G} (hg : pj_ph g = true) {r0 : Nat} {x1 : Int} {x2 : Int} {x3 : Int} {x4 : Int} {x6 : Int} {y0 : Int} {y1 : Int} {M : pj_M} {Q : Int → pj_M → Prop} {k84 : Int → Int → pj_M → Prop} (o0 : pj_ob r0 12) (hk84 : ∀ (x5 : Int) (x6 : Int) (M : pj_M), k84 x5 x6 M → pj_R l g mdX12_next pj_T (pj_Zm g mdX12_next (pj_qi Q)) pj_NK 0 0 84 [(0, .ref r0), (1, .int (pj_I x1)), (2, .int (pj_I x2)), (3, .int (pj_I x3)), (4, .int (pj_I x4)), (5, .int (pj_I x5)), (6, .int (pj_I x6))] [] M) (h : w_X12_next_189 r0 x1 x2 x3 x4 x6 y0 y1 k84 Q M) : pj_R l g mdX12_next pj_T (pj_Zm g mdX12_next (pj_qi Q)) pj_NK 0 0 189 [(0, .ref r0), (1, .int (pj_I x1)), (2, .int (pj_I x2)), (3, .int (pj_I x3)), (4, .int (pj_I x4)), (6, .int (pj_I x6))] [.int (pj_I y1), .int (pj_I y0)] M := by
  unfold w_X12_next_189 at h
  refine pj_ior 190 rfl rfl ?_
  refine pn_nm (fun z32 hz32 => ?_)
  replace h := h z32 hz32
  refine pj_istore 192 (ls' := [(0, .ref r0), (1, .int (pj_I x1)), (2, .int (pj_I x2)), (3, .int (pj_I x3)), (4, .int (pj_I x4)), (5, .int (pj_I z32)), (6, .int (pj_I x6))]) rfl (by decide) rfl rfl ?_
  refine pj_iinc 195 6 (ls' := [(0, .ref r0), (1, .int (pj_I x1)), (2, .int (pj_I x2)), (3, .int (pj_I x3)), (4, .int (pj_I x4)), (5, .int (pj_I z32)), (6, .int (pj_I (x6 + 1)))]) rfl rfl (by decide) rfl rfl ?_
  refine pj_goto 84 rfl (by decide) ?_
  refine pn_sub [0, 1, 2, 3, 4, 5, 6] rfl ?_
  exact hk84 _ _ _ h
set_option maxRecDepth 20000 in
set_option maxHeartbeats 4000000 in
theorem s_X12_next_164 {l : Launch} {g : pj_G} (hg : pj_ph g = true) {r0 : Nat} {x1 : Int} {x2 : Int} {x3 : Int} {x4 : Int} {x5 : Int} {x6 : Int} {u0 : Nat} {y1 : Int} {y2 : Int} {M : pj_M} {Q : Int → pj_M → Prop} {k84 : Int → Int → pj_M → Prop} (o0 : pj_ob r0 12) (ou0 : pj_ob u0 12) (hk84 : ∀ (x5 : Int) (x6 : Int) (M : pj_M), k84 x5 x6 M → pj_R l g mdX12_next pj_T (pj_Zm g mdX12_next (pj_qi Q)) pj_NK 0 0 84 [(0, .ref r0), (1, .int (pj_I x1)), (2, .int (pj_I x2)), (3, .int (pj_I x3)), (4, .int (pj_I x4)), (5, .int (pj_I x5)), (6, .int (pj_I x6))] [] M) (h : w_X12_next_164 r0 x1 x2 x3 x4 x5 x6 u0 y1 y2 k84 Q M) : pj_R l g mdX12_next pj_T (pj_Zm g mdX12_next (pj_qi Q)) pj_NK 0 0 164 [(0, .ref r0), (1, .int (pj_I x1)), (2, .int (pj_I x2)), (3, .int (pj_I x3)), (4, .int (pj_I x4)), (5, .int (pj_I x5)), (6, .int (pj_I x6))] [.int (pj_I y2), .int (pj_I y1), .ref u0] M := by
  unfold w_X12_next_164 at h
  refine pn_callVi 167 12 [.int (pj_I y1), .int (pj_I y2)] [] ou0 (s_X12_isFit hg ou0 h) plX12_249 rfl rfl rfl rfl (Nat.le_of_ble_eq_true rfl) (by decide) (fun t29 M28 h => ?_)
  obtain ⟨q30, h⟩ := h
  refine pj_if_eq 192 170 rfl (by decide) rfl q30  (fun hc => ?_) (fun hc => ?_)
  · replace h := h.1 hc
    refine pj_iinc 195 6 (ls' := [(0, .ref r0), (1, .int (pj_I x1)), (2, .int (pj_I x2)), (3, .int (pj_I x3)), (4, .int (pj_I x4)), (5, .int (pj_I x5)), (6, .int (pj_I (x6 + 1)))]) rfl rfl (by decide) rfl rfl ?_
    refine pj_goto 84 rfl (by decide) ?_
    refine pn_sub [0, 1, 2, 3, 4, 5, 6] rfl ?_
    exact hk84 _ _ _ h
  · replace h := h.2 hc
    refine pj_iload 172 5 rfl rfl rfl ?_
    refine pj_iload 174 6 rfl rfl rfl ?_
    refine pj_bipush 176 rfl (by decide) rfl ?_
    obtain ⟨q31, h⟩ := h
    refine pj_icmp_ge 186 179 rfl (by decide) rfl q31 (show pj_in 8 by decide) (fun hc => ?_) (fun hc => ?_)
    · replace h := h.1 hc
      refine pj_sipush 189 rfl (by decide) rfl ?_
      refine pn_sub [0, 1, 2, 3, 4, 6] rfl ?_
      exact s_X12_next_189 hg o0  hk84 h
    · replace h := h.2 hc
      refine pj_iconst 180 rfl rfl ?_
      refine pj_iload 182 6 rfl rfl rfl ?_
      refine pj_ishl 183 rfl rfl ?_
      refine pj_goto 189 rfl (by decide) ?_
      refine pn_sub [0, 1, 2, 3, 4, 6] rfl ?_
      exact s_X12_next_189 hg o0  hk84 h
set_option maxRecDepth 20000 in
set_option maxHeartbeats 4000000 in
theorem s_X12_next_142 {l : Launch} {g : pj_G} (hg : pj_ph g = true) {r0 : Nat} {x1 : Int} {x2 : Int} {x3 : Int} {x4 : Int} {x5 : Int} {x6 : Int} {u0 : Nat} {y1 : Int} {M : pj_M} {Q : Int → pj_M → Prop} {k84 : Int → Int → pj_M → Prop} (o0 : pj_ob r0 12) (ou0 : pj_ob u0 12) (hk84 : ∀ (x5 : Int) (x6 : Int) (M : pj_M), k84 x5 x6 M → pj_R l g mdX12_next pj_T (pj_Zm g mdX12_next (pj_qi Q)) pj_NK 0 0 84 [(0, .ref r0), (1, .int (pj_I x1)), (2, .int (pj_I x2)), (3, .int (pj_I x3)), (4, .int (pj_I x4)), (5, .int (pj_I x5)), (6, .int (pj_I x6))] [] M) (h : w_X12_next_142 r0 x1 x2 x3 x4 x5 x6 u0 y1 k84 Q M) : pj_R l g mdX12_next pj_T (pj_Zm g mdX12_next (pj_qi Q)) pj_NK 0 0 142 [(0, .ref r0), (1, .int (pj_I x1)), (2, .int (pj_I x2)), (3, .int (pj_I x3)), (4, .int (pj_I x4)), (5, .int (pj_I x5)), (6, .int (pj_I x6))] [.int (pj_I y1), .ref u0] M := by
  unfold w_X12_next_142 at h
  refine pj_iload 144 6 rfl rfl rfl ?_
  refine pj_bipush 146 rfl (by decide) rfl ?_
  obtain ⟨q27, h⟩ := h
  refine pj_icmp_ge 158 149 rfl (by decide) rfl q27 (show pj_in 8 by decide) (fun hc => ?_) (fun hc => ?_)
  · replace h := h.1 hc
    refine pj_aload_n 159 0 rfl rfl rfl rfl ?_
    refine pn_geti 162 12 14 14 o0 rfl pfX12_214 (Or.inl rfl) rfl rfl ?_
    refine pj_iconst 163 rfl rfl ?_
    refine pj_iadd 164 rfl rfl ?_
    refine pn_sub [0, 1, 2, 3, 4, 5, 6] rfl ?_
    exact s_X12_next_164 hg o0 ou0 hk84 h
  · replace h := h.2 hc
    refine pj_aload_n 150 0 rfl rfl rfl rfl ?_
    refine pn_geti 153 12 14 14 o0 rfl pfX12_214 (Or.inl rfl) rfl rfl ?_
    refine pj_iconst 154 rfl rfl ?_
    refine pj_iadd 155 rfl rfl ?_
    refine pj_goto 164 rfl (by decide) ?_
    refine pn_sub [0, 1, 2, 3, 4, 5, 6] rfl ?_
    exact s_X12_next_164 hg o0 ou0 hk84 h
set_option maxRecDepth 20000 in
set_option maxHeartbeats 4000000 in
theorem s_X12_next_128 {l : Launch} {g : pj_G} (hg : pj_ph g = true) {r0 : Nat} {x1 : Int} {x2 : Int} {x3 : Int} {x4 : Int} {x5 : Int} {x6 : Int} {M : pj_M} {Q : Int → pj_M → Prop} {k84 : Int → Int → pj_M → Prop} (o0 : pj_ob r0 12) (hk84 : ∀ (x5 : Int) (x6 : Int) (M : pj_M), k84 x5 x6 M → pj_R l g mdX12_next pj_T (pj_Zm g mdX12_next (pj_qi Q)) pj_NK 0 0 84 [(0, .ref r0), (1, .int (pj_I x1)), (2, .int (pj_I x2)), (3, .int (pj_I x3)), (4, .int (pj_I x4)), (5, .int (pj_I x5)), (6, .int (pj_I x6))] [] M) (h : w_X12_next_128 r0 x1 x2 x3 x4 x5 x6 k84 Q M) : pj_R l g mdX12_next pj_T (pj_Zm g mdX12_next (pj_qi Q)) pj_NK 0 0 128 [(0, .ref r0), (1, .int (pj_I x1)), (2, .int (pj_I x2)), (3, .int (pj_I x3)), (4, .int (pj_I x4)), (5, .int (pj_I x5)), (6, .int (pj_I x6))] [] M := by
  unfold w_X12_next_128 at h
  refine pj_aload_n 129 0 rfl rfl rfl rfl ?_
  refine pn_callVv 132 12 [] [] o0 (s_X12_layTables hg o0 h) plX12_225 rfl rfl rfl rfl (Nat.le_of_ble_eq_true rfl) (by decide) (fun M24 h => ?_)
  refine pj_aload_n 133 0 rfl rfl rfl rfl ?_
  refine pj_iload_n 134 3 rfl rfl rfl rfl ?_
  obtain ⟨q26, h⟩ := h
  refine pj_if_eq 141 137 rfl (by decide) rfl q26  (fun hc => ?_) (fun hc => ?_)
  · replace h := h.1 hc
    refine pj_iconst 142 rfl rfl ?_
    refine pn_sub [0, 1, 2, 3, 4, 5, 6] rfl ?_
    exact s_X12_next_142 hg o0 o0 hk84 h
  · replace h := h.2 hc
    refine pj_iconst 138 rfl rfl ?_
    refine pj_goto 142 rfl (by decide) ?_
    refine pn_sub [0, 1, 2, 3, 4, 5, 6] rfl ?_
    exact s_X12_next_142 hg o0 o0 hk84 h
set_option maxRecDepth 20000 in
set_option maxHeartbeats 4000000 in
theorem s_X12_next_84b {l : Launch} {g : pj_G} (hg : pj_ph g = true) {r0 : Nat} {x1 : Int} {x2 : Int} {x3 : Int} {x4 : Int} {x5 : Int} {x6 : Int} {M : pj_M} {Q : Int → pj_M → Prop}  {k84 : Int → Int → pj_M → Prop} (o0 : pj_ob r0 12)  (hk84 : ∀ (x5 : Int) (x6 : Int) (M : pj_M), k84 x5 x6 M → pj_R l g mdX12_next pj_T (pj_Zm g mdX12_next (pj_qi Q)) pj_NK 0 0 84 [(0, .ref r0), (1, .int (pj_I x1)), (2, .int (pj_I x2)), (3, .int (pj_I x3)), (4, .int (pj_I x4)), (5, .int (pj_I x5)), (6, .int (pj_I x6))] [] M) (h : w_X12_next_84b r0 x1 x2 x3 x4  Q k84 x5 x6 M) : pj_R l g mdX12_next pj_T (pj_Zm g mdX12_next (pj_qi Q)) pj_NK 0 0 84 [(0, .ref r0), (1, .int (pj_I x1)), (2, .int (pj_I x2)), (3, .int (pj_I x3)), (4, .int (pj_I x4)), (5, .int (pj_I x5)), (6, .int (pj_I x6))] [] M := by
  unfold w_X12_next_84b at h
  refine pj_iload 86 6 rfl rfl rfl ?_
  refine pj_bipush 88 rfl (by decide) rfl ?_
  obtain ⟨q13, h⟩ := h
  refine pj_icmp_gt 198 91 rfl (by decide) rfl q13 (show pj_in 8 by decide) (fun hc => ?_) (fun hc => ?_)
  · replace h := h.1 hc
    refine pn_sub [0, 5] rfl ?_
    exact s_X12_next_198 hg o0   h
  · replace h := h.2 hc
    refine pj_iload 93 4 rfl rfl rfl ?_
    obtain ⟨q20, h⟩ := h
    refine pj_if_ne 198 96 rfl (by decide) rfl q20  (fun hc => ?_) (fun hc => ?_)
    · replace h := h.1 hc
      refine pn_sub [0, 5] rfl ?_
      exact s_X12_next_198 hg o0   h
    · replace h := h.2 (Classical.not_not.mp hc)
      refine pj_aload_n 97 0 rfl rfl rfl rfl ?_
      refine pj_iload_n 98 1 rfl rfl rfl rfl ?_
      refine pj_iload_n 99 2 rfl rfl rfl rfl ?_
      refine pj_iconst 100 rfl rfl ?_
      refine pn_callVv 103 12 [.int (pj_I x1), .int (pj_I x2), .int (pj_I 0)] [] o0 (s_X12_layPiece hg o0 h) plX12_252 rfl rfl rfl rfl (Nat.le_of_ble_eq_true rfl) (by decide) (fun M21 h => ?_)
      refine pj_iload 105 6 rfl rfl rfl ?_
      refine pj_bipush 107 rfl (by decide) rfl ?_
      obtain ⟨q23, h⟩ := h
      refine pj_icmp_ge 128 110 rfl (by decide) rfl q23 (show pj_in 8 by decide) (fun hc => ?_) (fun hc => ?_)
      · replace h := h.1 hc
        refine pn_sub [0, 1, 2, 3, 4, 5, 6] rfl ?_
        exact s_X12_next_128 hg o0  hk84 h
      · replace h := h.2 hc
        refine pj_aload_n 111 0 rfl rfl rfl rfl ?_
        refine pn_getr 114 12 13 hg o0 (pr_12_13 o0).2 rfl pfX12_30 rfl rfl ?_
        refine pj_aload_n 115 0 rfl rfl rfl rfl ?_
        refine pj_dup 116 rfl rfl rfl ?_
        refine pn_geti 119 12 14 14 o0 rfl pfX12_214 (Or.inl rfl) rfl rfl ?_
        refine pj_dup_x1 120 rfl rfl rfl rfl ?_
        refine pj_iconst 121 rfl rfl ?_
        refine pj_iadd 122 rfl rfl ?_
        refine pn_puti 125 12 14 14 o0  rfl pfX12_214 rfl rfl rfl (fun M33 hM33 => ?_)
        replace h := h M33 hM33
        refine pj_iload 127 6 rfl rfl rfl ?_
        obtain ⟨q34, h⟩ := h
        refine pn_iast 128 16 (pr_12_13 o0)  q34 rfl rfl (fun M35 hM35 => ?_)
        replace h := h M35 hM35
        refine pn_sub [0, 1, 2, 3, 4, 5, 6] rfl ?_
        exact s_X12_next_128 hg o0  hk84 h
set_option maxRecDepth 20000 in
set_option maxHeartbeats 4000000 in
theorem s_X12_next_84 {l : Launch} {g : pj_G} (hg : pj_ph g = true) {r0 : Nat} {x1 : Int} {x2 : Int} {x3 : Int} {x4 : Int} {x5 : Int} {x6 : Int} {M : pj_M} {Q : Int → pj_M → Prop}  (o0 : pj_ob r0 12)  (h : w_X12_next_84 r0 x1 x2 x3 x4  Q x5 x6 M) : pj_R l g mdX12_next pj_T (pj_Zm g mdX12_next (pj_qi Q)) pj_NK 0 0 84 [(0, .ref r0), (1, .int (pj_I x1)), (2, .int (pj_I x2)), (3, .int (pj_I x3)), (4, .int (pj_I x4)), (5, .int (pj_I x5)), (6, .int (pj_I x6))] [] M :=
  h (fun s => pj_R l g mdX12_next pj_T (pj_Zm g mdX12_next (pj_qi Q)) pj_NK 0 0 84 [(0, .ref r0), (1, .int (pj_I x1)), (2, .int (pj_I x2)), (3, .int (pj_I x3)), (4, .int (pj_I x4)), (5, .int (pj_I (s.1))), (6, .int (pj_I (s.2.1)))] [] s.2.2) (fun s hs => s_X12_next_84b hg o0  (fun _ _ _ q => q) hs)
set_option maxRecDepth 20000 in
set_option maxHeartbeats 4000000 in
theorem s_X12_next_76 {l : Launch} {g : pj_G} (hg : pj_ph g = true) {r0 : Nat} {x1 : Int} {x2 : Int} {x3 : Int} {y0 : Int} {M : pj_M} {Q : Int → pj_M → Prop}  (o0 : pj_ob r0 12)  (h : w_X12_next_76 r0 x1 x2 x3 y0  Q M) : pj_R l g mdX12_next pj_T (pj_Zm g mdX12_next (pj_qi Q)) pj_NK 0 0 76 [(0, .ref r0), (1, .int (pj_I x1)), (2, .int (pj_I x2)), (3, .int (pj_I x3))] [.int (pj_I y0)] M := by
  unfold w_X12_next_76 at h
  refine pj_istore 78 (ls' := [(0, .ref r0), (1, .int (pj_I x1)), (2, .int (pj_I x2)), (3, .int (pj_I x3)), (4, .int (pj_I y0))]) rfl (by decide) rfl rfl ?_
  refine pj_iconst 79 rfl rfl ?_
  refine pj_istore 81 (ls' := [(0, .ref r0), (1, .int (pj_I x1)), (2, .int (pj_I x2)), (3, .int (pj_I x3)), (4, .int (pj_I y0)), (5, .int (pj_I 0))]) rfl (by decide) rfl rfl ?_
  refine pj_iconst 82 rfl rfl ?_
  refine pj_istore 84 (ls' := [(0, .ref r0), (1, .int (pj_I x1)), (2, .int (pj_I x2)), (3, .int (pj_I x3)), (4, .int (pj_I y0)), (5, .int (pj_I 0)), (6, .int (pj_I 0))]) rfl (by decide) rfl rfl ?_
  refine pn_sub [0, 1, 2, 3, 4, 5, 6] rfl ?_
  exact s_X12_next_84 hg o0   h
set_option maxRecDepth 20000 in
set_option maxHeartbeats 4000000 in
theorem s_X12_next_75 {l : Launch} {g : pj_G} (hg : pj_ph g = true) {r0 : Nat} {x1 : Int} {x2 : Int} {x3 : Int} {M : pj_M} {Q : Int → pj_M → Prop}  (o0 : pj_ob r0 12)  (h : w_X12_next_75 r0 x1 x2 x3  Q M) : pj_R l g mdX12_next pj_T (pj_Zm g mdX12_next (pj_qi Q)) pj_NK 0 0 75 [(0, .ref r0), (1, .int (pj_I x1)), (2, .int (pj_I x2)), (3, .int (pj_I x3))] [] M := by
  unfold w_X12_next_75 at h
  refine pj_iconst 76 rfl rfl ?_
  refine pn_sub [0, 1, 2, 3] rfl ?_
  exact s_X12_next_76 hg o0   h
set_option maxRecDepth 20000 in
set_option maxHeartbeats 4000000 in
theorem s_X12_next_52 {l : Launch} {g : pj_G} (hg : pj_ph g = true) {r0 : Nat} {x1 : Int} {x2 : Int} {y0 : Int} {M : pj_M} {Q : Int → pj_M → Prop}  (o0 : pj_ob r0 12)  (h : w_X12_next_52 r0 x1 x2 y0  Q M) : pj_R l g mdX12_next pj_T (pj_Zm g mdX12_next (pj_qi Q)) pj_NK 0 0 52 [(0, .ref r0), (1, .int (pj_I x1)), (2, .int (pj_I x2))] [.int (pj_I y0)] M := by
  unfold w_X12_next_52 at h
  refine pj_istore_n 53 (ls' := [(0, .ref r0), (1, .int (pj_I x1)), (2, .int (pj_I x2)), (3, .int (pj_I y0))]) rfl rfl (by decide) rfl rfl ?_
  refine pj_iload_n 54 2 rfl rfl rfl rfl ?_
  refine pj_aload_n 55 0 rfl rfl rfl rfl ?_
  refine pn_getr 58 12 0 hg o0 (pr_12_0 o0).2 rfl pfX12_9 rfl rfl ?_
  refine pj_bipush 60 rfl (by decide) rfl ?_
  refine pn_iald 61 95 (pr_12_0 o0) (show 0 ≤ (73 : Int) ∧ (73 : Int) < ((95 : Nat) : Int) by decide) rfl rfl ?_
  refine pj_iconst 62 rfl rfl ?_
  refine pj_iadd 63 rfl rfl ?_
  obtain ⟨q11, h⟩ := h
  obtain ⟨q12, h⟩ := h
  refine pj_icmp_ne 75 66 rfl (by decide) rfl q11 q12 (fun hc => ?_) (fun hc => ?_)
  · replace h := h.1 hc
    refine pn_sub [0, 1, 2, 3] rfl ?_
    exact s_X12_next_75 hg o0   h
  · replace h := h.2 (Classical.not_not.mp hc)
    refine pj_iload_n 67 1 rfl rfl rfl rfl ?_
    refine pj_iload_n 68 2 rfl rfl rfl rfl ?_
    obtain ⟨q36, h⟩ := h
    obtain ⟨q37, h⟩ := h
    refine pj_icmp_ge 75 71 rfl (by decide) rfl q36 q37 (fun hc => ?_) (fun hc => ?_)
    · replace h := h.1 hc
      refine pn_sub [0, 1, 2, 3] rfl ?_
      exact s_X12_next_75 hg o0   h
    · replace h := h.2 hc
      refine pj_iconst 72 rfl rfl ?_
      refine pj_goto 76 rfl (by decide) ?_
      refine pn_sub [0, 1, 2, 3] rfl ?_
      exact s_X12_next_76 hg o0   h
set_option maxRecDepth 20000 in
set_option maxHeartbeats 4000000 in
theorem s_X12_next_51 {l : Launch} {g : pj_G} (hg : pj_ph g = true) {r0 : Nat} {x1 : Int} {x2 : Int} {M : pj_M} {Q : Int → pj_M → Prop}  (o0 : pj_ob r0 12)  (h : w_X12_next_51 r0 x1 x2  Q M) : pj_R l g mdX12_next pj_T (pj_Zm g mdX12_next (pj_qi Q)) pj_NK 0 0 51 [(0, .ref r0), (1, .int (pj_I x1)), (2, .int (pj_I x2))] [] M := by
  unfold w_X12_next_51 at h
  refine pj_iconst 52 rfl rfl ?_
  refine pn_sub [0, 1, 2] rfl ?_
  exact s_X12_next_52 hg o0   h
set_option maxRecDepth 20000 in
set_option maxHeartbeats 4000000 in
theorem s_X12_next {l : Launch} {g : pj_G} (hg : pj_ph g = true) {r0 : Nat} {x1 : Int} {x2 : Int} {M : pj_M} {Q : Int → pj_M → Prop} (o0 : pj_ob r0 12) (h : w_X12_next r0 x1 x2 M Q) : pj_S l g mdX12_next [.ref r0, .int (pj_I x1), .int (pj_I x2)] pj_NK M (pj_qi Q) := by
  refine pj_ofR (ls := [(0, .ref r0), (1, .int (pj_I x1)), (2, .int (pj_I x2))]) gcX12_next (by decide) rfl (Nat.le_of_ble_eq_true rfl) rfl ?_
  unfold w_X12_next at h
  refine pj_aload_n 1 0 rfl rfl rfl rfl ?_
  refine pj_iconst 2 rfl rfl ?_
  refine pn_puti 5 12 5 5 o0  rfl pfX12_88 rfl rfl rfl (fun M1 hM1 => ?_)
  replace h := h M1 hM1
  refine pj_aload_n 6 0 rfl rfl rfl rfl ?_
  refine pj_iload_n 7 1 rfl rfl rfl rfl ?_
  refine pj_iload_n 8 2 rfl rfl rfl rfl ?_
  refine pn_callVi 11 12 [.int (pj_I x1), .int (pj_I x2)] [] o0 (s_X12_isPiece hg o0 h) plX12_243 rfl rfl rfl rfl (Nat.le_of_ble_eq_true rfl) (by decide) (fun t3 M2 h => ?_)
  obtain ⟨q4, h⟩ := h
  refine pj_if_ne 16 14 rfl (by decide) rfl q4  (fun hc => ?_) (fun hc => ?_)
  · replace h := h.1 hc
    refine pj_aload_n 17 0 rfl rfl rfl rfl ?_
    refine pj_aload_n 18 0 rfl rfl rfl rfl ?_
    refine pn_getr 21 12 0 hg o0 (pr_12_0 o0).2 rfl pfX12_9 rfl rfl ?_
    refine pj_bipush 23 rfl (by decide) rfl ?_
    refine pn_iald 24 95 (pr_12_0 o0) (show 0 ≤ (73 : Int) ∧ (73 : Int) < ((95 : Nat) : Int) by decide) rfl rfl ?_
    refine pn_callVv 27 12 [.int (pj_I (M2 (pj_rf r0 0) 73))] [] o0 (s_X12_layAll hg o0 h) plX12_246 rfl rfl rfl rfl (Nat.le_of_ble_eq_true rfl) (by decide) (fun M5 h => ?_)
    refine pj_aload_n 28 0 rfl rfl rfl rfl ?_
    refine pj_iload_n 29 1 rfl rfl rfl rfl ?_
    refine pj_iload_n 30 2 rfl rfl rfl rfl ?_
    refine pn_callVi 33 12 [.int (pj_I x1), .int (pj_I x2)] [] o0 (s_X12_isFit hg o0 h) plX12_249 rfl rfl rfl rfl (Nat.le_of_ble_eq_true rfl) (by decide) (fun t8 M7 h => ?_)
    obtain ⟨q9, h⟩ := h
    refine pj_if_ne 39 36 rfl (by decide) rfl q9  (fun hc => ?_) (fun hc => ?_)
    · replace h := h.1 hc
      refine pj_iload_n 40 1 rfl rfl rfl rfl ?_
      obtain ⟨q10, h⟩ := h
      refine pj_if_ne 51 43 rfl (by decide) rfl q10  (fun hc => ?_) (fun hc => ?_)
      · replace h := h.1 hc
        refine pn_sub [0, 1, 2] rfl ?_
        exact s_X12_next_51 hg o0   h
      · replace h := h.2 (Classical.not_not.mp hc)
        refine pj_iload_n 44 2 rfl rfl rfl rfl ?_
        obtain ⟨q38, h⟩ := h
        refine pj_if_le 51 47 rfl (by decide) rfl q38  (fun hc => ?_) (fun hc => ?_)
        · replace h := h.1 hc
          refine pn_sub [0, 1, 2] rfl ?_
          exact s_X12_next_51 hg o0   h
        · replace h := h.2 hc
          refine pj_iconst 48 rfl rfl ?_
          refine pj_goto 52 rfl (by decide) ?_
          refine pn_sub [0, 1, 2] rfl ?_
          exact s_X12_next_52 hg o0   h
    · replace h := h.2 (Classical.not_not.mp hc)
      refine pj_bipush 38 rfl (by decide) rfl ?_
      exact pn_iret h rfl rfl
  · replace h := h.2 (Classical.not_not.mp hc)
    refine pj_iconst 15 rfl rfl ?_
    exact pn_iret h rfl rfl
def w_X12_ahead_199 (r0 : Nat) (x5 : Int)  (Q : Int → pj_M → Prop) (M : pj_M) : Prop :=
  ∀ M14 : pj_M, M14 = pj_up M r0 4 0 → w_Jbits x5 M14 (fun (t16 : Int) (M15 : pj_M) => (pj_in t16) ∧ w_X12_tell r0 t16 M15 (fun (M18 : pj_M) => Q x5 M18))
def w_X12_ahead_190 (r0 : Nat) (x1 : Int) (x2 : Int) (x3 : Int) (x4 : Int) (x6 : Int) (y0 : Int) (y1 : Int) (k84 : Int → Int → pj_M → Prop) (Q : Int → pj_M → Prop) (M : pj_M) : Prop :=
  ∀ z33 : Int, z33 = (pj_or y0 y1) → k84 z33 (x6 + 1) M
def w_X12_ahead_165 (r0 : Nat) (x1 : Int) (x2 : Int) (x3 : Int) (x4 : Int) (x5 : Int) (x6 : Int) (u0 : Nat) (y1 : Int) (y2 : Int) (k84 : Int → Int → pj_M → Prop) (Q : Int → pj_M → Prop) (M : pj_M) : Prop :=
  w_X12_isFit u0 y1 y2 M (fun (t30 : Int) (M29 : pj_M) => (pj_in t30) ∧ ((t30 = 0 → k84 x5 (x6 + 1) M29) ∧ (¬ t30 = 0 → (pj_in x6) ∧ ((8 ≤ x6 → w_X12_ahead_190 r0 x1 x2 x3 x4 x6 x5 256 k84 Q M29) ∧ (¬ 8 ≤ x6 → w_X12_ahead_190 r0 x1 x2 x3 x4 x6 x5 (pj_shl 1 x6) k84 Q M29)))))
def w_X12_ahead_145 (r0 : Nat) (x1 : Int) (x2 : Int) (x3 : Int) (x4 : Int) (x5 : Int) (x6 : Int) (u0 : Nat) (y1 : Int) (k84 : Int → Int → pj_M → Prop) (Q : Int → pj_M → Prop) (M : pj_M) : Prop :=
  (pj_in x4) ∧ ((x4 = 0 → w_X12_ahead_165 r0 x1 x2 x3 x4 x5 x6 u0 y1 ((M r0 14) + 1) k84 Q M) ∧ (¬ x4 = 0 → w_X12_ahead_165 r0 x1 x2 x3 x4 x5 x6 u0 y1 ((M r0 14) + 2) k84 Q M))
def w_X12_ahead_128 (r0 : Nat) (x1 : Int) (x2 : Int) (x3 : Int) (x4 : Int) (x5 : Int) (x6 : Int) (k84 : Int → Int → pj_M → Prop) (Q : Int → pj_M → Prop) (M : pj_M) : Prop :=
  w_X12_layTables r0 M (fun (M25 : pj_M) => (pj_in x6) ∧ ((8 ≤ x6 → w_X12_ahead_145 r0 x1 x2 x3 x4 x5 x6 r0 0 k84 Q M25) ∧ (¬ 8 ≤ x6 → w_X12_ahead_145 r0 x1 x2 x3 x4 x5 x6 r0 1 k84 Q M25)))
def w_X12_ahead_110 (r0 : Nat) (x1 : Int) (x2 : Int) (x3 : Int) (x4 : Int) (x5 : Int) (x6 : Int) (u0 : Nat) (y1 : Int) (y2 : Int) (y3 : Int) (k84 : Int → Int → pj_M → Prop) (Q : Int → pj_M → Prop) (M : pj_M) : Prop :=
  w_X12_layPiece u0 y1 y2 y3 M (fun (M22 : pj_M) => (pj_in x6) ∧ ((8 ≤ x6 → w_X12_ahead_128 r0 x1 x2 x3 x4 x5 x6 k84 Q M22) ∧ (¬ 8 ≤ x6 → ∀ M34 : pj_M, M34 = pj_up M22 (pj_rf r0 13) 0 x6 → w_X12_ahead_128 r0 x1 x2 x3 x4 x5 x6 k84 Q M34)))
def w_X12_ahead_84b (r0 : Nat) (x1 : Int) (x2 : Int) (x3 : Int) (x4 : Int)  (Q : Int → pj_M → Prop) (k84 : Int → Int → pj_M → Prop) (x5 : Int) (x6 : Int) (M : pj_M) : Prop :=
  (pj_in x6) ∧ ((8 < x6 → w_X12_ahead_199 r0 x5  Q M) ∧ (¬ 8 < x6 → (pj_in x3) ∧ ((¬ x3 = 0 → w_X12_ahead_199 r0 x5  Q M) ∧ (x3 = 0 → (pj_in x6) ∧ ((8 ≤ x6 → w_X12_ahead_110 r0 x1 x2 x3 x4 x5 x6 r0 x1 x2 0 k84 Q M) ∧ (¬ 8 ≤ x6 → w_X12_ahead_110 r0 x1 x2 x3 x4 x5 x6 r0 x1 x2 1 k84 Q M))))))
def w_X12_ahead_84 (r0 : Nat) (x1 : Int) (x2 : Int) (x3 : Int) (x4 : Int)  (Q : Int → pj_M → Prop) (x5 : Int) (x6 : Int) (M : pj_M) : Prop := pj_lp (fun (k : Int × Int × pj_M → Prop) (s : Int × Int × pj_M) => w_X12_ahead_84b r0 x1 x2 x3 x4  Q (fun (x5 : Int) (x6 : Int) (M : pj_M) => k (x5, x6, M)) s.1 s.2.1 s.2.2) (x5, x6, M)
def w_X12_ahead_76 (r0 : Nat) (x1 : Int) (x2 : Int) (x3 : Int) (y0 : Int)  (Q : Int → pj_M → Prop) (M : pj_M) : Prop :=
  w_X12_ahead_84 r0 x1 x2 x3 y0  Q 0 0 M
def w_X12_ahead_75 (r0 : Nat) (x1 : Int) (x2 : Int) (x3 : Int)  (Q : Int → pj_M → Prop) (M : pj_M) : Prop :=
  w_X12_ahead_76 r0 x1 x2 x3 0  Q M
def w_X12_ahead_52 (r0 : Nat) (x1 : Int) (x2 : Int) (y0 : Int)  (Q : Int → pj_M → Prop) (M : pj_M) : Prop :=
  (pj_in x2) ∧ (pj_in ((M (pj_rf r0 0) 73) + 2)) ∧ ((¬ x2 = ((M (pj_rf r0 0) 73) + 2) → w_X12_ahead_75 r0 x1 x2 y0  Q M) ∧ (x2 = ((M (pj_rf r0 0) 73) + 2) → (pj_in x1) ∧ (pj_in x2) ∧ ((x2 ≤ x1 → w_X12_ahead_75 r0 x1 x2 y0  Q M) ∧ (¬ x2 ≤ x1 → w_X12_ahead_76 r0 x1 x2 y0 1  Q M))))
def w_X12_ahead_51 (r0 : Nat) (x1 : Int) (x2 : Int)  (Q : Int → pj_M → Prop) (M : pj_M) : Prop :=
  w_X12_ahead_52 r0 x1 x2 0  Q M
def w_X12_ahead (r0 : Nat) (x1 : Int) (x2 : Int) (M : pj_M) (Q : Int → pj_M → Prop) : Prop :=
  ∀ M1 : pj_M, M1 = pj_up M r0 5 0 → w_X12_isPiece r0 x1 x2 M1 (fun (t3 : Int) (M2 : pj_M) => (pj_in t3) ∧ ((¬ t3 = 0 → w_X12_layAll r0 (M2 (pj_rf r0 0) 73) M2 (fun (M5 : pj_M) => w_X12_isFit r0 x1 x2 M5 (fun (t8 : Int) (M7 : pj_M) => (pj_in t8) ∧ ((¬ t8 = 0 → (pj_in x1) ∧ ((¬ x1 = 0 → w_X12_ahead_51 r0 x1 x2  Q M7) ∧ (x1 = 0 → (pj_in x2) ∧ ((x2 ≤ 0 → w_X12_ahead_51 r0 x1 x2  Q M7) ∧ (¬ x2 ≤ 0 → w_X12_ahead_52 r0 x1 x2 1  Q M7))))) ∧ (t8 = 0 → Q (-2) M7))))) ∧ (t3 = 0 → Q (-1) M2)))
set_option maxRecDepth 20000 in
set_option maxHeartbeats 4000000 in
theorem s_X12_ahead_199 {l : Launch} {g : pj_G} (hg : pj_ph g = true) {r0 : Nat} {x5 : Int} {M : pj_M} {Q : Int → pj_M → Prop}  (o0 : pj_ob r0 12)  (h : w_X12_ahead_199 r0 x5  Q M) : pj_R l g mdX12_ahead pj_T (pj_Zm g mdX12_ahead (pj_qi Q)) pj_NK 0 0 199 [(0, .ref r0), (5, .int (pj_I x5))] [] M := by
  unfold w_X12_ahead_199 at h
  refine pj_aload_n 200 0 rfl rfl rfl rfl ?_
  refine pj_iconst 201 rfl rfl ?_
  refine pn_puti 204 12 4 4 o0  rfl pfX12_92 rfl rfl rfl (fun M14 hM14 => ?_)
  replace h := h M14 hM14
  refine pj_aload_n 205 0 rfl rfl rfl rfl ?_
  refine pj_iload 207 1 rfl rfl rfl ?_
  refine pn_callSi 210 [.int (pj_I x5)] [.ref r0] (s_Jbits hg  h) plX12_255 rfl rfl rfl rfl (Nat.le_of_ble_eq_true rfl) (by decide) (fun t16 M15 h => ?_)
  obtain ⟨q17, h⟩ := h
  refine pj_i2l 211 rfl rfl q17 ?_
  refine pn_callVv 214 12 [.long (pj_L t16)] [] o0 (s_X12_tell hg o0 h) plX12_260 rfl rfl rfl rfl (Nat.le_of_ble_eq_true rfl) (by decide) (fun M18 h => ?_)
  refine pj_iload 216 1 rfl rfl rfl ?_
  exact pn_iret h rfl rfl
set_option maxRecDepth 20000 in
set_option maxHeartbeats 4000000 in
theorem s_X12_ahead_190 {l : Launch} {g : pj_G} (hg : pj_ph g = true) {r0 : Nat} {x1 : Int} {x2 : Int} {x3 : Int} {x4 : Int} {x6 : Int} {y0 : Int} {y1 : Int} {M : pj_M} {Q : Int → pj_M → Prop} {k84 : Int → Int → pj_M → Prop} (o0 : pj_ob r0 12) (hk84 : ∀ (x5 : Int) (x6 : Int) (M : pj_M), k84 x5 x6 M → pj_R l g mdX12_ahead pj_T (pj_Zm g mdX12_ahead (pj_qi Q)) pj_NK 0 0 84 [(0, .ref r0), (1, .int (pj_I x1)), (2, .int (pj_I x2)), (3, .int (pj_I x3)), (4, .int (pj_I x4)), (5, .int (pj_I x5)), (6, .int (pj_I x6))] [] M) (h : w_X12_ahead_190 r0 x1 x2 x3 x4 x6 y0 y1 k84 Q M) : pj_R l g mdX12_ahead pj_T (pj_Zm g mdX12_ahead (pj_qi Q)) pj_NK 0 0 190 [(0, .ref r0), (1, .int (pj_I x1)), (2, .int (pj_I x2)), (3, .int (pj_I x3)), (4, .int (pj_I x4)), (6, .int (pj_I x6))] [.int (pj_I y1), .int (pj_I y0)] M := by
  unfold w_X12_ahead_190 at h
  refine pj_ior 191 rfl rfl ?_
  refine pn_nm (fun z33 hz33 => ?_)
  replace h := h z33 hz33
  refine pj_istore 193 (ls' := [(0, .ref r0), (1, .int (pj_I x1)), (2, .int (pj_I x2)), (3, .int (pj_I x3)), (4, .int (pj_I x4)), (5, .int (pj_I z33)), (6, .int (pj_I x6))]) rfl (by decide) rfl rfl ?_
  refine pj_iinc 196 6 (ls' := [(0, .ref r0), (1, .int (pj_I x1)), (2, .int (pj_I x2)), (3, .int (pj_I x3)), (4, .int (pj_I x4)), (5, .int (pj_I z33)), (6, .int (pj_I (x6 + 1)))]) rfl rfl (by decide) rfl rfl ?_
  refine pj_goto 84 rfl (by decide) ?_
  refine pn_sub [0, 1, 2, 3, 4, 5, 6] rfl ?_
  exact hk84 _ _ _ h
set_option maxRecDepth 20000 in
set_option maxHeartbeats 4000000 in
theorem s_X12_ahead_165 {l : Launch} {g : pj_G} (hg : pj_ph g = true) {r0 : Nat} {x1 : Int} {x2 : Int} {x3 : Int} {x4 : Int} {x5 : Int} {x6 : Int} {u0 : Nat} {y1 : Int} {y2 : Int} {M : pj_M} {Q : Int → pj_M → Prop} {k84 : Int → Int → pj_M → Prop} (o0 : pj_ob r0 12) (ou0 : pj_ob u0 12) (hk84 : ∀ (x5 : Int) (x6 : Int) (M : pj_M), k84 x5 x6 M → pj_R l g mdX12_ahead pj_T (pj_Zm g mdX12_ahead (pj_qi Q)) pj_NK 0 0 84 [(0, .ref r0), (1, .int (pj_I x1)), (2, .int (pj_I x2)), (3, .int (pj_I x3)), (4, .int (pj_I x4)), (5, .int (pj_I x5)), (6, .int (pj_I x6))] [] M) (h : w_X12_ahead_165 r0 x1 x2 x3 x4 x5 x6 u0 y1 y2 k84 Q M) : pj_R l g mdX12_ahead pj_T (pj_Zm g mdX12_ahead (pj_qi Q)) pj_NK 0 0 165 [(0, .ref r0), (1, .int (pj_I x1)), (2, .int (pj_I x2)), (3, .int (pj_I x3)), (4, .int (pj_I x4)), (5, .int (pj_I x5)), (6, .int (pj_I x6))] [.int (pj_I y2), .int (pj_I y1), .ref u0] M := by
  unfold w_X12_ahead_165 at h
  refine pn_callVi 168 12 [.int (pj_I y1), .int (pj_I y2)] [] ou0 (s_X12_isFit hg ou0 h) plX12_249 rfl rfl rfl rfl (Nat.le_of_ble_eq_true rfl) (by decide) (fun t30 M29 h => ?_)
  obtain ⟨q31, h⟩ := h
  refine pj_if_eq 193 171 rfl (by decide) rfl q31  (fun hc => ?_) (fun hc => ?_)
  · replace h := h.1 hc
    refine pj_iinc 196 6 (ls' := [(0, .ref r0), (1, .int (pj_I x1)), (2, .int (pj_I x2)), (3, .int (pj_I x3)), (4, .int (pj_I x4)), (5, .int (pj_I x5)), (6, .int (pj_I (x6 + 1)))]) rfl rfl (by decide) rfl rfl ?_
    refine pj_goto 84 rfl (by decide) ?_
    refine pn_sub [0, 1, 2, 3, 4, 5, 6] rfl ?_
    exact hk84 _ _ _ h
  · replace h := h.2 hc
    refine pj_iload 173 5 rfl rfl rfl ?_
    refine pj_iload 175 6 rfl rfl rfl ?_
    refine pj_bipush 177 rfl (by decide) rfl ?_
    obtain ⟨q32, h⟩ := h
    refine pj_icmp_ge 187 180 rfl (by decide) rfl q32 (show pj_in 8 by decide) (fun hc => ?_) (fun hc => ?_)
    · replace h := h.1 hc
      refine pj_sipush 190 rfl (by decide) rfl ?_
      refine pn_sub [0, 1, 2, 3, 4, 6] rfl ?_
      exact s_X12_ahead_190 hg o0  hk84 h
    · replace h := h.2 hc
      refine pj_iconst 181 rfl rfl ?_
      refine pj_iload 183 6 rfl rfl rfl ?_
      refine pj_ishl 184 rfl rfl ?_
      refine pj_goto 190 rfl (by decide) ?_
      refine pn_sub [0, 1, 2, 3, 4, 6] rfl ?_
      exact s_X12_ahead_190 hg o0  hk84 h
set_option maxRecDepth 20000 in
set_option maxHeartbeats 4000000 in
theorem s_X12_ahead_145 {l : Launch} {g : pj_G} (hg : pj_ph g = true) {r0 : Nat} {x1 : Int} {x2 : Int} {x3 : Int} {x4 : Int} {x5 : Int} {x6 : Int} {u0 : Nat} {y1 : Int} {M : pj_M} {Q : Int → pj_M → Prop} {k84 : Int → Int → pj_M → Prop} (o0 : pj_ob r0 12) (ou0 : pj_ob u0 12) (hk84 : ∀ (x5 : Int) (x6 : Int) (M : pj_M), k84 x5 x6 M → pj_R l g mdX12_ahead pj_T (pj_Zm g mdX12_ahead (pj_qi Q)) pj_NK 0 0 84 [(0, .ref r0), (1, .int (pj_I x1)), (2, .int (pj_I x2)), (3, .int (pj_I x3)), (4, .int (pj_I x4)), (5, .int (pj_I x5)), (6, .int (pj_I x6))] [] M) (h : w_X12_ahead_145 r0 x1 x2 x3 x4 x5 x6 u0 y1 k84 Q M) : pj_R l g mdX12_ahead pj_T (pj_Zm g mdX12_ahead (pj_qi Q)) pj_NK 0 0 145 [(0, .ref r0), (1, .int (pj_I x1)), (2, .int (pj_I x2)), (3, .int (pj_I x3)), (4, .int (pj_I x4)), (5, .int (pj_I x5)), (6, .int (pj_I x6))] [.int (pj_I y1), .ref u0] M := by
  unfold w_X12_ahead_145 at h
  refine pj_iload 147 4 rfl rfl rfl ?_
  obtain ⟨q28, h⟩ := h
  refine pj_if_eq 159 150 rfl (by decide) rfl q28  (fun hc => ?_) (fun hc => ?_)
  · replace h := h.1 hc
    refine pj_aload_n 160 0 rfl rfl rfl rfl ?_
    refine pn_geti 163 12 14 14 o0 rfl pfX12_214 (Or.inl rfl) rfl rfl ?_
    refine pj_iconst 164 rfl rfl ?_
    refine pj_iadd 165 rfl rfl ?_
    refine pn_sub [0, 1, 2, 3, 4, 5, 6] rfl ?_
    exact s_X12_ahead_165 hg o0 ou0 hk84 h
  · replace h := h.2 hc
    refine pj_aload_n 151 0 rfl rfl rfl rfl ?_
    refine pn_geti 154 12 14 14 o0 rfl pfX12_214 (Or.inl rfl) rfl rfl ?_
    refine pj_iconst 155 rfl rfl ?_
    refine pj_iadd 156 rfl rfl ?_
    refine pj_goto 165 rfl (by decide) ?_
    refine pn_sub [0, 1, 2, 3, 4, 5, 6] rfl ?_
    exact s_X12_ahead_165 hg o0 ou0 hk84 h
set_option maxRecDepth 20000 in
set_option maxHeartbeats 4000000 in
theorem s_X12_ahead_128 {l : Launch} {g : pj_G} (hg : pj_ph g = true) {r0 : Nat} {x1 : Int} {x2 : Int} {x3 : Int} {x4 : Int} {x5 : Int} {x6 : Int} {M : pj_M} {Q : Int → pj_M → Prop} {k84 : Int → Int → pj_M → Prop} (o0 : pj_ob r0 12) (hk84 : ∀ (x5 : Int) (x6 : Int) (M : pj_M), k84 x5 x6 M → pj_R l g mdX12_ahead pj_T (pj_Zm g mdX12_ahead (pj_qi Q)) pj_NK 0 0 84 [(0, .ref r0), (1, .int (pj_I x1)), (2, .int (pj_I x2)), (3, .int (pj_I x3)), (4, .int (pj_I x4)), (5, .int (pj_I x5)), (6, .int (pj_I x6))] [] M) (h : w_X12_ahead_128 r0 x1 x2 x3 x4 x5 x6 k84 Q M) : pj_R l g mdX12_ahead pj_T (pj_Zm g mdX12_ahead (pj_qi Q)) pj_NK 0 0 128 [(0, .ref r0), (1, .int (pj_I x1)), (2, .int (pj_I x2)), (3, .int (pj_I x3)), (4, .int (pj_I x4)), (5, .int (pj_I x5)), (6, .int (pj_I x6))] [] M := by
  unfold w_X12_ahead_128 at h
  refine pj_aload_n 129 0 rfl rfl rfl rfl ?_
  refine pn_callVv 132 12 [] [] o0 (s_X12_layTables hg o0 h) plX12_225 rfl rfl rfl rfl (Nat.le_of_ble_eq_true rfl) (by decide) (fun M25 h => ?_)
  refine pj_aload_n 133 0 rfl rfl rfl rfl ?_
  refine pj_iload 135 6 rfl rfl rfl ?_
  refine pj_bipush 137 rfl (by decide) rfl ?_
  obtain ⟨q27, h⟩ := h
  refine pj_icmp_ge 144 140 rfl (by decide) rfl q27 (show pj_in 8 by decide) (fun hc => ?_) (fun hc => ?_)
  · replace h := h.1 hc
    refine pj_iconst 145 rfl rfl ?_
    refine pn_sub [0, 1, 2, 3, 4, 5, 6] rfl ?_
    exact s_X12_ahead_145 hg o0 o0 hk84 h
  · replace h := h.2 hc
    refine pj_iconst 141 rfl rfl ?_
    refine pj_goto 145 rfl (by decide) ?_
    refine pn_sub [0, 1, 2, 3, 4, 5, 6] rfl ?_
    exact s_X12_ahead_145 hg o0 o0 hk84 h
set_option maxRecDepth 20000 in
set_option maxHeartbeats 4000000 in
theorem s_X12_ahead_110 {l : Launch} {g : pj_G} (hg : pj_ph g = true) {r0 : Nat} {x1 : Int} {x2 : Int} {x3 : Int} {x4 : Int} {x5 : Int} {x6 : Int} {u0 : Nat} {y1 : Int} {y2 : Int} {y3 : Int} {M : pj_M} {Q : Int → pj_M → Prop} {k84 : Int → Int → pj_M → Prop} (o0 : pj_ob r0 12) (ou0 : pj_ob u0 12) (hk84 : ∀ (x5 : Int) (x6 : Int) (M : pj_M), k84 x5 x6 M → pj_R l g mdX12_ahead pj_T (pj_Zm g mdX12_ahead (pj_qi Q)) pj_NK 0 0 84 [(0, .ref r0), (1, .int (pj_I x1)), (2, .int (pj_I x2)), (3, .int (pj_I x3)), (4, .int (pj_I x4)), (5, .int (pj_I x5)), (6, .int (pj_I x6))] [] M) (h : w_X12_ahead_110 r0 x1 x2 x3 x4 x5 x6 u0 y1 y2 y3 k84 Q M) : pj_R l g mdX12_ahead pj_T (pj_Zm g mdX12_ahead (pj_qi Q)) pj_NK 0 0 110 [(0, .ref r0), (1, .int (pj_I x1)), (2, .int (pj_I x2)), (3, .int (pj_I x3)), (4, .int (pj_I x4)), (5, .int (pj_I x5)), (6, .int (pj_I x6))] [.int (pj_I y3), .int (pj_I y2), .int (pj_I y1), .ref u0] M := by
  unfold w_X12_ahead_110 at h
  refine pn_callVv 113 12 [.int (pj_I y1), .int (pj_I y2), .int (pj_I y3)] [] ou0 (s_X12_layPiece hg ou0 h) plX12_252 rfl rfl rfl rfl (Nat.le_of_ble_eq_true rfl) (by decide) (fun M22 h => ?_)
  refine pj_iload 115 6 rfl rfl rfl ?_
  refine pj_bipush 117 rfl (by decide) rfl ?_
  obtain ⟨q24, h⟩ := h
  refine pj_icmp_ge 128 120 rfl (by decide) rfl q24 (show pj_in 8 by decide) (fun hc => ?_) (fun hc => ?_)
  · replace h := h.1 hc
    refine pn_sub [0, 1, 2, 3, 4, 5, 6] rfl ?_
    exact s_X12_ahead_128 hg o0  hk84 h
  · replace h := h.2 hc
    refine pj_aload_n 121 0 rfl rfl rfl rfl ?_
    refine pn_getr 124 12 13 hg o0 (pr_12_13 o0).2 rfl pfX12_30 rfl rfl ?_
    refine pj_iconst 125 rfl rfl ?_
    refine pj_iload 127 6 rfl rfl rfl ?_
    refine pn_iast 128 16 (pr_12_13 o0)  (show 0 ≤ (0 : Int) ∧ (0 : Int) < ((16 : Nat) : Int) by decide) rfl rfl (fun M34 hM34 => ?_)
    replace h := h M34 hM34
    refine pn_sub [0, 1, 2, 3, 4, 5, 6] rfl ?_
    exact s_X12_ahead_128 hg o0  hk84 h
set_option maxRecDepth 20000 in
set_option maxHeartbeats 4000000 in
theorem s_X12_ahead_84b {l : Launch} {g : pj_G} (hg : pj_ph g = true) {r0 : Nat} {x1 : Int} {x2 : Int} {x3 : Int} {x4 : Int} {x5 : Int} {x6 : Int} {M : pj_M} {Q : Int → pj_M → Prop}  {k84 : Int → Int → pj_M → Prop} (o0 : pj_ob r0 12)  (hk84 : ∀ (x5 : Int) (x6 : Int) (M : pj_M), k84 x5 x6 M → pj_R l g mdX12_ahead pj_T (pj_Zm g mdX12_ahead (pj_qi Q)) pj_NK 0 0 84 [(0, .ref r0), (1, .int (pj_I x1)), (2, .int (pj_I x2)), (3, .int (pj_I x3)), (4, .int (pj_I x4)), (5, .int (pj_I x5)), (6, .int (pj_I x6))] [] M) (h : w_X12_ahead_84b r0 x1 x2 x3 x4  Q k84 x5 x6 M) : pj_R l g mdX12_ahead pj_T (pj_Zm g mdX12_ahead (pj_qi Q)) pj_NK 0 0 84 [(0, .ref r0), (1, .int (pj_I x1)), (2, .int (pj_I x2)), (3, .int (pj_I x3)), (4, .int (pj_I x4)), (5, .int (pj_I x5)), (6, .int (pj_I x6))] [] M := by
  unfold w_X12_ahead_84b at h
  refine pj_iload 86 6 rfl rfl rfl ?_
  refine pj_bipush 88 rfl (by decide) rfl ?_
  obtain ⟨q13, h⟩ := h
  refine pj_icmp_gt 199 91 rfl (by decide) rfl q13 (show pj_in 8 by decide) (fun hc => ?_) (fun hc => ?_)
  · replace h := h.1 hc
    refine pn_sub [0, 5] rfl ?_
    exact s_X12_ahead_199 hg o0   h
  · replace h := h.2 hc
    refine pj_iload_n 92 3 rfl rfl rfl rfl ?_
    obtain ⟨q20, h⟩ := h
    refine pj_if_ne 199 95 rfl (by decide) rfl q20  (fun hc => ?_) (fun hc => ?_)
    · replace h := h.1 hc
      refine pn_sub [0, 5] rfl ?_
      exact s_X12_ahead_199 hg o0   h
    · replace h := h.2 (Classical.not_not.mp hc)
      refine pj_aload_n 96 0 rfl rfl rfl rfl ?_
      refine pj_iload_n 97 1 rfl rfl rfl rfl ?_
      refine pj_iload_n 98 2 rfl rfl rfl rfl ?_
      refine pj_iload 100 6 rfl rfl rfl ?_
      refine pj_bipush 102 rfl (by decide) rfl ?_
      obtain ⟨q21, h⟩ := h
      refine pj_icmp_ge 109 105 rfl (by decide) rfl q21 (show pj_in 8 by decide) (fun hc => ?_) (fun hc => ?_)
      · replace h := h.1 hc
        refine pj_iconst 110 rfl rfl ?_
        refine pn_sub [0, 1, 2, 3, 4, 5, 6] rfl ?_
        exact s_X12_ahead_110 hg o0 o0 hk84 h
      · replace h := h.2 hc
        refine pj_iconst 106 rfl rfl ?_
        refine pj_goto 110 rfl (by decide) ?_
        refine pn_sub [0, 1, 2, 3, 4, 5, 6] rfl ?_
        exact s_X12_ahead_110 hg o0 o0 hk84 h
set_option maxRecDepth 20000 in
set_option maxHeartbeats 4000000 in
theorem s_X12_ahead_84 {l : Launch} {g : pj_G} (hg : pj_ph g = true) {r0 : Nat} {x1 : Int} {x2 : Int} {x3 : Int} {x4 : Int} {x5 : Int} {x6 : Int} {M : pj_M} {Q : Int → pj_M → Prop}  (o0 : pj_ob r0 12)  (h : w_X12_ahead_84 r0 x1 x2 x3 x4  Q x5 x6 M) : pj_R l g mdX12_ahead pj_T (pj_Zm g mdX12_ahead (pj_qi Q)) pj_NK 0 0 84 [(0, .ref r0), (1, .int (pj_I x1)), (2, .int (pj_I x2)), (3, .int (pj_I x3)), (4, .int (pj_I x4)), (5, .int (pj_I x5)), (6, .int (pj_I x6))] [] M :=
  h (fun s => pj_R l g mdX12_ahead pj_T (pj_Zm g mdX12_ahead (pj_qi Q)) pj_NK 0 0 84 [(0, .ref r0), (1, .int (pj_I x1)), (2, .int (pj_I x2)), (3, .int (pj_I x3)), (4, .int (pj_I x4)), (5, .int (pj_I (s.1))), (6, .int (pj_I (s.2.1)))] [] s.2.2) (fun s hs => s_X12_ahead_84b hg o0  (fun _ _ _ q => q) hs)
set_option maxRecDepth 20000 in
set_option maxHeartbeats 4000000 in
theorem s_X12_ahead_76 {l : Launch} {g : pj_G} (hg : pj_ph g = true) {r0 : Nat} {x1 : Int} {x2 : Int} {x3 : Int} {y0 : Int} {M : pj_M} {Q : Int → pj_M → Prop}  (o0 : pj_ob r0 12)  (h : w_X12_ahead_76 r0 x1 x2 x3 y0  Q M) : pj_R l g mdX12_ahead pj_T (pj_Zm g mdX12_ahead (pj_qi Q)) pj_NK 0 0 76 [(0, .ref r0), (1, .int (pj_I x1)), (2, .int (pj_I x2)), (3, .int (pj_I x3))] [.int (pj_I y0)] M := by
  unfold w_X12_ahead_76 at h
  refine pj_istore 78 (ls' := [(0, .ref r0), (1, .int (pj_I x1)), (2, .int (pj_I x2)), (3, .int (pj_I x3)), (4, .int (pj_I y0))]) rfl (by decide) rfl rfl ?_
  refine pj_iconst 79 rfl rfl ?_
  refine pj_istore 81 (ls' := [(0, .ref r0), (1, .int (pj_I x1)), (2, .int (pj_I x2)), (3, .int (pj_I x3)), (4, .int (pj_I y0)), (5, .int (pj_I 0))]) rfl (by decide) rfl rfl ?_
  refine pj_iconst 82 rfl rfl ?_
  refine pj_istore 84 (ls' := [(0, .ref r0), (1, .int (pj_I x1)), (2, .int (pj_I x2)), (3, .int (pj_I x3)), (4, .int (pj_I y0)), (5, .int (pj_I 0)), (6, .int (pj_I 0))]) rfl (by decide) rfl rfl ?_
  refine pn_sub [0, 1, 2, 3, 4, 5, 6] rfl ?_
  exact s_X12_ahead_84 hg o0   h
set_option maxRecDepth 20000 in
set_option maxHeartbeats 4000000 in
theorem s_X12_ahead_75 {l : Launch} {g : pj_G} (hg : pj_ph g = true) {r0 : Nat} {x1 : Int} {x2 : Int} {x3 : Int} {M : pj_M} {Q : Int → pj_M → Prop}  (o0 : pj_ob r0 12)  (h : w_X12_ahead_75 r0 x1 x2 x3  Q M) : pj_R l g mdX12_ahead pj_T (pj_Zm g mdX12_ahead (pj_qi Q)) pj_NK 0 0 75 [(0, .ref r0), (1, .int (pj_I x1)), (2, .int (pj_I x2)), (3, .int (pj_I x3))] [] M := by
  unfold w_X12_ahead_75 at h
  refine pj_iconst 76 rfl rfl ?_
  refine pn_sub [0, 1, 2, 3] rfl ?_
  exact s_X12_ahead_76 hg o0   h
set_option maxRecDepth 20000 in
set_option maxHeartbeats 4000000 in
theorem s_X12_ahead_52 {l : Launch} {g : pj_G} (hg : pj_ph g = true) {r0 : Nat} {x1 : Int} {x2 : Int} {y0 : Int} {M : pj_M} {Q : Int → pj_M → Prop}  (o0 : pj_ob r0 12)  (h : w_X12_ahead_52 r0 x1 x2 y0  Q M) : pj_R l g mdX12_ahead pj_T (pj_Zm g mdX12_ahead (pj_qi Q)) pj_NK 0 0 52 [(0, .ref r0), (1, .int (pj_I x1)), (2, .int (pj_I x2))] [.int (pj_I y0)] M := by
  unfold w_X12_ahead_52 at h
  refine pj_istore_n 53 (ls' := [(0, .ref r0), (1, .int (pj_I x1)), (2, .int (pj_I x2)), (3, .int (pj_I y0))]) rfl rfl (by decide) rfl rfl ?_
  refine pj_iload_n 54 2 rfl rfl rfl rfl ?_
  refine pj_aload_n 55 0 rfl rfl rfl rfl ?_
  refine pn_getr 58 12 0 hg o0 (pr_12_0 o0).2 rfl pfX12_9 rfl rfl ?_
  refine pj_bipush 60 rfl (by decide) rfl ?_
  refine pn_iald 61 95 (pr_12_0 o0) (show 0 ≤ (73 : Int) ∧ (73 : Int) < ((95 : Nat) : Int) by decide) rfl rfl ?_
  refine pj_iconst 62 rfl rfl ?_
  refine pj_iadd 63 rfl rfl ?_
  obtain ⟨q11, h⟩ := h
  obtain ⟨q12, h⟩ := h
  refine pj_icmp_ne 75 66 rfl (by decide) rfl q11 q12 (fun hc => ?_) (fun hc => ?_)
  · replace h := h.1 hc
    refine pn_sub [0, 1, 2, 3] rfl ?_
    exact s_X12_ahead_75 hg o0   h
  · replace h := h.2 (Classical.not_not.mp hc)
    refine pj_iload_n 67 1 rfl rfl rfl rfl ?_
    refine pj_iload_n 68 2 rfl rfl rfl rfl ?_
    obtain ⟨q35, h⟩ := h
    obtain ⟨q36, h⟩ := h
    refine pj_icmp_ge 75 71 rfl (by decide) rfl q35 q36 (fun hc => ?_) (fun hc => ?_)
    · replace h := h.1 hc
      refine pn_sub [0, 1, 2, 3] rfl ?_
      exact s_X12_ahead_75 hg o0   h
    · replace h := h.2 hc
      refine pj_iconst 72 rfl rfl ?_
      refine pj_goto 76 rfl (by decide) ?_
      refine pn_sub [0, 1, 2, 3] rfl ?_
      exact s_X12_ahead_76 hg o0   h
set_option maxRecDepth 20000 in
set_option maxHeartbeats 4000000 in
theorem s_X12_ahead_51 {l : Launch} {g : pj_G} (hg : pj_ph g = true) {r0 : Nat} {x1 : Int} {x2 : Int} {M : pj_M} {Q : Int → pj_M → Prop}  (o0 : pj_ob r0 12)  (h : w_X12_ahead_51 r0 x1 x2  Q M) : pj_R l g mdX12_ahead pj_T (pj_Zm g mdX12_ahead (pj_qi Q)) pj_NK 0 0 51 [(0, .ref r0), (1, .int (pj_I x1)), (2, .int (pj_I x2))] [] M := by
  unfold w_X12_ahead_51 at h
  refine pj_iconst 52 rfl rfl ?_
  refine pn_sub [0, 1, 2] rfl ?_
  exact s_X12_ahead_52 hg o0   h
set_option maxRecDepth 20000 in
set_option maxHeartbeats 4000000 in
theorem s_X12_ahead {l : Launch} {g : pj_G} (hg : pj_ph g = true) {r0 : Nat} {x1 : Int} {x2 : Int} {M : pj_M} {Q : Int → pj_M → Prop} (o0 : pj_ob r0 12) (h : w_X12_ahead r0 x1 x2 M Q) : pj_S l g mdX12_ahead [.ref r0, .int (pj_I x1), .int (pj_I x2)] pj_NK M (pj_qi Q) := by
  refine pj_ofR (ls := [(0, .ref r0), (1, .int (pj_I x1)), (2, .int (pj_I x2))]) gcX12_ahead (by decide) rfl (Nat.le_of_ble_eq_true rfl) rfl ?_
  unfold w_X12_ahead at h
  refine pj_aload_n 1 0 rfl rfl rfl rfl ?_
  refine pj_iconst 2 rfl rfl ?_
  refine pn_puti 5 12 5 5 o0  rfl pfX12_88 rfl rfl rfl (fun M1 hM1 => ?_)
  replace h := h M1 hM1
  refine pj_aload_n 6 0 rfl rfl rfl rfl ?_
  refine pj_iload_n 7 1 rfl rfl rfl rfl ?_
  refine pj_iload_n 8 2 rfl rfl rfl rfl ?_
  refine pn_callVi 11 12 [.int (pj_I x1), .int (pj_I x2)] [] o0 (s_X12_isPiece hg o0 h) plX12_243 rfl rfl rfl rfl (Nat.le_of_ble_eq_true rfl) (by decide) (fun t3 M2 h => ?_)
  obtain ⟨q4, h⟩ := h
  refine pj_if_ne 16 14 rfl (by decide) rfl q4  (fun hc => ?_) (fun hc => ?_)
  · replace h := h.1 hc
    refine pj_aload_n 17 0 rfl rfl rfl rfl ?_
    refine pj_aload_n 18 0 rfl rfl rfl rfl ?_
    refine pn_getr 21 12 0 hg o0 (pr_12_0 o0).2 rfl pfX12_9 rfl rfl ?_
    refine pj_bipush 23 rfl (by decide) rfl ?_
    refine pn_iald 24 95 (pr_12_0 o0) (show 0 ≤ (73 : Int) ∧ (73 : Int) < ((95 : Nat) : Int) by decide) rfl rfl ?_
    refine pn_callVv 27 12 [.int (pj_I (M2 (pj_rf r0 0) 73))] [] o0 (s_X12_layAll hg o0 h) plX12_246 rfl rfl rfl rfl (Nat.le_of_ble_eq_true rfl) (by decide) (fun M5 h => ?_)
    refine pj_aload_n 28 0 rfl rfl rfl rfl ?_
    refine pj_iload_n 29 1 rfl rfl rfl rfl ?_
    refine pj_iload_n 30 2 rfl rfl rfl rfl ?_
    refine pn_callVi 33 12 [.int (pj_I x1), .int (pj_I x2)] [] o0 (s_X12_isFit hg o0 h) plX12_249 rfl rfl rfl rfl (Nat.le_of_ble_eq_true rfl) (by decide) (fun t8 M7 h => ?_)
    obtain ⟨q9, h⟩ := h
    refine pj_if_ne 39 36 rfl (by decide) rfl q9  (fun hc => ?_) (fun hc => ?_)
    · replace h := h.1 hc
      refine pj_iload_n 40 1 rfl rfl rfl rfl ?_
      obtain ⟨q10, h⟩ := h
      refine pj_if_ne 51 43 rfl (by decide) rfl q10  (fun hc => ?_) (fun hc => ?_)
      · replace h := h.1 hc
        refine pn_sub [0, 1, 2] rfl ?_
        exact s_X12_ahead_51 hg o0   h
      · replace h := h.2 (Classical.not_not.mp hc)
        refine pj_iload_n 44 2 rfl rfl rfl rfl ?_
        obtain ⟨q37, h⟩ := h
        refine pj_if_le 51 47 rfl (by decide) rfl q37  (fun hc => ?_) (fun hc => ?_)
        · replace h := h.1 hc
          refine pn_sub [0, 1, 2] rfl ?_
          exact s_X12_ahead_51 hg o0   h
        · replace h := h.2 hc
          refine pj_iconst 48 rfl rfl ?_
          refine pj_goto 52 rfl (by decide) ?_
          refine pn_sub [0, 1, 2] rfl ?_
          exact s_X12_ahead_52 hg o0   h
    · replace h := h.2 (Classical.not_not.mp hc)
      refine pj_bipush 38 rfl (by decide) rfl ?_
      exact pn_iret h rfl rfl
  · replace h := h.2 (Classical.not_not.mp hc)
    refine pj_iconst 15 rfl rfl ?_
    exact pn_iret h rfl rfl
def w_X12_isCapital (r0 : Nat) (x1 : Int) (M : pj_M) (Q : Int → pj_M → Prop) : Prop :=
  w_X12_in x1 0 5 M (fun (t2 : Int) (M1 : pj_M) => (pj_in t2) ∧ ((t2 = 0 → Q 0 M1) ∧ (¬ t2 = 0 → w_X12_ruled (pj_rf r0 0) M1 (fun (t5 : Int) (M4 : pj_M) => w_X12_has t5 x1 M4 (fun (t7 : Int) (M6 : pj_M) => (pj_in t7) ∧ ((t7 = 0 → Q 0 M6) ∧ (¬ t7 = 0 → Q 1 M6)))))))
set_option maxRecDepth 20000 in
set_option maxHeartbeats 4000000 in
theorem s_X12_isCapital {l : Launch} {g : pj_G} (hg : pj_ph g = true) {r0 : Nat} {x1 : Int} {M : pj_M} {Q : Int → pj_M → Prop} (o0 : pj_ob r0 12) (h : w_X12_isCapital r0 x1 M Q) : pj_S l g mdX12_isCapital [.ref r0, .int (pj_I x1)] pj_NK M (pj_qi Q) := by
  refine pj_ofR (ls := [(0, .ref r0), (1, .int (pj_I x1))]) gcX12_isCapital (by decide) rfl (Nat.le_of_ble_eq_true rfl) rfl ?_
  unfold w_X12_isCapital at h
  refine pj_iload_n 1 1 rfl rfl rfl rfl ?_
  refine pj_iconst 2 rfl rfl ?_
  refine pj_iconst 3 rfl rfl ?_
  refine pn_callSi 6 [.int (pj_I x1), .int (pj_I 0), .int (pj_I 5)] [] (s_X12_in hg  h) plX12_98 rfl rfl rfl rfl (Nat.le_of_ble_eq_true rfl) (by decide) (fun t2 M1 h => ?_)
  obtain ⟨q3, h⟩ := h
  refine pj_if_eq 27 9 rfl (by decide) rfl q3  (fun hc => ?_) (fun hc => ?_)
  · replace h := h.1 hc
    refine pj_iconst 28 rfl rfl ?_
    exact pn_zret (by decide) h rfl rfl
  · replace h := h.2 hc
    refine pj_aload_n 10 0 rfl rfl rfl rfl ?_
    refine pn_getr 13 12 0 hg o0 (pr_12_0 o0).2 rfl pfX12_9 rfl rfl ?_
    refine pn_callSi 16 [.ref (pj_rf r0 0)] [] (s_X12_ruled hg (pj_oa_of (pr_12_0 o0)) h) plX12_131 rfl rfl rfl rfl (Nat.le_of_ble_eq_true rfl) (by decide) (fun t5 M4 h => ?_)
    refine pj_iload_n 17 1 rfl rfl rfl rfl ?_
    refine pn_callSi 20 [.int (pj_I t5), .int (pj_I x1)] [] (s_X12_has hg  h) plX12_135 rfl rfl rfl rfl (Nat.le_of_ble_eq_true rfl) (by decide) (fun t7 M6 h => ?_)
    obtain ⟨q8, h⟩ := h
    refine pj_if_eq 27 23 rfl (by decide) rfl q8  (fun hc => ?_) (fun hc => ?_)
    · replace h := h.1 hc
      refine pj_iconst 28 rfl rfl ?_
      exact pn_zret (by decide) h rfl rfl
    · replace h := h.2 hc
      refine pj_iconst 24 rfl rfl ?_
      refine pj_goto 28 rfl (by decide) ?_
      exact pn_zret (by decide) h rfl rfl
def w_X12_yields_116 (r0 : Nat) (x1 : Int) (u0 : Nat)  (Q : Int → pj_M → Prop) (M : pj_M) : Prop :=
  w_X12_cell x1 0 (M r0 14) M (fun (t22 : Int) (M21 : pj_M) => ((0 : Int) ≤ t22 ∧ t22 < 1536) ∧ (pj_in (M21 u0 t22)) ∧ (((M21 u0 t22) = 0 → Q 0 M21) ∧ (¬ (M21 u0 t22) = 0 → Q 1 M21)))
def w_X12_yields_65 (r0 : Nat) (x1 : Int) (x2 : Int) (x3 : Int) (x4 : Int)  (Q : Int → pj_M → Prop) (M : pj_M) : Prop :=
  w_X12_layPiece r0 x3 x4 0 M (fun (M14 : pj_M) => w_X12_layTables r0 M14 (fun (M16 : pj_M) => (pj_in x2) ∧ ((¬ x2 = 0 → (pj_in x2) ∧ ((¬ x2 = 1 → (pj_in x2) ∧ ((¬ x2 = 2 → w_X12_yields_116 r0 x1 (pj_rf r0 18)  Q M16) ∧ (x2 = 2 → w_X12_yields_116 r0 x1 (pj_rf r0 17)  Q M16))) ∧ (x2 = 1 → w_X12_yields_116 r0 x1 (pj_rf r0 16)  Q M16))) ∧ (x2 = 0 → w_X12_yields_116 r0 x1 (pj_rf r0 15)  Q M16))))
def w_X12_yields_43 (r0 : Nat) (x1 : Int) (x2 : Int) (x3 : Int) (x4 : Int)  (Q : Int → pj_M → Prop) (M : pj_M) : Prop :=
  (pj_in x4) ∧ (pj_in ((M (pj_rf r0 0) 73) + 2)) ∧ ((¬ x4 = ((M (pj_rf r0 0) 73) + 2) → w_X12_yields_65 r0 x1 x2 x3 x4  Q M) ∧ (x4 = ((M (pj_rf r0 0) 73) + 2) → (pj_in x3) ∧ (pj_in x4) ∧ ((x4 ≤ x3 → w_X12_yields_65 r0 x1 x2 x3 x4  Q M) ∧ (¬ x4 ≤ x3 → Q (-1) M))))
def w_X12_yields (r0 : Nat) (x1 : Int) (x2 : Int) (x3 : Int) (x4 : Int) (M : pj_M) (Q : Int → pj_M → Prop) : Prop :=
  ∀ M1 : pj_M, M1 = pj_up M r0 5 0 → w_X12_in x2 0 3 M1 (fun (t3 : Int) (M2 : pj_M) => (pj_in t3) ∧ ((t3 = 0 → Q (-1) M2) ∧ (¬ t3 = 0 → w_X12_isCapital r0 x1 M2 (fun (t6 : Int) (M5 : pj_M) => (pj_in t6) ∧ ((t6 = 0 → Q (-1) M5) ∧ (¬ t6 = 0 → w_X12_isPiece r0 x3 x4 M5 (fun (t9 : Int) (M8 : pj_M) => (pj_in t9) ∧ ((¬ t9 = 0 → (pj_in x3) ∧ ((¬ x3 = 0 → w_X12_yields_43 r0 x1 x2 x3 x4  Q M8) ∧ (x3 = 0 → (pj_in x4) ∧ ((0 < x4 → Q (-1) M8) ∧ (¬ 0 < x4 → w_X12_yields_43 r0 x1 x2 x3 x4  Q M8))))) ∧ (t9 = 0 → Q (-1) M8)))))))))
set_option maxRecDepth 20000 in
set_option maxHeartbeats 4000000 in
theorem s_X12_yields_116 {l : Launch} {g : pj_G} (hg : pj_ph g = true) {r0 : Nat} {x1 : Int} {u0 : Nat} {M : pj_M} {Q : Int → pj_M → Prop}  (o0 : pj_ob r0 12) (ou0 : pj_ol u0 2 1536)  (h : w_X12_yields_116 r0 x1 u0  Q M) : pj_R l g mdX12_yields pj_T (pj_Zm g mdX12_yields (pj_qi Q)) pj_NK 0 0 116 [(0, .ref r0), (1, .int (pj_I x1))] [.ref u0] M := by
  unfold w_X12_yields_116 at h
  refine pj_astore 118 (ls' := [(0, .ref r0), (1, .int (pj_I x1)), (5, .ref u0)]) rfl (by decide) rfl rfl ?_
  refine pj_aload 120 2 rfl rfl rfl ?_
  refine pj_iload_n 121 1 rfl rfl rfl rfl ?_
  refine pj_iconst 122 rfl rfl ?_
  refine pj_aload_n 123 0 rfl rfl rfl rfl ?_
  refine pn_geti 126 12 14 14 o0 rfl pfX12_214 (Or.inl rfl) rfl rfl ?_
  refine pn_callSi 129 [.int (pj_I x1), .int (pj_I 0), .int (pj_I (M r0 14))] [.ref u0] (s_X12_cell hg  h) plX12_183 rfl rfl rfl rfl (Nat.le_of_ble_eq_true rfl) (by decide) (fun t22 M21 h => ?_)
  obtain ⟨q23, h⟩ := h
  refine pn_bald 130 2 1536 ou0 (by decide) q23 rfl rfl ?_
  obtain ⟨q24, h⟩ := h
  refine pj_if_eq 137 133 rfl (by decide) rfl q24  (fun hc => ?_) (fun hc => ?_)
  · replace h := h.1 hc
    refine pj_iconst 138 rfl rfl ?_
    exact pn_iret h rfl rfl
  · replace h := h.2 hc
    refine pj_iconst 134 rfl rfl ?_
    refine pj_goto 138 rfl (by decide) ?_
    exact pn_iret h rfl rfl
set_option maxRecDepth 20000 in
set_option maxHeartbeats 4000000 in
theorem s_X12_yields_65 {l : Launch} {g : pj_G} (hg : pj_ph g = true) {r0 : Nat} {x1 : Int} {x2 : Int} {x3 : Int} {x4 : Int} {M : pj_M} {Q : Int → pj_M → Prop}  (o0 : pj_ob r0 12)  (h : w_X12_yields_65 r0 x1 x2 x3 x4  Q M) : pj_R l g mdX12_yields pj_T (pj_Zm g mdX12_yields (pj_qi Q)) pj_NK 0 0 65 [(0, .ref r0), (1, .int (pj_I x1)), (2, .int (pj_I x2)), (3, .int (pj_I x3)), (4, .int (pj_I x4))] [] M := by
  unfold w_X12_yields_65 at h
  refine pj_aload_n 66 0 rfl rfl rfl rfl ?_
  refine pj_iload_n 67 3 rfl rfl rfl rfl ?_
  refine pj_iload 69 4 rfl rfl rfl ?_
  refine pj_iconst 70 rfl rfl ?_
  refine pn_callVv 73 12 [.int (pj_I x3), .int (pj_I x4), .int (pj_I 0)] [] o0 (s_X12_layPiece hg o0 h) plX12_252 rfl rfl rfl rfl (Nat.le_of_ble_eq_true rfl) (by decide) (fun M14 h => ?_)
  refine pj_aload_n 74 0 rfl rfl rfl rfl ?_
  refine pn_callVv 77 12 [] [] o0 (s_X12_layTables hg o0 h) plX12_225 rfl rfl rfl rfl (Nat.le_of_ble_eq_true rfl) (by decide) (fun M16 h => ?_)
  refine pj_iload_n 78 2 rfl rfl rfl rfl ?_
  obtain ⟨q18, h⟩ := h
  refine pj_if_ne 88 81 rfl (by decide) rfl q18  (fun hc => ?_) (fun hc => ?_)
  · replace h := h.1 hc
    refine pj_iload_n 89 2 rfl rfl rfl rfl ?_
    refine pj_iconst 90 rfl rfl ?_
    obtain ⟨q19, h⟩ := h
    refine pj_icmp_ne 100 93 rfl (by decide) rfl q19 (show pj_in 1 by decide) (fun hc => ?_) (fun hc => ?_)
    · replace h := h.1 hc
      refine pj_iload_n 101 2 rfl rfl rfl rfl ?_
      refine pj_iconst 102 rfl rfl ?_
      obtain ⟨q20, h⟩ := h
      refine pj_icmp_ne 112 105 rfl (by decide) rfl q20 (show pj_in 2 by decide) (fun hc => ?_) (fun hc => ?_)
      · replace h := h.1 hc
        refine pj_aload_n 113 0 rfl rfl rfl rfl ?_
        refine pn_getr 116 12 18 hg o0 (pr_12_18 o0).2 rfl pfX12_43 rfl rfl ?_
        refine pn_sub [0, 1] rfl ?_
        exact s_X12_yields_116 hg o0 (pr_12_18 o0)  h
      · replace h := h.2 (Classical.not_not.mp hc)
        refine pj_aload_n 106 0 rfl rfl rfl rfl ?_
        refine pn_getr 109 12 17 hg o0 (pr_12_17 o0).2 rfl pfX12_40 rfl rfl ?_
        refine pj_goto 116 rfl (by decide) ?_
        refine pn_sub [0, 1] rfl ?_
        exact s_X12_yields_116 hg o0 (pr_12_17 o0)  h
    · replace h := h.2 (Classical.not_not.mp hc)
      refine pj_aload_n 94 0 rfl rfl rfl rfl ?_
      refine pn_getr 97 12 16 hg o0 (pr_12_16 o0).2 rfl pfX12_37 rfl rfl ?_
      refine pj_goto 116 rfl (by decide) ?_
      refine pn_sub [0, 1] rfl ?_
      exact s_X12_yields_116 hg o0 (pr_12_16 o0)  h
  · replace h := h.2 (Classical.not_not.mp hc)
    refine pj_aload_n 82 0 rfl rfl rfl rfl ?_
    refine pn_getr 85 12 15 hg o0 (pr_12_15 o0).2 rfl pfX12_33 rfl rfl ?_
    refine pj_goto 116 rfl (by decide) ?_
    refine pn_sub [0, 1] rfl ?_
    exact s_X12_yields_116 hg o0 (pr_12_15 o0)  h
set_option maxRecDepth 20000 in
set_option maxHeartbeats 4000000 in
theorem s_X12_yields_43 {l : Launch} {g : pj_G} (hg : pj_ph g = true) {r0 : Nat} {x1 : Int} {x2 : Int} {x3 : Int} {x4 : Int} {M : pj_M} {Q : Int → pj_M → Prop}  (o0 : pj_ob r0 12)  (h : w_X12_yields_43 r0 x1 x2 x3 x4  Q M) : pj_R l g mdX12_yields pj_T (pj_Zm g mdX12_yields (pj_qi Q)) pj_NK 0 0 43 [(0, .ref r0), (1, .int (pj_I x1)), (2, .int (pj_I x2)), (3, .int (pj_I x3)), (4, .int (pj_I x4))] [] M := by
  unfold w_X12_yields_43 at h
  refine pj_iload 45 4 rfl rfl rfl ?_
  refine pj_aload_n 46 0 rfl rfl rfl rfl ?_
  refine pn_getr 49 12 0 hg o0 (pr_12_0 o0).2 rfl pfX12_9 rfl rfl ?_
  refine pj_bipush 51 rfl (by decide) rfl ?_
  refine pn_iald 52 95 (pr_12_0 o0) (show 0 ≤ (73 : Int) ∧ (73 : Int) < ((95 : Nat) : Int) by decide) rfl rfl ?_
  refine pj_iconst 53 rfl rfl ?_
  refine pj_iadd 54 rfl rfl ?_
  obtain ⟨q12, h⟩ := h
  obtain ⟨q13, h⟩ := h
  refine pj_icmp_ne 65 57 rfl (by decide) rfl q12 q13 (fun hc => ?_) (fun hc => ?_)
  · replace h := h.1 hc
    refine pn_sub [0, 1, 2, 3, 4] rfl ?_
    exact s_X12_yields_65 hg o0   h
  · replace h := h.2 (Classical.not_not.mp hc)
    refine pj_iload_n 58 3 rfl rfl rfl rfl ?_
    refine pj_iload 60 4 rfl rfl rfl ?_
    obtain ⟨q25, h⟩ := h
    obtain ⟨q26, h⟩ := h
    refine pj_icmp_ge 65 63 rfl (by decide) rfl q25 q26 (fun hc => ?_) (fun hc => ?_)
    · replace h := h.1 hc
      refine pn_sub [0, 1, 2, 3, 4] rfl ?_
      exact s_X12_yields_65 hg o0   h
    · replace h := h.2 hc
      refine pj_iconst 64 rfl rfl ?_
      exact pn_iret h rfl rfl
set_option maxRecDepth 20000 in
set_option maxHeartbeats 4000000 in
theorem s_X12_yields {l : Launch} {g : pj_G} (hg : pj_ph g = true) {r0 : Nat} {x1 : Int} {x2 : Int} {x3 : Int} {x4 : Int} {M : pj_M} {Q : Int → pj_M → Prop} (o0 : pj_ob r0 12) (h : w_X12_yields r0 x1 x2 x3 x4 M Q) : pj_S l g mdX12_yields [.ref r0, .int (pj_I x1), .int (pj_I x2), .int (pj_I x3), .int (pj_I x4)] pj_NK M (pj_qi Q) := by
  refine pj_ofR (ls := [(0, .ref r0), (1, .int (pj_I x1)), (2, .int (pj_I x2)), (3, .int (pj_I x3)), (4, .int (pj_I x4))]) gcX12_yields (by decide) rfl (Nat.le_of_ble_eq_true rfl) rfl ?_
  unfold w_X12_yields at h
  refine pj_aload_n 1 0 rfl rfl rfl rfl ?_
  refine pj_iconst 2 rfl rfl ?_
  refine pn_puti 5 12 5 5 o0  rfl pfX12_88 rfl rfl rfl (fun M1 hM1 => ?_)
  replace h := h M1 hM1
  refine pj_iload_n 6 2 rfl rfl rfl rfl ?_
  refine pj_iconst 7 rfl rfl ?_
  refine pj_iconst 8 rfl rfl ?_
  refine pn_callSi 11 [.int (pj_I x2), .int (pj_I 0), .int (pj_I 3)] [] (s_X12_in hg  h) plX12_98 rfl rfl rfl rfl (Nat.le_of_ble_eq_true rfl) (by decide) (fun t3 M2 h => ?_)
  obtain ⟨q4, h⟩ := h
  refine pj_if_eq 32 14 rfl (by decide) rfl q4  (fun hc => ?_) (fun hc => ?_)
  · replace h := h.1 hc
    refine pj_iconst 33 rfl rfl ?_
    exact pn_iret h rfl rfl
  · replace h := h.2 hc
    refine pj_aload_n 15 0 rfl rfl rfl rfl ?_
    refine pj_iload_n 16 1 rfl rfl rfl rfl ?_
    refine pn_callVi 19 12 [.int (pj_I x1)] [] o0 (s_X12_isCapital hg o0 h) plX12_264 rfl rfl rfl rfl (Nat.le_of_ble_eq_true rfl) (by decide) (fun t6 M5 h => ?_)
    obtain ⟨q7, h⟩ := h
    refine pj_if_eq 32 22 rfl (by decide) rfl q7  (fun hc => ?_) (fun hc => ?_)
    · replace h := h.1 hc
      refine pj_iconst 33 rfl rfl ?_
      exact pn_iret h rfl rfl
    · replace h := h.2 hc
      refine pj_aload_n 23 0 rfl rfl rfl rfl ?_
      refine pj_iload_n 24 3 rfl rfl rfl rfl ?_
      refine pj_iload 26 4 rfl rfl rfl ?_
      refine pn_callVi 29 12 [.int (pj_I x3), .int (pj_I x4)] [] o0 (s_X12_isPiece hg o0 h) plX12_243 rfl rfl rfl rfl (Nat.le_of_ble_eq_true rfl) (by decide) (fun t9 M8 h => ?_)
      obtain ⟨q10, h⟩ := h
      refine pj_if_ne 34 32 rfl (by decide) rfl q10  (fun hc => ?_) (fun hc => ?_)
      · replace h := h.1 hc
        refine pj_iload_n 35 3 rfl rfl rfl rfl ?_
        obtain ⟨q11, h⟩ := h
        refine pj_if_ne 43 38 rfl (by decide) rfl q11  (fun hc => ?_) (fun hc => ?_)
        · replace h := h.1 hc
          refine pn_sub [0, 1, 2, 3, 4] rfl ?_
          exact s_X12_yields_43 hg o0   h
        · replace h := h.2 (Classical.not_not.mp hc)
          refine pj_iload 40 4 rfl rfl rfl ?_
          obtain ⟨q27, h⟩ := h
          refine pj_if_gt 63 43 rfl (by decide) rfl q27  (fun hc => ?_) (fun hc => ?_)
          · replace h := h.1 hc
            refine pj_iconst 64 rfl rfl ?_
            exact pn_iret h rfl rfl
          · replace h := h.2 hc
            refine pn_sub [0, 1, 2, 3, 4] rfl ?_
            exact s_X12_yields_43 hg o0   h
      · replace h := h.2 (Classical.not_not.mp hc)
        refine pj_iconst 33 rfl rfl ?_
        exact pn_iret h rfl rfl
def w_X12_put (r0 : Nat) (x1 : Int) (x2 : Int) (M : pj_M) (Q : pj_M → Prop) : Prop :=
  ((0 : Int) ≤ (2 * (M r0 22)) ∧ (2 * (M r0 22)) < 64) ∧ ∀ M2 : pj_M, M2 = pj_up M (pj_rf r0 21) (2 * (M r0 22)) x1 → ((0 : Int) ≤ ((2 * (M2 r0 22)) + 1) ∧ ((2 * (M2 r0 22)) + 1) < 64) ∧ ∀ M4 : pj_M, M4 = pj_up M2 (pj_rf r0 21) ((2 * (M2 r0 22)) + 1) x2 → ∀ M5 : pj_M, M5 = pj_up M4 r0 22 ((M4 r0 22) + 1) → Q M5
set_option maxRecDepth 20000 in
set_option maxHeartbeats 4000000 in
theorem s_X12_put {l : Launch} {g : pj_G} (hg : pj_ph g = true) {r0 : Nat} {x1 : Int} {x2 : Int} {M : pj_M} {Q : pj_M → Prop} (o0 : pj_ob r0 12) (h : w_X12_put r0 x1 x2 M Q) : pj_S l g mdX12_put [.ref r0, .int (pj_I x1), .int (pj_I x2)] pj_NK M (pj_qv Q) := by
  refine pj_ofR (ls := [(0, .ref r0), (1, .int (pj_I x1)), (2, .int (pj_I x2))]) gcX12_put (by decide) rfl (Nat.le_of_ble_eq_true rfl) rfl ?_
  unfold w_X12_put at h
  refine pj_aload_n 1 0 rfl rfl rfl rfl ?_
  refine pn_getr 4 12 21 hg o0 (pr_12_21 o0).2 rfl pfX12_52 rfl rfl ?_
  refine pj_iconst 5 rfl rfl ?_
  refine pj_aload_n 6 0 rfl rfl rfl rfl ?_
  refine pn_geti 9 12 22 22 o0 rfl pfX12_268 (Or.inl rfl) rfl rfl ?_
  refine pj_imul 10 rfl rfl ?_
  refine pj_iload_n 11 1 rfl rfl rfl rfl ?_
  obtain ⟨q1, h⟩ := h
  refine pn_iast 12 64 (pr_12_21 o0)  q1 rfl rfl (fun M2 hM2 => ?_)
  replace h := h M2 hM2
  refine pj_aload_n 13 0 rfl rfl rfl rfl ?_
  refine pn_getr 16 12 21 hg o0 (pr_12_21 o0).2 rfl pfX12_52 rfl rfl ?_
  refine pj_iconst 17 rfl rfl ?_
  refine pj_aload_n 18 0 rfl rfl rfl rfl ?_
  refine pn_geti 21 12 22 22 o0 rfl pfX12_268 (Or.inl rfl) rfl rfl ?_
  refine pj_imul 22 rfl rfl ?_
  refine pj_iconst 23 rfl rfl ?_
  refine pj_iadd 24 rfl rfl ?_
  refine pj_iload_n 25 2 rfl rfl rfl rfl ?_
  obtain ⟨q3, h⟩ := h
  refine pn_iast 26 64 (pr_12_21 o0)  q3 rfl rfl (fun M4 hM4 => ?_)
  replace h := h M4 hM4
  refine pj_aload_n 27 0 rfl rfl rfl rfl ?_
  refine pj_dup 28 rfl rfl rfl ?_
  refine pn_geti 31 12 22 22 o0 rfl pfX12_268 (Or.inl rfl) rfl rfl ?_
  refine pj_iconst 32 rfl rfl ?_
  refine pj_iadd 33 rfl rfl ?_
  refine pn_puti 36 12 22 22 o0  rfl pfX12_268 rfl rfl rfl (fun M5 hM5 => ?_)
  replace h := h M5 hM5
  exact pn_vret h rfl rfl
def w_X12_tellPieces_7b (r0 : Nat)  (Q : pj_M → Prop) (k7 : Int → pj_M → Prop) (x1 : Int) (M : pj_M) : Prop :=
  (pj_in x1) ∧ (pj_in (2 * (M r0 22))) ∧ (((2 * (M r0 22)) ≤ x1 → Q M) ∧ (¬ (2 * (M r0 22)) ≤ x1 → ((0 : Int) ≤ x1 ∧ x1 < 64) ∧ (pj_in (M (pj_rf r0 21) x1)) ∧ w_X12_tell r0 (M (pj_rf r0 21) x1) M (fun (M6 : pj_M) => k7 (x1 + 1) M6)))
def w_X12_tellPieces_7 (r0 : Nat)  (Q : pj_M → Prop) (x1 : Int) (M : pj_M) : Prop := pj_lp (fun (k : Int × pj_M → Prop) (s : Int × pj_M) => w_X12_tellPieces_7b r0  Q (fun (x1 : Int) (M : pj_M) => k (x1, M)) s.1 s.2) (x1, M)
def w_X12_tellPieces (r0 : Nat) (M : pj_M) (Q : pj_M → Prop) : Prop :=
  ∀ M1 : pj_M, M1 = pj_up M r0 4 0 → w_X12_tellPieces_7 r0  Q 0 M1
set_option maxRecDepth 20000 in
set_option maxHeartbeats 4000000 in
theorem s_X12_tellPieces_7b {l : Launch} {g : pj_G} (hg : pj_ph g = true) {r0 : Nat} {x1 : Int} {M : pj_M} {Q : pj_M → Prop}  {k7 : Int → pj_M → Prop} (o0 : pj_ob r0 12)  (hk7 : ∀ (x1 : Int) (M : pj_M), k7 x1 M → pj_R l g mdX12_tellPieces pj_T (pj_Zm g mdX12_tellPieces (pj_qv Q)) pj_NK 0 0 7 [(0, .ref r0), (1, .int (pj_I x1))] [] M) (h : w_X12_tellPieces_7b r0  Q k7 x1 M) : pj_R l g mdX12_tellPieces pj_T (pj_Zm g mdX12_tellPieces (pj_qv Q)) pj_NK 0 0 7 [(0, .ref r0), (1, .int (pj_I x1))] [] M := by
  unfold w_X12_tellPieces_7b at h
  refine pj_iload_n 8 1 rfl rfl rfl rfl ?_
  refine pj_iconst 9 rfl rfl ?_
  refine pj_aload_n 10 0 rfl rfl rfl rfl ?_
  refine pn_geti 13 12 22 22 o0 rfl pfX12_268 (Or.inl rfl) rfl rfl ?_
  refine pj_imul 14 rfl rfl ?_
  obtain ⟨q2, h⟩ := h
  obtain ⟨q3, h⟩ := h
  refine pj_icmp_ge 34 17 rfl (by decide) rfl q2 q3 (fun hc => ?_) (fun hc => ?_)
  · replace h := h.1 hc
    exact pn_vret h rfl rfl
  · replace h := h.2 hc
    refine pj_aload_n 18 0 rfl rfl rfl rfl ?_
    refine pj_aload_n 19 0 rfl rfl rfl rfl ?_
    refine pn_getr 22 12 21 hg o0 (pr_12_21 o0).2 rfl pfX12_52 rfl rfl ?_
    refine pj_iload_n 23 1 rfl rfl rfl rfl ?_
    obtain ⟨q4, h⟩ := h
    refine pn_iald 24 64 (pr_12_21 o0) q4 rfl rfl ?_
    obtain ⟨q5, h⟩ := h
    refine pj_i2l 25 rfl rfl q5 ?_
    refine pn_callVv 28 12 [.long (pj_L (M (pj_rf r0 21) x1))] [] o0 (s_X12_tell hg o0 h) plX12_260 rfl rfl rfl rfl (Nat.le_of_ble_eq_true rfl) (by decide) (fun M6 h => ?_)
    refine pj_iinc 31 1 (ls' := [(0, .ref r0), (1, .int (pj_I (x1 + 1)))]) rfl rfl (by decide) rfl rfl ?_
    refine pj_goto 7 rfl (by decide) ?_
    refine pn_sub [0, 1] rfl ?_
    exact hk7 _ _ h
set_option maxRecDepth 20000 in
set_option maxHeartbeats 4000000 in
theorem s_X12_tellPieces_7 {l : Launch} {g : pj_G} (hg : pj_ph g = true) {r0 : Nat} {x1 : Int} {M : pj_M} {Q : pj_M → Prop}  (o0 : pj_ob r0 12)  (h : w_X12_tellPieces_7 r0  Q x1 M) : pj_R l g mdX12_tellPieces pj_T (pj_Zm g mdX12_tellPieces (pj_qv Q)) pj_NK 0 0 7 [(0, .ref r0), (1, .int (pj_I x1))] [] M :=
  h (fun s => pj_R l g mdX12_tellPieces pj_T (pj_Zm g mdX12_tellPieces (pj_qv Q)) pj_NK 0 0 7 [(0, .ref r0), (1, .int (pj_I (s.1)))] [] s.2) (fun s hs => s_X12_tellPieces_7b hg o0  (fun _ _ q => q) hs)
set_option maxRecDepth 20000 in
set_option maxHeartbeats 4000000 in
theorem s_X12_tellPieces {l : Launch} {g : pj_G} (hg : pj_ph g = true) {r0 : Nat} {M : pj_M} {Q : pj_M → Prop} (o0 : pj_ob r0 12) (h : w_X12_tellPieces r0 M Q) : pj_S l g mdX12_tellPieces [.ref r0] pj_NK M (pj_qv Q) := by
  refine pj_ofR (ls := [(0, .ref r0)]) gcX12_tellPieces (by decide) rfl (Nat.le_of_ble_eq_true rfl) rfl ?_
  unfold w_X12_tellPieces at h
  refine pj_aload_n 1 0 rfl rfl rfl rfl ?_
  refine pj_iconst 2 rfl rfl ?_
  refine pn_puti 5 12 4 4 o0  rfl pfX12_92 rfl rfl rfl (fun M1 hM1 => ?_)
  replace h := h M1 hM1
  refine pj_iconst 6 rfl rfl ?_
  refine pj_istore_n 7 (ls' := [(0, .ref r0), (1, .int (pj_I 0))]) rfl rfl (by decide) rfl rfl ?_
  refine pn_sub [0, 1] rfl ?_
  exact s_X12_tellPieces_7 hg o0   h
def w_X12_behind_14b (r0 : Nat) (x1 : Int)  (Q : Int → pj_M → Prop) (k14 : Int → pj_M → Prop) (x2 : Int) (M : pj_M) : Prop :=
  (pj_in x2) ∧ ((x2 < 1 → Q x1 M) ∧ (¬ x2 < 1 → ((0 : Int) ≤ x2 ∧ x2 < 16) ∧ (pj_in (M (pj_rf r0 23) x2)) ∧ (pj_in x2) ∧ (((M (pj_rf r0 23) x2) ≤ x2 → k14 (x2 + (-1)) M) ∧ (¬ (M (pj_rf r0 23) x2) ≤ x2 → ((0 : Int) ≤ x2 ∧ x2 < 16) ∧ (pj_in (M (pj_rf r0 23) x2)) ∧ (pj_in x1) ∧ (((M (pj_rf r0 23) x2) < x1 → k14 (x2 + (-1)) M) ∧ (¬ (M (pj_rf r0 23) x2) < x1 → ((0 : Int) ≤ x2 ∧ x2 < 16) ∧ Q ((M (pj_rf r0 23) x2) + 1) M))))))
def w_X12_behind_14 (r0 : Nat) (x1 : Int)  (Q : Int → pj_M → Prop) (x2 : Int) (M : pj_M) : Prop := pj_lp (fun (k : Int × pj_M → Prop) (s : Int × pj_M) => w_X12_behind_14b r0 x1  Q (fun (x2 : Int) (M : pj_M) => k (x2, M)) s.1 s.2) (x2, M)
def w_X12_behind (r0 : Nat) (x1 : Int) (M : pj_M) (Q : Int → pj_M → Prop) : Prop :=
  w_Jmin (x1 - 1) (M (pj_rf r0 0) 73) M (fun (t2 : Int) (M1 : pj_M) => w_X12_behind_14 r0 x1  Q t2 M1)
set_option maxRecDepth 20000 in
set_option maxHeartbeats 4000000 in
theorem s_X12_behind_14b {l : Launch} {g : pj_G} (hg : pj_ph g = true) {r0 : Nat} {x1 : Int} {x2 : Int} {M : pj_M} {Q : Int → pj_M → Prop}  {k14 : Int → pj_M → Prop} (o0 : pj_ob r0 12)  (hk14 : ∀ (x2 : Int) (M : pj_M), k14 x2 M → pj_R l g mdX12_behind pj_T (pj_Zm g mdX12_behind (pj_qi Q)) pj_NK 0 0 14 [(0, .ref r0), (1, .int (pj_I x1)), (2, .int (pj_I x2))] [] M) (h : w_X12_behind_14b r0 x1  Q k14 x2 M) : pj_R l g mdX12_behind pj_T (pj_Zm g mdX12_behind (pj_qi Q)) pj_NK 0 0 14 [(0, .ref r0), (1, .int (pj_I x1)), (2, .int (pj_I x2))] [] M := by
  unfold w_X12_behind_14b at h
  refine pj_iload_n 15 2 rfl rfl rfl rfl ?_
  refine pj_iconst 16 rfl rfl ?_
  obtain ⟨q3, h⟩ := h
  refine pj_icmp_lt 54 19 rfl (by decide) rfl q3 (show pj_in 1 by decide) (fun hc => ?_) (fun hc => ?_)
  · replace h := h.1 hc
    refine pj_iload_n 55 1 rfl rfl rfl rfl ?_
    exact pn_iret h rfl rfl
  · replace h := h.2 hc
    refine pj_aload_n 20 0 rfl rfl rfl rfl ?_
    refine pn_getr 23 12 23 hg o0 (pr_12_23 o0).2 rfl pfX12_55 rfl rfl ?_
    refine pj_iload_n 24 2 rfl rfl rfl rfl ?_
    obtain ⟨q4, h⟩ := h
    refine pn_iald 25 16 (pr_12_23 o0) q4 rfl rfl ?_
    refine pj_iload_n 26 2 rfl rfl rfl rfl ?_
    obtain ⟨q5, h⟩ := h
    obtain ⟨q6, h⟩ := h
    refine pj_icmp_le 48 29 rfl (by decide) rfl q5 q6 (fun hc => ?_) (fun hc => ?_)
    · replace h := h.1 hc
      refine pj_iinc 51 2 (ls' := [(0, .ref r0), (1, .int (pj_I x1)), (2, .int (pj_I (x2 + (-1))))]) rfl rfl (by decide) rfl rfl ?_
      refine pj_goto 14 rfl (by decide) ?_
      refine pn_sub [0, 1, 2] rfl ?_
      exact hk14 _ _ h
    · replace h := h.2 hc
      refine pj_aload_n 30 0 rfl rfl rfl rfl ?_
      refine pn_getr 33 12 23 hg o0 (pr_12_23 o0).2 rfl pfX12_55 rfl rfl ?_
      refine pj_iload_n 34 2 rfl rfl rfl rfl ?_
      obtain ⟨q7, h⟩ := h
      refine pn_iald 35 16 (pr_12_23 o0) q7 rfl rfl ?_
      refine pj_iload_n 36 1 rfl rfl rfl rfl ?_
      obtain ⟨q8, h⟩ := h
      obtain ⟨q9, h⟩ := h
      refine pj_icmp_lt 48 39 rfl (by decide) rfl q8 q9 (fun hc => ?_) (fun hc => ?_)
      · replace h := h.1 hc
        refine pj_iinc 51 2 (ls' := [(0, .ref r0), (1, .int (pj_I x1)), (2, .int (pj_I (x2 + (-1))))]) rfl rfl (by decide) rfl rfl ?_
        refine pj_goto 14 rfl (by decide) ?_
        refine pn_sub [0, 1, 2] rfl ?_
        exact hk14 _ _ h
      · replace h := h.2 hc
        refine pj_aload_n 40 0 rfl rfl rfl rfl ?_
        refine pn_getr 43 12 23 hg o0 (pr_12_23 o0).2 rfl pfX12_55 rfl rfl ?_
        refine pj_iload_n 44 2 rfl rfl rfl rfl ?_
        obtain ⟨q10, h⟩ := h
        refine pn_iald 45 16 (pr_12_23 o0) q10 rfl rfl ?_
        refine pj_iconst 46 rfl rfl ?_
        refine pj_iadd 47 rfl rfl ?_
        exact pn_iret h rfl rfl
set_option maxRecDepth 20000 in
set_option maxHeartbeats 4000000 in
theorem s_X12_behind_14 {l : Launch} {g : pj_G} (hg : pj_ph g = true) {r0 : Nat} {x1 : Int} {x2 : Int} {M : pj_M} {Q : Int → pj_M → Prop}  (o0 : pj_ob r0 12)  (h : w_X12_behind_14 r0 x1  Q x2 M) : pj_R l g mdX12_behind pj_T (pj_Zm g mdX12_behind (pj_qi Q)) pj_NK 0 0 14 [(0, .ref r0), (1, .int (pj_I x1)), (2, .int (pj_I x2))] [] M :=
  h (fun s => pj_R l g mdX12_behind pj_T (pj_Zm g mdX12_behind (pj_qi Q)) pj_NK 0 0 14 [(0, .ref r0), (1, .int (pj_I x1)), (2, .int (pj_I (s.1)))] [] s.2) (fun s hs => s_X12_behind_14b hg o0  (fun _ _ q => q) hs)
set_option maxRecDepth 20000 in
set_option maxHeartbeats 4000000 in
theorem s_X12_behind {l : Launch} {g : pj_G} (hg : pj_ph g = true) {r0 : Nat} {x1 : Int} {M : pj_M} {Q : Int → pj_M → Prop} (o0 : pj_ob r0 12) (h : w_X12_behind r0 x1 M Q) : pj_S l g mdX12_behind [.ref r0, .int (pj_I x1)] pj_NK M (pj_qi Q) := by
  refine pj_ofR (ls := [(0, .ref r0), (1, .int (pj_I x1))]) gcX12_behind (by decide) rfl (Nat.le_of_ble_eq_true rfl) rfl ?_
  unfold w_X12_behind at h
  refine pj_iload_n 1 1 rfl rfl rfl rfl ?_
  refine pj_iconst 2 rfl rfl ?_
  refine pj_isub 3 rfl rfl ?_
  refine pj_aload_n 4 0 rfl rfl rfl rfl ?_
  refine pn_getr 7 12 0 hg o0 (pr_12_0 o0).2 rfl pfX12_9 rfl rfl ?_
  refine pj_bipush 9 rfl (by decide) rfl ?_
  refine pn_iald 10 95 (pr_12_0 o0) (show 0 ≤ (73 : Int) ∧ (73 : Int) < ((95 : Nat) : Int) by decide) rfl rfl ?_
  refine pn_callSi 13 [.int (pj_I (x1 - 1)), .int (pj_I (M (pj_rf r0 0) 73))] [] (s_Jmin hg  h) plX12_237 rfl rfl rfl rfl (Nat.le_of_ble_eq_true rfl) (by decide) (fun t2 M1 h => ?_)
  refine pj_istore_n 14 (ls' := [(0, .ref r0), (1, .int (pj_I x1)), (2, .int (pj_I t2))]) rfl rfl (by decide) rfl rfl ?_
  refine pn_sub [0, 1, 2] rfl ?_
  exact s_X12_behind_14 hg o0   h
def w_X12_layReport_95 (r0 : Nat) (x1 : Int) (x3 : Int) (y0 : Int) (k14 : Int → pj_M → Prop) (Q : pj_M → Prop) (M : pj_M) : Prop :=
  k14 y0 M
def w_X12_layReport_55b (r0 : Nat) (x1 : Int) (x3 : Int) (x4 : Int) (k14 : Int → pj_M → Prop) (Q : pj_M → Prop) (k55 : Int → pj_M → Prop) (x5 : Int) (M : pj_M) : Prop :=
  w_X12_isFit r0 x5 x4 M (fun (t10 : Int) (M9 : pj_M) => (pj_in t10) ∧ ((t10 = 0 → w_X12_put r0 x5 x4 M9 (fun (M12 : pj_M) => (pj_in x1) ∧ ((x1 = 0 → w_X12_layReport_95 r0 x1 x3 x4 k14 Q M12) ∧ (¬ x1 = 0 → w_X12_behind r0 x4 M12 (fun (t16 : Int) (M15 : pj_M) => w_X12_layReport_95 r0 x1 x3 t16 k14 Q M15))))) ∧ (¬ t10 = 0 → k55 (x5 + (-1)) M9)))
def w_X12_layReport_55 (r0 : Nat) (x1 : Int) (x3 : Int) (x4 : Int) (k14 : Int → pj_M → Prop) (Q : pj_M → Prop) (x5 : Int) (M : pj_M) : Prop := pj_lp (fun (k : Int × pj_M → Prop) (s : Int × pj_M) => w_X12_layReport_55b r0 x1 x3 x4 k14 Q (fun (x5 : Int) (M : pj_M) => k (x5, M)) s.1 s.2) (x5, M)
def w_X12_layReport_44 (r0 : Nat) (x1 : Int) (x3 : Int) (x4 : Int) (k14 : Int → pj_M → Prop) (Q : pj_M → Prop) (M : pj_M) : Prop :=
  (pj_in x4) ∧ (pj_in x3) ∧ ((x4 ≤ x3 → w_X12_layReport_55 r0 x1 x3 x4 k14 Q x4 M) ∧ (¬ x4 ≤ x3 → Q M))
def w_X12_layReport_22b (r0 : Nat) (x1 : Int) (x2 : Int) (x3 : Int) (k14 : Int → pj_M → Prop) (Q : pj_M → Prop) (k22 : Int → pj_M → Prop) (x4 : Int) (M : pj_M) : Prop :=
  (pj_in x4) ∧ (pj_in x3) ∧ ((x3 < x4 → w_X12_layReport_44 r0 x1 x3 x4 k14 Q M) ∧ (¬ x3 < x4 → w_X12_isFit r0 x2 x4 M (fun (t18 : Int) (M17 : pj_M) => (pj_in t18) ∧ ((t18 = 0 → w_X12_layReport_44 r0 x1 x3 x4 k14 Q M17) ∧ (¬ t18 = 0 → k22 (x4 + 1) M17)))))
def w_X12_layReport_22 (r0 : Nat) (x1 : Int) (x2 : Int) (x3 : Int) (k14 : Int → pj_M → Prop) (Q : pj_M → Prop) (x4 : Int) (M : pj_M) : Prop := pj_lp (fun (k : Int × pj_M → Prop) (s : Int × pj_M) => w_X12_layReport_22b r0 x1 x2 x3 k14 Q (fun (x4 : Int) (M : pj_M) => k (x4, M)) s.1 s.2) (x4, M)
def w_X12_layReport_14b (r0 : Nat) (x1 : Int) (x3 : Int)  (Q : pj_M → Prop) (k14 : Int → pj_M → Prop) (x2 : Int) (M : pj_M) : Prop :=
  (pj_in x2) ∧ (pj_in x3) ∧ ((x3 < x2 → Q M) ∧ (¬ x3 < x2 → w_X12_layReport_22 r0 x1 x2 x3 k14 Q x2 M))
def w_X12_layReport_14 (r0 : Nat) (x1 : Int) (x3 : Int)  (Q : pj_M → Prop) (x2 : Int) (M : pj_M) : Prop := pj_lp (fun (k : Int × pj_M → Prop) (s : Int × pj_M) => w_X12_layReport_14b r0 x1 x3  Q (fun (x2 : Int) (M : pj_M) => k (x2, M)) s.1 s.2) (x2, M)
def w_X12_layReport (r0 : Nat) (x1 : Int) (M : pj_M) (Q : pj_M → Prop) : Prop :=
  ∀ M1 : pj_M, M1 = pj_up M r0 22 0 → ∀ z2 : Int, z2 = ((M1 r0 14) + 2) → w_X12_layReport_14 r0 x1 z2  Q 0 M1
set_option maxRecDepth 20000 in
set_option maxHeartbeats 4000000 in
theorem s_X12_layReport_95 {l : Launch} {g : pj_G} (hg : pj_ph g = true) {r0 : Nat} {x1 : Int} {x3 : Int} {y0 : Int} {M : pj_M} {Q : pj_M → Prop} {k14 : Int → pj_M → Prop} (o0 : pj_ob r0 12) (hk14 : ∀ (x2 : Int) (M : pj_M), k14 x2 M → pj_R l g mdX12_layReport pj_T (pj_Zm g mdX12_layReport (pj_qv Q)) pj_NK 0 0 14 [(0, .ref r0), (1, .int (pj_I x1)), (2, .int (pj_I x2)), (3, .int (pj_I x3))] [] M) (h : w_X12_layReport_95 r0 x1 x3 y0 k14 Q M) : pj_R l g mdX12_layReport pj_T (pj_Zm g mdX12_layReport (pj_qv Q)) pj_NK 0 0 95 [(0, .ref r0), (1, .int (pj_I x1)), (3, .int (pj_I x3))] [.int (pj_I y0)] M := by
  unfold w_X12_layReport_95 at h
  refine pj_istore_n 96 (ls' := [(0, .ref r0), (1, .int (pj_I x1)), (2, .int (pj_I y0)), (3, .int (pj_I x3))]) rfl rfl (by decide) rfl rfl ?_
  refine pj_goto 14 rfl (by decide) ?_
  refine pn_sub [0, 1, 2, 3] rfl ?_
  exact hk14 _ _ h
set_option maxRecDepth 20000 in
set_option maxHeartbeats 4000000 in
theorem s_X12_layReport_55b {l : Launch} {g : pj_G} (hg : pj_ph g = true) {r0 : Nat} {x1 : Int} {x3 : Int} {x4 : Int} {x5 : Int} {M : pj_M} {Q : pj_M → Prop} {k14 : Int → pj_M → Prop} {k55 : Int → pj_M → Prop} (o0 : pj_ob r0 12) (hk14 : ∀ (x2 : Int) (M : pj_M), k14 x2 M → pj_R l g mdX12_layReport pj_T (pj_Zm g mdX12_layReport (pj_qv Q)) pj_NK 0 0 14 [(0, .ref r0), (1, .int (pj_I x1)), (2, .int (pj_I x2)), (3, .int (pj_I x3))] [] M) (hk55 : ∀ (x5 : Int) (M : pj_M), k55 x5 M → pj_R l g mdX12_layReport pj_T (pj_Zm g mdX12_layReport (pj_qv Q)) pj_NK 0 0 55 [(0, .ref r0), (1, .int (pj_I x1)), (3, .int (pj_I x3)), (4, .int (pj_I x4)), (5, .int (pj_I x5))] [] M) (h : w_X12_layReport_55b r0 x1 x3 x4 k14 Q k55 x5 M) : pj_R l g mdX12_layReport pj_T (pj_Zm g mdX12_layReport (pj_qv Q)) pj_NK 0 0 55 [(0, .ref r0), (1, .int (pj_I x1)), (3, .int (pj_I x3)), (4, .int (pj_I x4)), (5, .int (pj_I x5))] [] M := by
  unfold w_X12_layReport_55b at h
  refine pj_aload_n 56 0 rfl rfl rfl rfl ?_
  refine pj_iload 58 4 rfl rfl rfl ?_
  refine pj_iload 60 3 rfl rfl rfl ?_
  refine pn_callVi 63 12 [.int (pj_I x5), .int (pj_I x4)] [] o0 (s_X12_isFit hg o0 h) plX12_249 rfl rfl rfl rfl (Nat.le_of_ble_eq_true rfl) (by decide) (fun t10 M9 h => ?_)
  obtain ⟨q11, h⟩ := h
  refine pj_if_eq 72 66 rfl (by decide) rfl q11  (fun hc => ?_) (fun hc => ?_)
  · replace h := h.1 hc
    refine pj_aload_n 73 0 rfl rfl rfl rfl ?_
    refine pj_iload 75 4 rfl rfl rfl ?_
    refine pj_iload 77 3 rfl rfl rfl ?_
    refine pn_callVv 80 12 [.int (pj_I x5), .int (pj_I x4)] [] o0 (s_X12_put hg o0 h) plX12_271 rfl rfl rfl rfl (Nat.le_of_ble_eq_true rfl) (by decide) (fun M12 h => ?_)
    refine pj_iload_n 81 1 rfl rfl rfl rfl ?_
    obtain ⟨q14, h⟩ := h
    refine pj_if_eq 93 84 rfl (by decide) rfl q14  (fun hc => ?_) (fun hc => ?_)
    · replace h := h.1 hc
      refine pj_iload 95 3 rfl rfl rfl ?_
      refine pn_sub [0, 1, 2] rfl ?_
      exact s_X12_layReport_95 hg o0  hk14 h
    · replace h := h.2 hc
      refine pj_aload_n 85 0 rfl rfl rfl rfl ?_
      refine pj_iload 87 3 rfl rfl rfl ?_
      refine pn_callVi 90 12 [.int (pj_I x4)] [] o0 (s_X12_behind hg o0 h) plX12_274 rfl rfl rfl rfl (Nat.le_of_ble_eq_true rfl) (by decide) (fun t16 M15 h => ?_)
      refine pj_goto 95 rfl (by decide) ?_
      refine pn_sub [0, 1, 2] rfl ?_
      exact s_X12_layReport_95 hg o0  hk14 h
  · replace h := h.2 hc
    refine pj_iinc 69 4 (ls' := [(0, .ref r0), (1, .int (pj_I x1)), (3, .int (pj_I x3)), (4, .int (pj_I x4)), (5, .int (pj_I (x5 + (-1))))]) rfl rfl (by decide) rfl rfl ?_
    refine pj_goto 55 rfl (by decide) ?_
    refine pn_sub [0, 1, 2, 3, 4] rfl ?_
    exact hk55 _ _ h
set_option maxRecDepth 20000 in
set_option maxHeartbeats 4000000 in
theorem s_X12_layReport_55 {l : Launch} {g : pj_G} (hg : pj_ph g = true) {r0 : Nat} {x1 : Int} {x3 : Int} {x4 : Int} {x5 : Int} {M : pj_M} {Q : pj_M → Prop} {k14 : Int → pj_M → Prop} (o0 : pj_ob r0 12) (hk14 : ∀ (x2 : Int) (M : pj_M), k14 x2 M → pj_R l g mdX12_layReport pj_T (pj_Zm g mdX12_layReport (pj_qv Q)) pj_NK 0 0 14 [(0, .ref r0), (1, .int (pj_I x1)), (2, .int (pj_I x2)), (3, .int (pj_I x3))] [] M) (h : w_X12_layReport_55 r0 x1 x3 x4 k14 Q x5 M) : pj_R l g mdX12_layReport pj_T (pj_Zm g mdX12_layReport (pj_qv Q)) pj_NK 0 0 55 [(0, .ref r0), (1, .int (pj_I x1)), (3, .int (pj_I x3)), (4, .int (pj_I x4)), (5, .int (pj_I x5))] [] M :=
  h (fun s => pj_R l g mdX12_layReport pj_T (pj_Zm g mdX12_layReport (pj_qv Q)) pj_NK 0 0 55 [(0, .ref r0), (1, .int (pj_I x1)), (3, .int (pj_I x3)), (4, .int (pj_I x4)), (5, .int (pj_I (s.1)))] [] s.2) (fun s hs => s_X12_layReport_55b hg o0 hk14 (fun _ _ q => q) hs)
set_option maxRecDepth 20000 in
set_option maxHeartbeats 4000000 in
theorem s_X12_layReport_44 {l : Launch} {g : pj_G} (hg : pj_ph g = true) {r0 : Nat} {x1 : Int} {x3 : Int} {x4 : Int} {M : pj_M} {Q : pj_M → Prop} {k14 : Int → pj_M → Prop} (o0 : pj_ob r0 12) (hk14 : ∀ (x2 : Int) (M : pj_M), k14 x2 M → pj_R l g mdX12_layReport pj_T (pj_Zm g mdX12_layReport (pj_qv Q)) pj_NK 0 0 14 [(0, .ref r0), (1, .int (pj_I x1)), (2, .int (pj_I x2)), (3, .int (pj_I x3))] [] M) (h : w_X12_layReport_44 r0 x1 x3 x4 k14 Q M) : pj_R l g mdX12_layReport pj_T (pj_Zm g mdX12_layReport (pj_qv Q)) pj_NK 0 0 44 [(0, .ref r0), (1, .int (pj_I x1)), (3, .int (pj_I x3)), (4, .int (pj_I x4))] [] M := by
  unfold w_X12_layReport_44 at h
  refine pj_iload 46 3 rfl rfl rfl ?_
  refine pj_iload_n 47 2 rfl rfl rfl rfl ?_
  obtain ⟨q7, h⟩ := h
  obtain ⟨q8, h⟩ := h
  refine pj_icmp_le 51 50 rfl (by decide) rfl q7 q8 (fun hc => ?_) (fun hc => ?_)
  · replace h := h.1 hc
    refine pj_iload 53 3 rfl rfl rfl ?_
    refine pj_istore 55 (ls' := [(0, .ref r0), (1, .int (pj_I x1)), (3, .int (pj_I x3)), (4, .int (pj_I x4)), (5, .int (pj_I x4))]) rfl (by decide) rfl rfl ?_
    refine pn_sub [0, 1, 2, 3, 4] rfl ?_
    exact s_X12_layReport_55 hg o0  hk14 h
  · replace h := h.2 hc
    exact pn_vret h rfl rfl
set_option maxRecDepth 20000 in
set_option maxHeartbeats 4000000 in
theorem s_X12_layReport_22b {l : Launch} {g : pj_G} (hg : pj_ph g = true) {r0 : Nat} {x1 : Int} {x2 : Int} {x3 : Int} {x4 : Int} {M : pj_M} {Q : pj_M → Prop} {k14 : Int → pj_M → Prop} {k22 : Int → pj_M → Prop} (o0 : pj_ob r0 12) (hk14 : ∀ (x2 : Int) (M : pj_M), k14 x2 M → pj_R l g mdX12_layReport pj_T (pj_Zm g mdX12_layReport (pj_qv Q)) pj_NK 0 0 14 [(0, .ref r0), (1, .int (pj_I x1)), (2, .int (pj_I x2)), (3, .int (pj_I x3))] [] M) (hk22 : ∀ (x4 : Int) (M : pj_M), k22 x4 M → pj_R l g mdX12_layReport pj_T (pj_Zm g mdX12_layReport (pj_qv Q)) pj_NK 0 0 22 [(0, .ref r0), (1, .int (pj_I x1)), (2, .int (pj_I x2)), (3, .int (pj_I x3)), (4, .int (pj_I x4))] [] M) (h : w_X12_layReport_22b r0 x1 x2 x3 k14 Q k22 x4 M) : pj_R l g mdX12_layReport pj_T (pj_Zm g mdX12_layReport (pj_qv Q)) pj_NK 0 0 22 [(0, .ref r0), (1, .int (pj_I x1)), (2, .int (pj_I x2)), (3, .int (pj_I x3)), (4, .int (pj_I x4))] [] M := by
  unfold w_X12_layReport_22b at h
  refine pj_iload 24 4 rfl rfl rfl ?_
  refine pj_iload_n 25 3 rfl rfl rfl rfl ?_
  obtain ⟨q5, h⟩ := h
  obtain ⟨q6, h⟩ := h
  refine pj_icmp_gt 44 28 rfl (by decide) rfl q5 q6 (fun hc => ?_) (fun hc => ?_)
  · replace h := h.1 hc
    refine pn_sub [0, 1, 3, 4] rfl ?_
    exact s_X12_layReport_44 hg o0  hk14 h
  · replace h := h.2 hc
    refine pj_aload_n 29 0 rfl rfl rfl rfl ?_
    refine pj_iload_n 30 2 rfl rfl rfl rfl ?_
    refine pj_iload 32 4 rfl rfl rfl ?_
    refine pn_callVi 35 12 [.int (pj_I x2), .int (pj_I x4)] [] o0 (s_X12_isFit hg o0 h) plX12_249 rfl rfl rfl rfl (Nat.le_of_ble_eq_true rfl) (by decide) (fun t18 M17 h => ?_)
    obtain ⟨q19, h⟩ := h
    refine pj_if_eq 44 38 rfl (by decide) rfl q19  (fun hc => ?_) (fun hc => ?_)
    · replace h := h.1 hc
      refine pn_sub [0, 1, 3, 4] rfl ?_
      exact s_X12_layReport_44 hg o0  hk14 h
    · replace h := h.2 hc
      refine pj_iinc 41 4 (ls' := [(0, .ref r0), (1, .int (pj_I x1)), (2, .int (pj_I x2)), (3, .int (pj_I x3)), (4, .int (pj_I (x4 + 1)))]) rfl rfl (by decide) rfl rfl ?_
      refine pj_goto 22 rfl (by decide) ?_
      refine pn_sub [0, 1, 2, 3, 4] rfl ?_
      exact hk22 _ _ h
set_option maxRecDepth 20000 in
set_option maxHeartbeats 4000000 in
theorem s_X12_layReport_22 {l : Launch} {g : pj_G} (hg : pj_ph g = true) {r0 : Nat} {x1 : Int} {x2 : Int} {x3 : Int} {x4 : Int} {M : pj_M} {Q : pj_M → Prop} {k14 : Int → pj_M → Prop} (o0 : pj_ob r0 12) (hk14 : ∀ (x2 : Int) (M : pj_M), k14 x2 M → pj_R l g mdX12_layReport pj_T (pj_Zm g mdX12_layReport (pj_qv Q)) pj_NK 0 0 14 [(0, .ref r0), (1, .int (pj_I x1)), (2, .int (pj_I x2)), (3, .int (pj_I x3))] [] M) (h : w_X12_layReport_22 r0 x1 x2 x3 k14 Q x4 M) : pj_R l g mdX12_layReport pj_T (pj_Zm g mdX12_layReport (pj_qv Q)) pj_NK 0 0 22 [(0, .ref r0), (1, .int (pj_I x1)), (2, .int (pj_I x2)), (3, .int (pj_I x3)), (4, .int (pj_I x4))] [] M :=
  h (fun s => pj_R l g mdX12_layReport pj_T (pj_Zm g mdX12_layReport (pj_qv Q)) pj_NK 0 0 22 [(0, .ref r0), (1, .int (pj_I x1)), (2, .int (pj_I x2)), (3, .int (pj_I x3)), (4, .int (pj_I (s.1)))] [] s.2) (fun s hs => s_X12_layReport_22b hg o0 hk14 (fun _ _ q => q) hs)
set_option maxRecDepth 20000 in
set_option maxHeartbeats 4000000 in
theorem s_X12_layReport_14b {l : Launch} {g : pj_G} (hg : pj_ph g = true) {r0 : Nat} {x1 : Int} {x2 : Int} {x3 : Int} {M : pj_M} {Q : pj_M → Prop}  {k14 : Int → pj_M → Prop} (o0 : pj_ob r0 12)  (hk14 : ∀ (x2 : Int) (M : pj_M), k14 x2 M → pj_R l g mdX12_layReport pj_T (pj_Zm g mdX12_layReport (pj_qv Q)) pj_NK 0 0 14 [(0, .ref r0), (1, .int (pj_I x1)), (2, .int (pj_I x2)), (3, .int (pj_I x3))] [] M) (h : w_X12_layReport_14b r0 x1 x3  Q k14 x2 M) : pj_R l g mdX12_layReport pj_T (pj_Zm g mdX12_layReport (pj_qv Q)) pj_NK 0 0 14 [(0, .ref r0), (1, .int (pj_I x1)), (2, .int (pj_I x2)), (3, .int (pj_I x3))] [] M := by
  unfold w_X12_layReport_14b at h
  refine pj_iload_n 15 2 rfl rfl rfl rfl ?_
  refine pj_iload_n 16 3 rfl rfl rfl rfl ?_
  obtain ⟨q3, h⟩ := h
  obtain ⟨q4, h⟩ := h
  refine pj_icmp_gt 99 19 rfl (by decide) rfl q3 q4 (fun hc => ?_) (fun hc => ?_)
  · replace h := h.1 hc
    exact pn_vret h rfl rfl
  · replace h := h.2 hc
    refine pj_iload_n 20 2 rfl rfl rfl rfl ?_
    refine pj_istore 22 (ls' := [(0, .ref r0), (1, .int (pj_I x1)), (2, .int (pj_I x2)), (3, .int (pj_I x3)), (4, .int (pj_I x2))]) rfl (by decide) rfl rfl ?_
    refine pn_sub [0, 1, 2, 3, 4] rfl ?_
    exact s_X12_layReport_22 hg o0  hk14 h
set_option maxRecDepth 20000 in
set_option maxHeartbeats 4000000 in
theorem s_X12_layReport_14 {l : Launch} {g : pj_G} (hg : pj_ph g = true) {r0 : Nat} {x1 : Int} {x2 : Int} {x3 : Int} {M : pj_M} {Q : pj_M → Prop}  (o0 : pj_ob r0 12)  (h : w_X12_layReport_14 r0 x1 x3  Q x2 M) : pj_R l g mdX12_layReport pj_T (pj_Zm g mdX12_layReport (pj_qv Q)) pj_NK 0 0 14 [(0, .ref r0), (1, .int (pj_I x1)), (2, .int (pj_I x2)), (3, .int (pj_I x3))] [] M :=
  h (fun s => pj_R l g mdX12_layReport pj_T (pj_Zm g mdX12_layReport (pj_qv Q)) pj_NK 0 0 14 [(0, .ref r0), (1, .int (pj_I x1)), (2, .int (pj_I (s.1))), (3, .int (pj_I x3))] [] s.2) (fun s hs => s_X12_layReport_14b hg o0  (fun _ _ q => q) hs)
set_option maxRecDepth 20000 in
set_option maxHeartbeats 4000000 in
theorem s_X12_layReport {l : Launch} {g : pj_G} (hg : pj_ph g = true) {r0 : Nat} {x1 : Int} {M : pj_M} {Q : pj_M → Prop} (o0 : pj_ob r0 12) (h : w_X12_layReport r0 x1 M Q) : pj_S l g mdX12_layReport [.ref r0, .int (pj_I x1)] pj_NK M (pj_qv Q) := by
  refine pj_ofR (ls := [(0, .ref r0), (1, .int (pj_I x1))]) gcX12_layReport (by decide) rfl (Nat.le_of_ble_eq_true rfl) rfl ?_
  unfold w_X12_layReport at h
  refine pj_aload_n 1 0 rfl rfl rfl rfl ?_
  refine pj_iconst 2 rfl rfl ?_
  refine pn_puti 5 12 22 22 o0  rfl pfX12_268 rfl rfl rfl (fun M1 hM1 => ?_)
  replace h := h M1 hM1
  refine pj_iconst 6 rfl rfl ?_
  refine pj_istore_n 7 (ls' := [(0, .ref r0), (1, .int (pj_I x1)), (2, .int (pj_I 0))]) rfl rfl (by decide) rfl rfl ?_
  refine pj_aload_n 8 0 rfl rfl rfl rfl ?_
  refine pn_geti 11 12 14 14 o0 rfl pfX12_214 (Or.inl rfl) rfl rfl ?_
  refine pj_iconst 12 rfl rfl ?_
  refine pj_iadd 13 rfl rfl ?_
  refine pn_nm (fun z2 hz2 => ?_)
  replace h := h z2 hz2
  refine pj_istore_n 14 (ls' := [(0, .ref r0), (1, .int (pj_I x1)), (2, .int (pj_I 0)), (3, .int (pj_I z2))]) rfl rfl (by decide) rfl rfl ?_
  refine pn_sub [0, 1, 2, 3] rfl ?_
  exact s_X12_layReport_14 hg o0   h
def w_X12_report (r0 : Nat) (M : pj_M) (Q : Int → pj_M → Prop) : Prop :=
  ∀ M1 : pj_M, M1 = pj_up M r0 5 0 → w_X12_layAll r0 (M1 (pj_rf r0 0) 73) M1 (fun (M2 : pj_M) => w_X12_layReport r0 0 M2 (fun (M4 : pj_M) => w_X12_tellPieces r0 M4 (fun (M6 : pj_M) => Q (M6 r0 22) M6)))
set_option maxRecDepth 20000 in
set_option maxHeartbeats 4000000 in
theorem s_X12_report {l : Launch} {g : pj_G} (hg : pj_ph g = true) {r0 : Nat} {M : pj_M} {Q : Int → pj_M → Prop} (o0 : pj_ob r0 12) (h : w_X12_report r0 M Q) : pj_S l g mdX12_report [.ref r0] pj_NK M (pj_qi Q) := by
  refine pj_ofR (ls := [(0, .ref r0)]) gcX12_report (by decide) rfl (Nat.le_of_ble_eq_true rfl) rfl ?_
  unfold w_X12_report at h
  refine pj_aload_n 1 0 rfl rfl rfl rfl ?_
  refine pj_iconst 2 rfl rfl ?_
  refine pn_puti 5 12 5 5 o0  rfl pfX12_88 rfl rfl rfl (fun M1 hM1 => ?_)
  replace h := h M1 hM1
  refine pj_aload_n 6 0 rfl rfl rfl rfl ?_
  refine pj_aload_n 7 0 rfl rfl rfl rfl ?_
  refine pn_getr 10 12 0 hg o0 (pr_12_0 o0).2 rfl pfX12_9 rfl rfl ?_
  refine pj_bipush 12 rfl (by decide) rfl ?_
  refine pn_iald 13 95 (pr_12_0 o0) (show 0 ≤ (73 : Int) ∧ (73 : Int) < ((95 : Nat) : Int) by decide) rfl rfl ?_
  refine pn_callVv 16 12 [.int (pj_I (M1 (pj_rf r0 0) 73))] [] o0 (s_X12_layAll hg o0 h) plX12_246 rfl rfl rfl rfl (Nat.le_of_ble_eq_true rfl) (by decide) (fun M2 h => ?_)
  refine pj_aload_n 17 0 rfl rfl rfl rfl ?_
  refine pj_iconst 18 rfl rfl ?_
  refine pn_callVv 21 12 [.int (pj_I 0)] [] o0 (s_X12_layReport hg o0 h) plX12_277 rfl rfl rfl rfl (Nat.le_of_ble_eq_true rfl) (by decide) (fun M4 h => ?_)
  refine pj_aload_n 22 0 rfl rfl rfl rfl ?_
  refine pn_callVv 25 12 [] [] o0 (s_X12_tellPieces hg o0 h) plX12_281 rfl rfl rfl rfl (Nat.le_of_ble_eq_true rfl) (by decide) (fun M6 h => ?_)
  refine pj_aload_n 26 0 rfl rfl rfl rfl ?_
  refine pn_geti 29 12 22 22 o0 rfl pfX12_268 (Or.inl rfl) rfl rfl ?_
  exact pn_iret h rfl rfl
def w_X12_backwards_100b (r0 : Nat)  (Q : Int → pj_M → Prop) (k100 : Int → pj_M → Prop) (x2 : Int) (M : pj_M) : Prop :=
  (pj_in x2) ∧ ((x2 < 0 → Q (M r0 22) M) ∧ (¬ x2 < 0 → ((0 : Int) ≤ (2 * x2) ∧ (2 * x2) < 64) ∧ (pj_in (M (pj_rf r0 21) (2 * x2))) ∧ w_X12_tell r0 (M (pj_rf r0 21) (2 * x2)) M (fun (M12 : pj_M) => ((0 : Int) ≤ ((2 * x2) + 1) ∧ ((2 * x2) + 1) < 64) ∧ (pj_in (M12 (pj_rf r0 21) ((2 * x2) + 1))) ∧ w_X12_tell r0 (M12 (pj_rf r0 21) ((2 * x2) + 1)) M12 (fun (M16 : pj_M) => k100 (x2 + (-1)) M16))))
def w_X12_backwards_100 (r0 : Nat)  (Q : Int → pj_M → Prop) (x2 : Int) (M : pj_M) : Prop := pj_lp (fun (k : Int × pj_M → Prop) (s : Int × pj_M) => w_X12_backwards_100b r0  Q (fun (x2 : Int) (M : pj_M) => k (x2, M)) s.1 s.2) (x2, M)
def w_X12_backwards_88 (r0 : Nat)  (Q : Int → pj_M → Prop) (M : pj_M) : Prop :=
  ∀ M7 : pj_M, M7 = pj_up M r0 4 0 → ∀ z8 : Int, z8 = ((M7 r0 22) - 1) → w_X12_backwards_100 r0  Q z8 M7
def w_X12_backwards_62b (r0 : Nat) (x2 : Int) (k28 : Int → pj_M → Prop) (Q : Int → pj_M → Prop) (k62 : Int → pj_M → Prop) (x3 : Int) (M : pj_M) : Prop :=
  w_X12_isFit r0 x2 x3 M (fun (t21 : Int) (M20 : pj_M) => (pj_in t21) ∧ ((t21 = 0 → w_X12_put r0 x2 x3 M20 (fun (M23 : pj_M) => k28 x2 M23)) ∧ (¬ t21 = 0 → k62 (x3 + 1) M20)))
def w_X12_backwards_62 (r0 : Nat) (x2 : Int) (k28 : Int → pj_M → Prop) (Q : Int → pj_M → Prop) (x3 : Int) (M : pj_M) : Prop := pj_lp (fun (k : Int × pj_M → Prop) (s : Int × pj_M) => w_X12_backwards_62b r0 x2 k28 Q (fun (x3 : Int) (M : pj_M) => k (x3, M)) s.1 s.2) (x3, M)
def w_X12_backwards_53 (r0 : Nat) (x2 : Int) (k28 : Int → pj_M → Prop) (Q : Int → pj_M → Prop) (M : pj_M) : Prop :=
  (pj_in x2) ∧ ((0 ≤ x2 → w_X12_backwards_62 r0 x2 k28 Q x2 M) ∧ (¬ 0 ≤ x2 → w_X12_backwards_88 r0  Q M))
def w_X12_backwards_34b (r0 : Nat) (x1 : Int) (k28 : Int → pj_M → Prop) (Q : Int → pj_M → Prop) (k34 : Int → pj_M → Prop) (x2 : Int) (M : pj_M) : Prop :=
  (pj_in x2) ∧ ((x2 < 0 → w_X12_backwards_53 r0 x2 k28 Q M) ∧ (¬ x2 < 0 → w_X12_isFit r0 x2 x1 M (fun (t26 : Int) (M25 : pj_M) => (pj_in t26) ∧ ((t26 = 0 → w_X12_backwards_53 r0 x2 k28 Q M25) ∧ (¬ t26 = 0 → k34 (x2 + (-1)) M25)))))
def w_X12_backwards_34 (r0 : Nat) (x1 : Int) (k28 : Int → pj_M → Prop) (Q : Int → pj_M → Prop) (x2 : Int) (M : pj_M) : Prop := pj_lp (fun (k : Int × pj_M → Prop) (s : Int × pj_M) => w_X12_backwards_34b r0 x1 k28 Q (fun (x2 : Int) (M : pj_M) => k (x2, M)) s.1 s.2) (x2, M)
def w_X12_backwards_28b (r0 : Nat)  (Q : Int → pj_M → Prop) (k28 : Int → pj_M → Prop) (x1 : Int) (M : pj_M) : Prop :=
  (pj_in x1) ∧ ((x1 < 0 → w_X12_backwards_88 r0  Q M) ∧ (¬ x1 < 0 → w_X12_backwards_34 r0 x1 k28 Q x1 M))
def w_X12_backwards_28 (r0 : Nat)  (Q : Int → pj_M → Prop) (x1 : Int) (M : pj_M) : Prop := pj_lp (fun (k : Int × pj_M → Prop) (s : Int × pj_M) => w_X12_backwards_28b r0  Q (fun (x1 : Int) (M : pj_M) => k (x1, M)) s.1 s.2) (x1, M)
def w_X12_backwards (r0 : Nat) (M : pj_M) (Q : Int → pj_M → Prop) : Prop :=
  ∀ M1 : pj_M, M1 = pj_up M r0 5 0 → w_X12_layAll r0 (M1 (pj_rf r0 0) 73) M1 (fun (M2 : pj_M) => ∀ M4 : pj_M, M4 = pj_up M2 r0 22 0 → ∀ z5 : Int, z5 = ((M4 r0 14) + 2) → w_X12_backwards_28 r0  Q z5 M4)
set_option maxRecDepth 20000 in
set_option maxHeartbeats 4000000 in
theorem s_X12_backwards_100b {l : Launch} {g : pj_G} (hg : pj_ph g = true) {r0 : Nat} {x2 : Int} {M : pj_M} {Q : Int → pj_M → Prop}  {k100 : Int → pj_M → Prop} (o0 : pj_ob r0 12)  (hk100 : ∀ (x2 : Int) (M : pj_M), k100 x2 M → pj_R l g mdX12_backwards pj_T (pj_Zm g mdX12_backwards (pj_qi Q)) pj_NK 0 0 100 [(0, .ref r0), (2, .int (pj_I x2))] [] M) (h : w_X12_backwards_100b r0  Q k100 x2 M) : pj_R l g mdX12_backwards pj_T (pj_Zm g mdX12_backwards (pj_qi Q)) pj_NK 0 0 100 [(0, .ref r0), (2, .int (pj_I x2))] [] M := by
  unfold w_X12_backwards_100b at h
  refine pj_iload_n 101 1 rfl rfl rfl rfl ?_
  obtain ⟨q9, h⟩ := h
  refine pj_if_lt 138 104 rfl (by decide) rfl q9  (fun hc => ?_) (fun hc => ?_)
  · replace h := h.1 hc
    refine pj_aload_n 139 0 rfl rfl rfl rfl ?_
    refine pn_geti 142 12 22 22 o0 rfl pfX12_268 (Or.inl rfl) rfl rfl ?_
    exact pn_iret h rfl rfl
  · replace h := h.2 hc
    refine pj_aload_n 105 0 rfl rfl rfl rfl ?_
    refine pj_aload_n 106 0 rfl rfl rfl rfl ?_
    refine pn_getr 109 12 21 hg o0 (pr_12_21 o0).2 rfl pfX12_52 rfl rfl ?_
    refine pj_iconst 110 rfl rfl ?_
    refine pj_iload_n 111 1 rfl rfl rfl rfl ?_
    refine pj_imul 112 rfl rfl ?_
    obtain ⟨q10, h⟩ := h
    refine pn_iald 113 64 (pr_12_21 o0) q10 rfl rfl ?_
    obtain ⟨q11, h⟩ := h
    refine pj_i2l 114 rfl rfl q11 ?_
    refine pn_callVv 117 12 [.long (pj_L (M (pj_rf r0 21) (2 * x2)))] [] o0 (s_X12_tell hg o0 h) plX12_260 rfl rfl rfl rfl (Nat.le_of_ble_eq_true rfl) (by decide) (fun M12 h => ?_)
    refine pj_aload_n 118 0 rfl rfl rfl rfl ?_
    refine pj_aload_n 119 0 rfl rfl rfl rfl ?_
    refine pn_getr 122 12 21 hg o0 (pr_12_21 o0).2 rfl pfX12_52 rfl rfl ?_
    refine pj_iconst 123 rfl rfl ?_
    refine pj_iload_n 124 1 rfl rfl rfl rfl ?_
    refine pj_imul 125 rfl rfl ?_
    refine pj_iconst 126 rfl rfl ?_
    refine pj_iadd 127 rfl rfl ?_
    obtain ⟨q14, h⟩ := h
    refine pn_iald 128 64 (pr_12_21 o0) q14 rfl rfl ?_
    obtain ⟨q15, h⟩ := h
    refine pj_i2l 129 rfl rfl q15 ?_
    refine pn_callVv 132 12 [.long (pj_L (M12 (pj_rf r0 21) ((2 * x2) + 1)))] [] o0 (s_X12_tell hg o0 h) plX12_260 rfl rfl rfl rfl (Nat.le_of_ble_eq_true rfl) (by decide) (fun M16 h => ?_)
    refine pj_iinc 135 1 (ls' := [(0, .ref r0), (2, .int (pj_I (x2 + (-1))))]) rfl rfl (by decide) rfl rfl ?_
    refine pj_goto 100 rfl (by decide) ?_
    refine pn_sub [0, 1] rfl ?_
    exact hk100 _ _ h
set_option maxRecDepth 20000 in
set_option maxHeartbeats 4000000 in
theorem s_X12_backwards_100 {l : Launch} {g : pj_G} (hg : pj_ph g = true) {r0 : Nat} {x2 : Int} {M : pj_M} {Q : Int → pj_M → Prop}  (o0 : pj_ob r0 12)  (h : w_X12_backwards_100 r0  Q x2 M) : pj_R l g mdX12_backwards pj_T (pj_Zm g mdX12_backwards (pj_qi Q)) pj_NK 0 0 100 [(0, .ref r0), (2, .int (pj_I x2))] [] M :=
  h (fun s => pj_R l g mdX12_backwards pj_T (pj_Zm g mdX12_backwards (pj_qi Q)) pj_NK 0 0 100 [(0, .ref r0), (2, .int (pj_I (s.1)))] [] s.2) (fun s hs => s_X12_backwards_100b hg o0  (fun _ _ q => q) hs)
set_option maxRecDepth 20000 in
set_option maxHeartbeats 4000000 in
theorem s_X12_backwards_88 {l : Launch} {g : pj_G} (hg : pj_ph g = true) {r0 : Nat} {M : pj_M} {Q : Int → pj_M → Prop}  (o0 : pj_ob r0 12)  (h : w_X12_backwards_88 r0  Q M) : pj_R l g mdX12_backwards pj_T (pj_Zm g mdX12_backwards (pj_qi Q)) pj_NK 0 0 88 [(0, .ref r0)] [] M := by
  unfold w_X12_backwards_88 at h
  refine pj_aload_n 89 0 rfl rfl rfl rfl ?_
  refine pj_iconst 90 rfl rfl ?_
  refine pn_puti 93 12 4 4 o0  rfl pfX12_92 rfl rfl rfl (fun M7 hM7 => ?_)
  replace h := h M7 hM7
  refine pj_aload_n 94 0 rfl rfl rfl rfl ?_
  refine pn_geti 97 12 22 22 o0 rfl pfX12_268 (Or.inl rfl) rfl rfl ?_
  refine pj_iconst 98 rfl rfl ?_
  refine pj_isub 99 rfl rfl ?_
  refine pn_nm (fun z8 hz8 => ?_)
  replace h := h z8 hz8
  refine pj_istore_n 100 (ls' := [(0, .ref r0), (2, .int (pj_I z8))]) rfl rfl (by decide) rfl rfl ?_
  refine pn_sub [0, 1] rfl ?_
  exact s_X12_backwards_100 hg o0   h
set_option maxRecDepth 20000 in
set_option maxHeartbeats 4000000 in
theorem s_X12_backwards_62b {l : Launch} {g : pj_G} (hg : pj_ph g = true) {r0 : Nat} {x2 : Int} {x3 : Int} {M : pj_M} {Q : Int → pj_M → Prop} {k28 : Int → pj_M → Prop} {k62 : Int → pj_M → Prop} (o0 : pj_ob r0 12) (hk28 : ∀ (x1 : Int) (M : pj_M), k28 x1 M → pj_R l g mdX12_backwards pj_T (pj_Zm g mdX12_backwards (pj_qi Q)) pj_NK 0 0 28 [(0, .ref r0), (1, .int (pj_I x1))] [] M) (hk62 : ∀ (x3 : Int) (M : pj_M), k62 x3 M → pj_R l g mdX12_backwards pj_T (pj_Zm g mdX12_backwards (pj_qi Q)) pj_NK 0 0 62 [(0, .ref r0), (2, .int (pj_I x2)), (3, .int (pj_I x3))] [] M) (h : w_X12_backwards_62b r0 x2 k28 Q k62 x3 M) : pj_R l g mdX12_backwards pj_T (pj_Zm g mdX12_backwards (pj_qi Q)) pj_NK 0 0 62 [(0, .ref r0), (2, .int (pj_I x2)), (3, .int (pj_I x3))] [] M := by
  unfold w_X12_backwards_62b at h
  refine pj_aload_n 63 0 rfl rfl rfl rfl ?_
  refine pj_iload_n 64 1 rfl rfl rfl rfl ?_
  refine pj_iload_n 65 2 rfl rfl rfl rfl ?_
  refine pn_callVi 68 12 [.int (pj_I x2), .int (pj_I x3)] [] o0 (s_X12_isFit hg o0 h) plX12_249 rfl rfl rfl rfl (Nat.le_of_ble_eq_true rfl) (by decide) (fun t21 M20 h => ?_)
  obtain ⟨q22, h⟩ := h
  refine pj_if_eq 77 71 rfl (by decide) rfl q22  (fun hc => ?_) (fun hc => ?_)
  · replace h := h.1 hc
    refine pj_aload_n 78 0 rfl rfl rfl rfl ?_
    refine pj_iload_n 79 1 rfl rfl rfl rfl ?_
    refine pj_iload_n 80 2 rfl rfl rfl rfl ?_
    refine pn_callVv 83 12 [.int (pj_I x2), .int (pj_I x3)] [] o0 (s_X12_put hg o0 h) plX12_271 rfl rfl rfl rfl (Nat.le_of_ble_eq_true rfl) (by decide) (fun M23 h => ?_)
    refine pj_iload_n 84 1 rfl rfl rfl rfl ?_
    refine pj_istore_n 85 (ls' := [(0, .ref r0), (1, .int (pj_I x2)), (2, .int (pj_I x2)), (3, .int (pj_I x3))]) rfl rfl (by decide) rfl rfl ?_
    refine pj_goto 28 rfl (by decide) ?_
    refine pn_sub [0, 1] rfl ?_
    exact hk28 _ _ h
  · replace h := h.2 hc
    refine pj_iinc 74 2 (ls' := [(0, .ref r0), (2, .int (pj_I x2)), (3, .int (pj_I (x3 + 1)))]) rfl rfl (by decide) rfl rfl ?_
    refine pj_goto 62 rfl (by decide) ?_
    refine pn_sub [0, 1, 2] rfl ?_
    exact hk62 _ _ h
set_option maxRecDepth 20000 in
set_option maxHeartbeats 4000000 in
theorem s_X12_backwards_62 {l : Launch} {g : pj_G} (hg : pj_ph g = true) {r0 : Nat} {x2 : Int} {x3 : Int} {M : pj_M} {Q : Int → pj_M → Prop} {k28 : Int → pj_M → Prop} (o0 : pj_ob r0 12) (hk28 : ∀ (x1 : Int) (M : pj_M), k28 x1 M → pj_R l g mdX12_backwards pj_T (pj_Zm g mdX12_backwards (pj_qi Q)) pj_NK 0 0 28 [(0, .ref r0), (1, .int (pj_I x1))] [] M) (h : w_X12_backwards_62 r0 x2 k28 Q x3 M) : pj_R l g mdX12_backwards pj_T (pj_Zm g mdX12_backwards (pj_qi Q)) pj_NK 0 0 62 [(0, .ref r0), (2, .int (pj_I x2)), (3, .int (pj_I x3))] [] M :=
  h (fun s => pj_R l g mdX12_backwards pj_T (pj_Zm g mdX12_backwards (pj_qi Q)) pj_NK 0 0 62 [(0, .ref r0), (2, .int (pj_I x2)), (3, .int (pj_I (s.1)))] [] s.2) (fun s hs => s_X12_backwards_62b hg o0 hk28 (fun _ _ q => q) hs)
set_option maxRecDepth 20000 in
set_option maxHeartbeats 4000000 in
theorem s_X12_backwards_53 {l : Launch} {g : pj_G} (hg : pj_ph g = true) {r0 : Nat} {x2 : Int} {M : pj_M} {Q : Int → pj_M → Prop} {k28 : Int → pj_M → Prop} (o0 : pj_ob r0 12) (hk28 : ∀ (x1 : Int) (M : pj_M), k28 x1 M → pj_R l g mdX12_backwards pj_T (pj_Zm g mdX12_backwards (pj_qi Q)) pj_NK 0 0 28 [(0, .ref r0), (1, .int (pj_I x1))] [] M) (h : w_X12_backwards_53 r0 x2 k28 Q M) : pj_R l g mdX12_backwards pj_T (pj_Zm g mdX12_backwards (pj_qi Q)) pj_NK 0 0 53 [(0, .ref r0), (2, .int (pj_I x2))] [] M := by
  unfold w_X12_backwards_53 at h
  refine pj_iload_n 54 1 rfl rfl rfl rfl ?_
  obtain ⟨q19, h⟩ := h
  refine pj_if_ge 60 57 rfl (by decide) rfl q19  (fun hc => ?_) (fun hc => ?_)
  · replace h := h.1 hc
    refine pj_iload_n 61 1 rfl rfl rfl rfl ?_
    refine pj_istore_n 62 (ls' := [(0, .ref r0), (2, .int (pj_I x2)), (3, .int (pj_I x2))]) rfl rfl (by decide) rfl rfl ?_
    refine pn_sub [0, 1, 2] rfl ?_
    exact s_X12_backwards_62 hg o0  hk28 h
  · replace h := h.2 hc
    refine pj_goto 88 rfl (by decide) ?_
    refine pn_sub [0] rfl ?_
    exact s_X12_backwards_88 hg o0   h
set_option maxRecDepth 20000 in
set_option maxHeartbeats 4000000 in
theorem s_X12_backwards_34b {l : Launch} {g : pj_G} (hg : pj_ph g = true) {r0 : Nat} {x1 : Int} {x2 : Int} {M : pj_M} {Q : Int → pj_M → Prop} {k28 : Int → pj_M → Prop} {k34 : Int → pj_M → Prop} (o0 : pj_ob r0 12) (hk28 : ∀ (x1 : Int) (M : pj_M), k28 x1 M → pj_R l g mdX12_backwards pj_T (pj_Zm g mdX12_backwards (pj_qi Q)) pj_NK 0 0 28 [(0, .ref r0), (1, .int (pj_I x1))] [] M) (hk34 : ∀ (x2 : Int) (M : pj_M), k34 x2 M → pj_R l g mdX12_backwards pj_T (pj_Zm g mdX12_backwards (pj_qi Q)) pj_NK 0 0 34 [(0, .ref r0), (1, .int (pj_I x1)), (2, .int (pj_I x2))] [] M) (h : w_X12_backwards_34b r0 x1 k28 Q k34 x2 M) : pj_R l g mdX12_backwards pj_T (pj_Zm g mdX12_backwards (pj_qi Q)) pj_NK 0 0 34 [(0, .ref r0), (1, .int (pj_I x1)), (2, .int (pj_I x2))] [] M := by
  unfold w_X12_backwards_34b at h
  refine pj_iload_n 35 2 rfl rfl rfl rfl ?_
  obtain ⟨q18, h⟩ := h
  refine pj_if_lt 53 38 rfl (by decide) rfl q18  (fun hc => ?_) (fun hc => ?_)
  · replace h := h.1 hc
    refine pn_sub [0, 2] rfl ?_
    exact s_X12_backwards_53 hg o0  hk28 h
  · replace h := h.2 hc
    refine pj_aload_n 39 0 rfl rfl rfl rfl ?_
    refine pj_iload_n 40 2 rfl rfl rfl rfl ?_
    refine pj_iload_n 41 1 rfl rfl rfl rfl ?_
    refine pn_callVi 44 12 [.int (pj_I x2), .int (pj_I x1)] [] o0 (s_X12_isFit hg o0 h) plX12_249 rfl rfl rfl rfl (Nat.le_of_ble_eq_true rfl) (by decide) (fun t26 M25 h => ?_)
    obtain ⟨q27, h⟩ := h
    refine pj_if_eq 53 47 rfl (by decide) rfl q27  (fun hc => ?_) (fun hc => ?_)
    · replace h := h.1 hc
      refine pn_sub [0, 2] rfl ?_
      exact s_X12_backwards_53 hg o0  hk28 h
    · replace h := h.2 hc
      refine pj_iinc 50 2 (ls' := [(0, .ref r0), (1, .int (pj_I x1)), (2, .int (pj_I (x2 + (-1))))]) rfl rfl (by decide) rfl rfl ?_
      refine pj_goto 34 rfl (by decide) ?_
      refine pn_sub [0, 1, 2] rfl ?_
      exact hk34 _ _ h
set_option maxRecDepth 20000 in
set_option maxHeartbeats 4000000 in
theorem s_X12_backwards_34 {l : Launch} {g : pj_G} (hg : pj_ph g = true) {r0 : Nat} {x1 : Int} {x2 : Int} {M : pj_M} {Q : Int → pj_M → Prop} {k28 : Int → pj_M → Prop} (o0 : pj_ob r0 12) (hk28 : ∀ (x1 : Int) (M : pj_M), k28 x1 M → pj_R l g mdX12_backwards pj_T (pj_Zm g mdX12_backwards (pj_qi Q)) pj_NK 0 0 28 [(0, .ref r0), (1, .int (pj_I x1))] [] M) (h : w_X12_backwards_34 r0 x1 k28 Q x2 M) : pj_R l g mdX12_backwards pj_T (pj_Zm g mdX12_backwards (pj_qi Q)) pj_NK 0 0 34 [(0, .ref r0), (1, .int (pj_I x1)), (2, .int (pj_I x2))] [] M :=
  h (fun s => pj_R l g mdX12_backwards pj_T (pj_Zm g mdX12_backwards (pj_qi Q)) pj_NK 0 0 34 [(0, .ref r0), (1, .int (pj_I x1)), (2, .int (pj_I (s.1)))] [] s.2) (fun s hs => s_X12_backwards_34b hg o0 hk28 (fun _ _ q => q) hs)
set_option maxRecDepth 20000 in
set_option maxHeartbeats 4000000 in
theorem s_X12_backwards_28b {l : Launch} {g : pj_G} (hg : pj_ph g = true) {r0 : Nat} {x1 : Int} {M : pj_M} {Q : Int → pj_M → Prop}  {k28 : Int → pj_M → Prop} (o0 : pj_ob r0 12)  (hk28 : ∀ (x1 : Int) (M : pj_M), k28 x1 M → pj_R l g mdX12_backwards pj_T (pj_Zm g mdX12_backwards (pj_qi Q)) pj_NK 0 0 28 [(0, .ref r0), (1, .int (pj_I x1))] [] M) (h : w_X12_backwards_28b r0  Q k28 x1 M) : pj_R l g mdX12_backwards pj_T (pj_Zm g mdX12_backwards (pj_qi Q)) pj_NK 0 0 28 [(0, .ref r0), (1, .int (pj_I x1))] [] M := by
  unfold w_X12_backwards_28b at h
  refine pj_iload_n 29 1 rfl rfl rfl rfl ?_
  obtain ⟨q6, h⟩ := h
  refine pj_if_lt 88 32 rfl (by decide) rfl q6  (fun hc => ?_) (fun hc => ?_)
  · replace h := h.1 hc
    refine pn_sub [0] rfl ?_
    exact s_X12_backwards_88 hg o0   h
  · replace h := h.2 hc
    refine pj_iload_n 33 1 rfl rfl rfl rfl ?_
    refine pj_istore_n 34 (ls' := [(0, .ref r0), (1, .int (pj_I x1)), (2, .int (pj_I x1))]) rfl rfl (by decide) rfl rfl ?_
    refine pn_sub [0, 1, 2] rfl ?_
    exact s_X12_backwards_34 hg o0  hk28 h
set_option maxRecDepth 20000 in
set_option maxHeartbeats 4000000 in
theorem s_X12_backwards_28 {l : Launch} {g : pj_G} (hg : pj_ph g = true) {r0 : Nat} {x1 : Int} {M : pj_M} {Q : Int → pj_M → Prop}  (o0 : pj_ob r0 12)  (h : w_X12_backwards_28 r0  Q x1 M) : pj_R l g mdX12_backwards pj_T (pj_Zm g mdX12_backwards (pj_qi Q)) pj_NK 0 0 28 [(0, .ref r0), (1, .int (pj_I x1))] [] M :=
  h (fun s => pj_R l g mdX12_backwards pj_T (pj_Zm g mdX12_backwards (pj_qi Q)) pj_NK 0 0 28 [(0, .ref r0), (1, .int (pj_I (s.1)))] [] s.2) (fun s hs => s_X12_backwards_28b hg o0  (fun _ _ q => q) hs)
set_option maxRecDepth 20000 in
set_option maxHeartbeats 4000000 in
theorem s_X12_backwards {l : Launch} {g : pj_G} (hg : pj_ph g = true) {r0 : Nat} {M : pj_M} {Q : Int → pj_M → Prop} (o0 : pj_ob r0 12) (h : w_X12_backwards r0 M Q) : pj_S l g mdX12_backwards [.ref r0] pj_NK M (pj_qi Q) := by
  refine pj_ofR (ls := [(0, .ref r0)]) gcX12_backwards (by decide) rfl (Nat.le_of_ble_eq_true rfl) rfl ?_
  unfold w_X12_backwards at h
  refine pj_aload_n 1 0 rfl rfl rfl rfl ?_
  refine pj_iconst 2 rfl rfl ?_
  refine pn_puti 5 12 5 5 o0  rfl pfX12_88 rfl rfl rfl (fun M1 hM1 => ?_)
  replace h := h M1 hM1
  refine pj_aload_n 6 0 rfl rfl rfl rfl ?_
  refine pj_aload_n 7 0 rfl rfl rfl rfl ?_
  refine pn_getr 10 12 0 hg o0 (pr_12_0 o0).2 rfl pfX12_9 rfl rfl ?_
  refine pj_bipush 12 rfl (by decide) rfl ?_
  refine pn_iald 13 95 (pr_12_0 o0) (show 0 ≤ (73 : Int) ∧ (73 : Int) < ((95 : Nat) : Int) by decide) rfl rfl ?_
  refine pn_callVv 16 12 [.int (pj_I (M1 (pj_rf r0 0) 73))] [] o0 (s_X12_layAll hg o0 h) plX12_246 rfl rfl rfl rfl (Nat.le_of_ble_eq_true rfl) (by decide) (fun M2 h => ?_)
  refine pj_aload_n 17 0 rfl rfl rfl rfl ?_
  refine pj_iconst 18 rfl rfl ?_
  refine pn_puti 21 12 22 22 o0  rfl pfX12_268 rfl rfl rfl (fun M4 hM4 => ?_)
  replace h := h M4 hM4
  refine pj_aload_n 22 0 rfl rfl rfl rfl ?_
  refine pn_geti 25 12 14 14 o0 rfl pfX12_214 (Or.inl rfl) rfl rfl ?_
  refine pj_iconst 26 rfl rfl ?_
  refine pj_iadd 27 rfl rfl ?_
  refine pn_nm (fun z5 hz5 => ?_)
  replace h := h z5 hz5
  refine pj_istore_n 28 (ls' := [(0, .ref r0), (1, .int (pj_I z5))]) rfl rfl (by decide) rfl rfl ?_
  refine pn_sub [0, 1] rfl ?_
  exact s_X12_backwards_28 hg o0   h
