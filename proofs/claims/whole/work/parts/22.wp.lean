def w_X0_followers_91 (r0 : Nat) (x1 : Int) (x2 : Int) (x3 : Int) (x5 : Int) (y0 : Int) (y1 : Int) (k25 : Int → Int → pj_M → Prop) (Q : Int → pj_M → Prop) (M : pj_M) : Prop :=
  ∀ z16 : Int, z16 = (pj_or y0 y1) → k25 z16 (x5 + 1) M
def w_X0_followers_51 (r0 : Nat) (x1 : Int) (x2 : Int) (x3 : Int) (x4 : Int) (x5 : Int) (u0 : Nat) (y1 : Int) (k25 : Int → Int → pj_M → Prop) (Q : Int → pj_M → Prop) (M : pj_M) : Prop :=
  w_X0_push u0 y1 M (fun (M7 : pj_M) => w_X0_fillParts r0 (x2 + 1) M7 (fun (M9 : pj_M) => w_X0_leastFitting r0 (x2 + 1) M9 (fun (t12 : Int) (M11 : pj_M) => (pj_in t12) ∧ (pj_in x1) ∧ ((x1 < t12 → k25 x4 (x5 + 1) M11) ∧ (¬ x1 < t12 → (pj_in x5) ∧ ((¬ x5 = 8 → w_X0_followers_91 r0 x1 x2 x3 x5 x4 (pj_shl 1 x5) k25 Q M11) ∧ (x5 = 8 → w_X0_followers_91 r0 x1 x2 x3 x5 x4 256 k25 Q M11)))))))
def w_X0_followers_25b (r0 : Nat) (x1 : Int) (x2 : Int) (x3 : Int)  (Q : Int → pj_M → Prop) (k25 : Int → Int → pj_M → Prop) (x4 : Int) (x5 : Int) (M : pj_M) : Prop :=
  (pj_in x5) ∧ ((8 < x5 → Q x4 M) ∧ (¬ 8 < x5 → w_X0_cut r0 x2 M (fun (M4 : pj_M) => (pj_in x5) ∧ ((¬ x5 = 8 → w_X0_followers_51 r0 x1 x2 x3 x4 x5 r0 x5 k25 Q M4) ∧ (x5 = 8 → w_X0_followers_51 r0 x1 x2 x3 x4 x5 r0 x3 k25 Q M4)))))
def w_X0_followers_25 (r0 : Nat) (x1 : Int) (x2 : Int) (x3 : Int)  (Q : Int → pj_M → Prop) (x4 : Int) (x5 : Int) (M : pj_M) : Prop := pj_lp (fun (k : Int × Int × pj_M → Prop) (s : Int × Int × pj_M) => w_X0_followers_25b r0 x1 x2 x3  Q (fun (x4 : Int) (x5 : Int) (M : pj_M) => k (x4, x5, M)) s.1 s.2.1 s.2.2) (x4, x5, M)
def w_X0_followers_19 (r0 : Nat) (x1 : Int) (x2 : Int) (x3 : Int)  (Q : Int → pj_M → Prop) (M : pj_M) : Prop :=
  w_X0_followers_25 r0 x1 x2 x3  Q 0 0 M
def w_X0_followers (r0 : Nat) (x1 : Int) (x2 : Int) (x3 : Int) (M : pj_M) (Q : Int → pj_M → Prop) : Prop :=
  (pj_in x1) ∧ (pj_in x2) ∧ ((x2 ≤ x1 → w_X0_followers_19 r0 x1 x2 x3  Q M) ∧ (¬ x2 ≤ x1 → ((0 : Int) ≤ (x2 - 1) ∧ (x2 - 1) < 17) ∧ (pj_in (M (pj_rf r0 9) (x2 - 1))) ∧ (pj_in x3) ∧ ((¬ (M (pj_rf r0 9) (x2 - 1)) = x3 → w_X0_followers_19 r0 x1 x2 x3  Q M) ∧ ((M (pj_rf r0 9) (x2 - 1)) = x3 → Q 0 M))))
set_option maxRecDepth 20000 in
set_option maxHeartbeats 4000000 in
theorem s_X0_followers_91 {l : Launch} {g : pj_G} (hg : pj_ph g = true) {r0 : Nat} {x1 : Int} {x2 : Int} {x3 : Int} {x5 : Int} {y0 : Int} {y1 : Int} {M : pj_M} {Q : Int → pj_M → Prop} {k25 : Int → Int → pj_M → Prop} (o0 : pj_ob r0 0) (hk25 : ∀ (x4 : Int) (x5 : Int) (M : pj_M), k25 x4 x5 M → pj_R l g mdX0_followers pj_T (pj_Zm g mdX0_followers (pj_qi Q)) pj_NK 0 0 25 [(0, .ref r0), (1, .int (pj_I x1)), (2, .int (pj_I x2)), (3, .int (pj_I x3)), (4, .int (pj_I x4)), (5, .int (pj_I x5))] [] M) (h : w_X0_followers_91 r0 x1 x2 x3 x5 y0 y1 k25 Q M) : pj_R l g mdX0_followers pj_T (pj_Zm g mdX0_followers (pj_qi Q)) pj_NK 0 0 91 [(0, .ref r0), (1, .int (pj_I x1)), (2, .int (pj_I x2)), (3, .int (pj_I x3)), (5, .int (pj_I x5))] [.int (pj_I y1), .int (pj_I y0)] M := by
  unfold w_X0_followers_91 at h
  refine pj_ior 92 rfl rfl ?_
  refine pn_nm (fun z16 hz16 => ?_)
  replace h := h z16 hz16
  refine pj_istore 94 (ls' := [(0, .ref r0), (1, .int (pj_I x1)), (2, .int (pj_I x2)), (3, .int (pj_I x3)), (4, .int (pj_I z16)), (5, .int (pj_I x5))]) rfl (by decide) rfl rfl ?_
  refine pj_iinc 97 5 (ls' := [(0, .ref r0), (1, .int (pj_I x1)), (2, .int (pj_I x2)), (3, .int (pj_I x3)), (4, .int (pj_I z16)), (5, .int (pj_I (x5 + 1)))]) rfl rfl (by decide) rfl rfl ?_
  refine pj_goto 25 rfl (by decide) ?_
  refine pn_sub [0, 1, 2, 3, 4, 5] rfl ?_
  exact hk25 _ _ _ h
set_option maxRecDepth 20000 in
set_option maxHeartbeats 4000000 in
theorem s_X0_followers_51 {l : Launch} {g : pj_G} (hg : pj_ph g = true) {r0 : Nat} {x1 : Int} {x2 : Int} {x3 : Int} {x4 : Int} {x5 : Int} {u0 : Nat} {y1 : Int} {M : pj_M} {Q : Int → pj_M → Prop} {k25 : Int → Int → pj_M → Prop} (o0 : pj_ob r0 0) (ou0 : pj_ob u0 0) (hk25 : ∀ (x4 : Int) (x5 : Int) (M : pj_M), k25 x4 x5 M → pj_R l g mdX0_followers pj_T (pj_Zm g mdX0_followers (pj_qi Q)) pj_NK 0 0 25 [(0, .ref r0), (1, .int (pj_I x1)), (2, .int (pj_I x2)), (3, .int (pj_I x3)), (4, .int (pj_I x4)), (5, .int (pj_I x5))] [] M) (h : w_X0_followers_51 r0 x1 x2 x3 x4 x5 u0 y1 k25 Q M) : pj_R l g mdX0_followers pj_T (pj_Zm g mdX0_followers (pj_qi Q)) pj_NK 0 0 51 [(0, .ref r0), (1, .int (pj_I x1)), (2, .int (pj_I x2)), (3, .int (pj_I x3)), (4, .int (pj_I x4)), (5, .int (pj_I x5))] [.int (pj_I y1), .ref u0] M := by
  unfold w_X0_followers_51 at h
  refine pn_callVv 54 0 [.int (pj_I y1)] [] ou0 (s_X0_push hg ou0 h) plX0_139 rfl rfl rfl rfl (Nat.le_of_ble_eq_true rfl) (by decide) (fun M7 h => ?_)
  refine pj_aload_n 55 0 rfl rfl rfl rfl ?_
  refine pj_iload_n 56 2 rfl rfl rfl rfl ?_
  refine pj_iconst 57 rfl rfl ?_
  refine pj_iadd 58 rfl rfl ?_
  refine pn_callVv 61 0 [.int (pj_I (x2 + 1))] [] o0 (s_X0_fillParts hg o0 h) plX0_127 rfl rfl rfl rfl (Nat.le_of_ble_eq_true rfl) (by decide) (fun M9 h => ?_)
  refine pj_aload_n 62 0 rfl rfl rfl rfl ?_
  refine pj_iload_n 63 2 rfl rfl rfl rfl ?_
  refine pj_iconst 64 rfl rfl ?_
  refine pj_iadd 65 rfl rfl ?_
  refine pn_callVi 68 0 [.int (pj_I (x2 + 1))] [] o0 (s_X0_leastFitting hg o0 h) plX0_174 rfl rfl rfl rfl (Nat.le_of_ble_eq_true rfl) (by decide) (fun t12 M11 h => ?_)
  refine pj_iload_n 69 1 rfl rfl rfl rfl ?_
  obtain ⟨q13, h⟩ := h
  obtain ⟨q14, h⟩ := h
  refine pj_icmp_gt 94 72 rfl (by decide) rfl q13 q14 (fun hc => ?_) (fun hc => ?_)
  · replace h := h.1 hc
    refine pj_iinc 97 5 (ls' := [(0, .ref r0), (1, .int (pj_I x1)), (2, .int (pj_I x2)), (3, .int (pj_I x3)), (4, .int (pj_I x4)), (5, .int (pj_I (x5 + 1)))]) rfl rfl (by decide) rfl rfl ?_
    refine pj_goto 25 rfl (by decide) ?_
    refine pn_sub [0, 1, 2, 3, 4, 5] rfl ?_
    exact hk25 _ _ _ h
  · replace h := h.2 hc
    refine pj_iload 74 4 rfl rfl rfl ?_
    refine pj_iload 76 5 rfl rfl rfl ?_
    refine pj_bipush 78 rfl (by decide) rfl ?_
    obtain ⟨q15, h⟩ := h
    refine pj_icmp_ne 87 81 rfl (by decide) rfl q15 (show pj_in 8 by decide) (fun hc => ?_) (fun hc => ?_)
    · replace h := h.1 hc
      refine pj_iconst 88 rfl rfl ?_
      refine pj_iload 90 5 rfl rfl rfl ?_
      refine pj_ishl 91 rfl rfl ?_
      refine pn_sub [0, 1, 2, 3, 5] rfl ?_
      exact s_X0_followers_91 hg o0  hk25 h
    · replace h := h.2 (Classical.not_not.mp hc)
      refine pj_sipush 84 rfl (by decide) rfl ?_
      refine pj_goto 91 rfl (by decide) ?_
      refine pn_sub [0, 1, 2, 3, 5] rfl ?_
      exact s_X0_followers_91 hg o0  hk25 h
set_option maxRecDepth 20000 in
set_option maxHeartbeats 4000000 in
theorem s_X0_followers_25b {l : Launch} {g : pj_G} (hg : pj_ph g = true) {r0 : Nat} {x1 : Int} {x2 : Int} {x3 : Int} {x4 : Int} {x5 : Int} {M : pj_M} {Q : Int → pj_M → Prop}  {k25 : Int → Int → pj_M → Prop} (o0 : pj_ob r0 0)  (hk25 : ∀ (x4 : Int) (x5 : Int) (M : pj_M), k25 x4 x5 M → pj_R l g mdX0_followers pj_T (pj_Zm g mdX0_followers (pj_qi Q)) pj_NK 0 0 25 [(0, .ref r0), (1, .int (pj_I x1)), (2, .int (pj_I x2)), (3, .int (pj_I x3)), (4, .int (pj_I x4)), (5, .int (pj_I x5))] [] M) (h : w_X0_followers_25b r0 x1 x2 x3  Q k25 x4 x5 M) : pj_R l g mdX0_followers pj_T (pj_Zm g mdX0_followers (pj_qi Q)) pj_NK 0 0 25 [(0, .ref r0), (1, .int (pj_I x1)), (2, .int (pj_I x2)), (3, .int (pj_I x3)), (4, .int (pj_I x4)), (5, .int (pj_I x5))] [] M := by
  unfold w_X0_followers_25b at h
  refine pj_iload 27 5 rfl rfl rfl ?_
  refine pj_bipush 29 rfl (by decide) rfl ?_
  obtain ⟨q3, h⟩ := h
  refine pj_icmp_gt 100 32 rfl (by decide) rfl q3 (show pj_in 8 by decide) (fun hc => ?_) (fun hc => ?_)
  · replace h := h.1 hc
    refine pj_iload 102 4 rfl rfl rfl ?_
    exact pn_iret h rfl rfl
  · replace h := h.2 hc
    refine pj_aload_n 33 0 rfl rfl rfl rfl ?_
    refine pj_iload_n 34 2 rfl rfl rfl rfl ?_
    refine pn_callVv 37 0 [.int (pj_I x2)] [] o0 (s_X0_cut hg o0 h) plX0_124 rfl rfl rfl rfl (Nat.le_of_ble_eq_true rfl) (by decide) (fun M4 h => ?_)
    refine pj_aload_n 38 0 rfl rfl rfl rfl ?_
    refine pj_iload 40 5 rfl rfl rfl ?_
    refine pj_bipush 42 rfl (by decide) rfl ?_
    obtain ⟨q6, h⟩ := h
    refine pj_icmp_ne 49 45 rfl (by decide) rfl q6 (show pj_in 8 by decide) (fun hc => ?_) (fun hc => ?_)
    · replace h := h.1 hc
      refine pj_iload 51 5 rfl rfl rfl ?_
      refine pn_sub [0, 1, 2, 3, 4, 5] rfl ?_
      exact s_X0_followers_51 hg o0 o0 hk25 h
    · replace h := h.2 (Classical.not_not.mp hc)
      refine pj_iload_n 46 3 rfl rfl rfl rfl ?_
      refine pj_goto 51 rfl (by decide) ?_
      refine pn_sub [0, 1, 2, 3, 4, 5] rfl ?_
      exact s_X0_followers_51 hg o0 o0 hk25 h
set_option maxRecDepth 20000 in
set_option maxHeartbeats 4000000 in
theorem s_X0_followers_25 {l : Launch} {g : pj_G} (hg : pj_ph g = true) {r0 : Nat} {x1 : Int} {x2 : Int} {x3 : Int} {x4 : Int} {x5 : Int} {M : pj_M} {Q : Int → pj_M → Prop}  (o0 : pj_ob r0 0)  (h : w_X0_followers_25 r0 x1 x2 x3  Q x4 x5 M) : pj_R l g mdX0_followers pj_T (pj_Zm g mdX0_followers (pj_qi Q)) pj_NK 0 0 25 [(0, .ref r0), (1, .int (pj_I x1)), (2, .int (pj_I x2)), (3, .int (pj_I x3)), (4, .int (pj_I x4)), (5, .int (pj_I x5))] [] M :=
  h (fun s => pj_R l g mdX0_followers pj_T (pj_Zm g mdX0_followers (pj_qi Q)) pj_NK 0 0 25 [(0, .ref r0), (1, .int (pj_I x1)), (2, .int (pj_I x2)), (3, .int (pj_I x3)), (4, .int (pj_I (s.1))), (5, .int (pj_I (s.2.1)))] [] s.2.2) (fun s hs => s_X0_followers_25b hg o0  (fun _ _ _ q => q) hs)
set_option maxRecDepth 20000 in
set_option maxHeartbeats 4000000 in
theorem s_X0_followers_19 {l : Launch} {g : pj_G} (hg : pj_ph g = true) {r0 : Nat} {x1 : Int} {x2 : Int} {x3 : Int} {M : pj_M} {Q : Int → pj_M → Prop}  (o0 : pj_ob r0 0)  (h : w_X0_followers_19 r0 x1 x2 x3  Q M) : pj_R l g mdX0_followers pj_T (pj_Zm g mdX0_followers (pj_qi Q)) pj_NK 0 0 19 [(0, .ref r0), (1, .int (pj_I x1)), (2, .int (pj_I x2)), (3, .int (pj_I x3))] [] M := by
  unfold w_X0_followers_19 at h
  refine pj_iconst 20 rfl rfl ?_
  refine pj_istore 22 (ls' := [(0, .ref r0), (1, .int (pj_I x1)), (2, .int (pj_I x2)), (3, .int (pj_I x3)), (4, .int (pj_I 0))]) rfl (by decide) rfl rfl ?_
  refine pj_iconst 23 rfl rfl ?_
  refine pj_istore 25 (ls' := [(0, .ref r0), (1, .int (pj_I x1)), (2, .int (pj_I x2)), (3, .int (pj_I x3)), (4, .int (pj_I 0)), (5, .int (pj_I 0))]) rfl (by decide) rfl rfl ?_
  refine pn_sub [0, 1, 2, 3, 4, 5] rfl ?_
  exact s_X0_followers_25 hg o0   h
set_option maxRecDepth 20000 in
set_option maxHeartbeats 4000000 in
theorem s_X0_followers {l : Launch} {g : pj_G} (hg : pj_ph g = true) {r0 : Nat} {x1 : Int} {x2 : Int} {x3 : Int} {M : pj_M} {Q : Int → pj_M → Prop} (o0 : pj_ob r0 0) (h : w_X0_followers r0 x1 x2 x3 M Q) : pj_S l g mdX0_followers [.ref r0, .int (pj_I x1), .int (pj_I x2), .int (pj_I x3)] pj_NK M (pj_qi Q) := by
  refine pj_ofR (ls := [(0, .ref r0), (1, .int (pj_I x1)), (2, .int (pj_I x2)), (3, .int (pj_I x3))]) gcX0_followers (by decide) rfl (Nat.le_of_ble_eq_true rfl) rfl ?_
  unfold w_X0_followers at h
  refine pj_iload_n 1 1 rfl rfl rfl rfl ?_
  refine pj_iload_n 2 2 rfl rfl rfl rfl ?_
  obtain ⟨q1, h⟩ := h
  obtain ⟨q2, h⟩ := h
  refine pj_icmp_ge 19 5 rfl (by decide) rfl q1 q2 (fun hc => ?_) (fun hc => ?_)
  · replace h := h.1 hc
    refine pn_sub [0, 1, 2, 3] rfl ?_
    exact s_X0_followers_19 hg o0   h
  · replace h := h.2 hc
    refine pj_aload_n 6 0 rfl rfl rfl rfl ?_
    refine pn_getr 9 0 9 hg o0 (pr_0_9 o0).2 rfl pfX0_38 rfl rfl ?_
    refine pj_iload_n 10 2 rfl rfl rfl rfl ?_
    refine pj_iconst 11 rfl rfl ?_
    refine pj_isub 12 rfl rfl ?_
    obtain ⟨q17, h⟩ := h
    refine pn_iald 13 17 (pr_0_9 o0) q17 rfl rfl ?_
    refine pj_iload_n 14 3 rfl rfl rfl rfl ?_
    obtain ⟨q18, h⟩ := h
    obtain ⟨q19, h⟩ := h
    refine pj_icmp_ne 19 17 rfl (by decide) rfl q18 q19 (fun hc => ?_) (fun hc => ?_)
    · replace h := h.1 hc
      refine pn_sub [0, 1, 2, 3] rfl ?_
      exact s_X0_followers_19 hg o0   h
    · replace h := h.2 (Classical.not_not.mp hc)
      refine pj_iconst 18 rfl rfl ?_
      exact pn_iret h rfl rfl
def w_X0_signsOfSentences (r0 : Nat) (M : pj_M) (Q : Int → pj_M → Prop) : Prop :=
  ((0 : Int) ≤ (M (pj_rf r0 0) 4) ∧ (M (pj_rf r0 0) 4) < 6) ∧ Q (M (pj_rf (pj_rf r0 1) 3) (M (pj_rf r0 0) 4)) M
set_option maxRecDepth 20000 in
set_option maxHeartbeats 4000000 in
theorem s_X0_signsOfSentences {l : Launch} {g : pj_G} (hg : pj_ph g = true) {r0 : Nat} {M : pj_M} {Q : Int → pj_M → Prop} (o0 : pj_ob r0 0) (h : w_X0_signsOfSentences r0 M Q) : pj_S l g mdX0_signsOfSentences [.ref r0] pj_NK M (pj_qi Q) := by
  refine pj_ofR (ls := [(0, .ref r0)]) gcX0_signsOfSentences (by decide) rfl (Nat.le_of_ble_eq_true rfl) rfl ?_
  unfold w_X0_signsOfSentences at h
  refine pj_aload_n 1 0 rfl rfl rfl rfl ?_
  refine pn_getr 4 0 1 hg o0 (pr_0_1 o0).2 rfl pfX0_21 rfl rfl ?_
  refine pn_getr 7 3 3 hg (pr_0_1 o0) (pr_3_3 (pr_0_1 o0)).2 rfl pfX0_180 rfl rfl ?_
  refine pj_aload_n 8 0 rfl rfl rfl rfl ?_
  refine pn_getr 11 0 0 hg o0 (pr_0_0 o0).2 rfl pfX0_14 rfl rfl ?_
  refine pn_geti 14 4 4 4 (pr_0_0 o0) rfl pfX0_108 (Or.inl rfl) rfl rfl ?_
  obtain ⟨q1, h⟩ := h
  refine pn_iald 15 6 (pr_3_3 (pr_0_1 o0)) q1 rfl rfl ?_
  exact pn_iret h rfl rfl
def w_X7_copyFrom (r0 : Nat) (r1 : Nat) (M : pj_M) (Q : pj_M → Prop) : Prop :=
  ∀ M1 : pj_M, M1 = pj_cp M (pj_rf r1 0) (pj_rf r0 0) 14 → ∀ M2 : pj_M, M2 = pj_up M1 r0 1 (M1 r1 1) → Q M2
set_option maxRecDepth 20000 in
set_option maxHeartbeats 4000000 in
theorem s_X7_copyFrom {l : Launch} {g : pj_G} (hg : pj_ph g = true) {r0 : Nat} {r1 : Nat} {M : pj_M} {Q : pj_M → Prop} (o0 : pj_ob r0 7) (o1 : pj_ob r1 7) (h : w_X7_copyFrom r0 r1 M Q) : pj_S l g mdX7_copyFrom [.ref r0, .ref r1] pj_NK M (pj_qv Q) := by
  refine pj_ofR (ls := [(0, .ref r0), (1, .ref r1)]) gcX7_copyFrom (by decide) rfl (Nat.le_of_ble_eq_true rfl) rfl ?_
  unfold w_X7_copyFrom at h
  refine pj_aload_n 1 1 rfl rfl rfl rfl ?_
  refine pn_getr 4 7 0 hg o1 (pr_7_0 o1).2 rfl pfX7_9 rfl rfl ?_
  refine pj_iconst 5 rfl rfl ?_
  refine pj_aload_n 6 0 rfl rfl rfl rfl ?_
  refine pn_getr 9 7 0 hg o0 (pr_7_0 o0).2 rfl pfX7_9 rfl rfl ?_
  refine pj_iconst 10 rfl rfl ?_
  refine pj_bipush 12 rfl (by decide) rfl ?_
  refine pn_copy 15 14 [] (pr_7_0 o1) (pr_7_0 o0) (by decide) pcX7_19 rfl rfl ⟨by decide, Nat.le_of_ble_eq_true rfl⟩ (fun M1 hM1 => ?_)
  replace h := h M1 hM1
  refine pj_aload_n 16 0 rfl rfl rfl rfl ?_
  refine pj_aload_n 17 1 rfl rfl rfl rfl ?_
  refine pn_geti 20 7 1 1 o1 rfl pfX7_15 (Or.inl rfl) rfl rfl ?_
  refine pn_puti 23 7 1 1 o0  rfl pfX7_15 rfl rfl rfl (fun M2 hM2 => ?_)
  replace h := h M2 hM2
  exact pn_vret h rfl rfl
def w_X1_copyFrom (r0 : Nat) (r1 : Nat) (M : pj_M) (Q : pj_M → Prop) : Prop :=
  w_X4_copyFrom (pj_rf r0 0) (pj_rf r1 0) M (fun (M1 : pj_M) => w_X7_copyFrom (pj_rf r0 1) (pj_rf r1 1) M1 (fun (M3 : pj_M) => ∀ M5 : pj_M, M5 = pj_cp M3 (pj_rf r1 2) (pj_rf r0 2) 6 → ∀ M6 : pj_M, M6 = pj_up M5 r0 3 (M5 r1 3) → Q M6))
set_option maxRecDepth 20000 in
set_option maxHeartbeats 4000000 in
theorem s_X1_copyFrom {l : Launch} {g : pj_G} (hg : pj_ph g = true) {r0 : Nat} {r1 : Nat} {M : pj_M} {Q : pj_M → Prop} (o0 : pj_ob r0 1) (o1 : pj_ob r1 1) (h : w_X1_copyFrom r0 r1 M Q) : pj_S l g mdX1_copyFrom [.ref r0, .ref r1] pj_NK M (pj_qv Q) := by
  refine pj_ofR (ls := [(0, .ref r0), (1, .ref r1)]) gcX1_copyFrom (by decide) rfl (Nat.le_of_ble_eq_true rfl) rfl ?_
  unfold w_X1_copyFrom at h
  refine pj_aload_n 1 0 rfl rfl rfl rfl ?_
  refine pn_getr 4 1 0 hg o0 (pr_1_0 o0).2 rfl pfX1_12 rfl rfl ?_
  refine pj_aload_n 5 1 rfl rfl rfl rfl ?_
  refine pn_getr 8 1 0 hg o1 (pr_1_0 o1).2 rfl pfX1_12 rfl rfl ?_
  refine pn_callVv 11 4 [.ref (pj_rf r1 0)] [] (pr_1_0 o0) (s_X4_copyFrom hg (pr_1_0 o0) (pr_1_0 o1) h) plX1_29 rfl rfl rfl rfl (Nat.le_of_ble_eq_true rfl) (by decide) (fun M1 h => ?_)
  refine pj_aload_n 12 0 rfl rfl rfl rfl ?_
  refine pn_getr 15 1 1 hg o0 (pr_1_1 o0).2 rfl pfX1_21 rfl rfl ?_
  refine pj_aload_n 16 1 rfl rfl rfl rfl ?_
  refine pn_getr 19 1 1 hg o1 (pr_1_1 o1).2 rfl pfX1_21 rfl rfl ?_
  refine pn_callVv 22 7 [.ref (pj_rf r1 1)] [] (pr_1_1 o0) (s_X7_copyFrom hg (pr_1_1 o0) (pr_1_1 o1) h) plX1_33 rfl rfl rfl rfl (Nat.le_of_ble_eq_true rfl) (by decide) (fun M3 h => ?_)
  refine pj_aload_n 23 1 rfl rfl rfl rfl ?_
  refine pn_getr 26 1 2 hg o1 (pr_1_2 o1).2 rfl pfX1_25 rfl rfl ?_
  refine pj_iconst 27 rfl rfl ?_
  refine pj_aload_n 28 0 rfl rfl rfl rfl ?_
  refine pn_getr 31 1 2 hg o0 (pr_1_2 o0).2 rfl pfX1_25 rfl rfl ?_
  refine pj_iconst 32 rfl rfl ?_
  refine pj_bipush 34 rfl (by decide) rfl ?_
  refine pn_copy 37 6 [] (pr_1_2 o1) (pr_1_2 o0) (by decide) pcX1_36 rfl rfl ⟨by decide, Nat.le_of_ble_eq_true rfl⟩ (fun M5 hM5 => ?_)
  replace h := h M5 hM5
  refine pj_aload_n 38 0 rfl rfl rfl rfl ?_
  refine pj_aload_n 39 1 rfl rfl rfl rfl ?_
  refine pn_geti 42 1 3 3 o1 rfl pfX1_42 (Or.inl rfl) rfl rfl ?_
  refine pn_puti 45 1 3 3 o0  rfl pfX1_42 rfl rfl rfl (fun M6 hM6 => ?_)
  replace h := h M6 hM6
  exact pn_vret h rfl rfl
def w_X2_cell (x0 : Int) (x1 : Int) (M : pj_M) (Q : Int → pj_M → Prop) : Prop :=
  Q (((x0 * 15) + x1) * 15) M
set_option maxRecDepth 20000 in
set_option maxHeartbeats 4000000 in
theorem s_X2_cell {l : Launch} {g : pj_G} (hg : pj_ph g = true) {x0 : Int} {x1 : Int} {M : pj_M} {Q : Int → pj_M → Prop}  (h : w_X2_cell x0 x1 M Q) : pj_S l g mdX2_cell [.int (pj_I x0), .int (pj_I x1)] pj_NK M (pj_qi Q) := by
  refine pj_ofR (ls := [(0, .int (pj_I x0)), (1, .int (pj_I x1))]) gcX2_cell (by decide) rfl (Nat.le_of_ble_eq_true rfl) rfl ?_
  unfold w_X2_cell at h
  refine pj_iload_n 1 0 rfl rfl rfl rfl ?_
  refine pj_bipush 3 rfl (by decide) rfl ?_
  refine pj_imul 4 rfl rfl ?_
  refine pj_iload_n 5 1 rfl rfl rfl rfl ?_
  refine pj_iadd 6 rfl rfl ?_
  refine pj_bipush 8 rfl (by decide) rfl ?_
  refine pj_imul 9 rfl rfl ?_
  exact pn_iret h rfl rfl
def w_X2_stepSign_56 (r0 : Nat) (x1 : Int) (r2 : Nat) (x3 : Int) (x4 : Int) (x5 : Int) (x6 : Int) (x7 : Int) (k3 : Int → pj_M → Prop) (k34 : Int → Int → Int → pj_M → Prop) (Q : pj_M → Prop) (M : pj_M) : Prop :=
  ((0 : Int) ≤ x7 ∧ x7 < 15) ∧ w_Jmin x5 ((((M (pj_rf r0 1) x7) + x7) - x4) - x6) M (fun (t15 : Int) (M14 : pj_M) => k34 t15 x6 (x7 + 1) M14)
def w_X2_stepSign_34b (r0 : Nat) (x1 : Int) (r2 : Nat) (x3 : Int) (x4 : Int) (k3 : Int → pj_M → Prop) (Q : pj_M → Prop) (k34 : Int → Int → Int → pj_M → Prop) (x5 : Int) (x6 : Int) (x7 : Int) (M : pj_M) : Prop :=
  (pj_in x7) ∧ (pj_in x3) ∧ ((x3 < x7 → ((0 : Int) ≤ x4 ∧ x4 < 15) ∧ ∀ M9 : pj_M, M9 = pj_up M (pj_rf r0 1) x4 x5 → k3 (x4 + 1) M9) ∧ (¬ x3 < x7 → ((0 : Int) ≤ (x7 - 1) ∧ (x7 - 1) < 14) ∧ (pj_in (M (pj_rf r2 0) (x7 - 1))) ∧ (pj_in x1) ∧ ((¬ (M (pj_rf r2 0) (x7 - 1)) = x1 → w_X2_stepSign_56 r0 x1 r2 x3 x4 x5 x6 x7 k3 k34 Q M) ∧ ((M (pj_rf r2 0) (x7 - 1)) = x1 → w_X2_stepSign_56 r0 x1 r2 x3 x4 x5 1 x7 k3 k34 Q M))))
def w_X2_stepSign_34 (r0 : Nat) (x1 : Int) (r2 : Nat) (x3 : Int) (x4 : Int) (k3 : Int → pj_M → Prop) (Q : pj_M → Prop) (x5 : Int) (x6 : Int) (x7 : Int) (M : pj_M) : Prop := pj_lp (fun (k : Int × Int × Int × pj_M → Prop) (s : Int × Int × Int × pj_M) => w_X2_stepSign_34b r0 x1 r2 x3 x4 k3 Q (fun (x5 : Int) (x6 : Int) (x7 : Int) (M : pj_M) => k (x5, x6, x7, M)) s.1 s.2.1 s.2.2.1 s.2.2.2) (x5, x6, x7, M)
def w_X2_stepSign_3b (r0 : Nat) (x1 : Int) (r2 : Nat) (x3 : Int)  (Q : pj_M → Prop) (k3 : Int → pj_M → Prop) (x4 : Int) (M : pj_M) : Prop :=
  (pj_in x4) ∧ (pj_in x3) ∧ ((x3 < x4 → Q M) ∧ (¬ x3 < x4 → ((0 : Int) ≤ x4 ∧ x4 < 15) ∧ w_Jmin 1048576 ((M (pj_rf r0 1) x4) + 1) M (fun (t5 : Int) (M4 : pj_M) => w_X2_stepSign_34 r0 x1 r2 x3 x4 k3 Q t5 0 (x4 + 1) M4)))
def w_X2_stepSign_3 (r0 : Nat) (x1 : Int) (r2 : Nat) (x3 : Int)  (Q : pj_M → Prop) (x4 : Int) (M : pj_M) : Prop := pj_lp (fun (k : Int × pj_M → Prop) (s : Int × pj_M) => w_X2_stepSign_3b r0 x1 r2 x3  Q (fun (x4 : Int) (M : pj_M) => k (x4, M)) s.1 s.2) (x4, M)
def w_X2_stepSign (r0 : Nat) (x1 : Int) (r2 : Nat) (x3 : Int) (M : pj_M) (Q : pj_M → Prop) : Prop :=
  w_X2_stepSign_3 r0 x1 r2 x3  Q 0 M
set_option maxRecDepth 20000 in
set_option maxHeartbeats 4000000 in
theorem s_X2_stepSign_56 {l : Launch} {g : pj_G} (hg : pj_ph g = true) {r0 : Nat} {x1 : Int} {r2 : Nat} {x3 : Int} {x4 : Int} {x5 : Int} {x6 : Int} {x7 : Int} {M : pj_M} {Q : pj_M → Prop} {k3 : Int → pj_M → Prop} {k34 : Int → Int → Int → pj_M → Prop} (o0 : pj_ob r0 2) (o2 : pj_ob r2 7) (hk3 : ∀ (x4 : Int) (M : pj_M), k3 x4 M → pj_R l g mdX2_stepSign pj_T (pj_Zm g mdX2_stepSign (pj_qv Q)) pj_NK 0 0 3 [(0, .ref r0), (1, .int (pj_I x1)), (2, .ref r2), (3, .int (pj_I x3)), (4, .int (pj_I x4))] [] M) (hk34 : ∀ (x5 : Int) (x6 : Int) (x7 : Int) (M : pj_M), k34 x5 x6 x7 M → pj_R l g mdX2_stepSign pj_T (pj_Zm g mdX2_stepSign (pj_qv Q)) pj_NK 0 0 34 [(0, .ref r0), (1, .int (pj_I x1)), (2, .ref r2), (3, .int (pj_I x3)), (4, .int (pj_I x4)), (5, .int (pj_I x5)), (6, .int (pj_I x6)), (7, .int (pj_I x7))] [] M) (h : w_X2_stepSign_56 r0 x1 r2 x3 x4 x5 x6 x7 k3 k34 Q M) : pj_R l g mdX2_stepSign pj_T (pj_Zm g mdX2_stepSign (pj_qv Q)) pj_NK 0 0 56 [(0, .ref r0), (1, .int (pj_I x1)), (2, .ref r2), (3, .int (pj_I x3)), (4, .int (pj_I x4)), (5, .int (pj_I x5)), (6, .int (pj_I x6)), (7, .int (pj_I x7))] [] M := by
  unfold w_X2_stepSign_56 at h
  refine pj_iload 58 5 rfl rfl rfl ?_
  refine pj_aload_n 59 0 rfl rfl rfl rfl ?_
  refine pn_getr 62 2 1 hg o0 (pr_2_1 o0).2 rfl pfX2_15 rfl rfl ?_
  refine pj_iload 64 7 rfl rfl rfl ?_
  obtain ⟨q13, h⟩ := h
  refine pn_iald 65 15 (pr_2_1 o0) q13 rfl rfl ?_
  refine pj_iload 67 7 rfl rfl rfl ?_
  refine pj_iadd 68 rfl rfl ?_
  refine pj_iload 70 4 rfl rfl rfl ?_
  refine pj_isub 71 rfl rfl ?_
  refine pj_iload 73 6 rfl rfl rfl ?_
  refine pj_isub 74 rfl rfl ?_
  refine pn_callSi 77 [.int (pj_I x5), .int (pj_I ((((M (pj_rf r0 1) x7) + x7) - x4) - x6))] [] (s_Jmin hg  h) plX2_71 rfl rfl rfl rfl (Nat.le_of_ble_eq_true rfl) (by decide) (fun t15 M14 h => ?_)
  refine pj_istore 79 (ls' := [(0, .ref r0), (1, .int (pj_I x1)), (2, .ref r2), (3, .int (pj_I x3)), (4, .int (pj_I x4)), (5, .int (pj_I t15)), (6, .int (pj_I x6)), (7, .int (pj_I x7))]) rfl (by decide) rfl rfl ?_
  refine pj_iinc 82 7 (ls' := [(0, .ref r0), (1, .int (pj_I x1)), (2, .ref r2), (3, .int (pj_I x3)), (4, .int (pj_I x4)), (5, .int (pj_I t15)), (6, .int (pj_I x6)), (7, .int (pj_I (x7 + 1)))]) rfl rfl (by decide) rfl rfl ?_
  refine pj_goto 34 rfl (by decide) ?_
  refine pn_sub [0, 1, 2, 3, 4, 5, 6, 7] rfl ?_
  exact hk34 _ _ _ _ h
set_option maxRecDepth 20000 in
set_option maxHeartbeats 4000000 in
theorem s_X2_stepSign_34b {l : Launch} {g : pj_G} (hg : pj_ph g = true) {r0 : Nat} {x1 : Int} {r2 : Nat} {x3 : Int} {x4 : Int} {x5 : Int} {x6 : Int} {x7 : Int} {M : pj_M} {Q : pj_M → Prop} {k3 : Int → pj_M → Prop} {k34 : Int → Int → Int → pj_M → Prop} (o0 : pj_ob r0 2) (o2 : pj_ob r2 7) (hk3 : ∀ (x4 : Int) (M : pj_M), k3 x4 M → pj_R l g mdX2_stepSign pj_T (pj_Zm g mdX2_stepSign (pj_qv Q)) pj_NK 0 0 3 [(0, .ref r0), (1, .int (pj_I x1)), (2, .ref r2), (3, .int (pj_I x3)), (4, .int (pj_I x4))] [] M) (hk34 : ∀ (x5 : Int) (x6 : Int) (x7 : Int) (M : pj_M), k34 x5 x6 x7 M → pj_R l g mdX2_stepSign pj_T (pj_Zm g mdX2_stepSign (pj_qv Q)) pj_NK 0 0 34 [(0, .ref r0), (1, .int (pj_I x1)), (2, .ref r2), (3, .int (pj_I x3)), (4, .int (pj_I x4)), (5, .int (pj_I x5)), (6, .int (pj_I x6)), (7, .int (pj_I x7))] [] M) (h : w_X2_stepSign_34b r0 x1 r2 x3 x4 k3 Q k34 x5 x6 x7 M) : pj_R l g mdX2_stepSign pj_T (pj_Zm g mdX2_stepSign (pj_qv Q)) pj_NK 0 0 34 [(0, .ref r0), (1, .int (pj_I x1)), (2, .ref r2), (3, .int (pj_I x3)), (4, .int (pj_I x4)), (5, .int (pj_I x5)), (6, .int (pj_I x6)), (7, .int (pj_I x7))] [] M := by
  unfold w_X2_stepSign_34b at h
  refine pj_iload 36 7 rfl rfl rfl ?_
  refine pj_iload_n 37 3 rfl rfl rfl rfl ?_
  obtain ⟨q6, h⟩ := h
  obtain ⟨q7, h⟩ := h
  refine pj_icmp_gt 85 40 rfl (by decide) rfl q6 q7 (fun hc => ?_) (fun hc => ?_)
  · replace h := h.1 hc
    refine pj_aload_n 86 0 rfl rfl rfl rfl ?_
    refine pn_getr 89 2 1 hg o0 (pr_2_1 o0).2 rfl pfX2_15 rfl rfl ?_
    refine pj_iload 91 4 rfl rfl rfl ?_
    refine pj_iload 93 5 rfl rfl rfl ?_
    obtain ⟨q8, h⟩ := h
    refine pn_iast 94 15 (pr_2_1 o0)  q8 rfl rfl (fun M9 hM9 => ?_)
    replace h := h M9 hM9
    refine pj_iinc 97 4 (ls' := [(0, .ref r0), (1, .int (pj_I x1)), (2, .ref r2), (3, .int (pj_I x3)), (4, .int (pj_I (x4 + 1))), (5, .int (pj_I x5)), (6, .int (pj_I x6)), (7, .int (pj_I x7))]) rfl rfl (by decide) rfl rfl ?_
    refine pj_goto 3 rfl (by decide) ?_
    refine pn_sub [0, 1, 2, 3, 4] rfl ?_
    exact hk3 _ _ h
  · replace h := h.2 hc
    refine pj_aload_n 41 2 rfl rfl rfl rfl ?_
    refine pn_getr 44 7 0 hg o2 (pr_7_0 o2).2 rfl pfX2_76 rfl rfl ?_
    refine pj_iload 46 7 rfl rfl rfl ?_
    refine pj_iconst 47 rfl rfl ?_
    refine pj_isub 48 rfl rfl ?_
    obtain ⟨q10, h⟩ := h
    refine pn_iald 49 14 (pr_7_0 o2) q10 rfl rfl ?_
    refine pj_iload_n 50 1 rfl rfl rfl rfl ?_
    obtain ⟨q11, h⟩ := h
    obtain ⟨q12, h⟩ := h
    refine pj_icmp_ne 56 53 rfl (by decide) rfl q11 q12 (fun hc => ?_) (fun hc => ?_)
    · replace h := h.1 hc
      refine pn_sub [0, 1, 2, 3, 4, 5, 6, 7] rfl ?_
      exact s_X2_stepSign_56 hg o0 o2  hk3 hk34 h
    · replace h := h.2 (Classical.not_not.mp hc)
      refine pj_iconst 54 rfl rfl ?_
      refine pj_istore 56 (ls' := [(0, .ref r0), (1, .int (pj_I x1)), (2, .ref r2), (3, .int (pj_I x3)), (4, .int (pj_I x4)), (5, .int (pj_I x5)), (6, .int (pj_I 1)), (7, .int (pj_I x7))]) rfl (by decide) rfl rfl ?_
      refine pn_sub [0, 1, 2, 3, 4, 5, 6, 7] rfl ?_
      exact s_X2_stepSign_56 hg o0 o2  hk3 hk34 h
set_option maxRecDepth 20000 in
set_option maxHeartbeats 4000000 in
theorem s_X2_stepSign_34 {l : Launch} {g : pj_G} (hg : pj_ph g = true) {r0 : Nat} {x1 : Int} {r2 : Nat} {x3 : Int} {x4 : Int} {x5 : Int} {x6 : Int} {x7 : Int} {M : pj_M} {Q : pj_M → Prop} {k3 : Int → pj_M → Prop} (o0 : pj_ob r0 2) (o2 : pj_ob r2 7) (hk3 : ∀ (x4 : Int) (M : pj_M), k3 x4 M → pj_R l g mdX2_stepSign pj_T (pj_Zm g mdX2_stepSign (pj_qv Q)) pj_NK 0 0 3 [(0, .ref r0), (1, .int (pj_I x1)), (2, .ref r2), (3, .int (pj_I x3)), (4, .int (pj_I x4))] [] M) (h : w_X2_stepSign_34 r0 x1 r2 x3 x4 k3 Q x5 x6 x7 M) : pj_R l g mdX2_stepSign pj_T (pj_Zm g mdX2_stepSign (pj_qv Q)) pj_NK 0 0 34 [(0, .ref r0), (1, .int (pj_I x1)), (2, .ref r2), (3, .int (pj_I x3)), (4, .int (pj_I x4)), (5, .int (pj_I x5)), (6, .int (pj_I x6)), (7, .int (pj_I x7))] [] M :=
  h (fun s => pj_R l g mdX2_stepSign pj_T (pj_Zm g mdX2_stepSign (pj_qv Q)) pj_NK 0 0 34 [(0, .ref r0), (1, .int (pj_I x1)), (2, .ref r2), (3, .int (pj_I x3)), (4, .int (pj_I x4)), (5, .int (pj_I (s.1))), (6, .int (pj_I (s.2.1))), (7, .int (pj_I (s.2.2.1)))] [] s.2.2.2) (fun s hs => s_X2_stepSign_34b hg o0 o2 hk3 (fun _ _ _ _ q => q) hs)
set_option maxRecDepth 20000 in
set_option maxHeartbeats 4000000 in
theorem s_X2_stepSign_3b {l : Launch} {g : pj_G} (hg : pj_ph g = true) {r0 : Nat} {x1 : Int} {r2 : Nat} {x3 : Int} {x4 : Int} {M : pj_M} {Q : pj_M → Prop}  {k3 : Int → pj_M → Prop} (o0 : pj_ob r0 2) (o2 : pj_ob r2 7)  (hk3 : ∀ (x4 : Int) (M : pj_M), k3 x4 M → pj_R l g mdX2_stepSign pj_T (pj_Zm g mdX2_stepSign (pj_qv Q)) pj_NK 0 0 3 [(0, .ref r0), (1, .int (pj_I x1)), (2, .ref r2), (3, .int (pj_I x3)), (4, .int (pj_I x4))] [] M) (h : w_X2_stepSign_3b r0 x1 r2 x3  Q k3 x4 M) : pj_R l g mdX2_stepSign pj_T (pj_Zm g mdX2_stepSign (pj_qv Q)) pj_NK 0 0 3 [(0, .ref r0), (1, .int (pj_I x1)), (2, .ref r2), (3, .int (pj_I x3)), (4, .int (pj_I x4))] [] M := by
  unfold w_X2_stepSign_3b at h
  refine pj_iload 5 4 rfl rfl rfl ?_
  refine pj_iload_n 6 3 rfl rfl rfl rfl ?_
  obtain ⟨q1, h⟩ := h
  obtain ⟨q2, h⟩ := h
  refine pj_icmp_gt 100 9 rfl (by decide) rfl q1 q2 (fun hc => ?_) (fun hc => ?_)
  · replace h := h.1 hc
    exact pn_vret h rfl rfl
  · replace h := h.2 hc
    refine pj_ldc 11 1048576 rfl pkX2_43 rfl ?_
    refine pj_aload_n 12 0 rfl rfl rfl rfl ?_
    refine pn_getr 15 2 1 hg o0 (pr_2_1 o0).2 rfl pfX2_15 rfl rfl ?_
    refine pj_iload 17 4 rfl rfl rfl ?_
    obtain ⟨q3, h⟩ := h
    refine pn_iald 18 15 (pr_2_1 o0) q3 rfl rfl ?_
    refine pj_iconst 19 rfl rfl ?_
    refine pj_iadd 20 rfl rfl ?_
    refine pn_callSi 23 [.int (pj_I 1048576), .int (pj_I ((M (pj_rf r0 1) x4) + 1))] [] (s_Jmin hg  h) plX2_71 rfl rfl rfl rfl (Nat.le_of_ble_eq_true rfl) (by decide) (fun t5 M4 h => ?_)
    refine pj_istore 25 (ls' := [(0, .ref r0), (1, .int (pj_I x1)), (2, .ref r2), (3, .int (pj_I x3)), (4, .int (pj_I x4)), (5, .int (pj_I t5))]) rfl (by decide) rfl rfl ?_
    refine pj_iconst 26 rfl rfl ?_
    refine pj_istore 28 (ls' := [(0, .ref r0), (1, .int (pj_I x1)), (2, .ref r2), (3, .int (pj_I x3)), (4, .int (pj_I x4)), (5, .int (pj_I t5)), (6, .int (pj_I 0))]) rfl (by decide) rfl rfl ?_
    refine pj_iload 30 4 rfl rfl rfl ?_
    refine pj_iconst 31 rfl rfl ?_
    refine pj_iadd 32 rfl rfl ?_
    refine pj_istore 34 (ls' := [(0, .ref r0), (1, .int (pj_I x1)), (2, .ref r2), (3, .int (pj_I x3)), (4, .int (pj_I x4)), (5, .int (pj_I t5)), (6, .int (pj_I 0)), (7, .int (pj_I (x4 + 1)))]) rfl (by decide) rfl rfl ?_
    refine pn_sub [0, 1, 2, 3, 4, 5, 6, 7] rfl ?_
    exact s_X2_stepSign_34 hg o0 o2  hk3 h
set_option maxRecDepth 20000 in
set_option maxHeartbeats 4000000 in
theorem s_X2_stepSign_3 {l : Launch} {g : pj_G} (hg : pj_ph g = true) {r0 : Nat} {x1 : Int} {r2 : Nat} {x3 : Int} {x4 : Int} {M : pj_M} {Q : pj_M → Prop}  (o0 : pj_ob r0 2) (o2 : pj_ob r2 7)  (h : w_X2_stepSign_3 r0 x1 r2 x3  Q x4 M) : pj_R l g mdX2_stepSign pj_T (pj_Zm g mdX2_stepSign (pj_qv Q)) pj_NK 0 0 3 [(0, .ref r0), (1, .int (pj_I x1)), (2, .ref r2), (3, .int (pj_I x3)), (4, .int (pj_I x4))] [] M :=
  h (fun s => pj_R l g mdX2_stepSign pj_T (pj_Zm g mdX2_stepSign (pj_qv Q)) pj_NK 0 0 3 [(0, .ref r0), (1, .int (pj_I x1)), (2, .ref r2), (3, .int (pj_I x3)), (4, .int (pj_I (s.1)))] [] s.2) (fun s hs => s_X2_stepSign_3b hg o0 o2  (fun _ _ q => q) hs)
set_option maxRecDepth 20000 in
set_option maxHeartbeats 4000000 in
theorem s_X2_stepSign {l : Launch} {g : pj_G} (hg : pj_ph g = true) {r0 : Nat} {x1 : Int} {r2 : Nat} {x3 : Int} {M : pj_M} {Q : pj_M → Prop} (o0 : pj_ob r0 2) (o2 : pj_ob r2 7) (h : w_X2_stepSign r0 x1 r2 x3 M Q) : pj_S l g mdX2_stepSign [.ref r0, .int (pj_I x1), .ref r2, .int (pj_I x3)] pj_NK M (pj_qv Q) := by
  refine pj_ofR (ls := [(0, .ref r0), (1, .int (pj_I x1)), (2, .ref r2), (3, .int (pj_I x3))]) gcX2_stepSign (by decide) rfl (Nat.le_of_ble_eq_true rfl) rfl ?_
  unfold w_X2_stepSign at h
  refine pj_iconst 1 rfl rfl ?_
  refine pj_istore 3 (ls' := [(0, .ref r0), (1, .int (pj_I x1)), (2, .ref r2), (3, .int (pj_I x3)), (4, .int (pj_I 0))]) rfl (by decide) rfl rfl ?_
  refine pn_sub [0, 1, 2, 3, 4] rfl ?_
  exact s_X2_stepSign_3 hg o0 o2   h
def w_X2_stepCapital_23b (r0 : Nat) (x1 : Int) (x2 : Int) (x3 : Int) (k2 : Int → pj_M → Prop) (Q : pj_M → Prop) (k23 : Int → Int → Int → pj_M → Prop) (x4 : Int) (x5 : Int) (x6 : Int) (M : pj_M) : Prop :=
  (pj_in x6) ∧ (pj_in x2) ∧ ((x2 < x6 → ((0 : Int) ≤ x3 ∧ x3 < 15) ∧ ∀ M8 : pj_M, M8 = pj_up M (pj_rf r0 1) x3 x4 → k2 (x3 + 1) M8) ∧ (¬ x2 < x6 → ((0 : Int) ≤ x6 ∧ x6 < 15) ∧ ((0 : Int) ≤ x5 ∧ x5 < 1350) ∧ w_Jmin x4 ((M (pj_rf r0 1) x6) + (M (pj_rf r0 0) x5)) M (fun (t12 : Int) (M11 : pj_M) => k23 t12 (x5 + 15) (x6 + 1) M11)))
def w_X2_stepCapital_23 (r0 : Nat) (x1 : Int) (x2 : Int) (x3 : Int) (k2 : Int → pj_M → Prop) (Q : pj_M → Prop) (x4 : Int) (x5 : Int) (x6 : Int) (M : pj_M) : Prop := pj_lp (fun (k : Int × Int × Int × pj_M → Prop) (s : Int × Int × Int × pj_M) => w_X2_stepCapital_23b r0 x1 x2 x3 k2 Q (fun (x4 : Int) (x5 : Int) (x6 : Int) (M : pj_M) => k (x4, x5, x6, M)) s.1 s.2.1 s.2.2.1 s.2.2.2) (x4, x5, x6, M)
def w_X2_stepCapital_2b (r0 : Nat) (x1 : Int) (x2 : Int)  (Q : pj_M → Prop) (k2 : Int → pj_M → Prop) (x3 : Int) (M : pj_M) : Prop :=
  (pj_in x3) ∧ (pj_in x2) ∧ ((x2 < x3 → Q M) ∧ (¬ x2 < x3 → w_X2_cell x1 x3 M (fun (t4 : Int) (M3 : pj_M) => w_X2_stepCapital_23 r0 x1 x2 x3 k2 Q 1048576 (t4 + x3) x3 M3)))
def w_X2_stepCapital_2 (r0 : Nat) (x1 : Int) (x2 : Int)  (Q : pj_M → Prop) (x3 : Int) (M : pj_M) : Prop := pj_lp (fun (k : Int × pj_M → Prop) (s : Int × pj_M) => w_X2_stepCapital_2b r0 x1 x2  Q (fun (x3 : Int) (M : pj_M) => k (x3, M)) s.1 s.2) (x3, M)
def w_X2_stepCapital (r0 : Nat) (x1 : Int) (x2 : Int) (M : pj_M) (Q : pj_M → Prop) : Prop :=
  w_X2_stepCapital_2 r0 x1 x2  Q 0 M
set_option maxRecDepth 20000 in
set_option maxHeartbeats 4000000 in
theorem s_X2_stepCapital_23b {l : Launch} {g : pj_G} (hg : pj_ph g = true) {r0 : Nat} {x1 : Int} {x2 : Int} {x3 : Int} {x4 : Int} {x5 : Int} {x6 : Int} {M : pj_M} {Q : pj_M → Prop} {k2 : Int → pj_M → Prop} {k23 : Int → Int → Int → pj_M → Prop} (o0 : pj_ob r0 2) (hk2 : ∀ (x3 : Int) (M : pj_M), k2 x3 M → pj_R l g mdX2_stepCapital pj_T (pj_Zm g mdX2_stepCapital (pj_qv Q)) pj_NK 0 0 2 [(0, .ref r0), (1, .int (pj_I x1)), (2, .int (pj_I x2)), (3, .int (pj_I x3))] [] M) (hk23 : ∀ (x4 : Int) (x5 : Int) (x6 : Int) (M : pj_M), k23 x4 x5 x6 M → pj_R l g mdX2_stepCapital pj_T (pj_Zm g mdX2_stepCapital (pj_qv Q)) pj_NK 0 0 23 [(0, .ref r0), (1, .int (pj_I x1)), (2, .int (pj_I x2)), (3, .int (pj_I x3)), (4, .int (pj_I x4)), (5, .int (pj_I x5)), (6, .int (pj_I x6))] [] M) (h : w_X2_stepCapital_23b r0 x1 x2 x3 k2 Q k23 x4 x5 x6 M) : pj_R l g mdX2_stepCapital pj_T (pj_Zm g mdX2_stepCapital (pj_qv Q)) pj_NK 0 0 23 [(0, .ref r0), (1, .int (pj_I x1)), (2, .int (pj_I x2)), (3, .int (pj_I x3)), (4, .int (pj_I x4)), (5, .int (pj_I x5)), (6, .int (pj_I x6))] [] M := by
  unfold w_X2_stepCapital_23b at h
  refine pj_iload 25 6 rfl rfl rfl ?_
  refine pj_iload_n 26 2 rfl rfl rfl rfl ?_
  obtain ⟨q5, h⟩ := h
  obtain ⟨q6, h⟩ := h
  refine pj_icmp_gt 60 29 rfl (by decide) rfl q5 q6 (fun hc => ?_) (fun hc => ?_)
  · replace h := h.1 hc
    refine pj_aload_n 61 0 rfl rfl rfl rfl ?_
    refine pn_getr 64 2 1 hg o0 (pr_2_1 o0).2 rfl pfX2_15 rfl rfl ?_
    refine pj_iload_n 65 3 rfl rfl rfl rfl ?_
    refine pj_iload 67 4 rfl rfl rfl ?_
    obtain ⟨q7, h⟩ := h
    refine pn_iast 68 15 (pr_2_1 o0)  q7 rfl rfl (fun M8 hM8 => ?_)
    replace h := h M8 hM8
    refine pj_iinc 71 3 (ls' := [(0, .ref r0), (1, .int (pj_I x1)), (2, .int (pj_I x2)), (3, .int (pj_I (x3 + 1))), (4, .int (pj_I x4)), (5, .int (pj_I x5)), (6, .int (pj_I x6))]) rfl rfl (by decide) rfl rfl ?_
    refine pj_goto 2 rfl (by decide) ?_
    refine pn_sub [0, 1, 2, 3] rfl ?_
    exact hk2 _ _ h
  · replace h := h.2 hc
    refine pj_iload 31 4 rfl rfl rfl ?_
    refine pj_aload_n 32 0 rfl rfl rfl rfl ?_
    refine pn_getr 35 2 1 hg o0 (pr_2_1 o0).2 rfl pfX2_15 rfl rfl ?_
    refine pj_iload 37 6 rfl rfl rfl ?_
    obtain ⟨q9, h⟩ := h
    refine pn_iald 38 15 (pr_2_1 o0) q9 rfl rfl ?_
    refine pj_aload_n 39 0 rfl rfl rfl rfl ?_
    refine pn_getr 42 2 0 hg o0 (pr_2_0 o0).2 rfl pfX2_11 rfl rfl ?_
    refine pj_iload 44 5 rfl rfl rfl ?_
    obtain ⟨q10, h⟩ := h
    refine pn_iald 45 1350 (pr_2_0 o0) q10 rfl rfl ?_
    refine pj_iadd 46 rfl rfl ?_
    refine pn_callSi 49 [.int (pj_I x4), .int (pj_I ((M (pj_rf r0 1) x6) + (M (pj_rf r0 0) x5)))] [] (s_Jmin hg  h) plX2_71 rfl rfl rfl rfl (Nat.le_of_ble_eq_true rfl) (by decide) (fun t12 M11 h => ?_)
    refine pj_istore 51 (ls' := [(0, .ref r0), (1, .int (pj_I x1)), (2, .int (pj_I x2)), (3, .int (pj_I x3)), (4, .int (pj_I t12)), (5, .int (pj_I x5)), (6, .int (pj_I x6))]) rfl (by decide) rfl rfl ?_
    refine pj_iinc 54 5 (ls' := [(0, .ref r0), (1, .int (pj_I x1)), (2, .int (pj_I x2)), (3, .int (pj_I x3)), (4, .int (pj_I t12)), (5, .int (pj_I (x5 + 15))), (6, .int (pj_I x6))]) rfl rfl (by decide) rfl rfl ?_
    refine pj_iinc 57 6 (ls' := [(0, .ref r0), (1, .int (pj_I x1)), (2, .int (pj_I x2)), (3, .int (pj_I x3)), (4, .int (pj_I t12)), (5, .int (pj_I (x5 + 15))), (6, .int (pj_I (x6 + 1)))]) rfl rfl (by decide) rfl rfl ?_
    refine pj_goto 23 rfl (by decide) ?_
    refine pn_sub [0, 1, 2, 3, 4, 5, 6] rfl ?_
    exact hk23 _ _ _ _ h
set_option maxRecDepth 20000 in
set_option maxHeartbeats 4000000 in
theorem s_X2_stepCapital_23 {l : Launch} {g : pj_G} (hg : pj_ph g = true) {r0 : Nat} {x1 : Int} {x2 : Int} {x3 : Int} {x4 : Int} {x5 : Int} {x6 : Int} {M : pj_M} {Q : pj_M → Prop} {k2 : Int → pj_M → Prop} (o0 : pj_ob r0 2) (hk2 : ∀ (x3 : Int) (M : pj_M), k2 x3 M → pj_R l g mdX2_stepCapital pj_T (pj_Zm g mdX2_stepCapital (pj_qv Q)) pj_NK 0 0 2 [(0, .ref r0), (1, .int (pj_I x1)), (2, .int (pj_I x2)), (3, .int (pj_I x3))] [] M) (h : w_X2_stepCapital_23 r0 x1 x2 x3 k2 Q x4 x5 x6 M) : pj_R l g mdX2_stepCapital pj_T (pj_Zm g mdX2_stepCapital (pj_qv Q)) pj_NK 0 0 23 [(0, .ref r0), (1, .int (pj_I x1)), (2, .int (pj_I x2)), (3, .int (pj_I x3)), (4, .int (pj_I x4)), (5, .int (pj_I x5)), (6, .int (pj_I x6))] [] M :=
  h (fun s => pj_R l g mdX2_stepCapital pj_T (pj_Zm g mdX2_stepCapital (pj_qv Q)) pj_NK 0 0 23 [(0, .ref r0), (1, .int (pj_I x1)), (2, .int (pj_I x2)), (3, .int (pj_I x3)), (4, .int (pj_I (s.1))), (5, .int (pj_I (s.2.1))), (6, .int (pj_I (s.2.2.1)))] [] s.2.2.2) (fun s hs => s_X2_stepCapital_23b hg o0 hk2 (fun _ _ _ _ q => q) hs)
set_option maxRecDepth 20000 in
set_option maxHeartbeats 4000000 in
theorem s_X2_stepCapital_2b {l : Launch} {g : pj_G} (hg : pj_ph g = true) {r0 : Nat} {x1 : Int} {x2 : Int} {x3 : Int} {M : pj_M} {Q : pj_M → Prop}  {k2 : Int → pj_M → Prop} (o0 : pj_ob r0 2)  (hk2 : ∀ (x3 : Int) (M : pj_M), k2 x3 M → pj_R l g mdX2_stepCapital pj_T (pj_Zm g mdX2_stepCapital (pj_qv Q)) pj_NK 0 0 2 [(0, .ref r0), (1, .int (pj_I x1)), (2, .int (pj_I x2)), (3, .int (pj_I x3))] [] M) (h : w_X2_stepCapital_2b r0 x1 x2  Q k2 x3 M) : pj_R l g mdX2_stepCapital pj_T (pj_Zm g mdX2_stepCapital (pj_qv Q)) pj_NK 0 0 2 [(0, .ref r0), (1, .int (pj_I x1)), (2, .int (pj_I x2)), (3, .int (pj_I x3))] [] M := by
  unfold w_X2_stepCapital_2b at h
  refine pj_iload_n 3 3 rfl rfl rfl rfl ?_
  refine pj_iload_n 4 2 rfl rfl rfl rfl ?_
  obtain ⟨q1, h⟩ := h
  obtain ⟨q2, h⟩ := h
  refine pj_icmp_gt 74 7 rfl (by decide) rfl q1 q2 (fun hc => ?_) (fun hc => ?_)
  · replace h := h.1 hc
    exact pn_vret h rfl rfl
  · replace h := h.2 hc
    refine pj_ldc 9 1048576 rfl pkX2_43 rfl ?_
    refine pj_istore 11 (ls' := [(0, .ref r0), (1, .int (pj_I x1)), (2, .int (pj_I x2)), (3, .int (pj_I x3)), (4, .int (pj_I 1048576))]) rfl (by decide) rfl rfl ?_
    refine pj_iload_n 12 1 rfl rfl rfl rfl ?_
    refine pj_iload_n 13 3 rfl rfl rfl rfl ?_
    refine pn_callSi 16 [.int (pj_I x1), .int (pj_I x3)] [] (s_X2_cell hg  h) plX2_39 rfl rfl rfl rfl (Nat.le_of_ble_eq_true rfl) (by decide) (fun t4 M3 h => ?_)
    refine pj_iload_n 17 3 rfl rfl rfl rfl ?_
    refine pj_iadd 18 rfl rfl ?_
    refine pj_istore 20 (ls' := [(0, .ref r0), (1, .int (pj_I x1)), (2, .int (pj_I x2)), (3, .int (pj_I x3)), (4, .int (pj_I 1048576)), (5, .int (pj_I (t4 + x3)))]) rfl (by decide) rfl rfl ?_
    refine pj_iload_n 21 3 rfl rfl rfl rfl ?_
    refine pj_istore 23 (ls' := [(0, .ref r0), (1, .int (pj_I x1)), (2, .int (pj_I x2)), (3, .int (pj_I x3)), (4, .int (pj_I 1048576)), (5, .int (pj_I (t4 + x3))), (6, .int (pj_I x3))]) rfl (by decide) rfl rfl ?_
    refine pn_sub [0, 1, 2, 3, 4, 5, 6] rfl ?_
    exact s_X2_stepCapital_23 hg o0  hk2 h
set_option maxRecDepth 20000 in
set_option maxHeartbeats 4000000 in
theorem s_X2_stepCapital_2 {l : Launch} {g : pj_G} (hg : pj_ph g = true) {r0 : Nat} {x1 : Int} {x2 : Int} {x3 : Int} {M : pj_M} {Q : pj_M → Prop}  (o0 : pj_ob r0 2)  (h : w_X2_stepCapital_2 r0 x1 x2  Q x3 M) : pj_R l g mdX2_stepCapital pj_T (pj_Zm g mdX2_stepCapital (pj_qv Q)) pj_NK 0 0 2 [(0, .ref r0), (1, .int (pj_I x1)), (2, .int (pj_I x2)), (3, .int (pj_I x3))] [] M :=
  h (fun s => pj_R l g mdX2_stepCapital pj_T (pj_Zm g mdX2_stepCapital (pj_qv Q)) pj_NK 0 0 2 [(0, .ref r0), (1, .int (pj_I x1)), (2, .int (pj_I x2)), (3, .int (pj_I (s.1)))] [] s.2) (fun s hs => s_X2_stepCapital_2b hg o0  (fun _ _ q => q) hs)
set_option maxRecDepth 20000 in
set_option maxHeartbeats 4000000 in
theorem s_X2_stepCapital {l : Launch} {g : pj_G} (hg : pj_ph g = true) {r0 : Nat} {x1 : Int} {x2 : Int} {M : pj_M} {Q : pj_M → Prop} (o0 : pj_ob r0 2) (h : w_X2_stepCapital r0 x1 x2 M Q) : pj_S l g mdX2_stepCapital [.ref r0, .int (pj_I x1), .int (pj_I x2)] pj_NK M (pj_qv Q) := by
  refine pj_ofR (ls := [(0, .ref r0), (1, .int (pj_I x1)), (2, .int (pj_I x2))]) gcX2_stepCapital (by decide) rfl (Nat.le_of_ble_eq_true rfl) rfl ?_
  unfold w_X2_stepCapital at h
  refine pj_iconst 1 rfl rfl ?_
  refine pj_istore_n 2 (ls' := [(0, .ref r0), (1, .int (pj_I x1)), (2, .int (pj_I x2)), (3, .int (pj_I 0))]) rfl rfl (by decide) rfl rfl ?_
  refine pn_sub [0, 1, 2, 3] rfl ?_
  exact s_X2_stepCapital_2 hg o0   h
def w_X2_addCosts_144b (r0 : Nat) (x4 : Int) (x6 : Int)  (Q : Int → pj_M → Prop) (k144 : Int → Int → pj_M → Prop) (x7 : Int) (x8 : Int) (M : pj_M) : Prop :=
  (pj_in x8) ∧ (pj_in x4) ∧ ((x4 < x8 → (x7 = 0 ∨ x7 = 1) ∧ Q x7 M) ∧ (¬ x4 < x8 → ((0 : Int) ≤ x8 ∧ x8 < 15) ∧ ((0 : Int) ≤ (x6 + x8) ∧ (x6 + x8) < 1350) ∧ (pj_in (M (pj_rf r0 1) x8)) ∧ (pj_in (M (pj_rf r0 0) (x6 + x8))) ∧ (((M (pj_rf r0 0) (x6 + x8)) ≤ (M (pj_rf r0 1) x8) → k144 x7 (x8 + 1) M) ∧ (¬ (M (pj_rf r0 0) (x6 + x8)) ≤ (M (pj_rf r0 1) x8) → ((0 : Int) ≤ x8 ∧ x8 < 15) ∧ ((0 : Int) ≤ (x6 + x8) ∧ (x6 + x8) < 1350) ∧ ∀ M20 : pj_M, M20 = pj_up M (pj_rf r0 0) (x6 + x8) (M (pj_rf r0 1) x8) → k144 1 (x8 + 1) M20))))
def w_X2_addCosts_144 (r0 : Nat) (x4 : Int) (x6 : Int)  (Q : Int → pj_M → Prop) (x7 : Int) (x8 : Int) (M : pj_M) : Prop := pj_lp (fun (k : Int × Int × pj_M → Prop) (s : Int × Int × pj_M) => w_X2_addCosts_144b r0 x4 x6  Q (fun (x7 : Int) (x8 : Int) (M : pj_M) => k (x7, x8, M)) s.1 s.2.1 s.2.2) (x7, x8, M)
def w_X2_addCosts_71b (r0 : Nat) (r1 : Nat) (r2 : Nat) (x3 : Int) (x4 : Int)  (Q : Int → pj_M → Prop) (k71 : Int → pj_M → Prop) (x6 : Int) (M : pj_M) : Prop :=
  (pj_in x6) ∧ ((x6 < 0 → ((0 : Int) ≤ x3 ∧ x3 < 13) ∧ w_X2_cell (M (pj_rf r1 2) x3) x4 M (fun (t10 : Int) (M9 : pj_M) => w_X2_addCosts_144 r0 x4 t10  Q 0 0 M9)) ∧ (¬ x6 < 0 → ((0 : Int) ≤ ((x3 * 4) + x6) ∧ ((x3 * 4) + x6) < 52) ∧ ∀ z22 : Int, z22 = (M (pj_rf r1 4) ((x3 * 4) + x6)) → (pj_in z22) ∧ ((10 ≤ z22 → w_X2_stepCapital r0 (z22 - 10) x4 M (fun (M24 : pj_M) => k71 (x6 + (-1)) M24)) ∧ (¬ 10 ≤ z22 → w_X2_stepSign r0 z22 r2 x4 M (fun (M26 : pj_M) => k71 (x6 + (-1)) M26)))))
def w_X2_addCosts_71 (r0 : Nat) (r1 : Nat) (r2 : Nat) (x3 : Int) (x4 : Int)  (Q : Int → pj_M → Prop) (x6 : Int) (M : pj_M) : Prop := pj_lp (fun (k : Int × pj_M → Prop) (s : Int × pj_M) => w_X2_addCosts_71b r0 r1 r2 x3 x4  Q (fun (x6 : Int) (M : pj_M) => k (x6, M)) s.1 s.2) (x6, M)
def w_X2_addCosts_54 (r0 : Nat) (r1 : Nat) (r2 : Nat) (x3 : Int) (x4 : Int) (x5 : Int) (x6 : Int) (u0 : Nat) (y1 : Int) (y2 : Int) (k19 : Int → pj_M → Prop) (Q : Int → pj_M → Prop) (M : pj_M) : Prop :=
  ((0 : Int) ≤ y1 ∧ y1 < 15) ∧ ∀ M31 : pj_M, M31 = pj_up M u0 y1 y2 → k19 (x6 + 1) M31
def w_X2_addCosts_44 (r0 : Nat) (r1 : Nat) (r2 : Nat) (x3 : Int) (x4 : Int) (x5 : Int) (x6 : Int) (u0 : Nat) (y1 : Int) (k19 : Int → pj_M → Prop) (Q : Int → pj_M → Prop) (M : pj_M) : Prop :=
  w_X2_addCosts_54 r0 r1 r2 x3 x4 x5 x6 u0 y1 (x4 - x6) k19 Q M
def w_X2_addCosts_19b (r0 : Nat) (r1 : Nat) (r2 : Nat) (x3 : Int) (x4 : Int) (x5 : Int)  (Q : Int → pj_M → Prop) (k19 : Int → pj_M → Prop) (x6 : Int) (M : pj_M) : Prop :=
  (pj_in x6) ∧ (pj_in x4) ∧ ((x4 < x6 → ((0 : Int) ≤ x3 ∧ x3 < 13) ∧ ∀ z6 : Int, z6 = ((M (pj_rf r1 3) x3) - 1) → w_X2_addCosts_71 r0 r1 r2 x3 x4  Q z6 M) ∧ (¬ x4 < x6 → (pj_in x6) ∧ (pj_in x4) ∧ ((x6 = x4 → w_X2_addCosts_44 r0 r1 r2 x3 x4 x5 x6 (pj_rf r0 1) x6 k19 Q M) ∧ (¬ x6 = x4 → (pj_in x5) ∧ ((x5 = 0 → w_X2_addCosts_54 r0 r1 r2 x3 x4 x5 x6 (pj_rf r0 1) x6 1048576 k19 Q M) ∧ (¬ x5 = 0 → w_X2_addCosts_44 r0 r1 r2 x3 x4 x5 x6 (pj_rf r0 1) x6 k19 Q M))))))
def w_X2_addCosts_19 (r0 : Nat) (r1 : Nat) (r2 : Nat) (x3 : Int) (x4 : Int) (x5 : Int)  (Q : Int → pj_M → Prop) (x6 : Int) (M : pj_M) : Prop := pj_lp (fun (k : Int × pj_M → Prop) (s : Int × pj_M) => w_X2_addCosts_19b r0 r1 r2 x3 x4 x5  Q (fun (x6 : Int) (M : pj_M) => k (x6, M)) s.1 s.2) (x6, M)
def w_X2_addCosts_14 (r0 : Nat) (r1 : Nat) (r2 : Nat) (x3 : Int) (x4 : Int) (y0 : Int)  (Q : Int → pj_M → Prop) (M : pj_M) : Prop :=
  w_X2_addCosts_19 r0 r1 r2 x3 x4 y0  Q 0 M
def w_X2_addCosts (r0 : Nat) (r1 : Nat) (r2 : Nat) (x3 : Int) (x4 : Int) (M : pj_M) (Q : Int → pj_M → Prop) : Prop :=
  ((0 : Int) ≤ x3 ∧ x3 < 13) ∧ (pj_in (M (pj_rf r1 3) x3)) ∧ ((¬ (M (pj_rf r1 3) x3) = 0 → w_X2_addCosts_14 r0 r1 r2 x3 x4 0  Q M) ∧ ((M (pj_rf r1 3) x3) = 0 → w_X2_addCosts_14 r0 r1 r2 x3 x4 1  Q M))
set_option maxRecDepth 20000 in
set_option maxHeartbeats 4000000 in
theorem s_X2_addCosts_144b {l : Launch} {g : pj_G} (hg : pj_ph g = true) {r0 : Nat} {x4 : Int} {x6 : Int} {x7 : Int} {x8 : Int} {M : pj_M} {Q : Int → pj_M → Prop}  {k144 : Int → Int → pj_M → Prop} (o0 : pj_ob r0 2)  (hk144 : ∀ (x7 : Int) (x8 : Int) (M : pj_M), k144 x7 x8 M → pj_R l g mdX2_addCosts pj_T (pj_Zm g mdX2_addCosts (pj_qi Q)) pj_NK 0 0 144 [(0, .ref r0), (4, .int (pj_I x4)), (6, .int (pj_I x6)), (7, .int (pj_I x7)), (8, .int (pj_I x8))] [] M) (h : w_X2_addCosts_144b r0 x4 x6  Q k144 x7 x8 M) : pj_R l g mdX2_addCosts pj_T (pj_Zm g mdX2_addCosts (pj_qi Q)) pj_NK 0 0 144 [(0, .ref r0), (4, .int (pj_I x4)), (6, .int (pj_I x6)), (7, .int (pj_I x7)), (8, .int (pj_I x8))] [] M := by
  unfold w_X2_addCosts_144b at h
  refine pj_iload 146 4 rfl rfl rfl ?_
  refine pj_iload 148 1 rfl rfl rfl ?_
  obtain ⟨q11, h⟩ := h
  obtain ⟨q12, h⟩ := h
  refine pj_icmp_gt 197 151 rfl (by decide) rfl q11 q12 (fun hc => ?_) (fun hc => ?_)
  · replace h := h.1 hc
    refine pj_iload 199 3 rfl rfl rfl ?_
    obtain ⟨q13, h⟩ := h
    exact pn_zret q13 h rfl rfl
  · replace h := h.2 hc
    refine pj_aload_n 152 0 rfl rfl rfl rfl ?_
    refine pn_getr 155 2 1 hg o0 (pr_2_1 o0).2 rfl pfX2_15 rfl rfl ?_
    refine pj_iload 157 4 rfl rfl rfl ?_
    obtain ⟨q14, h⟩ := h
    refine pn_iald 158 15 (pr_2_1 o0) q14 rfl rfl ?_
    refine pj_aload_n 159 0 rfl rfl rfl rfl ?_
    refine pn_getr 162 2 0 hg o0 (pr_2_0 o0).2 rfl pfX2_11 rfl rfl ?_
    refine pj_iload 164 2 rfl rfl rfl ?_
    refine pj_iload 166 4 rfl rfl rfl ?_
    refine pj_iadd 167 rfl rfl ?_
    obtain ⟨q15, h⟩ := h
    refine pn_iald 168 1350 (pr_2_0 o0) q15 rfl rfl ?_
    obtain ⟨q16, h⟩ := h
    obtain ⟨q17, h⟩ := h
    refine pj_icmp_ge 191 171 rfl (by decide) rfl q16 q17 (fun hc => ?_) (fun hc => ?_)
    · replace h := h.1 hc
      refine pj_iinc 194 4 (ls' := [(0, .ref r0), (4, .int (pj_I x4)), (6, .int (pj_I x6)), (7, .int (pj_I x7)), (8, .int (pj_I (x8 + 1)))]) rfl rfl (by decide) rfl rfl ?_
      refine pj_goto 144 rfl (by decide) ?_
      refine pn_sub [0, 1, 2, 3, 4] rfl ?_
      exact hk144 _ _ _ h
    · replace h := h.2 hc
      refine pj_aload_n 172 0 rfl rfl rfl rfl ?_
      refine pn_getr 175 2 0 hg o0 (pr_2_0 o0).2 rfl pfX2_11 rfl rfl ?_
      refine pj_iload 177 2 rfl rfl rfl ?_
      refine pj_iload 179 4 rfl rfl rfl ?_
      refine pj_iadd 180 rfl rfl ?_
      refine pj_aload_n 181 0 rfl rfl rfl rfl ?_
      refine pn_getr 184 2 1 hg o0 (pr_2_1 o0).2 rfl pfX2_15 rfl rfl ?_
      refine pj_iload 186 4 rfl rfl rfl ?_
      obtain ⟨q18, h⟩ := h
      refine pn_iald 187 15 (pr_2_1 o0) q18 rfl rfl ?_
      obtain ⟨q19, h⟩ := h
      refine pn_iast 188 1350 (pr_2_0 o0)  q19 rfl rfl (fun M20 hM20 => ?_)
      replace h := h M20 hM20
      refine pj_iconst 189 rfl rfl ?_
      refine pj_istore 191 (ls' := [(0, .ref r0), (4, .int (pj_I x4)), (6, .int (pj_I x6)), (7, .int (pj_I 1)), (8, .int (pj_I x8))]) rfl (by decide) rfl rfl ?_
      refine pj_iinc 194 4 (ls' := [(0, .ref r0), (4, .int (pj_I x4)), (6, .int (pj_I x6)), (7, .int (pj_I 1)), (8, .int (pj_I (x8 + 1)))]) rfl rfl (by decide) rfl rfl ?_
      refine pj_goto 144 rfl (by decide) ?_
      refine pn_sub [0, 1, 2, 3, 4] rfl ?_
      exact hk144 _ _ _ h
set_option maxRecDepth 20000 in
set_option maxHeartbeats 4000000 in
theorem s_X2_addCosts_144 {l : Launch} {g : pj_G} (hg : pj_ph g = true) {r0 : Nat} {x4 : Int} {x6 : Int} {x7 : Int} {x8 : Int} {M : pj_M} {Q : Int → pj_M → Prop}  (o0 : pj_ob r0 2)  (h : w_X2_addCosts_144 r0 x4 x6  Q x7 x8 M) : pj_R l g mdX2_addCosts pj_T (pj_Zm g mdX2_addCosts (pj_qi Q)) pj_NK 0 0 144 [(0, .ref r0), (4, .int (pj_I x4)), (6, .int (pj_I x6)), (7, .int (pj_I x7)), (8, .int (pj_I x8))] [] M :=
  h (fun s => pj_R l g mdX2_addCosts pj_T (pj_Zm g mdX2_addCosts (pj_qi Q)) pj_NK 0 0 144 [(0, .ref r0), (4, .int (pj_I x4)), (6, .int (pj_I x6)), (7, .int (pj_I (s.1))), (8, .int (pj_I (s.2.1)))] [] s.2.2) (fun s hs => s_X2_addCosts_144b hg o0  (fun _ _ _ q => q) hs)
set_option maxRecDepth 20000 in
set_option maxHeartbeats 4000000 in
theorem s_X2_addCosts_71b {l : Launch} {g : pj_G} (hg : pj_ph g = true) {r0 : Nat} {r1 : Nat} {r2 : Nat} {x3 : Int} {x4 : Int} {x6 : Int} {M : pj_M} {Q : Int → pj_M → Prop}  {k71 : Int → pj_M → Prop} (o0 : pj_ob r0 2) (o1 : pj_ob r1 0) (o2 : pj_ob r2 7)  (hk71 : ∀ (x6 : Int) (M : pj_M), k71 x6 M → pj_R l g mdX2_addCosts pj_T (pj_Zm g mdX2_addCosts (pj_qi Q)) pj_NK 0 0 71 [(0, .ref r0), (1, .ref r1), (2, .ref r2), (3, .int (pj_I x3)), (4, .int (pj_I x4)), (6, .int (pj_I x6))] [] M) (h : w_X2_addCosts_71b r0 r1 r2 x3 x4  Q k71 x6 M) : pj_R l g mdX2_addCosts pj_T (pj_Zm g mdX2_addCosts (pj_qi Q)) pj_NK 0 0 71 [(0, .ref r0), (1, .ref r1), (2, .ref r2), (3, .int (pj_I x3)), (4, .int (pj_I x4)), (6, .int (pj_I x6))] [] M := by
  unfold w_X2_addCosts_71b at h
  refine pj_iload 73 5 rfl rfl rfl ?_
  obtain ⟨q7, h⟩ := h
  refine pj_if_lt 125 76 rfl (by decide) rfl q7  (fun hc => ?_) (fun hc => ?_)
  · replace h := h.1 hc
    refine pj_aload_n 126 1 rfl rfl rfl rfl ?_
    refine pn_getr 129 0 2 hg o1 (pr_0_2 o1).2 rfl pfX2_50 rfl rfl ?_
    refine pj_iload_n 130 3 rfl rfl rfl rfl ?_
    obtain ⟨q8, h⟩ := h
    refine pn_iald 131 13 (pr_0_2 o1) q8 rfl rfl ?_
    refine pj_iload 133 4 rfl rfl rfl ?_
    refine pn_callSi 136 [.int (pj_I (M (pj_rf r1 2) x3)), .int (pj_I x4)] [] (s_X2_cell hg  h) plX2_39 rfl rfl rfl rfl (Nat.le_of_ble_eq_true rfl) (by decide) (fun t10 M9 h => ?_)
    refine pj_istore 138 (ls' := [(0, .ref r0), (1, .ref r1), (2, .ref r2), (3, .int (pj_I x3)), (4, .int (pj_I x4)), (6, .int (pj_I t10))]) rfl (by decide) rfl rfl ?_
    refine pj_iconst 139 rfl rfl ?_
    refine pj_istore 141 (ls' := [(0, .ref r0), (1, .ref r1), (2, .ref r2), (3, .int (pj_I x3)), (4, .int (pj_I x4)), (6, .int (pj_I t10)), (7, .int (pj_I 0))]) rfl (by decide) rfl rfl ?_
    refine pj_iconst 142 rfl rfl ?_
    refine pj_istore 144 (ls' := [(0, .ref r0), (1, .ref r1), (2, .ref r2), (3, .int (pj_I x3)), (4, .int (pj_I x4)), (6, .int (pj_I t10)), (7, .int (pj_I 0)), (8, .int (pj_I 0))]) rfl (by decide) rfl rfl ?_
    refine pn_sub [0, 4, 5, 6, 7] rfl ?_
    exact s_X2_addCosts_144 hg o0   h
  · replace h := h.2 hc
    refine pj_aload_n 77 1 rfl rfl rfl rfl ?_
    refine pn_getr 80 0 4 hg o1 (pr_0_4 o1).2 rfl pfX2_60 rfl rfl ?_
    refine pj_iload_n 81 3 rfl rfl rfl rfl ?_
    refine pj_iconst 82 rfl rfl ?_
    refine pj_imul 83 rfl rfl ?_
    refine pj_iload 85 5 rfl rfl rfl ?_
    refine pj_iadd 86 rfl rfl ?_
    obtain ⟨q21, h⟩ := h
    refine pn_iald 87 52 (pr_0_4 o1) q21 rfl rfl ?_
    refine pn_nm (fun z22 hz22 => ?_)
    replace h := h z22 hz22
    refine pj_istore 89 (ls' := [(0, .ref r0), (1, .ref r1), (2, .ref r2), (3, .int (pj_I x3)), (4, .int (pj_I x4)), (6, .int (pj_I x6)), (7, .int (pj_I z22))]) rfl (by decide) rfl rfl ?_
    refine pj_iload 91 6 rfl rfl rfl ?_
    refine pj_bipush 93 rfl (by decide) rfl ?_
    obtain ⟨q23, h⟩ := h
    refine pj_icmp_ge 108 96 rfl (by decide) rfl q23 (show pj_in 10 by decide) (fun hc => ?_) (fun hc => ?_)
    · replace h := h.1 hc
      refine pj_aload_n 109 0 rfl rfl rfl rfl ?_
      refine pj_iload 111 6 rfl rfl rfl ?_
      refine pj_bipush 113 rfl (by decide) rfl ?_
      refine pj_isub 114 rfl rfl ?_
      refine pj_iload 116 4 rfl rfl rfl ?_
      refine pn_callVv 119 2 [.int (pj_I (z22 - 10)), .int (pj_I x4)] [] o0 (s_X2_stepCapital hg o0 h) plX2_67 rfl rfl rfl rfl (Nat.le_of_ble_eq_true rfl) (by decide) (fun M24 h => ?_)
      refine pj_iinc 122 5 (ls' := [(0, .ref r0), (1, .ref r1), (2, .ref r2), (3, .int (pj_I x3)), (4, .int (pj_I x4)), (6, .int (pj_I (x6 + (-1)))), (7, .int (pj_I z22))]) rfl rfl (by decide) rfl rfl ?_
      refine pj_goto 71 rfl (by decide) ?_
      refine pn_sub [0, 1, 2, 3, 4, 5] rfl ?_
      exact hk71 _ _ h
    · replace h := h.2 hc
      refine pj_aload_n 97 0 rfl rfl rfl rfl ?_
      refine pj_iload 99 6 rfl rfl rfl ?_
      refine pj_aload_n 100 2 rfl rfl rfl rfl ?_
      refine pj_iload 102 4 rfl rfl rfl ?_
      refine pn_callVv 105 2 [.int (pj_I z22), .ref r2, .int (pj_I x4)] [] o0 (s_X2_stepSign hg o0 o2 h) plX2_63 rfl rfl rfl rfl (Nat.le_of_ble_eq_true rfl) (by decide) (fun M26 h => ?_)
      refine pj_goto 119 rfl (by decide) ?_
      refine pj_iinc 122 5 (ls' := [(0, .ref r0), (1, .ref r1), (2, .ref r2), (3, .int (pj_I x3)), (4, .int (pj_I x4)), (6, .int (pj_I (x6 + (-1)))), (7, .int (pj_I z22))]) rfl rfl (by decide) rfl rfl ?_
      refine pj_goto 71 rfl (by decide) ?_
      refine pn_sub [0, 1, 2, 3, 4, 5] rfl ?_
      exact hk71 _ _ h
set_option maxRecDepth 20000 in
set_option maxHeartbeats 4000000 in
theorem s_X2_addCosts_71 {l : Launch} {g : pj_G} (hg : pj_ph g = true) {r0 : Nat} {r1 : Nat} {r2 : Nat} {x3 : Int} {x4 : Int} {x6 : Int} {M : pj_M} {Q : Int → pj_M → Prop}  (o0 : pj_ob r0 2) (o1 : pj_ob r1 0) (o2 : pj_ob r2 7)  (h : w_X2_addCosts_71 r0 r1 r2 x3 x4  Q x6 M) : pj_R l g mdX2_addCosts pj_T (pj_Zm g mdX2_addCosts (pj_qi Q)) pj_NK 0 0 71 [(0, .ref r0), (1, .ref r1), (2, .ref r2), (3, .int (pj_I x3)), (4, .int (pj_I x4)), (6, .int (pj_I x6))] [] M :=
  h (fun s => pj_R l g mdX2_addCosts pj_T (pj_Zm g mdX2_addCosts (pj_qi Q)) pj_NK 0 0 71 [(0, .ref r0), (1, .ref r1), (2, .ref r2), (3, .int (pj_I x3)), (4, .int (pj_I x4)), (6, .int (pj_I (s.1)))] [] s.2) (fun s hs => s_X2_addCosts_71b hg o0 o1 o2  (fun _ _ q => q) hs)
set_option maxRecDepth 20000 in
set_option maxHeartbeats 4000000 in
theorem s_X2_addCosts_54 {l : Launch} {g : pj_G} (hg : pj_ph g = true) {r0 : Nat} {r1 : Nat} {r2 : Nat} {x3 : Int} {x4 : Int} {x5 : Int} {x6 : Int} {u0 : Nat} {y1 : Int} {y2 : Int} {M : pj_M} {Q : Int → pj_M → Prop} {k19 : Int → pj_M → Prop} (o0 : pj_ob r0 2) (o1 : pj_ob r1 0) (o2 : pj_ob r2 7) (ou0 : pj_ol u0 1 15) (hk19 : ∀ (x6 : Int) (M : pj_M), k19 x6 M → pj_R l g mdX2_addCosts pj_T (pj_Zm g mdX2_addCosts (pj_qi Q)) pj_NK 0 0 19 [(0, .ref r0), (1, .ref r1), (2, .ref r2), (3, .int (pj_I x3)), (4, .int (pj_I x4)), (5, .int (pj_I x5)), (6, .int (pj_I x6))] [] M) (h : w_X2_addCosts_54 r0 r1 r2 x3 x4 x5 x6 u0 y1 y2 k19 Q M) : pj_R l g mdX2_addCosts pj_T (pj_Zm g mdX2_addCosts (pj_qi Q)) pj_NK 0 0 54 [(0, .ref r0), (1, .ref r1), (2, .ref r2), (3, .int (pj_I x3)), (4, .int (pj_I x4)), (5, .int (pj_I x5)), (6, .int (pj_I x6))] [.int (pj_I y2), .int (pj_I y1), .ref u0] M := by
  unfold w_X2_addCosts_54 at h
  obtain ⟨q30, h⟩ := h
  refine pn_iast 55 15 ou0  q30 rfl rfl (fun M31 hM31 => ?_)
  replace h := h M31 hM31
  refine pj_iinc 58 6 (ls' := [(0, .ref r0), (1, .ref r1), (2, .ref r2), (3, .int (pj_I x3)), (4, .int (pj_I x4)), (5, .int (pj_I x5)), (6, .int (pj_I (x6 + 1)))]) rfl rfl (by decide) rfl rfl ?_
  refine pj_goto 19 rfl (by decide) ?_
  refine pn_sub [0, 1, 2, 3, 4, 5, 6] rfl ?_
  exact hk19 _ _ h
set_option maxRecDepth 20000 in
set_option maxHeartbeats 4000000 in
theorem s_X2_addCosts_44 {l : Launch} {g : pj_G} (hg : pj_ph g = true) {r0 : Nat} {r1 : Nat} {r2 : Nat} {x3 : Int} {x4 : Int} {x5 : Int} {x6 : Int} {u0 : Nat} {y1 : Int} {M : pj_M} {Q : Int → pj_M → Prop} {k19 : Int → pj_M → Prop} (o0 : pj_ob r0 2) (o1 : pj_ob r1 0) (o2 : pj_ob r2 7) (ou0 : pj_ol u0 1 15) (hk19 : ∀ (x6 : Int) (M : pj_M), k19 x6 M → pj_R l g mdX2_addCosts pj_T (pj_Zm g mdX2_addCosts (pj_qi Q)) pj_NK 0 0 19 [(0, .ref r0), (1, .ref r1), (2, .ref r2), (3, .int (pj_I x3)), (4, .int (pj_I x4)), (5, .int (pj_I x5)), (6, .int (pj_I x6))] [] M) (h : w_X2_addCosts_44 r0 r1 r2 x3 x4 x5 x6 u0 y1 k19 Q M) : pj_R l g mdX2_addCosts pj_T (pj_Zm g mdX2_addCosts (pj_qi Q)) pj_NK 0 0 44 [(0, .ref r0), (1, .ref r1), (2, .ref r2), (3, .int (pj_I x3)), (4, .int (pj_I x4)), (5, .int (pj_I x5)), (6, .int (pj_I x6))] [.int (pj_I y1), .ref u0] M := by
  unfold w_X2_addCosts_44 at h
  refine pj_iload 46 4 rfl rfl rfl ?_
  refine pj_iload 48 6 rfl rfl rfl ?_
  refine pj_isub 49 rfl rfl ?_
  refine pj_goto 54 rfl (by decide) ?_
  refine pn_sub [0, 1, 2, 3, 4, 5, 6] rfl ?_
  exact s_X2_addCosts_54 hg o0 o1 o2 ou0 hk19 h
set_option maxRecDepth 20000 in
set_option maxHeartbeats 4000000 in
theorem s_X2_addCosts_19b {l : Launch} {g : pj_G} (hg : pj_ph g = true) {r0 : Nat} {r1 : Nat} {r2 : Nat} {x3 : Int} {x4 : Int} {x5 : Int} {x6 : Int} {M : pj_M} {Q : Int → pj_M → Prop}  {k19 : Int → pj_M → Prop} (o0 : pj_ob r0 2) (o1 : pj_ob r1 0) (o2 : pj_ob r2 7)  (hk19 : ∀ (x6 : Int) (M : pj_M), k19 x6 M → pj_R l g mdX2_addCosts pj_T (pj_Zm g mdX2_addCosts (pj_qi Q)) pj_NK 0 0 19 [(0, .ref r0), (1, .ref r1), (2, .ref r2), (3, .int (pj_I x3)), (4, .int (pj_I x4)), (5, .int (pj_I x5)), (6, .int (pj_I x6))] [] M) (h : w_X2_addCosts_19b r0 r1 r2 x3 x4 x5  Q k19 x6 M) : pj_R l g mdX2_addCosts pj_T (pj_Zm g mdX2_addCosts (pj_qi Q)) pj_NK 0 0 19 [(0, .ref r0), (1, .ref r1), (2, .ref r2), (3, .int (pj_I x3)), (4, .int (pj_I x4)), (5, .int (pj_I x5)), (6, .int (pj_I x6))] [] M := by
  unfold w_X2_addCosts_19b at h
  refine pj_iload 21 6 rfl rfl rfl ?_
  refine pj_iload 23 4 rfl rfl rfl ?_
  obtain ⟨q3, h⟩ := h
  obtain ⟨q4, h⟩ := h
  refine pj_icmp_gt 61 26 rfl (by decide) rfl q3 q4 (fun hc => ?_) (fun hc => ?_)
  · replace h := h.1 hc
    refine pj_aload_n 62 1 rfl rfl rfl rfl ?_
    refine pn_getr 65 0 3 hg o1 (pr_0_3 o1).2 rfl pfX2_57 rfl rfl ?_
    refine pj_iload_n 66 3 rfl rfl rfl rfl ?_
    obtain ⟨q5, h⟩ := h
    refine pn_iald 67 13 (pr_0_3 o1) q5 rfl rfl ?_
    refine pj_iconst 68 rfl rfl ?_
    refine pj_isub 69 rfl rfl ?_
    refine pn_nm (fun z6 hz6 => ?_)
    replace h := h z6 hz6
    refine pj_istore 71 (ls' := [(0, .ref r0), (1, .ref r1), (2, .ref r2), (3, .int (pj_I x3)), (4, .int (pj_I x4)), (5, .int (pj_I x5)), (6, .int (pj_I z6))]) rfl (by decide) rfl rfl ?_
    refine pn_sub [0, 1, 2, 3, 4, 6] rfl ?_
    exact s_X2_addCosts_71 hg o0 o1 o2   h
  · replace h := h.2 hc
    refine pj_aload_n 27 0 rfl rfl rfl rfl ?_
    refine pn_getr 30 2 1 hg o0 (pr_2_1 o0).2 rfl pfX2_15 rfl rfl ?_
    refine pj_iload 32 6 rfl rfl rfl ?_
    refine pj_iload 34 6 rfl rfl rfl ?_
    refine pj_iload 36 4 rfl rfl rfl ?_
    obtain ⟨q28, h⟩ := h
    obtain ⟨q29, h⟩ := h
    refine pj_icmp_eq 44 39 rfl (by decide) rfl q28 q29 (fun hc => ?_) (fun hc => ?_)
    · replace h := h.1 hc
      refine pn_sub [0, 1, 2, 3, 4, 5, 6] rfl ?_
      exact s_X2_addCosts_44 hg o0 o1 o2 (pr_2_1 o0) hk19 h
    · replace h := h.2 hc
      refine pj_iload 41 5 rfl rfl rfl ?_
      obtain ⟨q32, h⟩ := h
      refine pj_if_eq 52 44 rfl (by decide) rfl q32  (fun hc => ?_) (fun hc => ?_)
      · replace h := h.1 hc
        refine pj_ldc 54 1048576 rfl pkX2_43 rfl ?_
        refine pn_sub [0, 1, 2, 3, 4, 5, 6] rfl ?_
        exact s_X2_addCosts_54 hg o0 o1 o2 (pr_2_1 o0) hk19 h
      · replace h := h.2 hc
        refine pn_sub [0, 1, 2, 3, 4, 5, 6] rfl ?_
        exact s_X2_addCosts_44 hg o0 o1 o2 (pr_2_1 o0) hk19 h
set_option maxRecDepth 20000 in
set_option maxHeartbeats 4000000 in
theorem s_X2_addCosts_19 {l : Launch} {g : pj_G} (hg : pj_ph g = true) {r0 : Nat} {r1 : Nat} {r2 : Nat} {x3 : Int} {x4 : Int} {x5 : Int} {x6 : Int} {M : pj_M} {Q : Int → pj_M → Prop}  (o0 : pj_ob r0 2) (o1 : pj_ob r1 0) (o2 : pj_ob r2 7)  (h : w_X2_addCosts_19 r0 r1 r2 x3 x4 x5  Q x6 M) : pj_R l g mdX2_addCosts pj_T (pj_Zm g mdX2_addCosts (pj_qi Q)) pj_NK 0 0 19 [(0, .ref r0), (1, .ref r1), (2, .ref r2), (3, .int (pj_I x3)), (4, .int (pj_I x4)), (5, .int (pj_I x5)), (6, .int (pj_I x6))] [] M :=
  h (fun s => pj_R l g mdX2_addCosts pj_T (pj_Zm g mdX2_addCosts (pj_qi Q)) pj_NK 0 0 19 [(0, .ref r0), (1, .ref r1), (2, .ref r2), (3, .int (pj_I x3)), (4, .int (pj_I x4)), (5, .int (pj_I x5)), (6, .int (pj_I (s.1)))] [] s.2) (fun s hs => s_X2_addCosts_19b hg o0 o1 o2  (fun _ _ q => q) hs)
set_option maxRecDepth 20000 in
set_option maxHeartbeats 4000000 in
theorem s_X2_addCosts_14 {l : Launch} {g : pj_G} (hg : pj_ph g = true) {r0 : Nat} {r1 : Nat} {r2 : Nat} {x3 : Int} {x4 : Int} {y0 : Int} {M : pj_M} {Q : Int → pj_M → Prop}  (o0 : pj_ob r0 2) (o1 : pj_ob r1 0) (o2 : pj_ob r2 7)  (h : w_X2_addCosts_14 r0 r1 r2 x3 x4 y0  Q M) : pj_R l g mdX2_addCosts pj_T (pj_Zm g mdX2_addCosts (pj_qi Q)) pj_NK 0 0 14 [(0, .ref r0), (1, .ref r1), (2, .ref r2), (3, .int (pj_I x3)), (4, .int (pj_I x4))] [.int (pj_I y0)] M := by
  unfold w_X2_addCosts_14 at h
  refine pj_istore 16 (ls' := [(0, .ref r0), (1, .ref r1), (2, .ref r2), (3, .int (pj_I x3)), (4, .int (pj_I x4)), (5, .int (pj_I y0))]) rfl (by decide) rfl rfl ?_
  refine pj_iconst 17 rfl rfl ?_
  refine pj_istore 19 (ls' := [(0, .ref r0), (1, .ref r1), (2, .ref r2), (3, .int (pj_I x3)), (4, .int (pj_I x4)), (5, .int (pj_I y0)), (6, .int (pj_I 0))]) rfl (by decide) rfl rfl ?_
  refine pn_sub [0, 1, 2, 3, 4, 5, 6] rfl ?_
  exact s_X2_addCosts_19 hg o0 o1 o2   h
set_option maxRecDepth 20000 in
set_option maxHeartbeats 4000000 in
theorem s_X2_addCosts {l : Launch} {g : pj_G} (hg : pj_ph g = true) {r0 : Nat} {r1 : Nat} {r2 : Nat} {x3 : Int} {x4 : Int} {M : pj_M} {Q : Int → pj_M → Prop} (o0 : pj_ob r0 2) (o1 : pj_ob r1 0) (o2 : pj_ob r2 7) (h : w_X2_addCosts r0 r1 r2 x3 x4 M Q) : pj_S l g mdX2_addCosts [.ref r0, .ref r1, .ref r2, .int (pj_I x3), .int (pj_I x4)] pj_NK M (pj_qi Q) := by
  refine pj_ofR (ls := [(0, .ref r0), (1, .ref r1), (2, .ref r2), (3, .int (pj_I x3)), (4, .int (pj_I x4))]) gcX2_addCosts (by decide) rfl (Nat.le_of_ble_eq_true rfl) rfl ?_
  unfold w_X2_addCosts at h
  refine pj_aload_n 1 1 rfl rfl rfl rfl ?_
  refine pn_getr 4 0 3 hg o1 (pr_0_3 o1).2 rfl pfX2_57 rfl rfl ?_
  refine pj_iload_n 5 3 rfl rfl rfl rfl ?_
  obtain ⟨q1, h⟩ := h
  refine pn_iald 6 13 (pr_0_3 o1) q1 rfl rfl ?_
  obtain ⟨q2, h⟩ := h
  refine pj_if_ne 13 9 rfl (by decide) rfl q2  (fun hc => ?_) (fun hc => ?_)
  · replace h := h.1 hc
    refine pj_iconst 14 rfl rfl ?_
    refine pn_sub [0, 1, 2, 3, 4] rfl ?_
    exact s_X2_addCosts_14 hg o0 o1 o2   h
  · replace h := h.2 (Classical.not_not.mp hc)
    refine pj_iconst 10 rfl rfl ?_
    refine pj_goto 14 rfl (by decide) ?_
    refine pn_sub [0, 1, 2, 3, 4] rfl ?_
    exact s_X2_addCosts_14 hg o0 o1 o2   h
def w_X2_fillColumn_108 (r0 : Nat) (r1 : Nat) (r2 : Nat) (x3 : Int) (x4 : Int) (x5 : Int) (x6 : Int) (x7 : Int) (y0 : Int) (k53 : Int → Int → pj_M → Prop) (k76 : Int → Int → pj_M → Prop) (Q : pj_M → Prop) (M : pj_M) : Prop :=
  (pj_in y0) ∧ ((y0 = 0 → k76 x4 (x7 + 1) M) ∧ (¬ y0 = 0 → ((0 : Int) ≤ x7 ∧ x7 < 13) ∧ (pj_in (M (pj_rf r1 2) x7)) ∧ ((6 ≤ (M (pj_rf r1 2) x7) → k76 x4 (x7 + 1) M) ∧ (¬ 6 ≤ (M (pj_rf r1 2) x7) → w_X2_addCosts r0 r1 r2 x7 x3 M (fun (t11 : Int) (M10 : pj_M) => (pj_in t11) ∧ ((t11 = 0 → k76 x4 (x7 + 1) M10) ∧ (¬ t11 = 0 → ((0 : Int) ≤ x7 ∧ x7 < 13) ∧ ∀ z14 : Int, z14 = (pj_or x4 (pj_shl 1 (M10 (pj_rf r1 2) x7))) → k76 z14 (x7 + 1) M10)))))))
def w_X2_fillColumn_103 (r0 : Nat) (r1 : Nat) (r2 : Nat) (x3 : Int) (x4 : Int) (x5 : Int) (x6 : Int) (x7 : Int) (k53 : Int → Int → pj_M → Prop) (k76 : Int → Int → pj_M → Prop) (Q : pj_M → Prop) (M : pj_M) : Prop :=
  w_X2_fillColumn_108 r0 r1 r2 x3 x4 x5 x6 x7 1 k53 k76 Q M
def w_X2_fillColumn_76b (r0 : Nat) (r1 : Nat) (r2 : Nat) (x3 : Int) (x5 : Int) (x6 : Int) (k53 : Int → Int → pj_M → Prop) (Q : pj_M → Prop) (k76 : Int → Int → pj_M → Prop) (x4 : Int) (x7 : Int) (M : pj_M) : Prop :=
  (pj_in x7) ∧ (pj_in (M r1 6)) ∧ (((M r1 6) ≤ x7 → k53 x4 (x5 + 1) M) ∧ (¬ (M r1 6) ≤ x7 → (pj_in x5) ∧ ((x5 = 0 → w_X2_fillColumn_103 r0 r1 r2 x3 x4 x5 x6 x7 k53 k76 Q M) ∧ (¬ x5 = 0 → ((0 : Int) ≤ x7 ∧ x7 < 13) ∧ (pj_in (pj_and (M (pj_rf r1 5) x7) x6)) ∧ (((pj_and (M (pj_rf r1 5) x7) x6) = 0 → w_X2_fillColumn_108 r0 r1 r2 x3 x4 x5 x6 x7 0 k53 k76 Q M) ∧ (¬ (pj_and (M (pj_rf r1 5) x7) x6) = 0 → w_X2_fillColumn_103 r0 r1 r2 x3 x4 x5 x6 x7 k53 k76 Q M))))))
def w_X2_fillColumn_76 (r0 : Nat) (r1 : Nat) (r2 : Nat) (x3 : Int) (x5 : Int) (x6 : Int) (k53 : Int → Int → pj_M → Prop) (Q : pj_M → Prop) (x4 : Int) (x7 : Int) (M : pj_M) : Prop := pj_lp (fun (k : Int × Int × pj_M → Prop) (s : Int × Int × pj_M) => w_X2_fillColumn_76b r0 r1 r2 x3 x5 x6 k53 Q (fun (x4 : Int) (x7 : Int) (M : pj_M) => k (x4, x7, M)) s.1 s.2.1 s.2.2) (x4, x7, M)
def w_X2_fillColumn_53b (r0 : Nat) (r1 : Nat) (r2 : Nat) (x3 : Int)  (Q : pj_M → Prop) (k53 : Int → Int → pj_M → Prop) (x4 : Int) (x5 : Int) (M : pj_M) : Prop :=
  (pj_in x5) ∧ ((1000 ≤ x5 → Q M) ∧ (¬ 1000 ≤ x5 → (pj_in x4) ∧ ((x4 = 0 → Q M) ∧ (¬ x4 = 0 → w_X2_fillColumn_76 r0 r1 r2 x3 x5 x4 k53 Q 0 0 M))))
def w_X2_fillColumn_53 (r0 : Nat) (r1 : Nat) (r2 : Nat) (x3 : Int)  (Q : pj_M → Prop) (x4 : Int) (x5 : Int) (M : pj_M) : Prop := pj_lp (fun (k : Int × Int × pj_M → Prop) (s : Int × Int × pj_M) => w_X2_fillColumn_53b r0 r1 r2 x3  Q (fun (x4 : Int) (x5 : Int) (M : pj_M) => k (x4, x5, M)) s.1 s.2.1 s.2.2) (x4, x5, M)
def w_X2_fillColumn_13b (r0 : Nat) (r1 : Nat) (r2 : Nat) (x3 : Int) (x4 : Int) (k3 : Int → pj_M → Prop) (Q : pj_M → Prop) (k13 : Int → pj_M → Prop) (x5 : Int) (M : pj_M) : Prop :=
  (pj_in x5) ∧ (pj_in x3) ∧ ((x3 < x5 → k3 (x4 + 1) M) ∧ (¬ x3 < x5 → w_X2_cell x4 x3 M (fun (t20 : Int) (M19 : pj_M) => ((0 : Int) ≤ (t20 + x5) ∧ (t20 + x5) < 1350) ∧ ∀ M22 : pj_M, M22 = pj_up M19 (pj_rf r0 0) (t20 + x5) 1048576 → k13 (x5 + 1) M22)))
def w_X2_fillColumn_13 (r0 : Nat) (r1 : Nat) (r2 : Nat) (x3 : Int) (x4 : Int) (k3 : Int → pj_M → Prop) (Q : pj_M → Prop) (x5 : Int) (M : pj_M) : Prop := pj_lp (fun (k : Int × pj_M → Prop) (s : Int × pj_M) => w_X2_fillColumn_13b r0 r1 r2 x3 x4 k3 Q (fun (x5 : Int) (M : pj_M) => k (x5, M)) s.1 s.2) (x5, M)
def w_X2_fillColumn_3b (r0 : Nat) (r1 : Nat) (r2 : Nat) (x3 : Int)  (Q : pj_M → Prop) (k3 : Int → pj_M → Prop) (x4 : Int) (M : pj_M) : Prop :=
  (pj_in x4) ∧ ((6 ≤ x4 → w_X2_fillColumn_53 r0 r1 r2 x3  Q 1 0 M) ∧ (¬ 6 ≤ x4 → w_X2_fillColumn_13 r0 r1 r2 x3 x4 k3 Q 0 M))
def w_X2_fillColumn_3 (r0 : Nat) (r1 : Nat) (r2 : Nat) (x3 : Int)  (Q : pj_M → Prop) (x4 : Int) (M : pj_M) : Prop := pj_lp (fun (k : Int × pj_M → Prop) (s : Int × pj_M) => w_X2_fillColumn_3b r0 r1 r2 x3  Q (fun (x4 : Int) (M : pj_M) => k (x4, M)) s.1 s.2) (x4, M)
def w_X2_fillColumn (r0 : Nat) (r1 : Nat) (r2 : Nat) (x3 : Int) (M : pj_M) (Q : pj_M → Prop) : Prop :=
  w_X2_fillColumn_3 r0 r1 r2 x3  Q 0 M
set_option maxRecDepth 20000 in
set_option maxHeartbeats 4000000 in
theorem s_X2_fillColumn_108 {l : Launch} {g : pj_G} (hg : pj_ph g = true) {r0 : Nat} {r1 : Nat} {r2 : Nat} {x3 : Int} {x4 : Int} {x5 : Int} {x6 : Int} {x7 : Int} {y0 : Int} {M : pj_M} {Q : pj_M → Prop} {k53 : Int → Int → pj_M → Prop} {k76 : Int → Int → pj_M → Prop} (o0 : pj_ob r0 2) (o1 : pj_ob r1 0) (o2 : pj_ob r2 7) (hk53 : ∀ (x4 : Int) (x5 : Int) (M : pj_M), k53 x4 x5 M → pj_R l g mdX2_fillColumn pj_T (pj_Zm g mdX2_fillColumn (pj_qv Q)) pj_NK 0 0 53 [(0, .ref r0), (1, .ref r1), (2, .ref r2), (3, .int (pj_I x3)), (4, .int (pj_I x4)), (5, .int (pj_I x5))] [] M) (hk76 : ∀ (x4 : Int) (x7 : Int) (M : pj_M), k76 x4 x7 M → pj_R l g mdX2_fillColumn pj_T (pj_Zm g mdX2_fillColumn (pj_qv Q)) pj_NK 0 0 76 [(0, .ref r0), (1, .ref r1), (2, .ref r2), (3, .int (pj_I x3)), (4, .int (pj_I x4)), (5, .int (pj_I x5)), (6, .int (pj_I x6)), (7, .int (pj_I x7))] [] M) (h : w_X2_fillColumn_108 r0 r1 r2 x3 x4 x5 x6 x7 y0 k53 k76 Q M) : pj_R l g mdX2_fillColumn pj_T (pj_Zm g mdX2_fillColumn (pj_qv Q)) pj_NK 0 0 108 [(0, .ref r0), (1, .ref r1), (2, .ref r2), (3, .int (pj_I x3)), (4, .int (pj_I x4)), (5, .int (pj_I x5)), (6, .int (pj_I x6)), (7, .int (pj_I x7))] [.int (pj_I y0)] M := by
  unfold w_X2_fillColumn_108 at h
  refine pj_istore 110 (ls' := [(0, .ref r0), (1, .ref r1), (2, .ref r2), (3, .int (pj_I x3)), (4, .int (pj_I x4)), (5, .int (pj_I x5)), (6, .int (pj_I x6)), (7, .int (pj_I x7)), (8, .int (pj_I y0))]) rfl (by decide) rfl rfl ?_
  refine pj_iload 112 8 rfl rfl rfl ?_
  obtain ⟨q7, h⟩ := h
  refine pj_if_eq 153 115 rfl (by decide) rfl q7  (fun hc => ?_) (fun hc => ?_)
  · replace h := h.1 hc
    refine pj_iinc 156 7 (ls' := [(0, .ref r0), (1, .ref r1), (2, .ref r2), (3, .int (pj_I x3)), (4, .int (pj_I x4)), (5, .int (pj_I x5)), (6, .int (pj_I x6)), (7, .int (pj_I (x7 + 1))), (8, .int (pj_I y0))]) rfl rfl (by decide) rfl rfl ?_
    refine pj_goto 76 rfl (by decide) ?_
    refine pn_sub [0, 1, 2, 3, 4, 5, 6, 7] rfl ?_
    exact hk76 _ _ _ h
  · replace h := h.2 hc
    refine pj_aload_n 116 1 rfl rfl rfl rfl ?_
    refine pn_getr 119 0 2 hg o1 (pr_0_2 o1).2 rfl pfX2_50 rfl rfl ?_
    refine pj_iload 121 7 rfl rfl rfl ?_
    obtain ⟨q8, h⟩ := h
    refine pn_iald 122 13 (pr_0_2 o1) q8 rfl rfl ?_
    refine pj_bipush 124 rfl (by decide) rfl ?_
    obtain ⟨q9, h⟩ := h
    refine pj_icmp_ge 153 127 rfl (by decide) rfl q9 (show pj_in 6 by decide) (fun hc => ?_) (fun hc => ?_)
    · replace h := h.1 hc
      refine pj_iinc 156 7 (ls' := [(0, .ref r0), (1, .ref r1), (2, .ref r2), (3, .int (pj_I x3)), (4, .int (pj_I x4)), (5, .int (pj_I x5)), (6, .int (pj_I x6)), (7, .int (pj_I (x7 + 1))), (8, .int (pj_I y0))]) rfl rfl (by decide) rfl rfl ?_
      refine pj_goto 76 rfl (by decide) ?_
      refine pn_sub [0, 1, 2, 3, 4, 5, 6, 7] rfl ?_
      exact hk76 _ _ _ h
    · replace h := h.2 hc
      refine pj_aload_n 128 0 rfl rfl rfl rfl ?_
      refine pj_aload_n 129 1 rfl rfl rfl rfl ?_
      refine pj_aload_n 130 2 rfl rfl rfl rfl ?_
      refine pj_iload 132 7 rfl rfl rfl ?_
      refine pj_iload_n 133 3 rfl rfl rfl rfl ?_
      refine pn_callVi 136 2 [.ref r1, .ref r2, .int (pj_I x7), .int (pj_I x3)] [] o0 (s_X2_addCosts hg o0 o1 o2 h) plX2_53 rfl rfl rfl rfl (Nat.le_of_ble_eq_true rfl) (by decide) (fun t11 M10 h => ?_)
      obtain ⟨q12, h⟩ := h
      refine pj_if_eq 153 139 rfl (by decide) rfl q12  (fun hc => ?_) (fun hc => ?_)
      · replace h := h.1 hc
        refine pj_iinc 156 7 (ls' := [(0, .ref r0), (1, .ref r1), (2, .ref r2), (3, .int (pj_I x3)), (4, .int (pj_I x4)), (5, .int (pj_I x5)), (6, .int (pj_I x6)), (7, .int (pj_I (x7 + 1))), (8, .int (pj_I y0))]) rfl rfl (by decide) rfl rfl ?_
        refine pj_goto 76 rfl (by decide) ?_
        refine pn_sub [0, 1, 2, 3, 4, 5, 6, 7] rfl ?_
        exact hk76 _ _ _ h
      · replace h := h.2 hc
        refine pj_iload 141 4 rfl rfl rfl ?_
        refine pj_iconst 142 rfl rfl ?_
        refine pj_aload_n 143 1 rfl rfl rfl rfl ?_
        refine pn_getr 146 0 2 hg o1 (pr_0_2 o1).2 rfl pfX2_50 rfl rfl ?_
        refine pj_iload 148 7 rfl rfl rfl ?_
        obtain ⟨q13, h⟩ := h
        refine pn_iald 149 13 (pr_0_2 o1) q13 rfl rfl ?_
        refine pj_ishl 150 rfl rfl ?_
        refine pj_ior 151 rfl rfl ?_
        refine pn_nm (fun z14 hz14 => ?_)
        replace h := h z14 hz14
        refine pj_istore 153 (ls' := [(0, .ref r0), (1, .ref r1), (2, .ref r2), (3, .int (pj_I x3)), (4, .int (pj_I z14)), (5, .int (pj_I x5)), (6, .int (pj_I x6)), (7, .int (pj_I x7)), (8, .int (pj_I y0))]) rfl (by decide) rfl rfl ?_
        refine pj_iinc 156 7 (ls' := [(0, .ref r0), (1, .ref r1), (2, .ref r2), (3, .int (pj_I x3)), (4, .int (pj_I z14)), (5, .int (pj_I x5)), (6, .int (pj_I x6)), (7, .int (pj_I (x7 + 1))), (8, .int (pj_I y0))]) rfl rfl (by decide) rfl rfl ?_
        refine pj_goto 76 rfl (by decide) ?_
        refine pn_sub [0, 1, 2, 3, 4, 5, 6, 7] rfl ?_
        exact hk76 _ _ _ h
set_option maxRecDepth 20000 in
set_option maxHeartbeats 4000000 in
theorem s_X2_fillColumn_103 {l : Launch} {g : pj_G} (hg : pj_ph g = true) {r0 : Nat} {r1 : Nat} {r2 : Nat} {x3 : Int} {x4 : Int} {x5 : Int} {x6 : Int} {x7 : Int} {M : pj_M} {Q : pj_M → Prop} {k53 : Int → Int → pj_M → Prop} {k76 : Int → Int → pj_M → Prop} (o0 : pj_ob r0 2) (o1 : pj_ob r1 0) (o2 : pj_ob r2 7) (hk53 : ∀ (x4 : Int) (x5 : Int) (M : pj_M), k53 x4 x5 M → pj_R l g mdX2_fillColumn pj_T (pj_Zm g mdX2_fillColumn (pj_qv Q)) pj_NK 0 0 53 [(0, .ref r0), (1, .ref r1), (2, .ref r2), (3, .int (pj_I x3)), (4, .int (pj_I x4)), (5, .int (pj_I x5))] [] M) (hk76 : ∀ (x4 : Int) (x7 : Int) (M : pj_M), k76 x4 x7 M → pj_R l g mdX2_fillColumn pj_T (pj_Zm g mdX2_fillColumn (pj_qv Q)) pj_NK 0 0 76 [(0, .ref r0), (1, .ref r1), (2, .ref r2), (3, .int (pj_I x3)), (4, .int (pj_I x4)), (5, .int (pj_I x5)), (6, .int (pj_I x6)), (7, .int (pj_I x7))] [] M) (h : w_X2_fillColumn_103 r0 r1 r2 x3 x4 x5 x6 x7 k53 k76 Q M) : pj_R l g mdX2_fillColumn pj_T (pj_Zm g mdX2_fillColumn (pj_qv Q)) pj_NK 0 0 103 [(0, .ref r0), (1, .ref r1), (2, .ref r2), (3, .int (pj_I x3)), (4, .int (pj_I x4)), (5, .int (pj_I x5)), (6, .int (pj_I x6)), (7, .int (pj_I x7))] [] M := by
  unfold w_X2_fillColumn_103 at h
  refine pj_iconst 104 rfl rfl ?_
  refine pj_goto 108 rfl (by decide) ?_
  refine pn_sub [0, 1, 2, 3, 4, 5, 6, 7] rfl ?_
  exact s_X2_fillColumn_108 hg o0 o1 o2  hk53 hk76 h
set_option maxRecDepth 20000 in
set_option maxHeartbeats 4000000 in
theorem s_X2_fillColumn_76b {l : Launch} {g : pj_G} (hg : pj_ph g = true) {r0 : Nat} {r1 : Nat} {r2 : Nat} {x3 : Int} {x4 : Int} {x5 : Int} {x6 : Int} {x7 : Int} {M : pj_M} {Q : pj_M → Prop} {k53 : Int → Int → pj_M → Prop} {k76 : Int → Int → pj_M → Prop} (o0 : pj_ob r0 2) (o1 : pj_ob r1 0) (o2 : pj_ob r2 7) (hk53 : ∀ (x4 : Int) (x5 : Int) (M : pj_M), k53 x4 x5 M → pj_R l g mdX2_fillColumn pj_T (pj_Zm g mdX2_fillColumn (pj_qv Q)) pj_NK 0 0 53 [(0, .ref r0), (1, .ref r1), (2, .ref r2), (3, .int (pj_I x3)), (4, .int (pj_I x4)), (5, .int (pj_I x5))] [] M) (hk76 : ∀ (x4 : Int) (x7 : Int) (M : pj_M), k76 x4 x7 M → pj_R l g mdX2_fillColumn pj_T (pj_Zm g mdX2_fillColumn (pj_qv Q)) pj_NK 0 0 76 [(0, .ref r0), (1, .ref r1), (2, .ref r2), (3, .int (pj_I x3)), (4, .int (pj_I x4)), (5, .int (pj_I x5)), (6, .int (pj_I x6)), (7, .int (pj_I x7))] [] M) (h : w_X2_fillColumn_76b r0 r1 r2 x3 x5 x6 k53 Q k76 x4 x7 M) : pj_R l g mdX2_fillColumn pj_T (pj_Zm g mdX2_fillColumn (pj_qv Q)) pj_NK 0 0 76 [(0, .ref r0), (1, .ref r1), (2, .ref r2), (3, .int (pj_I x3)), (4, .int (pj_I x4)), (5, .int (pj_I x5)), (6, .int (pj_I x6)), (7, .int (pj_I x7))] [] M := by
  unfold w_X2_fillColumn_76b at h
  refine pj_iload 78 7 rfl rfl rfl ?_
  refine pj_aload_n 79 1 rfl rfl rfl rfl ?_
  refine pn_geti 82 0 6 6 o1 rfl pfX2_44 (Or.inl rfl) rfl rfl ?_
  obtain ⟨q4, h⟩ := h
  obtain ⟨q5, h⟩ := h
  refine pj_icmp_ge 159 85 rfl (by decide) rfl q4 q5 (fun hc => ?_) (fun hc => ?_)
  · replace h := h.1 hc
    refine pj_iinc 162 5 (ls' := [(0, .ref r0), (1, .ref r1), (2, .ref r2), (3, .int (pj_I x3)), (4, .int (pj_I x4)), (5, .int (pj_I (x5 + 1))), (6, .int (pj_I x6)), (7, .int (pj_I x7))]) rfl rfl (by decide) rfl rfl ?_
    refine pj_goto 53 rfl (by decide) ?_
    refine pn_sub [0, 1, 2, 3, 4, 5] rfl ?_
    exact hk53 _ _ _ h
  · replace h := h.2 hc
    refine pj_iload 87 5 rfl rfl rfl ?_
    obtain ⟨q6, h⟩ := h
    refine pj_if_eq 103 90 rfl (by decide) rfl q6  (fun hc => ?_) (fun hc => ?_)
    · replace h := h.1 hc
      refine pn_sub [0, 1, 2, 3, 4, 5, 6, 7] rfl ?_
      exact s_X2_fillColumn_103 hg o0 o1 o2  hk53 hk76 h
    · replace h := h.2 hc
      refine pj_aload_n 91 1 rfl rfl rfl rfl ?_
      refine pn_getr 94 0 5 hg o1 (pr_0_5 o1).2 rfl pfX2_47 rfl rfl ?_
      refine pj_iload 96 7 rfl rfl rfl ?_
      obtain ⟨q15, h⟩ := h
      refine pn_iald 97 13 (pr_0_5 o1) q15 rfl rfl ?_
      refine pj_iload 99 6 rfl rfl rfl ?_
      refine pj_iand 100 rfl rfl ?_
      obtain ⟨q16, h⟩ := h
      refine pj_if_eq 107 103 rfl (by decide) rfl q16  (fun hc => ?_) (fun hc => ?_)
      · replace h := h.1 hc
        refine pj_iconst 108 rfl rfl ?_
        refine pn_sub [0, 1, 2, 3, 4, 5, 6, 7] rfl ?_
        exact s_X2_fillColumn_108 hg o0 o1 o2  hk53 hk76 h
      · replace h := h.2 hc
        refine pn_sub [0, 1, 2, 3, 4, 5, 6, 7] rfl ?_
        exact s_X2_fillColumn_103 hg o0 o1 o2  hk53 hk76 h
set_option maxRecDepth 20000 in
set_option maxHeartbeats 4000000 in
theorem s_X2_fillColumn_76 {l : Launch} {g : pj_G} (hg : pj_ph g = true) {r0 : Nat} {r1 : Nat} {r2 : Nat} {x3 : Int} {x4 : Int} {x5 : Int} {x6 : Int} {x7 : Int} {M : pj_M} {Q : pj_M → Prop} {k53 : Int → Int → pj_M → Prop} (o0 : pj_ob r0 2) (o1 : pj_ob r1 0) (o2 : pj_ob r2 7) (hk53 : ∀ (x4 : Int) (x5 : Int) (M : pj_M), k53 x4 x5 M → pj_R l g mdX2_fillColumn pj_T (pj_Zm g mdX2_fillColumn (pj_qv Q)) pj_NK 0 0 53 [(0, .ref r0), (1, .ref r1), (2, .ref r2), (3, .int (pj_I x3)), (4, .int (pj_I x4)), (5, .int (pj_I x5))] [] M) (h : w_X2_fillColumn_76 r0 r1 r2 x3 x5 x6 k53 Q x4 x7 M) : pj_R l g mdX2_fillColumn pj_T (pj_Zm g mdX2_fillColumn (pj_qv Q)) pj_NK 0 0 76 [(0, .ref r0), (1, .ref r1), (2, .ref r2), (3, .int (pj_I x3)), (4, .int (pj_I x4)), (5, .int (pj_I x5)), (6, .int (pj_I x6)), (7, .int (pj_I x7))] [] M :=
  h (fun s => pj_R l g mdX2_fillColumn pj_T (pj_Zm g mdX2_fillColumn (pj_qv Q)) pj_NK 0 0 76 [(0, .ref r0), (1, .ref r1), (2, .ref r2), (3, .int (pj_I x3)), (4, .int (pj_I (s.1))), (5, .int (pj_I x5)), (6, .int (pj_I x6)), (7, .int (pj_I (s.2.1)))] [] s.2.2) (fun s hs => s_X2_fillColumn_76b hg o0 o1 o2 hk53 (fun _ _ _ q => q) hs)
set_option maxRecDepth 20000 in
set_option maxHeartbeats 4000000 in
theorem s_X2_fillColumn_53b {l : Launch} {g : pj_G} (hg : pj_ph g = true) {r0 : Nat} {r1 : Nat} {r2 : Nat} {x3 : Int} {x4 : Int} {x5 : Int} {M : pj_M} {Q : pj_M → Prop}  {k53 : Int → Int → pj_M → Prop} (o0 : pj_ob r0 2) (o1 : pj_ob r1 0) (o2 : pj_ob r2 7)  (hk53 : ∀ (x4 : Int) (x5 : Int) (M : pj_M), k53 x4 x5 M → pj_R l g mdX2_fillColumn pj_T (pj_Zm g mdX2_fillColumn (pj_qv Q)) pj_NK 0 0 53 [(0, .ref r0), (1, .ref r1), (2, .ref r2), (3, .int (pj_I x3)), (4, .int (pj_I x4)), (5, .int (pj_I x5))] [] M) (h : w_X2_fillColumn_53b r0 r1 r2 x3  Q k53 x4 x5 M) : pj_R l g mdX2_fillColumn pj_T (pj_Zm g mdX2_fillColumn (pj_qv Q)) pj_NK 0 0 53 [(0, .ref r0), (1, .ref r1), (2, .ref r2), (3, .int (pj_I x3)), (4, .int (pj_I x4)), (5, .int (pj_I x5))] [] M := by
  unfold w_X2_fillColumn_53b at h
  refine pj_iload 55 5 rfl rfl rfl ?_
  refine pj_sipush 58 rfl (by decide) rfl ?_
  obtain ⟨q2, h⟩ := h
  refine pj_icmp_ge 165 61 rfl (by decide) rfl q2 (show pj_in 1000 by decide) (fun hc => ?_) (fun hc => ?_)
  · replace h := h.1 hc
    exact pn_vret h rfl rfl
  · replace h := h.2 hc
    refine pj_iload 63 4 rfl rfl rfl ?_
    obtain ⟨q3, h⟩ := h
    refine pj_if_eq 165 66 rfl (by decide) rfl q3  (fun hc => ?_) (fun hc => ?_)
    · replace h := h.1 hc
      exact pn_vret h rfl rfl
    · replace h := h.2 hc
      refine pj_iload 68 4 rfl rfl rfl ?_
      refine pj_istore 70 (ls' := [(0, .ref r0), (1, .ref r1), (2, .ref r2), (3, .int (pj_I x3)), (4, .int (pj_I x4)), (5, .int (pj_I x5)), (6, .int (pj_I x4))]) rfl (by decide) rfl rfl ?_
      refine pj_iconst 71 rfl rfl ?_
      refine pj_istore 73 (ls' := [(0, .ref r0), (1, .ref r1), (2, .ref r2), (3, .int (pj_I x3)), (4, .int (pj_I 0)), (5, .int (pj_I x5)), (6, .int (pj_I x4))]) rfl (by decide) rfl rfl ?_
      refine pj_iconst 74 rfl rfl ?_
      refine pj_istore 76 (ls' := [(0, .ref r0), (1, .ref r1), (2, .ref r2), (3, .int (pj_I x3)), (4, .int (pj_I 0)), (5, .int (pj_I x5)), (6, .int (pj_I x4)), (7, .int (pj_I 0))]) rfl (by decide) rfl rfl ?_
      refine pn_sub [0, 1, 2, 3, 4, 5, 6, 7] rfl ?_
      exact s_X2_fillColumn_76 hg o0 o1 o2  hk53 h
set_option maxRecDepth 20000 in
set_option maxHeartbeats 4000000 in
theorem s_X2_fillColumn_53 {l : Launch} {g : pj_G} (hg : pj_ph g = true) {r0 : Nat} {r1 : Nat} {r2 : Nat} {x3 : Int} {x4 : Int} {x5 : Int} {M : pj_M} {Q : pj_M → Prop}  (o0 : pj_ob r0 2) (o1 : pj_ob r1 0) (o2 : pj_ob r2 7)  (h : w_X2_fillColumn_53 r0 r1 r2 x3  Q x4 x5 M) : pj_R l g mdX2_fillColumn pj_T (pj_Zm g mdX2_fillColumn (pj_qv Q)) pj_NK 0 0 53 [(0, .ref r0), (1, .ref r1), (2, .ref r2), (3, .int (pj_I x3)), (4, .int (pj_I x4)), (5, .int (pj_I x5))] [] M :=
  h (fun s => pj_R l g mdX2_fillColumn pj_T (pj_Zm g mdX2_fillColumn (pj_qv Q)) pj_NK 0 0 53 [(0, .ref r0), (1, .ref r1), (2, .ref r2), (3, .int (pj_I x3)), (4, .int (pj_I (s.1))), (5, .int (pj_I (s.2.1)))] [] s.2.2) (fun s hs => s_X2_fillColumn_53b hg o0 o1 o2  (fun _ _ _ q => q) hs)
set_option maxRecDepth 20000 in
set_option maxHeartbeats 4000000 in
theorem s_X2_fillColumn_13b {l : Launch} {g : pj_G} (hg : pj_ph g = true) {r0 : Nat} {r1 : Nat} {r2 : Nat} {x3 : Int} {x4 : Int} {x5 : Int} {M : pj_M} {Q : pj_M → Prop} {k3 : Int → pj_M → Prop} {k13 : Int → pj_M → Prop} (o0 : pj_ob r0 2) (o1 : pj_ob r1 0) (o2 : pj_ob r2 7) (hk3 : ∀ (x4 : Int) (M : pj_M), k3 x4 M → pj_R l g mdX2_fillColumn pj_T (pj_Zm g mdX2_fillColumn (pj_qv Q)) pj_NK 0 0 3 [(0, .ref r0), (1, .ref r1), (2, .ref r2), (3, .int (pj_I x3)), (4, .int (pj_I x4))] [] M) (hk13 : ∀ (x5 : Int) (M : pj_M), k13 x5 M → pj_R l g mdX2_fillColumn pj_T (pj_Zm g mdX2_fillColumn (pj_qv Q)) pj_NK 0 0 13 [(0, .ref r0), (1, .ref r1), (2, .ref r2), (3, .int (pj_I x3)), (4, .int (pj_I x4)), (5, .int (pj_I x5))] [] M) (h : w_X2_fillColumn_13b r0 r1 r2 x3 x4 k3 Q k13 x5 M) : pj_R l g mdX2_fillColumn pj_T (pj_Zm g mdX2_fillColumn (pj_qv Q)) pj_NK 0 0 13 [(0, .ref r0), (1, .ref r1), (2, .ref r2), (3, .int (pj_I x3)), (4, .int (pj_I x4)), (5, .int (pj_I x5))] [] M := by
  unfold w_X2_fillColumn_13b at h
  refine pj_iload 15 5 rfl rfl rfl ?_
  refine pj_iload_n 16 3 rfl rfl rfl rfl ?_
  obtain ⟨q17, h⟩ := h
  obtain ⟨q18, h⟩ := h
  refine pj_icmp_gt 41 19 rfl (by decide) rfl q17 q18 (fun hc => ?_) (fun hc => ?_)
  · replace h := h.1 hc
    refine pj_iinc 44 4 (ls' := [(0, .ref r0), (1, .ref r1), (2, .ref r2), (3, .int (pj_I x3)), (4, .int (pj_I (x4 + 1))), (5, .int (pj_I x5))]) rfl rfl (by decide) rfl rfl ?_
    refine pj_goto 3 rfl (by decide) ?_
    refine pn_sub [0, 1, 2, 3, 4] rfl ?_
    exact hk3 _ _ h
  · replace h := h.2 hc
    refine pj_aload_n 20 0 rfl rfl rfl rfl ?_
    refine pn_getr 23 2 0 hg o0 (pr_2_0 o0).2 rfl pfX2_11 rfl rfl ?_
    refine pj_iload 25 4 rfl rfl rfl ?_
    refine pj_iload_n 26 3 rfl rfl rfl rfl ?_
    refine pn_callSi 29 [.int (pj_I x4), .int (pj_I x3)] [.ref (pj_rf r0 0)] (s_X2_cell hg  h) plX2_39 rfl rfl rfl rfl (Nat.le_of_ble_eq_true rfl) (by decide) (fun t20 M19 h => ?_)
    refine pj_iload 31 5 rfl rfl rfl ?_
    refine pj_iadd 32 rfl rfl ?_
    refine pj_ldc 34 1048576 rfl pkX2_43 rfl ?_
    obtain ⟨q21, h⟩ := h
    refine pn_iast 35 1350 (pr_2_0 o0)  q21 rfl rfl (fun M22 hM22 => ?_)
    replace h := h M22 hM22
    refine pj_iinc 38 5 (ls' := [(0, .ref r0), (1, .ref r1), (2, .ref r2), (3, .int (pj_I x3)), (4, .int (pj_I x4)), (5, .int (pj_I (x5 + 1)))]) rfl rfl (by decide) rfl rfl ?_
    refine pj_goto 13 rfl (by decide) ?_
    refine pn_sub [0, 1, 2, 3, 4, 5] rfl ?_
    exact hk13 _ _ h
set_option maxRecDepth 20000 in
set_option maxHeartbeats 4000000 in
theorem s_X2_fillColumn_13 {l : Launch} {g : pj_G} (hg : pj_ph g = true) {r0 : Nat} {r1 : Nat} {r2 : Nat} {x3 : Int} {x4 : Int} {x5 : Int} {M : pj_M} {Q : pj_M → Prop} {k3 : Int → pj_M → Prop} (o0 : pj_ob r0 2) (o1 : pj_ob r1 0) (o2 : pj_ob r2 7) (hk3 : ∀ (x4 : Int) (M : pj_M), k3 x4 M → pj_R l g mdX2_fillColumn pj_T (pj_Zm g mdX2_fillColumn (pj_qv Q)) pj_NK 0 0 3 [(0, .ref r0), (1, .ref r1), (2, .ref r2), (3, .int (pj_I x3)), (4, .int (pj_I x4))] [] M) (h : w_X2_fillColumn_13 r0 r1 r2 x3 x4 k3 Q x5 M) : pj_R l g mdX2_fillColumn pj_T (pj_Zm g mdX2_fillColumn (pj_qv Q)) pj_NK 0 0 13 [(0, .ref r0), (1, .ref r1), (2, .ref r2), (3, .int (pj_I x3)), (4, .int (pj_I x4)), (5, .int (pj_I x5))] [] M :=
  h (fun s => pj_R l g mdX2_fillColumn pj_T (pj_Zm g mdX2_fillColumn (pj_qv Q)) pj_NK 0 0 13 [(0, .ref r0), (1, .ref r1), (2, .ref r2), (3, .int (pj_I x3)), (4, .int (pj_I x4)), (5, .int (pj_I (s.1)))] [] s.2) (fun s hs => s_X2_fillColumn_13b hg o0 o1 o2 hk3 (fun _ _ q => q) hs)
set_option maxRecDepth 20000 in
set_option maxHeartbeats 4000000 in
theorem s_X2_fillColumn_3b {l : Launch} {g : pj_G} (hg : pj_ph g = true) {r0 : Nat} {r1 : Nat} {r2 : Nat} {x3 : Int} {x4 : Int} {M : pj_M} {Q : pj_M → Prop}  {k3 : Int → pj_M → Prop} (o0 : pj_ob r0 2) (o1 : pj_ob r1 0) (o2 : pj_ob r2 7)  (hk3 : ∀ (x4 : Int) (M : pj_M), k3 x4 M → pj_R l g mdX2_fillColumn pj_T (pj_Zm g mdX2_fillColumn (pj_qv Q)) pj_NK 0 0 3 [(0, .ref r0), (1, .ref r1), (2, .ref r2), (3, .int (pj_I x3)), (4, .int (pj_I x4))] [] M) (h : w_X2_fillColumn_3b r0 r1 r2 x3  Q k3 x4 M) : pj_R l g mdX2_fillColumn pj_T (pj_Zm g mdX2_fillColumn (pj_qv Q)) pj_NK 0 0 3 [(0, .ref r0), (1, .ref r1), (2, .ref r2), (3, .int (pj_I x3)), (4, .int (pj_I x4))] [] M := by
  unfold w_X2_fillColumn_3b at h
  refine pj_iload 5 4 rfl rfl rfl ?_
  refine pj_bipush 7 rfl (by decide) rfl ?_
  obtain ⟨q1, h⟩ := h
  refine pj_icmp_ge 47 10 rfl (by decide) rfl q1 (show pj_in 6 by decide) (fun hc => ?_) (fun hc => ?_)
  · replace h := h.1 hc
    refine pj_iconst 48 rfl rfl ?_
    refine pj_istore 50 (ls' := [(0, .ref r0), (1, .ref r1), (2, .ref r2), (3, .int (pj_I x3)), (4, .int (pj_I 1))]) rfl (by decide) rfl rfl ?_
    refine pj_iconst 51 rfl rfl ?_
    refine pj_istore 53 (ls' := [(0, .ref r0), (1, .ref r1), (2, .ref r2), (3, .int (pj_I x3)), (4, .int (pj_I 1)), (5, .int (pj_I 0))]) rfl (by decide) rfl rfl ?_
    refine pn_sub [0, 1, 2, 3, 4, 5] rfl ?_
    exact s_X2_fillColumn_53 hg o0 o1 o2   h
  · replace h := h.2 hc
    refine pj_iconst 11 rfl rfl ?_
    refine pj_istore 13 (ls' := [(0, .ref r0), (1, .ref r1), (2, .ref r2), (3, .int (pj_I x3)), (4, .int (pj_I x4)), (5, .int (pj_I 0))]) rfl (by decide) rfl rfl ?_
    refine pn_sub [0, 1, 2, 3, 4, 5] rfl ?_
    exact s_X2_fillColumn_13 hg o0 o1 o2  hk3 h
set_option maxRecDepth 20000 in
set_option maxHeartbeats 4000000 in
theorem s_X2_fillColumn_3 {l : Launch} {g : pj_G} (hg : pj_ph g = true) {r0 : Nat} {r1 : Nat} {r2 : Nat} {x3 : Int} {x4 : Int} {M : pj_M} {Q : pj_M → Prop}  (o0 : pj_ob r0 2) (o1 : pj_ob r1 0) (o2 : pj_ob r2 7)  (h : w_X2_fillColumn_3 r0 r1 r2 x3  Q x4 M) : pj_R l g mdX2_fillColumn pj_T (pj_Zm g mdX2_fillColumn (pj_qv Q)) pj_NK 0 0 3 [(0, .ref r0), (1, .ref r1), (2, .ref r2), (3, .int (pj_I x3)), (4, .int (pj_I x4))] [] M :=
  h (fun s => pj_R l g mdX2_fillColumn pj_T (pj_Zm g mdX2_fillColumn (pj_qv Q)) pj_NK 0 0 3 [(0, .ref r0), (1, .ref r1), (2, .ref r2), (3, .int (pj_I x3)), (4, .int (pj_I (s.1)))] [] s.2) (fun s hs => s_X2_fillColumn_3b hg o0 o1 o2  (fun _ _ q => q) hs)
set_option maxRecDepth 20000 in
set_option maxHeartbeats 4000000 in
theorem s_X2_fillColumn {l : Launch} {g : pj_G} (hg : pj_ph g = true) {r0 : Nat} {r1 : Nat} {r2 : Nat} {x3 : Int} {M : pj_M} {Q : pj_M → Prop} (o0 : pj_ob r0 2) (o1 : pj_ob r1 0) (o2 : pj_ob r2 7) (h : w_X2_fillColumn r0 r1 r2 x3 M Q) : pj_S l g mdX2_fillColumn [.ref r0, .ref r1, .ref r2, .int (pj_I x3)] pj_NK M (pj_qv Q) := by
  refine pj_ofR (ls := [(0, .ref r0), (1, .ref r1), (2, .ref r2), (3, .int (pj_I x3))]) gcX2_fillColumn (by decide) rfl (Nat.le_of_ble_eq_true rfl) rfl ?_
  unfold w_X2_fillColumn at h
  refine pj_iconst 1 rfl rfl ?_
  refine pj_istore 3 (ls' := [(0, .ref r0), (1, .ref r1), (2, .ref r2), (3, .int (pj_I x3)), (4, .int (pj_I 0))]) rfl (by decide) rfl rfl ?_
  refine pn_sub [0, 1, 2, 3, 4] rfl ?_
  exact s_X2_fillColumn_3 hg o0 o1 o2   h
def w_X2_measure_2b (r0 : Nat) (r1 : Nat) (r2 : Nat)  (Q : Int → pj_M → Prop) (k2 : Int → pj_M → Prop) (x3 : Int) (M : pj_M) : Prop :=
  (pj_in x3) ∧ (pj_in (M r2 1)) ∧ (((M r2 1) < x3 → w_X2_cell (M (pj_rf r1 0) 4) (M r2 1) M (fun (t4 : Int) (M3 : pj_M) => ((0 : Int) ≤ t4 ∧ t4 < 1350) ∧ Q (M3 (pj_rf r0 0) t4) M3)) ∧ (¬ (M r2 1) < x3 → w_X2_fillColumn r0 r1 r2 x3 M (fun (M6 : pj_M) => k2 (x3 + 1) M6)))
def w_X2_measure_2 (r0 : Nat) (r1 : Nat) (r2 : Nat)  (Q : Int → pj_M → Prop) (x3 : Int) (M : pj_M) : Prop := pj_lp (fun (k : Int × pj_M → Prop) (s : Int × pj_M) => w_X2_measure_2b r0 r1 r2  Q (fun (x3 : Int) (M : pj_M) => k (x3, M)) s.1 s.2) (x3, M)
def w_X2_measure (r0 : Nat) (r1 : Nat) (r2 : Nat) (M : pj_M) (Q : Int → pj_M → Prop) : Prop :=
  w_X2_measure_2 r0 r1 r2  Q 0 M
set_option maxRecDepth 20000 in
set_option maxHeartbeats 4000000 in
theorem s_X2_measure_2b {l : Launch} {g : pj_G} (hg : pj_ph g = true) {r0 : Nat} {r1 : Nat} {r2 : Nat} {x3 : Int} {M : pj_M} {Q : Int → pj_M → Prop}  {k2 : Int → pj_M → Prop} (o0 : pj_ob r0 2) (o1 : pj_ob r1 0) (o2 : pj_ob r2 7)  (hk2 : ∀ (x3 : Int) (M : pj_M), k2 x3 M → pj_R l g mdX2_measure pj_T (pj_Zm g mdX2_measure (pj_qi Q)) pj_NK 0 0 2 [(0, .ref r0), (1, .ref r1), (2, .ref r2), (3, .int (pj_I x3))] [] M) (h : w_X2_measure_2b r0 r1 r2  Q k2 x3 M) : pj_R l g mdX2_measure pj_T (pj_Zm g mdX2_measure (pj_qi Q)) pj_NK 0 0 2 [(0, .ref r0), (1, .ref r1), (2, .ref r2), (3, .int (pj_I x3))] [] M := by
  unfold w_X2_measure_2b at h
  refine pj_iload_n 3 3 rfl rfl rfl rfl ?_
  refine pj_aload_n 4 2 rfl rfl rfl rfl ?_
  refine pn_geti 7 7 1 1 o2 rfl pfX2_18 (Or.inl rfl) rfl rfl ?_
  obtain ⟨q1, h⟩ := h
  obtain ⟨q2, h⟩ := h
  refine pj_icmp_gt 23 10 rfl (by decide) rfl q1 q2 (fun hc => ?_) (fun hc => ?_)
  · replace h := h.1 hc
    refine pj_aload_n 24 0 rfl rfl rfl rfl ?_
    refine pn_getr 27 2 0 hg o0 (pr_2_0 o0).2 rfl pfX2_11 rfl rfl ?_
    refine pj_aload_n 28 1 rfl rfl rfl rfl ?_
    refine pn_getr 31 0 0 hg o1 (pr_0_0 o1).2 rfl pfX2_28 rfl rfl ?_
    refine pn_geti 34 4 4 4 (pr_0_0 o1) rfl pfX2_34 (Or.inl rfl) rfl rfl ?_
    refine pj_aload_n 35 2 rfl rfl rfl rfl ?_
    refine pn_geti 38 7 1 1 o2 rfl pfX2_18 (Or.inl rfl) rfl rfl ?_
    refine pn_callSi 41 [.int (pj_I (M (pj_rf r1 0) 4)), .int (pj_I (M r2 1))] [.ref (pj_rf r0 0)] (s_X2_cell hg  h) plX2_39 rfl rfl rfl rfl (Nat.le_of_ble_eq_true rfl) (by decide) (fun t4 M3 h => ?_)
    obtain ⟨q5, h⟩ := h
    refine pn_iald 42 1350 (pr_2_0 o0) q5 rfl rfl ?_
    exact pn_iret h rfl rfl
  · replace h := h.2 hc
    refine pj_aload_n 11 0 rfl rfl rfl rfl ?_
    refine pj_aload_n 12 1 rfl rfl rfl rfl ?_
    refine pj_aload_n 13 2 rfl rfl rfl rfl ?_
    refine pj_iload_n 14 3 rfl rfl rfl rfl ?_
    refine pn_callVv 17 2 [.ref r1, .ref r2, .int (pj_I x3)] [] o0 (s_X2_fillColumn hg o0 o1 o2 h) plX2_24 rfl rfl rfl rfl (Nat.le_of_ble_eq_true rfl) (by decide) (fun M6 h => ?_)
    refine pj_iinc 20 3 (ls' := [(0, .ref r0), (1, .ref r1), (2, .ref r2), (3, .int (pj_I (x3 + 1)))]) rfl rfl (by decide) rfl rfl ?_
    refine pj_goto 2 rfl (by decide) ?_
    refine pn_sub [0, 1, 2, 3] rfl ?_
    exact hk2 _ _ h
set_option maxRecDepth 20000 in
set_option maxHeartbeats 4000000 in
theorem s_X2_measure_2 {l : Launch} {g : pj_G} (hg : pj_ph g = true) {r0 : Nat} {r1 : Nat} {r2 : Nat} {x3 : Int} {M : pj_M} {Q : Int → pj_M → Prop}  (o0 : pj_ob r0 2) (o1 : pj_ob r1 0) (o2 : pj_ob r2 7)  (h : w_X2_measure_2 r0 r1 r2  Q x3 M) : pj_R l g mdX2_measure pj_T (pj_Zm g mdX2_measure (pj_qi Q)) pj_NK 0 0 2 [(0, .ref r0), (1, .ref r1), (2, .ref r2), (3, .int (pj_I x3))] [] M :=
  h (fun s => pj_R l g mdX2_measure pj_T (pj_Zm g mdX2_measure (pj_qi Q)) pj_NK 0 0 2 [(0, .ref r0), (1, .ref r1), (2, .ref r2), (3, .int (pj_I (s.1)))] [] s.2) (fun s hs => s_X2_measure_2b hg o0 o1 o2  (fun _ _ q => q) hs)
set_option maxRecDepth 20000 in
set_option maxHeartbeats 4000000 in
theorem s_X2_measure {l : Launch} {g : pj_G} (hg : pj_ph g = true) {r0 : Nat} {r1 : Nat} {r2 : Nat} {M : pj_M} {Q : Int → pj_M → Prop} (o0 : pj_ob r0 2) (o1 : pj_ob r1 0) (o2 : pj_ob r2 7) (h : w_X2_measure r0 r1 r2 M Q) : pj_S l g mdX2_measure [.ref r0, .ref r1, .ref r2] pj_NK M (pj_qi Q) := by
  refine pj_ofR (ls := [(0, .ref r0), (1, .ref r1), (2, .ref r2)]) gcX2_measure (by decide) rfl (Nat.le_of_ble_eq_true rfl) rfl ?_
  unfold w_X2_measure at h
  refine pj_iconst 1 rfl rfl ?_
  refine pj_istore_n 2 (ls' := [(0, .ref r0), (1, .ref r1), (2, .ref r2), (3, .int (pj_I 0))]) rfl rfl (by decide) rfl rfl ?_
  refine pn_sub [0, 1, 2, 3] rfl ?_
  exact s_X2_measure_2 hg o0 o1 o2   h
def w_X3_tell (r0 : Nat) (x1 : Int) (x2 : Int) (M : pj_M) (Q : Int → pj_M → Prop) : Prop :=
  (pj_in x2) ∧ ((¬ x2 = 1 → (pj_in x2) ∧ ((¬ x2 = 2 → (pj_in x2) ∧ ((¬ x2 = 3 → w_X3_yieldsSomething r0 x1 M (fun (t5 : Int) (M4 : pj_M) => (pj_in t5) ∧ ((¬ t5 = 0 → (pj_in x2) ∧ ((¬ x2 = 4 → (pj_in x2) ∧ ((¬ x2 = 5 → (pj_in x2) ∧ ((¬ x2 = 6 → ((0 : Int) ≤ x1 ∧ x1 < 6) ∧ Q (M4 (pj_rf r0 3) x1) M4) ∧ (x2 = 6 → ((0 : Int) ≤ x1 ∧ x1 < 6) ∧ Q (M4 (pj_rf r0 2) x1) M4))) ∧ (x2 = 5 → ((0 : Int) ≤ x1 ∧ x1 < 6) ∧ Q (M4 (pj_rf r0 1) x1) M4))) ∧ (x2 = 4 → ((0 : Int) ≤ x1 ∧ x1 < 6) ∧ Q (M4 (pj_rf r0 0) x1) M4))) ∧ (t5 = 0 → Q (-2) M4)))) ∧ (x2 = 3 → ((0 : Int) ≤ x1 ∧ x1 < 6) ∧ (pj_in (M (pj_rf r0 0) x1)) ∧ ((¬ (M (pj_rf r0 0) x1) = 0 → Q 0 M) ∧ ((M (pj_rf r0 0) x1) = 0 → Q 1 M))))) ∧ (x2 = 2 → Q (pj_and (pj_shr (M r0 4) x1) 1) M))) ∧ (x2 = 1 → w_X3_yieldsSomething r0 x1 M (fun (t17 : Int) (M16 : pj_M) => (pj_in t17) ∧ ((t17 = 0 → Q 0 M16) ∧ (¬ t17 = 0 → Q 1 M16)))))
set_option maxRecDepth 20000 in
set_option maxHeartbeats 4000000 in
theorem s_X3_tell {l : Launch} {g : pj_G} (hg : pj_ph g = true) {r0 : Nat} {x1 : Int} {x2 : Int} {M : pj_M} {Q : Int → pj_M → Prop} (o0 : pj_ob r0 3) (h : w_X3_tell r0 x1 x2 M Q) : pj_S l g mdX3_tell [.ref r0, .int (pj_I x1), .int (pj_I x2)] pj_NK M (pj_qi Q) := by
  refine pj_ofR (ls := [(0, .ref r0), (1, .int (pj_I x1)), (2, .int (pj_I x2))]) gcX3_tell (by decide) rfl (Nat.le_of_ble_eq_true rfl) rfl ?_
  unfold w_X3_tell at h
  refine pj_iload_n 1 2 rfl rfl rfl rfl ?_
  refine pj_iconst 2 rfl rfl ?_
  obtain ⟨q1, h⟩ := h
  refine pj_icmp_ne 19 5 rfl (by decide) rfl q1 (show pj_in 1 by decide) (fun hc => ?_) (fun hc => ?_)
  · replace h := h.1 hc
    refine pj_iload_n 20 2 rfl rfl rfl rfl ?_
    refine pj_iconst 21 rfl rfl ?_
    obtain ⟨q2, h⟩ := h
    refine pj_icmp_ne 33 24 rfl (by decide) rfl q2 (show pj_in 2 by decide) (fun hc => ?_) (fun hc => ?_)
    · replace h := h.1 hc
      refine pj_iload_n 34 2 rfl rfl rfl rfl ?_
      refine pj_iconst 35 rfl rfl ?_
      obtain ⟨q3, h⟩ := h
      refine pj_icmp_ne 53 38 rfl (by decide) rfl q3 (show pj_in 3 by decide) (fun hc => ?_) (fun hc => ?_)
      · replace h := h.1 hc
        refine pj_aload_n 54 0 rfl rfl rfl rfl ?_
        refine pj_iload_n 55 1 rfl rfl rfl rfl ?_
        refine pn_callVi 58 3 [.int (pj_I x1)] [] o0 (s_X3_yieldsSomething hg o0 h) plX3_35 rfl rfl rfl rfl (Nat.le_of_ble_eq_true rfl) (by decide) (fun t5 M4 h => ?_)
        obtain ⟨q6, h⟩ := h
        refine pj_if_ne 64 61 rfl (by decide) rfl q6  (fun hc => ?_) (fun hc => ?_)
        · replace h := h.1 hc
          refine pj_iload_n 65 2 rfl rfl rfl rfl ?_
          refine pj_iconst 66 rfl rfl ?_
          obtain ⟨q7, h⟩ := h
          refine pj_icmp_ne 76 69 rfl (by decide) rfl q7 (show pj_in 4 by decide) (fun hc => ?_) (fun hc => ?_)
          · replace h := h.1 hc
            refine pj_iload_n 77 2 rfl rfl rfl rfl ?_
            refine pj_iconst 78 rfl rfl ?_
            obtain ⟨q8, h⟩ := h
            refine pj_icmp_ne 88 81 rfl (by decide) rfl q8 (show pj_in 5 by decide) (fun hc => ?_) (fun hc => ?_)
            · replace h := h.1 hc
              refine pj_iload_n 89 2 rfl rfl rfl rfl ?_
              refine pj_bipush 91 rfl (by decide) rfl ?_
              obtain ⟨q9, h⟩ := h
              refine pj_icmp_ne 103 94 rfl (by decide) rfl q9 (show pj_in 6 by decide) (fun hc => ?_) (fun hc => ?_)
              · replace h := h.1 hc
                refine pj_aload_n 104 0 rfl rfl rfl rfl ?_
                refine pn_getr 107 3 3 hg o0 (pr_3_3 o0).2 rfl pfX3_21 rfl rfl ?_
                refine pj_iload_n 108 1 rfl rfl rfl rfl ?_
                obtain ⟨q10, h⟩ := h
                refine pn_iald 109 6 (pr_3_3 o0) q10 rfl rfl ?_
                exact pn_iret h rfl rfl
              · replace h := h.2 (Classical.not_not.mp hc)
                refine pj_aload_n 95 0 rfl rfl rfl rfl ?_
                refine pn_getr 98 3 2 hg o0 (pr_3_2 o0).2 rfl pfX3_18 rfl rfl ?_
                refine pj_iload_n 99 1 rfl rfl rfl rfl ?_
                obtain ⟨q11, h⟩ := h
                refine pn_iald 100 6 (pr_3_2 o0) q11 rfl rfl ?_
                refine pj_goto 109 rfl (by decide) ?_
                exact pn_iret h rfl rfl
            · replace h := h.2 (Classical.not_not.mp hc)
              refine pj_aload_n 82 0 rfl rfl rfl rfl ?_
              refine pn_getr 85 3 1 hg o0 (pr_3_1 o0).2 rfl pfX3_15 rfl rfl ?_
              refine pj_iload_n 86 1 rfl rfl rfl rfl ?_
              obtain ⟨q12, h⟩ := h
              refine pn_iald 87 6 (pr_3_1 o0) q12 rfl rfl ?_
              exact pn_iret h rfl rfl
          · replace h := h.2 (Classical.not_not.mp hc)
            refine pj_aload_n 70 0 rfl rfl rfl rfl ?_
            refine pn_getr 73 3 0 hg o0 (pr_3_0 o0).2 rfl pfX3_9 rfl rfl ?_
            refine pj_iload_n 74 1 rfl rfl rfl rfl ?_
            obtain ⟨q13, h⟩ := h
            refine pn_iald 75 6 (pr_3_0 o0) q13 rfl rfl ?_
            exact pn_iret h rfl rfl
        · replace h := h.2 (Classical.not_not.mp hc)
          refine pj_bipush 63 rfl (by decide) rfl ?_
          exact pn_iret h rfl rfl
      · replace h := h.2 (Classical.not_not.mp hc)
        refine pj_aload_n 39 0 rfl rfl rfl rfl ?_
        refine pn_getr 42 3 0 hg o0 (pr_3_0 o0).2 rfl pfX3_9 rfl rfl ?_
        refine pj_iload_n 43 1 rfl rfl rfl rfl ?_
        obtain ⟨q14, h⟩ := h
        refine pn_iald 44 6 (pr_3_0 o0) q14 rfl rfl ?_
        obtain ⟨q15, h⟩ := h
        refine pj_if_ne 51 47 rfl (by decide) rfl q15  (fun hc => ?_) (fun hc => ?_)
        · replace h := h.1 hc
          refine pj_iconst 52 rfl rfl ?_
          exact pn_iret h rfl rfl
        · replace h := h.2 (Classical.not_not.mp hc)
          refine pj_iconst 48 rfl rfl ?_
          refine pj_goto 52 rfl (by decide) ?_
          exact pn_iret h rfl rfl
    · replace h := h.2 (Classical.not_not.mp hc)
      refine pj_aload_n 25 0 rfl rfl rfl rfl ?_
      refine pn_geti 28 3 4 4 o0 rfl pfX3_39 (Or.inl rfl) rfl rfl ?_
      refine pj_iload_n 29 1 rfl rfl rfl rfl ?_
      refine pj_ishr 30 rfl rfl ?_
      refine pj_iconst 31 rfl rfl ?_
      refine pj_iand 32 rfl rfl ?_
      exact pn_iret h rfl rfl
  · replace h := h.2 (Classical.not_not.mp hc)
    refine pj_aload_n 6 0 rfl rfl rfl rfl ?_
    refine pj_iload_n 7 1 rfl rfl rfl rfl ?_
    refine pn_callVi 10 3 [.int (pj_I x1)] [] o0 (s_X3_yieldsSomething hg o0 h) plX3_35 rfl rfl rfl rfl (Nat.le_of_ble_eq_true rfl) (by decide) (fun t17 M16 h => ?_)
    obtain ⟨q18, h⟩ := h
    refine pj_if_eq 17 13 rfl (by decide) rfl q18  (fun hc => ?_) (fun hc => ?_)
    · replace h := h.1 hc
      refine pj_iconst 18 rfl rfl ?_
      exact pn_iret h rfl rfl
    · replace h := h.2 hc
      refine pj_iconst 14 rfl rfl ?_
      refine pj_goto 18 rfl (by decide) ?_
      exact pn_iret h rfl rfl
def w_X4_clear (r0 : Nat) (M : pj_M) (Q : pj_M → Prop) : Prop :=
  ∀ M1 : pj_M, M1 = pj_up M r0 3 0 → ∀ M2 : pj_M, M2 = pj_up M1 r0 5 0 → Q M2
set_option maxRecDepth 20000 in
set_option maxHeartbeats 4000000 in
theorem s_X4_clear {l : Launch} {g : pj_G} (hg : pj_ph g = true) {r0 : Nat} {M : pj_M} {Q : pj_M → Prop} (o0 : pj_ob r0 4) (h : w_X4_clear r0 M Q) : pj_S l g mdX4_clear [.ref r0] pj_NK M (pj_qv Q) := by
  refine pj_ofR (ls := [(0, .ref r0)]) gcX4_clear (by decide) rfl (Nat.le_of_ble_eq_true rfl) rfl ?_
  unfold w_X4_clear at h
  refine pj_aload_n 1 0 rfl rfl rfl rfl ?_
  refine pj_iconst 2 rfl rfl ?_
  refine pn_puti 5 4 3 3 o0  rfl pfX4_21 rfl rfl rfl (fun M1 hM1 => ?_)
  replace h := h M1 hM1
  refine pj_aload_n 6 0 rfl rfl rfl rfl ?_
  refine pj_iconst 7 rfl rfl ?_
  refine pn_puti 10 4 5 5 o0  rfl pfX4_25 rfl rfl rfl (fun M2 hM2 => ?_)
  replace h := h M2 hM2
  exact pn_vret h rfl rfl
def w_X4_has (r0 : Nat) (x1 : Int) (M : pj_M) (Q : Int → pj_M → Prop) : Prop :=
  (pj_in x1) ∧ ((x1 < 0 → Q 0 M) ∧ (¬ x1 < 0 → (pj_in x1) ∧ ((6 ≤ x1 → Q 0 M) ∧ (¬ 6 ≤ x1 → (pj_in (pj_and (pj_shr (M r0 5) x1) 1)) ∧ (((pj_and (pj_shr (M r0 5) x1) 1) = 0 → Q 0 M) ∧ (¬ (pj_and (pj_shr (M r0 5) x1) 1) = 0 → Q 1 M))))))
set_option maxRecDepth 20000 in
set_option maxHeartbeats 4000000 in
theorem s_X4_has {l : Launch} {g : pj_G} (hg : pj_ph g = true) {r0 : Nat} {x1 : Int} {M : pj_M} {Q : Int → pj_M → Prop} (o0 : pj_ob r0 4) (h : w_X4_has r0 x1 M Q) : pj_S l g mdX4_has [.ref r0, .int (pj_I x1)] pj_NK M (pj_qi Q) := by
  refine pj_ofR (ls := [(0, .ref r0), (1, .int (pj_I x1))]) gcX4_has (by decide) rfl (Nat.le_of_ble_eq_true rfl) rfl ?_
  unfold w_X4_has at h
  refine pj_iload_n 1 1 rfl rfl rfl rfl ?_
  obtain ⟨q1, h⟩ := h
  refine pj_if_lt 25 4 rfl (by decide) rfl q1  (fun hc => ?_) (fun hc => ?_)
  · replace h := h.1 hc
    refine pj_iconst 26 rfl rfl ?_
    exact pn_zret (by decide) h rfl rfl
  · replace h := h.2 hc
    refine pj_iload_n 5 1 rfl rfl rfl rfl ?_
    refine pj_bipush 7 rfl (by decide) rfl ?_
    obtain ⟨q2, h⟩ := h
    refine pj_icmp_ge 25 10 rfl (by decide) rfl q2 (show pj_in 6 by decide) (fun hc => ?_) (fun hc => ?_)
    · replace h := h.1 hc
      refine pj_iconst 26 rfl rfl ?_
      exact pn_zret (by decide) h rfl rfl
    · replace h := h.2 hc
      refine pj_aload_n 11 0 rfl rfl rfl rfl ?_
      refine pn_geti 14 4 5 5 o0 rfl pfX4_25 (Or.inl rfl) rfl rfl ?_
      refine pj_iload_n 15 1 rfl rfl rfl rfl ?_
      refine pj_ishr 16 rfl rfl ?_
      refine pj_iconst 17 rfl rfl ?_
      refine pj_iand 18 rfl rfl ?_
      obtain ⟨q3, h⟩ := h
      refine pj_if_eq 25 21 rfl (by decide) rfl q3  (fun hc => ?_) (fun hc => ?_)
      · replace h := h.1 hc
        refine pj_iconst 26 rfl rfl ?_
        exact pn_zret (by decide) h rfl rfl
      · replace h := h.2 hc
        refine pj_iconst 22 rfl rfl ?_
        refine pj_goto 26 rfl (by decide) ?_
        exact pn_zret (by decide) h rfl rfl
def w_X4_addRule_32 (r0 : Nat) (x1 : Int)  (Q : Int → pj_M → Prop) (M : pj_M) : Prop :=
  ∀ M7 : pj_M, M7 = pj_up M r0 5 (pj_or (M r0 5) (pj_shl 1 x1)) → Q 1 M7
def w_X4_addRule (r0 : Nat) (x1 : Int) (M : pj_M) (Q : Int → pj_M → Prop) : Prop :=
  (pj_in x1) ∧ ((x1 < 0 → Q 0 M) ∧ (¬ x1 < 0 → (pj_in x1) ∧ ((6 ≤ x1 → Q 0 M) ∧ (¬ 6 ≤ x1 → w_X4_has r0 x1 M (fun (t4 : Int) (M3 : pj_M) => (pj_in t4) ∧ ((t4 = 0 → (pj_in (M3 r0 5)) ∧ ((¬ (M3 r0 5) = 0 → w_X4_addRule_32 r0 x1  Q M3) ∧ ((M3 r0 5) = 0 → ∀ M8 : pj_M, M8 = pj_up M3 r0 4 x1 → w_X4_addRule_32 r0 x1  Q M8))) ∧ (¬ t4 = 0 → Q 0 M3)))))))
set_option maxRecDepth 20000 in
set_option maxHeartbeats 4000000 in
theorem s_X4_addRule_32 {l : Launch} {g : pj_G} (hg : pj_ph g = true) {r0 : Nat} {x1 : Int} {M : pj_M} {Q : Int → pj_M → Prop}  (o0 : pj_ob r0 4)  (h : w_X4_addRule_32 r0 x1  Q M) : pj_R l g mdX4_addRule pj_T (pj_Zm g mdX4_addRule (pj_qi Q)) pj_NK 0 0 32 [(0, .ref r0), (1, .int (pj_I x1))] [] M := by
  unfold w_X4_addRule_32 at h
  refine pj_aload_n 33 0 rfl rfl rfl rfl ?_
  refine pj_dup 34 rfl rfl rfl ?_
  refine pn_geti 37 4 5 5 o0 rfl pfX4_25 (Or.inl rfl) rfl rfl ?_
  refine pj_iconst 38 rfl rfl ?_
  refine pj_iload_n 39 1 rfl rfl rfl rfl ?_
  refine pj_ishl 40 rfl rfl ?_
  refine pj_ior 41 rfl rfl ?_
  refine pn_puti 44 4 5 5 o0  rfl pfX4_25 rfl rfl rfl (fun M7 hM7 => ?_)
  replace h := h M7 hM7
  refine pj_iconst 45 rfl rfl ?_
  exact pn_zret (by decide) h rfl rfl
set_option maxRecDepth 20000 in
set_option maxHeartbeats 4000000 in
theorem s_X4_addRule {l : Launch} {g : pj_G} (hg : pj_ph g = true) {r0 : Nat} {x1 : Int} {M : pj_M} {Q : Int → pj_M → Prop} (o0 : pj_ob r0 4) (h : w_X4_addRule r0 x1 M Q) : pj_S l g mdX4_addRule [.ref r0, .int (pj_I x1)] pj_NK M (pj_qi Q) := by
  refine pj_ofR (ls := [(0, .ref r0), (1, .int (pj_I x1))]) gcX4_addRule (by decide) rfl (Nat.le_of_ble_eq_true rfl) rfl ?_
  unfold w_X4_addRule at h
  refine pj_iload_n 1 1 rfl rfl rfl rfl ?_
  obtain ⟨q1, h⟩ := h
  refine pj_if_lt 18 4 rfl (by decide) rfl q1  (fun hc => ?_) (fun hc => ?_)
  · replace h := h.1 hc
    refine pj_iconst 19 rfl rfl ?_
    exact pn_zret (by decide) h rfl rfl
  · replace h := h.2 hc
    refine pj_iload_n 5 1 rfl rfl rfl rfl ?_
    refine pj_bipush 7 rfl (by decide) rfl ?_
    obtain ⟨q2, h⟩ := h
    refine pj_icmp_ge 18 10 rfl (by decide) rfl q2 (show pj_in 6 by decide) (fun hc => ?_) (fun hc => ?_)
    · replace h := h.1 hc
      refine pj_iconst 19 rfl rfl ?_
      exact pn_zret (by decide) h rfl rfl
    · replace h := h.2 hc
      refine pj_aload_n 11 0 rfl rfl rfl rfl ?_
      refine pj_iload_n 12 1 rfl rfl rfl rfl ?_
      refine pn_callVi 15 4 [.int (pj_I x1)] [] o0 (s_X4_has hg o0 h) plX4_28 rfl rfl rfl rfl (Nat.le_of_ble_eq_true rfl) (by decide) (fun t4 M3 h => ?_)
      obtain ⟨q5, h⟩ := h
      refine pj_if_eq 20 18 rfl (by decide) rfl q5  (fun hc => ?_) (fun hc => ?_)
      · replace h := h.1 hc
        refine pj_aload_n 21 0 rfl rfl rfl rfl ?_
        refine pn_geti 24 4 5 5 o0 rfl pfX4_25 (Or.inl rfl) rfl rfl ?_
        obtain ⟨q6, h⟩ := h
        refine pj_if_ne 32 27 rfl (by decide) rfl q6  (fun hc => ?_) (fun hc => ?_)
        · replace h := h.1 hc
          refine pn_sub [0, 1] rfl ?_
          exact s_X4_addRule_32 hg o0   h
        · replace h := h.2 (Classical.not_not.mp hc)
          refine pj_aload_n 28 0 rfl rfl rfl rfl ?_
          refine pj_iload_n 29 1 rfl rfl rfl rfl ?_
          refine pn_puti 32 4 4 4 o0  rfl pfX4_32 rfl rfl rfl (fun M8 hM8 => ?_)
          replace h := h M8 hM8
          refine pn_sub [0, 1] rfl ?_
          exact s_X4_addRule_32 hg o0   h
      · replace h := h.2 hc
        refine pj_iconst 19 rfl rfl ?_
        exact pn_zret (by decide) h rfl rfl
def w_X4_addAlternative (r0 : Nat) (x1 : Int) (M : pj_M) (Q : Int → pj_M → Prop) : Prop :=
  (pj_in (M r0 3)) ∧ (((M r0 3) < 12 → ((0 : Int) ≤ (M r0 3) ∧ (M r0 3) < 12) ∧ ∀ M3 : pj_M, M3 = pj_up M (pj_rf r0 0) (M r0 3) x1 → ((0 : Int) ≤ (M3 r0 3) ∧ (M3 r0 3) < 12) ∧ ∀ M5 : pj_M, M5 = pj_up M3 (pj_rf r0 1) (M3 r0 3) 0 → ∀ M6 : pj_M, M6 = pj_up M5 r0 3 ((M5 r0 3) + 1) → Q 1 M6) ∧ (¬ (M r0 3) < 12 → Q 0 M))
set_option maxRecDepth 20000 in
set_option maxHeartbeats 4000000 in
theorem s_X4_addAlternative {l : Launch} {g : pj_G} (hg : pj_ph g = true) {r0 : Nat} {x1 : Int} {M : pj_M} {Q : Int → pj_M → Prop} (o0 : pj_ob r0 4) (h : w_X4_addAlternative r0 x1 M Q) : pj_S l g mdX4_addAlternative [.ref r0, .int (pj_I x1)] pj_NK M (pj_qi Q) := by
  refine pj_ofR (ls := [(0, .ref r0), (1, .int (pj_I x1))]) gcX4_addAlternative (by decide) rfl (Nat.le_of_ble_eq_true rfl) rfl ?_
  unfold w_X4_addAlternative at h
  refine pj_aload_n 1 0 rfl rfl rfl rfl ?_
  refine pn_geti 4 4 3 3 o0 rfl pfX4_21 (Or.inl rfl) rfl rfl ?_
  refine pj_bipush 6 rfl (by decide) rfl ?_
  obtain ⟨q1, h⟩ := h
  refine pj_icmp_lt 11 9 rfl (by decide) rfl q1 (show pj_in 12 by decide) (fun hc => ?_) (fun hc => ?_)
  · replace h := h.1 hc
    refine pj_aload_n 12 0 rfl rfl rfl rfl ?_
    refine pn_getr 15 4 0 hg o0 (pr_4_0 o0).2 rfl pfX4_9 rfl rfl ?_
    refine pj_aload_n 16 0 rfl rfl rfl rfl ?_
    refine pn_geti 19 4 3 3 o0 rfl pfX4_21 (Or.inl rfl) rfl rfl ?_
    refine pj_iload_n 20 1 rfl rfl rfl rfl ?_
    obtain ⟨q2, h⟩ := h
    refine pn_iast 21 12 (pr_4_0 o0)  q2 rfl rfl (fun M3 hM3 => ?_)
    replace h := h M3 hM3
    refine pj_aload_n 22 0 rfl rfl rfl rfl ?_
    refine pn_getr 25 4 1 hg o0 (pr_4_1 o0).2 rfl pfX4_15 rfl rfl ?_
    refine pj_aload_n 26 0 rfl rfl rfl rfl ?_
    refine pn_geti 29 4 3 3 o0 rfl pfX4_21 (Or.inl rfl) rfl rfl ?_
    refine pj_iconst 30 rfl rfl ?_
    obtain ⟨q4, h⟩ := h
    refine pn_iast 31 12 (pr_4_1 o0)  q4 rfl rfl (fun M5 hM5 => ?_)
    replace h := h M5 hM5
    refine pj_aload_n 32 0 rfl rfl rfl rfl ?_
    refine pj_dup 33 rfl rfl rfl ?_
    refine pn_geti 36 4 3 3 o0 rfl pfX4_21 (Or.inl rfl) rfl rfl ?_
    refine pj_iconst 37 rfl rfl ?_
    refine pj_iadd 38 rfl rfl ?_
    refine pn_puti 41 4 3 3 o0  rfl pfX4_21 rfl rfl rfl (fun M6 hM6 => ?_)
    replace h := h M6 hM6
    refine pj_iconst 42 rfl rfl ?_
    exact pn_zret (by decide) h rfl rfl
  · replace h := h.2 hc
    refine pj_iconst 10 rfl rfl ?_
    exact pn_zret (by decide) h rfl rfl
def w_X4_addSymbol (r0 : Nat) (x1 : Int) (M : pj_M) (Q : Int → pj_M → Prop) : Prop :=
  ∀ z1 : Int, z1 = ((M r0 3) - 1) → (pj_in z1) ∧ ((z1 < 0 → Q 0 M) ∧ (¬ z1 < 0 → ((0 : Int) ≤ z1 ∧ z1 < 12) ∧ (pj_in (M (pj_rf r0 1) z1)) ∧ (((M (pj_rf r0 1) z1) < 4 → ((0 : Int) ≤ z1 ∧ z1 < 12) ∧ ((0 : Int) ≤ ((z1 * 4) + (M (pj_rf r0 1) z1)) ∧ ((z1 * 4) + (M (pj_rf r0 1) z1)) < 48) ∧ ∀ M7 : pj_M, M7 = pj_up M (pj_rf r0 2) ((z1 * 4) + (M (pj_rf r0 1) z1)) x1 → ((0 : Int) ≤ z1 ∧ z1 < 12) ∧ ((0 : Int) ≤ z1 ∧ z1 < 12) ∧ ∀ M10 : pj_M, M10 = pj_up M7 (pj_rf r0 1) z1 ((M7 (pj_rf r0 1) z1) + 1) → Q 1 M10) ∧ (¬ (M (pj_rf r0 1) z1) < 4 → Q 0 M))))
set_option maxRecDepth 20000 in
set_option maxHeartbeats 4000000 in
theorem s_X4_addSymbol {l : Launch} {g : pj_G} (hg : pj_ph g = true) {r0 : Nat} {x1 : Int} {M : pj_M} {Q : Int → pj_M → Prop} (o0 : pj_ob r0 4) (h : w_X4_addSymbol r0 x1 M Q) : pj_S l g mdX4_addSymbol [.ref r0, .int (pj_I x1)] pj_NK M (pj_qi Q) := by
  refine pj_ofR (ls := [(0, .ref r0), (1, .int (pj_I x1))]) gcX4_addSymbol (by decide) rfl (Nat.le_of_ble_eq_true rfl) rfl ?_
  unfold w_X4_addSymbol at h
  refine pj_aload_n 1 0 rfl rfl rfl rfl ?_
  refine pn_geti 4 4 3 3 o0 rfl pfX4_21 (Or.inl rfl) rfl rfl ?_
  refine pj_iconst 5 rfl rfl ?_
  refine pj_isub 6 rfl rfl ?_
  refine pn_nm (fun z1 hz1 => ?_)
  replace h := h z1 hz1
  refine pj_istore_n 7 (ls' := [(0, .ref r0), (1, .int (pj_I x1)), (2, .int (pj_I z1))]) rfl rfl (by decide) rfl rfl ?_
  refine pj_iload_n 8 2 rfl rfl rfl rfl ?_
  obtain ⟨q2, h⟩ := h
  refine pj_if_lt 21 11 rfl (by decide) rfl q2  (fun hc => ?_) (fun hc => ?_)
  · replace h := h.1 hc
    refine pj_iconst 22 rfl rfl ?_
    exact pn_zret (by decide) h rfl rfl
  · replace h := h.2 hc
    refine pj_aload_n 12 0 rfl rfl rfl rfl ?_
    refine pn_getr 15 4 1 hg o0 (pr_4_1 o0).2 rfl pfX4_15 rfl rfl ?_
    refine pj_iload_n 16 2 rfl rfl rfl rfl ?_
    obtain ⟨q3, h⟩ := h
    refine pn_iald 17 12 (pr_4_1 o0) q3 rfl rfl ?_
    refine pj_iconst 18 rfl rfl ?_
    obtain ⟨q4, h⟩ := h
    refine pj_icmp_lt 23 21 rfl (by decide) rfl q4 (show pj_in 4 by decide) (fun hc => ?_) (fun hc => ?_)
    · replace h := h.1 hc
      refine pj_aload_n 24 0 rfl rfl rfl rfl ?_
      refine pn_getr 27 4 2 hg o0 (pr_4_2 o0).2 rfl pfX4_18 rfl rfl ?_
      refine pj_iload_n 28 2 rfl rfl rfl rfl ?_
      refine pj_iconst 29 rfl rfl ?_
      refine pj_imul 30 rfl rfl ?_
      refine pj_aload_n 31 0 rfl rfl rfl rfl ?_
      refine pn_getr 34 4 1 hg o0 (pr_4_1 o0).2 rfl pfX4_15 rfl rfl ?_
      refine pj_iload_n 35 2 rfl rfl rfl rfl ?_
      obtain ⟨q5, h⟩ := h
      refine pn_iald 36 12 (pr_4_1 o0) q5 rfl rfl ?_
      refine pj_iadd 37 rfl rfl ?_
      refine pj_iload_n 38 1 rfl rfl rfl rfl ?_
      obtain ⟨q6, h⟩ := h
      refine pn_iast 39 48 (pr_4_2 o0)  q6 rfl rfl (fun M7 hM7 => ?_)
      replace h := h M7 hM7
      refine pj_aload_n 40 0 rfl rfl rfl rfl ?_
      refine pn_getr 43 4 1 hg o0 (pr_4_1 o0).2 rfl pfX4_15 rfl rfl ?_
      refine pj_iload_n 44 2 rfl rfl rfl rfl ?_
      refine pj_dup2 45 rfl rfl rfl rfl ?_
      obtain ⟨q8, h⟩ := h
      refine pn_iald 46 12 (pr_4_1 o0) q8 rfl rfl ?_
      refine pj_iconst 47 rfl rfl ?_
      refine pj_iadd 48 rfl rfl ?_
      obtain ⟨q9, h⟩ := h
      refine pn_iast 49 12 (pr_4_1 o0)  q9 rfl rfl (fun M10 hM10 => ?_)
      replace h := h M10 hM10
      refine pj_iconst 50 rfl rfl ?_
      exact pn_zret (by decide) h rfl rfl
    · replace h := h.2 hc
      refine pj_iconst 22 rfl rfl ?_
      exact pn_zret (by decide) h rfl rfl
def w_X4_alternativesOf_4b (r0 : Nat) (x1 : Int)  (Q : Int → pj_M → Prop) (k4 : Int → Int → pj_M → Prop) (x2 : Int) (x3 : Int) (M : pj_M) : Prop :=
  (pj_in x3) ∧ (pj_in (M r0 3)) ∧ (((M r0 3) ≤ x3 → Q x2 M) ∧ (¬ (M r0 3) ≤ x3 → ((0 : Int) ≤ x3 ∧ x3 < 12) ∧ (pj_in (M (pj_rf r0 0) x3)) ∧ (pj_in x1) ∧ ((¬ (M (pj_rf r0 0) x3) = x1 → k4 x2 (x3 + 1) M) ∧ ((M (pj_rf r0 0) x3) = x1 → k4 (x2 + 1) (x3 + 1) M))))
def w_X4_alternativesOf_4 (r0 : Nat) (x1 : Int)  (Q : Int → pj_M → Prop) (x2 : Int) (x3 : Int) (M : pj_M) : Prop := pj_lp (fun (k : Int × Int × pj_M → Prop) (s : Int × Int × pj_M) => w_X4_alternativesOf_4b r0 x1  Q (fun (x2 : Int) (x3 : Int) (M : pj_M) => k (x2, x3, M)) s.1 s.2.1 s.2.2) (x2, x3, M)
def w_X4_alternativesOf (r0 : Nat) (x1 : Int) (M : pj_M) (Q : Int → pj_M → Prop) : Prop :=
  w_X4_alternativesOf_4 r0 x1  Q 0 0 M
set_option maxRecDepth 20000 in
set_option maxHeartbeats 4000000 in
theorem s_X4_alternativesOf_4b {l : Launch} {g : pj_G} (hg : pj_ph g = true) {r0 : Nat} {x1 : Int} {x2 : Int} {x3 : Int} {M : pj_M} {Q : Int → pj_M → Prop}  {k4 : Int → Int → pj_M → Prop} (o0 : pj_ob r0 4)  (hk4 : ∀ (x2 : Int) (x3 : Int) (M : pj_M), k4 x2 x3 M → pj_R l g mdX4_alternativesOf pj_T (pj_Zm g mdX4_alternativesOf (pj_qi Q)) pj_NK 0 0 4 [(0, .ref r0), (1, .int (pj_I x1)), (2, .int (pj_I x2)), (3, .int (pj_I x3))] [] M) (h : w_X4_alternativesOf_4b r0 x1  Q k4 x2 x3 M) : pj_R l g mdX4_alternativesOf pj_T (pj_Zm g mdX4_alternativesOf (pj_qi Q)) pj_NK 0 0 4 [(0, .ref r0), (1, .int (pj_I x1)), (2, .int (pj_I x2)), (3, .int (pj_I x3))] [] M := by
  unfold w_X4_alternativesOf_4b at h
  refine pj_iload_n 5 3 rfl rfl rfl rfl ?_
  refine pj_aload_n 6 0 rfl rfl rfl rfl ?_
  refine pn_geti 9 4 3 3 o0 rfl pfX4_21 (Or.inl rfl) rfl rfl ?_
  obtain ⟨q1, h⟩ := h
  obtain ⟨q2, h⟩ := h
  refine pj_icmp_ge 31 12 rfl (by decide) rfl q1 q2 (fun hc => ?_) (fun hc => ?_)
  · replace h := h.1 hc
    refine pj_iload_n 32 2 rfl rfl rfl rfl ?_
    exact pn_iret h rfl rfl
  · replace h := h.2 hc
    refine pj_aload_n 13 0 rfl rfl rfl rfl ?_
    refine pn_getr 16 4 0 hg o0 (pr_4_0 o0).2 rfl pfX4_9 rfl rfl ?_
    refine pj_iload_n 17 3 rfl rfl rfl rfl ?_
    obtain ⟨q3, h⟩ := h
    refine pn_iald 18 12 (pr_4_0 o0) q3 rfl rfl ?_
    refine pj_iload_n 19 1 rfl rfl rfl rfl ?_
    obtain ⟨q4, h⟩ := h
    obtain ⟨q5, h⟩ := h
    refine pj_icmp_ne 25 22 rfl (by decide) rfl q4 q5 (fun hc => ?_) (fun hc => ?_)
    · replace h := h.1 hc
      refine pj_iinc 28 3 (ls' := [(0, .ref r0), (1, .int (pj_I x1)), (2, .int (pj_I x2)), (3, .int (pj_I (x3 + 1)))]) rfl rfl (by decide) rfl rfl ?_
      refine pj_goto 4 rfl (by decide) ?_
      refine pn_sub [0, 1, 2, 3] rfl ?_
      exact hk4 _ _ _ h
    · replace h := h.2 (Classical.not_not.mp hc)
      refine pj_iinc 25 2 (ls' := [(0, .ref r0), (1, .int (pj_I x1)), (2, .int (pj_I (x2 + 1))), (3, .int (pj_I x3))]) rfl rfl (by decide) rfl rfl ?_
      refine pj_iinc 28 3 (ls' := [(0, .ref r0), (1, .int (pj_I x1)), (2, .int (pj_I (x2 + 1))), (3, .int (pj_I (x3 + 1)))]) rfl rfl (by decide) rfl rfl ?_
      refine pj_goto 4 rfl (by decide) ?_
      refine pn_sub [0, 1, 2, 3] rfl ?_
      exact hk4 _ _ _ h
set_option maxRecDepth 20000 in
set_option maxHeartbeats 4000000 in
theorem s_X4_alternativesOf_4 {l : Launch} {g : pj_G} (hg : pj_ph g = true) {r0 : Nat} {x1 : Int} {x2 : Int} {x3 : Int} {M : pj_M} {Q : Int → pj_M → Prop}  (o0 : pj_ob r0 4)  (h : w_X4_alternativesOf_4 r0 x1  Q x2 x3 M) : pj_R l g mdX4_alternativesOf pj_T (pj_Zm g mdX4_alternativesOf (pj_qi Q)) pj_NK 0 0 4 [(0, .ref r0), (1, .int (pj_I x1)), (2, .int (pj_I x2)), (3, .int (pj_I x3))] [] M :=
  h (fun s => pj_R l g mdX4_alternativesOf pj_T (pj_Zm g mdX4_alternativesOf (pj_qi Q)) pj_NK 0 0 4 [(0, .ref r0), (1, .int (pj_I x1)), (2, .int (pj_I (s.1))), (3, .int (pj_I (s.2.1)))] [] s.2.2) (fun s hs => s_X4_alternativesOf_4b hg o0  (fun _ _ _ q => q) hs)
set_option maxRecDepth 20000 in
set_option maxHeartbeats 4000000 in
theorem s_X4_alternativesOf {l : Launch} {g : pj_G} (hg : pj_ph g = true) {r0 : Nat} {x1 : Int} {M : pj_M} {Q : Int → pj_M → Prop} (o0 : pj_ob r0 4) (h : w_X4_alternativesOf r0 x1 M Q) : pj_S l g mdX4_alternativesOf [.ref r0, .int (pj_I x1)] pj_NK M (pj_qi Q) := by
  refine pj_ofR (ls := [(0, .ref r0), (1, .int (pj_I x1))]) gcX4_alternativesOf (by decide) rfl (Nat.le_of_ble_eq_true rfl) rfl ?_
  unfold w_X4_alternativesOf at h
  refine pj_iconst 1 rfl rfl ?_
  refine pj_istore_n 2 (ls' := [(0, .ref r0), (1, .int (pj_I x1)), (2, .int (pj_I 0))]) rfl rfl (by decide) rfl rfl ?_
  refine pj_iconst 3 rfl rfl ?_
  refine pj_istore_n 4 (ls' := [(0, .ref r0), (1, .int (pj_I x1)), (2, .int (pj_I 0)), (3, .int (pj_I 0))]) rfl rfl (by decide) rfl rfl ?_
  refine pn_sub [0, 1, 2, 3] rfl ?_
  exact s_X4_alternativesOf_4 hg o0   h
def w_X4_everyCapitalHasRule_12b (r0 : Nat) (x1 : Int) (k2 : Int → pj_M → Prop) (Q : Int → pj_M → Prop) (k12 : Int → pj_M → Prop) (x2 : Int) (M : pj_M) : Prop :=
  ((0 : Int) ≤ x1 ∧ x1 < 12) ∧ (pj_in x2) ∧ (pj_in (M (pj_rf r0 1) x1)) ∧ (((M (pj_rf r0 1) x1) ≤ x2 → k2 (x1 + 1) M) ∧ (¬ (M (pj_rf r0 1) x1) ≤ x2 → ((0 : Int) ≤ ((x1 * 4) + x2) ∧ ((x1 * 4) + x2) < 48) ∧ ∀ z7 : Int, z7 = (M (pj_rf r0 2) ((x1 * 4) + x2)) → (pj_in z7) ∧ ((z7 < 8 → k12 (x2 + 1) M) ∧ (¬ z7 < 8 → w_X4_has r0 (z7 - 8) M (fun (t10 : Int) (M9 : pj_M) => (pj_in t10) ∧ ((¬ t10 = 0 → k12 (x2 + 1) M9) ∧ (t10 = 0 → Q 0 M9)))))))
def w_X4_everyCapitalHasRule_12 (r0 : Nat) (x1 : Int) (k2 : Int → pj_M → Prop) (Q : Int → pj_M → Prop) (x2 : Int) (M : pj_M) : Prop := pj_lp (fun (k : Int × pj_M → Prop) (s : Int × pj_M) => w_X4_everyCapitalHasRule_12b r0 x1 k2 Q (fun (x2 : Int) (M : pj_M) => k (x2, M)) s.1 s.2) (x2, M)
def w_X4_everyCapitalHasRule_2b (r0 : Nat)  (Q : Int → pj_M → Prop) (k2 : Int → pj_M → Prop) (x1 : Int) (M : pj_M) : Prop :=
  (pj_in x1) ∧ (pj_in (M r0 3)) ∧ (((M r0 3) ≤ x1 → Q 1 M) ∧ (¬ (M r0 3) ≤ x1 → w_X4_everyCapitalHasRule_12 r0 x1 k2 Q 0 M))
def w_X4_everyCapitalHasRule_2 (r0 : Nat)  (Q : Int → pj_M → Prop) (x1 : Int) (M : pj_M) : Prop := pj_lp (fun (k : Int × pj_M → Prop) (s : Int × pj_M) => w_X4_everyCapitalHasRule_2b r0  Q (fun (x1 : Int) (M : pj_M) => k (x1, M)) s.1 s.2) (x1, M)
def w_X4_everyCapitalHasRule (r0 : Nat) (M : pj_M) (Q : Int → pj_M → Prop) : Prop :=
  w_X4_everyCapitalHasRule_2 r0  Q 0 M
set_option maxRecDepth 20000 in
set_option maxHeartbeats 4000000 in
theorem s_X4_everyCapitalHasRule_12b {l : Launch} {g : pj_G} (hg : pj_ph g = true) {r0 : Nat} {x1 : Int} {x2 : Int} {M : pj_M} {Q : Int → pj_M → Prop} {k2 : Int → pj_M → Prop} {k12 : Int → pj_M → Prop} (o0 : pj_ob r0 4) (hk2 : ∀ (x1 : Int) (M : pj_M), k2 x1 M → pj_R l g mdX4_everyCapitalHasRule pj_T (pj_Zm g mdX4_everyCapitalHasRule (pj_qi Q)) pj_NK 0 0 2 [(0, .ref r0), (1, .int (pj_I x1))] [] M) (hk12 : ∀ (x2 : Int) (M : pj_M), k12 x2 M → pj_R l g mdX4_everyCapitalHasRule pj_T (pj_Zm g mdX4_everyCapitalHasRule (pj_qi Q)) pj_NK 0 0 12 [(0, .ref r0), (1, .int (pj_I x1)), (2, .int (pj_I x2))] [] M) (h : w_X4_everyCapitalHasRule_12b r0 x1 k2 Q k12 x2 M) : pj_R l g mdX4_everyCapitalHasRule pj_T (pj_Zm g mdX4_everyCapitalHasRule (pj_qi Q)) pj_NK 0 0 12 [(0, .ref r0), (1, .int (pj_I x1)), (2, .int (pj_I x2))] [] M := by
  unfold w_X4_everyCapitalHasRule_12b at h
  refine pj_iload_n 13 2 rfl rfl rfl rfl ?_
  refine pj_aload_n 14 0 rfl rfl rfl rfl ?_
  refine pn_getr 17 4 1 hg o0 (pr_4_1 o0).2 rfl pfX4_15 rfl rfl ?_
  refine pj_iload_n 18 1 rfl rfl rfl rfl ?_
  obtain ⟨q3, h⟩ := h
  refine pn_iald 19 12 (pr_4_1 o0) q3 rfl rfl ?_
  obtain ⟨q4, h⟩ := h
  obtain ⟨q5, h⟩ := h
  refine pj_icmp_ge 58 22 rfl (by decide) rfl q4 q5 (fun hc => ?_) (fun hc => ?_)
  · replace h := h.1 hc
    refine pj_iinc 61 1 (ls' := [(0, .ref r0), (1, .int (pj_I (x1 + 1))), (2, .int (pj_I x2))]) rfl rfl (by decide) rfl rfl ?_
    refine pj_goto 2 rfl (by decide) ?_
    refine pn_sub [0, 1] rfl ?_
    exact hk2 _ _ h
  · replace h := h.2 hc
    refine pj_aload_n 23 0 rfl rfl rfl rfl ?_
    refine pn_getr 26 4 2 hg o0 (pr_4_2 o0).2 rfl pfX4_18 rfl rfl ?_
    refine pj_iload_n 27 1 rfl rfl rfl rfl ?_
    refine pj_iconst 28 rfl rfl ?_
    refine pj_imul 29 rfl rfl ?_
    refine pj_iload_n 30 2 rfl rfl rfl rfl ?_
    refine pj_iadd 31 rfl rfl ?_
    obtain ⟨q6, h⟩ := h
    refine pn_iald 32 48 (pr_4_2 o0) q6 rfl rfl ?_
    refine pn_nm (fun z7 hz7 => ?_)
    replace h := h z7 hz7
    refine pj_istore_n 33 (ls' := [(0, .ref r0), (1, .int (pj_I x1)), (2, .int (pj_I x2)), (3, .int (pj_I z7))]) rfl rfl (by decide) rfl rfl ?_
    refine pj_iload_n 34 3 rfl rfl rfl rfl ?_
    refine pj_bipush 36 rfl (by decide) rfl ?_
    obtain ⟨q8, h⟩ := h
    refine pj_icmp_lt 52 39 rfl (by decide) rfl q8 (show pj_in 8 by decide) (fun hc => ?_) (fun hc => ?_)
    · replace h := h.1 hc
      refine pj_iinc 55 2 (ls' := [(0, .ref r0), (1, .int (pj_I x1)), (2, .int (pj_I (x2 + 1))), (3, .int (pj_I z7))]) rfl rfl (by decide) rfl rfl ?_
      refine pj_goto 12 rfl (by decide) ?_
      refine pn_sub [0, 1, 2] rfl ?_
      exact hk12 _ _ h
    · replace h := h.2 hc
      refine pj_aload_n 40 0 rfl rfl rfl rfl ?_
      refine pj_iload_n 41 3 rfl rfl rfl rfl ?_
      refine pj_bipush 43 rfl (by decide) rfl ?_
      refine pj_isub 44 rfl rfl ?_
      refine pn_callVi 47 4 [.int (pj_I (z7 - 8))] [] o0 (s_X4_has hg o0 h) plX4_28 rfl rfl rfl rfl (Nat.le_of_ble_eq_true rfl) (by decide) (fun t10 M9 h => ?_)
      obtain ⟨q11, h⟩ := h
      refine pj_if_ne 52 50 rfl (by decide) rfl q11  (fun hc => ?_) (fun hc => ?_)
      · replace h := h.1 hc
        refine pj_iinc 55 2 (ls' := [(0, .ref r0), (1, .int (pj_I x1)), (2, .int (pj_I (x2 + 1))), (3, .int (pj_I z7))]) rfl rfl (by decide) rfl rfl ?_
        refine pj_goto 12 rfl (by decide) ?_
        refine pn_sub [0, 1, 2] rfl ?_
        exact hk12 _ _ h
      · replace h := h.2 (Classical.not_not.mp hc)
        refine pj_iconst 51 rfl rfl ?_
        exact pn_zret (by decide) h rfl rfl
set_option maxRecDepth 20000 in
set_option maxHeartbeats 4000000 in
theorem s_X4_everyCapitalHasRule_12 {l : Launch} {g : pj_G} (hg : pj_ph g = true) {r0 : Nat} {x1 : Int} {x2 : Int} {M : pj_M} {Q : Int → pj_M → Prop} {k2 : Int → pj_M → Prop} (o0 : pj_ob r0 4) (hk2 : ∀ (x1 : Int) (M : pj_M), k2 x1 M → pj_R l g mdX4_everyCapitalHasRule pj_T (pj_Zm g mdX4_everyCapitalHasRule (pj_qi Q)) pj_NK 0 0 2 [(0, .ref r0), (1, .int (pj_I x1))] [] M) (h : w_X4_everyCapitalHasRule_12 r0 x1 k2 Q x2 M) : pj_R l g mdX4_everyCapitalHasRule pj_T (pj_Zm g mdX4_everyCapitalHasRule (pj_qi Q)) pj_NK 0 0 12 [(0, .ref r0), (1, .int (pj_I x1)), (2, .int (pj_I x2))] [] M :=
  h (fun s => pj_R l g mdX4_everyCapitalHasRule pj_T (pj_Zm g mdX4_everyCapitalHasRule (pj_qi Q)) pj_NK 0 0 12 [(0, .ref r0), (1, .int (pj_I x1)), (2, .int (pj_I (s.1)))] [] s.2) (fun s hs => s_X4_everyCapitalHasRule_12b hg o0 hk2 (fun _ _ q => q) hs)
set_option maxRecDepth 20000 in
set_option maxHeartbeats 4000000 in
theorem s_X4_everyCapitalHasRule_2b {l : Launch} {g : pj_G} (hg : pj_ph g = true) {r0 : Nat} {x1 : Int} {M : pj_M} {Q : Int → pj_M → Prop}  {k2 : Int → pj_M → Prop} (o0 : pj_ob r0 4)  (hk2 : ∀ (x1 : Int) (M : pj_M), k2 x1 M → pj_R l g mdX4_everyCapitalHasRule pj_T (pj_Zm g mdX4_everyCapitalHasRule (pj_qi Q)) pj_NK 0 0 2 [(0, .ref r0), (1, .int (pj_I x1))] [] M) (h : w_X4_everyCapitalHasRule_2b r0  Q k2 x1 M) : pj_R l g mdX4_everyCapitalHasRule pj_T (pj_Zm g mdX4_everyCapitalHasRule (pj_qi Q)) pj_NK 0 0 2 [(0, .ref r0), (1, .int (pj_I x1))] [] M := by
  unfold w_X4_everyCapitalHasRule_2b at h
  refine pj_iload_n 3 1 rfl rfl rfl rfl ?_
  refine pj_aload_n 4 0 rfl rfl rfl rfl ?_
  refine pn_geti 7 4 3 3 o0 rfl pfX4_21 (Or.inl rfl) rfl rfl ?_
  obtain ⟨q1, h⟩ := h
  obtain ⟨q2, h⟩ := h
  refine pj_icmp_ge 64 10 rfl (by decide) rfl q1 q2 (fun hc => ?_) (fun hc => ?_)
  · replace h := h.1 hc
    refine pj_iconst 65 rfl rfl ?_
    exact pn_zret (by decide) h rfl rfl
  · replace h := h.2 hc
    refine pj_iconst 11 rfl rfl ?_
    refine pj_istore_n 12 (ls' := [(0, .ref r0), (1, .int (pj_I x1)), (2, .int (pj_I 0))]) rfl rfl (by decide) rfl rfl ?_
    refine pn_sub [0, 1, 2] rfl ?_
    exact s_X4_everyCapitalHasRule_12 hg o0  hk2 h
set_option maxRecDepth 20000 in
set_option maxHeartbeats 4000000 in
theorem s_X4_everyCapitalHasRule_2 {l : Launch} {g : pj_G} (hg : pj_ph g = true) {r0 : Nat} {x1 : Int} {M : pj_M} {Q : Int → pj_M → Prop}  (o0 : pj_ob r0 4)  (h : w_X4_everyCapitalHasRule_2 r0  Q x1 M) : pj_R l g mdX4_everyCapitalHasRule pj_T (pj_Zm g mdX4_everyCapitalHasRule (pj_qi Q)) pj_NK 0 0 2 [(0, .ref r0), (1, .int (pj_I x1))] [] M :=
  h (fun s => pj_R l g mdX4_everyCapitalHasRule pj_T (pj_Zm g mdX4_everyCapitalHasRule (pj_qi Q)) pj_NK 0 0 2 [(0, .ref r0), (1, .int (pj_I (s.1)))] [] s.2) (fun s hs => s_X4_everyCapitalHasRule_2b hg o0  (fun _ _ q => q) hs)
set_option maxRecDepth 20000 in
set_option maxHeartbeats 4000000 in
theorem s_X4_everyCapitalHasRule {l : Launch} {g : pj_G} (hg : pj_ph g = true) {r0 : Nat} {M : pj_M} {Q : Int → pj_M → Prop} (o0 : pj_ob r0 4) (h : w_X4_everyCapitalHasRule r0 M Q) : pj_S l g mdX4_everyCapitalHasRule [.ref r0] pj_NK M (pj_qi Q) := by
  refine pj_ofR (ls := [(0, .ref r0)]) gcX4_everyCapitalHasRule (by decide) rfl (Nat.le_of_ble_eq_true rfl) rfl ?_
  unfold w_X4_everyCapitalHasRule at h
  refine pj_iconst 1 rfl rfl ?_
  refine pj_istore_n 2 (ls' := [(0, .ref r0), (1, .int (pj_I 0))]) rfl rfl (by decide) rfl rfl ?_
  refine pn_sub [0, 1] rfl ?_
  exact s_X4_everyCapitalHasRule_2 hg o0   h
def w_X9_isSign (x0 : Int) (M : pj_M) (Q : Int → pj_M → Prop) : Prop :=
  (pj_in x0) ∧ ((x0 < 97 → Q 0 M) ∧ (¬ x0 < 97 → (pj_in x0) ∧ ((104 < x0 → Q 0 M) ∧ (¬ 104 < x0 → Q 1 M))))
set_option maxRecDepth 20000 in
set_option maxHeartbeats 4000000 in
theorem s_X9_isSign {l : Launch} {g : pj_G} (hg : pj_ph g = true) {x0 : Int} {M : pj_M} {Q : Int → pj_M → Prop}  (h : w_X9_isSign x0 M Q) : pj_S l g mdX9_isSign [.int (pj_I x0)] pj_NK M (pj_qi Q) := by
  refine pj_ofR (ls := [(0, .int (pj_I x0))]) gcX9_isSign (by decide) rfl (Nat.le_of_ble_eq_true rfl) rfl ?_
  unfold w_X9_isSign at h
  refine pj_iload_n 1 0 rfl rfl rfl rfl ?_
  refine pj_bipush 3 rfl (by decide) rfl ?_
  obtain ⟨q1, h⟩ := h
  refine pj_icmp_lt 16 6 rfl (by decide) rfl q1 (show pj_in 97 by decide) (fun hc => ?_) (fun hc => ?_)
  · replace h := h.1 hc
    refine pj_iconst 17 rfl rfl ?_
    exact pn_zret (by decide) h rfl rfl
  · replace h := h.2 hc
    refine pj_iload_n 7 0 rfl rfl rfl rfl ?_
    refine pj_bipush 9 rfl (by decide) rfl ?_
    obtain ⟨q2, h⟩ := h
    refine pj_icmp_gt 16 12 rfl (by decide) rfl q2 (show pj_in 104 by decide) (fun hc => ?_) (fun hc => ?_)
    · replace h := h.1 hc
      refine pj_iconst 17 rfl rfl ?_
      exact pn_zret (by decide) h rfl rfl
    · replace h := h.2 hc
      refine pj_iconst 13 rfl rfl ?_
      refine pj_goto 17 rfl (by decide) ?_
      exact pn_zret (by decide) h rfl rfl
def w_X5_takesSymbol (r0 : Nat) (x1 : Int) (M : pj_M) (Q : Int → pj_M → Prop) : Prop :=
  w_X9_isSign x1 M (fun (t2 : Int) (M1 : pj_M) => (pj_in t2) ∧ ((t2 = 0 → (pj_in x1) ∧ ((x1 < 65 → Q 0 M1) ∧ (¬ x1 < 65 → (pj_in x1) ∧ ((71 ≤ x1 → Q 0 M1) ∧ (¬ 71 ≤ x1 → w_X4_addSymbol (pj_rf r0 0) ((8 + x1) - 65) M1 (fun (t7 : Int) (M6 : pj_M) => (pj_in t7) ∧ ((t7 = 0 → Q 0 M6) ∧ (¬ t7 = 0 → Q 1 M6)))))))) ∧ (¬ t2 = 0 → w_X4_addSymbol (pj_rf r0 0) (x1 - 97) M1 (fun (t10 : Int) (M9 : pj_M) => (t10 = 0 ∨ t10 = 1) ∧ Q t10 M9))))
set_option maxRecDepth 20000 in
set_option maxHeartbeats 4000000 in
theorem s_X5_takesSymbol {l : Launch} {g : pj_G} (hg : pj_ph g = true) {r0 : Nat} {x1 : Int} {M : pj_M} {Q : Int → pj_M → Prop} (o0 : pj_ob r0 5) (h : w_X5_takesSymbol r0 x1 M Q) : pj_S l g mdX5_takesSymbol [.ref r0, .int (pj_I x1)] pj_NK M (pj_qi Q) := by
  refine pj_ofR (ls := [(0, .ref r0), (1, .int (pj_I x1))]) gcX5_takesSymbol (by decide) rfl (Nat.le_of_ble_eq_true rfl) rfl ?_
  unfold w_X5_takesSymbol at h
  refine pj_iload_n 1 1 rfl rfl rfl rfl ?_
  refine pn_callSi 4 [.int (pj_I x1)] [] (s_X9_isSign hg  h) plX5_79 rfl rfl rfl rfl (Nat.le_of_ble_eq_true rfl) (by decide) (fun t2 M1 h => ?_)
  obtain ⟨q3, h⟩ := h
  refine pj_if_eq 19 7 rfl (by decide) rfl q3  (fun hc => ?_) (fun hc => ?_)
  · replace h := h.1 hc
    refine pj_iload_n 20 1 rfl rfl rfl rfl ?_
    refine pj_bipush 22 rfl (by decide) rfl ?_
    obtain ⟨q4, h⟩ := h
    refine pj_icmp_lt 52 25 rfl (by decide) rfl q4 (show pj_in 65 by decide) (fun hc => ?_) (fun hc => ?_)
    · replace h := h.1 hc
      refine pj_iconst 53 rfl rfl ?_
      exact pn_zret (by decide) h rfl rfl
    · replace h := h.2 hc
      refine pj_iload_n 26 1 rfl rfl rfl rfl ?_
      refine pj_bipush 28 rfl (by decide) rfl ?_
      obtain ⟨q5, h⟩ := h
      refine pj_icmp_ge 52 31 rfl (by decide) rfl q5 (show pj_in 71 by decide) (fun hc => ?_) (fun hc => ?_)
      · replace h := h.1 hc
        refine pj_iconst 53 rfl rfl ?_
        exact pn_zret (by decide) h rfl rfl
      · replace h := h.2 hc
        refine pj_aload_n 32 0 rfl rfl rfl rfl ?_
        refine pn_getr 35 5 0 hg o0 (pr_5_0 o0).2 rfl pfX5_12 rfl rfl ?_
        refine pj_bipush 37 rfl (by decide) rfl ?_
        refine pj_iload_n 38 1 rfl rfl rfl rfl ?_
        refine pj_iadd 39 rfl rfl ?_
        refine pj_bipush 41 rfl (by decide) rfl ?_
        refine pj_isub 42 rfl rfl ?_
        refine pn_callVi 45 4 [.int (pj_I ((8 + x1) - 65))] [] (pr_5_0 o0) (s_X4_addSymbol hg (pr_5_0 o0) h) plX5_82 rfl rfl rfl rfl (Nat.le_of_ble_eq_true rfl) (by decide) (fun t7 M6 h => ?_)
        obtain ⟨q8, h⟩ := h
        refine pj_if_eq 52 48 rfl (by decide) rfl q8  (fun hc => ?_) (fun hc => ?_)
        · replace h := h.1 hc
          refine pj_iconst 53 rfl rfl ?_
          exact pn_zret (by decide) h rfl rfl
        · replace h := h.2 hc
          refine pj_iconst 49 rfl rfl ?_
          refine pj_goto 53 rfl (by decide) ?_
          exact pn_zret (by decide) h rfl rfl
  · replace h := h.2 hc
    refine pj_aload_n 8 0 rfl rfl rfl rfl ?_
    refine pn_getr 11 5 0 hg o0 (pr_5_0 o0).2 rfl pfX5_12 rfl rfl ?_
    refine pj_iload_n 12 1 rfl rfl rfl rfl ?_
    refine pj_bipush 14 rfl (by decide) rfl ?_
    refine pj_isub 15 rfl rfl ?_
    refine pn_callVi 18 4 [.int (pj_I (x1 - 97))] [] (pr_5_0 o0) (s_X4_addSymbol hg (pr_5_0 o0) h) plX5_82 rfl rfl rfl rfl (Nat.le_of_ble_eq_true rfl) (by decide) (fun t10 M9 h => ?_)
    obtain ⟨q11, h⟩ := h
    exact pn_zret q11 h rfl rfl
def w_X5_takes (r0 : Nat) (x1 : Int) (M : pj_M) (Q : Int → pj_M → Prop) : Prop :=
  (pj_in (M r0 3)) ∧ ((¬ (M r0 3) = 0 → (pj_in (M r0 3)) ∧ ((¬ (M r0 3) = 1 → (pj_in x1) ∧ ((¬ x1 = 59 → (pj_in x1) ∧ ((¬ x1 = 124 → w_X5_takesSymbol r0 x1 M (fun (t6 : Int) (M5 : pj_M) => (t6 = 0 ∨ t6 = 1) ∧ Q t6 M5)) ∧ (x1 = 124 → w_X4_addAlternative (pj_rf r0 0) (M r0 2) M (fun (t9 : Int) (M8 : pj_M) => (t9 = 0 ∨ t9 = 1) ∧ Q t9 M8)))) ∧ (x1 = 59 → ∀ M11 : pj_M, M11 = pj_up M r0 3 0 → Q 1 M11))) ∧ ((M r0 3) = 1 → ∀ M12 : pj_M, M12 = pj_up M r0 3 2 → (pj_in x1) ∧ ((¬ x1 = 61 → Q 0 M12) ∧ (x1 = 61 → w_X4_addAlternative (pj_rf r0 0) (M12 r0 2) M12 (fun (t15 : Int) (M14 : pj_M) => (pj_in t15) ∧ ((t15 = 0 → Q 0 M14) ∧ (¬ t15 = 0 → Q 1 M14)))))))) ∧ ((M r0 3) = 0 → ∀ M17 : pj_M, M17 = pj_up M r0 2 (x1 - 65) → ∀ M18 : pj_M, M18 = pj_up M17 r0 3 1 → w_X4_addRule (pj_rf r0 0) (M18 r0 2) M18 (fun (t20 : Int) (M19 : pj_M) => (t20 = 0 ∨ t20 = 1) ∧ Q t20 M19)))
set_option maxRecDepth 20000 in
set_option maxHeartbeats 4000000 in
theorem s_X5_takes {l : Launch} {g : pj_G} (hg : pj_ph g = true) {r0 : Nat} {x1 : Int} {M : pj_M} {Q : Int → pj_M → Prop} (o0 : pj_ob r0 5) (h : w_X5_takes r0 x1 M Q) : pj_S l g mdX5_takes [.ref r0, .int (pj_I x1)] pj_NK M (pj_qi Q) := by
  refine pj_ofR (ls := [(0, .ref r0), (1, .int (pj_I x1))]) gcX5_takes (by decide) rfl (Nat.le_of_ble_eq_true rfl) rfl ?_
  unfold w_X5_takes at h
  refine pj_aload_n 1 0 rfl rfl rfl rfl ?_
  refine pn_geti 4 5 3 3 o0 rfl pfX5_28 (Or.inl rfl) rfl rfl ?_
  obtain ⟨q1, h⟩ := h
  refine pj_if_ne 32 7 rfl (by decide) rfl q1  (fun hc => ?_) (fun hc => ?_)
  · replace h := h.1 hc
    refine pj_aload_n 33 0 rfl rfl rfl rfl ?_
    refine pn_geti 36 5 3 3 o0 rfl pfX5_28 (Or.inl rfl) rfl rfl ?_
    refine pj_iconst 37 rfl rfl ?_
    obtain ⟨q2, h⟩ := h
    refine pj_icmp_ne 71 40 rfl (by decide) rfl q2 (show pj_in 1 by decide) (fun hc => ?_) (fun hc => ?_)
    · replace h := h.1 hc
      refine pj_iload_n 72 1 rfl rfl rfl rfl ?_
      refine pj_bipush 74 rfl (by decide) rfl ?_
      obtain ⟨q3, h⟩ := h
      refine pj_icmp_ne 84 77 rfl (by decide) rfl q3 (show pj_in 59 by decide) (fun hc => ?_) (fun hc => ?_)
      · replace h := h.1 hc
        refine pj_iload_n 85 1 rfl rfl rfl rfl ?_
        refine pj_bipush 87 rfl (by decide) rfl ?_
        obtain ⟨q4, h⟩ := h
        refine pj_icmp_ne 104 90 rfl (by decide) rfl q4 (show pj_in 124 by decide) (fun hc => ?_) (fun hc => ?_)
        · replace h := h.1 hc
          refine pj_aload_n 105 0 rfl rfl rfl rfl ?_
          refine pj_iload_n 106 1 rfl rfl rfl rfl ?_
          refine pn_callVi 109 5 [.int (pj_I x1)] [] o0 (s_X5_takesSymbol hg o0 h) plX5_76 rfl rfl rfl rfl (Nat.le_of_ble_eq_true rfl) (by decide) (fun t6 M5 h => ?_)
          obtain ⟨q7, h⟩ := h
          exact pn_zret q7 h rfl rfl
        · replace h := h.2 (Classical.not_not.mp hc)
          refine pj_aload_n 91 0 rfl rfl rfl rfl ?_
          refine pn_getr 94 5 0 hg o0 (pr_5_0 o0).2 rfl pfX5_12 rfl rfl ?_
          refine pj_aload_n 95 0 rfl rfl rfl rfl ?_
          refine pn_geti 98 5 2 2 o0 rfl pfX5_67 (Or.inl rfl) rfl rfl ?_
          refine pn_callVi 101 4 [.int (pj_I (M r0 2))] [] (pr_5_0 o0) (s_X4_addAlternative hg (pr_5_0 o0) h) plX5_73 rfl rfl rfl rfl (Nat.le_of_ble_eq_true rfl) (by decide) (fun t9 M8 h => ?_)
          refine pj_goto 109 rfl (by decide) ?_
          obtain ⟨q10, h⟩ := h
          exact pn_zret q10 h rfl rfl
      · replace h := h.2 (Classical.not_not.mp hc)
        refine pj_aload_n 78 0 rfl rfl rfl rfl ?_
        refine pj_iconst 79 rfl rfl ?_
        refine pn_puti 82 5 3 3 o0  rfl pfX5_28 rfl rfl rfl (fun M11 hM11 => ?_)
        replace h := h M11 hM11
        refine pj_iconst 83 rfl rfl ?_
        exact pn_zret (by decide) h rfl rfl
    · replace h := h.2 (Classical.not_not.mp hc)
      refine pj_aload_n 41 0 rfl rfl rfl rfl ?_
      refine pj_iconst 42 rfl rfl ?_
      refine pn_puti 45 5 3 3 o0  rfl pfX5_28 rfl rfl rfl (fun M12 hM12 => ?_)
      replace h := h M12 hM12
      refine pj_iload_n 46 1 rfl rfl rfl rfl ?_
      refine pj_bipush 48 rfl (by decide) rfl ?_
      obtain ⟨q13, h⟩ := h
      refine pj_icmp_ne 69 51 rfl (by decide) rfl q13 (show pj_in 61 by decide) (fun hc => ?_) (fun hc => ?_)
      · replace h := h.1 hc
        refine pj_iconst 70 rfl rfl ?_
        exact pn_zret (by decide) h rfl rfl
      · replace h := h.2 (Classical.not_not.mp hc)
        refine pj_aload_n 52 0 rfl rfl rfl rfl ?_
        refine pn_getr 55 5 0 hg o0 (pr_5_0 o0).2 rfl pfX5_12 rfl rfl ?_
        refine pj_aload_n 56 0 rfl rfl rfl rfl ?_
        refine pn_geti 59 5 2 2 o0 rfl pfX5_67 (Or.inl rfl) rfl rfl ?_
        refine pn_callVi 62 4 [.int (pj_I (M12 r0 2))] [] (pr_5_0 o0) (s_X4_addAlternative hg (pr_5_0 o0) h) plX5_73 rfl rfl rfl rfl (Nat.le_of_ble_eq_true rfl) (by decide) (fun t15 M14 h => ?_)
        obtain ⟨q16, h⟩ := h
        refine pj_if_eq 69 65 rfl (by decide) rfl q16  (fun hc => ?_) (fun hc => ?_)
        · replace h := h.1 hc
          refine pj_iconst 70 rfl rfl ?_
          exact pn_zret (by decide) h rfl rfl
        · replace h := h.2 hc
          refine pj_iconst 66 rfl rfl ?_
          refine pj_goto 70 rfl (by decide) ?_
          exact pn_zret (by decide) h rfl rfl
  · replace h := h.2 (Classical.not_not.mp hc)
    refine pj_aload_n 8 0 rfl rfl rfl rfl ?_
    refine pj_iload_n 9 1 rfl rfl rfl rfl ?_
    refine pj_bipush 11 rfl (by decide) rfl ?_
    refine pj_isub 12 rfl rfl ?_
    refine pn_puti 15 5 2 2 o0  rfl pfX5_67 rfl rfl rfl (fun M17 hM17 => ?_)
    replace h := h M17 hM17
    refine pj_aload_n 16 0 rfl rfl rfl rfl ?_
    refine pj_iconst 17 rfl rfl ?_
    refine pn_puti 20 5 3 3 o0  rfl pfX5_28 rfl rfl rfl (fun M18 hM18 => ?_)
    replace h := h M18 hM18
    refine pj_aload_n 21 0 rfl rfl rfl rfl ?_
    refine pn_getr 24 5 0 hg o0 (pr_5_0 o0).2 rfl pfX5_12 rfl rfl ?_
    refine pj_aload_n 25 0 rfl rfl rfl rfl ?_
    refine pn_geti 28 5 2 2 o0 rfl pfX5_67 (Or.inl rfl) rfl rfl ?_
    refine pn_callVi 31 4 [.int (pj_I (M18 r0 2))] [] (pr_5_0 o0) (s_X4_addRule hg (pr_5_0 o0) h) plX5_70 rfl rfl rfl rfl (Nat.le_of_ble_eq_true rfl) (by decide) (fun t20 M19 h => ?_)
    obtain ⟨q21, h⟩ := h
    exact pn_zret q21 h rfl rfl
