theorem pj_oa_of {a t k : Nat} (h : pj_ol a t k) : pj_oa a t := ⟨by rw [h.1], h.2⟩
theorem pcX1_36 : pj_LC RX1 36 := ⟨(pj_tb 613 (by decide +kernel) (by decide +kernel)), (pj_tb 607 (by decide +kernel) (by decide +kernel)), (pj_tb 606 (by decide +kernel) (by decide +kernel)), (pj_tb 117 (by decide +kernel) (by decide +kernel))⟩
theorem pcX4_35 : pj_LC RX4 35 := ⟨(pj_tb 605 (by decide +kernel) (by decide +kernel)), (pj_tb 607 (by decide +kernel) (by decide +kernel)), (pj_tb 606 (by decide +kernel) (by decide +kernel)), (pj_tb 117 (by decide +kernel) (by decide +kernel))⟩
theorem pcX7_19 : pj_LC RX7 19 := ⟨(pj_tb 612 (by decide +kernel) (by decide +kernel)), (pj_tb 607 (by decide +kernel) (by decide +kernel)), (pj_tb 606 (by decide +kernel) (by decide +kernel)), (pj_tb 117 (by decide +kernel) (by decide +kernel))⟩
def w_X4_isLike_59b (r0 : Nat) (r1 : Nat) (x2 : Int) (k15 : Int → pj_M → Prop) (Q : Int → pj_M → Prop) (k59 : Int → pj_M → Prop) (x3 : Int) (M : pj_M) : Prop :=
  ((0 : Int) ≤ x2 ∧ x2 < 12) ∧ (pj_in x3) ∧ (pj_in ((x2 * 4) + (M (pj_rf r0 1) x2))) ∧ ((((x2 * 4) + (M (pj_rf r0 1) x2)) ≤ x3 → k15 (x2 + 1) M) ∧ (¬ ((x2 * 4) + (M (pj_rf r0 1) x2)) ≤ x3 → ((0 : Int) ≤ x3 ∧ x3 < 48) ∧ ((0 : Int) ≤ x3 ∧ x3 < 48) ∧ (pj_in (M (pj_rf r0 2) x3)) ∧ (pj_in (M (pj_rf r1 2) x3)) ∧ (((M (pj_rf r0 2) x3) = (M (pj_rf r1 2) x3) → k59 (x3 + 1) M) ∧ (¬ (M (pj_rf r0 2) x3) = (M (pj_rf r1 2) x3) → Q 0 M))))
def w_X4_isLike_59 (r0 : Nat) (r1 : Nat) (x2 : Int) (k15 : Int → pj_M → Prop) (Q : Int → pj_M → Prop) (x3 : Int) (M : pj_M) : Prop := pj_lp (fun (k : Int × pj_M → Prop) (s : Int × pj_M) => w_X4_isLike_59b r0 r1 x2 k15 Q (fun (x3 : Int) (M : pj_M) => k (x3, M)) s.1 s.2) (x3, M)
def w_X4_isLike_15b (r0 : Nat) (r1 : Nat)  (Q : Int → pj_M → Prop) (k15 : Int → pj_M → Prop) (x2 : Int) (M : pj_M) : Prop :=
  (pj_in x2) ∧ (pj_in (M r0 3)) ∧ (((M r0 3) ≤ x2 → Q 1 M) ∧ (¬ (M r0 3) ≤ x2 → ((0 : Int) ≤ x2 ∧ x2 < 12) ∧ ((0 : Int) ≤ x2 ∧ x2 < 12) ∧ (pj_in (M (pj_rf r0 0) x2)) ∧ (pj_in (M (pj_rf r1 0) x2)) ∧ ((¬ (M (pj_rf r0 0) x2) = (M (pj_rf r1 0) x2) → Q 0 M) ∧ ((M (pj_rf r0 0) x2) = (M (pj_rf r1 0) x2) → ((0 : Int) ≤ x2 ∧ x2 < 12) ∧ ((0 : Int) ≤ x2 ∧ x2 < 12) ∧ (pj_in (M (pj_rf r0 1) x2)) ∧ (pj_in (M (pj_rf r1 1) x2)) ∧ (((M (pj_rf r0 1) x2) = (M (pj_rf r1 1) x2) → w_X4_isLike_59 r0 r1 x2 k15 Q (x2 * 4) M) ∧ (¬ (M (pj_rf r0 1) x2) = (M (pj_rf r1 1) x2) → Q 0 M))))))
def w_X4_isLike_15 (r0 : Nat) (r1 : Nat)  (Q : Int → pj_M → Prop) (x2 : Int) (M : pj_M) : Prop := pj_lp (fun (k : Int × pj_M → Prop) (s : Int × pj_M) => w_X4_isLike_15b r0 r1  Q (fun (x2 : Int) (M : pj_M) => k (x2, M)) s.1 s.2) (x2, M)
def w_X4_isLike (r0 : Nat) (r1 : Nat) (M : pj_M) (Q : Int → pj_M → Prop) : Prop :=
  (pj_in (M r0 3)) ∧ (pj_in (M r1 3)) ∧ (((M r0 3) = (M r1 3) → w_X4_isLike_15 r0 r1  Q 0 M) ∧ (¬ (M r0 3) = (M r1 3) → Q 0 M))
set_option maxRecDepth 20000 in
set_option maxHeartbeats 4000000 in
theorem s_X4_isLike_59b {l : Launch} {g : pj_G} (hg : pj_ph g = true) {r0 : Nat} {r1 : Nat} {x2 : Int} {x3 : Int} {M : pj_M} {Q : Int → pj_M → Prop} {k15 : Int → pj_M → Prop} {k59 : Int → pj_M → Prop} (o0 : pj_ob r0 4) (o1 : pj_ob r1 4) (hk15 : ∀ (x2 : Int) (M : pj_M), k15 x2 M → pj_R l g mdX4_isLike pj_T (pj_Zm g mdX4_isLike (pj_qi Q)) pj_NK 0 0 15 [(0, .ref r0), (1, .ref r1), (2, .int (pj_I x2))] [] M) (hk59 : ∀ (x3 : Int) (M : pj_M), k59 x3 M → pj_R l g mdX4_isLike pj_T (pj_Zm g mdX4_isLike (pj_qi Q)) pj_NK 0 0 59 [(0, .ref r0), (1, .ref r1), (2, .int (pj_I x2)), (3, .int (pj_I x3))] [] M) (h : w_X4_isLike_59b r0 r1 x2 k15 Q k59 x3 M) : pj_R l g mdX4_isLike pj_T (pj_Zm g mdX4_isLike (pj_qi Q)) pj_NK 0 0 59 [(0, .ref r0), (1, .ref r1), (2, .int (pj_I x2)), (3, .int (pj_I x3))] [] M := by
  unfold w_X4_isLike_59b at h
  refine pj_iload_n 60 3 rfl rfl rfl rfl ?_
  refine pj_iload_n 61 2 rfl rfl rfl rfl ?_
  refine pj_iconst 62 rfl rfl ?_
  refine pj_imul 63 rfl rfl ?_
  refine pj_aload_n 64 0 rfl rfl rfl rfl ?_
  refine pn_getr 67 4 1 hg o0 (pr_4_1 o0).2 rfl pfX4_15 rfl rfl ?_
  refine pj_iload_n 68 2 rfl rfl rfl rfl ?_
  obtain ⟨q13, h⟩ := h
  refine pn_iald 69 12 (pr_4_1 o0) q13 rfl rfl ?_
  refine pj_iadd 70 rfl rfl ?_
  obtain ⟨q14, h⟩ := h
  obtain ⟨q15, h⟩ := h
  refine pj_icmp_ge 96 73 rfl (by decide) rfl q14 q15 (fun hc => ?_) (fun hc => ?_)
  · replace h := h.1 hc
    refine pj_iinc 99 2 (ls' := [(0, .ref r0), (1, .ref r1), (2, .int (pj_I (x2 + 1))), (3, .int (pj_I x3))]) rfl rfl (by decide) rfl rfl ?_
    refine pj_goto 15 rfl (by decide) ?_
    refine pn_sub [0, 1, 2] rfl ?_
    exact hk15 _ _ h
  · replace h := h.2 hc
    refine pj_aload_n 74 0 rfl rfl rfl rfl ?_
    refine pn_getr 77 4 2 hg o0 (pr_4_2 o0).2 rfl pfX4_18 rfl rfl ?_
    refine pj_iload_n 78 3 rfl rfl rfl rfl ?_
    obtain ⟨q16, h⟩ := h
    refine pn_iald 79 48 (pr_4_2 o0) q16 rfl rfl ?_
    refine pj_aload_n 80 1 rfl rfl rfl rfl ?_
    refine pn_getr 83 4 2 hg o1 (pr_4_2 o1).2 rfl pfX4_18 rfl rfl ?_
    refine pj_iload_n 84 3 rfl rfl rfl rfl ?_
    obtain ⟨q17, h⟩ := h
    refine pn_iald 85 48 (pr_4_2 o1) q17 rfl rfl ?_
    obtain ⟨q18, h⟩ := h
    obtain ⟨q19, h⟩ := h
    refine pj_icmp_eq 90 88 rfl (by decide) rfl q18 q19 (fun hc => ?_) (fun hc => ?_)
    · replace h := h.1 hc
      refine pj_iinc 93 3 (ls' := [(0, .ref r0), (1, .ref r1), (2, .int (pj_I x2)), (3, .int (pj_I (x3 + 1)))]) rfl rfl (by decide) rfl rfl ?_
      refine pj_goto 59 rfl (by decide) ?_
      refine pn_sub [0, 1, 2, 3] rfl ?_
      exact hk59 _ _ h
    · replace h := h.2 hc
      refine pj_iconst 89 rfl rfl ?_
      exact pn_zret (by decide) h rfl rfl
set_option maxRecDepth 20000 in
set_option maxHeartbeats 4000000 in
theorem s_X4_isLike_59 {l : Launch} {g : pj_G} (hg : pj_ph g = true) {r0 : Nat} {r1 : Nat} {x2 : Int} {x3 : Int} {M : pj_M} {Q : Int → pj_M → Prop} {k15 : Int → pj_M → Prop} (o0 : pj_ob r0 4) (o1 : pj_ob r1 4) (hk15 : ∀ (x2 : Int) (M : pj_M), k15 x2 M → pj_R l g mdX4_isLike pj_T (pj_Zm g mdX4_isLike (pj_qi Q)) pj_NK 0 0 15 [(0, .ref r0), (1, .ref r1), (2, .int (pj_I x2))] [] M) (h : w_X4_isLike_59 r0 r1 x2 k15 Q x3 M) : pj_R l g mdX4_isLike pj_T (pj_Zm g mdX4_isLike (pj_qi Q)) pj_NK 0 0 59 [(0, .ref r0), (1, .ref r1), (2, .int (pj_I x2)), (3, .int (pj_I x3))] [] M :=
  h (fun s => pj_R l g mdX4_isLike pj_T (pj_Zm g mdX4_isLike (pj_qi Q)) pj_NK 0 0 59 [(0, .ref r0), (1, .ref r1), (2, .int (pj_I x2)), (3, .int (pj_I (s.1)))] [] s.2) (fun s hs => s_X4_isLike_59b hg o0 o1 hk15 (fun _ _ q => q) hs)
set_option maxRecDepth 20000 in
set_option maxHeartbeats 4000000 in
theorem s_X4_isLike_15b {l : Launch} {g : pj_G} (hg : pj_ph g = true) {r0 : Nat} {r1 : Nat} {x2 : Int} {M : pj_M} {Q : Int → pj_M → Prop}  {k15 : Int → pj_M → Prop} (o0 : pj_ob r0 4) (o1 : pj_ob r1 4)  (hk15 : ∀ (x2 : Int) (M : pj_M), k15 x2 M → pj_R l g mdX4_isLike pj_T (pj_Zm g mdX4_isLike (pj_qi Q)) pj_NK 0 0 15 [(0, .ref r0), (1, .ref r1), (2, .int (pj_I x2))] [] M) (h : w_X4_isLike_15b r0 r1  Q k15 x2 M) : pj_R l g mdX4_isLike pj_T (pj_Zm g mdX4_isLike (pj_qi Q)) pj_NK 0 0 15 [(0, .ref r0), (1, .ref r1), (2, .int (pj_I x2))] [] M := by
  unfold w_X4_isLike_15b at h
  refine pj_iload_n 16 2 rfl rfl rfl rfl ?_
  refine pj_aload_n 17 0 rfl rfl rfl rfl ?_
  refine pn_geti 20 4 3 3 o0 rfl pfX4_21 (Or.inl rfl) rfl rfl ?_
  obtain ⟨q3, h⟩ := h
  obtain ⟨q4, h⟩ := h
  refine pj_icmp_ge 102 23 rfl (by decide) rfl q3 q4 (fun hc => ?_) (fun hc => ?_)
  · replace h := h.1 hc
    refine pj_iconst 103 rfl rfl ?_
    exact pn_zret (by decide) h rfl rfl
  · replace h := h.2 hc
    refine pj_aload_n 24 0 rfl rfl rfl rfl ?_
    refine pn_getr 27 4 0 hg o0 (pr_4_0 o0).2 rfl pfX4_9 rfl rfl ?_
    refine pj_iload_n 28 2 rfl rfl rfl rfl ?_
    obtain ⟨q5, h⟩ := h
    refine pn_iald 29 12 (pr_4_0 o0) q5 rfl rfl ?_
    refine pj_aload_n 30 1 rfl rfl rfl rfl ?_
    refine pn_getr 33 4 0 hg o1 (pr_4_0 o1).2 rfl pfX4_9 rfl rfl ?_
    refine pj_iload_n 34 2 rfl rfl rfl rfl ?_
    obtain ⟨q6, h⟩ := h
    refine pn_iald 35 12 (pr_4_0 o1) q6 rfl rfl ?_
    obtain ⟨q7, h⟩ := h
    obtain ⟨q8, h⟩ := h
    refine pj_icmp_ne 53 38 rfl (by decide) rfl q7 q8 (fun hc => ?_) (fun hc => ?_)
    · replace h := h.1 hc
      refine pj_iconst 54 rfl rfl ?_
      exact pn_zret (by decide) h rfl rfl
    · replace h := h.2 (Classical.not_not.mp hc)
      refine pj_aload_n 39 0 rfl rfl rfl rfl ?_
      refine pn_getr 42 4 1 hg o0 (pr_4_1 o0).2 rfl pfX4_15 rfl rfl ?_
      refine pj_iload_n 43 2 rfl rfl rfl rfl ?_
      obtain ⟨q9, h⟩ := h
      refine pn_iald 44 12 (pr_4_1 o0) q9 rfl rfl ?_
      refine pj_aload_n 45 1 rfl rfl rfl rfl ?_
      refine pn_getr 48 4 1 hg o1 (pr_4_1 o1).2 rfl pfX4_15 rfl rfl ?_
      refine pj_iload_n 49 2 rfl rfl rfl rfl ?_
      obtain ⟨q10, h⟩ := h
      refine pn_iald 50 12 (pr_4_1 o1) q10 rfl rfl ?_
      obtain ⟨q11, h⟩ := h
      obtain ⟨q12, h⟩ := h
      refine pj_icmp_eq 55 53 rfl (by decide) rfl q11 q12 (fun hc => ?_) (fun hc => ?_)
      · replace h := h.1 hc
        refine pj_iload_n 56 2 rfl rfl rfl rfl ?_
        refine pj_iconst 57 rfl rfl ?_
        refine pj_imul 58 rfl rfl ?_
        refine pj_istore_n 59 (ls' := [(0, .ref r0), (1, .ref r1), (2, .int (pj_I x2)), (3, .int (pj_I (x2 * 4)))]) rfl rfl (by decide) rfl rfl ?_
        refine pn_sub [0, 1, 2, 3] rfl ?_
        exact s_X4_isLike_59 hg o0 o1  hk15 h
      · replace h := h.2 hc
        refine pj_iconst 54 rfl rfl ?_
        exact pn_zret (by decide) h rfl rfl
set_option maxRecDepth 20000 in
set_option maxHeartbeats 4000000 in
theorem s_X4_isLike_15 {l : Launch} {g : pj_G} (hg : pj_ph g = true) {r0 : Nat} {r1 : Nat} {x2 : Int} {M : pj_M} {Q : Int → pj_M → Prop}  (o0 : pj_ob r0 4) (o1 : pj_ob r1 4)  (h : w_X4_isLike_15 r0 r1  Q x2 M) : pj_R l g mdX4_isLike pj_T (pj_Zm g mdX4_isLike (pj_qi Q)) pj_NK 0 0 15 [(0, .ref r0), (1, .ref r1), (2, .int (pj_I x2))] [] M :=
  h (fun s => pj_R l g mdX4_isLike pj_T (pj_Zm g mdX4_isLike (pj_qi Q)) pj_NK 0 0 15 [(0, .ref r0), (1, .ref r1), (2, .int (pj_I (s.1)))] [] s.2) (fun s hs => s_X4_isLike_15b hg o0 o1  (fun _ _ q => q) hs)
set_option maxRecDepth 20000 in
set_option maxHeartbeats 4000000 in
theorem s_X4_isLike {l : Launch} {g : pj_G} (hg : pj_ph g = true) {r0 : Nat} {r1 : Nat} {M : pj_M} {Q : Int → pj_M → Prop} (o0 : pj_ob r0 4) (o1 : pj_ob r1 4) (h : w_X4_isLike r0 r1 M Q) : pj_S l g mdX4_isLike [.ref r0, .ref r1] pj_NK M (pj_qi Q) := by
  refine pj_ofR (ls := [(0, .ref r0), (1, .ref r1)]) gcX4_isLike (by decide) rfl (Nat.le_of_ble_eq_true rfl) rfl ?_
  unfold w_X4_isLike at h
  refine pj_aload_n 1 0 rfl rfl rfl rfl ?_
  refine pn_geti 4 4 3 3 o0 rfl pfX4_21 (Or.inl rfl) rfl rfl ?_
  refine pj_aload_n 5 1 rfl rfl rfl rfl ?_
  refine pn_geti 8 4 3 3 o1 rfl pfX4_21 (Or.inl rfl) rfl rfl ?_
  obtain ⟨q1, h⟩ := h
  obtain ⟨q2, h⟩ := h
  refine pj_icmp_eq 13 11 rfl (by decide) rfl q1 q2 (fun hc => ?_) (fun hc => ?_)
  · replace h := h.1 hc
    refine pj_iconst 14 rfl rfl ?_
    refine pj_istore_n 15 (ls' := [(0, .ref r0), (1, .ref r1), (2, .int (pj_I 0))]) rfl rfl (by decide) rfl rfl ?_
    refine pn_sub [0, 1, 2] rfl ?_
    exact s_X4_isLike_15 hg o0 o1   h
  · replace h := h.2 hc
    refine pj_iconst 12 rfl rfl ?_
    exact pn_zret (by decide) h rfl rfl
def w_X4_copyFrom (r0 : Nat) (r1 : Nat) (M : pj_M) (Q : pj_M → Prop) : Prop :=
  ∀ M1 : pj_M, M1 = pj_cp M (pj_rf r1 0) (pj_rf r0 0) 12 → ∀ M2 : pj_M, M2 = pj_cp M1 (pj_rf r1 1) (pj_rf r0 1) 12 → ∀ M3 : pj_M, M3 = pj_cp M2 (pj_rf r1 2) (pj_rf r0 2) 48 → ∀ M4 : pj_M, M4 = pj_up M3 r0 3 (M3 r1 3) → ∀ M5 : pj_M, M5 = pj_up M4 r0 4 (M4 r1 4) → ∀ M6 : pj_M, M6 = pj_up M5 r0 5 (M5 r1 5) → Q M6
set_option maxRecDepth 20000 in
set_option maxHeartbeats 4000000 in
theorem s_X4_copyFrom {l : Launch} {g : pj_G} (hg : pj_ph g = true) {r0 : Nat} {r1 : Nat} {M : pj_M} {Q : pj_M → Prop} (o0 : pj_ob r0 4) (o1 : pj_ob r1 4) (h : w_X4_copyFrom r0 r1 M Q) : pj_S l g mdX4_copyFrom [.ref r0, .ref r1] pj_NK M (pj_qv Q) := by
  refine pj_ofR (ls := [(0, .ref r0), (1, .ref r1)]) gcX4_copyFrom (by decide) rfl (Nat.le_of_ble_eq_true rfl) rfl ?_
  unfold w_X4_copyFrom at h
  refine pj_aload_n 1 1 rfl rfl rfl rfl ?_
  refine pn_getr 4 4 0 hg o1 (pr_4_0 o1).2 rfl pfX4_9 rfl rfl ?_
  refine pj_iconst 5 rfl rfl ?_
  refine pj_aload_n 6 0 rfl rfl rfl rfl ?_
  refine pn_getr 9 4 0 hg o0 (pr_4_0 o0).2 rfl pfX4_9 rfl rfl ?_
  refine pj_iconst 10 rfl rfl ?_
  refine pj_bipush 12 rfl (by decide) rfl ?_
  refine pn_copy 15 12 [] (pr_4_0 o1) (pr_4_0 o0) (by decide) pcX4_35 rfl rfl ⟨by decide, Nat.le_of_ble_eq_true rfl⟩ (fun M1 hM1 => ?_)
  replace h := h M1 hM1
  refine pj_aload_n 16 1 rfl rfl rfl rfl ?_
  refine pn_getr 19 4 1 hg o1 (pr_4_1 o1).2 rfl pfX4_15 rfl rfl ?_
  refine pj_iconst 20 rfl rfl ?_
  refine pj_aload_n 21 0 rfl rfl rfl rfl ?_
  refine pn_getr 24 4 1 hg o0 (pr_4_1 o0).2 rfl pfX4_15 rfl rfl ?_
  refine pj_iconst 25 rfl rfl ?_
  refine pj_bipush 27 rfl (by decide) rfl ?_
  refine pn_copy 30 12 [] (pr_4_1 o1) (pr_4_1 o0) (by decide) pcX4_35 rfl rfl ⟨by decide, Nat.le_of_ble_eq_true rfl⟩ (fun M2 hM2 => ?_)
  replace h := h M2 hM2
  refine pj_aload_n 31 1 rfl rfl rfl rfl ?_
  refine pn_getr 34 4 2 hg o1 (pr_4_2 o1).2 rfl pfX4_18 rfl rfl ?_
  refine pj_iconst 35 rfl rfl ?_
  refine pj_aload_n 36 0 rfl rfl rfl rfl ?_
  refine pn_getr 39 4 2 hg o0 (pr_4_2 o0).2 rfl pfX4_18 rfl rfl ?_
  refine pj_iconst 40 rfl rfl ?_
  refine pj_bipush 42 rfl (by decide) rfl ?_
  refine pn_copy 45 48 [] (pr_4_2 o1) (pr_4_2 o0) (by decide) pcX4_35 rfl rfl ⟨by decide, Nat.le_of_ble_eq_true rfl⟩ (fun M3 hM3 => ?_)
  replace h := h M3 hM3
  refine pj_aload_n 46 0 rfl rfl rfl rfl ?_
  refine pj_aload_n 47 1 rfl rfl rfl rfl ?_
  refine pn_geti 50 4 3 3 o1 rfl pfX4_21 (Or.inl rfl) rfl rfl ?_
  refine pn_puti 53 4 3 3 o0  rfl pfX4_21 rfl rfl rfl (fun M4 hM4 => ?_)
  replace h := h M4 hM4
  refine pj_aload_n 54 0 rfl rfl rfl rfl ?_
  refine pj_aload_n 55 1 rfl rfl rfl rfl ?_
  refine pn_geti 58 4 4 4 o1 rfl pfX4_32 (Or.inl rfl) rfl rfl ?_
  refine pn_puti 61 4 4 4 o0  rfl pfX4_32 rfl rfl rfl (fun M5 hM5 => ?_)
  replace h := h M5 hM5
  refine pj_aload_n 62 0 rfl rfl rfl rfl ?_
  refine pj_aload_n 63 1 rfl rfl rfl rfl ?_
  refine pn_geti 66 4 5 5 o1 rfl pfX4_25 (Or.inl rfl) rfl rfl ?_
  refine pn_puti 69 4 5 5 o0  rfl pfX4_25 rfl rfl rfl (fun M6 hM6 => ?_)
  replace h := h M6 hM6
  exact pn_vret h rfl rfl
def w_Jmin (x0 : Int) (x1 : Int) (M : pj_M) (Q : Int → pj_M → Prop) : Prop :=
  (pj_in x0) ∧ (pj_in x1) ∧ ((x1 < x0 → Q x1 M) ∧ (¬ x1 < x0 → Q x0 M))
set_option maxRecDepth 20000 in
set_option maxHeartbeats 4000000 in
theorem s_Jmin {l : Launch} {g : pj_G} (hg : pj_ph g = true) {x0 : Int} {x1 : Int} {M : pj_M} {Q : Int → pj_M → Prop}  (h : w_Jmin x0 x1 M Q) : pj_S l g mdJmin [.int (pj_I x0), .int (pj_I x1)] pj_NK M (pj_qi Q) := by
  refine pj_ofRF (ls := [(0, .int (pj_I x0)), (1, .int (pj_I x1))]) gcJmin pj_pJmin rfl (Nat.le_of_ble_eq_true rfl) rfl ?_
  unfold w_Jmin at h
  refine pj_iload_n 1 0 rfl rfl rfl rfl ?_
  refine pj_iload_n 2 1 rfl rfl rfl rfl ?_
  obtain ⟨q1, h⟩ := h
  obtain ⟨q2, h⟩ := h
  refine pj_icmp_gt 9 5 rfl (by decide) rfl q1 q2 (fun hc => ?_) (fun hc => ?_)
  · replace h := h.1 hc
    refine pj_iload_n 10 1 rfl rfl rfl rfl ?_
    exact pn_iret h rfl rfl
  · replace h := h.2 hc
    refine pj_iload_n 6 0 rfl rfl rfl rfl ?_
    refine pj_goto 10 rfl (by decide) ?_
    exact pn_iret h rfl rfl
def w_X3_lengthOf_51 (r0 : Nat) (r1 : Nat) (x2 : Int) (x4 : Int) (y0 : Int) (y1 : Int) (k5 : Int → Int → pj_M → Prop) (Q : Int → pj_M → Prop) (M : pj_M) : Prop :=
  k5 (y0 + y1) (x4 + 1) M
def w_X3_lengthOf_5b (r0 : Nat) (r1 : Nat) (x2 : Int)  (Q : Int → pj_M → Prop) (k5 : Int → Int → pj_M → Prop) (x3 : Int) (x4 : Int) (M : pj_M) : Prop :=
  ((0 : Int) ≤ x2 ∧ x2 < 12) ∧ (pj_in x4) ∧ (pj_in (M (pj_rf r1 1) x2)) ∧ (((M (pj_rf r1 1) x2) ≤ x4 → w_Jmin x3 1048576 M (fun (t5 : Int) (M4 : pj_M) => Q t5 M4)) ∧ (¬ (M (pj_rf r1 1) x2) ≤ x4 → ((0 : Int) ≤ ((x2 * 4) + x4) ∧ ((x2 * 4) + x4) < 48) ∧ ∀ z7 : Int, z7 = (M (pj_rf r1 2) ((x2 * 4) + x4)) → (pj_in z7) ∧ ((8 ≤ z7 → ((0 : Int) ≤ (z7 - 8) ∧ (z7 - 8) < 6) ∧ w_X3_lengthOf_51 r0 r1 x2 x4 x3 (M (pj_rf r0 0) (z7 - 8)) k5 Q M) ∧ (¬ 8 ≤ z7 → w_X3_lengthOf_51 r0 r1 x2 x4 x3 1 k5 Q M))))
def w_X3_lengthOf_5 (r0 : Nat) (r1 : Nat) (x2 : Int)  (Q : Int → pj_M → Prop) (x3 : Int) (x4 : Int) (M : pj_M) : Prop := pj_lp (fun (k : Int × Int × pj_M → Prop) (s : Int × Int × pj_M) => w_X3_lengthOf_5b r0 r1 x2  Q (fun (x3 : Int) (x4 : Int) (M : pj_M) => k (x3, x4, M)) s.1 s.2.1 s.2.2) (x3, x4, M)
def w_X3_lengthOf (r0 : Nat) (r1 : Nat) (x2 : Int) (M : pj_M) (Q : Int → pj_M → Prop) : Prop :=
  w_X3_lengthOf_5 r0 r1 x2  Q 0 0 M
set_option maxRecDepth 20000 in
set_option maxHeartbeats 4000000 in
theorem s_X3_lengthOf_51 {l : Launch} {g : pj_G} (hg : pj_ph g = true) {r0 : Nat} {r1 : Nat} {x2 : Int} {x4 : Int} {y0 : Int} {y1 : Int} {M : pj_M} {Q : Int → pj_M → Prop} {k5 : Int → Int → pj_M → Prop} (o0 : pj_ob r0 3) (o1 : pj_ob r1 4) (hk5 : ∀ (x3 : Int) (x4 : Int) (M : pj_M), k5 x3 x4 M → pj_R l g mdX3_lengthOf pj_T (pj_Zm g mdX3_lengthOf (pj_qi Q)) pj_NK 0 0 5 [(0, .ref r0), (1, .ref r1), (2, .int (pj_I x2)), (3, .int (pj_I x3)), (4, .int (pj_I x4))] [] M) (h : w_X3_lengthOf_51 r0 r1 x2 x4 y0 y1 k5 Q M) : pj_R l g mdX3_lengthOf pj_T (pj_Zm g mdX3_lengthOf (pj_qi Q)) pj_NK 0 0 51 [(0, .ref r0), (1, .ref r1), (2, .int (pj_I x2)), (4, .int (pj_I x4))] [.int (pj_I y1), .int (pj_I y0)] M := by
  unfold w_X3_lengthOf_51 at h
  refine pj_iadd 52 rfl rfl ?_
  refine pj_istore_n 53 (ls' := [(0, .ref r0), (1, .ref r1), (2, .int (pj_I x2)), (3, .int (pj_I (y0 + y1))), (4, .int (pj_I x4))]) rfl rfl (by decide) rfl rfl ?_
  refine pj_iinc 56 4 (ls' := [(0, .ref r0), (1, .ref r1), (2, .int (pj_I x2)), (3, .int (pj_I (y0 + y1))), (4, .int (pj_I (x4 + 1)))]) rfl rfl (by decide) rfl rfl ?_
  refine pj_goto 5 rfl (by decide) ?_
  refine pn_sub [0, 1, 2, 3, 4] rfl ?_
  exact hk5 _ _ _ h
set_option maxRecDepth 20000 in
set_option maxHeartbeats 4000000 in
theorem s_X3_lengthOf_5b {l : Launch} {g : pj_G} (hg : pj_ph g = true) {r0 : Nat} {r1 : Nat} {x2 : Int} {x3 : Int} {x4 : Int} {M : pj_M} {Q : Int → pj_M → Prop}  {k5 : Int → Int → pj_M → Prop} (o0 : pj_ob r0 3) (o1 : pj_ob r1 4)  (hk5 : ∀ (x3 : Int) (x4 : Int) (M : pj_M), k5 x3 x4 M → pj_R l g mdX3_lengthOf pj_T (pj_Zm g mdX3_lengthOf (pj_qi Q)) pj_NK 0 0 5 [(0, .ref r0), (1, .ref r1), (2, .int (pj_I x2)), (3, .int (pj_I x3)), (4, .int (pj_I x4))] [] M) (h : w_X3_lengthOf_5b r0 r1 x2  Q k5 x3 x4 M) : pj_R l g mdX3_lengthOf pj_T (pj_Zm g mdX3_lengthOf (pj_qi Q)) pj_NK 0 0 5 [(0, .ref r0), (1, .ref r1), (2, .int (pj_I x2)), (3, .int (pj_I x3)), (4, .int (pj_I x4))] [] M := by
  unfold w_X3_lengthOf_5b at h
  refine pj_iload 7 4 rfl rfl rfl ?_
  refine pj_aload_n 8 1 rfl rfl rfl rfl ?_
  refine pn_getr 11 4 1 hg o1 (pr_4_1 o1).2 rfl pfX3_55 rfl rfl ?_
  refine pj_iload_n 12 2 rfl rfl rfl rfl ?_
  obtain ⟨q1, h⟩ := h
  refine pn_iald 13 12 (pr_4_1 o1) q1 rfl rfl ?_
  obtain ⟨q2, h⟩ := h
  obtain ⟨q3, h⟩ := h
  refine pj_icmp_ge 59 16 rfl (by decide) rfl q2 q3 (fun hc => ?_) (fun hc => ?_)
  · replace h := h.1 hc
    refine pj_iload_n 60 3 rfl rfl rfl rfl ?_
    refine pj_ldc 62 1048576 rfl pkX3_34 rfl ?_
    refine pn_callSi 65 [.int (pj_I x3), .int (pj_I 1048576)] [] (s_Jmin hg  h) plX3_61 rfl rfl rfl rfl (Nat.le_of_ble_eq_true rfl) (by decide) (fun t5 M4 h => ?_)
    exact pn_iret h rfl rfl
  · replace h := h.2 hc
    refine pj_aload_n 17 1 rfl rfl rfl rfl ?_
    refine pn_getr 20 4 2 hg o1 (pr_4_2 o1).2 rfl pfX3_58 rfl rfl ?_
    refine pj_iload_n 21 2 rfl rfl rfl rfl ?_
    refine pj_iconst 22 rfl rfl ?_
    refine pj_imul 23 rfl rfl ?_
    refine pj_iload 25 4 rfl rfl rfl ?_
    refine pj_iadd 26 rfl rfl ?_
    obtain ⟨q6, h⟩ := h
    refine pn_iald 27 48 (pr_4_2 o1) q6 rfl rfl ?_
    refine pn_nm (fun z7 hz7 => ?_)
    replace h := h z7 hz7
    refine pj_istore 29 (ls' := [(0, .ref r0), (1, .ref r1), (2, .int (pj_I x2)), (3, .int (pj_I x3)), (4, .int (pj_I x4)), (5, .int (pj_I z7))]) rfl (by decide) rfl rfl ?_
    refine pj_iload_n 30 3 rfl rfl rfl rfl ?_
    refine pj_iload 32 5 rfl rfl rfl ?_
    refine pj_bipush 34 rfl (by decide) rfl ?_
    obtain ⟨q8, h⟩ := h
    refine pj_icmp_ge 41 37 rfl (by decide) rfl q8 (show pj_in 8 by decide) (fun hc => ?_) (fun hc => ?_)
    · replace h := h.1 hc
      refine pj_aload_n 42 0 rfl rfl rfl rfl ?_
      refine pn_getr 45 3 0 hg o0 (pr_3_0 o0).2 rfl pfX3_9 rfl rfl ?_
      refine pj_iload 47 5 rfl rfl rfl ?_
      refine pj_bipush 49 rfl (by decide) rfl ?_
      refine pj_isub 50 rfl rfl ?_
      obtain ⟨q9, h⟩ := h
      refine pn_iald 51 6 (pr_3_0 o0) q9 rfl rfl ?_
      refine pn_sub [0, 1, 2, 4] rfl ?_
      exact s_X3_lengthOf_51 hg o0 o1  hk5 h
    · replace h := h.2 hc
      refine pj_iconst 38 rfl rfl ?_
      refine pj_goto 51 rfl (by decide) ?_
      refine pn_sub [0, 1, 2, 4] rfl ?_
      exact s_X3_lengthOf_51 hg o0 o1  hk5 h
set_option maxRecDepth 20000 in
set_option maxHeartbeats 4000000 in
theorem s_X3_lengthOf_5 {l : Launch} {g : pj_G} (hg : pj_ph g = true) {r0 : Nat} {r1 : Nat} {x2 : Int} {x3 : Int} {x4 : Int} {M : pj_M} {Q : Int → pj_M → Prop}  (o0 : pj_ob r0 3) (o1 : pj_ob r1 4)  (h : w_X3_lengthOf_5 r0 r1 x2  Q x3 x4 M) : pj_R l g mdX3_lengthOf pj_T (pj_Zm g mdX3_lengthOf (pj_qi Q)) pj_NK 0 0 5 [(0, .ref r0), (1, .ref r1), (2, .int (pj_I x2)), (3, .int (pj_I x3)), (4, .int (pj_I x4))] [] M :=
  h (fun s => pj_R l g mdX3_lengthOf pj_T (pj_Zm g mdX3_lengthOf (pj_qi Q)) pj_NK 0 0 5 [(0, .ref r0), (1, .ref r1), (2, .int (pj_I x2)), (3, .int (pj_I (s.1))), (4, .int (pj_I (s.2.1)))] [] s.2.2) (fun s hs => s_X3_lengthOf_5b hg o0 o1  (fun _ _ _ q => q) hs)
set_option maxRecDepth 20000 in
set_option maxHeartbeats 4000000 in
theorem s_X3_lengthOf {l : Launch} {g : pj_G} (hg : pj_ph g = true) {r0 : Nat} {r1 : Nat} {x2 : Int} {M : pj_M} {Q : Int → pj_M → Prop} (o0 : pj_ob r0 3) (o1 : pj_ob r1 4) (h : w_X3_lengthOf r0 r1 x2 M Q) : pj_S l g mdX3_lengthOf [.ref r0, .ref r1, .int (pj_I x2)] pj_NK M (pj_qi Q) := by
  refine pj_ofR (ls := [(0, .ref r0), (1, .ref r1), (2, .int (pj_I x2))]) gcX3_lengthOf (by decide) rfl (Nat.le_of_ble_eq_true rfl) rfl ?_
  unfold w_X3_lengthOf at h
  refine pj_iconst 1 rfl rfl ?_
  refine pj_istore_n 2 (ls' := [(0, .ref r0), (1, .ref r1), (2, .int (pj_I x2)), (3, .int (pj_I 0))]) rfl rfl (by decide) rfl rfl ?_
  refine pj_iconst 3 rfl rfl ?_
  refine pj_istore 5 (ls' := [(0, .ref r0), (1, .ref r1), (2, .int (pj_I x2)), (3, .int (pj_I 0)), (4, .int (pj_I 0))]) rfl (by decide) rfl rfl ?_
  refine pn_sub [0, 1, 2, 3, 4] rfl ?_
  exact s_X3_lengthOf_5 hg o0 o1   h
def w_X3_findShortest_42b (r0 : Nat) (r1 : Nat) (x3 : Int) (k26 : Int → Int → pj_M → Prop) (Q : pj_M → Prop) (k42 : Int → Int → pj_M → Prop) (x2 : Int) (x4 : Int) (M : pj_M) : Prop :=
  (pj_in x4) ∧ (pj_in (M r1 3)) ∧ (((M r1 3) ≤ x4 → k26 x2 (x3 + 1) M) ∧ (¬ (M r1 3) ≤ x4 → w_X3_lengthOf r0 r1 x4 M (fun (t7 : Int) (M6 : pj_M) => ((0 : Int) ≤ x4 ∧ x4 < 12) ∧ ((0 : Int) ≤ (M6 (pj_rf r1 0) x4) ∧ (M6 (pj_rf r1 0) x4) < 6) ∧ (pj_in t7) ∧ (pj_in (M6 (pj_rf r0 0) (M6 (pj_rf r1 0) x4))) ∧ (((M6 (pj_rf r0 0) (M6 (pj_rf r1 0) x4)) ≤ t7 → k42 x2 (x4 + 1) M6) ∧ (¬ (M6 (pj_rf r0 0) (M6 (pj_rf r1 0) x4)) ≤ t7 → ((0 : Int) ≤ x4 ∧ x4 < 12) ∧ ((0 : Int) ≤ (M6 (pj_rf r1 0) x4) ∧ (M6 (pj_rf r1 0) x4) < 6) ∧ ∀ M14 : pj_M, M14 = pj_up M6 (pj_rf r0 0) (M6 (pj_rf r1 0) x4) t7 → k42 1 (x4 + 1) M14)))))
def w_X3_findShortest_42 (r0 : Nat) (r1 : Nat) (x3 : Int) (k26 : Int → Int → pj_M → Prop) (Q : pj_M → Prop) (x2 : Int) (x4 : Int) (M : pj_M) : Prop := pj_lp (fun (k : Int × Int × pj_M → Prop) (s : Int × Int × pj_M) => w_X3_findShortest_42b r0 r1 x3 k26 Q (fun (x2 : Int) (x4 : Int) (M : pj_M) => k (x2, x4, M)) s.1 s.2.1 s.2.2) (x2, x4, M)
def w_X3_findShortest_26b (r0 : Nat) (r1 : Nat)  (Q : pj_M → Prop) (k26 : Int → Int → pj_M → Prop) (x2 : Int) (x3 : Int) (M : pj_M) : Prop :=
  (pj_in x3) ∧ ((1000 ≤ x3 → Q M) ∧ (¬ 1000 ≤ x3 → (pj_in x2) ∧ ((x2 = 0 → Q M) ∧ (¬ x2 = 0 → w_X3_findShortest_42 r0 r1 x3 k26 Q 0 0 M))))
def w_X3_findShortest_26 (r0 : Nat) (r1 : Nat)  (Q : pj_M → Prop) (x2 : Int) (x3 : Int) (M : pj_M) : Prop := pj_lp (fun (k : Int × Int × pj_M → Prop) (s : Int × Int × pj_M) => w_X3_findShortest_26b r0 r1  Q (fun (x2 : Int) (x3 : Int) (M : pj_M) => k (x2, x3, M)) s.1 s.2.1 s.2.2) (x2, x3, M)
def w_X3_findShortest_2b (r0 : Nat) (r1 : Nat)  (Q : pj_M → Prop) (k2 : Int → pj_M → Prop) (x2 : Int) (M : pj_M) : Prop :=
  (pj_in x2) ∧ ((6 ≤ x2 → w_X3_findShortest_26 r0 r1  Q 1 0 M) ∧ (¬ 6 ≤ x2 → ((0 : Int) ≤ x2 ∧ x2 < 6) ∧ ∀ M16 : pj_M, M16 = pj_up M (pj_rf r0 0) x2 1048576 → k2 (x2 + 1) M16))
def w_X3_findShortest_2 (r0 : Nat) (r1 : Nat)  (Q : pj_M → Prop) (x2 : Int) (M : pj_M) : Prop := pj_lp (fun (k : Int × pj_M → Prop) (s : Int × pj_M) => w_X3_findShortest_2b r0 r1  Q (fun (x2 : Int) (M : pj_M) => k (x2, M)) s.1 s.2) (x2, M)
def w_X3_findShortest (r0 : Nat) (r1 : Nat) (M : pj_M) (Q : pj_M → Prop) : Prop :=
  w_X3_findShortest_2 r0 r1  Q 0 M
set_option maxRecDepth 20000 in
set_option maxHeartbeats 4000000 in
theorem s_X3_findShortest_42b {l : Launch} {g : pj_G} (hg : pj_ph g = true) {r0 : Nat} {r1 : Nat} {x2 : Int} {x3 : Int} {x4 : Int} {M : pj_M} {Q : pj_M → Prop} {k26 : Int → Int → pj_M → Prop} {k42 : Int → Int → pj_M → Prop} (o0 : pj_ob r0 3) (o1 : pj_ob r1 4) (hk26 : ∀ (x2 : Int) (x3 : Int) (M : pj_M), k26 x2 x3 M → pj_R l g mdX3_findShortest pj_T (pj_Zm g mdX3_findShortest (pj_qv Q)) pj_NK 0 0 26 [(0, .ref r0), (1, .ref r1), (2, .int (pj_I x2)), (3, .int (pj_I x3))] [] M) (hk42 : ∀ (x2 : Int) (x4 : Int) (M : pj_M), k42 x2 x4 M → pj_R l g mdX3_findShortest pj_T (pj_Zm g mdX3_findShortest (pj_qv Q)) pj_NK 0 0 42 [(0, .ref r0), (1, .ref r1), (2, .int (pj_I x2)), (3, .int (pj_I x3)), (4, .int (pj_I x4))] [] M) (h : w_X3_findShortest_42b r0 r1 x3 k26 Q k42 x2 x4 M) : pj_R l g mdX3_findShortest pj_T (pj_Zm g mdX3_findShortest (pj_qv Q)) pj_NK 0 0 42 [(0, .ref r0), (1, .ref r1), (2, .int (pj_I x2)), (3, .int (pj_I x3)), (4, .int (pj_I x4))] [] M := by
  unfold w_X3_findShortest_42b at h
  refine pj_iload 44 4 rfl rfl rfl ?_
  refine pj_aload_n 45 1 rfl rfl rfl rfl ?_
  refine pn_geti 48 4 3 3 o1 rfl pfX3_43 (Or.inl rfl) rfl rfl ?_
  obtain ⟨q4, h⟩ := h
  obtain ⟨q5, h⟩ := h
  refine pj_icmp_ge 99 51 rfl (by decide) rfl q4 q5 (fun hc => ?_) (fun hc => ?_)
  · replace h := h.1 hc
    refine pj_iinc 102 3 (ls' := [(0, .ref r0), (1, .ref r1), (2, .int (pj_I x2)), (3, .int (pj_I (x3 + 1))), (4, .int (pj_I x4))]) rfl rfl (by decide) rfl rfl ?_
    refine pj_goto 26 rfl (by decide) ?_
    refine pn_sub [0, 1, 2, 3] rfl ?_
    exact hk26 _ _ _ h
  · replace h := h.2 hc
    refine pj_aload_n 52 0 rfl rfl rfl rfl ?_
    refine pj_aload_n 53 1 rfl rfl rfl rfl ?_
    refine pj_iload 55 4 rfl rfl rfl ?_
    refine pn_callVi 58 3 [.ref r1, .int (pj_I x4)] [] o0 (s_X3_lengthOf hg o0 o1 h) plX3_48 rfl rfl rfl rfl (Nat.le_of_ble_eq_true rfl) (by decide) (fun t7 M6 h => ?_)
    refine pj_istore 60 (ls' := [(0, .ref r0), (1, .ref r1), (2, .int (pj_I x2)), (3, .int (pj_I x3)), (4, .int (pj_I x4)), (5, .int (pj_I t7))]) rfl (by decide) rfl rfl ?_
    refine pj_iload 62 5 rfl rfl rfl ?_
    refine pj_aload_n 63 0 rfl rfl rfl rfl ?_
    refine pn_getr 66 3 0 hg o0 (pr_3_0 o0).2 rfl pfX3_9 rfl rfl ?_
    refine pj_aload_n 67 1 rfl rfl rfl rfl ?_
    refine pn_getr 70 4 0 hg o1 (pr_4_0 o1).2 rfl pfX3_52 rfl rfl ?_
    refine pj_iload 72 4 rfl rfl rfl ?_
    obtain ⟨q8, h⟩ := h
    refine pn_iald 73 12 (pr_4_0 o1) q8 rfl rfl ?_
    obtain ⟨q9, h⟩ := h
    refine pn_iald 74 6 (pr_3_0 o0) q9 rfl rfl ?_
    obtain ⟨q10, h⟩ := h
    obtain ⟨q11, h⟩ := h
    refine pj_icmp_ge 93 77 rfl (by decide) rfl q10 q11 (fun hc => ?_) (fun hc => ?_)
    · replace h := h.1 hc
      refine pj_iinc 96 4 (ls' := [(0, .ref r0), (1, .ref r1), (2, .int (pj_I x2)), (3, .int (pj_I x3)), (4, .int (pj_I (x4 + 1))), (5, .int (pj_I t7))]) rfl rfl (by decide) rfl rfl ?_
      refine pj_goto 42 rfl (by decide) ?_
      refine pn_sub [0, 1, 2, 3, 4] rfl ?_
      exact hk42 _ _ _ h
    · replace h := h.2 hc
      refine pj_aload_n 78 0 rfl rfl rfl rfl ?_
      refine pn_getr 81 3 0 hg o0 (pr_3_0 o0).2 rfl pfX3_9 rfl rfl ?_
      refine pj_aload_n 82 1 rfl rfl rfl rfl ?_
      refine pn_getr 85 4 0 hg o1 (pr_4_0 o1).2 rfl pfX3_52 rfl rfl ?_
      refine pj_iload 87 4 rfl rfl rfl ?_
      obtain ⟨q12, h⟩ := h
      refine pn_iald 88 12 (pr_4_0 o1) q12 rfl rfl ?_
      refine pj_iload 90 5 rfl rfl rfl ?_
      obtain ⟨q13, h⟩ := h
      refine pn_iast 91 6 (pr_3_0 o0)  q13 rfl rfl (fun M14 hM14 => ?_)
      replace h := h M14 hM14
      refine pj_iconst 92 rfl rfl ?_
      refine pj_istore_n 93 (ls' := [(0, .ref r0), (1, .ref r1), (2, .int (pj_I 1)), (3, .int (pj_I x3)), (4, .int (pj_I x4)), (5, .int (pj_I t7))]) rfl rfl (by decide) rfl rfl ?_
      refine pj_iinc 96 4 (ls' := [(0, .ref r0), (1, .ref r1), (2, .int (pj_I 1)), (3, .int (pj_I x3)), (4, .int (pj_I (x4 + 1))), (5, .int (pj_I t7))]) rfl rfl (by decide) rfl rfl ?_
      refine pj_goto 42 rfl (by decide) ?_
      refine pn_sub [0, 1, 2, 3, 4] rfl ?_
      exact hk42 _ _ _ h
set_option maxRecDepth 20000 in
set_option maxHeartbeats 4000000 in
theorem s_X3_findShortest_42 {l : Launch} {g : pj_G} (hg : pj_ph g = true) {r0 : Nat} {r1 : Nat} {x2 : Int} {x3 : Int} {x4 : Int} {M : pj_M} {Q : pj_M → Prop} {k26 : Int → Int → pj_M → Prop} (o0 : pj_ob r0 3) (o1 : pj_ob r1 4) (hk26 : ∀ (x2 : Int) (x3 : Int) (M : pj_M), k26 x2 x3 M → pj_R l g mdX3_findShortest pj_T (pj_Zm g mdX3_findShortest (pj_qv Q)) pj_NK 0 0 26 [(0, .ref r0), (1, .ref r1), (2, .int (pj_I x2)), (3, .int (pj_I x3))] [] M) (h : w_X3_findShortest_42 r0 r1 x3 k26 Q x2 x4 M) : pj_R l g mdX3_findShortest pj_T (pj_Zm g mdX3_findShortest (pj_qv Q)) pj_NK 0 0 42 [(0, .ref r0), (1, .ref r1), (2, .int (pj_I x2)), (3, .int (pj_I x3)), (4, .int (pj_I x4))] [] M :=
  h (fun s => pj_R l g mdX3_findShortest pj_T (pj_Zm g mdX3_findShortest (pj_qv Q)) pj_NK 0 0 42 [(0, .ref r0), (1, .ref r1), (2, .int (pj_I (s.1))), (3, .int (pj_I x3)), (4, .int (pj_I (s.2.1)))] [] s.2.2) (fun s hs => s_X3_findShortest_42b hg o0 o1 hk26 (fun _ _ _ q => q) hs)
set_option maxRecDepth 20000 in
set_option maxHeartbeats 4000000 in
theorem s_X3_findShortest_26b {l : Launch} {g : pj_G} (hg : pj_ph g = true) {r0 : Nat} {r1 : Nat} {x2 : Int} {x3 : Int} {M : pj_M} {Q : pj_M → Prop}  {k26 : Int → Int → pj_M → Prop} (o0 : pj_ob r0 3) (o1 : pj_ob r1 4)  (hk26 : ∀ (x2 : Int) (x3 : Int) (M : pj_M), k26 x2 x3 M → pj_R l g mdX3_findShortest pj_T (pj_Zm g mdX3_findShortest (pj_qv Q)) pj_NK 0 0 26 [(0, .ref r0), (1, .ref r1), (2, .int (pj_I x2)), (3, .int (pj_I x3))] [] M) (h : w_X3_findShortest_26b r0 r1  Q k26 x2 x3 M) : pj_R l g mdX3_findShortest pj_T (pj_Zm g mdX3_findShortest (pj_qv Q)) pj_NK 0 0 26 [(0, .ref r0), (1, .ref r1), (2, .int (pj_I x2)), (3, .int (pj_I x3))] [] M := by
  unfold w_X3_findShortest_26b at h
  refine pj_iload_n 27 3 rfl rfl rfl rfl ?_
  refine pj_sipush 30 rfl (by decide) rfl ?_
  obtain ⟨q2, h⟩ := h
  refine pj_icmp_ge 105 33 rfl (by decide) rfl q2 (show pj_in 1000 by decide) (fun hc => ?_) (fun hc => ?_)
  · replace h := h.1 hc
    exact pn_vret h rfl rfl
  · replace h := h.2 hc
    refine pj_iload_n 34 2 rfl rfl rfl rfl ?_
    obtain ⟨q3, h⟩ := h
    refine pj_if_eq 105 37 rfl (by decide) rfl q3  (fun hc => ?_) (fun hc => ?_)
    · replace h := h.1 hc
      exact pn_vret h rfl rfl
    · replace h := h.2 hc
      refine pj_iconst 38 rfl rfl ?_
      refine pj_istore_n 39 (ls' := [(0, .ref r0), (1, .ref r1), (2, .int (pj_I 0)), (3, .int (pj_I x3))]) rfl rfl (by decide) rfl rfl ?_
      refine pj_iconst 40 rfl rfl ?_
      refine pj_istore 42 (ls' := [(0, .ref r0), (1, .ref r1), (2, .int (pj_I 0)), (3, .int (pj_I x3)), (4, .int (pj_I 0))]) rfl (by decide) rfl rfl ?_
      refine pn_sub [0, 1, 2, 3, 4] rfl ?_
      exact s_X3_findShortest_42 hg o0 o1  hk26 h
set_option maxRecDepth 20000 in
set_option maxHeartbeats 4000000 in
theorem s_X3_findShortest_26 {l : Launch} {g : pj_G} (hg : pj_ph g = true) {r0 : Nat} {r1 : Nat} {x2 : Int} {x3 : Int} {M : pj_M} {Q : pj_M → Prop}  (o0 : pj_ob r0 3) (o1 : pj_ob r1 4)  (h : w_X3_findShortest_26 r0 r1  Q x2 x3 M) : pj_R l g mdX3_findShortest pj_T (pj_Zm g mdX3_findShortest (pj_qv Q)) pj_NK 0 0 26 [(0, .ref r0), (1, .ref r1), (2, .int (pj_I x2)), (3, .int (pj_I x3))] [] M :=
  h (fun s => pj_R l g mdX3_findShortest pj_T (pj_Zm g mdX3_findShortest (pj_qv Q)) pj_NK 0 0 26 [(0, .ref r0), (1, .ref r1), (2, .int (pj_I (s.1))), (3, .int (pj_I (s.2.1)))] [] s.2.2) (fun s hs => s_X3_findShortest_26b hg o0 o1  (fun _ _ _ q => q) hs)
set_option maxRecDepth 20000 in
set_option maxHeartbeats 4000000 in
theorem s_X3_findShortest_2b {l : Launch} {g : pj_G} (hg : pj_ph g = true) {r0 : Nat} {r1 : Nat} {x2 : Int} {M : pj_M} {Q : pj_M → Prop}  {k2 : Int → pj_M → Prop} (o0 : pj_ob r0 3) (o1 : pj_ob r1 4)  (hk2 : ∀ (x2 : Int) (M : pj_M), k2 x2 M → pj_R l g mdX3_findShortest pj_T (pj_Zm g mdX3_findShortest (pj_qv Q)) pj_NK 0 0 2 [(0, .ref r0), (1, .ref r1), (2, .int (pj_I x2))] [] M) (h : w_X3_findShortest_2b r0 r1  Q k2 x2 M) : pj_R l g mdX3_findShortest pj_T (pj_Zm g mdX3_findShortest (pj_qv Q)) pj_NK 0 0 2 [(0, .ref r0), (1, .ref r1), (2, .int (pj_I x2))] [] M := by
  unfold w_X3_findShortest_2b at h
  refine pj_iload_n 3 2 rfl rfl rfl rfl ?_
  refine pj_bipush 5 rfl (by decide) rfl ?_
  obtain ⟨q1, h⟩ := h
  refine pj_icmp_ge 22 8 rfl (by decide) rfl q1 (show pj_in 6 by decide) (fun hc => ?_) (fun hc => ?_)
  · replace h := h.1 hc
    refine pj_iconst 23 rfl rfl ?_
    refine pj_istore_n 24 (ls' := [(0, .ref r0), (1, .ref r1), (2, .int (pj_I 1))]) rfl rfl (by decide) rfl rfl ?_
    refine pj_iconst 25 rfl rfl ?_
    refine pj_istore_n 26 (ls' := [(0, .ref r0), (1, .ref r1), (2, .int (pj_I 1)), (3, .int (pj_I 0))]) rfl rfl (by decide) rfl rfl ?_
    refine pn_sub [0, 1, 2, 3] rfl ?_
    exact s_X3_findShortest_26 hg o0 o1   h
  · replace h := h.2 hc
    refine pj_aload_n 9 0 rfl rfl rfl rfl ?_
    refine pn_getr 12 3 0 hg o0 (pr_3_0 o0).2 rfl pfX3_9 rfl rfl ?_
    refine pj_iload_n 13 2 rfl rfl rfl rfl ?_
    refine pj_ldc 15 1048576 rfl pkX3_34 rfl ?_
    obtain ⟨q15, h⟩ := h
    refine pn_iast 16 6 (pr_3_0 o0)  q15 rfl rfl (fun M16 hM16 => ?_)
    replace h := h M16 hM16
    refine pj_iinc 19 2 (ls' := [(0, .ref r0), (1, .ref r1), (2, .int (pj_I (x2 + 1)))]) rfl rfl (by decide) rfl rfl ?_
    refine pj_goto 2 rfl (by decide) ?_
    refine pn_sub [0, 1, 2] rfl ?_
    exact hk2 _ _ h
set_option maxRecDepth 20000 in
set_option maxHeartbeats 4000000 in
theorem s_X3_findShortest_2 {l : Launch} {g : pj_G} (hg : pj_ph g = true) {r0 : Nat} {r1 : Nat} {x2 : Int} {M : pj_M} {Q : pj_M → Prop}  (o0 : pj_ob r0 3) (o1 : pj_ob r1 4)  (h : w_X3_findShortest_2 r0 r1  Q x2 M) : pj_R l g mdX3_findShortest pj_T (pj_Zm g mdX3_findShortest (pj_qv Q)) pj_NK 0 0 2 [(0, .ref r0), (1, .ref r1), (2, .int (pj_I x2))] [] M :=
  h (fun s => pj_R l g mdX3_findShortest pj_T (pj_Zm g mdX3_findShortest (pj_qv Q)) pj_NK 0 0 2 [(0, .ref r0), (1, .ref r1), (2, .int (pj_I (s.1)))] [] s.2) (fun s hs => s_X3_findShortest_2b hg o0 o1  (fun _ _ q => q) hs)
set_option maxRecDepth 20000 in
set_option maxHeartbeats 4000000 in
theorem s_X3_findShortest {l : Launch} {g : pj_G} (hg : pj_ph g = true) {r0 : Nat} {r1 : Nat} {M : pj_M} {Q : pj_M → Prop} (o0 : pj_ob r0 3) (o1 : pj_ob r1 4) (h : w_X3_findShortest r0 r1 M Q) : pj_S l g mdX3_findShortest [.ref r0, .ref r1] pj_NK M (pj_qv Q) := by
  refine pj_ofR (ls := [(0, .ref r0), (1, .ref r1)]) gcX3_findShortest (by decide) rfl (Nat.le_of_ble_eq_true rfl) rfl ?_
  unfold w_X3_findShortest at h
  refine pj_iconst 1 rfl rfl ?_
  refine pj_istore_n 2 (ls' := [(0, .ref r0), (1, .ref r1), (2, .int (pj_I 0))]) rfl rfl (by decide) rfl rfl ?_
  refine pn_sub [0, 1, 2] rfl ?_
  exact s_X3_findShortest_2 hg o0 o1   h
def w_X3_signsOf (r0 : Nat) (x1 : Int) (M : pj_M) (Q : Int → pj_M → Prop) : Prop :=
  (pj_in x1) ∧ ((8 ≤ x1 → ((0 : Int) ≤ (x1 - 8) ∧ (x1 - 8) < ((pj_sh r0).2 : Int)) ∧ Q (M r0 (x1 - 8)) M) ∧ (¬ 8 ≤ x1 → Q (pj_shl 1 x1) M))
set_option maxRecDepth 20000 in
set_option maxHeartbeats 4000000 in
theorem s_X3_signsOf {l : Launch} {g : pj_G} (hg : pj_ph g = true) {r0 : Nat} {x1 : Int} {M : pj_M} {Q : Int → pj_M → Prop} (o0 : pj_oa r0 1) (h : w_X3_signsOf r0 x1 M Q) : pj_S l g mdX3_signsOf [.ref r0, .int (pj_I x1)] pj_NK M (pj_qi Q) := by
  refine pj_ofR (ls := [(0, .ref r0), (1, .int (pj_I x1))]) gcX3_signsOf (by decide) rfl (Nat.le_of_ble_eq_true rfl) rfl ?_
  unfold w_X3_signsOf at h
  refine pj_iload_n 1 1 rfl rfl rfl rfl ?_
  refine pj_bipush 3 rfl (by decide) rfl ?_
  obtain ⟨q1, h⟩ := h
  refine pj_icmp_ge 12 6 rfl (by decide) rfl q1 (show pj_in 8 by decide) (fun hc => ?_) (fun hc => ?_)
  · replace h := h.1 hc
    refine pj_aload_n 13 0 rfl rfl rfl rfl ?_
    refine pj_iload_n 14 1 rfl rfl rfl rfl ?_
    refine pj_bipush 16 rfl (by decide) rfl ?_
    refine pj_isub 17 rfl rfl ?_
    obtain ⟨q2, h⟩ := h
    refine pn_iald 18 ((pj_sh r0).2) (pr_len o0) q2 rfl rfl ?_
    exact pn_iret h rfl rfl
  · replace h := h.2 hc
    refine pj_iconst 7 rfl rfl ?_
    refine pj_iload_n 8 1 rfl rfl rfl rfl ?_
    refine pj_ishl 9 rfl rfl ?_
    refine pj_goto 18 rfl (by decide) ?_
    exact pn_iret h rfl rfl
def w_X3_canVanish (r0 : Nat) (x1 : Int) (M : pj_M) (Q : Int → pj_M → Prop) : Prop :=
  (pj_in x1) ∧ ((x1 < 8 → Q 0 M) ∧ (¬ x1 < 8 → ((0 : Int) ≤ (x1 - 8) ∧ (x1 - 8) < 6) ∧ (pj_in (M (pj_rf r0 0) (x1 - 8))) ∧ ((¬ (M (pj_rf r0 0) (x1 - 8)) = 0 → Q 0 M) ∧ ((M (pj_rf r0 0) (x1 - 8)) = 0 → Q 1 M))))
set_option maxRecDepth 20000 in
set_option maxHeartbeats 4000000 in
theorem s_X3_canVanish {l : Launch} {g : pj_G} (hg : pj_ph g = true) {r0 : Nat} {x1 : Int} {M : pj_M} {Q : Int → pj_M → Prop} (o0 : pj_ob r0 3) (h : w_X3_canVanish r0 x1 M Q) : pj_S l g mdX3_canVanish [.ref r0, .int (pj_I x1)] pj_NK M (pj_qi Q) := by
  refine pj_ofR (ls := [(0, .ref r0), (1, .int (pj_I x1))]) gcX3_canVanish (by decide) rfl (Nat.le_of_ble_eq_true rfl) rfl ?_
  unfold w_X3_canVanish at h
  refine pj_iload_n 1 1 rfl rfl rfl rfl ?_
  refine pj_bipush 3 rfl (by decide) rfl ?_
  obtain ⟨q1, h⟩ := h
  refine pj_icmp_lt 22 6 rfl (by decide) rfl q1 (show pj_in 8 by decide) (fun hc => ?_) (fun hc => ?_)
  · replace h := h.1 hc
    refine pj_iconst 23 rfl rfl ?_
    exact pn_zret (by decide) h rfl rfl
  · replace h := h.2 hc
    refine pj_aload_n 7 0 rfl rfl rfl rfl ?_
    refine pn_getr 10 3 0 hg o0 (pr_3_0 o0).2 rfl pfX3_9 rfl rfl ?_
    refine pj_iload_n 11 1 rfl rfl rfl rfl ?_
    refine pj_bipush 13 rfl (by decide) rfl ?_
    refine pj_isub 14 rfl rfl ?_
    obtain ⟨q2, h⟩ := h
    refine pn_iald 15 6 (pr_3_0 o0) q2 rfl rfl ?_
    obtain ⟨q3, h⟩ := h
    refine pj_if_ne 22 18 rfl (by decide) rfl q3  (fun hc => ?_) (fun hc => ?_)
    · replace h := h.1 hc
      refine pj_iconst 23 rfl rfl ?_
      exact pn_zret (by decide) h rfl rfl
    · replace h := h.2 (Classical.not_not.mp hc)
      refine pj_iconst 19 rfl rfl ?_
      refine pj_goto 23 rfl (by decide) ?_
      exact pn_zret (by decide) h rfl rfl
def w_X3_addSigns_235 (r0 : Nat) (x3 : Int) (x6 : Int) (x7 : Int) (x8 : Int) (y0 : Int)  (Q : Int → pj_M → Prop) (M : pj_M) : Prop :=
  ((0 : Int) ≤ x3 ∧ x3 < 6) ∧ ∀ M17 : pj_M, M17 = pj_up M (pj_rf r0 1) x3 x6 → ((0 : Int) ≤ x3 ∧ x3 < 6) ∧ ∀ M19 : pj_M, M19 = pj_up M17 (pj_rf r0 2) x3 x7 → ((0 : Int) ≤ x3 ∧ x3 < 6) ∧ ∀ M21 : pj_M, M21 = pj_up M19 (pj_rf r0 3) x3 x8 → (y0 = 0 ∨ y0 = 1) ∧ Q y0 M21
def w_X3_addSigns_230 (r0 : Nat) (x3 : Int) (x6 : Int) (x7 : Int) (x8 : Int)  (Q : Int → pj_M → Prop) (M : pj_M) : Prop :=
  w_X3_addSigns_235 r0 x3 x6 x7 x8 1  Q M
def w_X3_addSigns_189 (r0 : Nat) (r1 : Nat) (x3 : Int) (x4 : Int) (x5 : Int) (x6 : Int) (x7 : Int) (x8 : Int) (x9 : Int) (x11 : Int) (y0 : Int) (k53 : Int → Int → Int → Int → Int → Int → pj_M → Prop) (Q : Int → pj_M → Prop) (M : pj_M) : Prop :=
  k53 x6 x7 x8 x9 y0 (x11 + 1) M
def w_X3_addSigns_188 (r0 : Nat) (r1 : Nat) (x3 : Int) (x4 : Int) (x5 : Int) (x6 : Int) (x7 : Int) (x8 : Int) (x9 : Int) (x11 : Int) (k53 : Int → Int → Int → Int → Int → Int → pj_M → Prop) (Q : Int → pj_M → Prop) (M : pj_M) : Prop :=
  w_X3_addSigns_189 r0 r1 x3 x4 x5 x6 x7 x8 x9 x11 0 k53 Q M
def w_X3_addSigns_168 (r0 : Nat) (r1 : Nat) (x3 : Int) (x4 : Int) (x5 : Int) (x6 : Int) (x7 : Int) (x8 : Int) (x10 : Int) (x11 : Int) (x13 : Int) (y0 : Int) (k53 : Int → Int → Int → Int → Int → Int → pj_M → Prop) (Q : Int → pj_M → Prop) (M : pj_M) : Prop :=
  (pj_in x10) ∧ ((x10 = 0 → w_X3_addSigns_188 r0 r1 x3 x4 x5 x6 x7 x8 y0 x11 k53 Q M) ∧ (¬ x10 = 0 → w_X3_canVanish r0 x13 M (fun (t43 : Int) (M42 : pj_M) => (pj_in t43) ∧ ((t43 = 0 → w_X3_addSigns_188 r0 r1 x3 x4 x5 x6 x7 x8 y0 x11 k53 Q M42) ∧ (¬ t43 = 0 → w_X3_addSigns_189 r0 r1 x3 x4 x5 x6 x7 x8 y0 x11 1 k53 Q M42)))))
def w_X3_addSigns_167 (r0 : Nat) (r1 : Nat) (x3 : Int) (x4 : Int) (x5 : Int) (x6 : Int) (x7 : Int) (x8 : Int) (x10 : Int) (x11 : Int) (x13 : Int) (k53 : Int → Int → Int → Int → Int → Int → pj_M → Prop) (Q : Int → pj_M → Prop) (M : pj_M) : Prop :=
  w_X3_addSigns_168 r0 r1 x3 x4 x5 x6 x7 x8 x10 x11 x13 0 k53 Q M
def w_X3_addSigns_132 (r0 : Nat) (r1 : Nat) (x3 : Int) (x4 : Int) (x5 : Int) (x6 : Int) (x8 : Int) (x9 : Int) (x10 : Int) (x11 : Int) (x12 : Int) (x13 : Int) (y0 : Int) (y1 : Int) (k53 : Int → Int → Int → Int → Int → Int → pj_M → Prop) (Q : Int → pj_M → Prop) (M : pj_M) : Prop :=
  ∀ z36 : Int, z36 = (pj_or y0 y1) → w_X3_signsOf (pj_rf r0 3) x12 M (fun (t38 : Int) (M37 : pj_M) => ∀ z39 : Int, z39 = (pj_or x8 t38) → (pj_in x9) ∧ ((x9 = 0 → w_X3_addSigns_167 r0 r1 x3 x4 x5 x6 z36 z39 x10 x11 x13 k53 Q M37) ∧ (¬ x9 = 0 → w_X3_canVanish r0 x12 M37 (fun (t46 : Int) (M45 : pj_M) => (pj_in t46) ∧ ((t46 = 0 → w_X3_addSigns_167 r0 r1 x3 x4 x5 x6 z36 z39 x10 x11 x13 k53 Q M45) ∧ (¬ t46 = 0 → w_X3_addSigns_168 r0 r1 x3 x4 x5 x6 z36 z39 x10 x11 x13 1 k53 Q M45))))))
def w_X3_addSigns_109 (r0 : Nat) (r1 : Nat) (x3 : Int) (x4 : Int) (x5 : Int) (x7 : Int) (x8 : Int) (x9 : Int) (x10 : Int) (x11 : Int) (x12 : Int) (x13 : Int) (y0 : Int) (y1 : Int) (k53 : Int → Int → Int → Int → Int → Int → pj_M → Prop) (Q : Int → pj_M → Prop) (M : pj_M) : Prop :=
  ∀ z34 : Int, z34 = (pj_or y0 y1) → (pj_in x10) ∧ ((x10 = 0 → w_X3_addSigns_132 r0 r1 x3 x4 x5 z34 x8 x9 x10 x11 x12 x13 x7 0 k53 Q M) ∧ (¬ x10 = 0 → w_X3_signsOf (pj_rf r0 2) x13 M (fun (t49 : Int) (M48 : pj_M) => w_X3_addSigns_132 r0 r1 x3 x4 x5 z34 x8 x9 x10 x11 x12 x13 x7 t49 k53 Q M48)))
def w_X3_addSigns_53b (r0 : Nat) (r1 : Nat) (x3 : Int) (x4 : Int) (x5 : Int)  (Q : Int → pj_M → Prop) (k53 : Int → Int → Int → Int → Int → Int → pj_M → Prop) (x6 : Int) (x7 : Int) (x8 : Int) (x9 : Int) (x10 : Int) (x11 : Int) (M : pj_M) : Prop :=
  (pj_in x11) ∧ (pj_in x5) ∧ ((x5 ≤ x11 → ((0 : Int) ≤ x3 ∧ x3 < 6) ∧ (pj_in x6) ∧ (pj_in (M (pj_rf r0 1) x3)) ∧ ((¬ x6 = (M (pj_rf r0 1) x3) → w_X3_addSigns_230 r0 x3 x6 x7 x8  Q M) ∧ (x6 = (M (pj_rf r0 1) x3) → ((0 : Int) ≤ x3 ∧ x3 < 6) ∧ (pj_in x7) ∧ (pj_in (M (pj_rf r0 2) x3)) ∧ ((¬ x7 = (M (pj_rf r0 2) x3) → w_X3_addSigns_230 r0 x3 x6 x7 x8  Q M) ∧ (x7 = (M (pj_rf r0 2) x3) → ((0 : Int) ≤ x3 ∧ x3 < 6) ∧ (pj_in x8) ∧ (pj_in (M (pj_rf r0 3) x3)) ∧ ((x8 = (M (pj_rf r0 3) x3) → w_X3_addSigns_235 r0 x3 x6 x7 x8 0  Q M) ∧ (¬ x8 = (M (pj_rf r0 3) x3) → w_X3_addSigns_230 r0 x3 x6 x7 x8  Q M))))))) ∧ (¬ x5 ≤ x11 → ((0 : Int) ≤ (x4 + x11) ∧ (x4 + x11) < 48) ∧ ∀ z30 : Int, z30 = (M (pj_rf r1 2) (x4 + x11)) → ((0 : Int) ≤ (((x4 + x5) - 1) - x11) ∧ (((x4 + x5) - 1) - x11) < 48) ∧ ∀ z32 : Int, z32 = (M (pj_rf r1 2) (((x4 + x5) - 1) - x11)) → (pj_in x9) ∧ ((x9 = 0 → w_X3_addSigns_109 r0 r1 x3 x4 x5 x7 x8 x9 x10 x11 z30 z32 x6 0 k53 Q M) ∧ (¬ x9 = 0 → w_X3_signsOf (pj_rf r0 1) z30 M (fun (t51 : Int) (M50 : pj_M) => w_X3_addSigns_109 r0 r1 x3 x4 x5 x7 x8 x9 x10 x11 z30 z32 x6 t51 k53 Q M50)))))
def w_X3_addSigns_53 (r0 : Nat) (r1 : Nat) (x3 : Int) (x4 : Int) (x5 : Int)  (Q : Int → pj_M → Prop) (x6 : Int) (x7 : Int) (x8 : Int) (x9 : Int) (x10 : Int) (x11 : Int) (M : pj_M) : Prop := pj_lp (fun (k : Int × Int × Int × Int × Int × Int × pj_M → Prop) (s : Int × Int × Int × Int × Int × Int × pj_M) => w_X3_addSigns_53b r0 r1 x3 x4 x5  Q (fun (x6 : Int) (x7 : Int) (x8 : Int) (x9 : Int) (x10 : Int) (x11 : Int) (M : pj_M) => k (x6, x7, x8, x9, x10, x11, M)) s.1 s.2.1 s.2.2.1 s.2.2.2.1 s.2.2.2.2.1 s.2.2.2.2.2.1 s.2.2.2.2.2.2) (x6, x7, x8, x9, x10, x11, M)
def w_X3_addSigns (r0 : Nat) (r1 : Nat) (x2 : Int) (M : pj_M) (Q : Int → pj_M → Prop) : Prop :=
  ((0 : Int) ≤ x2 ∧ x2 < 12) ∧ ∀ z2 : Int, z2 = (M (pj_rf r1 0) x2) → ((0 : Int) ≤ x2 ∧ x2 < 12) ∧ ∀ z4 : Int, z4 = (M (pj_rf r1 1) x2) → ((0 : Int) ≤ z2 ∧ z2 < 6) ∧ ∀ z6 : Int, z6 = (M (pj_rf r0 1) z2) → ((0 : Int) ≤ z2 ∧ z2 < 6) ∧ ∀ z8 : Int, z8 = (M (pj_rf r0 2) z2) → ((0 : Int) ≤ z2 ∧ z2 < 6) ∧ ∀ z10 : Int, z10 = (M (pj_rf r0 3) z2) → w_X3_addSigns_53 r0 r1 z2 (x2 * 4) z4  Q z6 z8 z10 1 1 0 M
set_option maxRecDepth 20000 in
set_option maxHeartbeats 4000000 in
theorem s_X3_addSigns_235 {l : Launch} {g : pj_G} (hg : pj_ph g = true) {r0 : Nat} {x3 : Int} {x6 : Int} {x7 : Int} {x8 : Int} {y0 : Int} {M : pj_M} {Q : Int → pj_M → Prop}  (o0 : pj_ob r0 3)  (h : w_X3_addSigns_235 r0 x3 x6 x7 x8 y0  Q M) : pj_R l g mdX3_addSigns pj_T (pj_Zm g mdX3_addSigns (pj_qi Q)) pj_NK 0 0 235 [(0, .ref r0), (3, .int (pj_I x3)), (6, .int (pj_I x6)), (7, .int (pj_I x7)), (8, .int (pj_I x8))] [.int (pj_I y0)] M := by
  unfold w_X3_addSigns_235 at h
  refine pj_istore 237 (ls' := [(0, .ref r0), (3, .int (pj_I x3)), (6, .int (pj_I x6)), (7, .int (pj_I x7)), (8, .int (pj_I x8)), (11, .int (pj_I y0))]) rfl (by decide) rfl rfl ?_
  refine pj_aload_n 238 0 rfl rfl rfl rfl ?_
  refine pn_getr 241 3 1 hg o0 (pr_3_1 o0).2 rfl pfX3_15 rfl rfl ?_
  refine pj_iload_n 242 1 rfl rfl rfl rfl ?_
  refine pj_iload 244 2 rfl rfl rfl ?_
  obtain ⟨q16, h⟩ := h
  refine pn_iast 245 6 (pr_3_1 o0)  q16 rfl rfl (fun M17 hM17 => ?_)
  replace h := h M17 hM17
  refine pj_aload_n 246 0 rfl rfl rfl rfl ?_
  refine pn_getr 249 3 2 hg o0 (pr_3_2 o0).2 rfl pfX3_18 rfl rfl ?_
  refine pj_iload_n 250 1 rfl rfl rfl rfl ?_
  refine pj_iload 252 3 rfl rfl rfl ?_
  obtain ⟨q18, h⟩ := h
  refine pn_iast 253 6 (pr_3_2 o0)  q18 rfl rfl (fun M19 hM19 => ?_)
  replace h := h M19 hM19
  refine pj_aload_n 254 0 rfl rfl rfl rfl ?_
  refine pn_getr 257 3 3 hg o0 (pr_3_3 o0).2 rfl pfX3_21 rfl rfl ?_
  refine pj_iload_n 258 1 rfl rfl rfl rfl ?_
  refine pj_iload 260 4 rfl rfl rfl ?_
  obtain ⟨q20, h⟩ := h
  refine pn_iast 261 6 (pr_3_3 o0)  q20 rfl rfl (fun M21 hM21 => ?_)
  replace h := h M21 hM21
  refine pj_iload 263 5 rfl rfl rfl ?_
  obtain ⟨q22, h⟩ := h
  exact pn_zret q22 h rfl rfl
set_option maxRecDepth 20000 in
set_option maxHeartbeats 4000000 in
theorem s_X3_addSigns_230 {l : Launch} {g : pj_G} (hg : pj_ph g = true) {r0 : Nat} {x3 : Int} {x6 : Int} {x7 : Int} {x8 : Int} {M : pj_M} {Q : Int → pj_M → Prop}  (o0 : pj_ob r0 3)  (h : w_X3_addSigns_230 r0 x3 x6 x7 x8  Q M) : pj_R l g mdX3_addSigns pj_T (pj_Zm g mdX3_addSigns (pj_qi Q)) pj_NK 0 0 230 [(0, .ref r0), (3, .int (pj_I x3)), (6, .int (pj_I x6)), (7, .int (pj_I x7)), (8, .int (pj_I x8))] [] M := by
  unfold w_X3_addSigns_230 at h
  refine pj_iconst 231 rfl rfl ?_
  refine pj_goto 235 rfl (by decide) ?_
  refine pn_sub [0, 1, 2, 3, 4] rfl ?_
  exact s_X3_addSigns_235 hg o0   h
set_option maxRecDepth 20000 in
set_option maxHeartbeats 4000000 in
theorem s_X3_addSigns_189 {l : Launch} {g : pj_G} (hg : pj_ph g = true) {r0 : Nat} {r1 : Nat} {x3 : Int} {x4 : Int} {x5 : Int} {x6 : Int} {x7 : Int} {x8 : Int} {x9 : Int} {x11 : Int} {y0 : Int} {M : pj_M} {Q : Int → pj_M → Prop} {k53 : Int → Int → Int → Int → Int → Int → pj_M → Prop} (o0 : pj_ob r0 3) (o1 : pj_ob r1 4) (hk53 : ∀ (x6 : Int) (x7 : Int) (x8 : Int) (x9 : Int) (x10 : Int) (x11 : Int) (M : pj_M), k53 x6 x7 x8 x9 x10 x11 M → pj_R l g mdX3_addSigns pj_T (pj_Zm g mdX3_addSigns (pj_qi Q)) pj_NK 0 0 53 [(0, .ref r0), (1, .ref r1), (3, .int (pj_I x3)), (4, .int (pj_I x4)), (5, .int (pj_I x5)), (6, .int (pj_I x6)), (7, .int (pj_I x7)), (8, .int (pj_I x8)), (9, .int (pj_I x9)), (10, .int (pj_I x10)), (11, .int (pj_I x11))] [] M) (h : w_X3_addSigns_189 r0 r1 x3 x4 x5 x6 x7 x8 x9 x11 y0 k53 Q M) : pj_R l g mdX3_addSigns pj_T (pj_Zm g mdX3_addSigns (pj_qi Q)) pj_NK 0 0 189 [(0, .ref r0), (1, .ref r1), (3, .int (pj_I x3)), (4, .int (pj_I x4)), (5, .int (pj_I x5)), (6, .int (pj_I x6)), (7, .int (pj_I x7)), (8, .int (pj_I x8)), (9, .int (pj_I x9)), (11, .int (pj_I x11))] [.int (pj_I y0)] M := by
  unfold w_X3_addSigns_189 at h
  refine pj_istore 191 (ls' := [(0, .ref r0), (1, .ref r1), (3, .int (pj_I x3)), (4, .int (pj_I x4)), (5, .int (pj_I x5)), (6, .int (pj_I x6)), (7, .int (pj_I x7)), (8, .int (pj_I x8)), (9, .int (pj_I x9)), (10, .int (pj_I y0)), (11, .int (pj_I x11))]) rfl (by decide) rfl rfl ?_
  refine pj_iinc 194 10 (ls' := [(0, .ref r0), (1, .ref r1), (3, .int (pj_I x3)), (4, .int (pj_I x4)), (5, .int (pj_I x5)), (6, .int (pj_I x6)), (7, .int (pj_I x7)), (8, .int (pj_I x8)), (9, .int (pj_I x9)), (10, .int (pj_I y0)), (11, .int (pj_I (x11 + 1)))]) rfl rfl (by decide) rfl rfl ?_
  refine pj_goto 53 rfl (by decide) ?_
  refine pn_sub [0, 1, 2, 3, 4, 5, 6, 7, 8, 9, 10] rfl ?_
  exact hk53 _ _ _ _ _ _ _ h
set_option maxRecDepth 20000 in
set_option maxHeartbeats 4000000 in
theorem s_X3_addSigns_188 {l : Launch} {g : pj_G} (hg : pj_ph g = true) {r0 : Nat} {r1 : Nat} {x3 : Int} {x4 : Int} {x5 : Int} {x6 : Int} {x7 : Int} {x8 : Int} {x9 : Int} {x11 : Int} {M : pj_M} {Q : Int → pj_M → Prop} {k53 : Int → Int → Int → Int → Int → Int → pj_M → Prop} (o0 : pj_ob r0 3) (o1 : pj_ob r1 4) (hk53 : ∀ (x6 : Int) (x7 : Int) (x8 : Int) (x9 : Int) (x10 : Int) (x11 : Int) (M : pj_M), k53 x6 x7 x8 x9 x10 x11 M → pj_R l g mdX3_addSigns pj_T (pj_Zm g mdX3_addSigns (pj_qi Q)) pj_NK 0 0 53 [(0, .ref r0), (1, .ref r1), (3, .int (pj_I x3)), (4, .int (pj_I x4)), (5, .int (pj_I x5)), (6, .int (pj_I x6)), (7, .int (pj_I x7)), (8, .int (pj_I x8)), (9, .int (pj_I x9)), (10, .int (pj_I x10)), (11, .int (pj_I x11))] [] M) (h : w_X3_addSigns_188 r0 r1 x3 x4 x5 x6 x7 x8 x9 x11 k53 Q M) : pj_R l g mdX3_addSigns pj_T (pj_Zm g mdX3_addSigns (pj_qi Q)) pj_NK 0 0 188 [(0, .ref r0), (1, .ref r1), (3, .int (pj_I x3)), (4, .int (pj_I x4)), (5, .int (pj_I x5)), (6, .int (pj_I x6)), (7, .int (pj_I x7)), (8, .int (pj_I x8)), (9, .int (pj_I x9)), (11, .int (pj_I x11))] [] M := by
  unfold w_X3_addSigns_188 at h
  refine pj_iconst 189 rfl rfl ?_
  refine pn_sub [0, 1, 2, 3, 4, 5, 6, 7, 8, 9] rfl ?_
  exact s_X3_addSigns_189 hg o0 o1  hk53 h
set_option maxRecDepth 20000 in
set_option maxHeartbeats 4000000 in
theorem s_X3_addSigns_168 {l : Launch} {g : pj_G} (hg : pj_ph g = true) {r0 : Nat} {r1 : Nat} {x3 : Int} {x4 : Int} {x5 : Int} {x6 : Int} {x7 : Int} {x8 : Int} {x10 : Int} {x11 : Int} {x13 : Int} {y0 : Int} {M : pj_M} {Q : Int → pj_M → Prop} {k53 : Int → Int → Int → Int → Int → Int → pj_M → Prop} (o0 : pj_ob r0 3) (o1 : pj_ob r1 4) (hk53 : ∀ (x6 : Int) (x7 : Int) (x8 : Int) (x9 : Int) (x10 : Int) (x11 : Int) (M : pj_M), k53 x6 x7 x8 x9 x10 x11 M → pj_R l g mdX3_addSigns pj_T (pj_Zm g mdX3_addSigns (pj_qi Q)) pj_NK 0 0 53 [(0, .ref r0), (1, .ref r1), (3, .int (pj_I x3)), (4, .int (pj_I x4)), (5, .int (pj_I x5)), (6, .int (pj_I x6)), (7, .int (pj_I x7)), (8, .int (pj_I x8)), (9, .int (pj_I x9)), (10, .int (pj_I x10)), (11, .int (pj_I x11))] [] M) (h : w_X3_addSigns_168 r0 r1 x3 x4 x5 x6 x7 x8 x10 x11 x13 y0 k53 Q M) : pj_R l g mdX3_addSigns pj_T (pj_Zm g mdX3_addSigns (pj_qi Q)) pj_NK 0 0 168 [(0, .ref r0), (1, .ref r1), (3, .int (pj_I x3)), (4, .int (pj_I x4)), (5, .int (pj_I x5)), (6, .int (pj_I x6)), (7, .int (pj_I x7)), (8, .int (pj_I x8)), (10, .int (pj_I x10)), (11, .int (pj_I x11)), (13, .int (pj_I x13))] [.int (pj_I y0)] M := by
  unfold w_X3_addSigns_168 at h
  refine pj_istore 170 (ls' := [(0, .ref r0), (1, .ref r1), (3, .int (pj_I x3)), (4, .int (pj_I x4)), (5, .int (pj_I x5)), (6, .int (pj_I x6)), (7, .int (pj_I x7)), (8, .int (pj_I x8)), (9, .int (pj_I y0)), (10, .int (pj_I x10)), (11, .int (pj_I x11)), (13, .int (pj_I x13))]) rfl (by decide) rfl rfl ?_
  refine pj_iload 172 9 rfl rfl rfl ?_
  obtain ⟨q41, h⟩ := h
  refine pj_if_eq 188 175 rfl (by decide) rfl q41  (fun hc => ?_) (fun hc => ?_)
  · replace h := h.1 hc
    refine pn_sub [0, 1, 2, 3, 4, 5, 6, 7, 8, 10] rfl ?_
    exact s_X3_addSigns_188 hg o0 o1  hk53 h
  · replace h := h.2 hc
    refine pj_aload_n 176 0 rfl rfl rfl rfl ?_
    refine pj_iload 178 11 rfl rfl rfl ?_
    refine pn_callVi 181 3 [.int (pj_I x13)] [] o0 (s_X3_canVanish hg o0 h) plX3_75 rfl rfl rfl rfl (Nat.le_of_ble_eq_true rfl) (by decide) (fun t43 M42 h => ?_)
    obtain ⟨q44, h⟩ := h
    refine pj_if_eq 188 184 rfl (by decide) rfl q44  (fun hc => ?_) (fun hc => ?_)
    · replace h := h.1 hc
      refine pn_sub [0, 1, 2, 3, 4, 5, 6, 7, 8, 10] rfl ?_
      exact s_X3_addSigns_188 hg o0 o1  hk53 h
    · replace h := h.2 hc
      refine pj_iconst 185 rfl rfl ?_
      refine pj_goto 189 rfl (by decide) ?_
      refine pn_sub [0, 1, 2, 3, 4, 5, 6, 7, 8, 10] rfl ?_
      exact s_X3_addSigns_189 hg o0 o1  hk53 h
set_option maxRecDepth 20000 in
set_option maxHeartbeats 4000000 in
theorem s_X3_addSigns_167 {l : Launch} {g : pj_G} (hg : pj_ph g = true) {r0 : Nat} {r1 : Nat} {x3 : Int} {x4 : Int} {x5 : Int} {x6 : Int} {x7 : Int} {x8 : Int} {x10 : Int} {x11 : Int} {x13 : Int} {M : pj_M} {Q : Int → pj_M → Prop} {k53 : Int → Int → Int → Int → Int → Int → pj_M → Prop} (o0 : pj_ob r0 3) (o1 : pj_ob r1 4) (hk53 : ∀ (x6 : Int) (x7 : Int) (x8 : Int) (x9 : Int) (x10 : Int) (x11 : Int) (M : pj_M), k53 x6 x7 x8 x9 x10 x11 M → pj_R l g mdX3_addSigns pj_T (pj_Zm g mdX3_addSigns (pj_qi Q)) pj_NK 0 0 53 [(0, .ref r0), (1, .ref r1), (3, .int (pj_I x3)), (4, .int (pj_I x4)), (5, .int (pj_I x5)), (6, .int (pj_I x6)), (7, .int (pj_I x7)), (8, .int (pj_I x8)), (9, .int (pj_I x9)), (10, .int (pj_I x10)), (11, .int (pj_I x11))] [] M) (h : w_X3_addSigns_167 r0 r1 x3 x4 x5 x6 x7 x8 x10 x11 x13 k53 Q M) : pj_R l g mdX3_addSigns pj_T (pj_Zm g mdX3_addSigns (pj_qi Q)) pj_NK 0 0 167 [(0, .ref r0), (1, .ref r1), (3, .int (pj_I x3)), (4, .int (pj_I x4)), (5, .int (pj_I x5)), (6, .int (pj_I x6)), (7, .int (pj_I x7)), (8, .int (pj_I x8)), (10, .int (pj_I x10)), (11, .int (pj_I x11)), (13, .int (pj_I x13))] [] M := by
  unfold w_X3_addSigns_167 at h
  refine pj_iconst 168 rfl rfl ?_
  refine pn_sub [0, 1, 2, 3, 4, 5, 6, 7, 8, 9, 10] rfl ?_
  exact s_X3_addSigns_168 hg o0 o1  hk53 h
set_option maxRecDepth 20000 in
set_option maxHeartbeats 4000000 in
theorem s_X3_addSigns_132 {l : Launch} {g : pj_G} (hg : pj_ph g = true) {r0 : Nat} {r1 : Nat} {x3 : Int} {x4 : Int} {x5 : Int} {x6 : Int} {x8 : Int} {x9 : Int} {x10 : Int} {x11 : Int} {x12 : Int} {x13 : Int} {y0 : Int} {y1 : Int} {M : pj_M} {Q : Int → pj_M → Prop} {k53 : Int → Int → Int → Int → Int → Int → pj_M → Prop} (o0 : pj_ob r0 3) (o1 : pj_ob r1 4) (hk53 : ∀ (x6 : Int) (x7 : Int) (x8 : Int) (x9 : Int) (x10 : Int) (x11 : Int) (M : pj_M), k53 x6 x7 x8 x9 x10 x11 M → pj_R l g mdX3_addSigns pj_T (pj_Zm g mdX3_addSigns (pj_qi Q)) pj_NK 0 0 53 [(0, .ref r0), (1, .ref r1), (3, .int (pj_I x3)), (4, .int (pj_I x4)), (5, .int (pj_I x5)), (6, .int (pj_I x6)), (7, .int (pj_I x7)), (8, .int (pj_I x8)), (9, .int (pj_I x9)), (10, .int (pj_I x10)), (11, .int (pj_I x11))] [] M) (h : w_X3_addSigns_132 r0 r1 x3 x4 x5 x6 x8 x9 x10 x11 x12 x13 y0 y1 k53 Q M) : pj_R l g mdX3_addSigns pj_T (pj_Zm g mdX3_addSigns (pj_qi Q)) pj_NK 0 0 132 [(0, .ref r0), (1, .ref r1), (3, .int (pj_I x3)), (4, .int (pj_I x4)), (5, .int (pj_I x5)), (6, .int (pj_I x6)), (8, .int (pj_I x8)), (9, .int (pj_I x9)), (10, .int (pj_I x10)), (11, .int (pj_I x11)), (12, .int (pj_I x12)), (13, .int (pj_I x13))] [.int (pj_I y1), .int (pj_I y0)] M := by
  unfold w_X3_addSigns_132 at h
  refine pj_ior 133 rfl rfl ?_
  refine pn_nm (fun z36 hz36 => ?_)
  replace h := h z36 hz36
  refine pj_istore 135 (ls' := [(0, .ref r0), (1, .ref r1), (3, .int (pj_I x3)), (4, .int (pj_I x4)), (5, .int (pj_I x5)), (6, .int (pj_I x6)), (7, .int (pj_I z36)), (8, .int (pj_I x8)), (9, .int (pj_I x9)), (10, .int (pj_I x10)), (11, .int (pj_I x11)), (12, .int (pj_I x12)), (13, .int (pj_I x13))]) rfl (by decide) rfl rfl ?_
  refine pj_iload 137 7 rfl rfl rfl ?_
  refine pj_aload_n 138 0 rfl rfl rfl rfl ?_
  refine pn_getr 141 3 3 hg o0 (pr_3_3 o0).2 rfl pfX3_21 rfl rfl ?_
  refine pj_iload 143 11 rfl rfl rfl ?_
  refine pn_callSi 146 [.ref (pj_rf r0 3), .int (pj_I x12)] [.int (pj_I x8)] (s_X3_signsOf hg (pj_oa_of (pr_3_3 o0)) h) plX3_71 rfl rfl rfl rfl (Nat.le_of_ble_eq_true rfl) (by decide) (fun t38 M37 h => ?_)
  refine pj_ior 147 rfl rfl ?_
  refine pn_nm (fun z39 hz39 => ?_)
  replace h := h z39 hz39
  refine pj_istore 149 (ls' := [(0, .ref r0), (1, .ref r1), (3, .int (pj_I x3)), (4, .int (pj_I x4)), (5, .int (pj_I x5)), (6, .int (pj_I x6)), (7, .int (pj_I z36)), (8, .int (pj_I z39)), (9, .int (pj_I x9)), (10, .int (pj_I x10)), (11, .int (pj_I x11)), (12, .int (pj_I x12)), (13, .int (pj_I x13))]) rfl (by decide) rfl rfl ?_
  refine pj_iload 151 8 rfl rfl rfl ?_
  obtain ⟨q40, h⟩ := h
  refine pj_if_eq 167 154 rfl (by decide) rfl q40  (fun hc => ?_) (fun hc => ?_)
  · replace h := h.1 hc
    refine pn_sub [0, 1, 2, 3, 4, 5, 6, 7, 9, 10, 12] rfl ?_
    exact s_X3_addSigns_167 hg o0 o1  hk53 h
  · replace h := h.2 hc
    refine pj_aload_n 155 0 rfl rfl rfl rfl ?_
    refine pj_iload 157 11 rfl rfl rfl ?_
    refine pn_callVi 160 3 [.int (pj_I x12)] [] o0 (s_X3_canVanish hg o0 h) plX3_75 rfl rfl rfl rfl (Nat.le_of_ble_eq_true rfl) (by decide) (fun t46 M45 h => ?_)
    obtain ⟨q47, h⟩ := h
    refine pj_if_eq 167 163 rfl (by decide) rfl q47  (fun hc => ?_) (fun hc => ?_)
    · replace h := h.1 hc
      refine pn_sub [0, 1, 2, 3, 4, 5, 6, 7, 9, 10, 12] rfl ?_
      exact s_X3_addSigns_167 hg o0 o1  hk53 h
    · replace h := h.2 hc
      refine pj_iconst 164 rfl rfl ?_
      refine pj_goto 168 rfl (by decide) ?_
      refine pn_sub [0, 1, 2, 3, 4, 5, 6, 7, 9, 10, 12] rfl ?_
      exact s_X3_addSigns_168 hg o0 o1  hk53 h
set_option maxRecDepth 20000 in
set_option maxHeartbeats 4000000 in
theorem s_X3_addSigns_109 {l : Launch} {g : pj_G} (hg : pj_ph g = true) {r0 : Nat} {r1 : Nat} {x3 : Int} {x4 : Int} {x5 : Int} {x7 : Int} {x8 : Int} {x9 : Int} {x10 : Int} {x11 : Int} {x12 : Int} {x13 : Int} {y0 : Int} {y1 : Int} {M : pj_M} {Q : Int → pj_M → Prop} {k53 : Int → Int → Int → Int → Int → Int → pj_M → Prop} (o0 : pj_ob r0 3) (o1 : pj_ob r1 4) (hk53 : ∀ (x6 : Int) (x7 : Int) (x8 : Int) (x9 : Int) (x10 : Int) (x11 : Int) (M : pj_M), k53 x6 x7 x8 x9 x10 x11 M → pj_R l g mdX3_addSigns pj_T (pj_Zm g mdX3_addSigns (pj_qi Q)) pj_NK 0 0 53 [(0, .ref r0), (1, .ref r1), (3, .int (pj_I x3)), (4, .int (pj_I x4)), (5, .int (pj_I x5)), (6, .int (pj_I x6)), (7, .int (pj_I x7)), (8, .int (pj_I x8)), (9, .int (pj_I x9)), (10, .int (pj_I x10)), (11, .int (pj_I x11))] [] M) (h : w_X3_addSigns_109 r0 r1 x3 x4 x5 x7 x8 x9 x10 x11 x12 x13 y0 y1 k53 Q M) : pj_R l g mdX3_addSigns pj_T (pj_Zm g mdX3_addSigns (pj_qi Q)) pj_NK 0 0 109 [(0, .ref r0), (1, .ref r1), (3, .int (pj_I x3)), (4, .int (pj_I x4)), (5, .int (pj_I x5)), (7, .int (pj_I x7)), (8, .int (pj_I x8)), (9, .int (pj_I x9)), (10, .int (pj_I x10)), (11, .int (pj_I x11)), (12, .int (pj_I x12)), (13, .int (pj_I x13))] [.int (pj_I y1), .int (pj_I y0)] M := by
  unfold w_X3_addSigns_109 at h
  refine pj_ior 110 rfl rfl ?_
  refine pn_nm (fun z34 hz34 => ?_)
  replace h := h z34 hz34
  refine pj_istore 112 (ls' := [(0, .ref r0), (1, .ref r1), (3, .int (pj_I x3)), (4, .int (pj_I x4)), (5, .int (pj_I x5)), (6, .int (pj_I z34)), (7, .int (pj_I x7)), (8, .int (pj_I x8)), (9, .int (pj_I x9)), (10, .int (pj_I x10)), (11, .int (pj_I x11)), (12, .int (pj_I x12)), (13, .int (pj_I x13))]) rfl (by decide) rfl rfl ?_
  refine pj_iload 114 6 rfl rfl rfl ?_
  refine pj_iload 116 9 rfl rfl rfl ?_
  obtain ⟨q35, h⟩ := h
  refine pj_if_eq 131 119 rfl (by decide) rfl q35  (fun hc => ?_) (fun hc => ?_)
  · replace h := h.1 hc
    refine pj_iconst 132 rfl rfl ?_
    refine pn_sub [0, 1, 2, 3, 4, 5, 7, 8, 9, 10, 11, 12] rfl ?_
    exact s_X3_addSigns_132 hg o0 o1  hk53 h
  · replace h := h.2 hc
    refine pj_aload_n 120 0 rfl rfl rfl rfl ?_
    refine pn_getr 123 3 2 hg o0 (pr_3_2 o0).2 rfl pfX3_18 rfl rfl ?_
    refine pj_iload 125 12 rfl rfl rfl ?_
    refine pn_callSi 128 [.ref (pj_rf r0 2), .int (pj_I x13)] [.int (pj_I x7)] (s_X3_signsOf hg (pj_oa_of (pr_3_2 o0)) h) plX3_71 rfl rfl rfl rfl (Nat.le_of_ble_eq_true rfl) (by decide) (fun t49 M48 h => ?_)
    refine pj_goto 132 rfl (by decide) ?_
    refine pn_sub [0, 1, 2, 3, 4, 5, 7, 8, 9, 10, 11, 12] rfl ?_
    exact s_X3_addSigns_132 hg o0 o1  hk53 h
set_option maxRecDepth 20000 in
set_option maxHeartbeats 4000000 in
theorem s_X3_addSigns_53b {l : Launch} {g : pj_G} (hg : pj_ph g = true) {r0 : Nat} {r1 : Nat} {x3 : Int} {x4 : Int} {x5 : Int} {x6 : Int} {x7 : Int} {x8 : Int} {x9 : Int} {x10 : Int} {x11 : Int} {M : pj_M} {Q : Int → pj_M → Prop}  {k53 : Int → Int → Int → Int → Int → Int → pj_M → Prop} (o0 : pj_ob r0 3) (o1 : pj_ob r1 4)  (hk53 : ∀ (x6 : Int) (x7 : Int) (x8 : Int) (x9 : Int) (x10 : Int) (x11 : Int) (M : pj_M), k53 x6 x7 x8 x9 x10 x11 M → pj_R l g mdX3_addSigns pj_T (pj_Zm g mdX3_addSigns (pj_qi Q)) pj_NK 0 0 53 [(0, .ref r0), (1, .ref r1), (3, .int (pj_I x3)), (4, .int (pj_I x4)), (5, .int (pj_I x5)), (6, .int (pj_I x6)), (7, .int (pj_I x7)), (8, .int (pj_I x8)), (9, .int (pj_I x9)), (10, .int (pj_I x10)), (11, .int (pj_I x11))] [] M) (h : w_X3_addSigns_53b r0 r1 x3 x4 x5  Q k53 x6 x7 x8 x9 x10 x11 M) : pj_R l g mdX3_addSigns pj_T (pj_Zm g mdX3_addSigns (pj_qi Q)) pj_NK 0 0 53 [(0, .ref r0), (1, .ref r1), (3, .int (pj_I x3)), (4, .int (pj_I x4)), (5, .int (pj_I x5)), (6, .int (pj_I x6)), (7, .int (pj_I x7)), (8, .int (pj_I x8)), (9, .int (pj_I x9)), (10, .int (pj_I x10)), (11, .int (pj_I x11))] [] M := by
  unfold w_X3_addSigns_53b at h
  refine pj_iload 55 10 rfl rfl rfl ?_
  refine pj_iload 57 4 rfl rfl rfl ?_
  obtain ⟨q11, h⟩ := h
  obtain ⟨q12, h⟩ := h
  refine pj_icmp_ge 197 60 rfl (by decide) rfl q11 q12 (fun hc => ?_) (fun hc => ?_)
  · replace h := h.1 hc
    refine pj_iload 199 5 rfl rfl rfl ?_
    refine pj_aload_n 200 0 rfl rfl rfl rfl ?_
    refine pn_getr 203 3 1 hg o0 (pr_3_1 o0).2 rfl pfX3_15 rfl rfl ?_
    refine pj_iload_n 204 2 rfl rfl rfl rfl ?_
    obtain ⟨q13, h⟩ := h
    refine pn_iald 205 6 (pr_3_1 o0) q13 rfl rfl ?_
    obtain ⟨q14, h⟩ := h
    obtain ⟨q15, h⟩ := h
    refine pj_icmp_ne 230 208 rfl (by decide) rfl q14 q15 (fun hc => ?_) (fun hc => ?_)
    · replace h := h.1 hc
      refine pn_sub [0, 2, 5, 6, 7] rfl ?_
      exact s_X3_addSigns_230 hg o0   h
    · replace h := h.2 (Classical.not_not.mp hc)
      refine pj_iload 210 6 rfl rfl rfl ?_
      refine pj_aload_n 211 0 rfl rfl rfl rfl ?_
      refine pn_getr 214 3 2 hg o0 (pr_3_2 o0).2 rfl pfX3_18 rfl rfl ?_
      refine pj_iload_n 215 2 rfl rfl rfl rfl ?_
      obtain ⟨q23, h⟩ := h
      refine pn_iald 216 6 (pr_3_2 o0) q23 rfl rfl ?_
      obtain ⟨q24, h⟩ := h
      obtain ⟨q25, h⟩ := h
      refine pj_icmp_ne 230 219 rfl (by decide) rfl q24 q25 (fun hc => ?_) (fun hc => ?_)
      · replace h := h.1 hc
        refine pn_sub [0, 2, 5, 6, 7] rfl ?_
        exact s_X3_addSigns_230 hg o0   h
      · replace h := h.2 (Classical.not_not.mp hc)
        refine pj_iload 221 7 rfl rfl rfl ?_
        refine pj_aload_n 222 0 rfl rfl rfl rfl ?_
        refine pn_getr 225 3 3 hg o0 (pr_3_3 o0).2 rfl pfX3_21 rfl rfl ?_
        refine pj_iload_n 226 2 rfl rfl rfl rfl ?_
        obtain ⟨q26, h⟩ := h
        refine pn_iald 227 6 (pr_3_3 o0) q26 rfl rfl ?_
        obtain ⟨q27, h⟩ := h
        obtain ⟨q28, h⟩ := h
        refine pj_icmp_eq 234 230 rfl (by decide) rfl q27 q28 (fun hc => ?_) (fun hc => ?_)
        · replace h := h.1 hc
          refine pj_iconst 235 rfl rfl ?_
          refine pn_sub [0, 2, 5, 6, 7] rfl ?_
          exact s_X3_addSigns_235 hg o0   h
        · replace h := h.2 hc
          refine pn_sub [0, 2, 5, 6, 7] rfl ?_
          exact s_X3_addSigns_230 hg o0   h
  · replace h := h.2 hc
    refine pj_aload_n 61 1 rfl rfl rfl rfl ?_
    refine pn_getr 64 4 2 hg o1 (pr_4_2 o1).2 rfl pfX3_58 rfl rfl ?_
    refine pj_iload 66 3 rfl rfl rfl ?_
    refine pj_iload 68 10 rfl rfl rfl ?_
    refine pj_iadd 69 rfl rfl ?_
    obtain ⟨q29, h⟩ := h
    refine pn_iald 70 48 (pr_4_2 o1) q29 rfl rfl ?_
    refine pn_nm (fun z30 hz30 => ?_)
    replace h := h z30 hz30
    refine pj_istore 72 (ls' := [(0, .ref r0), (1, .ref r1), (3, .int (pj_I x3)), (4, .int (pj_I x4)), (5, .int (pj_I x5)), (6, .int (pj_I x6)), (7, .int (pj_I x7)), (8, .int (pj_I x8)), (9, .int (pj_I x9)), (10, .int (pj_I x10)), (11, .int (pj_I x11)), (12, .int (pj_I z30))]) rfl (by decide) rfl rfl ?_
    refine pj_aload_n 73 1 rfl rfl rfl rfl ?_
    refine pn_getr 76 4 2 hg o1 (pr_4_2 o1).2 rfl pfX3_58 rfl rfl ?_
    refine pj_iload 78 3 rfl rfl rfl ?_
    refine pj_iload 80 4 rfl rfl rfl ?_
    refine pj_iadd 81 rfl rfl ?_
    refine pj_iconst 82 rfl rfl ?_
    refine pj_isub 83 rfl rfl ?_
    refine pj_iload 85 10 rfl rfl rfl ?_
    refine pj_isub 86 rfl rfl ?_
    obtain ⟨q31, h⟩ := h
    refine pn_iald 87 48 (pr_4_2 o1) q31 rfl rfl ?_
    refine pn_nm (fun z32 hz32 => ?_)
    replace h := h z32 hz32
    refine pj_istore 89 (ls' := [(0, .ref r0), (1, .ref r1), (3, .int (pj_I x3)), (4, .int (pj_I x4)), (5, .int (pj_I x5)), (6, .int (pj_I x6)), (7, .int (pj_I x7)), (8, .int (pj_I x8)), (9, .int (pj_I x9)), (10, .int (pj_I x10)), (11, .int (pj_I x11)), (12, .int (pj_I z30)), (13, .int (pj_I z32))]) rfl (by decide) rfl rfl ?_
    refine pj_iload 91 5 rfl rfl rfl ?_
    refine pj_iload 93 8 rfl rfl rfl ?_
    obtain ⟨q33, h⟩ := h
    refine pj_if_eq 108 96 rfl (by decide) rfl q33  (fun hc => ?_) (fun hc => ?_)
    · replace h := h.1 hc
      refine pj_iconst 109 rfl rfl ?_
      refine pn_sub [0, 1, 2, 3, 4, 6, 7, 8, 9, 10, 11, 12] rfl ?_
      exact s_X3_addSigns_109 hg o0 o1  hk53 h
    · replace h := h.2 hc
      refine pj_aload_n 97 0 rfl rfl rfl rfl ?_
      refine pn_getr 100 3 1 hg o0 (pr_3_1 o0).2 rfl pfX3_15 rfl rfl ?_
      refine pj_iload 102 11 rfl rfl rfl ?_
      refine pn_callSi 105 [.ref (pj_rf r0 1), .int (pj_I z30)] [.int (pj_I x6)] (s_X3_signsOf hg (pj_oa_of (pr_3_1 o0)) h) plX3_71 rfl rfl rfl rfl (Nat.le_of_ble_eq_true rfl) (by decide) (fun t51 M50 h => ?_)
      refine pj_goto 109 rfl (by decide) ?_
      refine pn_sub [0, 1, 2, 3, 4, 6, 7, 8, 9, 10, 11, 12] rfl ?_
      exact s_X3_addSigns_109 hg o0 o1  hk53 h
set_option maxRecDepth 20000 in
set_option maxHeartbeats 4000000 in
theorem s_X3_addSigns_53 {l : Launch} {g : pj_G} (hg : pj_ph g = true) {r0 : Nat} {r1 : Nat} {x3 : Int} {x4 : Int} {x5 : Int} {x6 : Int} {x7 : Int} {x8 : Int} {x9 : Int} {x10 : Int} {x11 : Int} {M : pj_M} {Q : Int → pj_M → Prop}  (o0 : pj_ob r0 3) (o1 : pj_ob r1 4)  (h : w_X3_addSigns_53 r0 r1 x3 x4 x5  Q x6 x7 x8 x9 x10 x11 M) : pj_R l g mdX3_addSigns pj_T (pj_Zm g mdX3_addSigns (pj_qi Q)) pj_NK 0 0 53 [(0, .ref r0), (1, .ref r1), (3, .int (pj_I x3)), (4, .int (pj_I x4)), (5, .int (pj_I x5)), (6, .int (pj_I x6)), (7, .int (pj_I x7)), (8, .int (pj_I x8)), (9, .int (pj_I x9)), (10, .int (pj_I x10)), (11, .int (pj_I x11))] [] M :=
  h (fun s => pj_R l g mdX3_addSigns pj_T (pj_Zm g mdX3_addSigns (pj_qi Q)) pj_NK 0 0 53 [(0, .ref r0), (1, .ref r1), (3, .int (pj_I x3)), (4, .int (pj_I x4)), (5, .int (pj_I x5)), (6, .int (pj_I (s.1))), (7, .int (pj_I (s.2.1))), (8, .int (pj_I (s.2.2.1))), (9, .int (pj_I (s.2.2.2.1))), (10, .int (pj_I (s.2.2.2.2.1))), (11, .int (pj_I (s.2.2.2.2.2.1)))] [] s.2.2.2.2.2.2) (fun s hs => s_X3_addSigns_53b hg o0 o1  (fun _ _ _ _ _ _ _ q => q) hs)
set_option maxRecDepth 20000 in
set_option maxHeartbeats 4000000 in
theorem s_X3_addSigns {l : Launch} {g : pj_G} (hg : pj_ph g = true) {r0 : Nat} {r1 : Nat} {x2 : Int} {M : pj_M} {Q : Int → pj_M → Prop} (o0 : pj_ob r0 3) (o1 : pj_ob r1 4) (h : w_X3_addSigns r0 r1 x2 M Q) : pj_S l g mdX3_addSigns [.ref r0, .ref r1, .int (pj_I x2)] pj_NK M (pj_qi Q) := by
  refine pj_ofR (ls := [(0, .ref r0), (1, .ref r1), (2, .int (pj_I x2))]) gcX3_addSigns (by decide) rfl (Nat.le_of_ble_eq_true rfl) rfl ?_
  unfold w_X3_addSigns at h
  refine pj_aload_n 1 1 rfl rfl rfl rfl ?_
  refine pn_getr 4 4 0 hg o1 (pr_4_0 o1).2 rfl pfX3_52 rfl rfl ?_
  refine pj_iload_n 5 2 rfl rfl rfl rfl ?_
  obtain ⟨q1, h⟩ := h
  refine pn_iald 6 12 (pr_4_0 o1) q1 rfl rfl ?_
  refine pn_nm (fun z2 hz2 => ?_)
  replace h := h z2 hz2
  refine pj_istore_n 7 (ls' := [(0, .ref r0), (1, .ref r1), (2, .int (pj_I x2)), (3, .int (pj_I z2))]) rfl rfl (by decide) rfl rfl ?_
  refine pj_iload_n 8 2 rfl rfl rfl rfl ?_
  refine pj_iconst 9 rfl rfl ?_
  refine pj_imul 10 rfl rfl ?_
  refine pj_istore 12 (ls' := [(0, .ref r0), (1, .ref r1), (2, .int (pj_I x2)), (3, .int (pj_I z2)), (4, .int (pj_I (x2 * 4)))]) rfl (by decide) rfl rfl ?_
  refine pj_aload_n 13 1 rfl rfl rfl rfl ?_
  refine pn_getr 16 4 1 hg o1 (pr_4_1 o1).2 rfl pfX3_55 rfl rfl ?_
  refine pj_iload_n 17 2 rfl rfl rfl rfl ?_
  obtain ⟨q3, h⟩ := h
  refine pn_iald 18 12 (pr_4_1 o1) q3 rfl rfl ?_
  refine pn_nm (fun z4 hz4 => ?_)
  replace h := h z4 hz4
  refine pj_istore 20 (ls' := [(0, .ref r0), (1, .ref r1), (2, .int (pj_I x2)), (3, .int (pj_I z2)), (4, .int (pj_I (x2 * 4))), (5, .int (pj_I z4))]) rfl (by decide) rfl rfl ?_
  refine pj_aload_n 21 0 rfl rfl rfl rfl ?_
  refine pn_getr 24 3 1 hg o0 (pr_3_1 o0).2 rfl pfX3_15 rfl rfl ?_
  refine pj_iload_n 25 3 rfl rfl rfl rfl ?_
  obtain ⟨q5, h⟩ := h
  refine pn_iald 26 6 (pr_3_1 o0) q5 rfl rfl ?_
  refine pn_nm (fun z6 hz6 => ?_)
  replace h := h z6 hz6
  refine pj_istore 28 (ls' := [(0, .ref r0), (1, .ref r1), (2, .int (pj_I x2)), (3, .int (pj_I z2)), (4, .int (pj_I (x2 * 4))), (5, .int (pj_I z4)), (6, .int (pj_I z6))]) rfl (by decide) rfl rfl ?_
  refine pj_aload_n 29 0 rfl rfl rfl rfl ?_
  refine pn_getr 32 3 2 hg o0 (pr_3_2 o0).2 rfl pfX3_18 rfl rfl ?_
  refine pj_iload_n 33 3 rfl rfl rfl rfl ?_
  obtain ⟨q7, h⟩ := h
  refine pn_iald 34 6 (pr_3_2 o0) q7 rfl rfl ?_
  refine pn_nm (fun z8 hz8 => ?_)
  replace h := h z8 hz8
  refine pj_istore 36 (ls' := [(0, .ref r0), (1, .ref r1), (2, .int (pj_I x2)), (3, .int (pj_I z2)), (4, .int (pj_I (x2 * 4))), (5, .int (pj_I z4)), (6, .int (pj_I z6)), (7, .int (pj_I z8))]) rfl (by decide) rfl rfl ?_
  refine pj_aload_n 37 0 rfl rfl rfl rfl ?_
  refine pn_getr 40 3 3 hg o0 (pr_3_3 o0).2 rfl pfX3_21 rfl rfl ?_
  refine pj_iload_n 41 3 rfl rfl rfl rfl ?_
  obtain ⟨q9, h⟩ := h
  refine pn_iald 42 6 (pr_3_3 o0) q9 rfl rfl ?_
  refine pn_nm (fun z10 hz10 => ?_)
  replace h := h z10 hz10
  refine pj_istore 44 (ls' := [(0, .ref r0), (1, .ref r1), (2, .int (pj_I x2)), (3, .int (pj_I z2)), (4, .int (pj_I (x2 * 4))), (5, .int (pj_I z4)), (6, .int (pj_I z6)), (7, .int (pj_I z8)), (8, .int (pj_I z10))]) rfl (by decide) rfl rfl ?_
  refine pj_iconst 45 rfl rfl ?_
  refine pj_istore 47 (ls' := [(0, .ref r0), (1, .ref r1), (2, .int (pj_I x2)), (3, .int (pj_I z2)), (4, .int (pj_I (x2 * 4))), (5, .int (pj_I z4)), (6, .int (pj_I z6)), (7, .int (pj_I z8)), (8, .int (pj_I z10)), (9, .int (pj_I 1))]) rfl (by decide) rfl rfl ?_
  refine pj_iconst 48 rfl rfl ?_
  refine pj_istore 50 (ls' := [(0, .ref r0), (1, .ref r1), (2, .int (pj_I x2)), (3, .int (pj_I z2)), (4, .int (pj_I (x2 * 4))), (5, .int (pj_I z4)), (6, .int (pj_I z6)), (7, .int (pj_I z8)), (8, .int (pj_I z10)), (9, .int (pj_I 1)), (10, .int (pj_I 1))]) rfl (by decide) rfl rfl ?_
  refine pj_iconst 51 rfl rfl ?_
  refine pj_istore 53 (ls' := [(0, .ref r0), (1, .ref r1), (2, .int (pj_I x2)), (3, .int (pj_I z2)), (4, .int (pj_I (x2 * 4))), (5, .int (pj_I z4)), (6, .int (pj_I z6)), (7, .int (pj_I z8)), (8, .int (pj_I z10)), (9, .int (pj_I 1)), (10, .int (pj_I 1)), (11, .int (pj_I 0))]) rfl (by decide) rfl rfl ?_
  refine pn_sub [0, 1, 3, 4, 5, 6, 7, 8, 9, 10, 11] rfl ?_
  exact s_X3_addSigns_53 hg o0 o1   h
def w_X3_findSigns_55b (r0 : Nat) (r1 : Nat) (x3 : Int) (k39 : Int → Int → pj_M → Prop) (Q : pj_M → Prop) (k55 : Int → Int → pj_M → Prop) (x2 : Int) (x4 : Int) (M : pj_M) : Prop :=
  (pj_in x4) ∧ (pj_in (M r1 3)) ∧ (((M r1 3) ≤ x4 → k39 x2 (x3 + 1) M) ∧ (¬ (M r1 3) ≤ x4 → w_X3_lengthOf r0 r1 x4 M (fun (t7 : Int) (M6 : pj_M) => (pj_in t7) ∧ ((1048576 ≤ t7 → k55 x2 (x4 + 1) M6) ∧ (¬ 1048576 ≤ t7 → w_X3_addSigns r0 r1 x4 M6 (fun (t10 : Int) (M9 : pj_M) => (pj_in t10) ∧ ((t10 = 0 → k55 x2 (x4 + 1) M9) ∧ (¬ t10 = 0 → k55 1 (x4 + 1) M9))))))))
def w_X3_findSigns_55 (r0 : Nat) (r1 : Nat) (x3 : Int) (k39 : Int → Int → pj_M → Prop) (Q : pj_M → Prop) (x2 : Int) (x4 : Int) (M : pj_M) : Prop := pj_lp (fun (k : Int × Int × pj_M → Prop) (s : Int × Int × pj_M) => w_X3_findSigns_55b r0 r1 x3 k39 Q (fun (x2 : Int) (x4 : Int) (M : pj_M) => k (x2, x4, M)) s.1 s.2.1 s.2.2) (x2, x4, M)
def w_X3_findSigns_39b (r0 : Nat) (r1 : Nat)  (Q : pj_M → Prop) (k39 : Int → Int → pj_M → Prop) (x2 : Int) (x3 : Int) (M : pj_M) : Prop :=
  (pj_in x3) ∧ ((1000 ≤ x3 → Q M) ∧ (¬ 1000 ≤ x3 → (pj_in x2) ∧ ((x2 = 0 → Q M) ∧ (¬ x2 = 0 → w_X3_findSigns_55 r0 r1 x3 k39 Q 0 0 M))))
def w_X3_findSigns_39 (r0 : Nat) (r1 : Nat)  (Q : pj_M → Prop) (x2 : Int) (x3 : Int) (M : pj_M) : Prop := pj_lp (fun (k : Int × Int × pj_M → Prop) (s : Int × Int × pj_M) => w_X3_findSigns_39b r0 r1  Q (fun (x2 : Int) (x3 : Int) (M : pj_M) => k (x2, x3, M)) s.1 s.2.1 s.2.2) (x2, x3, M)
def w_X3_findSigns_2b (r0 : Nat) (r1 : Nat)  (Q : pj_M → Prop) (k2 : Int → pj_M → Prop) (x2 : Int) (M : pj_M) : Prop :=
  (pj_in x2) ∧ ((6 ≤ x2 → w_X3_findSigns_39 r0 r1  Q 1 0 M) ∧ (¬ 6 ≤ x2 → ((0 : Int) ≤ x2 ∧ x2 < 6) ∧ ∀ M13 : pj_M, M13 = pj_up M (pj_rf r0 1) x2 0 → ((0 : Int) ≤ x2 ∧ x2 < 6) ∧ ∀ M15 : pj_M, M15 = pj_up M13 (pj_rf r0 2) x2 0 → ((0 : Int) ≤ x2 ∧ x2 < 6) ∧ ∀ M17 : pj_M, M17 = pj_up M15 (pj_rf r0 3) x2 0 → k2 (x2 + 1) M17))
def w_X3_findSigns_2 (r0 : Nat) (r1 : Nat)  (Q : pj_M → Prop) (x2 : Int) (M : pj_M) : Prop := pj_lp (fun (k : Int × pj_M → Prop) (s : Int × pj_M) => w_X3_findSigns_2b r0 r1  Q (fun (x2 : Int) (M : pj_M) => k (x2, M)) s.1 s.2) (x2, M)
def w_X3_findSigns (r0 : Nat) (r1 : Nat) (M : pj_M) (Q : pj_M → Prop) : Prop :=
  w_X3_findSigns_2 r0 r1  Q 0 M
set_option maxRecDepth 20000 in
set_option maxHeartbeats 4000000 in
theorem s_X3_findSigns_55b {l : Launch} {g : pj_G} (hg : pj_ph g = true) {r0 : Nat} {r1 : Nat} {x2 : Int} {x3 : Int} {x4 : Int} {M : pj_M} {Q : pj_M → Prop} {k39 : Int → Int → pj_M → Prop} {k55 : Int → Int → pj_M → Prop} (o0 : pj_ob r0 3) (o1 : pj_ob r1 4) (hk39 : ∀ (x2 : Int) (x3 : Int) (M : pj_M), k39 x2 x3 M → pj_R l g mdX3_findSigns pj_T (pj_Zm g mdX3_findSigns (pj_qv Q)) pj_NK 0 0 39 [(0, .ref r0), (1, .ref r1), (2, .int (pj_I x2)), (3, .int (pj_I x3))] [] M) (hk55 : ∀ (x2 : Int) (x4 : Int) (M : pj_M), k55 x2 x4 M → pj_R l g mdX3_findSigns pj_T (pj_Zm g mdX3_findSigns (pj_qv Q)) pj_NK 0 0 55 [(0, .ref r0), (1, .ref r1), (2, .int (pj_I x2)), (3, .int (pj_I x3)), (4, .int (pj_I x4))] [] M) (h : w_X3_findSigns_55b r0 r1 x3 k39 Q k55 x2 x4 M) : pj_R l g mdX3_findSigns pj_T (pj_Zm g mdX3_findSigns (pj_qv Q)) pj_NK 0 0 55 [(0, .ref r0), (1, .ref r1), (2, .int (pj_I x2)), (3, .int (pj_I x3)), (4, .int (pj_I x4))] [] M := by
  unfold w_X3_findSigns_55b at h
  refine pj_iload 57 4 rfl rfl rfl ?_
  refine pj_aload_n 58 1 rfl rfl rfl rfl ?_
  refine pn_geti 61 4 3 3 o1 rfl pfX3_43 (Or.inl rfl) rfl rfl ?_
  obtain ⟨q4, h⟩ := h
  obtain ⟨q5, h⟩ := h
  refine pj_icmp_ge 94 64 rfl (by decide) rfl q4 q5 (fun hc => ?_) (fun hc => ?_)
  · replace h := h.1 hc
    refine pj_iinc 97 3 (ls' := [(0, .ref r0), (1, .ref r1), (2, .int (pj_I x2)), (3, .int (pj_I (x3 + 1))), (4, .int (pj_I x4))]) rfl rfl (by decide) rfl rfl ?_
    refine pj_goto 39 rfl (by decide) ?_
    refine pn_sub [0, 1, 2, 3] rfl ?_
    exact hk39 _ _ _ h
  · replace h := h.2 hc
    refine pj_aload_n 65 0 rfl rfl rfl rfl ?_
    refine pj_aload_n 66 1 rfl rfl rfl rfl ?_
    refine pj_iload 68 4 rfl rfl rfl ?_
    refine pn_callVi 71 3 [.ref r1, .int (pj_I x4)] [] o0 (s_X3_lengthOf hg o0 o1 h) plX3_48 rfl rfl rfl rfl (Nat.le_of_ble_eq_true rfl) (by decide) (fun t7 M6 h => ?_)
    refine pj_ldc 73 1048576 rfl pkX3_34 rfl ?_
    obtain ⟨q8, h⟩ := h
    refine pj_icmp_ge 88 76 rfl (by decide) rfl q8 (show pj_in 1048576 by decide) (fun hc => ?_) (fun hc => ?_)
    · replace h := h.1 hc
      refine pj_iinc 91 4 (ls' := [(0, .ref r0), (1, .ref r1), (2, .int (pj_I x2)), (3, .int (pj_I x3)), (4, .int (pj_I (x4 + 1)))]) rfl rfl (by decide) rfl rfl ?_
      refine pj_goto 55 rfl (by decide) ?_
      refine pn_sub [0, 1, 2, 3, 4] rfl ?_
      exact hk55 _ _ _ h
    · replace h := h.2 hc
      refine pj_aload_n 77 0 rfl rfl rfl rfl ?_
      refine pj_aload_n 78 1 rfl rfl rfl rfl ?_
      refine pj_iload 80 4 rfl rfl rfl ?_
      refine pn_callVi 83 3 [.ref r1, .int (pj_I x4)] [] o0 (s_X3_addSigns hg o0 o1 h) plX3_67 rfl rfl rfl rfl (Nat.le_of_ble_eq_true rfl) (by decide) (fun t10 M9 h => ?_)
      obtain ⟨q11, h⟩ := h
      refine pj_if_eq 88 86 rfl (by decide) rfl q11  (fun hc => ?_) (fun hc => ?_)
      · replace h := h.1 hc
        refine pj_iinc 91 4 (ls' := [(0, .ref r0), (1, .ref r1), (2, .int (pj_I x2)), (3, .int (pj_I x3)), (4, .int (pj_I (x4 + 1)))]) rfl rfl (by decide) rfl rfl ?_
        refine pj_goto 55 rfl (by decide) ?_
        refine pn_sub [0, 1, 2, 3, 4] rfl ?_
        exact hk55 _ _ _ h
      · replace h := h.2 hc
        refine pj_iconst 87 rfl rfl ?_
        refine pj_istore_n 88 (ls' := [(0, .ref r0), (1, .ref r1), (2, .int (pj_I 1)), (3, .int (pj_I x3)), (4, .int (pj_I x4))]) rfl rfl (by decide) rfl rfl ?_
        refine pj_iinc 91 4 (ls' := [(0, .ref r0), (1, .ref r1), (2, .int (pj_I 1)), (3, .int (pj_I x3)), (4, .int (pj_I (x4 + 1)))]) rfl rfl (by decide) rfl rfl ?_
        refine pj_goto 55 rfl (by decide) ?_
        refine pn_sub [0, 1, 2, 3, 4] rfl ?_
        exact hk55 _ _ _ h
set_option maxRecDepth 20000 in
set_option maxHeartbeats 4000000 in
theorem s_X3_findSigns_55 {l : Launch} {g : pj_G} (hg : pj_ph g = true) {r0 : Nat} {r1 : Nat} {x2 : Int} {x3 : Int} {x4 : Int} {M : pj_M} {Q : pj_M → Prop} {k39 : Int → Int → pj_M → Prop} (o0 : pj_ob r0 3) (o1 : pj_ob r1 4) (hk39 : ∀ (x2 : Int) (x3 : Int) (M : pj_M), k39 x2 x3 M → pj_R l g mdX3_findSigns pj_T (pj_Zm g mdX3_findSigns (pj_qv Q)) pj_NK 0 0 39 [(0, .ref r0), (1, .ref r1), (2, .int (pj_I x2)), (3, .int (pj_I x3))] [] M) (h : w_X3_findSigns_55 r0 r1 x3 k39 Q x2 x4 M) : pj_R l g mdX3_findSigns pj_T (pj_Zm g mdX3_findSigns (pj_qv Q)) pj_NK 0 0 55 [(0, .ref r0), (1, .ref r1), (2, .int (pj_I x2)), (3, .int (pj_I x3)), (4, .int (pj_I x4))] [] M :=
  h (fun s => pj_R l g mdX3_findSigns pj_T (pj_Zm g mdX3_findSigns (pj_qv Q)) pj_NK 0 0 55 [(0, .ref r0), (1, .ref r1), (2, .int (pj_I (s.1))), (3, .int (pj_I x3)), (4, .int (pj_I (s.2.1)))] [] s.2.2) (fun s hs => s_X3_findSigns_55b hg o0 o1 hk39 (fun _ _ _ q => q) hs)
set_option maxRecDepth 20000 in
set_option maxHeartbeats 4000000 in
theorem s_X3_findSigns_39b {l : Launch} {g : pj_G} (hg : pj_ph g = true) {r0 : Nat} {r1 : Nat} {x2 : Int} {x3 : Int} {M : pj_M} {Q : pj_M → Prop}  {k39 : Int → Int → pj_M → Prop} (o0 : pj_ob r0 3) (o1 : pj_ob r1 4)  (hk39 : ∀ (x2 : Int) (x3 : Int) (M : pj_M), k39 x2 x3 M → pj_R l g mdX3_findSigns pj_T (pj_Zm g mdX3_findSigns (pj_qv Q)) pj_NK 0 0 39 [(0, .ref r0), (1, .ref r1), (2, .int (pj_I x2)), (3, .int (pj_I x3))] [] M) (h : w_X3_findSigns_39b r0 r1  Q k39 x2 x3 M) : pj_R l g mdX3_findSigns pj_T (pj_Zm g mdX3_findSigns (pj_qv Q)) pj_NK 0 0 39 [(0, .ref r0), (1, .ref r1), (2, .int (pj_I x2)), (3, .int (pj_I x3))] [] M := by
  unfold w_X3_findSigns_39b at h
  refine pj_iload_n 40 3 rfl rfl rfl rfl ?_
  refine pj_sipush 43 rfl (by decide) rfl ?_
  obtain ⟨q2, h⟩ := h
  refine pj_icmp_ge 100 46 rfl (by decide) rfl q2 (show pj_in 1000 by decide) (fun hc => ?_) (fun hc => ?_)
  · replace h := h.1 hc
    exact pn_vret h rfl rfl
  · replace h := h.2 hc
    refine pj_iload_n 47 2 rfl rfl rfl rfl ?_
    obtain ⟨q3, h⟩ := h
    refine pj_if_eq 100 50 rfl (by decide) rfl q3  (fun hc => ?_) (fun hc => ?_)
    · replace h := h.1 hc
      exact pn_vret h rfl rfl
    · replace h := h.2 hc
      refine pj_iconst 51 rfl rfl ?_
      refine pj_istore_n 52 (ls' := [(0, .ref r0), (1, .ref r1), (2, .int (pj_I 0)), (3, .int (pj_I x3))]) rfl rfl (by decide) rfl rfl ?_
      refine pj_iconst 53 rfl rfl ?_
      refine pj_istore 55 (ls' := [(0, .ref r0), (1, .ref r1), (2, .int (pj_I 0)), (3, .int (pj_I x3)), (4, .int (pj_I 0))]) rfl (by decide) rfl rfl ?_
      refine pn_sub [0, 1, 2, 3, 4] rfl ?_
      exact s_X3_findSigns_55 hg o0 o1  hk39 h
set_option maxRecDepth 20000 in
set_option maxHeartbeats 4000000 in
theorem s_X3_findSigns_39 {l : Launch} {g : pj_G} (hg : pj_ph g = true) {r0 : Nat} {r1 : Nat} {x2 : Int} {x3 : Int} {M : pj_M} {Q : pj_M → Prop}  (o0 : pj_ob r0 3) (o1 : pj_ob r1 4)  (h : w_X3_findSigns_39 r0 r1  Q x2 x3 M) : pj_R l g mdX3_findSigns pj_T (pj_Zm g mdX3_findSigns (pj_qv Q)) pj_NK 0 0 39 [(0, .ref r0), (1, .ref r1), (2, .int (pj_I x2)), (3, .int (pj_I x3))] [] M :=
  h (fun s => pj_R l g mdX3_findSigns pj_T (pj_Zm g mdX3_findSigns (pj_qv Q)) pj_NK 0 0 39 [(0, .ref r0), (1, .ref r1), (2, .int (pj_I (s.1))), (3, .int (pj_I (s.2.1)))] [] s.2.2) (fun s hs => s_X3_findSigns_39b hg o0 o1  (fun _ _ _ q => q) hs)
set_option maxRecDepth 20000 in
set_option maxHeartbeats 4000000 in
theorem s_X3_findSigns_2b {l : Launch} {g : pj_G} (hg : pj_ph g = true) {r0 : Nat} {r1 : Nat} {x2 : Int} {M : pj_M} {Q : pj_M → Prop}  {k2 : Int → pj_M → Prop} (o0 : pj_ob r0 3) (o1 : pj_ob r1 4)  (hk2 : ∀ (x2 : Int) (M : pj_M), k2 x2 M → pj_R l g mdX3_findSigns pj_T (pj_Zm g mdX3_findSigns (pj_qv Q)) pj_NK 0 0 2 [(0, .ref r0), (1, .ref r1), (2, .int (pj_I x2))] [] M) (h : w_X3_findSigns_2b r0 r1  Q k2 x2 M) : pj_R l g mdX3_findSigns pj_T (pj_Zm g mdX3_findSigns (pj_qv Q)) pj_NK 0 0 2 [(0, .ref r0), (1, .ref r1), (2, .int (pj_I x2))] [] M := by
  unfold w_X3_findSigns_2b at h
  refine pj_iload_n 3 2 rfl rfl rfl rfl ?_
  refine pj_bipush 5 rfl (by decide) rfl ?_
  obtain ⟨q1, h⟩ := h
  refine pj_icmp_ge 35 8 rfl (by decide) rfl q1 (show pj_in 6 by decide) (fun hc => ?_) (fun hc => ?_)
  · replace h := h.1 hc
    refine pj_iconst 36 rfl rfl ?_
    refine pj_istore_n 37 (ls' := [(0, .ref r0), (1, .ref r1), (2, .int (pj_I 1))]) rfl rfl (by decide) rfl rfl ?_
    refine pj_iconst 38 rfl rfl ?_
    refine pj_istore_n 39 (ls' := [(0, .ref r0), (1, .ref r1), (2, .int (pj_I 1)), (3, .int (pj_I 0))]) rfl rfl (by decide) rfl rfl ?_
    refine pn_sub [0, 1, 2, 3] rfl ?_
    exact s_X3_findSigns_39 hg o0 o1   h
  · replace h := h.2 hc
    refine pj_aload_n 9 0 rfl rfl rfl rfl ?_
    refine pn_getr 12 3 1 hg o0 (pr_3_1 o0).2 rfl pfX3_15 rfl rfl ?_
    refine pj_iload_n 13 2 rfl rfl rfl rfl ?_
    refine pj_iconst 14 rfl rfl ?_
    obtain ⟨q12, h⟩ := h
    refine pn_iast 15 6 (pr_3_1 o0)  q12 rfl rfl (fun M13 hM13 => ?_)
    replace h := h M13 hM13
    refine pj_aload_n 16 0 rfl rfl rfl rfl ?_
    refine pn_getr 19 3 2 hg o0 (pr_3_2 o0).2 rfl pfX3_18 rfl rfl ?_
    refine pj_iload_n 20 2 rfl rfl rfl rfl ?_
    refine pj_iconst 21 rfl rfl ?_
    obtain ⟨q14, h⟩ := h
    refine pn_iast 22 6 (pr_3_2 o0)  q14 rfl rfl (fun M15 hM15 => ?_)
    replace h := h M15 hM15
    refine pj_aload_n 23 0 rfl rfl rfl rfl ?_
    refine pn_getr 26 3 3 hg o0 (pr_3_3 o0).2 rfl pfX3_21 rfl rfl ?_
    refine pj_iload_n 27 2 rfl rfl rfl rfl ?_
    refine pj_iconst 28 rfl rfl ?_
    obtain ⟨q16, h⟩ := h
    refine pn_iast 29 6 (pr_3_3 o0)  q16 rfl rfl (fun M17 hM17 => ?_)
    replace h := h M17 hM17
    refine pj_iinc 32 2 (ls' := [(0, .ref r0), (1, .ref r1), (2, .int (pj_I (x2 + 1)))]) rfl rfl (by decide) rfl rfl ?_
    refine pj_goto 2 rfl (by decide) ?_
    refine pn_sub [0, 1, 2] rfl ?_
    exact hk2 _ _ h
set_option maxRecDepth 20000 in
set_option maxHeartbeats 4000000 in
theorem s_X3_findSigns_2 {l : Launch} {g : pj_G} (hg : pj_ph g = true) {r0 : Nat} {r1 : Nat} {x2 : Int} {M : pj_M} {Q : pj_M → Prop}  (o0 : pj_ob r0 3) (o1 : pj_ob r1 4)  (h : w_X3_findSigns_2 r0 r1  Q x2 M) : pj_R l g mdX3_findSigns pj_T (pj_Zm g mdX3_findSigns (pj_qv Q)) pj_NK 0 0 2 [(0, .ref r0), (1, .ref r1), (2, .int (pj_I x2))] [] M :=
  h (fun s => pj_R l g mdX3_findSigns pj_T (pj_Zm g mdX3_findSigns (pj_qv Q)) pj_NK 0 0 2 [(0, .ref r0), (1, .ref r1), (2, .int (pj_I (s.1)))] [] s.2) (fun s hs => s_X3_findSigns_2b hg o0 o1  (fun _ _ q => q) hs)
set_option maxRecDepth 20000 in
set_option maxHeartbeats 4000000 in
theorem s_X3_findSigns {l : Launch} {g : pj_G} (hg : pj_ph g = true) {r0 : Nat} {r1 : Nat} {M : pj_M} {Q : pj_M → Prop} (o0 : pj_ob r0 3) (o1 : pj_ob r1 4) (h : w_X3_findSigns r0 r1 M Q) : pj_S l g mdX3_findSigns [.ref r0, .ref r1] pj_NK M (pj_qv Q) := by
  refine pj_ofR (ls := [(0, .ref r0), (1, .ref r1)]) gcX3_findSigns (by decide) rfl (Nat.le_of_ble_eq_true rfl) rfl ?_
  unfold w_X3_findSigns at h
  refine pj_iconst 1 rfl rfl ?_
  refine pj_istore_n 2 (ls' := [(0, .ref r0), (1, .ref r1), (2, .int (pj_I 0))]) rfl rfl (by decide) rfl rfl ?_
  refine pn_sub [0, 1, 2] rfl ?_
  exact s_X3_findSigns_2 hg o0 o1   h
def w_X3_capitalsIn_4b (r0 : Nat) (x1 : Int)  (Q : Int → pj_M → Prop) (k4 : Int → Int → pj_M → Prop) (x2 : Int) (x3 : Int) (M : pj_M) : Prop :=
  ((0 : Int) ≤ x1 ∧ x1 < 12) ∧ (pj_in x3) ∧ (pj_in (M (pj_rf r0 1) x1)) ∧ (((M (pj_rf r0 1) x1) ≤ x3 → Q x2 M) ∧ (¬ (M (pj_rf r0 1) x1) ≤ x3 → ((0 : Int) ≤ ((x1 * 4) + x3) ∧ ((x1 * 4) + x3) < 48) ∧ ∀ z5 : Int, z5 = (M (pj_rf r0 2) ((x1 * 4) + x3)) → (pj_in z5) ∧ ((z5 < 8 → k4 x2 (x3 + 1) M) ∧ (¬ z5 < 8 → ∀ z7 : Int, z7 = (pj_or x2 (pj_shl 1 (z5 - 8))) → k4 z7 (x3 + 1) M))))
def w_X3_capitalsIn_4 (r0 : Nat) (x1 : Int)  (Q : Int → pj_M → Prop) (x2 : Int) (x3 : Int) (M : pj_M) : Prop := pj_lp (fun (k : Int × Int × pj_M → Prop) (s : Int × Int × pj_M) => w_X3_capitalsIn_4b r0 x1  Q (fun (x2 : Int) (x3 : Int) (M : pj_M) => k (x2, x3, M)) s.1 s.2.1 s.2.2) (x2, x3, M)
def w_X3_capitalsIn (r0 : Nat) (x1 : Int) (M : pj_M) (Q : Int → pj_M → Prop) : Prop :=
  w_X3_capitalsIn_4 r0 x1  Q 0 0 M
set_option maxRecDepth 20000 in
set_option maxHeartbeats 4000000 in
theorem s_X3_capitalsIn_4b {l : Launch} {g : pj_G} (hg : pj_ph g = true) {r0 : Nat} {x1 : Int} {x2 : Int} {x3 : Int} {M : pj_M} {Q : Int → pj_M → Prop}  {k4 : Int → Int → pj_M → Prop} (o0 : pj_ob r0 4)  (hk4 : ∀ (x2 : Int) (x3 : Int) (M : pj_M), k4 x2 x3 M → pj_R l g mdX3_capitalsIn pj_T (pj_Zm g mdX3_capitalsIn (pj_qi Q)) pj_NK 0 0 4 [(0, .ref r0), (1, .int (pj_I x1)), (2, .int (pj_I x2)), (3, .int (pj_I x3))] [] M) (h : w_X3_capitalsIn_4b r0 x1  Q k4 x2 x3 M) : pj_R l g mdX3_capitalsIn pj_T (pj_Zm g mdX3_capitalsIn (pj_qi Q)) pj_NK 0 0 4 [(0, .ref r0), (1, .int (pj_I x1)), (2, .int (pj_I x2)), (3, .int (pj_I x3))] [] M := by
  unfold w_X3_capitalsIn_4b at h
  refine pj_iload_n 5 3 rfl rfl rfl rfl ?_
  refine pj_aload_n 6 0 rfl rfl rfl rfl ?_
  refine pn_getr 9 4 1 hg o0 (pr_4_1 o0).2 rfl pfX3_55 rfl rfl ?_
  refine pj_iload_n 10 1 rfl rfl rfl rfl ?_
  obtain ⟨q1, h⟩ := h
  refine pn_iald 11 12 (pr_4_1 o0) q1 rfl rfl ?_
  obtain ⟨q2, h⟩ := h
  obtain ⟨q3, h⟩ := h
  refine pj_icmp_ge 49 14 rfl (by decide) rfl q2 q3 (fun hc => ?_) (fun hc => ?_)
  · replace h := h.1 hc
    refine pj_iload_n 50 2 rfl rfl rfl rfl ?_
    exact pn_iret h rfl rfl
  · replace h := h.2 hc
    refine pj_aload_n 15 0 rfl rfl rfl rfl ?_
    refine pn_getr 18 4 2 hg o0 (pr_4_2 o0).2 rfl pfX3_58 rfl rfl ?_
    refine pj_iload_n 19 1 rfl rfl rfl rfl ?_
    refine pj_iconst 20 rfl rfl ?_
    refine pj_imul 21 rfl rfl ?_
    refine pj_iload_n 22 3 rfl rfl rfl rfl ?_
    refine pj_iadd 23 rfl rfl ?_
    obtain ⟨q4, h⟩ := h
    refine pn_iald 24 48 (pr_4_2 o0) q4 rfl rfl ?_
    refine pn_nm (fun z5 hz5 => ?_)
    replace h := h z5 hz5
    refine pj_istore 26 (ls' := [(0, .ref r0), (1, .int (pj_I x1)), (2, .int (pj_I x2)), (3, .int (pj_I x3)), (4, .int (pj_I z5))]) rfl (by decide) rfl rfl ?_
    refine pj_iload 28 4 rfl rfl rfl ?_
    refine pj_bipush 30 rfl (by decide) rfl ?_
    obtain ⟨q6, h⟩ := h
    refine pj_icmp_lt 43 33 rfl (by decide) rfl q6 (show pj_in 8 by decide) (fun hc => ?_) (fun hc => ?_)
    · replace h := h.1 hc
      refine pj_iinc 46 3 (ls' := [(0, .ref r0), (1, .int (pj_I x1)), (2, .int (pj_I x2)), (3, .int (pj_I (x3 + 1))), (4, .int (pj_I z5))]) rfl rfl (by decide) rfl rfl ?_
      refine pj_goto 4 rfl (by decide) ?_
      refine pn_sub [0, 1, 2, 3] rfl ?_
      exact hk4 _ _ _ h
    · replace h := h.2 hc
      refine pj_iload_n 34 2 rfl rfl rfl rfl ?_
      refine pj_iconst 35 rfl rfl ?_
      refine pj_iload 37 4 rfl rfl rfl ?_
      refine pj_bipush 39 rfl (by decide) rfl ?_
      refine pj_isub 40 rfl rfl ?_
      refine pj_ishl 41 rfl rfl ?_
      refine pj_ior 42 rfl rfl ?_
      refine pn_nm (fun z7 hz7 => ?_)
      replace h := h z7 hz7
      refine pj_istore_n 43 (ls' := [(0, .ref r0), (1, .int (pj_I x1)), (2, .int (pj_I z7)), (3, .int (pj_I x3)), (4, .int (pj_I z5))]) rfl rfl (by decide) rfl rfl ?_
      refine pj_iinc 46 3 (ls' := [(0, .ref r0), (1, .int (pj_I x1)), (2, .int (pj_I z7)), (3, .int (pj_I (x3 + 1))), (4, .int (pj_I z5))]) rfl rfl (by decide) rfl rfl ?_
      refine pj_goto 4 rfl (by decide) ?_
      refine pn_sub [0, 1, 2, 3] rfl ?_
      exact hk4 _ _ _ h
set_option maxRecDepth 20000 in
set_option maxHeartbeats 4000000 in
theorem s_X3_capitalsIn_4 {l : Launch} {g : pj_G} (hg : pj_ph g = true) {r0 : Nat} {x1 : Int} {x2 : Int} {x3 : Int} {M : pj_M} {Q : Int → pj_M → Prop}  (o0 : pj_ob r0 4)  (h : w_X3_capitalsIn_4 r0 x1  Q x2 x3 M) : pj_R l g mdX3_capitalsIn pj_T (pj_Zm g mdX3_capitalsIn (pj_qi Q)) pj_NK 0 0 4 [(0, .ref r0), (1, .int (pj_I x1)), (2, .int (pj_I x2)), (3, .int (pj_I x3))] [] M :=
  h (fun s => pj_R l g mdX3_capitalsIn pj_T (pj_Zm g mdX3_capitalsIn (pj_qi Q)) pj_NK 0 0 4 [(0, .ref r0), (1, .int (pj_I x1)), (2, .int (pj_I (s.1))), (3, .int (pj_I (s.2.1)))] [] s.2.2) (fun s hs => s_X3_capitalsIn_4b hg o0  (fun _ _ _ q => q) hs)
set_option maxRecDepth 20000 in
set_option maxHeartbeats 4000000 in
theorem s_X3_capitalsIn {l : Launch} {g : pj_G} (hg : pj_ph g = true) {r0 : Nat} {x1 : Int} {M : pj_M} {Q : Int → pj_M → Prop} (o0 : pj_ob r0 4) (h : w_X3_capitalsIn r0 x1 M Q) : pj_S l g mdX3_capitalsIn [.ref r0, .int (pj_I x1)] pj_NK M (pj_qi Q) := by
  refine pj_ofR (ls := [(0, .ref r0), (1, .int (pj_I x1))]) gcX3_capitalsIn (by decide) rfl (Nat.le_of_ble_eq_true rfl) rfl ?_
  unfold w_X3_capitalsIn at h
  refine pj_iconst 1 rfl rfl ?_
  refine pj_istore_n 2 (ls' := [(0, .ref r0), (1, .int (pj_I x1)), (2, .int (pj_I 0))]) rfl rfl (by decide) rfl rfl ?_
  refine pj_iconst 3 rfl rfl ?_
  refine pj_istore_n 4 (ls' := [(0, .ref r0), (1, .int (pj_I x1)), (2, .int (pj_I 0)), (3, .int (pj_I 0))]) rfl rfl (by decide) rfl rfl ?_
  refine pn_sub [0, 1, 2, 3] rfl ?_
  exact s_X3_capitalsIn_4 hg o0   h
def w_X3_findReached_20b (r0 : Nat) (r1 : Nat) (x2 : Int) (k12 : Int → pj_M → Prop) (Q : pj_M → Prop) (k20 : Int → pj_M → Prop) (x3 : Int) (M : pj_M) : Prop :=
  (pj_in x3) ∧ (pj_in (M r1 3)) ∧ (((M r1 3) ≤ x3 → k12 (x2 + 1) M) ∧ (¬ (M r1 3) ≤ x3 → ((0 : Int) ≤ x3 ∧ x3 < 12) ∧ (pj_in (pj_and (pj_shr (M r0 4) (M (pj_rf r1 0) x3)) 1)) ∧ (((pj_and (pj_shr (M r0 4) (M (pj_rf r1 0) x3)) 1) = 0 → k20 (x3 + 1) M) ∧ (¬ (pj_and (pj_shr (M r0 4) (M (pj_rf r1 0) x3)) 1) = 0 → w_X3_capitalsIn r1 x3 M (fun (t8 : Int) (M7 : pj_M) => ∀ M9 : pj_M, M9 = pj_up M7 r0 4 (pj_or (M r0 4) t8) → k20 (x3 + 1) M9)))))
def w_X3_findReached_20 (r0 : Nat) (r1 : Nat) (x2 : Int) (k12 : Int → pj_M → Prop) (Q : pj_M → Prop) (x3 : Int) (M : pj_M) : Prop := pj_lp (fun (k : Int × pj_M → Prop) (s : Int × pj_M) => w_X3_findReached_20b r0 r1 x2 k12 Q (fun (x3 : Int) (M : pj_M) => k (x3, M)) s.1 s.2) (x3, M)
def w_X3_findReached_12b (r0 : Nat) (r1 : Nat)  (Q : pj_M → Prop) (k12 : Int → pj_M → Prop) (x2 : Int) (M : pj_M) : Prop :=
  (pj_in x2) ∧ ((6 ≤ x2 → Q M) ∧ (¬ 6 ≤ x2 → w_X3_findReached_20 r0 r1 x2 k12 Q 0 M))
def w_X3_findReached_12 (r0 : Nat) (r1 : Nat)  (Q : pj_M → Prop) (x2 : Int) (M : pj_M) : Prop := pj_lp (fun (k : Int × pj_M → Prop) (s : Int × pj_M) => w_X3_findReached_12b r0 r1  Q (fun (x2 : Int) (M : pj_M) => k (x2, M)) s.1 s.2) (x2, M)
def w_X3_findReached (r0 : Nat) (r1 : Nat) (M : pj_M) (Q : pj_M → Prop) : Prop :=
  ∀ M1 : pj_M, M1 = pj_up M r0 4 (pj_shl 1 (M r1 4)) → w_X3_findReached_12 r0 r1  Q 0 M1
set_option maxRecDepth 20000 in
set_option maxHeartbeats 4000000 in
theorem s_X3_findReached_20b {l : Launch} {g : pj_G} (hg : pj_ph g = true) {r0 : Nat} {r1 : Nat} {x2 : Int} {x3 : Int} {M : pj_M} {Q : pj_M → Prop} {k12 : Int → pj_M → Prop} {k20 : Int → pj_M → Prop} (o0 : pj_ob r0 3) (o1 : pj_ob r1 4) (hk12 : ∀ (x2 : Int) (M : pj_M), k12 x2 M → pj_R l g mdX3_findReached pj_T (pj_Zm g mdX3_findReached (pj_qv Q)) pj_NK 0 0 12 [(0, .ref r0), (1, .ref r1), (2, .int (pj_I x2))] [] M) (hk20 : ∀ (x3 : Int) (M : pj_M), k20 x3 M → pj_R l g mdX3_findReached pj_T (pj_Zm g mdX3_findReached (pj_qv Q)) pj_NK 0 0 20 [(0, .ref r0), (1, .ref r1), (2, .int (pj_I x2)), (3, .int (pj_I x3))] [] M) (h : w_X3_findReached_20b r0 r1 x2 k12 Q k20 x3 M) : pj_R l g mdX3_findReached pj_T (pj_Zm g mdX3_findReached (pj_qv Q)) pj_NK 0 0 20 [(0, .ref r0), (1, .ref r1), (2, .int (pj_I x2)), (3, .int (pj_I x3))] [] M := by
  unfold w_X3_findReached_20b at h
  refine pj_iload_n 21 3 rfl rfl rfl rfl ?_
  refine pj_aload_n 22 1 rfl rfl rfl rfl ?_
  refine pn_geti 25 4 3 3 o1 rfl pfX3_43 (Or.inl rfl) rfl rfl ?_
  obtain ⟨q3, h⟩ := h
  obtain ⟨q4, h⟩ := h
  refine pj_icmp_ge 64 28 rfl (by decide) rfl q3 q4 (fun hc => ?_) (fun hc => ?_)
  · replace h := h.1 hc
    refine pj_iinc 67 2 (ls' := [(0, .ref r0), (1, .ref r1), (2, .int (pj_I (x2 + 1))), (3, .int (pj_I x3))]) rfl rfl (by decide) rfl rfl ?_
    refine pj_goto 12 rfl (by decide) ?_
    refine pn_sub [0, 1, 2] rfl ?_
    exact hk12 _ _ h
  · replace h := h.2 hc
    refine pj_aload_n 29 0 rfl rfl rfl rfl ?_
    refine pn_geti 32 3 4 4 o0 rfl pfX3_39 (Or.inl rfl) rfl rfl ?_
    refine pj_aload_n 33 1 rfl rfl rfl rfl ?_
    refine pn_getr 36 4 0 hg o1 (pr_4_0 o1).2 rfl pfX3_52 rfl rfl ?_
    refine pj_iload_n 37 3 rfl rfl rfl rfl ?_
    obtain ⟨q5, h⟩ := h
    refine pn_iald 38 12 (pr_4_0 o1) q5 rfl rfl ?_
    refine pj_ishr 39 rfl rfl ?_
    refine pj_iconst 40 rfl rfl ?_
    refine pj_iand 41 rfl rfl ?_
    obtain ⟨q6, h⟩ := h
    refine pj_if_eq 58 44 rfl (by decide) rfl q6  (fun hc => ?_) (fun hc => ?_)
    · replace h := h.1 hc
      refine pj_iinc 61 3 (ls' := [(0, .ref r0), (1, .ref r1), (2, .int (pj_I x2)), (3, .int (pj_I (x3 + 1)))]) rfl rfl (by decide) rfl rfl ?_
      refine pj_goto 20 rfl (by decide) ?_
      refine pn_sub [0, 1, 2, 3] rfl ?_
      exact hk20 _ _ h
    · replace h := h.2 hc
      refine pj_aload_n 45 0 rfl rfl rfl rfl ?_
      refine pj_dup 46 rfl rfl rfl ?_
      refine pn_geti 49 3 4 4 o0 rfl pfX3_39 (Or.inl rfl) rfl rfl ?_
      refine pj_aload_n 50 1 rfl rfl rfl rfl ?_
      refine pj_iload_n 51 3 rfl rfl rfl rfl ?_
      refine pn_callSi 54 [.ref r1, .int (pj_I x3)] [.int (pj_I (M r0 4)), .ref r0] (s_X3_capitalsIn hg o1 h) plX3_81 rfl rfl rfl rfl (Nat.le_of_ble_eq_true rfl) (by decide) (fun t8 M7 h => ?_)
      refine pj_ior 55 rfl rfl ?_
      refine pn_puti 58 3 4 4 o0  rfl pfX3_39 rfl rfl rfl (fun M9 hM9 => ?_)
      replace h := h M9 hM9
      refine pj_iinc 61 3 (ls' := [(0, .ref r0), (1, .ref r1), (2, .int (pj_I x2)), (3, .int (pj_I (x3 + 1)))]) rfl rfl (by decide) rfl rfl ?_
      refine pj_goto 20 rfl (by decide) ?_
      refine pn_sub [0, 1, 2, 3] rfl ?_
      exact hk20 _ _ h
set_option maxRecDepth 20000 in
set_option maxHeartbeats 4000000 in
theorem s_X3_findReached_20 {l : Launch} {g : pj_G} (hg : pj_ph g = true) {r0 : Nat} {r1 : Nat} {x2 : Int} {x3 : Int} {M : pj_M} {Q : pj_M → Prop} {k12 : Int → pj_M → Prop} (o0 : pj_ob r0 3) (o1 : pj_ob r1 4) (hk12 : ∀ (x2 : Int) (M : pj_M), k12 x2 M → pj_R l g mdX3_findReached pj_T (pj_Zm g mdX3_findReached (pj_qv Q)) pj_NK 0 0 12 [(0, .ref r0), (1, .ref r1), (2, .int (pj_I x2))] [] M) (h : w_X3_findReached_20 r0 r1 x2 k12 Q x3 M) : pj_R l g mdX3_findReached pj_T (pj_Zm g mdX3_findReached (pj_qv Q)) pj_NK 0 0 20 [(0, .ref r0), (1, .ref r1), (2, .int (pj_I x2)), (3, .int (pj_I x3))] [] M :=
  h (fun s => pj_R l g mdX3_findReached pj_T (pj_Zm g mdX3_findReached (pj_qv Q)) pj_NK 0 0 20 [(0, .ref r0), (1, .ref r1), (2, .int (pj_I x2)), (3, .int (pj_I (s.1)))] [] s.2) (fun s hs => s_X3_findReached_20b hg o0 o1 hk12 (fun _ _ q => q) hs)
set_option maxRecDepth 20000 in
set_option maxHeartbeats 4000000 in
theorem s_X3_findReached_12b {l : Launch} {g : pj_G} (hg : pj_ph g = true) {r0 : Nat} {r1 : Nat} {x2 : Int} {M : pj_M} {Q : pj_M → Prop}  {k12 : Int → pj_M → Prop} (o0 : pj_ob r0 3) (o1 : pj_ob r1 4)  (hk12 : ∀ (x2 : Int) (M : pj_M), k12 x2 M → pj_R l g mdX3_findReached pj_T (pj_Zm g mdX3_findReached (pj_qv Q)) pj_NK 0 0 12 [(0, .ref r0), (1, .ref r1), (2, .int (pj_I x2))] [] M) (h : w_X3_findReached_12b r0 r1  Q k12 x2 M) : pj_R l g mdX3_findReached pj_T (pj_Zm g mdX3_findReached (pj_qv Q)) pj_NK 0 0 12 [(0, .ref r0), (1, .ref r1), (2, .int (pj_I x2))] [] M := by
  unfold w_X3_findReached_12b at h
  refine pj_iload_n 13 2 rfl rfl rfl rfl ?_
  refine pj_bipush 15 rfl (by decide) rfl ?_
  obtain ⟨q2, h⟩ := h
  refine pj_icmp_ge 70 18 rfl (by decide) rfl q2 (show pj_in 6 by decide) (fun hc => ?_) (fun hc => ?_)
  · replace h := h.1 hc
    exact pn_vret h rfl rfl
  · replace h := h.2 hc
    refine pj_iconst 19 rfl rfl ?_
    refine pj_istore_n 20 (ls' := [(0, .ref r0), (1, .ref r1), (2, .int (pj_I x2)), (3, .int (pj_I 0))]) rfl rfl (by decide) rfl rfl ?_
    refine pn_sub [0, 1, 2, 3] rfl ?_
    exact s_X3_findReached_20 hg o0 o1  hk12 h
set_option maxRecDepth 20000 in
set_option maxHeartbeats 4000000 in
theorem s_X3_findReached_12 {l : Launch} {g : pj_G} (hg : pj_ph g = true) {r0 : Nat} {r1 : Nat} {x2 : Int} {M : pj_M} {Q : pj_M → Prop}  (o0 : pj_ob r0 3) (o1 : pj_ob r1 4)  (h : w_X3_findReached_12 r0 r1  Q x2 M) : pj_R l g mdX3_findReached pj_T (pj_Zm g mdX3_findReached (pj_qv Q)) pj_NK 0 0 12 [(0, .ref r0), (1, .ref r1), (2, .int (pj_I x2))] [] M :=
  h (fun s => pj_R l g mdX3_findReached pj_T (pj_Zm g mdX3_findReached (pj_qv Q)) pj_NK 0 0 12 [(0, .ref r0), (1, .ref r1), (2, .int (pj_I (s.1)))] [] s.2) (fun s hs => s_X3_findReached_12b hg o0 o1  (fun _ _ q => q) hs)
set_option maxRecDepth 20000 in
set_option maxHeartbeats 4000000 in
theorem s_X3_findReached {l : Launch} {g : pj_G} (hg : pj_ph g = true) {r0 : Nat} {r1 : Nat} {M : pj_M} {Q : pj_M → Prop} (o0 : pj_ob r0 3) (o1 : pj_ob r1 4) (h : w_X3_findReached r0 r1 M Q) : pj_S l g mdX3_findReached [.ref r0, .ref r1] pj_NK M (pj_qv Q) := by
  refine pj_ofR (ls := [(0, .ref r0), (1, .ref r1)]) gcX3_findReached (by decide) rfl (Nat.le_of_ble_eq_true rfl) rfl ?_
  unfold w_X3_findReached at h
  refine pj_aload_n 1 0 rfl rfl rfl rfl ?_
  refine pj_iconst 2 rfl rfl ?_
  refine pj_aload_n 3 1 rfl rfl rfl rfl ?_
  refine pn_geti 6 4 4 4 o1 rfl pfX3_78 (Or.inl rfl) rfl rfl ?_
  refine pj_ishl 7 rfl rfl ?_
  refine pn_puti 10 3 4 4 o0  rfl pfX3_39 rfl rfl rfl (fun M1 hM1 => ?_)
  replace h := h M1 hM1
  refine pj_iconst 11 rfl rfl ?_
  refine pj_istore_n 12 (ls' := [(0, .ref r0), (1, .ref r1), (2, .int (pj_I 0))]) rfl rfl (by decide) rfl rfl ?_
  refine pn_sub [0, 1, 2] rfl ?_
  exact s_X3_findReached_12 hg o0 o1   h
def w_X3_learn (r0 : Nat) (r1 : Nat) (M : pj_M) (Q : pj_M → Prop) : Prop :=
  w_X3_findShortest r0 r1 M (fun (M1 : pj_M) => w_X3_findSigns r0 r1 M1 (fun (M3 : pj_M) => w_X3_findReached r0 r1 M3 (fun (M5 : pj_M) => Q M5)))
set_option maxRecDepth 20000 in
set_option maxHeartbeats 4000000 in
theorem s_X3_learn {l : Launch} {g : pj_G} (hg : pj_ph g = true) {r0 : Nat} {r1 : Nat} {M : pj_M} {Q : pj_M → Prop} (o0 : pj_ob r0 3) (o1 : pj_ob r1 4) (h : w_X3_learn r0 r1 M Q) : pj_S l g mdX3_learn [.ref r0, .ref r1] pj_NK M (pj_qv Q) := by
  refine pj_ofR (ls := [(0, .ref r0), (1, .ref r1)]) gcX3_learn (by decide) rfl (Nat.le_of_ble_eq_true rfl) rfl ?_
  unfold w_X3_learn at h
  refine pj_aload_n 1 0 rfl rfl rfl rfl ?_
  refine pj_aload_n 2 1 rfl rfl rfl rfl ?_
  refine pn_callVv 5 3 [.ref r1] [] o0 (s_X3_findShortest hg o0 o1 h) plX3_24 rfl rfl rfl rfl (Nat.le_of_ble_eq_true rfl) (by decide) (fun M1 h => ?_)
  refine pj_aload_n 6 0 rfl rfl rfl rfl ?_
  refine pj_aload_n 7 1 rfl rfl rfl rfl ?_
  refine pn_callVv 10 3 [.ref r1] [] o0 (s_X3_findSigns hg o0 o1 h) plX3_28 rfl rfl rfl rfl (Nat.le_of_ble_eq_true rfl) (by decide) (fun M3 h => ?_)
  refine pj_aload_n 11 0 rfl rfl rfl rfl ?_
  refine pj_aload_n 12 1 rfl rfl rfl rfl ?_
  refine pn_callVv 15 3 [.ref r1] [] o0 (s_X3_findReached hg o0 o1 h) plX3_31 rfl rfl rfl rfl (Nat.le_of_ble_eq_true rfl) (by decide) (fun M5 h => ?_)
  exact pn_vret h rfl rfl
def w_X0_addRule_83 (r0 : Nat) (x1 : Int) (x2 : Int) (x3 : Int) (u0 : Nat) (y1 : Int) (y2 : Int) (k12 : Int → pj_M → Prop) (Q : pj_M → Prop) (M : pj_M) : Prop :=
  ((0 : Int) ≤ y1 ∧ y1 < 52) ∧ ∀ M20 : pj_M, M20 = pj_up M u0 y1 y2 → k12 (x3 + 1) M20
def w_X0_addRule_33 (r0 : Nat) (x1 : Int) (x2 : Int) (x3 : Int) (y0 : Int) (k12 : Int → pj_M → Prop) (Q : pj_M → Prop) (M : pj_M) : Prop :=
  ((0 : Int) ≤ ((x1 * 4) + y0) ∧ ((x1 * 4) + y0) < 48) ∧ ∀ z17 : Int, z17 = (M (pj_rf (pj_rf r0 0) 2) ((x1 * 4) + y0)) → (pj_in z17) ∧ ((8 ≤ z17 → w_X0_addRule_83 r0 x1 x2 x3 (pj_rf r0 4) (((M r0 6) * 4) + x3) ((z17 - 8) + 10) k12 Q M) ∧ (¬ 8 ≤ z17 → w_X0_addRule_83 r0 x1 x2 x3 (pj_rf r0 4) (((M r0 6) * 4) + x3) z17 k12 Q M))
def w_X0_addRule_12b (r0 : Nat) (x1 : Int) (x2 : Int)  (Q : pj_M → Prop) (k12 : Int → pj_M → Prop) (x3 : Int) (M : pj_M) : Prop :=
  (pj_in x3) ∧ (pj_in x2) ∧ ((x2 ≤ x3 → ((0 : Int) ≤ x1 ∧ x1 < 12) ∧ ((0 : Int) ≤ (M r0 6) ∧ (M r0 6) < 13) ∧ ∀ M7 : pj_M, M7 = pj_up M (pj_rf r0 2) (M r0 6) (M (pj_rf (pj_rf r0 0) 0) x1) → ((0 : Int) ≤ (M7 r0 6) ∧ (M7 r0 6) < 13) ∧ ∀ M9 : pj_M, M9 = pj_up M7 (pj_rf r0 3) (M7 r0 6) x2 → w_X3_capitalsIn (pj_rf r0 0) x1 M9 (fun (t11 : Int) (M10 : pj_M) => ((0 : Int) ≤ (M9 r0 6) ∧ (M9 r0 6) < 13) ∧ ∀ M13 : pj_M, M13 = pj_up M10 (pj_rf r0 5) (M9 r0 6) t11 → ∀ M14 : pj_M, M14 = pj_up M13 r0 6 ((M13 r0 6) + 1) → Q M14)) ∧ (¬ x2 ≤ x3 → (pj_in (M r0 8)) ∧ (((M r0 8) = 0 → w_X0_addRule_33 r0 x1 x2 x3 x3 k12 Q M) ∧ (¬ (M r0 8) = 0 → w_X0_addRule_33 r0 x1 x2 x3 ((x2 - 1) - x3) k12 Q M))))
def w_X0_addRule_12 (r0 : Nat) (x1 : Int) (x2 : Int)  (Q : pj_M → Prop) (x3 : Int) (M : pj_M) : Prop := pj_lp (fun (k : Int × pj_M → Prop) (s : Int × pj_M) => w_X0_addRule_12b r0 x1 x2  Q (fun (x3 : Int) (M : pj_M) => k (x3, M)) s.1 s.2) (x3, M)
def w_X0_addRule (r0 : Nat) (x1 : Int) (M : pj_M) (Q : pj_M → Prop) : Prop :=
  ((0 : Int) ≤ x1 ∧ x1 < 12) ∧ ∀ z2 : Int, z2 = (M (pj_rf (pj_rf r0 0) 1) x1) → w_X0_addRule_12 r0 x1 z2  Q 0 M
set_option maxRecDepth 20000 in
set_option maxHeartbeats 4000000 in
theorem s_X0_addRule_83 {l : Launch} {g : pj_G} (hg : pj_ph g = true) {r0 : Nat} {x1 : Int} {x2 : Int} {x3 : Int} {u0 : Nat} {y1 : Int} {y2 : Int} {M : pj_M} {Q : pj_M → Prop} {k12 : Int → pj_M → Prop} (o0 : pj_ob r0 0) (ou0 : pj_ol u0 1 52) (hk12 : ∀ (x3 : Int) (M : pj_M), k12 x3 M → pj_R l g mdX0_addRule pj_T (pj_Zm g mdX0_addRule (pj_qv Q)) pj_NK 0 0 12 [(0, .ref r0), (1, .int (pj_I x1)), (2, .int (pj_I x2)), (3, .int (pj_I x3))] [] M) (h : w_X0_addRule_83 r0 x1 x2 x3 u0 y1 y2 k12 Q M) : pj_R l g mdX0_addRule pj_T (pj_Zm g mdX0_addRule (pj_qv Q)) pj_NK 0 0 83 [(0, .ref r0), (1, .int (pj_I x1)), (2, .int (pj_I x2)), (3, .int (pj_I x3))] [.int (pj_I y2), .int (pj_I y1), .ref u0] M := by
  unfold w_X0_addRule_83 at h
  obtain ⟨q19, h⟩ := h
  refine pn_iast 84 52 ou0  q19 rfl rfl (fun M20 hM20 => ?_)
  replace h := h M20 hM20
  refine pj_iinc 87 3 (ls' := [(0, .ref r0), (1, .int (pj_I x1)), (2, .int (pj_I x2)), (3, .int (pj_I (x3 + 1)))]) rfl rfl (by decide) rfl rfl ?_
  refine pj_goto 12 rfl (by decide) ?_
  refine pn_sub [0, 1, 2, 3] rfl ?_
  exact hk12 _ _ h
set_option maxRecDepth 20000 in
set_option maxHeartbeats 4000000 in
theorem s_X0_addRule_33 {l : Launch} {g : pj_G} (hg : pj_ph g = true) {r0 : Nat} {x1 : Int} {x2 : Int} {x3 : Int} {y0 : Int} {M : pj_M} {Q : pj_M → Prop} {k12 : Int → pj_M → Prop} (o0 : pj_ob r0 0) (hk12 : ∀ (x3 : Int) (M : pj_M), k12 x3 M → pj_R l g mdX0_addRule pj_T (pj_Zm g mdX0_addRule (pj_qv Q)) pj_NK 0 0 12 [(0, .ref r0), (1, .int (pj_I x1)), (2, .int (pj_I x2)), (3, .int (pj_I x3))] [] M) (h : w_X0_addRule_33 r0 x1 x2 x3 y0 k12 Q M) : pj_R l g mdX0_addRule pj_T (pj_Zm g mdX0_addRule (pj_qv Q)) pj_NK 0 0 33 [(0, .ref r0), (1, .int (pj_I x1)), (2, .int (pj_I x2)), (3, .int (pj_I x3))] [.int (pj_I y0)] M := by
  unfold w_X0_addRule_33 at h
  refine pj_istore 35 (ls' := [(0, .ref r0), (1, .int (pj_I x1)), (2, .int (pj_I x2)), (3, .int (pj_I x3)), (4, .int (pj_I y0))]) rfl (by decide) rfl rfl ?_
  refine pj_aload_n 36 0 rfl rfl rfl rfl ?_
  refine pn_getr 39 0 0 hg o0 (pr_0_0 o0).2 rfl pfX0_14 rfl rfl ?_
  refine pn_getr 42 4 2 hg (pr_0_0 o0) (pr_4_2 (pr_0_0 o0)).2 rfl pfX0_103 rfl rfl ?_
  refine pj_iload_n 43 1 rfl rfl rfl rfl ?_
  refine pj_iconst 44 rfl rfl ?_
  refine pj_imul 45 rfl rfl ?_
  refine pj_iload 47 4 rfl rfl rfl ?_
  refine pj_iadd 48 rfl rfl ?_
  obtain ⟨q16, h⟩ := h
  refine pn_iald 49 48 (pr_4_2 (pr_0_0 o0)) q16 rfl rfl ?_
  refine pn_nm (fun z17 hz17 => ?_)
  replace h := h z17 hz17
  refine pj_istore 51 (ls' := [(0, .ref r0), (1, .int (pj_I x1)), (2, .int (pj_I x2)), (3, .int (pj_I x3)), (4, .int (pj_I y0)), (5, .int (pj_I z17))]) rfl (by decide) rfl rfl ?_
  refine pj_aload_n 52 0 rfl rfl rfl rfl ?_
  refine pn_getr 55 0 4 hg o0 (pr_0_4 o0).2 rfl pfX0_32 rfl rfl ?_
  refine pj_aload_n 56 0 rfl rfl rfl rfl ?_
  refine pn_geti 59 0 6 6 o0 rfl pfX0_74 (Or.inl rfl) rfl rfl ?_
  refine pj_iconst 60 rfl rfl ?_
  refine pj_imul 61 rfl rfl ?_
  refine pj_iload_n 62 3 rfl rfl rfl rfl ?_
  refine pj_iadd 63 rfl rfl ?_
  refine pj_iload 65 5 rfl rfl rfl ?_
  refine pj_bipush 67 rfl (by decide) rfl ?_
  obtain ⟨q18, h⟩ := h
  refine pj_icmp_ge 75 70 rfl (by decide) rfl q18 (show pj_in 8 by decide) (fun hc => ?_) (fun hc => ?_)
  · replace h := h.1 hc
    refine pj_iload 77 5 rfl rfl rfl ?_
    refine pj_bipush 79 rfl (by decide) rfl ?_
    refine pj_isub 80 rfl rfl ?_
    refine pj_bipush 82 rfl (by decide) rfl ?_
    refine pj_iadd 83 rfl rfl ?_
    refine pn_sub [0, 1, 2, 3] rfl ?_
    exact s_X0_addRule_83 hg o0 (pr_0_4 o0) hk12 h
  · replace h := h.2 hc
    refine pj_iload 72 5 rfl rfl rfl ?_
    refine pj_goto 83 rfl (by decide) ?_
    refine pn_sub [0, 1, 2, 3] rfl ?_
    exact s_X0_addRule_83 hg o0 (pr_0_4 o0) hk12 h
set_option maxRecDepth 20000 in
set_option maxHeartbeats 4000000 in
theorem s_X0_addRule_12b {l : Launch} {g : pj_G} (hg : pj_ph g = true) {r0 : Nat} {x1 : Int} {x2 : Int} {x3 : Int} {M : pj_M} {Q : pj_M → Prop}  {k12 : Int → pj_M → Prop} (o0 : pj_ob r0 0)  (hk12 : ∀ (x3 : Int) (M : pj_M), k12 x3 M → pj_R l g mdX0_addRule pj_T (pj_Zm g mdX0_addRule (pj_qv Q)) pj_NK 0 0 12 [(0, .ref r0), (1, .int (pj_I x1)), (2, .int (pj_I x2)), (3, .int (pj_I x3))] [] M) (h : w_X0_addRule_12b r0 x1 x2  Q k12 x3 M) : pj_R l g mdX0_addRule pj_T (pj_Zm g mdX0_addRule (pj_qv Q)) pj_NK 0 0 12 [(0, .ref r0), (1, .int (pj_I x1)), (2, .int (pj_I x2)), (3, .int (pj_I x3))] [] M := by
  unfold w_X0_addRule_12b at h
  refine pj_iload_n 13 3 rfl rfl rfl rfl ?_
  refine pj_iload_n 14 2 rfl rfl rfl rfl ?_
  obtain ⟨q3, h⟩ := h
  obtain ⟨q4, h⟩ := h
  refine pj_icmp_ge 90 17 rfl (by decide) rfl q3 q4 (fun hc => ?_) (fun hc => ?_)
  · replace h := h.1 hc
    refine pj_aload_n 91 0 rfl rfl rfl rfl ?_
    refine pn_getr 94 0 2 hg o0 (pr_0_2 o0).2 rfl pfX0_25 rfl rfl ?_
    refine pj_aload_n 95 0 rfl rfl rfl rfl ?_
    refine pn_geti 98 0 6 6 o0 rfl pfX0_74 (Or.inl rfl) rfl rfl ?_
    refine pj_aload_n 99 0 rfl rfl rfl rfl ?_
    refine pn_getr 102 0 0 hg o0 (pr_0_0 o0).2 rfl pfX0_14 rfl rfl ?_
    refine pn_getr 105 4 0 hg (pr_0_0 o0) (pr_4_0 (pr_0_0 o0)).2 rfl pfX0_104 rfl rfl ?_
    refine pj_iload_n 106 1 rfl rfl rfl rfl ?_
    obtain ⟨q5, h⟩ := h
    refine pn_iald 107 12 (pr_4_0 (pr_0_0 o0)) q5 rfl rfl ?_
    obtain ⟨q6, h⟩ := h
    refine pn_iast 108 13 (pr_0_2 o0)  q6 rfl rfl (fun M7 hM7 => ?_)
    replace h := h M7 hM7
    refine pj_aload_n 109 0 rfl rfl rfl rfl ?_
    refine pn_getr 112 0 3 hg o0 (pr_0_3 o0).2 rfl pfX0_29 rfl rfl ?_
    refine pj_aload_n 113 0 rfl rfl rfl rfl ?_
    refine pn_geti 116 0 6 6 o0 rfl pfX0_74 (Or.inl rfl) rfl rfl ?_
    refine pj_iload_n 117 2 rfl rfl rfl rfl ?_
    obtain ⟨q8, h⟩ := h
    refine pn_iast 118 13 (pr_0_3 o0)  q8 rfl rfl (fun M9 hM9 => ?_)
    replace h := h M9 hM9
    refine pj_aload_n 119 0 rfl rfl rfl rfl ?_
    refine pn_getr 122 0 5 hg o0 (pr_0_5 o0).2 rfl pfX0_35 rfl rfl ?_
    refine pj_aload_n 123 0 rfl rfl rfl rfl ?_
    refine pn_geti 126 0 6 6 o0 rfl pfX0_74 (Or.inl rfl) rfl rfl ?_
    refine pj_aload_n 127 0 rfl rfl rfl rfl ?_
    refine pn_getr 130 0 0 hg o0 (pr_0_0 o0).2 rfl pfX0_14 rfl rfl ?_
    refine pj_iload_n 131 1 rfl rfl rfl rfl ?_
    refine pn_callSi 134 [.ref (pj_rf r0 0), .int (pj_I x1)] [.int (pj_I (M9 r0 6)), .ref (pj_rf r0 5)] (s_X3_capitalsIn hg (pr_0_0 o0) h) plX0_105 rfl rfl rfl rfl (Nat.le_of_ble_eq_true rfl) (by decide) (fun t11 M10 h => ?_)
    obtain ⟨q12, h⟩ := h
    refine pn_iast 135 13 (pr_0_5 o0)  q12 rfl rfl (fun M13 hM13 => ?_)
    replace h := h M13 hM13
    refine pj_aload_n 136 0 rfl rfl rfl rfl ?_
    refine pj_dup 137 rfl rfl rfl ?_
    refine pn_geti 140 0 6 6 o0 rfl pfX0_74 (Or.inl rfl) rfl rfl ?_
    refine pj_iconst 141 rfl rfl ?_
    refine pj_iadd 142 rfl rfl ?_
    refine pn_puti 145 0 6 6 o0  rfl pfX0_74 rfl rfl rfl (fun M14 hM14 => ?_)
    replace h := h M14 hM14
    exact pn_vret h rfl rfl
  · replace h := h.2 hc
    refine pj_aload_n 18 0 rfl rfl rfl rfl ?_
    refine pn_geti 21 0 8 8 o0 rfl pfX0_60 (Or.inr rfl) rfl rfl ?_
    obtain ⟨q15, h⟩ := h
    refine pj_if_eq 32 24 rfl (by decide) rfl q15  (fun hc => ?_) (fun hc => ?_)
    · replace h := h.1 hc
      refine pj_iload_n 33 3 rfl rfl rfl rfl ?_
      refine pn_sub [0, 1, 2, 3] rfl ?_
      exact s_X0_addRule_33 hg o0  hk12 h
    · replace h := h.2 hc
      refine pj_iload_n 25 2 rfl rfl rfl rfl ?_
      refine pj_iconst 26 rfl rfl ?_
      refine pj_isub 27 rfl rfl ?_
      refine pj_iload_n 28 3 rfl rfl rfl rfl ?_
      refine pj_isub 29 rfl rfl ?_
      refine pj_goto 33 rfl (by decide) ?_
      refine pn_sub [0, 1, 2, 3] rfl ?_
      exact s_X0_addRule_33 hg o0  hk12 h
set_option maxRecDepth 20000 in
set_option maxHeartbeats 4000000 in
theorem s_X0_addRule_12 {l : Launch} {g : pj_G} (hg : pj_ph g = true) {r0 : Nat} {x1 : Int} {x2 : Int} {x3 : Int} {M : pj_M} {Q : pj_M → Prop}  (o0 : pj_ob r0 0)  (h : w_X0_addRule_12 r0 x1 x2  Q x3 M) : pj_R l g mdX0_addRule pj_T (pj_Zm g mdX0_addRule (pj_qv Q)) pj_NK 0 0 12 [(0, .ref r0), (1, .int (pj_I x1)), (2, .int (pj_I x2)), (3, .int (pj_I x3))] [] M :=
  h (fun s => pj_R l g mdX0_addRule pj_T (pj_Zm g mdX0_addRule (pj_qv Q)) pj_NK 0 0 12 [(0, .ref r0), (1, .int (pj_I x1)), (2, .int (pj_I x2)), (3, .int (pj_I (s.1)))] [] s.2) (fun s hs => s_X0_addRule_12b hg o0  (fun _ _ q => q) hs)
set_option maxRecDepth 20000 in
set_option maxHeartbeats 4000000 in
theorem s_X0_addRule {l : Launch} {g : pj_G} (hg : pj_ph g = true) {r0 : Nat} {x1 : Int} {M : pj_M} {Q : pj_M → Prop} (o0 : pj_ob r0 0) (h : w_X0_addRule r0 x1 M Q) : pj_S l g mdX0_addRule [.ref r0, .int (pj_I x1)] pj_NK M (pj_qv Q) := by
  refine pj_ofR (ls := [(0, .ref r0), (1, .int (pj_I x1))]) gcX0_addRule (by decide) rfl (Nat.le_of_ble_eq_true rfl) rfl ?_
  unfold w_X0_addRule at h
  refine pj_aload_n 1 0 rfl rfl rfl rfl ?_
  refine pn_getr 4 0 0 hg o0 (pr_0_0 o0).2 rfl pfX0_14 rfl rfl ?_
  refine pn_getr 7 4 1 hg (pr_0_0 o0) (pr_4_1 (pr_0_0 o0)).2 rfl pfX0_102 rfl rfl ?_
  refine pj_iload_n 8 1 rfl rfl rfl rfl ?_
  obtain ⟨q1, h⟩ := h
  refine pn_iald 9 12 (pr_4_1 (pr_0_0 o0)) q1 rfl rfl ?_
  refine pn_nm (fun z2 hz2 => ?_)
  replace h := h z2 hz2
  refine pj_istore_n 10 (ls' := [(0, .ref r0), (1, .int (pj_I x1)), (2, .int (pj_I z2))]) rfl rfl (by decide) rfl rfl ?_
  refine pj_iconst 11 rfl rfl ?_
  refine pj_istore_n 12 (ls' := [(0, .ref r0), (1, .int (pj_I x1)), (2, .int (pj_I z2)), (3, .int (pj_I 0))]) rfl rfl (by decide) rfl rfl ?_
  refine pn_sub [0, 1, 2, 3] rfl ?_
  exact s_X0_addRule_12 hg o0   h
def w_X0_addFrame_66 (r0 : Nat) (u0 : Nat) (y1 : Int) (y2 : Int)  (Q : pj_M → Prop) (M : pj_M) : Prop :=
  ((0 : Int) ≤ y1 ∧ y1 < 52) ∧ ∀ M9 : pj_M, M9 = pj_up M u0 y1 y2 → ((0 : Int) ≤ (M9 r0 6) ∧ (M9 r0 6) < 13) ∧ ∀ M11 : pj_M, M11 = pj_up M9 (pj_rf r0 2) (M9 r0 6) 6 → ((0 : Int) ≤ (M11 r0 6) ∧ (M11 r0 6) < 13) ∧ ∀ M13 : pj_M, M13 = pj_up M11 (pj_rf r0 3) (M11 r0 6) 3 → ((0 : Int) ≤ (M13 r0 6) ∧ (M13 r0 6) < 13) ∧ ∀ M15 : pj_M, M15 = pj_up M13 (pj_rf r0 5) (M13 r0 6) (pj_shl 1 (M13 (pj_rf r0 0) 4)) → ∀ M16 : pj_M, M16 = pj_up M15 r0 6 ((M15 r0 6) + 1) → Q M16
def w_X0_addFrame_26 (r0 : Nat) (x1 : Int) (u0 : Nat) (y1 : Int) (y2 : Int)  (Q : pj_M → Prop) (M : pj_M) : Prop :=
  ((0 : Int) ≤ y1 ∧ y1 < 52) ∧ ∀ M4 : pj_M, M4 = pj_up M u0 y1 y2 → ((0 : Int) ≤ (x1 + 1) ∧ (x1 + 1) < 52) ∧ ∀ M6 : pj_M, M6 = pj_up M4 (pj_rf r0 4) (x1 + 1) (10 + (M4 (pj_rf r0 0) 4)) → (pj_in (M6 r0 8)) ∧ (((M6 r0 8) = 0 → w_X0_addFrame_66 r0 (pj_rf r0 4) (x1 + 2) 9  Q M6) ∧ (¬ (M6 r0 8) = 0 → w_X0_addFrame_66 r0 (pj_rf r0 4) (x1 + 2) 8  Q M6))
def w_X0_addFrame (r0 : Nat) (M : pj_M) (Q : pj_M → Prop) : Prop :=
  ∀ z1 : Int, z1 = ((M r0 6) * 4) → (pj_in (M r0 8)) ∧ (((M r0 8) = 0 → w_X0_addFrame_26 r0 z1 (pj_rf r0 4) z1 8  Q M) ∧ (¬ (M r0 8) = 0 → w_X0_addFrame_26 r0 z1 (pj_rf r0 4) z1 9  Q M))
set_option maxRecDepth 20000 in
set_option maxHeartbeats 4000000 in
theorem s_X0_addFrame_66 {l : Launch} {g : pj_G} (hg : pj_ph g = true) {r0 : Nat} {u0 : Nat} {y1 : Int} {y2 : Int} {M : pj_M} {Q : pj_M → Prop}  (o0 : pj_ob r0 0) (ou0 : pj_ol u0 1 52)  (h : w_X0_addFrame_66 r0 u0 y1 y2  Q M) : pj_R l g mdX0_addFrame pj_T (pj_Zm g mdX0_addFrame (pj_qv Q)) pj_NK 0 0 66 [(0, .ref r0)] [.int (pj_I y2), .int (pj_I y1), .ref u0] M := by
  unfold w_X0_addFrame_66 at h
  obtain ⟨q8, h⟩ := h
  refine pn_iast 67 52 ou0  q8 rfl rfl (fun M9 hM9 => ?_)
  replace h := h M9 hM9
  refine pj_aload_n 68 0 rfl rfl rfl rfl ?_
  refine pn_getr 71 0 2 hg o0 (pr_0_2 o0).2 rfl pfX0_25 rfl rfl ?_
  refine pj_aload_n 72 0 rfl rfl rfl rfl ?_
  refine pn_geti 75 0 6 6 o0 rfl pfX0_74 (Or.inl rfl) rfl rfl ?_
  refine pj_bipush 77 rfl (by decide) rfl ?_
  obtain ⟨q10, h⟩ := h
  refine pn_iast 78 13 (pr_0_2 o0)  q10 rfl rfl (fun M11 hM11 => ?_)
  replace h := h M11 hM11
  refine pj_aload_n 79 0 rfl rfl rfl rfl ?_
  refine pn_getr 82 0 3 hg o0 (pr_0_3 o0).2 rfl pfX0_29 rfl rfl ?_
  refine pj_aload_n 83 0 rfl rfl rfl rfl ?_
  refine pn_geti 86 0 6 6 o0 rfl pfX0_74 (Or.inl rfl) rfl rfl ?_
  refine pj_iconst 87 rfl rfl ?_
  obtain ⟨q12, h⟩ := h
  refine pn_iast 88 13 (pr_0_3 o0)  q12 rfl rfl (fun M13 hM13 => ?_)
  replace h := h M13 hM13
  refine pj_aload_n 89 0 rfl rfl rfl rfl ?_
  refine pn_getr 92 0 5 hg o0 (pr_0_5 o0).2 rfl pfX0_35 rfl rfl ?_
  refine pj_aload_n 93 0 rfl rfl rfl rfl ?_
  refine pn_geti 96 0 6 6 o0 rfl pfX0_74 (Or.inl rfl) rfl rfl ?_
  refine pj_iconst 97 rfl rfl ?_
  refine pj_aload_n 98 0 rfl rfl rfl rfl ?_
  refine pn_getr 101 0 0 hg o0 (pr_0_0 o0).2 rfl pfX0_14 rfl rfl ?_
  refine pn_geti 104 4 4 4 (pr_0_0 o0) rfl pfX0_108 (Or.inl rfl) rfl rfl ?_
  refine pj_ishl 105 rfl rfl ?_
  obtain ⟨q14, h⟩ := h
  refine pn_iast 106 13 (pr_0_5 o0)  q14 rfl rfl (fun M15 hM15 => ?_)
  replace h := h M15 hM15
  refine pj_aload_n 107 0 rfl rfl rfl rfl ?_
  refine pj_dup 108 rfl rfl rfl ?_
  refine pn_geti 111 0 6 6 o0 rfl pfX0_74 (Or.inl rfl) rfl rfl ?_
  refine pj_iconst 112 rfl rfl ?_
  refine pj_iadd 113 rfl rfl ?_
  refine pn_puti 116 0 6 6 o0  rfl pfX0_74 rfl rfl rfl (fun M16 hM16 => ?_)
  replace h := h M16 hM16
  exact pn_vret h rfl rfl
set_option maxRecDepth 20000 in
set_option maxHeartbeats 4000000 in
theorem s_X0_addFrame_26 {l : Launch} {g : pj_G} (hg : pj_ph g = true) {r0 : Nat} {x1 : Int} {u0 : Nat} {y1 : Int} {y2 : Int} {M : pj_M} {Q : pj_M → Prop}  (o0 : pj_ob r0 0) (ou0 : pj_ol u0 1 52)  (h : w_X0_addFrame_26 r0 x1 u0 y1 y2  Q M) : pj_R l g mdX0_addFrame pj_T (pj_Zm g mdX0_addFrame (pj_qv Q)) pj_NK 0 0 26 [(0, .ref r0), (1, .int (pj_I x1))] [.int (pj_I y2), .int (pj_I y1), .ref u0] M := by
  unfold w_X0_addFrame_26 at h
  obtain ⟨q3, h⟩ := h
  refine pn_iast 27 52 ou0  q3 rfl rfl (fun M4 hM4 => ?_)
  replace h := h M4 hM4
  refine pj_aload_n 28 0 rfl rfl rfl rfl ?_
  refine pn_getr 31 0 4 hg o0 (pr_0_4 o0).2 rfl pfX0_32 rfl rfl ?_
  refine pj_iload_n 32 1 rfl rfl rfl rfl ?_
  refine pj_iconst 33 rfl rfl ?_
  refine pj_iadd 34 rfl rfl ?_
  refine pj_bipush 36 rfl (by decide) rfl ?_
  refine pj_aload_n 37 0 rfl rfl rfl rfl ?_
  refine pn_getr 40 0 0 hg o0 (pr_0_0 o0).2 rfl pfX0_14 rfl rfl ?_
  refine pn_geti 43 4 4 4 (pr_0_0 o0) rfl pfX0_108 (Or.inl rfl) rfl rfl ?_
  refine pj_iadd 44 rfl rfl ?_
  obtain ⟨q5, h⟩ := h
  refine pn_iast 45 52 (pr_0_4 o0)  q5 rfl rfl (fun M6 hM6 => ?_)
  replace h := h M6 hM6
  refine pj_aload_n 46 0 rfl rfl rfl rfl ?_
  refine pn_getr 49 0 4 hg o0 (pr_0_4 o0).2 rfl pfX0_32 rfl rfl ?_
  refine pj_iload_n 50 1 rfl rfl rfl rfl ?_
  refine pj_iconst 51 rfl rfl ?_
  refine pj_iadd 52 rfl rfl ?_
  refine pj_aload_n 53 0 rfl rfl rfl rfl ?_
  refine pn_geti 56 0 8 8 o0 rfl pfX0_60 (Or.inr rfl) rfl rfl ?_
  obtain ⟨q7, h⟩ := h
  refine pj_if_eq 64 59 rfl (by decide) rfl q7  (fun hc => ?_) (fun hc => ?_)
  · replace h := h.1 hc
    refine pj_bipush 66 rfl (by decide) rfl ?_
    refine pn_sub [0] rfl ?_
    exact s_X0_addFrame_66 hg o0 (pr_0_4 o0)  h
  · replace h := h.2 hc
    refine pj_bipush 61 rfl (by decide) rfl ?_
    refine pj_goto 66 rfl (by decide) ?_
    refine pn_sub [0] rfl ?_
    exact s_X0_addFrame_66 hg o0 (pr_0_4 o0)  h
set_option maxRecDepth 20000 in
set_option maxHeartbeats 4000000 in
theorem s_X0_addFrame {l : Launch} {g : pj_G} (hg : pj_ph g = true) {r0 : Nat} {M : pj_M} {Q : pj_M → Prop} (o0 : pj_ob r0 0) (h : w_X0_addFrame r0 M Q) : pj_S l g mdX0_addFrame [.ref r0] pj_NK M (pj_qv Q) := by
  refine pj_ofR (ls := [(0, .ref r0)]) gcX0_addFrame (by decide) rfl (Nat.le_of_ble_eq_true rfl) rfl ?_
  unfold w_X0_addFrame at h
  refine pj_aload_n 1 0 rfl rfl rfl rfl ?_
  refine pn_geti 4 0 6 6 o0 rfl pfX0_74 (Or.inl rfl) rfl rfl ?_
  refine pj_iconst 5 rfl rfl ?_
  refine pj_imul 6 rfl rfl ?_
  refine pn_nm (fun z1 hz1 => ?_)
  replace h := h z1 hz1
  refine pj_istore_n 7 (ls' := [(0, .ref r0), (1, .int (pj_I z1))]) rfl rfl (by decide) rfl rfl ?_
  refine pj_aload_n 8 0 rfl rfl rfl rfl ?_
  refine pn_getr 11 0 4 hg o0 (pr_0_4 o0).2 rfl pfX0_32 rfl rfl ?_
  refine pj_iload_n 12 1 rfl rfl rfl rfl ?_
  refine pj_aload_n 13 0 rfl rfl rfl rfl ?_
  refine pn_geti 16 0 8 8 o0 rfl pfX0_60 (Or.inr rfl) rfl rfl ?_
  obtain ⟨q2, h⟩ := h
  refine pj_if_eq 24 19 rfl (by decide) rfl q2  (fun hc => ?_) (fun hc => ?_)
  · replace h := h.1 hc
    refine pj_bipush 26 rfl (by decide) rfl ?_
    refine pn_sub [0, 1] rfl ?_
    exact s_X0_addFrame_26 hg o0 (pr_0_4 o0)  h
  · replace h := h.2 hc
    refine pj_bipush 21 rfl (by decide) rfl ?_
    refine pj_goto 26 rfl (by decide) ?_
    refine pn_sub [0, 1] rfl ?_
    exact s_X0_addFrame_26 hg o0 (pr_0_4 o0)  h
def w_X0_stepBack_31b (r0 : Nat) (x2 : Int) (x3 : Int)  (Q : Int → pj_M → Prop) (k31 : Int → Int → pj_M → Prop) (x4 : Int) (x5 : Int) (M : pj_M) : Prop :=
  (pj_in x5) ∧ ((18 ≤ x5 → Q x4 M) ∧ (¬ 18 ≤ x5 → (pj_in (pj_ushr x2 x5)) ∧ (((pj_ushr x2 x5) = 0 → Q x4 M) ∧ (¬ (pj_ushr x2 x5) = 0 → (pj_in (pj_and (pj_ushr x2 x5) 1)) ∧ (((pj_and (pj_ushr x2 x5) 1) = 0 → k31 x4 (x5 + 1) M) ∧ (¬ (pj_and (pj_ushr x2 x5) 1) = 0 → ((0 : Int) ≤ (x3 + x5) ∧ (x3 + x5) < 126) ∧ ∀ z6 : Int, z6 = (pj_or x4 (M (pj_rf r0 13) (x3 + x5))) → k31 z6 (x5 + 1) M))))))
def w_X0_stepBack_31 (r0 : Nat) (x2 : Int) (x3 : Int)  (Q : Int → pj_M → Prop) (x4 : Int) (x5 : Int) (M : pj_M) : Prop := pj_lp (fun (k : Int × Int × pj_M → Prop) (s : Int × Int × pj_M) => w_X0_stepBack_31b r0 x2 x3  Q (fun (x4 : Int) (x5 : Int) (M : pj_M) => k (x4, x5, M)) s.1 s.2.1 s.2.2) (x4, x5, M)
def w_X0_stepBack (r0 : Nat) (x1 : Int) (x2 : Int) (M : pj_M) (Q : Int → pj_M → Prop) : Prop :=
  (pj_in x1) ∧ ((10 ≤ x1 → w_X0_stepBack_31 r0 x2 ((x1 - 10) * 18)  Q 0 0 M) ∧ (¬ 10 ≤ x1 → ((0 : Int) ≤ x1 ∧ x1 < 10) ∧ Q (pj_and (pj_ushr x2 1) (M (pj_rf r0 10) x1)) M))
set_option maxRecDepth 20000 in
set_option maxHeartbeats 4000000 in
theorem s_X0_stepBack_31b {l : Launch} {g : pj_G} (hg : pj_ph g = true) {r0 : Nat} {x2 : Int} {x3 : Int} {x4 : Int} {x5 : Int} {M : pj_M} {Q : Int → pj_M → Prop}  {k31 : Int → Int → pj_M → Prop} (o0 : pj_ob r0 0)  (hk31 : ∀ (x4 : Int) (x5 : Int) (M : pj_M), k31 x4 x5 M → pj_R l g mdX0_stepBack pj_T (pj_Zm g mdX0_stepBack (pj_qi Q)) pj_NK 0 0 31 [(0, .ref r0), (2, .int (pj_I x2)), (3, .int (pj_I x3)), (4, .int (pj_I x4)), (5, .int (pj_I x5))] [] M) (h : w_X0_stepBack_31b r0 x2 x3  Q k31 x4 x5 M) : pj_R l g mdX0_stepBack pj_T (pj_Zm g mdX0_stepBack (pj_qi Q)) pj_NK 0 0 31 [(0, .ref r0), (2, .int (pj_I x2)), (3, .int (pj_I x3)), (4, .int (pj_I x4)), (5, .int (pj_I x5))] [] M := by
  unfold w_X0_stepBack_31b at h
  refine pj_iload 33 4 rfl rfl rfl ?_
  refine pj_bipush 35 rfl (by decide) rfl ?_
  obtain ⟨q2, h⟩ := h
  refine pj_icmp_ge 74 38 rfl (by decide) rfl q2 (show pj_in 18 by decide) (fun hc => ?_) (fun hc => ?_)
  · replace h := h.1 hc
    refine pj_iload 76 3 rfl rfl rfl ?_
    exact pn_iret h rfl rfl
  · replace h := h.2 hc
    refine pj_iload_n 39 1 rfl rfl rfl rfl ?_
    refine pj_iload 41 4 rfl rfl rfl ?_
    refine pj_iushr 42 rfl rfl ?_
    obtain ⟨q3, h⟩ := h
    refine pj_if_eq 74 45 rfl (by decide) rfl q3  (fun hc => ?_) (fun hc => ?_)
    · replace h := h.1 hc
      refine pj_iload 76 3 rfl rfl rfl ?_
      exact pn_iret h rfl rfl
    · replace h := h.2 hc
      refine pj_iload_n 46 1 rfl rfl rfl rfl ?_
      refine pj_iload 48 4 rfl rfl rfl ?_
      refine pj_iushr 49 rfl rfl ?_
      refine pj_iconst 50 rfl rfl ?_
      refine pj_iand 51 rfl rfl ?_
      obtain ⟨q4, h⟩ := h
      refine pj_if_eq 68 54 rfl (by decide) rfl q4  (fun hc => ?_) (fun hc => ?_)
      · replace h := h.1 hc
        refine pj_iinc 71 4 (ls' := [(0, .ref r0), (2, .int (pj_I x2)), (3, .int (pj_I x3)), (4, .int (pj_I x4)), (5, .int (pj_I (x5 + 1)))]) rfl rfl (by decide) rfl rfl ?_
        refine pj_goto 31 rfl (by decide) ?_
        refine pn_sub [0, 1, 2, 3, 4] rfl ?_
        exact hk31 _ _ _ h
      · replace h := h.2 hc
        refine pj_iload 56 3 rfl rfl rfl ?_
        refine pj_aload_n 57 0 rfl rfl rfl rfl ?_
        refine pn_getr 60 0 13 hg o0 (pr_0_13 o0).2 rfl pfX0_44 rfl rfl ?_
        refine pj_iload_n 61 2 rfl rfl rfl rfl ?_
        refine pj_iload 63 4 rfl rfl rfl ?_
        refine pj_iadd 64 rfl rfl ?_
        obtain ⟨q5, h⟩ := h
        refine pn_iald 65 126 (pr_0_13 o0) q5 rfl rfl ?_
        refine pj_ior 66 rfl rfl ?_
        refine pn_nm (fun z6 hz6 => ?_)
        replace h := h z6 hz6
        refine pj_istore 68 (ls' := [(0, .ref r0), (2, .int (pj_I x2)), (3, .int (pj_I x3)), (4, .int (pj_I z6)), (5, .int (pj_I x5))]) rfl (by decide) rfl rfl ?_
        refine pj_iinc 71 4 (ls' := [(0, .ref r0), (2, .int (pj_I x2)), (3, .int (pj_I x3)), (4, .int (pj_I z6)), (5, .int (pj_I (x5 + 1)))]) rfl rfl (by decide) rfl rfl ?_
        refine pj_goto 31 rfl (by decide) ?_
        refine pn_sub [0, 1, 2, 3, 4] rfl ?_
        exact hk31 _ _ _ h
set_option maxRecDepth 20000 in
set_option maxHeartbeats 4000000 in
theorem s_X0_stepBack_31 {l : Launch} {g : pj_G} (hg : pj_ph g = true) {r0 : Nat} {x2 : Int} {x3 : Int} {x4 : Int} {x5 : Int} {M : pj_M} {Q : Int → pj_M → Prop}  (o0 : pj_ob r0 0)  (h : w_X0_stepBack_31 r0 x2 x3  Q x4 x5 M) : pj_R l g mdX0_stepBack pj_T (pj_Zm g mdX0_stepBack (pj_qi Q)) pj_NK 0 0 31 [(0, .ref r0), (2, .int (pj_I x2)), (3, .int (pj_I x3)), (4, .int (pj_I x4)), (5, .int (pj_I x5))] [] M :=
  h (fun s => pj_R l g mdX0_stepBack pj_T (pj_Zm g mdX0_stepBack (pj_qi Q)) pj_NK 0 0 31 [(0, .ref r0), (2, .int (pj_I x2)), (3, .int (pj_I x3)), (4, .int (pj_I (s.1))), (5, .int (pj_I (s.2.1)))] [] s.2.2) (fun s hs => s_X0_stepBack_31b hg o0  (fun _ _ _ q => q) hs)
set_option maxRecDepth 20000 in
set_option maxHeartbeats 4000000 in
theorem s_X0_stepBack {l : Launch} {g : pj_G} (hg : pj_ph g = true) {r0 : Nat} {x1 : Int} {x2 : Int} {M : pj_M} {Q : Int → pj_M → Prop} (o0 : pj_ob r0 0) (h : w_X0_stepBack r0 x1 x2 M Q) : pj_S l g mdX0_stepBack [.ref r0, .int (pj_I x1), .int (pj_I x2)] pj_NK M (pj_qi Q) := by
  refine pj_ofR (ls := [(0, .ref r0), (1, .int (pj_I x1)), (2, .int (pj_I x2))]) gcX0_stepBack (by decide) rfl (Nat.le_of_ble_eq_true rfl) rfl ?_
  unfold w_X0_stepBack at h
  refine pj_iload_n 1 1 rfl rfl rfl rfl ?_
  refine pj_bipush 3 rfl (by decide) rfl ?_
  obtain ⟨q1, h⟩ := h
  refine pj_icmp_ge 17 6 rfl (by decide) rfl q1 (show pj_in 10 by decide) (fun hc => ?_) (fun hc => ?_)
  · replace h := h.1 hc
    refine pj_iload_n 18 1 rfl rfl rfl rfl ?_
    refine pj_bipush 20 rfl (by decide) rfl ?_
    refine pj_isub 21 rfl rfl ?_
    refine pj_bipush 23 rfl (by decide) rfl ?_
    refine pj_imul 24 rfl rfl ?_
    refine pj_istore_n 25 (ls' := [(0, .ref r0), (1, .int (pj_I x1)), (2, .int (pj_I x2)), (3, .int (pj_I ((x1 - 10) * 18)))]) rfl rfl (by decide) rfl rfl ?_
    refine pj_iconst 26 rfl rfl ?_
    refine pj_istore 28 (ls' := [(0, .ref r0), (1, .int (pj_I x1)), (2, .int (pj_I x2)), (3, .int (pj_I ((x1 - 10) * 18))), (4, .int (pj_I 0))]) rfl (by decide) rfl rfl ?_
    refine pj_iconst 29 rfl rfl ?_
    refine pj_istore 31 (ls' := [(0, .ref r0), (1, .int (pj_I x1)), (2, .int (pj_I x2)), (3, .int (pj_I ((x1 - 10) * 18))), (4, .int (pj_I 0)), (5, .int (pj_I 0))]) rfl (by decide) rfl rfl ?_
    refine pn_sub [0, 2, 3, 4, 5] rfl ?_
    exact s_X0_stepBack_31 hg o0   h
  · replace h := h.2 hc
    refine pj_iload_n 7 2 rfl rfl rfl rfl ?_
    refine pj_iconst 8 rfl rfl ?_
    refine pj_iushr 9 rfl rfl ?_
    refine pj_aload_n 10 0 rfl rfl rfl rfl ?_
    refine pn_getr 13 0 10 hg o0 (pr_0_10 o0).2 rfl pfX0_41 rfl rfl ?_
    refine pj_iload_n 14 1 rfl rfl rfl rfl ?_
    obtain ⟨q7, h⟩ := h
    refine pn_iald 15 10 (pr_0_10 o0) q7 rfl rfl ?_
    refine pj_iand 16 rfl rfl ?_
    exact pn_iret h rfl rfl
def w_X0_addWhole_79 (r0 : Nat) (x2 : Int) (x3 : Int) (y0 : Int)  (Q : Int → pj_M → Prop) (M : pj_M) : Prop :=
  ((0 : Int) ≤ x3 ∧ x3 < 126) ∧ ((0 : Int) ≤ x3 ∧ x3 < 126) ∧ ∀ M11 : pj_M, M11 = pj_up M (pj_rf r0 13) x3 (pj_or (M (pj_rf r0 13) x3) x2) → (y0 = 0 ∨ y0 = 1) ∧ Q y0 M11
def w_X0_addWhole_46 (r0 : Nat) (x1 : Int) (x2 : Int)  (Q : Int → pj_M → Prop) (M : pj_M) : Prop :=
  ((0 : Int) ≤ x1 ∧ x1 < 13) ∧ ∀ z6 : Int, z6 = (((M (pj_rf r0 2) x1) * 18) + (M r0 11)) → ((0 : Int) ≤ z6 ∧ z6 < 126) ∧ (pj_in (pj_and x2 (pj_xor (M (pj_rf r0 13) z6) (-1)))) ∧ (((pj_and x2 (pj_xor (M (pj_rf r0 13) z6) (-1))) = 0 → w_X0_addWhole_79 r0 x2 z6 0  Q M) ∧ (¬ (pj_and x2 (pj_xor (M (pj_rf r0 13) z6) (-1))) = 0 → w_X0_addWhole_79 r0 x2 z6 1  Q M))
def w_X0_addWhole_16b (r0 : Nat) (x1 : Int)  (Q : Int → pj_M → Prop) (k16 : Int → Int → pj_M → Prop) (x2 : Int) (x3 : Int) (M : pj_M) : Prop :=
  (pj_in x3) ∧ ((x3 < 0 → w_X0_addWhole_46 r0 x1 x2  Q M) ∧ (¬ x3 < 0 → (pj_in x2) ∧ ((x2 = 0 → w_X0_addWhole_46 r0 x1 x2  Q M) ∧ (¬ x2 = 0 → ((0 : Int) ≤ ((x1 * 4) + x3) ∧ ((x1 * 4) + x3) < 52) ∧ w_X0_stepBack r0 (M (pj_rf r0 4) ((x1 * 4) + x3)) x2 M (fun (t16 : Int) (M15 : pj_M) => k16 t16 (x3 + (-1)) M15)))))
def w_X0_addWhole_16 (r0 : Nat) (x1 : Int)  (Q : Int → pj_M → Prop) (x2 : Int) (x3 : Int) (M : pj_M) : Prop := pj_lp (fun (k : Int × Int × pj_M → Prop) (s : Int × Int × pj_M) => w_X0_addWhole_16b r0 x1  Q (fun (x2 : Int) (x3 : Int) (M : pj_M) => k (x2, x3, M)) s.1 s.2.1 s.2.2) (x2, x3, M)
def w_X0_addWhole (r0 : Nat) (x1 : Int) (M : pj_M) (Q : Int → pj_M → Prop) : Prop :=
  ∀ z1 : Int, z1 = (pj_shl 1 (M r0 11)) → ((0 : Int) ≤ x1 ∧ x1 < 13) ∧ ∀ z3 : Int, z3 = ((M (pj_rf r0 3) x1) - 1) → w_X0_addWhole_16 r0 x1  Q z1 z3 M
set_option maxRecDepth 20000 in
set_option maxHeartbeats 4000000 in
theorem s_X0_addWhole_79 {l : Launch} {g : pj_G} (hg : pj_ph g = true) {r0 : Nat} {x2 : Int} {x3 : Int} {y0 : Int} {M : pj_M} {Q : Int → pj_M → Prop}  (o0 : pj_ob r0 0)  (h : w_X0_addWhole_79 r0 x2 x3 y0  Q M) : pj_R l g mdX0_addWhole pj_T (pj_Zm g mdX0_addWhole (pj_qi Q)) pj_NK 0 0 79 [(0, .ref r0), (2, .int (pj_I x2)), (3, .int (pj_I x3))] [.int (pj_I y0)] M := by
  unfold w_X0_addWhole_79 at h
  refine pj_istore 81 (ls' := [(0, .ref r0), (2, .int (pj_I x2)), (3, .int (pj_I x3)), (4, .int (pj_I y0))]) rfl (by decide) rfl rfl ?_
  refine pj_aload_n 82 0 rfl rfl rfl rfl ?_
  refine pn_getr 85 0 13 hg o0 (pr_0_13 o0).2 rfl pfX0_44 rfl rfl ?_
  refine pj_iload_n 86 2 rfl rfl rfl rfl ?_
  refine pj_dup2 87 rfl rfl rfl rfl ?_
  obtain ⟨q9, h⟩ := h
  refine pn_iald 88 126 (pr_0_13 o0) q9 rfl rfl ?_
  refine pj_iload_n 89 1 rfl rfl rfl rfl ?_
  refine pj_ior 90 rfl rfl ?_
  obtain ⟨q10, h⟩ := h
  refine pn_iast 91 126 (pr_0_13 o0)  q10 rfl rfl (fun M11 hM11 => ?_)
  replace h := h M11 hM11
  refine pj_iload 93 3 rfl rfl rfl ?_
  obtain ⟨q12, h⟩ := h
  exact pn_zret q12 h rfl rfl
set_option maxRecDepth 20000 in
set_option maxHeartbeats 4000000 in
theorem s_X0_addWhole_46 {l : Launch} {g : pj_G} (hg : pj_ph g = true) {r0 : Nat} {x1 : Int} {x2 : Int} {M : pj_M} {Q : Int → pj_M → Prop}  (o0 : pj_ob r0 0)  (h : w_X0_addWhole_46 r0 x1 x2  Q M) : pj_R l g mdX0_addWhole pj_T (pj_Zm g mdX0_addWhole (pj_qi Q)) pj_NK 0 0 46 [(0, .ref r0), (1, .int (pj_I x1)), (2, .int (pj_I x2))] [] M := by
  unfold w_X0_addWhole_46 at h
  refine pj_aload_n 47 0 rfl rfl rfl rfl ?_
  refine pn_getr 50 0 2 hg o0 (pr_0_2 o0).2 rfl pfX0_25 rfl rfl ?_
  refine pj_iload_n 51 1 rfl rfl rfl rfl ?_
  obtain ⟨q5, h⟩ := h
  refine pn_iald 52 13 (pr_0_2 o0) q5 rfl rfl ?_
  refine pj_bipush 54 rfl (by decide) rfl ?_
  refine pj_imul 55 rfl rfl ?_
  refine pj_aload_n 56 0 rfl rfl rfl rfl ?_
  refine pn_geti 59 0 11 11 o0 rfl pfX0_93 (Or.inl rfl) rfl rfl ?_
  refine pj_iadd 60 rfl rfl ?_
  refine pn_nm (fun z6 hz6 => ?_)
  replace h := h z6 hz6
  refine pj_istore_n 61 (ls' := [(0, .ref r0), (1, .int (pj_I x1)), (2, .int (pj_I x2)), (3, .int (pj_I z6))]) rfl rfl (by decide) rfl rfl ?_
  refine pj_iload_n 62 2 rfl rfl rfl rfl ?_
  refine pj_aload_n 63 0 rfl rfl rfl rfl ?_
  refine pn_getr 66 0 13 hg o0 (pr_0_13 o0).2 rfl pfX0_44 rfl rfl ?_
  refine pj_iload_n 67 3 rfl rfl rfl rfl ?_
  obtain ⟨q7, h⟩ := h
  refine pn_iald 68 126 (pr_0_13 o0) q7 rfl rfl ?_
  refine pj_iconst 69 rfl rfl ?_
  refine pj_ixor 70 rfl rfl ?_
  refine pj_iand 71 rfl rfl ?_
  obtain ⟨q8, h⟩ := h
  refine pj_if_eq 78 74 rfl (by decide) rfl q8  (fun hc => ?_) (fun hc => ?_)
  · replace h := h.1 hc
    refine pj_iconst 79 rfl rfl ?_
    refine pn_sub [0, 2, 3] rfl ?_
    exact s_X0_addWhole_79 hg o0   h
  · replace h := h.2 hc
    refine pj_iconst 75 rfl rfl ?_
    refine pj_goto 79 rfl (by decide) ?_
    refine pn_sub [0, 2, 3] rfl ?_
    exact s_X0_addWhole_79 hg o0   h
set_option maxRecDepth 20000 in
set_option maxHeartbeats 4000000 in
theorem s_X0_addWhole_16b {l : Launch} {g : pj_G} (hg : pj_ph g = true) {r0 : Nat} {x1 : Int} {x2 : Int} {x3 : Int} {M : pj_M} {Q : Int → pj_M → Prop}  {k16 : Int → Int → pj_M → Prop} (o0 : pj_ob r0 0)  (hk16 : ∀ (x2 : Int) (x3 : Int) (M : pj_M), k16 x2 x3 M → pj_R l g mdX0_addWhole pj_T (pj_Zm g mdX0_addWhole (pj_qi Q)) pj_NK 0 0 16 [(0, .ref r0), (1, .int (pj_I x1)), (2, .int (pj_I x2)), (3, .int (pj_I x3))] [] M) (h : w_X0_addWhole_16b r0 x1  Q k16 x2 x3 M) : pj_R l g mdX0_addWhole pj_T (pj_Zm g mdX0_addWhole (pj_qi Q)) pj_NK 0 0 16 [(0, .ref r0), (1, .int (pj_I x1)), (2, .int (pj_I x2)), (3, .int (pj_I x3))] [] M := by
  unfold w_X0_addWhole_16b at h
  refine pj_iload_n 17 3 rfl rfl rfl rfl ?_
  obtain ⟨q4, h⟩ := h
  refine pj_if_lt 46 20 rfl (by decide) rfl q4  (fun hc => ?_) (fun hc => ?_)
  · replace h := h.1 hc
    refine pn_sub [0, 1, 2] rfl ?_
    exact s_X0_addWhole_46 hg o0   h
  · replace h := h.2 hc
    refine pj_iload_n 21 2 rfl rfl rfl rfl ?_
    obtain ⟨q13, h⟩ := h
    refine pj_if_eq 46 24 rfl (by decide) rfl q13  (fun hc => ?_) (fun hc => ?_)
    · replace h := h.1 hc
      refine pn_sub [0, 1, 2] rfl ?_
      exact s_X0_addWhole_46 hg o0   h
    · replace h := h.2 hc
      refine pj_aload_n 25 0 rfl rfl rfl rfl ?_
      refine pj_aload_n 26 0 rfl rfl rfl rfl ?_
      refine pn_getr 29 0 4 hg o0 (pr_0_4 o0).2 rfl pfX0_32 rfl rfl ?_
      refine pj_iload_n 30 1 rfl rfl rfl rfl ?_
      refine pj_iconst 31 rfl rfl ?_
      refine pj_imul 32 rfl rfl ?_
      refine pj_iload_n 33 3 rfl rfl rfl rfl ?_
      refine pj_iadd 34 rfl rfl ?_
      obtain ⟨q14, h⟩ := h
      refine pn_iald 35 52 (pr_0_4 o0) q14 rfl rfl ?_
      refine pj_iload_n 36 2 rfl rfl rfl rfl ?_
      refine pn_callVi 39 0 [.int (pj_I (M (pj_rf r0 4) ((x1 * 4) + x3))), .int (pj_I x2)] [] o0 (s_X0_stepBack hg o0 h) plX0_152 rfl rfl rfl rfl (Nat.le_of_ble_eq_true rfl) (by decide) (fun t16 M15 h => ?_)
      refine pj_istore_n 40 (ls' := [(0, .ref r0), (1, .int (pj_I x1)), (2, .int (pj_I t16)), (3, .int (pj_I x3))]) rfl rfl (by decide) rfl rfl ?_
      refine pj_iinc 43 3 (ls' := [(0, .ref r0), (1, .int (pj_I x1)), (2, .int (pj_I t16)), (3, .int (pj_I (x3 + (-1))))]) rfl rfl (by decide) rfl rfl ?_
      refine pj_goto 16 rfl (by decide) ?_
      refine pn_sub [0, 1, 2, 3] rfl ?_
      exact hk16 _ _ _ h
set_option maxRecDepth 20000 in
set_option maxHeartbeats 4000000 in
theorem s_X0_addWhole_16 {l : Launch} {g : pj_G} (hg : pj_ph g = true) {r0 : Nat} {x1 : Int} {x2 : Int} {x3 : Int} {M : pj_M} {Q : Int → pj_M → Prop}  (o0 : pj_ob r0 0)  (h : w_X0_addWhole_16 r0 x1  Q x2 x3 M) : pj_R l g mdX0_addWhole pj_T (pj_Zm g mdX0_addWhole (pj_qi Q)) pj_NK 0 0 16 [(0, .ref r0), (1, .int (pj_I x1)), (2, .int (pj_I x2)), (3, .int (pj_I x3))] [] M :=
  h (fun s => pj_R l g mdX0_addWhole pj_T (pj_Zm g mdX0_addWhole (pj_qi Q)) pj_NK 0 0 16 [(0, .ref r0), (1, .int (pj_I x1)), (2, .int (pj_I (s.1))), (3, .int (pj_I (s.2.1)))] [] s.2.2) (fun s hs => s_X0_addWhole_16b hg o0  (fun _ _ _ q => q) hs)
set_option maxRecDepth 20000 in
set_option maxHeartbeats 4000000 in
theorem s_X0_addWhole {l : Launch} {g : pj_G} (hg : pj_ph g = true) {r0 : Nat} {x1 : Int} {M : pj_M} {Q : Int → pj_M → Prop} (o0 : pj_ob r0 0) (h : w_X0_addWhole r0 x1 M Q) : pj_S l g mdX0_addWhole [.ref r0, .int (pj_I x1)] pj_NK M (pj_qi Q) := by
  refine pj_ofR (ls := [(0, .ref r0), (1, .int (pj_I x1))]) gcX0_addWhole (by decide) rfl (Nat.le_of_ble_eq_true rfl) rfl ?_
  unfold w_X0_addWhole at h
  refine pj_iconst 1 rfl rfl ?_
  refine pj_aload_n 2 0 rfl rfl rfl rfl ?_
  refine pn_geti 5 0 11 11 o0 rfl pfX0_93 (Or.inl rfl) rfl rfl ?_
  refine pj_ishl 6 rfl rfl ?_
  refine pn_nm (fun z1 hz1 => ?_)
  replace h := h z1 hz1
  refine pj_istore_n 7 (ls' := [(0, .ref r0), (1, .int (pj_I x1)), (2, .int (pj_I z1))]) rfl rfl (by decide) rfl rfl ?_
  refine pj_aload_n 8 0 rfl rfl rfl rfl ?_
  refine pn_getr 11 0 3 hg o0 (pr_0_3 o0).2 rfl pfX0_29 rfl rfl ?_
  refine pj_iload_n 12 1 rfl rfl rfl rfl ?_
  obtain ⟨q2, h⟩ := h
  refine pn_iald 13 13 (pr_0_3 o0) q2 rfl rfl ?_
  refine pj_iconst 14 rfl rfl ?_
  refine pj_isub 15 rfl rfl ?_
  refine pn_nm (fun z3 hz3 => ?_)
  replace h := h z3 hz3
  refine pj_istore_n 16 (ls' := [(0, .ref r0), (1, .int (pj_I x1)), (2, .int (pj_I z1)), (3, .int (pj_I z3))]) rfl rfl (by decide) rfl rfl ?_
  refine pn_sub [0, 1, 2, 3] rfl ?_
  exact s_X0_addWhole_16 hg o0   h
