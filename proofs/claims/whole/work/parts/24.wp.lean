def w_X9_standsInChange (x0 : Int) (x1 : Int) (M : pj_M) (Q : Int → pj_M → Prop) : Prop :=
  (pj_in x0) ∧ ((¬ x0 = 0 → (pj_in x0) ∧ ((¬ x0 = 3 → (pj_in x1) ∧ ((x1 < 48 → Q 0 M) ∧ (¬ x1 < 48 → (pj_in x1) ∧ ((57 < x1 → Q 0 M) ∧ (¬ 57 < x1 → Q 1 M))))) ∧ (x0 = 3 → w_X9_isSign x1 M (fun (t6 : Int) (M5 : pj_M) => (t6 = 0 ∨ t6 = 1) ∧ Q t6 M5)))) ∧ (x0 = 0 → Q 1 M))
set_option maxRecDepth 20000 in
set_option maxHeartbeats 4000000 in
theorem s_X9_standsInChange {l : Launch} {g : pj_G} (hg : pj_ph g = true) {x0 : Int} {x1 : Int} {M : pj_M} {Q : Int → pj_M → Prop}  (h : w_X9_standsInChange x0 x1 M Q) : pj_S l g mdX9_standsInChange [.int (pj_I x0), .int (pj_I x1)] pj_NK M (pj_qi Q) := by
  refine pj_ofR (ls := [(0, .int (pj_I x0)), (1, .int (pj_I x1))]) gcX9_standsInChange (by decide) rfl (Nat.le_of_ble_eq_true rfl) rfl ?_
  unfold w_X9_standsInChange at h
  refine pj_iload_n 1 0 rfl rfl rfl rfl ?_
  obtain ⟨q1, h⟩ := h
  refine pj_if_ne 6 4 rfl (by decide) rfl q1  (fun hc => ?_) (fun hc => ?_)
  · replace h := h.1 hc
    refine pj_iload_n 7 0 rfl rfl rfl rfl ?_
    refine pj_iconst 8 rfl rfl ?_
    obtain ⟨q2, h⟩ := h
    refine pj_icmp_ne 18 11 rfl (by decide) rfl q2 (show pj_in 3 by decide) (fun hc => ?_) (fun hc => ?_)
    · replace h := h.1 hc
      refine pj_iload_n 19 1 rfl rfl rfl rfl ?_
      refine pj_bipush 21 rfl (by decide) rfl ?_
      obtain ⟨q3, h⟩ := h
      refine pj_icmp_lt 34 24 rfl (by decide) rfl q3 (show pj_in 48 by decide) (fun hc => ?_) (fun hc => ?_)
      · replace h := h.1 hc
        refine pj_iconst 35 rfl rfl ?_
        exact pn_zret (by decide) h rfl rfl
      · replace h := h.2 hc
        refine pj_iload_n 25 1 rfl rfl rfl rfl ?_
        refine pj_bipush 27 rfl (by decide) rfl ?_
        obtain ⟨q4, h⟩ := h
        refine pj_icmp_gt 34 30 rfl (by decide) rfl q4 (show pj_in 57 by decide) (fun hc => ?_) (fun hc => ?_)
        · replace h := h.1 hc
          refine pj_iconst 35 rfl rfl ?_
          exact pn_zret (by decide) h rfl rfl
        · replace h := h.2 hc
          refine pj_iconst 31 rfl rfl ?_
          refine pj_goto 35 rfl (by decide) ?_
          exact pn_zret (by decide) h rfl rfl
    · replace h := h.2 (Classical.not_not.mp hc)
      refine pj_iload_n 12 1 rfl rfl rfl rfl ?_
      refine pn_callSi 15 [.int (pj_I x1)] [] (s_X9_isSign hg  h) plX9_19 rfl rfl rfl rfl (Nat.le_of_ble_eq_true rfl) (by decide) (fun t6 M5 h => ?_)
      refine pj_goto 35 rfl (by decide) ?_
      obtain ⟨q7, h⟩ := h
      exact pn_zret q7 h rfl rfl
  · replace h := h.2 (Classical.not_not.mp hc)
    refine pj_iconst 5 rfl rfl ?_
    exact pn_zret (by decide) h rfl rfl
def w_X9_misfitOfDay_61 (r0 : Nat) (x2 : Int) (x3 : Int) (y0 : Int) (k6 : Int → Int → Int → pj_M → Prop) (Q : Int → pj_M → Prop) (M : pj_M) : Prop :=
  k6 y0 x2 (x3 + 1) M
def w_X9_misfitOfDay_28 (r0 : Nat) (x1 : Int) (x2 : Int) (x3 : Int) (k6 : Int → Int → Int → pj_M → Prop) (Q : Int → pj_M → Prop) (M : pj_M) : Prop :=
  (pj_in x2) ∧ ((x2 = 0 → Q x3 M) ∧ (¬ x2 = 0 → ((0 : Int) ≤ x3 ∧ x3 < 80) ∧ w_X9_standsInChange x1 (M (pj_rf r0 0) x3) M (fun (t8 : Int) (M7 : pj_M) => (pj_in t8) ∧ ((¬ t8 = 0 → (pj_in (x1 + 1)) ∧ (pj_in x2) ∧ ((¬ (x1 + 1) = x2 → w_X9_misfitOfDay_61 r0 x2 x3 (x1 + 1) k6 Q M7) ∧ ((x1 + 1) = x2 → w_X9_misfitOfDay_61 r0 x2 x3 0 k6 Q M7))) ∧ (t8 = 0 → Q x3 M7)))))
def w_X9_misfitOfDay_6b (r0 : Nat)  (Q : Int → pj_M → Prop) (k6 : Int → Int → Int → pj_M → Prop) (x1 : Int) (x2 : Int) (x3 : Int) (M : pj_M) : Prop :=
  (pj_in x3) ∧ (pj_in (M r0 1)) ∧ (((M r0 1) ≤ x3 → (pj_in x1) ∧ ((¬ x1 = 0 → Q (M r0 1) M) ∧ (x1 = 0 → Q (-1) M))) ∧ (¬ (M r0 1) ≤ x3 → (pj_in x1) ∧ ((¬ x1 = 0 → w_X9_misfitOfDay_28 r0 x1 x2 x3 k6 Q M) ∧ (x1 = 0 → ((0 : Int) ≤ x3 ∧ x3 < 80) ∧ w_X9_lengthOfChange (M (pj_rf r0 0) x3) M (fun (t14 : Int) (M13 : pj_M) => w_X9_misfitOfDay_28 r0 x1 t14 x3 k6 Q M13)))))
def w_X9_misfitOfDay_6 (r0 : Nat)  (Q : Int → pj_M → Prop) (x1 : Int) (x2 : Int) (x3 : Int) (M : pj_M) : Prop := pj_lp (fun (k : Int × Int × Int × pj_M → Prop) (s : Int × Int × Int × pj_M) => w_X9_misfitOfDay_6b r0  Q (fun (x1 : Int) (x2 : Int) (x3 : Int) (M : pj_M) => k (x1, x2, x3, M)) s.1 s.2.1 s.2.2.1 s.2.2.2) (x1, x2, x3, M)
def w_X9_misfitOfDay (r0 : Nat) (M : pj_M) (Q : Int → pj_M → Prop) : Prop :=
  w_X9_misfitOfDay_6 r0  Q 0 0 0 M
set_option maxRecDepth 20000 in
set_option maxHeartbeats 4000000 in
theorem s_X9_misfitOfDay_61 {l : Launch} {g : pj_G} (hg : pj_ph g = true) {r0 : Nat} {x2 : Int} {x3 : Int} {y0 : Int} {M : pj_M} {Q : Int → pj_M → Prop} {k6 : Int → Int → Int → pj_M → Prop} (o0 : pj_ob r0 9) (hk6 : ∀ (x1 : Int) (x2 : Int) (x3 : Int) (M : pj_M), k6 x1 x2 x3 M → pj_R l g mdX9_misfitOfDay pj_T (pj_Zm g mdX9_misfitOfDay (pj_qi Q)) pj_NK 0 0 6 [(0, .ref r0), (1, .int (pj_I x1)), (2, .int (pj_I x2)), (3, .int (pj_I x3))] [] M) (h : w_X9_misfitOfDay_61 r0 x2 x3 y0 k6 Q M) : pj_R l g mdX9_misfitOfDay pj_T (pj_Zm g mdX9_misfitOfDay (pj_qi Q)) pj_NK 0 0 61 [(0, .ref r0), (2, .int (pj_I x2)), (3, .int (pj_I x3))] [.int (pj_I y0)] M := by
  unfold w_X9_misfitOfDay_61 at h
  refine pj_istore_n 62 (ls' := [(0, .ref r0), (1, .int (pj_I y0)), (2, .int (pj_I x2)), (3, .int (pj_I x3))]) rfl rfl (by decide) rfl rfl ?_
  refine pj_iinc 65 3 (ls' := [(0, .ref r0), (1, .int (pj_I y0)), (2, .int (pj_I x2)), (3, .int (pj_I (x3 + 1)))]) rfl rfl (by decide) rfl rfl ?_
  refine pj_goto 6 rfl (by decide) ?_
  refine pn_sub [0, 1, 2, 3] rfl ?_
  exact hk6 _ _ _ _ h
set_option maxRecDepth 20000 in
set_option maxHeartbeats 4000000 in
theorem s_X9_misfitOfDay_28 {l : Launch} {g : pj_G} (hg : pj_ph g = true) {r0 : Nat} {x1 : Int} {x2 : Int} {x3 : Int} {M : pj_M} {Q : Int → pj_M → Prop} {k6 : Int → Int → Int → pj_M → Prop} (o0 : pj_ob r0 9) (hk6 : ∀ (x1 : Int) (x2 : Int) (x3 : Int) (M : pj_M), k6 x1 x2 x3 M → pj_R l g mdX9_misfitOfDay pj_T (pj_Zm g mdX9_misfitOfDay (pj_qi Q)) pj_NK 0 0 6 [(0, .ref r0), (1, .int (pj_I x1)), (2, .int (pj_I x2)), (3, .int (pj_I x3))] [] M) (h : w_X9_misfitOfDay_28 r0 x1 x2 x3 k6 Q M) : pj_R l g mdX9_misfitOfDay pj_T (pj_Zm g mdX9_misfitOfDay (pj_qi Q)) pj_NK 0 0 28 [(0, .ref r0), (1, .int (pj_I x1)), (2, .int (pj_I x2)), (3, .int (pj_I x3))] [] M := by
  unfold w_X9_misfitOfDay_28 at h
  refine pj_iload_n 29 2 rfl rfl rfl rfl ?_
  obtain ⟨q5, h⟩ := h
  refine pj_if_eq 45 32 rfl (by decide) rfl q5  (fun hc => ?_) (fun hc => ?_)
  · replace h := h.1 hc
    refine pj_iload_n 46 3 rfl rfl rfl rfl ?_
    exact pn_iret h rfl rfl
  · replace h := h.2 hc
    refine pj_iload_n 33 1 rfl rfl rfl rfl ?_
    refine pj_aload_n 34 0 rfl rfl rfl rfl ?_
    refine pn_getr 37 9 0 hg o0 (pr_9_0 o0).2 rfl pfX9_9 rfl rfl ?_
    refine pj_iload_n 38 3 rfl rfl rfl rfl ?_
    obtain ⟨q6, h⟩ := h
    refine pn_iald 39 80 (pr_9_0 o0) q6 rfl rfl ?_
    refine pn_callSi 42 [.int (pj_I x1), .int (pj_I (M (pj_rf r0 0) x3))] [] (s_X9_standsInChange hg  h) plX9_45 rfl rfl rfl rfl (Nat.le_of_ble_eq_true rfl) (by decide) (fun t8 M7 h => ?_)
    obtain ⟨q9, h⟩ := h
    refine pj_if_ne 47 45 rfl (by decide) rfl q9  (fun hc => ?_) (fun hc => ?_)
    · replace h := h.1 hc
      refine pj_iload_n 48 1 rfl rfl rfl rfl ?_
      refine pj_iconst 49 rfl rfl ?_
      refine pj_iadd 50 rfl rfl ?_
      refine pj_iload_n 51 2 rfl rfl rfl rfl ?_
      obtain ⟨q10, h⟩ := h
      obtain ⟨q11, h⟩ := h
      refine pj_icmp_ne 58 54 rfl (by decide) rfl q10 q11 (fun hc => ?_) (fun hc => ?_)
      · replace h := h.1 hc
        refine pj_iload_n 59 1 rfl rfl rfl rfl ?_
        refine pj_iconst 60 rfl rfl ?_
        refine pj_iadd 61 rfl rfl ?_
        refine pn_sub [0, 2, 3] rfl ?_
        exact s_X9_misfitOfDay_61 hg o0  hk6 h
      · replace h := h.2 (Classical.not_not.mp hc)
        refine pj_iconst 55 rfl rfl ?_
        refine pj_goto 61 rfl (by decide) ?_
        refine pn_sub [0, 2, 3] rfl ?_
        exact s_X9_misfitOfDay_61 hg o0  hk6 h
    · replace h := h.2 (Classical.not_not.mp hc)
      refine pj_iload_n 46 3 rfl rfl rfl rfl ?_
      exact pn_iret h rfl rfl
set_option maxRecDepth 20000 in
set_option maxHeartbeats 4000000 in
theorem s_X9_misfitOfDay_6b {l : Launch} {g : pj_G} (hg : pj_ph g = true) {r0 : Nat} {x1 : Int} {x2 : Int} {x3 : Int} {M : pj_M} {Q : Int → pj_M → Prop}  {k6 : Int → Int → Int → pj_M → Prop} (o0 : pj_ob r0 9)  (hk6 : ∀ (x1 : Int) (x2 : Int) (x3 : Int) (M : pj_M), k6 x1 x2 x3 M → pj_R l g mdX9_misfitOfDay pj_T (pj_Zm g mdX9_misfitOfDay (pj_qi Q)) pj_NK 0 0 6 [(0, .ref r0), (1, .int (pj_I x1)), (2, .int (pj_I x2)), (3, .int (pj_I x3))] [] M) (h : w_X9_misfitOfDay_6b r0  Q k6 x1 x2 x3 M) : pj_R l g mdX9_misfitOfDay pj_T (pj_Zm g mdX9_misfitOfDay (pj_qi Q)) pj_NK 0 0 6 [(0, .ref r0), (1, .int (pj_I x1)), (2, .int (pj_I x2)), (3, .int (pj_I x3))] [] M := by
  unfold w_X9_misfitOfDay_6b at h
  refine pj_iload_n 7 3 rfl rfl rfl rfl ?_
  refine pj_aload_n 8 0 rfl rfl rfl rfl ?_
  refine pn_geti 11 9 1 1 o0 rfl pfX9_15 (Or.inl rfl) rfl rfl ?_
  obtain ⟨q1, h⟩ := h
  obtain ⟨q2, h⟩ := h
  refine pj_icmp_ge 68 14 rfl (by decide) rfl q1 q2 (fun hc => ?_) (fun hc => ?_)
  · replace h := h.1 hc
    refine pj_iload_n 69 1 rfl rfl rfl rfl ?_
    obtain ⟨q3, h⟩ := h
    refine pj_if_ne 76 72 rfl (by decide) rfl q3  (fun hc => ?_) (fun hc => ?_)
    · replace h := h.1 hc
      refine pj_aload_n 77 0 rfl rfl rfl rfl ?_
      refine pn_geti 80 9 1 1 o0 rfl pfX9_15 (Or.inl rfl) rfl rfl ?_
      exact pn_iret h rfl rfl
    · replace h := h.2 (Classical.not_not.mp hc)
      refine pj_iconst 73 rfl rfl ?_
      refine pj_goto 80 rfl (by decide) ?_
      exact pn_iret h rfl rfl
  · replace h := h.2 hc
    refine pj_iload_n 15 1 rfl rfl rfl rfl ?_
    obtain ⟨q4, h⟩ := h
    refine pj_if_ne 28 18 rfl (by decide) rfl q4  (fun hc => ?_) (fun hc => ?_)
    · replace h := h.1 hc
      refine pn_sub [0, 1, 2, 3] rfl ?_
      exact s_X9_misfitOfDay_28 hg o0  hk6 h
    · replace h := h.2 (Classical.not_not.mp hc)
      refine pj_aload_n 19 0 rfl rfl rfl rfl ?_
      refine pn_getr 22 9 0 hg o0 (pr_9_0 o0).2 rfl pfX9_9 rfl rfl ?_
      refine pj_iload_n 23 3 rfl rfl rfl rfl ?_
      obtain ⟨q12, h⟩ := h
      refine pn_iald 24 80 (pr_9_0 o0) q12 rfl rfl ?_
      refine pn_callSi 27 [.int (pj_I (M (pj_rf r0 0) x3))] [] (s_X9_lengthOfChange hg  h) plX9_41 rfl rfl rfl rfl (Nat.le_of_ble_eq_true rfl) (by decide) (fun t14 M13 h => ?_)
      refine pj_istore_n 28 (ls' := [(0, .ref r0), (1, .int (pj_I x1)), (2, .int (pj_I t14)), (3, .int (pj_I x3))]) rfl rfl (by decide) rfl rfl ?_
      refine pn_sub [0, 1, 2, 3] rfl ?_
      exact s_X9_misfitOfDay_28 hg o0  hk6 h
set_option maxRecDepth 20000 in
set_option maxHeartbeats 4000000 in
theorem s_X9_misfitOfDay_6 {l : Launch} {g : pj_G} (hg : pj_ph g = true) {r0 : Nat} {x1 : Int} {x2 : Int} {x3 : Int} {M : pj_M} {Q : Int → pj_M → Prop}  (o0 : pj_ob r0 9)  (h : w_X9_misfitOfDay_6 r0  Q x1 x2 x3 M) : pj_R l g mdX9_misfitOfDay pj_T (pj_Zm g mdX9_misfitOfDay (pj_qi Q)) pj_NK 0 0 6 [(0, .ref r0), (1, .int (pj_I x1)), (2, .int (pj_I x2)), (3, .int (pj_I x3))] [] M :=
  h (fun s => pj_R l g mdX9_misfitOfDay pj_T (pj_Zm g mdX9_misfitOfDay (pj_qi Q)) pj_NK 0 0 6 [(0, .ref r0), (1, .int (pj_I (s.1))), (2, .int (pj_I (s.2.1))), (3, .int (pj_I (s.2.2.1)))] [] s.2.2.2) (fun s hs => s_X9_misfitOfDay_6b hg o0  (fun _ _ _ _ q => q) hs)
set_option maxRecDepth 20000 in
set_option maxHeartbeats 4000000 in
theorem s_X9_misfitOfDay {l : Launch} {g : pj_G} (hg : pj_ph g = true) {r0 : Nat} {M : pj_M} {Q : Int → pj_M → Prop} (o0 : pj_ob r0 9) (h : w_X9_misfitOfDay r0 M Q) : pj_S l g mdX9_misfitOfDay [.ref r0] pj_NK M (pj_qi Q) := by
  refine pj_ofR (ls := [(0, .ref r0)]) gcX9_misfitOfDay (by decide) rfl (Nat.le_of_ble_eq_true rfl) rfl ?_
  unfold w_X9_misfitOfDay at h
  refine pj_iconst 1 rfl rfl ?_
  refine pj_istore_n 2 (ls' := [(0, .ref r0), (1, .int (pj_I 0))]) rfl rfl (by decide) rfl rfl ?_
  refine pj_iconst 3 rfl rfl ?_
  refine pj_istore_n 4 (ls' := [(0, .ref r0), (1, .int (pj_I 0)), (2, .int (pj_I 0))]) rfl rfl (by decide) rfl rfl ?_
  refine pj_iconst 5 rfl rfl ?_
  refine pj_istore_n 6 (ls' := [(0, .ref r0), (1, .int (pj_I 0)), (2, .int (pj_I 0)), (3, .int (pj_I 0))]) rfl rfl (by decide) rfl rfl ?_
  refine pn_sub [0, 1, 2, 3] rfl ?_
  exact s_X9_misfitOfDay_6 hg o0   h
def w_X9_changeAt (r0 : Nat) (x1 : Int) (r2 : Nat) (M : pj_M) (Q : Int → pj_M → Prop) : Prop :=
  ((0 : Int) ≤ x1 ∧ x1 < 80) ∧ w_X9_lengthOfChange (M (pj_rf r0 0) x1) M (fun (t3 : Int) (M2 : pj_M) => (pj_in t3) ∧ ((t3 = 0 → Q (-1) M2) ∧ (¬ t3 = 0 → (pj_in (x1 + t3)) ∧ (pj_in (M2 r0 1)) ∧ (((x1 + t3) ≤ (M2 r0 1) → ((0 : Int) ≤ (x1 + 1) ∧ (x1 + 1) < 80) ∧ ((0 : Int) ≤ (x1 + 2) ∧ (x1 + 2) < 80) ∧ ∀ z9 : Int, z9 = (((((M2 (pj_rf r0 0) (x1 + 1)) - 48) * 10) + (M2 (pj_rf r0 0) (x1 + 2))) - 48) → (pj_in t3) ∧ ((¬ t3 = 3 → ((0 : Int) ≤ (x1 + 3) ∧ (x1 + 3) < 80) ∧ ∀ z12 : Int, z12 = ((M2 (pj_rf r0 0) (x1 + 3)) - 97) → ((0 : Int) ≤ x1 ∧ x1 < 80) ∧ (pj_in (M2 (pj_rf r0 0) x1)) ∧ ((¬ (M2 (pj_rf r0 0) x1) = 114 → w_X7_insertAt r2 z9 z12 M2 (fun (t16 : Int) (M15 : pj_M) => Q t16 M15)) ∧ ((M2 (pj_rf r0 0) x1) = 114 → w_X7_replaceAt r2 z9 z12 M2 (fun (t18 : Int) (M17 : pj_M) => Q t18 M17)))) ∧ (t3 = 3 → w_X7_removeAt r2 z9 M2 (fun (t20 : Int) (M19 : pj_M) => Q t20 M19)))) ∧ (¬ (x1 + t3) ≤ (M2 r0 1) → Q (-1) M2)))))
set_option maxRecDepth 20000 in
set_option maxHeartbeats 4000000 in
theorem s_X9_changeAt {l : Launch} {g : pj_G} (hg : pj_ph g = true) {r0 : Nat} {x1 : Int} {r2 : Nat} {M : pj_M} {Q : Int → pj_M → Prop} (o0 : pj_ob r0 9) (o2 : pj_ob r2 7) (h : w_X9_changeAt r0 x1 r2 M Q) : pj_S l g mdX9_changeAt [.ref r0, .int (pj_I x1), .ref r2] pj_NK M (pj_qi Q) := by
  refine pj_ofR (ls := [(0, .ref r0), (1, .int (pj_I x1)), (2, .ref r2)]) gcX9_changeAt (by decide) rfl (Nat.le_of_ble_eq_true rfl) rfl ?_
  unfold w_X9_changeAt at h
  refine pj_aload_n 1 0 rfl rfl rfl rfl ?_
  refine pn_getr 4 9 0 hg o0 (pr_9_0 o0).2 rfl pfX9_9 rfl rfl ?_
  refine pj_iload_n 5 1 rfl rfl rfl rfl ?_
  obtain ⟨q1, h⟩ := h
  refine pn_iald 6 80 (pr_9_0 o0) q1 rfl rfl ?_
  refine pn_callSi 9 [.int (pj_I (M (pj_rf r0 0) x1))] [] (s_X9_lengthOfChange hg  h) plX9_41 rfl rfl rfl rfl (Nat.le_of_ble_eq_true rfl) (by decide) (fun t3 M2 h => ?_)
  refine pj_istore_n 10 (ls' := [(0, .ref r0), (1, .int (pj_I x1)), (2, .ref r2), (3, .int (pj_I t3))]) rfl rfl (by decide) rfl rfl ?_
  refine pj_iload_n 11 3 rfl rfl rfl rfl ?_
  obtain ⟨q4, h⟩ := h
  refine pj_if_eq 24 14 rfl (by decide) rfl q4  (fun hc => ?_) (fun hc => ?_)
  · replace h := h.1 hc
    refine pj_iconst 25 rfl rfl ?_
    exact pn_iret h rfl rfl
  · replace h := h.2 hc
    refine pj_iload_n 15 1 rfl rfl rfl rfl ?_
    refine pj_iload_n 16 3 rfl rfl rfl rfl ?_
    refine pj_iadd 17 rfl rfl ?_
    refine pj_aload_n 18 0 rfl rfl rfl rfl ?_
    refine pn_geti 21 9 1 1 o0 rfl pfX9_15 (Or.inl rfl) rfl rfl ?_
    obtain ⟨q5, h⟩ := h
    obtain ⟨q6, h⟩ := h
    refine pj_icmp_le 26 24 rfl (by decide) rfl q5 q6 (fun hc => ?_) (fun hc => ?_)
    · replace h := h.1 hc
      refine pj_aload_n 27 0 rfl rfl rfl rfl ?_
      refine pn_getr 30 9 0 hg o0 (pr_9_0 o0).2 rfl pfX9_9 rfl rfl ?_
      refine pj_iload_n 31 1 rfl rfl rfl rfl ?_
      refine pj_iconst 32 rfl rfl ?_
      refine pj_iadd 33 rfl rfl ?_
      obtain ⟨q7, h⟩ := h
      refine pn_iald 34 80 (pr_9_0 o0) q7 rfl rfl ?_
      refine pj_bipush 36 rfl (by decide) rfl ?_
      refine pj_isub 37 rfl rfl ?_
      refine pj_bipush 39 rfl (by decide) rfl ?_
      refine pj_imul 40 rfl rfl ?_
      refine pj_aload_n 41 0 rfl rfl rfl rfl ?_
      refine pn_getr 44 9 0 hg o0 (pr_9_0 o0).2 rfl pfX9_9 rfl rfl ?_
      refine pj_iload_n 45 1 rfl rfl rfl rfl ?_
      refine pj_iconst 46 rfl rfl ?_
      refine pj_iadd 47 rfl rfl ?_
      obtain ⟨q8, h⟩ := h
      refine pn_iald 48 80 (pr_9_0 o0) q8 rfl rfl ?_
      refine pj_iadd 49 rfl rfl ?_
      refine pj_bipush 51 rfl (by decide) rfl ?_
      refine pj_isub 52 rfl rfl ?_
      refine pn_nm (fun z9 hz9 => ?_)
      replace h := h z9 hz9
      refine pj_istore 54 (ls' := [(0, .ref r0), (1, .int (pj_I x1)), (2, .ref r2), (3, .int (pj_I t3)), (4, .int (pj_I z9))]) rfl (by decide) rfl rfl ?_
      refine pj_iload_n 55 3 rfl rfl rfl rfl ?_
      refine pj_iconst 56 rfl rfl ?_
      obtain ⟨q10, h⟩ := h
      refine pj_icmp_ne 66 59 rfl (by decide) rfl q10 (show pj_in 3 by decide) (fun hc => ?_) (fun hc => ?_)
      · replace h := h.1 hc
        refine pj_aload_n 67 0 rfl rfl rfl rfl ?_
        refine pn_getr 70 9 0 hg o0 (pr_9_0 o0).2 rfl pfX9_9 rfl rfl ?_
        refine pj_iload_n 71 1 rfl rfl rfl rfl ?_
        refine pj_iconst 72 rfl rfl ?_
        refine pj_iadd 73 rfl rfl ?_
        obtain ⟨q11, h⟩ := h
        refine pn_iald 74 80 (pr_9_0 o0) q11 rfl rfl ?_
        refine pj_bipush 76 rfl (by decide) rfl ?_
        refine pj_isub 77 rfl rfl ?_
        refine pn_nm (fun z12 hz12 => ?_)
        replace h := h z12 hz12
        refine pj_istore 79 (ls' := [(0, .ref r0), (1, .int (pj_I x1)), (2, .ref r2), (3, .int (pj_I t3)), (4, .int (pj_I z9)), (5, .int (pj_I z12))]) rfl (by decide) rfl rfl ?_
        refine pj_aload_n 80 0 rfl rfl rfl rfl ?_
        refine pn_getr 83 9 0 hg o0 (pr_9_0 o0).2 rfl pfX9_9 rfl rfl ?_
        refine pj_iload_n 84 1 rfl rfl rfl rfl ?_
        obtain ⟨q13, h⟩ := h
        refine pn_iald 85 80 (pr_9_0 o0) q13 rfl rfl ?_
        refine pj_bipush 87 rfl (by decide) rfl ?_
        obtain ⟨q14, h⟩ := h
        refine pj_icmp_ne 101 90 rfl (by decide) rfl q14 (show pj_in 114 by decide) (fun hc => ?_) (fun hc => ?_)
        · replace h := h.1 hc
          refine pj_aload_n 102 2 rfl rfl rfl rfl ?_
          refine pj_iload 104 4 rfl rfl rfl ?_
          refine pj_iload 106 5 rfl rfl rfl ?_
          refine pn_callVi 109 7 [.int (pj_I z9), .int (pj_I z12)] [] o2 (s_X7_insertAt hg o2 h) plX9_55 rfl rfl rfl rfl (Nat.le_of_ble_eq_true rfl) (by decide) (fun t16 M15 h => ?_)
          exact pn_iret h rfl rfl
        · replace h := h.2 (Classical.not_not.mp hc)
          refine pj_aload_n 91 2 rfl rfl rfl rfl ?_
          refine pj_iload 93 4 rfl rfl rfl ?_
          refine pj_iload 95 5 rfl rfl rfl ?_
          refine pn_callVi 98 7 [.int (pj_I z9), .int (pj_I z12)] [] o2 (s_X7_replaceAt hg o2 h) plX9_52 rfl rfl rfl rfl (Nat.le_of_ble_eq_true rfl) (by decide) (fun t18 M17 h => ?_)
          refine pj_goto 109 rfl (by decide) ?_
          exact pn_iret h rfl rfl
      · replace h := h.2 (Classical.not_not.mp hc)
        refine pj_aload_n 60 2 rfl rfl rfl rfl ?_
        refine pj_iload 62 4 rfl rfl rfl ?_
        refine pn_callVi 65 7 [.int (pj_I z9)] [] o2 (s_X7_removeAt hg o2 h) plX9_49 rfl rfl rfl rfl (Nat.le_of_ble_eq_true rfl) (by decide) (fun t20 M19 h => ?_)
        exact pn_iret h rfl rfl
    · replace h := h.2 hc
      refine pj_iconst 25 rfl rfl ?_
      exact pn_iret h rfl rfl
def w_X10_useLetters_7b (r0 : Nat) (x1 : Int)  (Q : pj_M → Prop) (k7 : Int → pj_M → Prop) (x2 : Int) (M : pj_M) : Prop :=
  (pj_in x2) ∧ ((8 ≤ x2 → Q M) ∧ (¬ 8 ≤ x2 → (pj_in (pj_and (pj_shr x1 x2) 1)) ∧ (((pj_and (pj_shr x1 x2) 1) = 0 → k7 (x2 + 1) M) ∧ (¬ (pj_and (pj_shr x1 x2) 1) = 0 → ((0 : Int) ≤ (M r0 1) ∧ (M r0 1) < 8) ∧ ∀ M5 : pj_M, M5 = pj_up M (pj_rf r0 0) (M r0 1) x2 → ∀ M6 : pj_M, M6 = pj_up M5 r0 1 ((M5 r0 1) + 1) → k7 (x2 + 1) M6))))
def w_X10_useLetters_7 (r0 : Nat) (x1 : Int)  (Q : pj_M → Prop) (x2 : Int) (M : pj_M) : Prop := pj_lp (fun (k : Int × pj_M → Prop) (s : Int × pj_M) => w_X10_useLetters_7b r0 x1  Q (fun (x2 : Int) (M : pj_M) => k (x2, M)) s.1 s.2) (x2, M)
def w_X10_useLetters (r0 : Nat) (x1 : Int) (M : pj_M) (Q : pj_M → Prop) : Prop :=
  ∀ M1 : pj_M, M1 = pj_up M r0 1 0 → w_X10_useLetters_7 r0 x1  Q 0 M1
set_option maxRecDepth 20000 in
set_option maxHeartbeats 4000000 in
theorem s_X10_useLetters_7b {l : Launch} {g : pj_G} (hg : pj_ph g = true) {r0 : Nat} {x1 : Int} {x2 : Int} {M : pj_M} {Q : pj_M → Prop}  {k7 : Int → pj_M → Prop} (o0 : pj_ob r0 10)  (hk7 : ∀ (x2 : Int) (M : pj_M), k7 x2 M → pj_R l g mdX10_useLetters pj_T (pj_Zm g mdX10_useLetters (pj_qv Q)) pj_NK 0 0 7 [(0, .ref r0), (1, .int (pj_I x1)), (2, .int (pj_I x2))] [] M) (h : w_X10_useLetters_7b r0 x1  Q k7 x2 M) : pj_R l g mdX10_useLetters pj_T (pj_Zm g mdX10_useLetters (pj_qv Q)) pj_NK 0 0 7 [(0, .ref r0), (1, .int (pj_I x1)), (2, .int (pj_I x2))] [] M := by
  unfold w_X10_useLetters_7b at h
  refine pj_iload_n 8 2 rfl rfl rfl rfl ?_
  refine pj_bipush 10 rfl (by decide) rfl ?_
  obtain ⟨q2, h⟩ := h
  refine pj_icmp_ge 47 13 rfl (by decide) rfl q2 (show pj_in 8 by decide) (fun hc => ?_) (fun hc => ?_)
  · replace h := h.1 hc
    exact pn_vret h rfl rfl
  · replace h := h.2 hc
    refine pj_iload_n 14 1 rfl rfl rfl rfl ?_
    refine pj_iload_n 15 2 rfl rfl rfl rfl ?_
    refine pj_ishr 16 rfl rfl ?_
    refine pj_iconst 17 rfl rfl ?_
    refine pj_iand 18 rfl rfl ?_
    obtain ⟨q3, h⟩ := h
    refine pj_if_eq 41 21 rfl (by decide) rfl q3  (fun hc => ?_) (fun hc => ?_)
    · replace h := h.1 hc
      refine pj_iinc 44 2 (ls' := [(0, .ref r0), (1, .int (pj_I x1)), (2, .int (pj_I (x2 + 1)))]) rfl rfl (by decide) rfl rfl ?_
      refine pj_goto 7 rfl (by decide) ?_
      refine pn_sub [0, 1, 2] rfl ?_
      exact hk7 _ _ h
    · replace h := h.2 hc
      refine pj_aload_n 22 0 rfl rfl rfl rfl ?_
      refine pn_getr 25 10 0 hg o0 (pr_10_0 o0).2 rfl pfX10_9 rfl rfl ?_
      refine pj_aload_n 26 0 rfl rfl rfl rfl ?_
      refine pn_geti 29 10 1 1 o0 rfl pfX10_18 (Or.inl rfl) rfl rfl ?_
      refine pj_iload_n 30 2 rfl rfl rfl rfl ?_
      obtain ⟨q4, h⟩ := h
      refine pn_iast 31 8 (pr_10_0 o0)  q4 rfl rfl (fun M5 hM5 => ?_)
      replace h := h M5 hM5
      refine pj_aload_n 32 0 rfl rfl rfl rfl ?_
      refine pj_dup 33 rfl rfl rfl ?_
      refine pn_geti 36 10 1 1 o0 rfl pfX10_18 (Or.inl rfl) rfl rfl ?_
      refine pj_iconst 37 rfl rfl ?_
      refine pj_iadd 38 rfl rfl ?_
      refine pn_puti 41 10 1 1 o0  rfl pfX10_18 rfl rfl rfl (fun M6 hM6 => ?_)
      replace h := h M6 hM6
      refine pj_iinc 44 2 (ls' := [(0, .ref r0), (1, .int (pj_I x1)), (2, .int (pj_I (x2 + 1)))]) rfl rfl (by decide) rfl rfl ?_
      refine pj_goto 7 rfl (by decide) ?_
      refine pn_sub [0, 1, 2] rfl ?_
      exact hk7 _ _ h
set_option maxRecDepth 20000 in
set_option maxHeartbeats 4000000 in
theorem s_X10_useLetters_7 {l : Launch} {g : pj_G} (hg : pj_ph g = true) {r0 : Nat} {x1 : Int} {x2 : Int} {M : pj_M} {Q : pj_M → Prop}  (o0 : pj_ob r0 10)  (h : w_X10_useLetters_7 r0 x1  Q x2 M) : pj_R l g mdX10_useLetters pj_T (pj_Zm g mdX10_useLetters (pj_qv Q)) pj_NK 0 0 7 [(0, .ref r0), (1, .int (pj_I x1)), (2, .int (pj_I x2))] [] M :=
  h (fun s => pj_R l g mdX10_useLetters pj_T (pj_Zm g mdX10_useLetters (pj_qv Q)) pj_NK 0 0 7 [(0, .ref r0), (1, .int (pj_I x1)), (2, .int (pj_I (s.1)))] [] s.2) (fun s hs => s_X10_useLetters_7b hg o0  (fun _ _ q => q) hs)
set_option maxRecDepth 20000 in
set_option maxHeartbeats 4000000 in
theorem s_X10_useLetters {l : Launch} {g : pj_G} (hg : pj_ph g = true) {r0 : Nat} {x1 : Int} {M : pj_M} {Q : pj_M → Prop} (o0 : pj_ob r0 10) (h : w_X10_useLetters r0 x1 M Q) : pj_S l g mdX10_useLetters [.ref r0, .int (pj_I x1)] pj_NK M (pj_qv Q) := by
  refine pj_ofR (ls := [(0, .ref r0), (1, .int (pj_I x1))]) gcX10_useLetters (by decide) rfl (Nat.le_of_ble_eq_true rfl) rfl ?_
  unfold w_X10_useLetters at h
  refine pj_aload_n 1 0 rfl rfl rfl rfl ?_
  refine pj_iconst 2 rfl rfl ?_
  refine pn_puti 5 10 1 1 o0  rfl pfX10_18 rfl rfl rfl (fun M1 hM1 => ?_)
  replace h := h M1 hM1
  refine pj_iconst 6 rfl rfl ?_
  refine pj_istore_n 7 (ls' := [(0, .ref r0), (1, .int (pj_I x1)), (2, .int (pj_I 0))]) rfl rfl (by decide) rfl rfl ?_
  refine pn_sub [0, 1, 2] rfl ?_
  exact s_X10_useLetters_7 hg o0   h
def w_X10_howMany_4b (r0 : Nat) (x1 : Int)  (Q : Int → pj_M → Prop) (k4 : Int → Int → pj_M → Prop) (x2 : Int) (x3 : Int) (M : pj_M) : Prop :=
  (pj_in x3) ∧ (pj_in x1) ∧ ((x1 ≤ x3 → Q x2 M) ∧ (¬ x1 ≤ x3 → ∀ z3 : Int, z3 = (x2 * (M r0 1)) → k4 z3 (x3 + 1) M))
def w_X10_howMany_4 (r0 : Nat) (x1 : Int)  (Q : Int → pj_M → Prop) (x2 : Int) (x3 : Int) (M : pj_M) : Prop := pj_lp (fun (k : Int × Int × pj_M → Prop) (s : Int × Int × pj_M) => w_X10_howMany_4b r0 x1  Q (fun (x2 : Int) (x3 : Int) (M : pj_M) => k (x2, x3, M)) s.1 s.2.1 s.2.2) (x2, x3, M)
def w_X10_howMany (r0 : Nat) (x1 : Int) (M : pj_M) (Q : Int → pj_M → Prop) : Prop :=
  w_X10_howMany_4 r0 x1  Q 1 0 M
set_option maxRecDepth 20000 in
set_option maxHeartbeats 4000000 in
theorem s_X10_howMany_4b {l : Launch} {g : pj_G} (hg : pj_ph g = true) {r0 : Nat} {x1 : Int} {x2 : Int} {x3 : Int} {M : pj_M} {Q : Int → pj_M → Prop}  {k4 : Int → Int → pj_M → Prop} (o0 : pj_ob r0 10)  (hk4 : ∀ (x2 : Int) (x3 : Int) (M : pj_M), k4 x2 x3 M → pj_R l g mdX10_howMany pj_T (pj_Zm g mdX10_howMany (pj_qi Q)) pj_NK 0 0 4 [(0, .ref r0), (1, .int (pj_I x1)), (2, .int (pj_I x2)), (3, .int (pj_I x3))] [] M) (h : w_X10_howMany_4b r0 x1  Q k4 x2 x3 M) : pj_R l g mdX10_howMany pj_T (pj_Zm g mdX10_howMany (pj_qi Q)) pj_NK 0 0 4 [(0, .ref r0), (1, .int (pj_I x1)), (2, .int (pj_I x2)), (3, .int (pj_I x3))] [] M := by
  unfold w_X10_howMany_4b at h
  refine pj_iload_n 5 3 rfl rfl rfl rfl ?_
  refine pj_iload_n 6 1 rfl rfl rfl rfl ?_
  obtain ⟨q1, h⟩ := h
  obtain ⟨q2, h⟩ := h
  refine pj_icmp_ge 22 9 rfl (by decide) rfl q1 q2 (fun hc => ?_) (fun hc => ?_)
  · replace h := h.1 hc
    refine pj_iload_n 23 2 rfl rfl rfl rfl ?_
    exact pn_iret h rfl rfl
  · replace h := h.2 hc
    refine pj_iload_n 10 2 rfl rfl rfl rfl ?_
    refine pj_aload_n 11 0 rfl rfl rfl rfl ?_
    refine pn_geti 14 10 1 1 o0 rfl pfX10_18 (Or.inl rfl) rfl rfl ?_
    refine pj_imul 15 rfl rfl ?_
    refine pn_nm (fun z3 hz3 => ?_)
    replace h := h z3 hz3
    refine pj_istore_n 16 (ls' := [(0, .ref r0), (1, .int (pj_I x1)), (2, .int (pj_I z3)), (3, .int (pj_I x3))]) rfl rfl (by decide) rfl rfl ?_
    refine pj_iinc 19 3 (ls' := [(0, .ref r0), (1, .int (pj_I x1)), (2, .int (pj_I z3)), (3, .int (pj_I (x3 + 1)))]) rfl rfl (by decide) rfl rfl ?_
    refine pj_goto 4 rfl (by decide) ?_
    refine pn_sub [0, 1, 2, 3] rfl ?_
    exact hk4 _ _ _ h
set_option maxRecDepth 20000 in
set_option maxHeartbeats 4000000 in
theorem s_X10_howMany_4 {l : Launch} {g : pj_G} (hg : pj_ph g = true) {r0 : Nat} {x1 : Int} {x2 : Int} {x3 : Int} {M : pj_M} {Q : Int → pj_M → Prop}  (o0 : pj_ob r0 10)  (h : w_X10_howMany_4 r0 x1  Q x2 x3 M) : pj_R l g mdX10_howMany pj_T (pj_Zm g mdX10_howMany (pj_qi Q)) pj_NK 0 0 4 [(0, .ref r0), (1, .int (pj_I x1)), (2, .int (pj_I x2)), (3, .int (pj_I x3))] [] M :=
  h (fun s => pj_R l g mdX10_howMany pj_T (pj_Zm g mdX10_howMany (pj_qi Q)) pj_NK 0 0 4 [(0, .ref r0), (1, .int (pj_I x1)), (2, .int (pj_I (s.1))), (3, .int (pj_I (s.2.1)))] [] s.2.2) (fun s hs => s_X10_howMany_4b hg o0  (fun _ _ _ q => q) hs)
set_option maxRecDepth 20000 in
set_option maxHeartbeats 4000000 in
theorem s_X10_howMany {l : Launch} {g : pj_G} (hg : pj_ph g = true) {r0 : Nat} {x1 : Int} {M : pj_M} {Q : Int → pj_M → Prop} (o0 : pj_ob r0 10) (h : w_X10_howMany r0 x1 M Q) : pj_S l g mdX10_howMany [.ref r0, .int (pj_I x1)] pj_NK M (pj_qi Q) := by
  refine pj_ofR (ls := [(0, .ref r0), (1, .int (pj_I x1))]) gcX10_howMany (by decide) rfl (Nat.le_of_ble_eq_true rfl) rfl ?_
  unfold w_X10_howMany at h
  refine pj_iconst 1 rfl rfl ?_
  refine pj_istore_n 2 (ls' := [(0, .ref r0), (1, .int (pj_I x1)), (2, .int (pj_I 1))]) rfl rfl (by decide) rfl rfl ?_
  refine pj_iconst 3 rfl rfl ?_
  refine pj_istore_n 4 (ls' := [(0, .ref r0), (1, .int (pj_I x1)), (2, .int (pj_I 1)), (3, .int (pj_I 0))]) rfl rfl (by decide) rfl rfl ?_
  refine pn_sub [0, 1, 2, 3] rfl ?_
  exact s_X10_howMany_4 hg o0   h
def w_X10_spell_7b (r0 : Nat)  (Q : pj_M → Prop) (k7 : Int → Int → pj_M → Prop) (x3 : Int) (x4 : Int) (M : pj_M) : Prop :=
  (pj_in x4) ∧ ((x4 < 0 → Q M) ∧ (¬ x4 < 0 → (pj_in (M r0 1)) ∧ (((M r0 1) ≤ 0 → k7 x3 (x4 + (-1)) M) ∧ (¬ (M r0 1) ≤ 0 → (pj_in (M r0 1)) ∧ (¬ (M r0 1) = 0) ∧ ((0 : Int) ≤ (pj_rem x3 (M r0 1)) ∧ (pj_rem x3 (M r0 1)) < 8) ∧ ((0 : Int) ≤ x4 ∧ x4 < 5) ∧ ∀ M7 : pj_M, M7 = pj_up M (pj_rf r0 2) x4 (M (pj_rf r0 0) (pj_rem x3 (M r0 1))) → (pj_in (M7 r0 1)) ∧ (¬ (M7 r0 1) = 0) ∧ ∀ z10 : Int, z10 = (pj_div x3 (M7 r0 1)) → k7 z10 (x4 + (-1)) M7))))
def w_X10_spell_7 (r0 : Nat)  (Q : pj_M → Prop) (x3 : Int) (x4 : Int) (M : pj_M) : Prop := pj_lp (fun (k : Int × Int × pj_M → Prop) (s : Int × Int × pj_M) => w_X10_spell_7b r0  Q (fun (x3 : Int) (x4 : Int) (M : pj_M) => k (x3, x4, M)) s.1 s.2.1 s.2.2) (x3, x4, M)
def w_X10_spell (r0 : Nat) (x1 : Int) (x2 : Int) (M : pj_M) (Q : pj_M → Prop) : Prop :=
  w_X10_spell_7 r0  Q x1 (x2 - 1) M
set_option maxRecDepth 20000 in
set_option maxHeartbeats 4000000 in
theorem s_X10_spell_7b {l : Launch} {g : pj_G} (hg : pj_ph g = true) {r0 : Nat} {x3 : Int} {x4 : Int} {M : pj_M} {Q : pj_M → Prop}  {k7 : Int → Int → pj_M → Prop} (o0 : pj_ob r0 10)  (hk7 : ∀ (x3 : Int) (x4 : Int) (M : pj_M), k7 x3 x4 M → pj_R l g mdX10_spell pj_T (pj_Zm g mdX10_spell (pj_qv Q)) pj_NK 0 0 7 [(0, .ref r0), (3, .int (pj_I x3)), (4, .int (pj_I x4))] [] M) (h : w_X10_spell_7b r0  Q k7 x3 x4 M) : pj_R l g mdX10_spell pj_T (pj_Zm g mdX10_spell (pj_qv Q)) pj_NK 0 0 7 [(0, .ref r0), (3, .int (pj_I x3)), (4, .int (pj_I x4))] [] M := by
  unfold w_X10_spell_7b at h
  refine pj_iload 9 2 rfl rfl rfl ?_
  obtain ⟨q1, h⟩ := h
  refine pj_if_lt 50 12 rfl (by decide) rfl q1  (fun hc => ?_) (fun hc => ?_)
  · replace h := h.1 hc
    exact pn_vret h rfl rfl
  · replace h := h.2 hc
    refine pj_aload_n 13 0 rfl rfl rfl rfl ?_
    refine pn_geti 16 10 1 1 o0 rfl pfX10_18 (Or.inl rfl) rfl rfl ?_
    obtain ⟨q2, h⟩ := h
    refine pj_if_le 44 19 rfl (by decide) rfl q2  (fun hc => ?_) (fun hc => ?_)
    · replace h := h.1 hc
      refine pj_iinc 47 2 (ls' := [(0, .ref r0), (3, .int (pj_I x3)), (4, .int (pj_I (x4 + (-1))))]) rfl rfl (by decide) rfl rfl ?_
      refine pj_goto 7 rfl (by decide) ?_
      refine pn_sub [0, 1, 2] rfl ?_
      exact hk7 _ _ _ h
    · replace h := h.2 hc
      refine pj_aload_n 20 0 rfl rfl rfl rfl ?_
      refine pn_getr 23 10 2 hg o0 (pr_10_2 o0).2 rfl pfX10_15 rfl rfl ?_
      refine pj_iload 25 2 rfl rfl rfl ?_
      refine pj_aload_n 26 0 rfl rfl rfl rfl ?_
      refine pn_getr 29 10 0 hg o0 (pr_10_0 o0).2 rfl pfX10_9 rfl rfl ?_
      refine pj_iload_n 30 1 rfl rfl rfl rfl ?_
      refine pj_aload_n 31 0 rfl rfl rfl rfl ?_
      refine pn_geti 34 10 1 1 o0 rfl pfX10_18 (Or.inl rfl) rfl rfl ?_
      obtain ⟨q3, h⟩ := h
      obtain ⟨q4, h⟩ := h
      refine pj_irem 35 rfl rfl q3 q4 ?_
      obtain ⟨q5, h⟩ := h
      refine pn_iald 36 8 (pr_10_0 o0) q5 rfl rfl ?_
      obtain ⟨q6, h⟩ := h
      refine pn_iast 37 5 (pr_10_2 o0)  q6 rfl rfl (fun M7 hM7 => ?_)
      replace h := h M7 hM7
      refine pj_iload_n 38 1 rfl rfl rfl rfl ?_
      refine pj_aload_n 39 0 rfl rfl rfl rfl ?_
      refine pn_geti 42 10 1 1 o0 rfl pfX10_18 (Or.inl rfl) rfl rfl ?_
      obtain ⟨q8, h⟩ := h
      obtain ⟨q9, h⟩ := h
      refine pj_idiv 43 rfl rfl q8 q9 ?_
      refine pn_nm (fun z10 hz10 => ?_)
      replace h := h z10 hz10
      refine pj_istore_n 44 (ls' := [(0, .ref r0), (3, .int (pj_I z10)), (4, .int (pj_I x4))]) rfl rfl (by decide) rfl rfl ?_
      refine pj_iinc 47 2 (ls' := [(0, .ref r0), (3, .int (pj_I z10)), (4, .int (pj_I (x4 + (-1))))]) rfl rfl (by decide) rfl rfl ?_
      refine pj_goto 7 rfl (by decide) ?_
      refine pn_sub [0, 1, 2] rfl ?_
      exact hk7 _ _ _ h
set_option maxRecDepth 20000 in
set_option maxHeartbeats 4000000 in
theorem s_X10_spell_7 {l : Launch} {g : pj_G} (hg : pj_ph g = true) {r0 : Nat} {x3 : Int} {x4 : Int} {M : pj_M} {Q : pj_M → Prop}  (o0 : pj_ob r0 10)  (h : w_X10_spell_7 r0  Q x3 x4 M) : pj_R l g mdX10_spell pj_T (pj_Zm g mdX10_spell (pj_qv Q)) pj_NK 0 0 7 [(0, .ref r0), (3, .int (pj_I x3)), (4, .int (pj_I x4))] [] M :=
  h (fun s => pj_R l g mdX10_spell pj_T (pj_Zm g mdX10_spell (pj_qv Q)) pj_NK 0 0 7 [(0, .ref r0), (3, .int (pj_I (s.1))), (4, .int (pj_I (s.2.1)))] [] s.2.2) (fun s hs => s_X10_spell_7b hg o0  (fun _ _ _ q => q) hs)
set_option maxRecDepth 20000 in
set_option maxHeartbeats 4000000 in
theorem s_X10_spell {l : Launch} {g : pj_G} (hg : pj_ph g = true) {r0 : Nat} {x1 : Int} {x2 : Int} {M : pj_M} {Q : pj_M → Prop} (o0 : pj_ob r0 10) (h : w_X10_spell r0 x1 x2 M Q) : pj_S l g mdX10_spell [.ref r0, .int (pj_I x1), .int (pj_I x2)] pj_NK M (pj_qv Q) := by
  refine pj_ofR (ls := [(0, .ref r0), (1, .int (pj_I x1)), (2, .int (pj_I x2))]) gcX10_spell (by decide) rfl (Nat.le_of_ble_eq_true rfl) rfl ?_
  unfold w_X10_spell at h
  refine pj_iload_n 1 1 rfl rfl rfl rfl ?_
  refine pj_istore_n 2 (ls' := [(0, .ref r0), (1, .int (pj_I x1)), (2, .int (pj_I x2)), (3, .int (pj_I x1))]) rfl rfl (by decide) rfl rfl ?_
  refine pj_iload_n 3 2 rfl rfl rfl rfl ?_
  refine pj_iconst 4 rfl rfl ?_
  refine pj_isub 5 rfl rfl ?_
  refine pj_istore 7 (ls' := [(0, .ref r0), (1, .int (pj_I x1)), (2, .int (pj_I x2)), (3, .int (pj_I x1)), (4, .int (pj_I (x2 - 1)))]) rfl (by decide) rfl rfl ?_
  refine pn_sub [0, 3, 4] rfl ?_
  exact s_X10_spell_7 hg o0   h
def w_X11_sign (r0 : Nat) (x1 : Int) (M : pj_M) (Q : Int → pj_M → Prop) : Prop :=
  w_X9_add (pj_rf r0 0) x1 M (fun (t2 : Int) (M1 : pj_M) => (pj_in t2) ∧ ((t2 = 0 → Q (-1) M1) ∧ (¬ t2 = 0 → Q (M1 (pj_rf r0 0) 1) M1)))
set_option maxRecDepth 20000 in
set_option maxHeartbeats 4000000 in
theorem s_X11_sign {l : Launch} {g : pj_G} (hg : pj_ph g = true) {r0 : Nat} {x1 : Int} {M : pj_M} {Q : Int → pj_M → Prop} (o0 : pj_ob r0 11) (h : w_X11_sign r0 x1 M Q) : pj_S l g mdX11_sign [.ref r0, .int (pj_I x1)] pj_NK M (pj_qi Q) := by
  refine pj_ofR (ls := [(0, .ref r0), (1, .int (pj_I x1))]) gcX11_sign (by decide) rfl (Nat.le_of_ble_eq_true rfl) rfl ?_
  unfold w_X11_sign at h
  refine pj_aload_n 1 0 rfl rfl rfl rfl ?_
  refine pn_getr 4 11 0 hg o0 (pr_11_0 o0).2 rfl pfX11_12 rfl rfl ?_
  refine pj_iload_n 5 1 rfl rfl rfl rfl ?_
  refine pn_callVi 8 9 [.int (pj_I x1)] [] (pr_11_0 o0) (s_X9_add hg (pr_11_0 o0) h) plX11_93 rfl rfl rfl rfl (Nat.le_of_ble_eq_true rfl) (by decide) (fun t2 M1 h => ?_)
  obtain ⟨q3, h⟩ := h
  refine pj_if_eq 21 11 rfl (by decide) rfl q3  (fun hc => ?_) (fun hc => ?_)
  · replace h := h.1 hc
    refine pj_iconst 22 rfl rfl ?_
    exact pn_iret h rfl rfl
  · replace h := h.2 hc
    refine pj_aload_n 12 0 rfl rfl rfl rfl ?_
    refine pn_getr 15 11 0 hg o0 (pr_11_0 o0).2 rfl pfX11_12 rfl rfl ?_
    refine pn_geti 18 9 1 1 (pr_11_0 o0) rfl pfX11_97 (Or.inl rfl) rfl rfl ?_
    refine pj_goto 22 rfl (by decide) ?_
    exact pn_iret h rfl rfl
def w_X11_end (r0 : Nat) (x1 : Int) (M : pj_M) (Q : Int → pj_M → Prop) : Prop :=
  w_X9_shorten (pj_rf r0 0) x1 M (fun (t2 : Int) (M1 : pj_M) => (t2 = 0 ∨ t2 = 1) ∧ Q t2 M1)
set_option maxRecDepth 20000 in
set_option maxHeartbeats 4000000 in
theorem s_X11_end {l : Launch} {g : pj_G} (hg : pj_ph g = true) {r0 : Nat} {x1 : Int} {M : pj_M} {Q : Int → pj_M → Prop} (o0 : pj_ob r0 11) (h : w_X11_end r0 x1 M Q) : pj_S l g mdX11_end [.ref r0, .int (pj_I x1)] pj_NK M (pj_qi Q) := by
  refine pj_ofR (ls := [(0, .ref r0), (1, .int (pj_I x1))]) gcX11_end (by decide) rfl (Nat.le_of_ble_eq_true rfl) rfl ?_
  unfold w_X11_end at h
  refine pj_aload_n 1 0 rfl rfl rfl rfl ?_
  refine pn_getr 4 11 0 hg o0 (pr_11_0 o0).2 rfl pfX11_12 rfl rfl ?_
  refine pj_iload_n 5 1 rfl rfl rfl rfl ?_
  refine pn_callVi 8 9 [.int (pj_I x1)] [] (pr_11_0 o0) (s_X9_shorten hg (pr_11_0 o0) h) plX11_101 rfl rfl rfl rfl (Nat.le_of_ble_eq_true rfl) (by decide) (fun t2 M1 h => ?_)
  obtain ⟨q3, h⟩ := h
  exact pn_zret q3 h rfl rfl
def w_X11_grammar (r0 : Nat) (M : pj_M) (Q : Int → pj_M → Prop) : Prop :=
  w_X5_read (pj_rf r0 1) (pj_rf r0 0) M (fun (t2 : Int) (M1 : pj_M) => w_X9_clear (pj_rf r0 0) M1 (fun (M3 : pj_M) => (pj_in t2) ∧ ((t2 < 0 → Q t2 M3) ∧ (¬ t2 < 0 → w_X6_push (pj_rf r0 5) (pj_rf r0 2) M3 (fun (M6 : pj_M) => w_X4_copyFrom (pj_rf (pj_rf r0 2) 0) (pj_rf (pj_rf r0 1) 0) M6 (fun (M8 : pj_M) => Q t2 M8))))))
set_option maxRecDepth 20000 in
set_option maxHeartbeats 4000000 in
theorem s_X11_grammar {l : Launch} {g : pj_G} (hg : pj_ph g = true) {r0 : Nat} {M : pj_M} {Q : Int → pj_M → Prop} (o0 : pj_ob r0 11) (h : w_X11_grammar r0 M Q) : pj_S l g mdX11_grammar [.ref r0] pj_NK M (pj_qi Q) := by
  refine pj_ofR (ls := [(0, .ref r0)]) gcX11_grammar (by decide) rfl (Nat.le_of_ble_eq_true rfl) rfl ?_
  unfold w_X11_grammar at h
  refine pj_aload_n 1 0 rfl rfl rfl rfl ?_
  refine pn_getr 4 11 1 hg o0 (pr_11_1 o0).2 rfl pfX11_19 rfl rfl ?_
  refine pj_aload_n 5 0 rfl rfl rfl rfl ?_
  refine pn_getr 8 11 0 hg o0 (pr_11_0 o0).2 rfl pfX11_12 rfl rfl ?_
  refine pn_callVi 11 5 [.ref (pj_rf r0 0)] [] (pr_11_1 o0) (s_X5_read hg (pr_11_1 o0) (pr_11_0 o0) h) plX11_104 rfl rfl rfl rfl (Nat.le_of_ble_eq_true rfl) (by decide) (fun t2 M1 h => ?_)
  refine pj_istore_n 12 (ls' := [(0, .ref r0), (1, .int (pj_I t2))]) rfl rfl (by decide) rfl rfl ?_
  refine pj_aload_n 13 0 rfl rfl rfl rfl ?_
  refine pn_getr 16 11 0 hg o0 (pr_11_0 o0).2 rfl pfX11_12 rfl rfl ?_
  refine pn_callVv 19 9 [] [] (pr_11_0 o0) (s_X9_clear hg (pr_11_0 o0) h) plX11_108 rfl rfl rfl rfl (Nat.le_of_ble_eq_true rfl) (by decide) (fun M3 h => ?_)
  refine pj_iload_n 20 1 rfl rfl rfl rfl ?_
  obtain ⟨q5, h⟩ := h
  refine pj_if_lt 51 23 rfl (by decide) rfl q5  (fun hc => ?_) (fun hc => ?_)
  · replace h := h.1 hc
    refine pj_iload_n 52 1 rfl rfl rfl rfl ?_
    exact pn_iret h rfl rfl
  · replace h := h.2 hc
    refine pj_aload_n 24 0 rfl rfl rfl rfl ?_
    refine pn_getr 27 11 5 hg o0 (pr_11_5 o0).2 rfl pfX11_43 rfl rfl ?_
    refine pj_aload_n 28 0 rfl rfl rfl rfl ?_
    refine pn_getr 31 11 2 hg o0 (pr_11_2 o0).2 rfl pfX11_26 rfl rfl ?_
    refine pn_callVv 34 6 [.ref (pj_rf r0 2)] [] (pr_11_5 o0) (s_X6_push hg (pr_11_5 o0) (pr_11_2 o0) h) plX11_111 rfl rfl rfl rfl (Nat.le_of_ble_eq_true rfl) (by decide) (fun M6 h => ?_)
    refine pj_aload_n 35 0 rfl rfl rfl rfl ?_
    refine pn_getr 38 11 2 hg o0 (pr_11_2 o0).2 rfl pfX11_26 rfl rfl ?_
    refine pn_getr 41 1 0 hg (pr_11_2 o0) (pr_1_0 (pr_11_2 o0)).2 rfl pfX11_115 rfl rfl ?_
    refine pj_aload_n 42 0 rfl rfl rfl rfl ?_
    refine pn_getr 45 11 1 hg o0 (pr_11_1 o0).2 rfl pfX11_19 rfl rfl ?_
    refine pn_getr 48 5 0 hg (pr_11_1 o0) (pr_5_0 (pr_11_1 o0)).2 rfl pfX11_119 rfl rfl ?_
    refine pn_callVv 51 4 [.ref (pj_rf (pj_rf r0 1) 0)] [] (pr_1_0 (pr_11_2 o0)) (s_X4_copyFrom hg (pr_1_0 (pr_11_2 o0)) (pr_5_0 (pr_11_1 o0)) h) plX11_122 rfl rfl rfl rfl (Nat.le_of_ble_eq_true rfl) (by decide) (fun M8 h => ?_)
    refine pj_iload_n 52 1 rfl rfl rfl rfl ?_
    exact pn_iret h rfl rfl
def w_X11_line_38 (r0 : Nat) (x1 : Int)  (Q : Int → pj_M → Prop) (M : pj_M) : Prop :=
  w_X9_clear (pj_rf r0 0) M (fun (M4 : pj_M) => (pj_in x1) ∧ ((¬ x1 = (-1) → w_X11_cannotStand x1 M4 (fun (t8 : Int) (M7 : pj_M) => Q t8 M7)) ∧ (x1 = (-1) → Q (M4 (pj_rf (pj_rf r0 2) 1) 1) M4)))
def w_X11_line (r0 : Nat) (M : pj_M) (Q : Int → pj_M → Prop) : Prop :=
  w_X9_misfitOfLine (pj_rf r0 0) M (fun (t2 : Int) (M1 : pj_M) => (pj_in t2) ∧ ((¬ t2 = (-1) → w_X11_line_38 r0 t2  Q M1) ∧ (t2 = (-1) → w_X6_push (pj_rf r0 5) (pj_rf r0 2) M1 (fun (M9 : pj_M) => w_X9_copyLineTo (pj_rf r0 0) (pj_rf (pj_rf r0 2) 1) M9 (fun (M11 : pj_M) => w_X11_line_38 r0 t2  Q M11)))))
set_option maxRecDepth 20000 in
set_option maxHeartbeats 4000000 in
theorem s_X11_line_38 {l : Launch} {g : pj_G} (hg : pj_ph g = true) {r0 : Nat} {x1 : Int} {M : pj_M} {Q : Int → pj_M → Prop}  (o0 : pj_ob r0 11)  (h : w_X11_line_38 r0 x1  Q M) : pj_R l g mdX11_line pj_T (pj_Zm g mdX11_line (pj_qi Q)) pj_NK 0 0 38 [(0, .ref r0), (1, .int (pj_I x1))] [] M := by
  unfold w_X11_line_38 at h
  refine pj_aload_n 39 0 rfl rfl rfl rfl ?_
  refine pn_getr 42 11 0 hg o0 (pr_11_0 o0).2 rfl pfX11_12 rfl rfl ?_
  refine pn_callVv 45 9 [] [] (pr_11_0 o0) (s_X9_clear hg (pr_11_0 o0) h) plX11_108 rfl rfl rfl rfl (Nat.le_of_ble_eq_true rfl) (by decide) (fun M4 h => ?_)
  refine pj_iload_n 46 1 rfl rfl rfl rfl ?_
  refine pj_iconst 47 rfl rfl ?_
  obtain ⟨q6, h⟩ := h
  refine pj_icmp_ne 63 50 rfl (by decide) rfl q6 (show pj_in (-1) by decide) (fun hc => ?_) (fun hc => ?_)
  · replace h := h.1 hc
    refine pj_iload_n 64 1 rfl rfl rfl rfl ?_
    refine pn_callSi 67 [.int (pj_I x1)] [] (s_X11_cannotStand hg  h) plX11_140 rfl rfl rfl rfl (Nat.le_of_ble_eq_true rfl) (by decide) (fun t8 M7 h => ?_)
    exact pn_iret h rfl rfl
  · replace h := h.2 (Classical.not_not.mp hc)
    refine pj_aload_n 51 0 rfl rfl rfl rfl ?_
    refine pn_getr 54 11 2 hg o0 (pr_11_2 o0).2 rfl pfX11_26 rfl rfl ?_
    refine pn_getr 57 1 1 hg (pr_11_2 o0) (pr_1_1 (pr_11_2 o0)).2 rfl pfX11_132 rfl rfl ?_
    refine pn_geti 60 7 1 1 (pr_1_1 (pr_11_2 o0)) rfl pfX11_139 (Or.inl rfl) rfl rfl ?_
    refine pj_goto 67 rfl (by decide) ?_
    exact pn_iret h rfl rfl
set_option maxRecDepth 20000 in
set_option maxHeartbeats 4000000 in
theorem s_X11_line {l : Launch} {g : pj_G} (hg : pj_ph g = true) {r0 : Nat} {M : pj_M} {Q : Int → pj_M → Prop} (o0 : pj_ob r0 11) (h : w_X11_line r0 M Q) : pj_S l g mdX11_line [.ref r0] pj_NK M (pj_qi Q) := by
  refine pj_ofR (ls := [(0, .ref r0)]) gcX11_line (by decide) rfl (Nat.le_of_ble_eq_true rfl) rfl ?_
  unfold w_X11_line at h
  refine pj_aload_n 1 0 rfl rfl rfl rfl ?_
  refine pn_getr 4 11 0 hg o0 (pr_11_0 o0).2 rfl pfX11_12 rfl rfl ?_
  refine pn_callVi 7 9 [] [] (pr_11_0 o0) (s_X9_misfitOfLine hg (pr_11_0 o0) h) plX11_128 rfl rfl rfl rfl (Nat.le_of_ble_eq_true rfl) (by decide) (fun t2 M1 h => ?_)
  refine pj_istore_n 8 (ls' := [(0, .ref r0), (1, .int (pj_I t2))]) rfl rfl (by decide) rfl rfl ?_
  refine pj_iload_n 9 1 rfl rfl rfl rfl ?_
  refine pj_iconst 10 rfl rfl ?_
  obtain ⟨q3, h⟩ := h
  refine pj_icmp_ne 38 13 rfl (by decide) rfl q3 (show pj_in (-1) by decide) (fun hc => ?_) (fun hc => ?_)
  · replace h := h.1 hc
    refine pn_sub [0, 1] rfl ?_
    exact s_X11_line_38 hg o0   h
  · replace h := h.2 (Classical.not_not.mp hc)
    refine pj_aload_n 14 0 rfl rfl rfl rfl ?_
    refine pn_getr 17 11 5 hg o0 (pr_11_5 o0).2 rfl pfX11_43 rfl rfl ?_
    refine pj_aload_n 18 0 rfl rfl rfl rfl ?_
    refine pn_getr 21 11 2 hg o0 (pr_11_2 o0).2 rfl pfX11_26 rfl rfl ?_
    refine pn_callVv 24 6 [.ref (pj_rf r0 2)] [] (pr_11_5 o0) (s_X6_push hg (pr_11_5 o0) (pr_11_2 o0) h) plX11_111 rfl rfl rfl rfl (Nat.le_of_ble_eq_true rfl) (by decide) (fun M9 h => ?_)
    refine pj_aload_n 25 0 rfl rfl rfl rfl ?_
    refine pn_getr 28 11 0 hg o0 (pr_11_0 o0).2 rfl pfX11_12 rfl rfl ?_
    refine pj_aload_n 29 0 rfl rfl rfl rfl ?_
    refine pn_getr 32 11 2 hg o0 (pr_11_2 o0).2 rfl pfX11_26 rfl rfl ?_
    refine pn_getr 35 1 1 hg (pr_11_2 o0) (pr_1_1 (pr_11_2 o0)).2 rfl pfX11_132 rfl rfl ?_
    refine pn_callVv 38 9 [.ref (pj_rf (pj_rf r0 2) 1)] [] (pr_11_0 o0) (s_X9_copyLineTo hg (pr_11_0 o0) (pr_1_1 (pr_11_2 o0)) h) plX11_135 rfl rfl rfl rfl (Nat.le_of_ble_eq_true rfl) (by decide) (fun M11 h => ?_)
    refine pn_sub [0, 1] rfl ?_
    exact s_X11_line_38 hg o0   h
def w_X11_brackets_35 (r0 : Nat) (x1 : Int)  (Q : Int → pj_M → Prop) (M : pj_M) : Prop :=
  w_X9_clear (pj_rf r0 0) M (fun (M4 : pj_M) => (pj_in x1) ∧ ((¬ x1 = (-1) → w_X11_cannotStand x1 M4 (fun (t8 : Int) (M7 : pj_M) => Q t8 M7)) ∧ (x1 = (-1) → Q (M4 (pj_rf r0 2) 3) M4)))
def w_X11_brackets (r0 : Nat) (M : pj_M) (Q : Int → pj_M → Prop) : Prop :=
  w_X9_misfitOfPairs (pj_rf r0 0) M (fun (t2 : Int) (M1 : pj_M) => (pj_in t2) ∧ ((¬ t2 = (-1) → w_X11_brackets_35 r0 t2  Q M1) ∧ (t2 = (-1) → w_X6_push (pj_rf r0 5) (pj_rf r0 2) M1 (fun (M9 : pj_M) => w_X9_copyPairsTo (pj_rf r0 0) (pj_rf r0 2) M9 (fun (M11 : pj_M) => w_X11_brackets_35 r0 t2  Q M11)))))
set_option maxRecDepth 20000 in
set_option maxHeartbeats 4000000 in
theorem s_X11_brackets_35 {l : Launch} {g : pj_G} (hg : pj_ph g = true) {r0 : Nat} {x1 : Int} {M : pj_M} {Q : Int → pj_M → Prop}  (o0 : pj_ob r0 11)  (h : w_X11_brackets_35 r0 x1  Q M) : pj_R l g mdX11_brackets pj_T (pj_Zm g mdX11_brackets (pj_qi Q)) pj_NK 0 0 35 [(0, .ref r0), (1, .int (pj_I x1))] [] M := by
  unfold w_X11_brackets_35 at h
  refine pj_aload_n 36 0 rfl rfl rfl rfl ?_
  refine pn_getr 39 11 0 hg o0 (pr_11_0 o0).2 rfl pfX11_12 rfl rfl ?_
  refine pn_callVv 42 9 [] [] (pr_11_0 o0) (s_X9_clear hg (pr_11_0 o0) h) plX11_108 rfl rfl rfl rfl (Nat.le_of_ble_eq_true rfl) (by decide) (fun M4 h => ?_)
  refine pj_iload_n 43 1 rfl rfl rfl rfl ?_
  refine pj_iconst 44 rfl rfl ?_
  obtain ⟨q6, h⟩ := h
  refine pj_icmp_ne 57 47 rfl (by decide) rfl q6 (show pj_in (-1) by decide) (fun hc => ?_) (fun hc => ?_)
  · replace h := h.1 hc
    refine pj_iload_n 58 1 rfl rfl rfl rfl ?_
    refine pn_callSi 61 [.int (pj_I x1)] [] (s_X11_cannotStand hg  h) plX11_140 rfl rfl rfl rfl (Nat.le_of_ble_eq_true rfl) (by decide) (fun t8 M7 h => ?_)
    exact pn_iret h rfl rfl
  · replace h := h.2 (Classical.not_not.mp hc)
    refine pj_aload_n 48 0 rfl rfl rfl rfl ?_
    refine pn_getr 51 11 2 hg o0 (pr_11_2 o0).2 rfl pfX11_26 rfl rfl ?_
    refine pn_geti 54 1 3 3 (pr_11_2 o0) rfl pfX11_150 (Or.inl rfl) rfl rfl ?_
    refine pj_goto 61 rfl (by decide) ?_
    exact pn_iret h rfl rfl
set_option maxRecDepth 20000 in
set_option maxHeartbeats 4000000 in
theorem s_X11_brackets {l : Launch} {g : pj_G} (hg : pj_ph g = true) {r0 : Nat} {M : pj_M} {Q : Int → pj_M → Prop} (o0 : pj_ob r0 11) (h : w_X11_brackets r0 M Q) : pj_S l g mdX11_brackets [.ref r0] pj_NK M (pj_qi Q) := by
  refine pj_ofR (ls := [(0, .ref r0)]) gcX11_brackets (by decide) rfl (Nat.le_of_ble_eq_true rfl) rfl ?_
  unfold w_X11_brackets at h
  refine pj_aload_n 1 0 rfl rfl rfl rfl ?_
  refine pn_getr 4 11 0 hg o0 (pr_11_0 o0).2 rfl pfX11_12 rfl rfl ?_
  refine pn_callVi 7 9 [] [] (pr_11_0 o0) (s_X9_misfitOfPairs hg (pr_11_0 o0) h) plX11_144 rfl rfl rfl rfl (Nat.le_of_ble_eq_true rfl) (by decide) (fun t2 M1 h => ?_)
  refine pj_istore_n 8 (ls' := [(0, .ref r0), (1, .int (pj_I t2))]) rfl rfl (by decide) rfl rfl ?_
  refine pj_iload_n 9 1 rfl rfl rfl rfl ?_
  refine pj_iconst 10 rfl rfl ?_
  obtain ⟨q3, h⟩ := h
  refine pj_icmp_ne 35 13 rfl (by decide) rfl q3 (show pj_in (-1) by decide) (fun hc => ?_) (fun hc => ?_)
  · replace h := h.1 hc
    refine pn_sub [0, 1] rfl ?_
    exact s_X11_brackets_35 hg o0   h
  · replace h := h.2 (Classical.not_not.mp hc)
    refine pj_aload_n 14 0 rfl rfl rfl rfl ?_
    refine pn_getr 17 11 5 hg o0 (pr_11_5 o0).2 rfl pfX11_43 rfl rfl ?_
    refine pj_aload_n 18 0 rfl rfl rfl rfl ?_
    refine pn_getr 21 11 2 hg o0 (pr_11_2 o0).2 rfl pfX11_26 rfl rfl ?_
    refine pn_callVv 24 6 [.ref (pj_rf r0 2)] [] (pr_11_5 o0) (s_X6_push hg (pr_11_5 o0) (pr_11_2 o0) h) plX11_111 rfl rfl rfl rfl (Nat.le_of_ble_eq_true rfl) (by decide) (fun M9 h => ?_)
    refine pj_aload_n 25 0 rfl rfl rfl rfl ?_
    refine pn_getr 28 11 0 hg o0 (pr_11_0 o0).2 rfl pfX11_12 rfl rfl ?_
    refine pj_aload_n 29 0 rfl rfl rfl rfl ?_
    refine pn_getr 32 11 2 hg o0 (pr_11_2 o0).2 rfl pfX11_26 rfl rfl ?_
    refine pn_callVv 35 9 [.ref (pj_rf r0 2)] [] (pr_11_0 o0) (s_X9_copyPairsTo hg (pr_11_0 o0) (pr_11_2 o0) h) plX11_147 rfl rfl rfl rfl (Nat.le_of_ble_eq_true rfl) (by decide) (fun M11 h => ?_)
    refine pn_sub [0, 1] rfl ?_
    exact s_X11_brackets_35 hg o0   h
def w_Jfmod (x0 : Int) (x1 : Int) (M : pj_M) (Q : Int → pj_M → Prop) : Prop :=
  (pj_in x1) ∧ (¬ x1 = 0) ∧ ∀ z3 : Int, z3 = (pj_rem x0 x1) → (pj_in (pj_xor x0 x1)) ∧ ((0 ≤ (pj_xor x0 x1) → Q z3 M) ∧ (¬ 0 ≤ (pj_xor x0 x1) → (pj_in z3) ∧ ((z3 = 0 → Q z3 M) ∧ (¬ z3 = 0 → Q (z3 + x1) M))))
set_option maxRecDepth 20000 in
set_option maxHeartbeats 4000000 in
theorem s_Jfmod {l : Launch} {g : pj_G} (hg : pj_ph g = true) {x0 : Int} {x1 : Int} {M : pj_M} {Q : Int → pj_M → Prop}  (h : w_Jfmod x0 x1 M Q) : pj_S l g mdJfmod [.int (pj_I x0), .int (pj_I x1)] pj_NK M (pj_qi Q) := by
  refine pj_ofRF (ls := [(0, .int (pj_I x0)), (1, .int (pj_I x1))]) gcJfmod pj_pJfmod rfl (Nat.le_of_ble_eq_true rfl) rfl ?_
  unfold w_Jfmod at h
  refine pj_iload_n 1 0 rfl rfl rfl rfl ?_
  refine pj_iload_n 2 1 rfl rfl rfl rfl ?_
  obtain ⟨q1, h⟩ := h
  obtain ⟨q2, h⟩ := h
  refine pj_irem 3 rfl rfl q1 q2 ?_
  refine pn_nm (fun z3 hz3 => ?_)
  replace h := h z3 hz3
  refine pj_istore_n 4 (ls' := [(0, .int (pj_I x0)), (1, .int (pj_I x1)), (2, .int (pj_I z3))]) rfl rfl (by decide) rfl rfl ?_
  refine pj_iload_n 5 0 rfl rfl rfl rfl ?_
  refine pj_iload_n 6 1 rfl rfl rfl rfl ?_
  refine pj_ixor 7 rfl rfl ?_
  obtain ⟨q4, h⟩ := h
  refine pj_if_ge 18 10 rfl (by decide) rfl q4  (fun hc => ?_) (fun hc => ?_)
  · replace h := h.1 hc
    refine pj_iload_n 19 2 rfl rfl rfl rfl ?_
    exact pn_iret h rfl rfl
  · replace h := h.2 hc
    refine pj_iload_n 11 2 rfl rfl rfl rfl ?_
    obtain ⟨q5, h⟩ := h
    refine pj_if_eq 18 14 rfl (by decide) rfl q5  (fun hc => ?_) (fun hc => ?_)
    · replace h := h.1 hc
      refine pj_iload_n 19 2 rfl rfl rfl rfl ?_
      exact pn_iret h rfl rfl
    · replace h := h.2 hc
      refine pj_iload_n 15 2 rfl rfl rfl rfl ?_
      refine pj_iload_n 16 1 rfl rfl rfl rfl ?_
      refine pj_iadd 17 rfl rfl ?_
      exact pn_iret h rfl rfl
def w_X11_sheet_49b (r0 : Nat) (x2 : Int) (x4 : Int)  (Q : Int → pj_M → Prop) (k49 : Int → Int → pj_M → Prop) (x5 : Int) (x6 : Int) (M : pj_M) : Prop :=
  (pj_in x6) ∧ (pj_in x2) ∧ ((x2 ≤ x6 → ∀ M8 : pj_M, M8 = pj_up M (pj_rf (pj_rf r0 2) 1) 1 x2 → Q x2 M8) ∧ (¬ x2 ≤ x6 → w_Jfmod x5 8 M (fun (t10 : Int) (M9 : pj_M) => ((0 : Int) ≤ x6 ∧ x6 < 14) ∧ ∀ M12 : pj_M, M12 = pj_up M9 (pj_rf (pj_rf (pj_rf r0 2) 1) 0) x6 t10 → k49 (x5 + x4) (x6 + 1) M12)))
def w_X11_sheet_49 (r0 : Nat) (x2 : Int) (x4 : Int)  (Q : Int → pj_M → Prop) (x5 : Int) (x6 : Int) (M : pj_M) : Prop := pj_lp (fun (k : Int × Int × pj_M → Prop) (s : Int × Int × pj_M) => w_X11_sheet_49b r0 x2 x4  Q (fun (x5 : Int) (x6 : Int) (M : pj_M) => k (x5, x6, M)) s.1 s.2.1 s.2.2) (x5, x6, M)
def w_X11_sheet (r0 : Nat) (x1 : Int) (x2 : Int) (x3 : Int) (x4 : Int) (M : pj_M) (Q : Int → pj_M → Prop) : Prop :=
  (pj_in x1) ∧ ((x1 < 0 → Q (-1) M) ∧ (¬ x1 < 0 → (pj_in x1) ∧ ((3 < x1 → Q (-1) M) ∧ (¬ 3 < x1 → (pj_in x2) ∧ ((x2 ≤ 14 → (pj_in x1) ∧ ((¬ x1 = 3 → (pj_in x2) ∧ ((0 ≤ x2 → w_X11_sheet_49 r0 x2 x4  Q x3 0 M) ∧ (¬ 0 ≤ x2 → Q (-2) M))) ∧ (x1 = 3 → ∀ M13 : pj_M, M13 = pj_up M (pj_rf (pj_rf r0 2) 1) 1 0 → Q (-3) M13))) ∧ (¬ x2 ≤ 14 → Q (-1) M))))))
set_option maxRecDepth 20000 in
set_option maxHeartbeats 4000000 in
theorem s_X11_sheet_49b {l : Launch} {g : pj_G} (hg : pj_ph g = true) {r0 : Nat} {x2 : Int} {x4 : Int} {x5 : Int} {x6 : Int} {M : pj_M} {Q : Int → pj_M → Prop}  {k49 : Int → Int → pj_M → Prop} (o0 : pj_ob r0 11)  (hk49 : ∀ (x5 : Int) (x6 : Int) (M : pj_M), k49 x5 x6 M → pj_R l g mdX11_sheet pj_T (pj_Zm g mdX11_sheet (pj_qi Q)) pj_NK 0 0 49 [(0, .ref r0), (2, .int (pj_I x2)), (4, .int (pj_I x4)), (5, .int (pj_I x5)), (6, .int (pj_I x6))] [] M) (h : w_X11_sheet_49b r0 x2 x4  Q k49 x5 x6 M) : pj_R l g mdX11_sheet pj_T (pj_Zm g mdX11_sheet (pj_qi Q)) pj_NK 0 0 49 [(0, .ref r0), (2, .int (pj_I x2)), (4, .int (pj_I x4)), (5, .int (pj_I x5)), (6, .int (pj_I x6))] [] M := by
  unfold w_X11_sheet_49b at h
  refine pj_iload 51 4 rfl rfl rfl ?_
  refine pj_iload_n 52 1 rfl rfl rfl rfl ?_
  obtain ⟨q6, h⟩ := h
  obtain ⟨q7, h⟩ := h
  refine pj_icmp_ge 88 55 rfl (by decide) rfl q6 q7 (fun hc => ?_) (fun hc => ?_)
  · replace h := h.1 hc
    refine pj_aload_n 89 0 rfl rfl rfl rfl ?_
    refine pn_getr 92 11 2 hg o0 (pr_11_2 o0).2 rfl pfX11_26 rfl rfl ?_
    refine pn_getr 95 1 1 hg (pr_11_2 o0) (pr_1_1 (pr_11_2 o0)).2 rfl pfX11_132 rfl rfl ?_
    refine pj_iload_n 96 1 rfl rfl rfl rfl ?_
    refine pn_puti 99 7 1 1 (pr_1_1 (pr_11_2 o0))  rfl pfX11_139 rfl rfl rfl (fun M8 hM8 => ?_)
    replace h := h M8 hM8
    refine pj_iload_n 100 1 rfl rfl rfl rfl ?_
    exact pn_iret h rfl rfl
  · replace h := h.2 hc
    refine pj_aload_n 56 0 rfl rfl rfl rfl ?_
    refine pn_getr 59 11 2 hg o0 (pr_11_2 o0).2 rfl pfX11_26 rfl rfl ?_
    refine pn_getr 62 1 1 hg (pr_11_2 o0) (pr_1_1 (pr_11_2 o0)).2 rfl pfX11_132 rfl rfl ?_
    refine pn_getr 65 7 0 hg (pr_1_1 (pr_11_2 o0)) (pr_7_0 (pr_1_1 (pr_11_2 o0))).2 rfl pfX11_175 rfl rfl ?_
    refine pj_iload 67 4 rfl rfl rfl ?_
    refine pj_iload 69 3 rfl rfl rfl ?_
    refine pj_bipush 71 rfl (by decide) rfl ?_
    refine pn_callSi 74 [.int (pj_I x5), .int (pj_I 8)] [.int (pj_I x6), .ref (pj_rf (pj_rf (pj_rf r0 2) 1) 0)] (s_Jfmod hg  h) plX11_178 rfl rfl rfl rfl (Nat.le_of_ble_eq_true rfl) (by decide) (fun t10 M9 h => ?_)
    obtain ⟨q11, h⟩ := h
    refine pn_iast 75 14 (pr_7_0 (pr_1_1 (pr_11_2 o0)))  q11 rfl rfl (fun M12 hM12 => ?_)
    replace h := h M12 hM12
    refine pj_iload 77 3 rfl rfl rfl ?_
    refine pj_iload 79 2 rfl rfl rfl ?_
    refine pj_iadd 80 rfl rfl ?_
    refine pj_istore 82 (ls' := [(0, .ref r0), (2, .int (pj_I x2)), (4, .int (pj_I x4)), (5, .int (pj_I (x5 + x4))), (6, .int (pj_I x6))]) rfl (by decide) rfl rfl ?_
    refine pj_iinc 85 4 (ls' := [(0, .ref r0), (2, .int (pj_I x2)), (4, .int (pj_I x4)), (5, .int (pj_I (x5 + x4))), (6, .int (pj_I (x6 + 1)))]) rfl rfl (by decide) rfl rfl ?_
    refine pj_goto 49 rfl (by decide) ?_
    refine pn_sub [0, 1, 2, 3, 4] rfl ?_
    exact hk49 _ _ _ h
set_option maxRecDepth 20000 in
set_option maxHeartbeats 4000000 in
theorem s_X11_sheet_49 {l : Launch} {g : pj_G} (hg : pj_ph g = true) {r0 : Nat} {x2 : Int} {x4 : Int} {x5 : Int} {x6 : Int} {M : pj_M} {Q : Int → pj_M → Prop}  (o0 : pj_ob r0 11)  (h : w_X11_sheet_49 r0 x2 x4  Q x5 x6 M) : pj_R l g mdX11_sheet pj_T (pj_Zm g mdX11_sheet (pj_qi Q)) pj_NK 0 0 49 [(0, .ref r0), (2, .int (pj_I x2)), (4, .int (pj_I x4)), (5, .int (pj_I x5)), (6, .int (pj_I x6))] [] M :=
  h (fun s => pj_R l g mdX11_sheet pj_T (pj_Zm g mdX11_sheet (pj_qi Q)) pj_NK 0 0 49 [(0, .ref r0), (2, .int (pj_I x2)), (4, .int (pj_I x4)), (5, .int (pj_I (s.1))), (6, .int (pj_I (s.2.1)))] [] s.2.2) (fun s hs => s_X11_sheet_49b hg o0  (fun _ _ _ q => q) hs)
set_option maxRecDepth 20000 in
set_option maxHeartbeats 4000000 in
theorem s_X11_sheet {l : Launch} {g : pj_G} (hg : pj_ph g = true) {r0 : Nat} {x1 : Int} {x2 : Int} {x3 : Int} {x4 : Int} {M : pj_M} {Q : Int → pj_M → Prop} (o0 : pj_ob r0 11) (h : w_X11_sheet r0 x1 x2 x3 x4 M Q) : pj_S l g mdX11_sheet [.ref r0, .int (pj_I x1), .int (pj_I x2), .int (pj_I x3), .int (pj_I x4)] pj_NK M (pj_qi Q) := by
  refine pj_ofR (ls := [(0, .ref r0), (1, .int (pj_I x1)), (2, .int (pj_I x2)), (3, .int (pj_I x3)), (4, .int (pj_I x4))]) gcX11_sheet (by decide) rfl (Nat.le_of_ble_eq_true rfl) rfl ?_
  unfold w_X11_sheet at h
  refine pj_iload_n 1 1 rfl rfl rfl rfl ?_
  obtain ⟨q1, h⟩ := h
  refine pj_if_lt 15 4 rfl (by decide) rfl q1  (fun hc => ?_) (fun hc => ?_)
  · replace h := h.1 hc
    refine pj_iconst 16 rfl rfl ?_
    exact pn_iret h rfl rfl
  · replace h := h.2 hc
    refine pj_iload_n 5 1 rfl rfl rfl rfl ?_
    refine pj_iconst 6 rfl rfl ?_
    obtain ⟨q2, h⟩ := h
    refine pj_icmp_gt 15 9 rfl (by decide) rfl q2 (show pj_in 3 by decide) (fun hc => ?_) (fun hc => ?_)
    · replace h := h.1 hc
      refine pj_iconst 16 rfl rfl ?_
      exact pn_iret h rfl rfl
    · replace h := h.2 hc
      refine pj_iload_n 10 2 rfl rfl rfl rfl ?_
      refine pj_bipush 12 rfl (by decide) rfl ?_
      obtain ⟨q3, h⟩ := h
      refine pj_icmp_le 17 15 rfl (by decide) rfl q3 (show pj_in 14 by decide) (fun hc => ?_) (fun hc => ?_)
      · replace h := h.1 hc
        refine pj_iload_n 18 1 rfl rfl rfl rfl ?_
        refine pj_iconst 19 rfl rfl ?_
        obtain ⟨q4, h⟩ := h
        refine pj_icmp_ne 36 22 rfl (by decide) rfl q4 (show pj_in 3 by decide) (fun hc => ?_) (fun hc => ?_)
        · replace h := h.1 hc
          refine pj_iload_n 37 2 rfl rfl rfl rfl ?_
          obtain ⟨q5, h⟩ := h
          refine pj_if_ge 43 40 rfl (by decide) rfl q5  (fun hc => ?_) (fun hc => ?_)
          · replace h := h.1 hc
            refine pj_iload_n 44 3 rfl rfl rfl rfl ?_
            refine pj_istore 46 (ls' := [(0, .ref r0), (1, .int (pj_I x1)), (2, .int (pj_I x2)), (3, .int (pj_I x3)), (4, .int (pj_I x4)), (5, .int (pj_I x3))]) rfl (by decide) rfl rfl ?_
            refine pj_iconst 47 rfl rfl ?_
            refine pj_istore 49 (ls' := [(0, .ref r0), (1, .int (pj_I x1)), (2, .int (pj_I x2)), (3, .int (pj_I x3)), (4, .int (pj_I x4)), (5, .int (pj_I x3)), (6, .int (pj_I 0))]) rfl (by decide) rfl rfl ?_
            refine pn_sub [0, 2, 4, 5, 6] rfl ?_
            exact s_X11_sheet_49 hg o0   h
          · replace h := h.2 hc
            refine pj_bipush 42 rfl (by decide) rfl ?_
            exact pn_iret h rfl rfl
        · replace h := h.2 (Classical.not_not.mp hc)
          refine pj_aload_n 23 0 rfl rfl rfl rfl ?_
          refine pn_getr 26 11 2 hg o0 (pr_11_2 o0).2 rfl pfX11_26 rfl rfl ?_
          refine pn_getr 29 1 1 hg (pr_11_2 o0) (pr_1_1 (pr_11_2 o0)).2 rfl pfX11_132 rfl rfl ?_
          refine pj_iconst 30 rfl rfl ?_
          refine pn_puti 33 7 1 1 (pr_1_1 (pr_11_2 o0))  rfl pfX11_139 rfl rfl rfl (fun M13 hM13 => ?_)
          replace h := h M13 hM13
          refine pj_bipush 35 rfl (by decide) rfl ?_
          exact pn_iret h rfl rfl
      · replace h := h.2 hc
        refine pj_iconst 16 rfl rfl ?_
        exact pn_iret h rfl rfl
def w_X11_isPiece (r0 : Nat) (x1 : Int) (x2 : Int) (M : pj_M) (Q : Int → pj_M → Prop) : Prop :=
  (pj_in x1) ∧ ((x1 < 0 → Q 0 M) ∧ (¬ x1 < 0 → (pj_in x1) ∧ (pj_in x2) ∧ ((x2 < x1 → Q 0 M) ∧ (¬ x2 < x1 → (pj_in x2) ∧ (pj_in ((M (pj_rf (pj_rf r0 2) 1) 1) + 2)) ∧ ((((M (pj_rf (pj_rf r0 2) 1) 1) + 2) < x2 → Q 0 M) ∧ (¬ ((M (pj_rf (pj_rf r0 2) 1) 1) + 2) < x2 → Q 1 M))))))
set_option maxRecDepth 20000 in
set_option maxHeartbeats 4000000 in
theorem s_X11_isPiece {l : Launch} {g : pj_G} (hg : pj_ph g = true) {r0 : Nat} {x1 : Int} {x2 : Int} {M : pj_M} {Q : Int → pj_M → Prop} (o0 : pj_ob r0 11) (h : w_X11_isPiece r0 x1 x2 M Q) : pj_S l g mdX11_isPiece [.ref r0, .int (pj_I x1), .int (pj_I x2)] pj_NK M (pj_qi Q) := by
  refine pj_ofR (ls := [(0, .ref r0), (1, .int (pj_I x1)), (2, .int (pj_I x2))]) gcX11_isPiece (by decide) rfl (Nat.le_of_ble_eq_true rfl) rfl ?_
  unfold w_X11_isPiece at h
  refine pj_iload_n 1 1 rfl rfl rfl rfl ?_
  obtain ⟨q1, h⟩ := h
  refine pj_if_lt 29 4 rfl (by decide) rfl q1  (fun hc => ?_) (fun hc => ?_)
  · replace h := h.1 hc
    refine pj_iconst 30 rfl rfl ?_
    exact pn_zret (by decide) h rfl rfl
  · replace h := h.2 hc
    refine pj_iload_n 5 1 rfl rfl rfl rfl ?_
    refine pj_iload_n 6 2 rfl rfl rfl rfl ?_
    obtain ⟨q2, h⟩ := h
    obtain ⟨q3, h⟩ := h
    refine pj_icmp_gt 29 9 rfl (by decide) rfl q2 q3 (fun hc => ?_) (fun hc => ?_)
    · replace h := h.1 hc
      refine pj_iconst 30 rfl rfl ?_
      exact pn_zret (by decide) h rfl rfl
    · replace h := h.2 hc
      refine pj_iload_n 10 2 rfl rfl rfl rfl ?_
      refine pj_aload_n 11 0 rfl rfl rfl rfl ?_
      refine pn_getr 14 11 2 hg o0 (pr_11_2 o0).2 rfl pfX11_26 rfl rfl ?_
      refine pn_getr 17 1 1 hg (pr_11_2 o0) (pr_1_1 (pr_11_2 o0)).2 rfl pfX11_132 rfl rfl ?_
      refine pn_geti 20 7 1 1 (pr_1_1 (pr_11_2 o0)) rfl pfX11_139 (Or.inl rfl) rfl rfl ?_
      refine pj_iconst 21 rfl rfl ?_
      refine pj_iadd 22 rfl rfl ?_
      obtain ⟨q4, h⟩ := h
      obtain ⟨q5, h⟩ := h
      refine pj_icmp_gt 29 25 rfl (by decide) rfl q4 q5 (fun hc => ?_) (fun hc => ?_)
      · replace h := h.1 hc
        refine pj_iconst 30 rfl rfl ?_
        exact pn_zret (by decide) h rfl rfl
      · replace h := h.2 hc
        refine pj_iconst 26 rfl rfl ?_
        refine pj_goto 30 rfl (by decide) ?_
        exact pn_zret (by decide) h rfl rfl
def w_X11_lineRead (r0 : Nat) (M : pj_M) (Q : Nat → pj_M → Prop) : Prop :=
  w_X0_read (pj_rf r0 8) (pj_rf (pj_rf r0 2) 0) (pj_rf (pj_rf r0 2) 1) 0 M (fun (M1 : pj_M) => Q (pj_rf r0 8) M1)
set_option maxRecDepth 20000 in
set_option maxHeartbeats 4000000 in
theorem s_X11_lineRead {l : Launch} {g : pj_G} (hg : pj_ph g = true) {r0 : Nat} {M : pj_M} {Q : Nat → pj_M → Prop} (o0 : pj_ob r0 11) (h : w_X11_lineRead r0 M Q) : pj_S l g mdX11_lineRead [.ref r0] pj_NK M (pj_qr 0 Q) := by
  refine pj_ofR (ls := [(0, .ref r0)]) gcX11_lineRead (by decide) rfl (Nat.le_of_ble_eq_true rfl) rfl ?_
  unfold w_X11_lineRead at h
  refine pj_aload_n 1 0 rfl rfl rfl rfl ?_
  refine pn_getr 4 11 8 hg o0 (pr_11_8 o0).2 rfl pfX11_58 rfl rfl ?_
  refine pj_aload_n 5 0 rfl rfl rfl rfl ?_
  refine pn_getr 8 11 2 hg o0 (pr_11_2 o0).2 rfl pfX11_26 rfl rfl ?_
  refine pn_getr 11 1 0 hg (pr_11_2 o0) (pr_1_0 (pr_11_2 o0)).2 rfl pfX11_115 rfl rfl ?_
  refine pj_aload_n 12 0 rfl rfl rfl rfl ?_
  refine pn_getr 15 11 2 hg o0 (pr_11_2 o0).2 rfl pfX11_26 rfl rfl ?_
  refine pn_getr 18 1 1 hg (pr_11_2 o0) (pr_1_1 (pr_11_2 o0)).2 rfl pfX11_132 rfl rfl ?_
  refine pj_iconst 19 rfl rfl ?_
  refine pn_callVv 22 0 [.ref (pj_rf (pj_rf r0 2) 0), .ref (pj_rf (pj_rf r0 2) 1), .int (pj_I 0)] [] (pr_11_8 o0) (s_X0_read hg (pr_11_8 o0) (pr_1_0 (pr_11_2 o0)) (pr_1_1 (pr_11_2 o0)) h) plX11_209 rfl rfl rfl rfl (Nat.le_of_ble_eq_true rfl) (by decide) (fun M1 h => ?_)
  refine pj_aload_n 23 0 rfl rfl rfl rfl ?_
  refine pn_getr 26 11 8 hg o0 (pr_11_8 o0).2 rfl pfX11_58 rfl rfl ?_
  exact pn_aret (pr_11_8 o0) h rfl rfl
def w_X11_fits (r0 : Nat) (x1 : Int) (x2 : Int) (M : pj_M) (Q : Int → pj_M → Prop) : Prop :=
  w_X11_isPiece r0 x1 x2 M (fun (t2 : Int) (M1 : pj_M) => (pj_in t2) ∧ ((¬ t2 = 0 → w_X11_lineRead r0 M1 (fun (t5 : Nat) (M4 : pj_M) => w_X0_leastFitting t5 x2 M4 (fun (t7 : Int) (M6 : pj_M) => (pj_in t7) ∧ (pj_in x1) ∧ ((x1 < t7 → Q 0 M6) ∧ (¬ x1 < t7 → Q 1 M6))))) ∧ (t2 = 0 → Q (-1) M1)))
set_option maxRecDepth 20000 in
set_option maxHeartbeats 4000000 in
theorem s_X11_fits {l : Launch} {g : pj_G} (hg : pj_ph g = true) {r0 : Nat} {x1 : Int} {x2 : Int} {M : pj_M} {Q : Int → pj_M → Prop} (o0 : pj_ob r0 11) (h : w_X11_fits r0 x1 x2 M Q) : pj_S l g mdX11_fits [.ref r0, .int (pj_I x1), .int (pj_I x2)] pj_NK M (pj_qi Q) := by
  refine pj_ofR (ls := [(0, .ref r0), (1, .int (pj_I x1)), (2, .int (pj_I x2))]) gcX11_fits (by decide) rfl (Nat.le_of_ble_eq_true rfl) rfl ?_
  unfold w_X11_fits at h
  refine pj_aload_n 1 0 rfl rfl rfl rfl ?_
  refine pj_iload_n 2 1 rfl rfl rfl rfl ?_
  refine pj_iload_n 3 2 rfl rfl rfl rfl ?_
  refine pn_callVi 6 11 [.int (pj_I x1), .int (pj_I x2)] [] o0 (s_X11_isPiece hg o0 h) plX11_184 rfl rfl rfl rfl (Nat.le_of_ble_eq_true rfl) (by decide) (fun t2 M1 h => ?_)
  obtain ⟨q3, h⟩ := h
  refine pj_if_ne 11 9 rfl (by decide) rfl q3  (fun hc => ?_) (fun hc => ?_)
  · replace h := h.1 hc
    refine pj_aload_n 12 0 rfl rfl rfl rfl ?_
    refine pn_callVr 15 11 [] [] o0 (s_X11_lineRead hg o0 h) plX11_188 rfl rfl rfl rfl (Nat.le_of_ble_eq_true rfl) (by decide) (fun t5 M4 ot5 h => ?_)
    refine pj_iload_n 16 2 rfl rfl rfl rfl ?_
    refine pn_callVi 19 0 [.int (pj_I x2)] [] ot5 (s_X0_leastFitting hg ot5 h) plX11_192 rfl rfl rfl rfl (Nat.le_of_ble_eq_true rfl) (by decide) (fun t7 M6 h => ?_)
    refine pj_iload_n 20 1 rfl rfl rfl rfl ?_
    obtain ⟨q8, h⟩ := h
    obtain ⟨q9, h⟩ := h
    refine pj_icmp_gt 27 23 rfl (by decide) rfl q8 q9 (fun hc => ?_) (fun hc => ?_)
    · replace h := h.1 hc
      refine pj_iconst 28 rfl rfl ?_
      exact pn_iret h rfl rfl
    · replace h := h.2 hc
      refine pj_iconst 24 rfl rfl ?_
      refine pj_goto 28 rfl (by decide) ?_
      exact pn_iret h rfl rfl
  · replace h := h.2 (Classical.not_not.mp hc)
    refine pj_iconst 10 rfl rfl ?_
    exact pn_iret h rfl rfl
def w_X11_onwards (r0 : Nat) (x1 : Int) (M : pj_M) (Q : Int → pj_M → Prop) : Prop :=
  w_X11_isPiece r0 x1 x1 M (fun (t2 : Int) (M1 : pj_M) => (pj_in t2) ∧ ((¬ t2 = 0 → w_X11_lineRead r0 M1 (fun (t5 : Nat) (M4 : pj_M) => w_X0_greatestFitting t5 x1 M4 (fun (t7 : Int) (M6 : pj_M) => Q t7 M6))) ∧ (t2 = 0 → Q (-1) M1)))
set_option maxRecDepth 20000 in
set_option maxHeartbeats 4000000 in
theorem s_X11_onwards {l : Launch} {g : pj_G} (hg : pj_ph g = true) {r0 : Nat} {x1 : Int} {M : pj_M} {Q : Int → pj_M → Prop} (o0 : pj_ob r0 11) (h : w_X11_onwards r0 x1 M Q) : pj_S l g mdX11_onwards [.ref r0, .int (pj_I x1)] pj_NK M (pj_qi Q) := by
  refine pj_ofR (ls := [(0, .ref r0), (1, .int (pj_I x1))]) gcX11_onwards (by decide) rfl (Nat.le_of_ble_eq_true rfl) rfl ?_
  unfold w_X11_onwards at h
  refine pj_aload_n 1 0 rfl rfl rfl rfl ?_
  refine pj_iload_n 2 1 rfl rfl rfl rfl ?_
  refine pj_iload_n 3 1 rfl rfl rfl rfl ?_
  refine pn_callVi 6 11 [.int (pj_I x1), .int (pj_I x1)] [] o0 (s_X11_isPiece hg o0 h) plX11_184 rfl rfl rfl rfl (Nat.le_of_ble_eq_true rfl) (by decide) (fun t2 M1 h => ?_)
  obtain ⟨q3, h⟩ := h
  refine pj_if_ne 11 9 rfl (by decide) rfl q3  (fun hc => ?_) (fun hc => ?_)
  · replace h := h.1 hc
    refine pj_aload_n 12 0 rfl rfl rfl rfl ?_
    refine pn_callVr 15 11 [] [] o0 (s_X11_lineRead hg o0 h) plX11_188 rfl rfl rfl rfl (Nat.le_of_ble_eq_true rfl) (by decide) (fun t5 M4 ot5 h => ?_)
    refine pj_iload_n 16 1 rfl rfl rfl rfl ?_
    refine pn_callVi 19 0 [.int (pj_I x1)] [] ot5 (s_X0_greatestFitting hg ot5 h) plX11_195 rfl rfl rfl rfl (Nat.le_of_ble_eq_true rfl) (by decide) (fun t7 M6 h => ?_)
    exact pn_iret h rfl rfl
  · replace h := h.2 (Classical.not_not.mp hc)
    refine pj_iconst 10 rfl rfl ?_
    exact pn_iret h rfl rfl
def w_X11_back (r0 : Nat) (x1 : Int) (M : pj_M) (Q : Int → pj_M → Prop) : Prop :=
  w_X11_isPiece r0 x1 x1 M (fun (t2 : Int) (M1 : pj_M) => (pj_in t2) ∧ ((¬ t2 = 0 → w_X11_lineRead r0 M1 (fun (t5 : Nat) (M4 : pj_M) => w_X0_leastFitting t5 x1 M4 (fun (t7 : Int) (M6 : pj_M) => Q t7 M6))) ∧ (t2 = 0 → Q (-1) M1)))
set_option maxRecDepth 20000 in
set_option maxHeartbeats 4000000 in
theorem s_X11_back {l : Launch} {g : pj_G} (hg : pj_ph g = true) {r0 : Nat} {x1 : Int} {M : pj_M} {Q : Int → pj_M → Prop} (o0 : pj_ob r0 11) (h : w_X11_back r0 x1 M Q) : pj_S l g mdX11_back [.ref r0, .int (pj_I x1)] pj_NK M (pj_qi Q) := by
  refine pj_ofR (ls := [(0, .ref r0), (1, .int (pj_I x1))]) gcX11_back (by decide) rfl (Nat.le_of_ble_eq_true rfl) rfl ?_
  unfold w_X11_back at h
  refine pj_aload_n 1 0 rfl rfl rfl rfl ?_
  refine pj_iload_n 2 1 rfl rfl rfl rfl ?_
  refine pj_iload_n 3 1 rfl rfl rfl rfl ?_
  refine pn_callVi 6 11 [.int (pj_I x1), .int (pj_I x1)] [] o0 (s_X11_isPiece hg o0 h) plX11_184 rfl rfl rfl rfl (Nat.le_of_ble_eq_true rfl) (by decide) (fun t2 M1 h => ?_)
  obtain ⟨q3, h⟩ := h
  refine pj_if_ne 11 9 rfl (by decide) rfl q3  (fun hc => ?_) (fun hc => ?_)
  · replace h := h.1 hc
    refine pj_aload_n 12 0 rfl rfl rfl rfl ?_
    refine pn_callVr 15 11 [] [] o0 (s_X11_lineRead hg o0 h) plX11_188 rfl rfl rfl rfl (Nat.le_of_ble_eq_true rfl) (by decide) (fun t5 M4 ot5 h => ?_)
    refine pj_iload_n 16 1 rfl rfl rfl rfl ?_
    refine pn_callVi 19 0 [.int (pj_I x1)] [] ot5 (s_X0_leastFitting hg ot5 h) plX11_192 rfl rfl rfl rfl (Nat.le_of_ble_eq_true rfl) (by decide) (fun t7 M6 h => ?_)
    exact pn_iret h rfl rfl
  · replace h := h.2 (Classical.not_not.mp hc)
    refine pj_iconst 10 rfl rfl ?_
    exact pn_iret h rfl rfl
def w_X11_sentence (r0 : Nat) (M : pj_M) (Q : Int → pj_M → Prop) : Prop :=
  w_X11_lineRead r0 M (fun (t2 : Nat) (M1 : pj_M) => w_X0_yieldsWhole t2 (M1 (pj_rf (pj_rf r0 2) 0) 4) 1 ((M1 (pj_rf (pj_rf r0 2) 1) 1) + 1) M1 (fun (t4 : Int) (M3 : pj_M) => (pj_in t4) ∧ ((t4 = 0 → Q 0 M3) ∧ (¬ t4 = 0 → Q 1 M3))))
set_option maxRecDepth 20000 in
set_option maxHeartbeats 4000000 in
theorem s_X11_sentence {l : Launch} {g : pj_G} (hg : pj_ph g = true) {r0 : Nat} {M : pj_M} {Q : Int → pj_M → Prop} (o0 : pj_ob r0 11) (h : w_X11_sentence r0 M Q) : pj_S l g mdX11_sentence [.ref r0] pj_NK M (pj_qi Q) := by
  refine pj_ofR (ls := [(0, .ref r0)]) gcX11_sentence (by decide) rfl (Nat.le_of_ble_eq_true rfl) rfl ?_
  unfold w_X11_sentence at h
  refine pj_aload_n 1 0 rfl rfl rfl rfl ?_
  refine pn_callVr 4 11 [] [] o0 (s_X11_lineRead hg o0 h) plX11_188 rfl rfl rfl rfl (Nat.le_of_ble_eq_true rfl) (by decide) (fun t2 M1 ot2 h => ?_)
  refine pj_aload_n 5 0 rfl rfl rfl rfl ?_
  refine pn_getr 8 11 2 hg o0 (pr_11_2 o0).2 rfl pfX11_26 rfl rfl ?_
  refine pn_getr 11 1 0 hg (pr_11_2 o0) (pr_1_0 (pr_11_2 o0)).2 rfl pfX11_115 rfl rfl ?_
  refine pn_geti 14 4 4 4 (pr_1_0 (pr_11_2 o0)) rfl pfX11_198 (Or.inl rfl) rfl rfl ?_
  refine pj_iconst 15 rfl rfl ?_
  refine pj_aload_n 16 0 rfl rfl rfl rfl ?_
  refine pn_getr 19 11 2 hg o0 (pr_11_2 o0).2 rfl pfX11_26 rfl rfl ?_
  refine pn_getr 22 1 1 hg (pr_11_2 o0) (pr_1_1 (pr_11_2 o0)).2 rfl pfX11_132 rfl rfl ?_
  refine pn_geti 25 7 1 1 (pr_1_1 (pr_11_2 o0)) rfl pfX11_139 (Or.inl rfl) rfl rfl ?_
  refine pj_iconst 26 rfl rfl ?_
  refine pj_iadd 27 rfl rfl ?_
  refine pn_callVi 30 0 [.int (pj_I (M1 (pj_rf (pj_rf r0 2) 0) 4)), .int (pj_I 1), .int (pj_I ((M1 (pj_rf (pj_rf r0 2) 1) 1) + 1))] [] ot2 (s_X0_yieldsWhole hg ot2 h) plX11_201 rfl rfl rfl rfl (Nat.le_of_ble_eq_true rfl) (by decide) (fun t4 M3 h => ?_)
  obtain ⟨q5, h⟩ := h
  refine pj_if_eq 37 33 rfl (by decide) rfl q5  (fun hc => ?_) (fun hc => ?_)
  · replace h := h.1 hc
    refine pj_iconst 38 rfl rfl ?_
    exact pn_iret h rfl rfl
  · replace h := h.2 hc
    refine pj_iconst 34 rfl rfl ?_
    refine pj_goto 38 rfl (by decide) ?_
    exact pn_iret h rfl rfl
def w_X11_tellMore (r0 : Nat) (x1 : Int) (M : pj_M) (Q : pj_M → Prop) : Prop :=
  (pj_in (M r0 15)) ∧ ((40 ≤ (M r0 15) → Q M) ∧ (¬ 40 ≤ (M r0 15) → ((0 : Int) ≤ (M r0 15) ∧ (M r0 15) < 40) ∧ ∀ M3 : pj_M, M3 = pj_up M (pj_rf r0 14) (M r0 15) x1 → ∀ M4 : pj_M, M4 = pj_up M3 r0 15 ((M3 r0 15) + 1) → Q M4))
set_option maxRecDepth 20000 in
set_option maxHeartbeats 4000000 in
theorem s_X11_tellMore {l : Launch} {g : pj_G} (hg : pj_ph g = true) {r0 : Nat} {x1 : Int} {M : pj_M} {Q : pj_M → Prop} (o0 : pj_ob r0 11) (h : w_X11_tellMore r0 x1 M Q) : pj_S l g mdX11_tellMore [.ref r0, .long (pj_L x1)] pj_NK M (pj_qv Q) := by
  refine pj_ofR (ls := [(0, .ref r0), (1, .long (pj_L x1))]) gcX11_tellMore (by decide) rfl (Nat.le_of_ble_eq_true rfl) rfl ?_
  unfold w_X11_tellMore at h
  refine pj_aload_n 1 0 rfl rfl rfl rfl ?_
  refine pn_geti 4 11 15 15 o0 rfl pfX11_272 (Or.inl rfl) rfl rfl ?_
  refine pj_bipush 6 rfl (by decide) rfl ?_
  obtain ⟨q1, h⟩ := h
  refine pj_icmp_ge 29 9 rfl (by decide) rfl q1 (show pj_in 40 by decide) (fun hc => ?_) (fun hc => ?_)
  · replace h := h.1 hc
    exact pn_vret h rfl rfl
  · replace h := h.2 hc
    refine pj_aload_n 10 0 rfl rfl rfl rfl ?_
    refine pn_getr 13 11 14 hg o0 (pr_11_14 o0).2 rfl pfX11_89 rfl rfl ?_
    refine pj_aload_n 14 0 rfl rfl rfl rfl ?_
    refine pn_geti 17 11 15 15 o0 rfl pfX11_272 (Or.inl rfl) rfl rfl ?_
    refine pj_lload_n 18 1 rfl rfl rfl rfl ?_
    obtain ⟨q2, h⟩ := h
    refine pn_last 19 40 (pr_11_14 o0)  q2 rfl rfl (fun M3 hM3 => ?_)
    replace h := h M3 hM3
    refine pj_aload_n 20 0 rfl rfl rfl rfl ?_
    refine pj_dup 21 rfl rfl rfl ?_
    refine pn_geti 24 11 15 15 o0 rfl pfX11_272 (Or.inl rfl) rfl rfl ?_
    refine pj_iconst 25 rfl rfl ?_
    refine pj_iadd 26 rfl rfl ?_
    refine pn_puti 29 11 15 15 o0  rfl pfX11_272 rfl rfl rfl (fun M4 hM4 => ?_)
    replace h := h M4 hM4
    exact pn_vret h rfl rfl
def w_X11_tellOne (r0 : Nat) (x1 : Int) (M : pj_M) (Q : pj_M → Prop) : Prop :=
  ∀ M1 : pj_M, M1 = pj_up M r0 15 0 → w_X11_tellMore r0 x1 M1 (fun (M2 : pj_M) => Q M2)
set_option maxRecDepth 20000 in
set_option maxHeartbeats 4000000 in
theorem s_X11_tellOne {l : Launch} {g : pj_G} (hg : pj_ph g = true) {r0 : Nat} {x1 : Int} {M : pj_M} {Q : pj_M → Prop} (o0 : pj_ob r0 11) (h : w_X11_tellOne r0 x1 M Q) : pj_S l g mdX11_tellOne [.ref r0, .long (pj_L x1)] pj_NK M (pj_qv Q) := by
  refine pj_ofR (ls := [(0, .ref r0), (1, .long (pj_L x1))]) gcX11_tellOne (by decide) rfl (Nat.le_of_ble_eq_true rfl) rfl ?_
  unfold w_X11_tellOne at h
  refine pj_aload_n 1 0 rfl rfl rfl rfl ?_
  refine pj_iconst 2 rfl rfl ?_
  refine pn_puti 5 11 15 15 o0  rfl pfX11_272 rfl rfl rfl (fun M1 hM1 => ?_)
  replace h := h M1 hM1
  refine pj_aload_n 6 0 rfl rfl rfl rfl ?_
  refine pj_lload_n 7 1 rfl rfl rfl rfl ?_
  refine pn_callVv 10 11 [.long (pj_L x1)] [] o0 (s_X11_tellMore hg o0 h) plX11_275 rfl rfl rfl rfl (Nat.le_of_ble_eq_true rfl) (by decide) (fun M2 h => ?_)
  exact pn_vret h rfl rfl
def w_X11_tellFollowers (r0 : Nat) (r1 : Nat) (x2 : Int) (x3 : Int) (x4 : Int) (M : pj_M) (Q : Int → pj_M → Prop) : Prop :=
  w_X0_leastFitting r1 x3 M (fun (t2 : Int) (M1 : pj_M) => (pj_in t2) ∧ (pj_in x2) ∧ ((t2 ≤ x2 → w_X0_followers r1 x2 x3 x4 M1 (fun (t6 : Int) (M5 : pj_M) => w_Jbits t6 M5 (fun (t8 : Int) (M7 : pj_M) => (pj_in t8) ∧ w_X11_tellOne r0 t8 M7 (fun (M10 : pj_M) => Q t6 M10)))) ∧ (¬ t2 ≤ x2 → Q (-2) M1)))
set_option maxRecDepth 20000 in
set_option maxHeartbeats 4000000 in
theorem s_X11_tellFollowers {l : Launch} {g : pj_G} (hg : pj_ph g = true) {r0 : Nat} {r1 : Nat} {x2 : Int} {x3 : Int} {x4 : Int} {M : pj_M} {Q : Int → pj_M → Prop} (o0 : pj_ob r0 11) (o1 : pj_ob r1 0) (h : w_X11_tellFollowers r0 r1 x2 x3 x4 M Q) : pj_S l g mdX11_tellFollowers [.ref r0, .ref r1, .int (pj_I x2), .int (pj_I x3), .int (pj_I x4)] pj_NK M (pj_qi Q) := by
  refine pj_ofR (ls := [(0, .ref r0), (1, .ref r1), (2, .int (pj_I x2)), (3, .int (pj_I x3)), (4, .int (pj_I x4))]) gcX11_tellFollowers (by decide) rfl (Nat.le_of_ble_eq_true rfl) rfl ?_
  unfold w_X11_tellFollowers at h
  refine pj_aload_n 1 1 rfl rfl rfl rfl ?_
  refine pj_iload_n 2 3 rfl rfl rfl rfl ?_
  refine pn_callVi 5 0 [.int (pj_I x3)] [] o1 (s_X0_leastFitting hg o1 h) plX11_192 rfl rfl rfl rfl (Nat.le_of_ble_eq_true rfl) (by decide) (fun t2 M1 h => ?_)
  refine pj_iload_n 6 2 rfl rfl rfl rfl ?_
  obtain ⟨q3, h⟩ := h
  obtain ⟨q4, h⟩ := h
  refine pj_icmp_le 12 9 rfl (by decide) rfl q3 q4 (fun hc => ?_) (fun hc => ?_)
  · replace h := h.1 hc
    refine pj_aload_n 13 1 rfl rfl rfl rfl ?_
    refine pj_iload_n 14 2 rfl rfl rfl rfl ?_
    refine pj_iload_n 15 3 rfl rfl rfl rfl ?_
    refine pj_iload 17 4 rfl rfl rfl ?_
    refine pn_callVi 20 0 [.int (pj_I x2), .int (pj_I x3), .int (pj_I x4)] [] o1 (s_X0_followers hg o1 h) plX11_220 rfl rfl rfl rfl (Nat.le_of_ble_eq_true rfl) (by decide) (fun t6 M5 h => ?_)
    refine pj_istore 22 (ls' := [(0, .ref r0), (1, .ref r1), (2, .int (pj_I x2)), (3, .int (pj_I x3)), (4, .int (pj_I x4)), (5, .int (pj_I t6))]) rfl (by decide) rfl rfl ?_
    refine pj_aload_n 23 0 rfl rfl rfl rfl ?_
    refine pj_iload 25 5 rfl rfl rfl ?_
    refine pn_callSi 28 [.int (pj_I t6)] [.ref r0] (s_Jbits hg  h) plX11_224 rfl rfl rfl rfl (Nat.le_of_ble_eq_true rfl) (by decide) (fun t8 M7 h => ?_)
    obtain ⟨q9, h⟩ := h
    refine pj_i2l 29 rfl rfl q9 ?_
    refine pn_callVv 32 11 [.long (pj_L t8)] [] o0 (s_X11_tellOne hg o0 h) plX11_229 rfl rfl rfl rfl (Nat.le_of_ble_eq_true rfl) (by decide) (fun M10 h => ?_)
    refine pj_iload 34 5 rfl rfl rfl ?_
    exact pn_iret h rfl rfl
  · replace h := h.2 hc
    refine pj_bipush 11 rfl (by decide) rfl ?_
    exact pn_iret h rfl rfl
def w_X11_next (r0 : Nat) (x1 : Int) (x2 : Int) (M : pj_M) (Q : Int → pj_M → Prop) : Prop :=
  w_X11_isPiece r0 x1 x2 M (fun (t2 : Int) (M1 : pj_M) => (pj_in t2) ∧ ((¬ t2 = 0 → w_X11_lineRead r0 M1 (fun (t5 : Nat) (M4 : pj_M) => w_X11_tellFollowers r0 t5 x1 x2 9 M4 (fun (t7 : Int) (M6 : pj_M) => Q t7 M6))) ∧ (t2 = 0 → Q (-1) M1)))
set_option maxRecDepth 20000 in
set_option maxHeartbeats 4000000 in
theorem s_X11_next {l : Launch} {g : pj_G} (hg : pj_ph g = true) {r0 : Nat} {x1 : Int} {x2 : Int} {M : pj_M} {Q : Int → pj_M → Prop} (o0 : pj_ob r0 11) (h : w_X11_next r0 x1 x2 M Q) : pj_S l g mdX11_next [.ref r0, .int (pj_I x1), .int (pj_I x2)] pj_NK M (pj_qi Q) := by
  refine pj_ofR (ls := [(0, .ref r0), (1, .int (pj_I x1)), (2, .int (pj_I x2))]) gcX11_next (by decide) rfl (Nat.le_of_ble_eq_true rfl) rfl ?_
  unfold w_X11_next at h
  refine pj_aload_n 1 0 rfl rfl rfl rfl ?_
  refine pj_iload_n 2 1 rfl rfl rfl rfl ?_
  refine pj_iload_n 3 2 rfl rfl rfl rfl ?_
  refine pn_callVi 6 11 [.int (pj_I x1), .int (pj_I x2)] [] o0 (s_X11_isPiece hg o0 h) plX11_184 rfl rfl rfl rfl (Nat.le_of_ble_eq_true rfl) (by decide) (fun t2 M1 h => ?_)
  obtain ⟨q3, h⟩ := h
  refine pj_if_ne 11 9 rfl (by decide) rfl q3  (fun hc => ?_) (fun hc => ?_)
  · replace h := h.1 hc
    refine pj_aload_n 12 0 rfl rfl rfl rfl ?_
    refine pj_aload_n 13 0 rfl rfl rfl rfl ?_
    refine pn_callVr 16 11 [] [.ref r0] o0 (s_X11_lineRead hg o0 h) plX11_188 rfl rfl rfl rfl (Nat.le_of_ble_eq_true rfl) (by decide) (fun t5 M4 ot5 h => ?_)
    refine pj_iload_n 17 1 rfl rfl rfl rfl ?_
    refine pj_iload_n 18 2 rfl rfl rfl rfl ?_
    refine pj_bipush 20 rfl (by decide) rfl ?_
    refine pn_callVi 23 11 [.ref t5, .int (pj_I x1), .int (pj_I x2), .int (pj_I 9)] [] o0 (s_X11_tellFollowers hg o0 ot5 h) plX11_205 rfl rfl rfl rfl (Nat.le_of_ble_eq_true rfl) (by decide) (fun t7 M6 h => ?_)
    exact pn_iret h rfl rfl
  · replace h := h.2 (Classical.not_not.mp hc)
    refine pj_iconst 10 rfl rfl ?_
    exact pn_iret h rfl rfl
def w_X11_ahead (r0 : Nat) (x1 : Int) (x2 : Int) (M : pj_M) (Q : Int → pj_M → Prop) : Prop :=
  w_X11_isPiece r0 x1 x2 M (fun (t2 : Int) (M1 : pj_M) => (pj_in t2) ∧ ((¬ t2 = 0 → ∀ z4 : Int, z4 = ((M1 (pj_rf (pj_rf r0 2) 1) 1) + 2) → w_X0_read (pj_rf r0 10) (pj_rf (pj_rf r0 2) 0) (pj_rf (pj_rf r0 2) 1) 1 M1 (fun (M5 : pj_M) => w_X11_tellFollowers r0 (pj_rf r0 10) (z4 - x2) (z4 - x1) 8 M5 (fun (t8 : Int) (M7 : pj_M) => Q t8 M7))) ∧ (t2 = 0 → Q (-1) M1)))
set_option maxRecDepth 20000 in
set_option maxHeartbeats 4000000 in
theorem s_X11_ahead {l : Launch} {g : pj_G} (hg : pj_ph g = true) {r0 : Nat} {x1 : Int} {x2 : Int} {M : pj_M} {Q : Int → pj_M → Prop} (o0 : pj_ob r0 11) (h : w_X11_ahead r0 x1 x2 M Q) : pj_S l g mdX11_ahead [.ref r0, .int (pj_I x1), .int (pj_I x2)] pj_NK M (pj_qi Q) := by
  refine pj_ofR (ls := [(0, .ref r0), (1, .int (pj_I x1)), (2, .int (pj_I x2))]) gcX11_ahead (by decide) rfl (Nat.le_of_ble_eq_true rfl) rfl ?_
  unfold w_X11_ahead at h
  refine pj_aload_n 1 0 rfl rfl rfl rfl ?_
  refine pj_iload_n 2 1 rfl rfl rfl rfl ?_
  refine pj_iload_n 3 2 rfl rfl rfl rfl ?_
  refine pn_callVi 6 11 [.int (pj_I x1), .int (pj_I x2)] [] o0 (s_X11_isPiece hg o0 h) plX11_184 rfl rfl rfl rfl (Nat.le_of_ble_eq_true rfl) (by decide) (fun t2 M1 h => ?_)
  obtain ⟨q3, h⟩ := h
  refine pj_if_ne 11 9 rfl (by decide) rfl q3  (fun hc => ?_) (fun hc => ?_)
  · replace h := h.1 hc
    refine pj_aload_n 12 0 rfl rfl rfl rfl ?_
    refine pn_getr 15 11 2 hg o0 (pr_11_2 o0).2 rfl pfX11_26 rfl rfl ?_
    refine pn_getr 18 1 1 hg (pr_11_2 o0) (pr_1_1 (pr_11_2 o0)).2 rfl pfX11_132 rfl rfl ?_
    refine pn_geti 21 7 1 1 (pr_1_1 (pr_11_2 o0)) rfl pfX11_139 (Or.inl rfl) rfl rfl ?_
    refine pj_iconst 22 rfl rfl ?_
    refine pj_iadd 23 rfl rfl ?_
    refine pn_nm (fun z4 hz4 => ?_)
    replace h := h z4 hz4
    refine pj_istore_n 24 (ls' := [(0, .ref r0), (1, .int (pj_I x1)), (2, .int (pj_I x2)), (3, .int (pj_I z4))]) rfl rfl (by decide) rfl rfl ?_
    refine pj_aload_n 25 0 rfl rfl rfl rfl ?_
    refine pn_getr 28 11 10 hg o0 (pr_11_10 o0).2 rfl pfX11_65 rfl rfl ?_
    refine pj_aload_n 29 0 rfl rfl rfl rfl ?_
    refine pn_getr 32 11 2 hg o0 (pr_11_2 o0).2 rfl pfX11_26 rfl rfl ?_
    refine pn_getr 35 1 0 hg (pr_11_2 o0) (pr_1_0 (pr_11_2 o0)).2 rfl pfX11_115 rfl rfl ?_
    refine pj_aload_n 36 0 rfl rfl rfl rfl ?_
    refine pn_getr 39 11 2 hg o0 (pr_11_2 o0).2 rfl pfX11_26 rfl rfl ?_
    refine pn_getr 42 1 1 hg (pr_11_2 o0) (pr_1_1 (pr_11_2 o0)).2 rfl pfX11_132 rfl rfl ?_
    refine pj_iconst 43 rfl rfl ?_
    refine pn_callVv 46 0 [.ref (pj_rf (pj_rf r0 2) 0), .ref (pj_rf (pj_rf r0 2) 1), .int (pj_I 1)] [] (pr_11_10 o0) (s_X0_read hg (pr_11_10 o0) (pr_1_0 (pr_11_2 o0)) (pr_1_1 (pr_11_2 o0)) h) plX11_209 rfl rfl rfl rfl (Nat.le_of_ble_eq_true rfl) (by decide) (fun M5 h => ?_)
    refine pj_aload_n 47 0 rfl rfl rfl rfl ?_
    refine pj_aload_n 48 0 rfl rfl rfl rfl ?_
    refine pn_getr 51 11 10 hg o0 (pr_11_10 o0).2 rfl pfX11_65 rfl rfl ?_
    refine pj_iload_n 52 3 rfl rfl rfl rfl ?_
    refine pj_iload_n 53 2 rfl rfl rfl rfl ?_
    refine pj_isub 54 rfl rfl ?_
    refine pj_iload_n 55 3 rfl rfl rfl rfl ?_
    refine pj_iload_n 56 1 rfl rfl rfl rfl ?_
    refine pj_isub 57 rfl rfl ?_
    refine pj_bipush 59 rfl (by decide) rfl ?_
    refine pn_callVi 62 11 [.ref (pj_rf r0 10), .int (pj_I (z4 - x2)), .int (pj_I (z4 - x1)), .int (pj_I 8)] [] o0 (s_X11_tellFollowers hg o0 (pr_11_10 o0) h) plX11_205 rfl rfl rfl rfl (Nat.le_of_ble_eq_true rfl) (by decide) (fun t8 M7 h => ?_)
    exact pn_iret h rfl rfl
  · replace h := h.2 (Classical.not_not.mp hc)
    refine pj_iconst 10 rfl rfl ?_
    exact pn_iret h rfl rfl
def w_X11_hasEdge (r0 : Nat) (x1 : Int) (x2 : Int) (M : pj_M) (Q : Int → pj_M → Prop) : Prop :=
  (pj_in x1) ∧ (pj_in x2) ∧ ((x2 ≤ x1 → Q 0 M) ∧ (¬ x2 ≤ x1 → (pj_in x1) ∧ ((x1 = 0 → Q 1 M) ∧ (¬ x1 = 0 → (pj_in x2) ∧ (pj_in ((M (pj_rf (pj_rf r0 2) 1) 1) + 2)) ∧ ((¬ x2 = ((M (pj_rf (pj_rf r0 2) 1) 1) + 2) → Q 0 M) ∧ (x2 = ((M (pj_rf (pj_rf r0 2) 1) 1) + 2) → Q 1 M))))))
set_option maxRecDepth 20000 in
set_option maxHeartbeats 4000000 in
theorem s_X11_hasEdge {l : Launch} {g : pj_G} (hg : pj_ph g = true) {r0 : Nat} {x1 : Int} {x2 : Int} {M : pj_M} {Q : Int → pj_M → Prop} (o0 : pj_ob r0 11) (h : w_X11_hasEdge r0 x1 x2 M Q) : pj_S l g mdX11_hasEdge [.ref r0, .int (pj_I x1), .int (pj_I x2)] pj_NK M (pj_qi Q) := by
  refine pj_ofR (ls := [(0, .ref r0), (1, .int (pj_I x1)), (2, .int (pj_I x2))]) gcX11_hasEdge (by decide) rfl (Nat.le_of_ble_eq_true rfl) rfl ?_
  unfold w_X11_hasEdge at h
  refine pj_iload_n 1 1 rfl rfl rfl rfl ?_
  refine pj_iload_n 2 2 rfl rfl rfl rfl ?_
  obtain ⟨q1, h⟩ := h
  obtain ⟨q2, h⟩ := h
  refine pj_icmp_ge 29 5 rfl (by decide) rfl q1 q2 (fun hc => ?_) (fun hc => ?_)
  · replace h := h.1 hc
    refine pj_iconst 30 rfl rfl ?_
    exact pn_zret (by decide) h rfl rfl
  · replace h := h.2 hc
    refine pj_iload_n 6 1 rfl rfl rfl rfl ?_
    obtain ⟨q3, h⟩ := h
    refine pj_if_eq 25 9 rfl (by decide) rfl q3  (fun hc => ?_) (fun hc => ?_)
    · replace h := h.1 hc
      refine pj_iconst 26 rfl rfl ?_
      refine pj_goto 30 rfl (by decide) ?_
      exact pn_zret (by decide) h rfl rfl
    · replace h := h.2 hc
      refine pj_iload_n 10 2 rfl rfl rfl rfl ?_
      refine pj_aload_n 11 0 rfl rfl rfl rfl ?_
      refine pn_getr 14 11 2 hg o0 (pr_11_2 o0).2 rfl pfX11_26 rfl rfl ?_
      refine pn_getr 17 1 1 hg (pr_11_2 o0) (pr_1_1 (pr_11_2 o0)).2 rfl pfX11_132 rfl rfl ?_
      refine pn_geti 20 7 1 1 (pr_1_1 (pr_11_2 o0)) rfl pfX11_139 (Or.inl rfl) rfl rfl ?_
      refine pj_iconst 21 rfl rfl ?_
      refine pj_iadd 22 rfl rfl ?_
      obtain ⟨q4, h⟩ := h
      obtain ⟨q5, h⟩ := h
      refine pj_icmp_ne 29 25 rfl (by decide) rfl q4 q5 (fun hc => ?_) (fun hc => ?_)
      · replace h := h.1 hc
        refine pj_iconst 30 rfl rfl ?_
        exact pn_zret (by decide) h rfl rfl
      · replace h := h.2 (Classical.not_not.mp hc)
        refine pj_iconst 26 rfl rfl ?_
        refine pj_goto 30 rfl (by decide) ?_
        exact pn_zret (by decide) h rfl rfl
def w_X11_yields (r0 : Nat) (x1 : Int) (x2 : Int) (x3 : Int) (x4 : Int) (M : pj_M) (Q : Int → pj_M → Prop) : Prop :=
  (pj_in x2) ∧ ((x2 < 0 → Q (-1) M) ∧ (¬ x2 < 0 → (pj_in x2) ∧ ((3 < x2 → Q (-1) M) ∧ (¬ 3 < x2 → w_X4_has (pj_rf (pj_rf r0 2) 0) x1 M (fun (t4 : Int) (M3 : pj_M) => (pj_in t4) ∧ ((t4 = 0 → Q (-1) M3) ∧ (¬ t4 = 0 → w_X11_isPiece r0 x3 x4 M3 (fun (t7 : Int) (M6 : pj_M) => (pj_in t7) ∧ ((t7 = 0 → Q (-1) M6) ∧ (¬ t7 = 0 → w_X11_hasEdge r0 x3 x4 M6 (fun (t10 : Int) (M9 : pj_M) => (pj_in t10) ∧ ((t10 = 0 → w_X11_lineRead r0 M9 (fun (t13 : Nat) (M12 : pj_M) => w_X0_yieldsPart t13 x1 x2 x3 x4 M12 (fun (t15 : Int) (M14 : pj_M) => (pj_in t15) ∧ ((t15 = 0 → Q 0 M14) ∧ (¬ t15 = 0 → Q 1 M14))))) ∧ (¬ t10 = 0 → Q (-1) M9)))))))))))))
set_option maxRecDepth 20000 in
set_option maxHeartbeats 4000000 in
theorem s_X11_yields {l : Launch} {g : pj_G} (hg : pj_ph g = true) {r0 : Nat} {x1 : Int} {x2 : Int} {x3 : Int} {x4 : Int} {M : pj_M} {Q : Int → pj_M → Prop} (o0 : pj_ob r0 11) (h : w_X11_yields r0 x1 x2 x3 x4 M Q) : pj_S l g mdX11_yields [.ref r0, .int (pj_I x1), .int (pj_I x2), .int (pj_I x3), .int (pj_I x4)] pj_NK M (pj_qi Q) := by
  refine pj_ofR (ls := [(0, .ref r0), (1, .int (pj_I x1)), (2, .int (pj_I x2)), (3, .int (pj_I x3)), (4, .int (pj_I x4))]) gcX11_yields (by decide) rfl (Nat.le_of_ble_eq_true rfl) rfl ?_
  unfold w_X11_yields at h
  refine pj_iload_n 1 2 rfl rfl rfl rfl ?_
  obtain ⟨q1, h⟩ := h
  refine pj_if_lt 43 4 rfl (by decide) rfl q1  (fun hc => ?_) (fun hc => ?_)
  · replace h := h.1 hc
    refine pj_iconst 44 rfl rfl ?_
    exact pn_iret h rfl rfl
  · replace h := h.2 hc
    refine pj_iload_n 5 2 rfl rfl rfl rfl ?_
    refine pj_iconst 6 rfl rfl ?_
    obtain ⟨q2, h⟩ := h
    refine pj_icmp_gt 43 9 rfl (by decide) rfl q2 (show pj_in 3 by decide) (fun hc => ?_) (fun hc => ?_)
    · replace h := h.1 hc
      refine pj_iconst 44 rfl rfl ?_
      exact pn_iret h rfl rfl
    · replace h := h.2 hc
      refine pj_aload_n 10 0 rfl rfl rfl rfl ?_
      refine pn_getr 13 11 2 hg o0 (pr_11_2 o0).2 rfl pfX11_26 rfl rfl ?_
      refine pn_getr 16 1 0 hg (pr_11_2 o0) (pr_1_0 (pr_11_2 o0)).2 rfl pfX11_115 rfl rfl ?_
      refine pj_iload_n 17 1 rfl rfl rfl rfl ?_
      refine pn_callVi 20 4 [.int (pj_I x1)] [] (pr_1_0 (pr_11_2 o0)) (s_X4_has hg (pr_1_0 (pr_11_2 o0)) h) plX11_212 rfl rfl rfl rfl (Nat.le_of_ble_eq_true rfl) (by decide) (fun t4 M3 h => ?_)
      obtain ⟨q5, h⟩ := h
      refine pj_if_eq 43 23 rfl (by decide) rfl q5  (fun hc => ?_) (fun hc => ?_)
      · replace h := h.1 hc
        refine pj_iconst 44 rfl rfl ?_
        exact pn_iret h rfl rfl
      · replace h := h.2 hc
        refine pj_aload_n 24 0 rfl rfl rfl rfl ?_
        refine pj_iload_n 25 3 rfl rfl rfl rfl ?_
        refine pj_iload 27 4 rfl rfl rfl ?_
        refine pn_callVi 30 11 [.int (pj_I x3), .int (pj_I x4)] [] o0 (s_X11_isPiece hg o0 h) plX11_184 rfl rfl rfl rfl (Nat.le_of_ble_eq_true rfl) (by decide) (fun t7 M6 h => ?_)
        obtain ⟨q8, h⟩ := h
        refine pj_if_eq 43 33 rfl (by decide) rfl q8  (fun hc => ?_) (fun hc => ?_)
        · replace h := h.1 hc
          refine pj_iconst 44 rfl rfl ?_
          exact pn_iret h rfl rfl
        · replace h := h.2 hc
          refine pj_aload_n 34 0 rfl rfl rfl rfl ?_
          refine pj_iload_n 35 3 rfl rfl rfl rfl ?_
          refine pj_iload 37 4 rfl rfl rfl ?_
          refine pn_callVi 40 11 [.int (pj_I x3), .int (pj_I x4)] [] o0 (s_X11_hasEdge hg o0 h) plX11_213 rfl rfl rfl rfl (Nat.le_of_ble_eq_true rfl) (by decide) (fun t10 M9 h => ?_)
          obtain ⟨q11, h⟩ := h
          refine pj_if_eq 45 43 rfl (by decide) rfl q11  (fun hc => ?_) (fun hc => ?_)
          · replace h := h.1 hc
            refine pj_aload_n 46 0 rfl rfl rfl rfl ?_
            refine pn_callVr 49 11 [] [] o0 (s_X11_lineRead hg o0 h) plX11_188 rfl rfl rfl rfl (Nat.le_of_ble_eq_true rfl) (by decide) (fun t13 M12 ot13 h => ?_)
            refine pj_iload_n 50 1 rfl rfl rfl rfl ?_
            refine pj_iload_n 51 2 rfl rfl rfl rfl ?_
            refine pj_iload_n 52 3 rfl rfl rfl rfl ?_
            refine pj_iload 54 4 rfl rfl rfl ?_
            refine pn_callVi 57 0 [.int (pj_I x1), .int (pj_I x2), .int (pj_I x3), .int (pj_I x4)] [] ot13 (s_X0_yieldsPart hg ot13 h) plX11_216 rfl rfl rfl rfl (Nat.le_of_ble_eq_true rfl) (by decide) (fun t15 M14 h => ?_)
            obtain ⟨q16, h⟩ := h
            refine pj_if_eq 64 60 rfl (by decide) rfl q16  (fun hc => ?_) (fun hc => ?_)
            · replace h := h.1 hc
              refine pj_iconst 65 rfl rfl ?_
              exact pn_iret h rfl rfl
            · replace h := h.2 hc
              refine pj_iconst 61 rfl rfl ?_
              refine pj_goto 65 rfl (by decide) ?_
              exact pn_iret h rfl rfl
          · replace h := h.2 hc
            refine pj_iconst 44 rfl rfl ?_
            exact pn_iret h rfl rfl
def w_X11_tellPieces_7b (r0 : Nat)  (Q : Int → pj_M → Prop) (k7 : Int → pj_M → Prop) (x1 : Int) (M : pj_M) : Prop :=
  (pj_in x1) ∧ (pj_in (M (pj_rf r0 12) 2)) ∧ (((M (pj_rf r0 12) 2) ≤ x1 → Q (M (pj_rf r0 12) 2) M) ∧ (¬ (M (pj_rf r0 12) 2) ≤ x1 → ((0 : Int) ≤ x1 ∧ x1 < 16) ∧ (pj_in (M (pj_rf (pj_rf r0 12) 0) x1)) ∧ w_X11_tellMore r0 (M (pj_rf (pj_rf r0 12) 0) x1) M (fun (M6 : pj_M) => ((0 : Int) ≤ x1 ∧ x1 < 16) ∧ (pj_in (M6 (pj_rf (pj_rf r0 12) 1) x1)) ∧ w_X11_tellMore r0 (M6 (pj_rf (pj_rf r0 12) 1) x1) M6 (fun (M10 : pj_M) => k7 (x1 + 1) M10))))
def w_X11_tellPieces_7 (r0 : Nat)  (Q : Int → pj_M → Prop) (x1 : Int) (M : pj_M) : Prop := pj_lp (fun (k : Int × pj_M → Prop) (s : Int × pj_M) => w_X11_tellPieces_7b r0  Q (fun (x1 : Int) (M : pj_M) => k (x1, M)) s.1 s.2) (x1, M)
def w_X11_tellPieces (r0 : Nat) (M : pj_M) (Q : Int → pj_M → Prop) : Prop :=
  ∀ M1 : pj_M, M1 = pj_up M r0 15 0 → w_X11_tellPieces_7 r0  Q 0 M1
set_option maxRecDepth 20000 in
set_option maxHeartbeats 4000000 in
theorem s_X11_tellPieces_7b {l : Launch} {g : pj_G} (hg : pj_ph g = true) {r0 : Nat} {x1 : Int} {M : pj_M} {Q : Int → pj_M → Prop}  {k7 : Int → pj_M → Prop} (o0 : pj_ob r0 11)  (hk7 : ∀ (x1 : Int) (M : pj_M), k7 x1 M → pj_R l g mdX11_tellPieces pj_T (pj_Zm g mdX11_tellPieces (pj_qi Q)) pj_NK 0 0 7 [(0, .ref r0), (1, .int (pj_I x1))] [] M) (h : w_X11_tellPieces_7b r0  Q k7 x1 M) : pj_R l g mdX11_tellPieces pj_T (pj_Zm g mdX11_tellPieces (pj_qi Q)) pj_NK 0 0 7 [(0, .ref r0), (1, .int (pj_I x1))] [] M := by
  unfold w_X11_tellPieces_7b at h
  refine pj_iload_n 8 1 rfl rfl rfl rfl ?_
  refine pj_aload_n 9 0 rfl rfl rfl rfl ?_
  refine pn_getr 12 11 12 hg o0 (pr_11_12 o0).2 rfl pfX11_78 rfl rfl ?_
  refine pn_geti 15 8 2 2 (pr_11_12 o0) rfl pfX11_278 (Or.inl rfl) rfl rfl ?_
  obtain ⟨q2, h⟩ := h
  obtain ⟨q3, h⟩ := h
  refine pj_icmp_ge 52 18 rfl (by decide) rfl q2 q3 (fun hc => ?_) (fun hc => ?_)
  · replace h := h.1 hc
    refine pj_aload_n 53 0 rfl rfl rfl rfl ?_
    refine pn_getr 56 11 12 hg o0 (pr_11_12 o0).2 rfl pfX11_78 rfl rfl ?_
    refine pn_geti 59 8 2 2 (pr_11_12 o0) rfl pfX11_278 (Or.inl rfl) rfl rfl ?_
    exact pn_iret h rfl rfl
  · replace h := h.2 hc
    refine pj_aload_n 19 0 rfl rfl rfl rfl ?_
    refine pj_aload_n 20 0 rfl rfl rfl rfl ?_
    refine pn_getr 23 11 12 hg o0 (pr_11_12 o0).2 rfl pfX11_78 rfl rfl ?_
    refine pn_getr 26 8 0 hg (pr_11_12 o0) (pr_8_0 (pr_11_12 o0)).2 rfl pfX11_279 rfl rfl ?_
    refine pj_iload_n 27 1 rfl rfl rfl rfl ?_
    obtain ⟨q4, h⟩ := h
    refine pn_iald 28 16 (pr_8_0 (pr_11_12 o0)) q4 rfl rfl ?_
    obtain ⟨q5, h⟩ := h
    refine pj_i2l 29 rfl rfl q5 ?_
    refine pn_callVv 32 11 [.long (pj_L (M (pj_rf (pj_rf r0 12) 0) x1))] [] o0 (s_X11_tellMore hg o0 h) plX11_275 rfl rfl rfl rfl (Nat.le_of_ble_eq_true rfl) (by decide) (fun M6 h => ?_)
    refine pj_aload_n 33 0 rfl rfl rfl rfl ?_
    refine pj_aload_n 34 0 rfl rfl rfl rfl ?_
    refine pn_getr 37 11 12 hg o0 (pr_11_12 o0).2 rfl pfX11_78 rfl rfl ?_
    refine pn_getr 40 8 1 hg (pr_11_12 o0) (pr_8_1 (pr_11_12 o0)).2 rfl pfX11_282 rfl rfl ?_
    refine pj_iload_n 41 1 rfl rfl rfl rfl ?_
    obtain ⟨q8, h⟩ := h
    refine pn_iald 42 16 (pr_8_1 (pr_11_12 o0)) q8 rfl rfl ?_
    obtain ⟨q9, h⟩ := h
    refine pj_i2l 43 rfl rfl q9 ?_
    refine pn_callVv 46 11 [.long (pj_L (M6 (pj_rf (pj_rf r0 12) 1) x1))] [] o0 (s_X11_tellMore hg o0 h) plX11_275 rfl rfl rfl rfl (Nat.le_of_ble_eq_true rfl) (by decide) (fun M10 h => ?_)
    refine pj_iinc 49 1 (ls' := [(0, .ref r0), (1, .int (pj_I (x1 + 1)))]) rfl rfl (by decide) rfl rfl ?_
    refine pj_goto 7 rfl (by decide) ?_
    refine pn_sub [0, 1] rfl ?_
    exact hk7 _ _ h
set_option maxRecDepth 20000 in
set_option maxHeartbeats 4000000 in
theorem s_X11_tellPieces_7 {l : Launch} {g : pj_G} (hg : pj_ph g = true) {r0 : Nat} {x1 : Int} {M : pj_M} {Q : Int → pj_M → Prop}  (o0 : pj_ob r0 11)  (h : w_X11_tellPieces_7 r0  Q x1 M) : pj_R l g mdX11_tellPieces pj_T (pj_Zm g mdX11_tellPieces (pj_qi Q)) pj_NK 0 0 7 [(0, .ref r0), (1, .int (pj_I x1))] [] M :=
  h (fun s => pj_R l g mdX11_tellPieces pj_T (pj_Zm g mdX11_tellPieces (pj_qi Q)) pj_NK 0 0 7 [(0, .ref r0), (1, .int (pj_I (s.1)))] [] s.2) (fun s hs => s_X11_tellPieces_7b hg o0  (fun _ _ q => q) hs)
set_option maxRecDepth 20000 in
set_option maxHeartbeats 4000000 in
theorem s_X11_tellPieces {l : Launch} {g : pj_G} (hg : pj_ph g = true) {r0 : Nat} {M : pj_M} {Q : Int → pj_M → Prop} (o0 : pj_ob r0 11) (h : w_X11_tellPieces r0 M Q) : pj_S l g mdX11_tellPieces [.ref r0] pj_NK M (pj_qi Q) := by
  refine pj_ofR (ls := [(0, .ref r0)]) gcX11_tellPieces (by decide) rfl (Nat.le_of_ble_eq_true rfl) rfl ?_
  unfold w_X11_tellPieces at h
  refine pj_aload_n 1 0 rfl rfl rfl rfl ?_
  refine pj_iconst 2 rfl rfl ?_
  refine pn_puti 5 11 15 15 o0  rfl pfX11_272 rfl rfl rfl (fun M1 hM1 => ?_)
  replace h := h M1 hM1
  refine pj_iconst 6 rfl rfl ?_
  refine pj_istore_n 7 (ls' := [(0, .ref r0), (1, .int (pj_I 0))]) rfl rfl (by decide) rfl rfl ?_
  refine pn_sub [0, 1] rfl ?_
  exact s_X11_tellPieces_7 hg o0   h
def w_X11_report (r0 : Nat) (M : pj_M) (Q : Int → pj_M → Prop) : Prop :=
  w_X11_lineRead r0 M (fun (t2 : Nat) (M1 : pj_M) => w_X8_fromLeft (pj_rf r0 12) t2 0 M1 (fun (M3 : pj_M) => w_X11_tellPieces r0 M3 (fun (t6 : Int) (M5 : pj_M) => Q t6 M5)))
set_option maxRecDepth 20000 in
set_option maxHeartbeats 4000000 in
theorem s_X11_report {l : Launch} {g : pj_G} (hg : pj_ph g = true) {r0 : Nat} {M : pj_M} {Q : Int → pj_M → Prop} (o0 : pj_ob r0 11) (h : w_X11_report r0 M Q) : pj_S l g mdX11_report [.ref r0] pj_NK M (pj_qi Q) := by
  refine pj_ofR (ls := [(0, .ref r0)]) gcX11_report (by decide) rfl (Nat.le_of_ble_eq_true rfl) rfl ?_
  unfold w_X11_report at h
  refine pj_aload_n 1 0 rfl rfl rfl rfl ?_
  refine pn_getr 4 11 12 hg o0 (pr_11_12 o0).2 rfl pfX11_78 rfl rfl ?_
  refine pj_aload_n 5 0 rfl rfl rfl rfl ?_
  refine pn_callVr 8 11 [] [.ref (pj_rf r0 12)] o0 (s_X11_lineRead hg o0 h) plX11_188 rfl rfl rfl rfl (Nat.le_of_ble_eq_true rfl) (by decide) (fun t2 M1 ot2 h => ?_)
  refine pj_iconst 9 rfl rfl ?_
  refine pn_callVv 12 8 [.ref t2, .int (pj_I 0)] [] (pr_11_12 o0) (s_X8_fromLeft hg (pr_11_12 o0) ot2 h) plX11_233 rfl rfl rfl rfl (Nat.le_of_ble_eq_true rfl) (by decide) (fun M3 h => ?_)
  refine pj_aload_n 13 0 rfl rfl rfl rfl ?_
  refine pn_callVi 16 11 [] [] o0 (s_X11_tellPieces hg o0 h) plX11_237 rfl rfl rfl rfl (Nat.le_of_ble_eq_true rfl) (by decide) (fun t6 M5 h => ?_)
  exact pn_iret h rfl rfl
def w_X11_backwards (r0 : Nat) (M : pj_M) (Q : Int → pj_M → Prop) : Prop :=
  w_X11_lineRead r0 M (fun (t2 : Nat) (M1 : pj_M) => w_X8_fromRight (pj_rf r0 12) t2 M1 (fun (M3 : pj_M) => w_X11_tellPieces r0 M3 (fun (t6 : Int) (M5 : pj_M) => Q t6 M5)))
set_option maxRecDepth 20000 in
set_option maxHeartbeats 4000000 in
theorem s_X11_backwards {l : Launch} {g : pj_G} (hg : pj_ph g = true) {r0 : Nat} {M : pj_M} {Q : Int → pj_M → Prop} (o0 : pj_ob r0 11) (h : w_X11_backwards r0 M Q) : pj_S l g mdX11_backwards [.ref r0] pj_NK M (pj_qi Q) := by
  refine pj_ofR (ls := [(0, .ref r0)]) gcX11_backwards (by decide) rfl (Nat.le_of_ble_eq_true rfl) rfl ?_
  unfold w_X11_backwards at h
  refine pj_aload_n 1 0 rfl rfl rfl rfl ?_
  refine pn_getr 4 11 12 hg o0 (pr_11_12 o0).2 rfl pfX11_78 rfl rfl ?_
  refine pj_aload_n 5 0 rfl rfl rfl rfl ?_
  refine pn_callVr 8 11 [] [.ref (pj_rf r0 12)] o0 (s_X11_lineRead hg o0 h) plX11_188 rfl rfl rfl rfl (Nat.le_of_ble_eq_true rfl) (by decide) (fun t2 M1 ot2 h => ?_)
  refine pn_callVv 11 8 [.ref t2] [] (pr_11_12 o0) (s_X8_fromRight hg (pr_11_12 o0) ot2 h) plX11_240 rfl rfl rfl rfl (Nat.le_of_ble_eq_true rfl) (by decide) (fun M3 h => ?_)
  refine pj_aload_n 12 0 rfl rfl rfl rfl ?_
  refine pn_callVi 15 11 [] [] o0 (s_X11_tellPieces hg o0 h) plX11_237 rfl rfl rfl rfl (Nat.le_of_ble_eq_true rfl) (by decide) (fun t6 M5 h => ?_)
  exact pn_iret h rfl rfl
def w_X11_led (r0 : Nat) (M : pj_M) (Q : Int → pj_M → Prop) : Prop :=
  w_X8_findMates (pj_rf r0 12) (pj_rf r0 2) M (fun (M1 : pj_M) => w_X11_lineRead r0 M1 (fun (t4 : Nat) (M3 : pj_M) => w_X8_fromLeft (pj_rf r0 12) t4 1 M3 (fun (M5 : pj_M) => w_X11_tellPieces r0 M5 (fun (t8 : Int) (M7 : pj_M) => Q t8 M7))))
set_option maxRecDepth 20000 in
set_option maxHeartbeats 4000000 in
theorem s_X11_led {l : Launch} {g : pj_G} (hg : pj_ph g = true) {r0 : Nat} {M : pj_M} {Q : Int → pj_M → Prop} (o0 : pj_ob r0 11) (h : w_X11_led r0 M Q) : pj_S l g mdX11_led [.ref r0] pj_NK M (pj_qi Q) := by
  refine pj_ofR (ls := [(0, .ref r0)]) gcX11_led (by decide) rfl (Nat.le_of_ble_eq_true rfl) rfl ?_
  unfold w_X11_led at h
  refine pj_aload_n 1 0 rfl rfl rfl rfl ?_
  refine pn_getr 4 11 12 hg o0 (pr_11_12 o0).2 rfl pfX11_78 rfl rfl ?_
  refine pj_aload_n 5 0 rfl rfl rfl rfl ?_
  refine pn_getr 8 11 2 hg o0 (pr_11_2 o0).2 rfl pfX11_26 rfl rfl ?_
  refine pn_callVv 11 8 [.ref (pj_rf r0 2)] [] (pr_11_12 o0) (s_X8_findMates hg (pr_11_12 o0) (pr_11_2 o0) h) plX11_244 rfl rfl rfl rfl (Nat.le_of_ble_eq_true rfl) (by decide) (fun M1 h => ?_)
  refine pj_aload_n 12 0 rfl rfl rfl rfl ?_
  refine pn_getr 15 11 12 hg o0 (pr_11_12 o0).2 rfl pfX11_78 rfl rfl ?_
  refine pj_aload_n 16 0 rfl rfl rfl rfl ?_
  refine pn_callVr 19 11 [] [.ref (pj_rf r0 12)] o0 (s_X11_lineRead hg o0 h) plX11_188 rfl rfl rfl rfl (Nat.le_of_ble_eq_true rfl) (by decide) (fun t4 M3 ot4 h => ?_)
  refine pj_iconst 20 rfl rfl ?_
  refine pn_callVv 23 8 [.ref t4, .int (pj_I 1)] [] (pr_11_12 o0) (s_X8_fromLeft hg (pr_11_12 o0) ot4 h) plX11_233 rfl rfl rfl rfl (Nat.le_of_ble_eq_true rfl) (by decide) (fun M5 h => ?_)
  refine pj_aload_n 24 0 rfl rfl rfl rfl ?_
  refine pn_callVi 27 11 [] [] o0 (s_X11_tellPieces hg o0 h) plX11_237 rfl rfl rfl rfl (Nat.le_of_ble_eq_true rfl) (by decide) (fun t8 M7 h => ?_)
  exact pn_iret h rfl rfl
def w_X11_least (r0 : Nat) (M : pj_M) (Q : Int → pj_M → Prop) : Prop :=
  w_X11_lineRead r0 M (fun (t2 : Nat) (M1 : pj_M) => w_X8_leastOnes (pj_rf r0 12) t2 M1 (fun (M3 : pj_M) => w_X11_tellPieces r0 M3 (fun (t6 : Int) (M5 : pj_M) => Q t6 M5)))
set_option maxRecDepth 20000 in
set_option maxHeartbeats 4000000 in
theorem s_X11_least {l : Launch} {g : pj_G} (hg : pj_ph g = true) {r0 : Nat} {M : pj_M} {Q : Int → pj_M → Prop} (o0 : pj_ob r0 11) (h : w_X11_least r0 M Q) : pj_S l g mdX11_least [.ref r0] pj_NK M (pj_qi Q) := by
  refine pj_ofR (ls := [(0, .ref r0)]) gcX11_least (by decide) rfl (Nat.le_of_ble_eq_true rfl) rfl ?_
  unfold w_X11_least at h
  refine pj_aload_n 1 0 rfl rfl rfl rfl ?_
  refine pn_getr 4 11 12 hg o0 (pr_11_12 o0).2 rfl pfX11_78 rfl rfl ?_
  refine pj_aload_n 5 0 rfl rfl rfl rfl ?_
  refine pn_callVr 8 11 [] [.ref (pj_rf r0 12)] o0 (s_X11_lineRead hg o0 h) plX11_188 rfl rfl rfl rfl (Nat.le_of_ble_eq_true rfl) (by decide) (fun t2 M1 ot2 h => ?_)
  refine pn_callVv 11 8 [.ref t2] [] (pr_11_12 o0) (s_X8_leastOnes hg (pr_11_12 o0) ot2 h) plX11_247 rfl rfl rfl rfl (Nat.le_of_ble_eq_true rfl) (by decide) (fun M3 h => ?_)
  refine pj_aload_n 12 0 rfl rfl rfl rfl ?_
  refine pn_callVi 15 11 [] [] o0 (s_X11_tellPieces hg o0 h) plX11_237 rfl rfl rfl rfl (Nat.le_of_ble_eq_true rfl) (by decide) (fun t6 M5 h => ?_)
  exact pn_iret h rfl rfl
def w_X11_mate_55 (x2 : Int) (u0 : Nat) (y1 : Int)  (Q : Int → pj_M → Prop) (M : pj_M) : Prop :=
  w_X11_tellOne u0 y1 M (fun (M11 : pj_M) => Q x2 M11)
def w_X11_mate (r0 : Nat) (x1 : Int) (M : pj_M) (Q : Int → pj_M → Prop) : Prop :=
  w_X7_has (pj_rf (pj_rf r0 2) 1) x1 M (fun (t2 : Int) (M1 : pj_M) => (pj_in t2) ∧ ((¬ t2 = 0 → w_X8_findMates (pj_rf r0 12) (pj_rf r0 2) M1 (fun (M4 : pj_M) => ((0 : Int) ≤ x1 ∧ x1 < 16) ∧ ∀ z7 : Int, z7 = (M4 (pj_rf (pj_rf r0 12) 3) x1) → (pj_in z7) ∧ ((¬ z7 = 0 → (pj_in z7) ∧ (pj_in x1) ∧ ((x1 ≤ z7 → w_X11_mate_55 z7 r0 0  Q M4) ∧ (¬ x1 ≤ z7 → w_X11_mate_55 z7 r0 1  Q M4))) ∧ (z7 = 0 → Q (-2) M4)))) ∧ (t2 = 0 → Q (-1) M1)))
set_option maxRecDepth 20000 in
set_option maxHeartbeats 4000000 in
theorem s_X11_mate_55 {l : Launch} {g : pj_G} (hg : pj_ph g = true) {x2 : Int} {u0 : Nat} {y1 : Int} {M : pj_M} {Q : Int → pj_M → Prop}  (ou0 : pj_ob u0 11)  (h : w_X11_mate_55 x2 u0 y1  Q M) : pj_R l g mdX11_mate pj_T (pj_Zm g mdX11_mate (pj_qi Q)) pj_NK 0 0 55 [(2, .int (pj_I x2))] [.long (pj_L y1), .ref u0] M := by
  unfold w_X11_mate_55 at h
  refine pn_callVv 58 11 [.long (pj_L y1)] [] ou0 (s_X11_tellOne hg ou0 h) plX11_229 rfl rfl rfl rfl (Nat.le_of_ble_eq_true rfl) (by decide) (fun M11 h => ?_)
  refine pj_iload_n 59 0 rfl rfl rfl rfl ?_
  exact pn_iret h rfl rfl
set_option maxRecDepth 20000 in
set_option maxHeartbeats 4000000 in
theorem s_X11_mate {l : Launch} {g : pj_G} (hg : pj_ph g = true) {r0 : Nat} {x1 : Int} {M : pj_M} {Q : Int → pj_M → Prop} (o0 : pj_ob r0 11) (h : w_X11_mate r0 x1 M Q) : pj_S l g mdX11_mate [.ref r0, .int (pj_I x1)] pj_NK M (pj_qi Q) := by
  refine pj_ofR (ls := [(0, .ref r0), (1, .int (pj_I x1))]) gcX11_mate (by decide) rfl (Nat.le_of_ble_eq_true rfl) rfl ?_
  unfold w_X11_mate at h
  refine pj_aload_n 1 0 rfl rfl rfl rfl ?_
  refine pn_getr 4 11 2 hg o0 (pr_11_2 o0).2 rfl pfX11_26 rfl rfl ?_
  refine pn_getr 7 1 1 hg (pr_11_2 o0) (pr_1_1 (pr_11_2 o0)).2 rfl pfX11_132 rfl rfl ?_
  refine pj_iload_n 8 1 rfl rfl rfl rfl ?_
  refine pn_callVi 11 7 [.int (pj_I x1)] [] (pr_1_1 (pr_11_2 o0)) (s_X7_has hg (pr_1_1 (pr_11_2 o0)) h) plX11_170 rfl rfl rfl rfl (Nat.le_of_ble_eq_true rfl) (by decide) (fun t2 M1 h => ?_)
  obtain ⟨q3, h⟩ := h
  refine pj_if_ne 16 14 rfl (by decide) rfl q3  (fun hc => ?_) (fun hc => ?_)
  · replace h := h.1 hc
    refine pj_aload_n 17 0 rfl rfl rfl rfl ?_
    refine pn_getr 20 11 12 hg o0 (pr_11_12 o0).2 rfl pfX11_78 rfl rfl ?_
    refine pj_aload_n 21 0 rfl rfl rfl rfl ?_
    refine pn_getr 24 11 2 hg o0 (pr_11_2 o0).2 rfl pfX11_26 rfl rfl ?_
    refine pn_callVv 27 8 [.ref (pj_rf r0 2)] [] (pr_11_12 o0) (s_X8_findMates hg (pr_11_12 o0) (pr_11_2 o0) h) plX11_244 rfl rfl rfl rfl (Nat.le_of_ble_eq_true rfl) (by decide) (fun M4 h => ?_)
    refine pj_aload_n 28 0 rfl rfl rfl rfl ?_
    refine pn_getr 31 11 12 hg o0 (pr_11_12 o0).2 rfl pfX11_78 rfl rfl ?_
    refine pn_getr 34 8 3 hg (pr_11_12 o0) (pr_8_3 (pr_11_12 o0)).2 rfl pfX11_250 rfl rfl ?_
    refine pj_iload_n 35 1 rfl rfl rfl rfl ?_
    obtain ⟨q6, h⟩ := h
    refine pn_iald 36 16 (pr_8_3 (pr_11_12 o0)) q6 rfl rfl ?_
    refine pn_nm (fun z7 hz7 => ?_)
    replace h := h z7 hz7
    refine pj_istore_n 37 (ls' := [(0, .ref r0), (1, .int (pj_I x1)), (2, .int (pj_I z7))]) rfl rfl (by decide) rfl rfl ?_
    refine pj_iload_n 38 2 rfl rfl rfl rfl ?_
    obtain ⟨q8, h⟩ := h
    refine pj_if_ne 44 41 rfl (by decide) rfl q8  (fun hc => ?_) (fun hc => ?_)
    · replace h := h.1 hc
      refine pj_aload_n 45 0 rfl rfl rfl rfl ?_
      refine pj_iload_n 46 2 rfl rfl rfl rfl ?_
      refine pj_iload_n 47 1 rfl rfl rfl rfl ?_
      obtain ⟨q9, h⟩ := h
      obtain ⟨q10, h⟩ := h
      refine pj_icmp_ge 54 50 rfl (by decide) rfl q9 q10 (fun hc => ?_) (fun hc => ?_)
      · replace h := h.1 hc
        refine pj_lconst 55 0 rfl (by decide) rfl ?_
        refine pn_sub [2] rfl ?_
        exact s_X11_mate_55 hg  o0  h
      · replace h := h.2 hc
        refine pj_lconst 51 1 rfl (by decide) rfl ?_
        refine pj_goto 55 rfl (by decide) ?_
        refine pn_sub [2] rfl ?_
        exact s_X11_mate_55 hg  o0  h
    · replace h := h.2 (Classical.not_not.mp hc)
      refine pj_bipush 43 rfl (by decide) rfl ?_
      exact pn_iret h rfl rfl
  · replace h := h.2 (Classical.not_not.mp hc)
    refine pj_iconst 15 rfl rfl ?_
    exact pn_iret h rfl rfl
def w_X11_piecesOf (r0 : Nat) (r1 : Nat) (r2 : Nat) (M : pj_M) (Q : Int → pj_M → Prop) : Prop :=
  w_X0_read r1 (pj_rf (pj_rf r0 2) 0) r2 0 M (fun (M1 : pj_M) => w_X8_fromLeft (pj_rf r0 12) r1 0 M1 (fun (M3 : pj_M) => Q (M3 (pj_rf r0 12) 2) M3))
set_option maxRecDepth 20000 in
set_option maxHeartbeats 4000000 in
theorem s_X11_piecesOf {l : Launch} {g : pj_G} (hg : pj_ph g = true) {r0 : Nat} {r1 : Nat} {r2 : Nat} {M : pj_M} {Q : Int → pj_M → Prop} (o0 : pj_ob r0 11) (o1 : pj_ob r1 0) (o2 : pj_ob r2 7) (h : w_X11_piecesOf r0 r1 r2 M Q) : pj_S l g mdX11_piecesOf [.ref r0, .ref r1, .ref r2] pj_NK M (pj_qi Q) := by
  refine pj_ofR (ls := [(0, .ref r0), (1, .ref r1), (2, .ref r2)]) gcX11_piecesOf (by decide) rfl (Nat.le_of_ble_eq_true rfl) rfl ?_
  unfold w_X11_piecesOf at h
  refine pj_aload_n 1 1 rfl rfl rfl rfl ?_
  refine pj_aload_n 2 0 rfl rfl rfl rfl ?_
  refine pn_getr 5 11 2 hg o0 (pr_11_2 o0).2 rfl pfX11_26 rfl rfl ?_
  refine pn_getr 8 1 0 hg (pr_11_2 o0) (pr_1_0 (pr_11_2 o0)).2 rfl pfX11_115 rfl rfl ?_
  refine pj_aload_n 9 2 rfl rfl rfl rfl ?_
  refine pj_iconst 10 rfl rfl ?_
  refine pn_callVv 13 0 [.ref (pj_rf (pj_rf r0 2) 0), .ref r2, .int (pj_I 0)] [] o1 (s_X0_read hg o1 (pr_1_0 (pr_11_2 o0)) o2 h) plX11_209 rfl rfl rfl rfl (Nat.le_of_ble_eq_true rfl) (by decide) (fun M1 h => ?_)
  refine pj_aload_n 14 0 rfl rfl rfl rfl ?_
  refine pn_getr 17 11 12 hg o0 (pr_11_12 o0).2 rfl pfX11_78 rfl rfl ?_
  refine pj_aload_n 18 1 rfl rfl rfl rfl ?_
  refine pj_iconst 19 rfl rfl ?_
  refine pn_callVv 22 8 [.ref r1, .int (pj_I 0)] [] (pr_11_12 o0) (s_X8_fromLeft hg (pr_11_12 o0) o1 h) plX11_233 rfl rfl rfl rfl (Nat.le_of_ble_eq_true rfl) (by decide) (fun M3 h => ?_)
  refine pj_aload_n 23 0 rfl rfl rfl rfl ?_
  refine pn_getr 26 11 12 hg o0 (pr_11_12 o0).2 rfl pfX11_78 rfl rfl ?_
  refine pn_geti 29 8 2 2 (pr_11_12 o0) rfl pfX11_278 (Or.inl rfl) rfl rfl ?_
  exact pn_iret h rfl rfl
def w_X11_needed (r0 : Nat) (M : pj_M) (Q : Int → pj_M → Prop) : Prop :=
  w_X11_piecesOf r0 (pj_rf r0 8) (pj_rf (pj_rf r0 2) 1) M (fun (t2 : Int) (M1 : pj_M) => (pj_in t2) ∧ w_X11_tellOne r0 t2 M1 (fun (M4 : pj_M) => w_X2_measure (pj_rf r0 11) (pj_rf r0 8) (pj_rf (pj_rf r0 2) 1) M4 (fun (t7 : Int) (M6 : pj_M) => Q t7 M6)))
set_option maxRecDepth 20000 in
set_option maxHeartbeats 4000000 in
theorem s_X11_needed {l : Launch} {g : pj_G} (hg : pj_ph g = true) {r0 : Nat} {M : pj_M} {Q : Int → pj_M → Prop} (o0 : pj_ob r0 11) (h : w_X11_needed r0 M Q) : pj_S l g mdX11_needed [.ref r0] pj_NK M (pj_qi Q) := by
  refine pj_ofR (ls := [(0, .ref r0)]) gcX11_needed (by decide) rfl (Nat.le_of_ble_eq_true rfl) rfl ?_
  unfold w_X11_needed at h
  refine pj_aload_n 1 0 rfl rfl rfl rfl ?_
  refine pj_aload_n 2 0 rfl rfl rfl rfl ?_
  refine pj_aload_n 3 0 rfl rfl rfl rfl ?_
  refine pn_getr 6 11 8 hg o0 (pr_11_8 o0).2 rfl pfX11_58 rfl rfl ?_
  refine pj_aload_n 7 0 rfl rfl rfl rfl ?_
  refine pn_getr 10 11 2 hg o0 (pr_11_2 o0).2 rfl pfX11_26 rfl rfl ?_
  refine pn_getr 13 1 1 hg (pr_11_2 o0) (pr_1_1 (pr_11_2 o0)).2 rfl pfX11_132 rfl rfl ?_
  refine pn_callVi 16 11 [.ref (pj_rf r0 8), .ref (pj_rf (pj_rf r0 2) 1)] [.ref r0] o0 (s_X11_piecesOf hg o0 (pr_11_8 o0) (pr_1_1 (pr_11_2 o0)) h) plX11_253 rfl rfl rfl rfl (Nat.le_of_ble_eq_true rfl) (by decide) (fun t2 M1 h => ?_)
  obtain ⟨q3, h⟩ := h
  refine pj_i2l 17 rfl rfl q3 ?_
  refine pn_callVv 20 11 [.long (pj_L t2)] [] o0 (s_X11_tellOne hg o0 h) plX11_229 rfl rfl rfl rfl (Nat.le_of_ble_eq_true rfl) (by decide) (fun M4 h => ?_)
  refine pj_aload_n 21 0 rfl rfl rfl rfl ?_
  refine pn_getr 24 11 11 hg o0 (pr_11_11 o0).2 rfl pfX11_71 rfl rfl ?_
  refine pj_aload_n 25 0 rfl rfl rfl rfl ?_
  refine pn_getr 28 11 8 hg o0 (pr_11_8 o0).2 rfl pfX11_58 rfl rfl ?_
  refine pj_aload_n 29 0 rfl rfl rfl rfl ?_
  refine pn_getr 32 11 2 hg o0 (pr_11_2 o0).2 rfl pfX11_26 rfl rfl ?_
  refine pn_getr 35 1 1 hg (pr_11_2 o0) (pr_1_1 (pr_11_2 o0)).2 rfl pfX11_132 rfl rfl ?_
  refine pn_callVi 38 2 [.ref (pj_rf r0 8), .ref (pj_rf (pj_rf r0 2) 1)] [] (pr_11_11 o0) (s_X2_measure hg (pr_11_11 o0) (pr_11_8 o0) (pr_1_1 (pr_11_2 o0)) h) plX11_257 rfl rfl rfl rfl (Nat.le_of_ble_eq_true rfl) (by decide) (fun t7 M6 h => ?_)
  exact pn_iret h rfl rfl
def w_X11_without (r0 : Nat) (x1 : Int) (M : pj_M) (Q : Int → pj_M → Prop) : Prop :=
  w_X7_has (pj_rf (pj_rf r0 2) 1) x1 M (fun (t2 : Int) (M1 : pj_M) => (pj_in t2) ∧ ((¬ t2 = 0 → w_X11_piecesOf r0 (pj_rf r0 8) (pj_rf (pj_rf r0 2) 1) M1 (fun (t5 : Int) (M4 : pj_M) => w_X7_copyWithout (pj_rf r0 4) (pj_rf (pj_rf r0 2) 1) x1 M4 (fun (M6 : pj_M) => w_X11_piecesOf r0 (pj_rf r0 9) (pj_rf r0 4) M6 (fun (t9 : Int) (M8 : pj_M) => (pj_in (t5 - t9)) ∧ w_X11_tellOne r0 (t5 - t9) M8 (fun (M11 : pj_M) => Q t9 M11))))) ∧ (t2 = 0 → Q (-1) M1)))
set_option maxRecDepth 20000 in
set_option maxHeartbeats 4000000 in
theorem s_X11_without {l : Launch} {g : pj_G} (hg : pj_ph g = true) {r0 : Nat} {x1 : Int} {M : pj_M} {Q : Int → pj_M → Prop} (o0 : pj_ob r0 11) (h : w_X11_without r0 x1 M Q) : pj_S l g mdX11_without [.ref r0, .int (pj_I x1)] pj_NK M (pj_qi Q) := by
  refine pj_ofR (ls := [(0, .ref r0), (1, .int (pj_I x1))]) gcX11_without (by decide) rfl (Nat.le_of_ble_eq_true rfl) rfl ?_
  unfold w_X11_without at h
  refine pj_aload_n 1 0 rfl rfl rfl rfl ?_
  refine pn_getr 4 11 2 hg o0 (pr_11_2 o0).2 rfl pfX11_26 rfl rfl ?_
  refine pn_getr 7 1 1 hg (pr_11_2 o0) (pr_1_1 (pr_11_2 o0)).2 rfl pfX11_132 rfl rfl ?_
  refine pj_iload_n 8 1 rfl rfl rfl rfl ?_
  refine pn_callVi 11 7 [.int (pj_I x1)] [] (pr_1_1 (pr_11_2 o0)) (s_X7_has hg (pr_1_1 (pr_11_2 o0)) h) plX11_170 rfl rfl rfl rfl (Nat.le_of_ble_eq_true rfl) (by decide) (fun t2 M1 h => ?_)
  obtain ⟨q3, h⟩ := h
  refine pj_if_ne 16 14 rfl (by decide) rfl q3  (fun hc => ?_) (fun hc => ?_)
  · replace h := h.1 hc
    refine pj_aload_n 17 0 rfl rfl rfl rfl ?_
    refine pj_aload_n 18 0 rfl rfl rfl rfl ?_
    refine pn_getr 21 11 8 hg o0 (pr_11_8 o0).2 rfl pfX11_58 rfl rfl ?_
    refine pj_aload_n 22 0 rfl rfl rfl rfl ?_
    refine pn_getr 25 11 2 hg o0 (pr_11_2 o0).2 rfl pfX11_26 rfl rfl ?_
    refine pn_getr 28 1 1 hg (pr_11_2 o0) (pr_1_1 (pr_11_2 o0)).2 rfl pfX11_132 rfl rfl ?_
    refine pn_callVi 31 11 [.ref (pj_rf r0 8), .ref (pj_rf (pj_rf r0 2) 1)] [] o0 (s_X11_piecesOf hg o0 (pr_11_8 o0) (pr_1_1 (pr_11_2 o0)) h) plX11_253 rfl rfl rfl rfl (Nat.le_of_ble_eq_true rfl) (by decide) (fun t5 M4 h => ?_)
    refine pj_istore_n 32 (ls' := [(0, .ref r0), (1, .int (pj_I x1)), (2, .int (pj_I t5))]) rfl rfl (by decide) rfl rfl ?_
    refine pj_aload_n 33 0 rfl rfl rfl rfl ?_
    refine pn_getr 36 11 4 hg o0 (pr_11_4 o0).2 rfl pfX11_36 rfl rfl ?_
    refine pj_aload_n 37 0 rfl rfl rfl rfl ?_
    refine pn_getr 40 11 2 hg o0 (pr_11_2 o0).2 rfl pfX11_26 rfl rfl ?_
    refine pn_getr 43 1 1 hg (pr_11_2 o0) (pr_1_1 (pr_11_2 o0)).2 rfl pfX11_132 rfl rfl ?_
    refine pj_iload_n 44 1 rfl rfl rfl rfl ?_
    refine pn_callVv 47 7 [.ref (pj_rf (pj_rf r0 2) 1), .int (pj_I x1)] [] (pr_11_4 o0) (s_X7_copyWithout hg (pr_11_4 o0) (pr_1_1 (pr_11_2 o0)) h) plX11_260 rfl rfl rfl rfl (Nat.le_of_ble_eq_true rfl) (by decide) (fun M6 h => ?_)
    refine pj_aload_n 48 0 rfl rfl rfl rfl ?_
    refine pj_aload_n 49 0 rfl rfl rfl rfl ?_
    refine pn_getr 52 11 9 hg o0 (pr_11_9 o0).2 rfl pfX11_62 rfl rfl ?_
    refine pj_aload_n 53 0 rfl rfl rfl rfl ?_
    refine pn_getr 56 11 4 hg o0 (pr_11_4 o0).2 rfl pfX11_36 rfl rfl ?_
    refine pn_callVi 59 11 [.ref (pj_rf r0 9), .ref (pj_rf r0 4)] [] o0 (s_X11_piecesOf hg o0 (pr_11_9 o0) (pr_11_4 o0) h) plX11_253 rfl rfl rfl rfl (Nat.le_of_ble_eq_true rfl) (by decide) (fun t9 M8 h => ?_)
    refine pj_istore_n 60 (ls' := [(0, .ref r0), (1, .int (pj_I x1)), (2, .int (pj_I t5)), (3, .int (pj_I t9))]) rfl rfl (by decide) rfl rfl ?_
    refine pj_aload_n 61 0 rfl rfl rfl rfl ?_
    refine pj_iload_n 62 2 rfl rfl rfl rfl ?_
    refine pj_iload_n 63 3 rfl rfl rfl rfl ?_
    refine pj_isub 64 rfl rfl ?_
    obtain ⟨q10, h⟩ := h
    refine pj_i2l 65 rfl rfl q10 ?_
    refine pn_callVv 68 11 [.long (pj_L (t5 - t9))] [] o0 (s_X11_tellOne hg o0 h) plX11_229 rfl rfl rfl rfl (Nat.le_of_ble_eq_true rfl) (by decide) (fun M11 h => ?_)
    refine pj_iload_n 69 3 rfl rfl rfl rfl ?_
    exact pn_iret h rfl rfl
  · replace h := h.2 (Classical.not_not.mp hc)
    refine pj_iconst 15 rfl rfl ?_
    exact pn_iret h rfl rfl
def w_X11_blames_8b (r0 : Nat)  (Q : Int → pj_M → Prop) (k8 : Int → Int → Int → pj_M → Prop) (x1 : Int) (x2 : Int) (x3 : Int) (M : pj_M) : Prop :=
  (pj_in x3) ∧ (pj_in (M (pj_rf (pj_rf r0 2) 1) 1)) ∧ (((M (pj_rf (pj_rf r0 2) 1) 1) < x3 → (pj_in x1) ∧ ((¬ x1 = 0 → (pj_in x2) ∧ w_X11_tellOne r0 x2 M (fun (M5 : pj_M) => Q x1 M5)) ∧ (x1 = 0 → Q (-2) M))) ∧ (¬ (M (pj_rf (pj_rf r0 2) 1) 1) < x3 → w_X7_copyWithout (pj_rf r0 4) (pj_rf (pj_rf r0 2) 1) x3 M (fun (M7 : pj_M) => w_X11_piecesOf r0 (pj_rf r0 9) (pj_rf r0 4) M7 (fun (t10 : Int) (M9 : pj_M) => (pj_in t10) ∧ (pj_in x2) ∧ ((x2 ≤ t10 → k8 x1 x2 (x3 + 1) M9) ∧ (¬ x2 ≤ t10 → k8 x3 t10 (x3 + 1) M9))))))
def w_X11_blames_8 (r0 : Nat)  (Q : Int → pj_M → Prop) (x1 : Int) (x2 : Int) (x3 : Int) (M : pj_M) : Prop := pj_lp (fun (k : Int × Int × Int × pj_M → Prop) (s : Int × Int × Int × pj_M) => w_X11_blames_8b r0  Q (fun (x1 : Int) (x2 : Int) (x3 : Int) (M : pj_M) => k (x1, x2, x3, M)) s.1 s.2.1 s.2.2.1 s.2.2.2) (x1, x2, x3, M)
def w_X11_blames (r0 : Nat) (M : pj_M) (Q : Int → pj_M → Prop) : Prop :=
  w_X11_blames_8 r0  Q 0 1048576 1 M
set_option maxRecDepth 20000 in
set_option maxHeartbeats 4000000 in
theorem s_X11_blames_8b {l : Launch} {g : pj_G} (hg : pj_ph g = true) {r0 : Nat} {x1 : Int} {x2 : Int} {x3 : Int} {M : pj_M} {Q : Int → pj_M → Prop}  {k8 : Int → Int → Int → pj_M → Prop} (o0 : pj_ob r0 11)  (hk8 : ∀ (x1 : Int) (x2 : Int) (x3 : Int) (M : pj_M), k8 x1 x2 x3 M → pj_R l g mdX11_blames pj_T (pj_Zm g mdX11_blames (pj_qi Q)) pj_NK 0 0 8 [(0, .ref r0), (1, .int (pj_I x1)), (2, .int (pj_I x2)), (3, .int (pj_I x3))] [] M) (h : w_X11_blames_8b r0  Q k8 x1 x2 x3 M) : pj_R l g mdX11_blames pj_T (pj_Zm g mdX11_blames (pj_qi Q)) pj_NK 0 0 8 [(0, .ref r0), (1, .int (pj_I x1)), (2, .int (pj_I x2)), (3, .int (pj_I x3))] [] M := by
  unfold w_X11_blames_8b at h
  refine pj_iload_n 9 3 rfl rfl rfl rfl ?_
  refine pj_aload_n 10 0 rfl rfl rfl rfl ?_
  refine pn_getr 13 11 2 hg o0 (pr_11_2 o0).2 rfl pfX11_26 rfl rfl ?_
  refine pn_getr 16 1 1 hg (pr_11_2 o0) (pr_1_1 (pr_11_2 o0)).2 rfl pfX11_132 rfl rfl ?_
  refine pn_geti 19 7 1 1 (pr_1_1 (pr_11_2 o0)) rfl pfX11_139 (Or.inl rfl) rfl rfl ?_
  obtain ⟨q1, h⟩ := h
  obtain ⟨q2, h⟩ := h
  refine pj_icmp_gt 68 22 rfl (by decide) rfl q1 q2 (fun hc => ?_) (fun hc => ?_)
  · replace h := h.1 hc
    refine pj_iload_n 69 1 rfl rfl rfl rfl ?_
    obtain ⟨q3, h⟩ := h
    refine pj_if_ne 75 72 rfl (by decide) rfl q3  (fun hc => ?_) (fun hc => ?_)
    · replace h := h.1 hc
      refine pj_aload_n 76 0 rfl rfl rfl rfl ?_
      refine pj_iload_n 77 2 rfl rfl rfl rfl ?_
      obtain ⟨q4, h⟩ := h
      refine pj_i2l 78 rfl rfl q4 ?_
      refine pn_callVv 81 11 [.long (pj_L x2)] [] o0 (s_X11_tellOne hg o0 h) plX11_229 rfl rfl rfl rfl (Nat.le_of_ble_eq_true rfl) (by decide) (fun M5 h => ?_)
      refine pj_iload_n 82 1 rfl rfl rfl rfl ?_
      exact pn_iret h rfl rfl
    · replace h := h.2 (Classical.not_not.mp hc)
      refine pj_bipush 74 rfl (by decide) rfl ?_
      exact pn_iret h rfl rfl
  · replace h := h.2 hc
    refine pj_aload_n 23 0 rfl rfl rfl rfl ?_
    refine pn_getr 26 11 4 hg o0 (pr_11_4 o0).2 rfl pfX11_36 rfl rfl ?_
    refine pj_aload_n 27 0 rfl rfl rfl rfl ?_
    refine pn_getr 30 11 2 hg o0 (pr_11_2 o0).2 rfl pfX11_26 rfl rfl ?_
    refine pn_getr 33 1 1 hg (pr_11_2 o0) (pr_1_1 (pr_11_2 o0)).2 rfl pfX11_132 rfl rfl ?_
    refine pj_iload_n 34 3 rfl rfl rfl rfl ?_
    refine pn_callVv 37 7 [.ref (pj_rf (pj_rf r0 2) 1), .int (pj_I x3)] [] (pr_11_4 o0) (s_X7_copyWithout hg (pr_11_4 o0) (pr_1_1 (pr_11_2 o0)) h) plX11_260 rfl rfl rfl rfl (Nat.le_of_ble_eq_true rfl) (by decide) (fun M7 h => ?_)
    refine pj_aload_n 38 0 rfl rfl rfl rfl ?_
    refine pj_aload_n 39 0 rfl rfl rfl rfl ?_
    refine pn_getr 42 11 9 hg o0 (pr_11_9 o0).2 rfl pfX11_62 rfl rfl ?_
    refine pj_aload_n 43 0 rfl rfl rfl rfl ?_
    refine pn_getr 46 11 4 hg o0 (pr_11_4 o0).2 rfl pfX11_36 rfl rfl ?_
    refine pn_callVi 49 11 [.ref (pj_rf r0 9), .ref (pj_rf r0 4)] [] o0 (s_X11_piecesOf hg o0 (pr_11_9 o0) (pr_11_4 o0) h) plX11_253 rfl rfl rfl rfl (Nat.le_of_ble_eq_true rfl) (by decide) (fun t10 M9 h => ?_)
    refine pj_istore 51 (ls' := [(0, .ref r0), (1, .int (pj_I x1)), (2, .int (pj_I x2)), (3, .int (pj_I x3)), (4, .int (pj_I t10))]) rfl (by decide) rfl rfl ?_
    refine pj_iload 53 4 rfl rfl rfl ?_
    refine pj_iload_n 54 2 rfl rfl rfl rfl ?_
    obtain ⟨q11, h⟩ := h
    obtain ⟨q12, h⟩ := h
    refine pj_icmp_ge 62 57 rfl (by decide) rfl q11 q12 (fun hc => ?_) (fun hc => ?_)
    · replace h := h.1 hc
      refine pj_iinc 65 3 (ls' := [(0, .ref r0), (1, .int (pj_I x1)), (2, .int (pj_I x2)), (3, .int (pj_I (x3 + 1))), (4, .int (pj_I t10))]) rfl rfl (by decide) rfl rfl ?_
      refine pj_goto 8 rfl (by decide) ?_
      refine pn_sub [0, 1, 2, 3] rfl ?_
      exact hk8 _ _ _ _ h
    · replace h := h.2 hc
      refine pj_iload 59 4 rfl rfl rfl ?_
      refine pj_istore_n 60 (ls' := [(0, .ref r0), (1, .int (pj_I x1)), (2, .int (pj_I t10)), (3, .int (pj_I x3)), (4, .int (pj_I t10))]) rfl rfl (by decide) rfl rfl ?_
      refine pj_iload_n 61 3 rfl rfl rfl rfl ?_
      refine pj_istore_n 62 (ls' := [(0, .ref r0), (1, .int (pj_I x3)), (2, .int (pj_I t10)), (3, .int (pj_I x3)), (4, .int (pj_I t10))]) rfl rfl (by decide) rfl rfl ?_
      refine pj_iinc 65 3 (ls' := [(0, .ref r0), (1, .int (pj_I x3)), (2, .int (pj_I t10)), (3, .int (pj_I (x3 + 1))), (4, .int (pj_I t10))]) rfl rfl (by decide) rfl rfl ?_
      refine pj_goto 8 rfl (by decide) ?_
      refine pn_sub [0, 1, 2, 3] rfl ?_
      exact hk8 _ _ _ _ h
set_option maxRecDepth 20000 in
set_option maxHeartbeats 4000000 in
theorem s_X11_blames_8 {l : Launch} {g : pj_G} (hg : pj_ph g = true) {r0 : Nat} {x1 : Int} {x2 : Int} {x3 : Int} {M : pj_M} {Q : Int → pj_M → Prop}  (o0 : pj_ob r0 11)  (h : w_X11_blames_8 r0  Q x1 x2 x3 M) : pj_R l g mdX11_blames pj_T (pj_Zm g mdX11_blames (pj_qi Q)) pj_NK 0 0 8 [(0, .ref r0), (1, .int (pj_I x1)), (2, .int (pj_I x2)), (3, .int (pj_I x3))] [] M :=
  h (fun s => pj_R l g mdX11_blames pj_T (pj_Zm g mdX11_blames (pj_qi Q)) pj_NK 0 0 8 [(0, .ref r0), (1, .int (pj_I (s.1))), (2, .int (pj_I (s.2.1))), (3, .int (pj_I (s.2.2.1)))] [] s.2.2.2) (fun s hs => s_X11_blames_8b hg o0  (fun _ _ _ _ q => q) hs)
set_option maxRecDepth 20000 in
set_option maxHeartbeats 4000000 in
theorem s_X11_blames {l : Launch} {g : pj_G} (hg : pj_ph g = true) {r0 : Nat} {M : pj_M} {Q : Int → pj_M → Prop} (o0 : pj_ob r0 11) (h : w_X11_blames r0 M Q) : pj_S l g mdX11_blames [.ref r0] pj_NK M (pj_qi Q) := by
  refine pj_ofR (ls := [(0, .ref r0)]) gcX11_blames (by decide) rfl (Nat.le_of_ble_eq_true rfl) rfl ?_
  unfold w_X11_blames at h
  refine pj_iconst 1 rfl rfl ?_
  refine pj_istore_n 2 (ls' := [(0, .ref r0), (1, .int (pj_I 0))]) rfl rfl (by decide) rfl rfl ?_
  refine pj_ldc_w 5 1048576 rfl pkX11_264 rfl ?_
  refine pj_istore_n 6 (ls' := [(0, .ref r0), (1, .int (pj_I 0)), (2, .int (pj_I 1048576))]) rfl rfl (by decide) rfl rfl ?_
  refine pj_iconst 7 rfl rfl ?_
  refine pj_istore_n 8 (ls' := [(0, .ref r0), (1, .int (pj_I 0)), (2, .int (pj_I 1048576)), (3, .int (pj_I 1))]) rfl rfl (by decide) rfl rfl ?_
  refine pn_sub [0, 1, 2, 3] rfl ?_
  exact s_X11_blames_8 hg o0   h
def w_X11_tellTwo (r0 : Nat) (x1 : Int) (x3 : Int) (M : pj_M) (Q : pj_M → Prop) : Prop :=
  w_X11_tellOne r0 x1 M (fun (M1 : pj_M) => w_X11_tellMore r0 x3 M1 (fun (M3 : pj_M) => Q M3))
set_option maxRecDepth 20000 in
set_option maxHeartbeats 4000000 in
theorem s_X11_tellTwo {l : Launch} {g : pj_G} (hg : pj_ph g = true) {r0 : Nat} {x1 : Int} {x3 : Int} {M : pj_M} {Q : pj_M → Prop} (o0 : pj_ob r0 11) (h : w_X11_tellTwo r0 x1 x3 M Q) : pj_S l g mdX11_tellTwo [.ref r0, .long (pj_L x1), .long (pj_L x3)] pj_NK M (pj_qv Q) := by
  refine pj_ofR (ls := [(0, .ref r0), (1, .long (pj_L x1)), (3, .long (pj_L x3))]) gcX11_tellTwo (by decide) rfl (Nat.le_of_ble_eq_true rfl) rfl ?_
  unfold w_X11_tellTwo at h
  refine pj_aload_n 1 0 rfl rfl rfl rfl ?_
  refine pj_lload_n 2 1 rfl rfl rfl rfl ?_
  refine pn_callVv 5 11 [.long (pj_L x1)] [] o0 (s_X11_tellOne hg o0 h) plX11_229 rfl rfl rfl rfl (Nat.le_of_ble_eq_true rfl) (by decide) (fun M1 h => ?_)
  refine pj_aload_n 6 0 rfl rfl rfl rfl ?_
  refine pj_lload_n 7 2 rfl rfl rfl rfl ?_
  refine pn_callVv 10 11 [.long (pj_L x3)] [] o0 (s_X11_tellMore hg o0 h) plX11_275 rfl rfl rfl rfl (Nat.le_of_ble_eq_true rfl) (by decide) (fun M3 h => ?_)
  exact pn_vret h rfl rfl
def w_X11_longest_9b (r0 : Nat) (r1 : Nat)  (Q : Int → pj_M → Prop) (k9 : Int → Int → pj_M → Prop) (x2 : Int) (x3 : Int) (M : pj_M) : Prop :=
  (pj_in x3) ∧ (pj_in ((M (pj_rf (pj_rf r0 2) 1) 1) + 1)) ∧ ((((M (pj_rf (pj_rf r0 2) 1) 1) + 1) < x3 → w_X0_greatestFitting r1 x2 M (fun (t6 : Int) (M5 : pj_M) => (pj_in x2) ∧ (pj_in t6) ∧ w_X11_tellTwo r0 x2 t6 M5 (fun (M9 : pj_M) => Q (t6 - x2) M9))) ∧ (¬ ((M (pj_rf (pj_rf r0 2) 1) 1) + 1) < x3 → w_X0_greatestFitting r1 x3 M (fun (t12 : Int) (M11 : pj_M) => w_X0_greatestFitting r1 x2 M11 (fun (t14 : Int) (M13 : pj_M) => (pj_in (t12 - x3)) ∧ (pj_in (t14 - x2)) ∧ (((t12 - x3) ≤ (t14 - x2) → k9 x2 (x3 + 1) M13) ∧ (¬ (t12 - x3) ≤ (t14 - x2) → k9 x3 (x3 + 1) M13))))))
def w_X11_longest_9 (r0 : Nat) (r1 : Nat)  (Q : Int → pj_M → Prop) (x2 : Int) (x3 : Int) (M : pj_M) : Prop := pj_lp (fun (k : Int × Int × pj_M → Prop) (s : Int × Int × pj_M) => w_X11_longest_9b r0 r1  Q (fun (x2 : Int) (x3 : Int) (M : pj_M) => k (x2, x3, M)) s.1 s.2.1 s.2.2) (x2, x3, M)
def w_X11_longest (r0 : Nat) (M : pj_M) (Q : Int → pj_M → Prop) : Prop :=
  w_X11_lineRead r0 M (fun (t2 : Nat) (M1 : pj_M) => w_X11_longest_9 r0 t2  Q 0 1 M1)
set_option maxRecDepth 20000 in
set_option maxHeartbeats 4000000 in
theorem s_X11_longest_9b {l : Launch} {g : pj_G} (hg : pj_ph g = true) {r0 : Nat} {r1 : Nat} {x2 : Int} {x3 : Int} {M : pj_M} {Q : Int → pj_M → Prop}  {k9 : Int → Int → pj_M → Prop} (o0 : pj_ob r0 11) (o1 : pj_ob r1 0)  (hk9 : ∀ (x2 : Int) (x3 : Int) (M : pj_M), k9 x2 x3 M → pj_R l g mdX11_longest pj_T (pj_Zm g mdX11_longest (pj_qi Q)) pj_NK 0 0 9 [(0, .ref r0), (1, .ref r1), (2, .int (pj_I x2)), (3, .int (pj_I x3))] [] M) (h : w_X11_longest_9b r0 r1  Q k9 x2 x3 M) : pj_R l g mdX11_longest pj_T (pj_Zm g mdX11_longest (pj_qi Q)) pj_NK 0 0 9 [(0, .ref r0), (1, .ref r1), (2, .int (pj_I x2)), (3, .int (pj_I x3))] [] M := by
  unfold w_X11_longest_9b at h
  refine pj_iload_n 10 3 rfl rfl rfl rfl ?_
  refine pj_aload_n 11 0 rfl rfl rfl rfl ?_
  refine pn_getr 14 11 2 hg o0 (pr_11_2 o0).2 rfl pfX11_26 rfl rfl ?_
  refine pn_getr 17 1 1 hg (pr_11_2 o0) (pr_1_1 (pr_11_2 o0)).2 rfl pfX11_132 rfl rfl ?_
  refine pn_geti 20 7 1 1 (pr_1_1 (pr_11_2 o0)) rfl pfX11_139 (Or.inl rfl) rfl rfl ?_
  refine pj_iconst 21 rfl rfl ?_
  refine pj_iadd 22 rfl rfl ?_
  obtain ⟨q3, h⟩ := h
  obtain ⟨q4, h⟩ := h
  refine pj_icmp_gt 50 25 rfl (by decide) rfl q3 q4 (fun hc => ?_) (fun hc => ?_)
  · replace h := h.1 hc
    refine pj_aload_n 51 1 rfl rfl rfl rfl ?_
    refine pj_iload_n 52 2 rfl rfl rfl rfl ?_
    refine pn_callVi 55 0 [.int (pj_I x2)] [] o1 (s_X0_greatestFitting hg o1 h) plX11_195 rfl rfl rfl rfl (Nat.le_of_ble_eq_true rfl) (by decide) (fun t6 M5 h => ?_)
    refine pj_istore_n 56 (ls' := [(0, .ref r0), (1, .ref r1), (2, .int (pj_I x2)), (3, .int (pj_I t6))]) rfl rfl (by decide) rfl rfl ?_
    refine pj_aload_n 57 0 rfl rfl rfl rfl ?_
    refine pj_iload_n 58 2 rfl rfl rfl rfl ?_
    obtain ⟨q7, h⟩ := h
    refine pj_i2l 59 rfl rfl q7 ?_
    refine pj_iload_n 60 3 rfl rfl rfl rfl ?_
    obtain ⟨q8, h⟩ := h
    refine pj_i2l 61 rfl rfl q8 ?_
    refine pn_callVv 64 11 [.long (pj_L x2), .long (pj_L t6)] [] o0 (s_X11_tellTwo hg o0 h) plX11_265 rfl rfl rfl rfl (Nat.le_of_ble_eq_true rfl) (by decide) (fun M9 h => ?_)
    refine pj_iload_n 65 3 rfl rfl rfl rfl ?_
    refine pj_iload_n 66 2 rfl rfl rfl rfl ?_
    refine pj_isub 67 rfl rfl ?_
    exact pn_iret h rfl rfl
  · replace h := h.2 hc
    refine pj_aload_n 26 1 rfl rfl rfl rfl ?_
    refine pj_iload_n 27 3 rfl rfl rfl rfl ?_
    refine pn_callVi 30 0 [.int (pj_I x3)] [] o1 (s_X0_greatestFitting hg o1 h) plX11_195 rfl rfl rfl rfl (Nat.le_of_ble_eq_true rfl) (by decide) (fun t12 M11 h => ?_)
    refine pj_iload_n 31 3 rfl rfl rfl rfl ?_
    refine pj_isub 32 rfl rfl ?_
    refine pj_aload_n 33 1 rfl rfl rfl rfl ?_
    refine pj_iload_n 34 2 rfl rfl rfl rfl ?_
    refine pn_callVi 37 0 [.int (pj_I x2)] [.int (pj_I (t12 - x3))] o1 (s_X0_greatestFitting hg o1 h) plX11_195 rfl rfl rfl rfl (Nat.le_of_ble_eq_true rfl) (by decide) (fun t14 M13 h => ?_)
    refine pj_iload_n 38 2 rfl rfl rfl rfl ?_
    refine pj_isub 39 rfl rfl ?_
    obtain ⟨q15, h⟩ := h
    obtain ⟨q16, h⟩ := h
    refine pj_icmp_le 44 42 rfl (by decide) rfl q15 q16 (fun hc => ?_) (fun hc => ?_)
    · replace h := h.1 hc
      refine pj_iinc 47 3 (ls' := [(0, .ref r0), (1, .ref r1), (2, .int (pj_I x2)), (3, .int (pj_I (x3 + 1)))]) rfl rfl (by decide) rfl rfl ?_
      refine pj_goto 9 rfl (by decide) ?_
      refine pn_sub [0, 1, 2, 3] rfl ?_
      exact hk9 _ _ _ h
    · replace h := h.2 hc
      refine pj_iload_n 43 3 rfl rfl rfl rfl ?_
      refine pj_istore_n 44 (ls' := [(0, .ref r0), (1, .ref r1), (2, .int (pj_I x3)), (3, .int (pj_I x3))]) rfl rfl (by decide) rfl rfl ?_
      refine pj_iinc 47 3 (ls' := [(0, .ref r0), (1, .ref r1), (2, .int (pj_I x3)), (3, .int (pj_I (x3 + 1)))]) rfl rfl (by decide) rfl rfl ?_
      refine pj_goto 9 rfl (by decide) ?_
      refine pn_sub [0, 1, 2, 3] rfl ?_
      exact hk9 _ _ _ h
set_option maxRecDepth 20000 in
set_option maxHeartbeats 4000000 in
theorem s_X11_longest_9 {l : Launch} {g : pj_G} (hg : pj_ph g = true) {r0 : Nat} {r1 : Nat} {x2 : Int} {x3 : Int} {M : pj_M} {Q : Int → pj_M → Prop}  (o0 : pj_ob r0 11) (o1 : pj_ob r1 0)  (h : w_X11_longest_9 r0 r1  Q x2 x3 M) : pj_R l g mdX11_longest pj_T (pj_Zm g mdX11_longest (pj_qi Q)) pj_NK 0 0 9 [(0, .ref r0), (1, .ref r1), (2, .int (pj_I x2)), (3, .int (pj_I x3))] [] M :=
  h (fun s => pj_R l g mdX11_longest pj_T (pj_Zm g mdX11_longest (pj_qi Q)) pj_NK 0 0 9 [(0, .ref r0), (1, .ref r1), (2, .int (pj_I (s.1))), (3, .int (pj_I (s.2.1)))] [] s.2.2) (fun s hs => s_X11_longest_9b hg o0 o1  (fun _ _ _ q => q) hs)
set_option maxRecDepth 20000 in
set_option maxHeartbeats 4000000 in
theorem s_X11_longest {l : Launch} {g : pj_G} (hg : pj_ph g = true) {r0 : Nat} {M : pj_M} {Q : Int → pj_M → Prop} (o0 : pj_ob r0 11) (h : w_X11_longest r0 M Q) : pj_S l g mdX11_longest [.ref r0] pj_NK M (pj_qi Q) := by
  refine pj_ofR (ls := [(0, .ref r0)]) gcX11_longest (by decide) rfl (Nat.le_of_ble_eq_true rfl) rfl ?_
  unfold w_X11_longest at h
  refine pj_aload_n 1 0 rfl rfl rfl rfl ?_
  refine pn_callVr 4 11 [] [] o0 (s_X11_lineRead hg o0 h) plX11_188 rfl rfl rfl rfl (Nat.le_of_ble_eq_true rfl) (by decide) (fun t2 M1 ot2 h => ?_)
  refine pj_astore_n 5 (ls' := [(0, .ref r0), (1, .ref t2)]) rfl rfl (by decide) rfl rfl ?_
  refine pj_iconst 6 rfl rfl ?_
  refine pj_istore_n 7 (ls' := [(0, .ref r0), (1, .ref t2), (2, .int (pj_I 0))]) rfl rfl (by decide) rfl rfl ?_
  refine pj_iconst 8 rfl rfl ?_
  refine pj_istore_n 9 (ls' := [(0, .ref r0), (1, .ref t2), (2, .int (pj_I 0)), (3, .int (pj_I 1))]) rfl rfl (by decide) rfl rfl ?_
  refine pn_sub [0, 1, 2, 3] rfl ?_
  exact s_X11_longest_9 hg o0 ot2   h
def w_X11_weakest_17b (r0 : Nat) (r1 : Nat)  (Q : Int → pj_M → Prop) (k17 : Int → Int → Int → Int → pj_M → Prop) (x2 : Int) (x3 : Int) (x4 : Int) (x5 : Int) (M : pj_M) : Prop :=
  (pj_in x5) ∧ (pj_in ((M (pj_rf (pj_rf r0 2) 1) 1) + 1)) ∧ ((((M (pj_rf (pj_rf r0 2) 1) 1) + 1) < x5 → (pj_in x3) ∧ (pj_in (x3 + x4)) ∧ w_X11_tellTwo r0 x3 (x3 + x4) M (fun (M7 : pj_M) => Q x2 M7)) ∧ (¬ ((M (pj_rf (pj_rf r0 2) 1) 1) + 1) < x5 → w_X0_beginOfLongestWith r1 x5 M (fun (t10 : Int) (M9 : pj_M) => (pj_in t10) ∧ ((¬ t10 = (-1) → w_X0_greatestFitting r1 t10 M9 (fun (t13 : Int) (M12 : pj_M) => (pj_in (t13 - t10)) ∧ (pj_in x4) ∧ ((x4 ≤ (t13 - t10) → k17 x2 x3 x4 (x5 + 1) M12) ∧ (¬ x4 ≤ (t13 - t10) → k17 x5 t10 (t13 - t10) (x5 + 1) M12)))) ∧ (t10 = (-1) → Q (-2) M9)))))
def w_X11_weakest_17 (r0 : Nat) (r1 : Nat)  (Q : Int → pj_M → Prop) (x2 : Int) (x3 : Int) (x4 : Int) (x5 : Int) (M : pj_M) : Prop := pj_lp (fun (k : Int × Int × Int × Int × pj_M → Prop) (s : Int × Int × Int × Int × pj_M) => w_X11_weakest_17b r0 r1  Q (fun (x2 : Int) (x3 : Int) (x4 : Int) (x5 : Int) (M : pj_M) => k (x2, x3, x4, x5, M)) s.1 s.2.1 s.2.2.1 s.2.2.2.1 s.2.2.2.2) (x2, x3, x4, x5, M)
def w_X11_weakest (r0 : Nat) (M : pj_M) (Q : Int → pj_M → Prop) : Prop :=
  w_X11_lineRead r0 M (fun (t2 : Nat) (M1 : pj_M) => w_X11_weakest_17 r0 t2  Q 0 0 1048576 0 M1)
set_option maxRecDepth 20000 in
set_option maxHeartbeats 4000000 in
theorem s_X11_weakest_17b {l : Launch} {g : pj_G} (hg : pj_ph g = true) {r0 : Nat} {r1 : Nat} {x2 : Int} {x3 : Int} {x4 : Int} {x5 : Int} {M : pj_M} {Q : Int → pj_M → Prop}  {k17 : Int → Int → Int → Int → pj_M → Prop} (o0 : pj_ob r0 11) (o1 : pj_ob r1 0)  (hk17 : ∀ (x2 : Int) (x3 : Int) (x4 : Int) (x5 : Int) (M : pj_M), k17 x2 x3 x4 x5 M → pj_R l g mdX11_weakest pj_T (pj_Zm g mdX11_weakest (pj_qi Q)) pj_NK 0 0 17 [(0, .ref r0), (1, .ref r1), (2, .int (pj_I x2)), (3, .int (pj_I x3)), (4, .int (pj_I x4)), (5, .int (pj_I x5))] [] M) (h : w_X11_weakest_17b r0 r1  Q k17 x2 x3 x4 x5 M) : pj_R l g mdX11_weakest pj_T (pj_Zm g mdX11_weakest (pj_qi Q)) pj_NK 0 0 17 [(0, .ref r0), (1, .ref r1), (2, .int (pj_I x2)), (3, .int (pj_I x3)), (4, .int (pj_I x4)), (5, .int (pj_I x5))] [] M := by
  unfold w_X11_weakest_17b at h
  refine pj_iload 19 5 rfl rfl rfl ?_
  refine pj_aload_n 20 0 rfl rfl rfl rfl ?_
  refine pn_getr 23 11 2 hg o0 (pr_11_2 o0).2 rfl pfX11_26 rfl rfl ?_
  refine pn_getr 26 1 1 hg (pr_11_2 o0) (pr_1_1 (pr_11_2 o0)).2 rfl pfX11_132 rfl rfl ?_
  refine pn_geti 29 7 1 1 (pr_1_1 (pr_11_2 o0)) rfl pfX11_139 (Or.inl rfl) rfl rfl ?_
  refine pj_iconst 30 rfl rfl ?_
  refine pj_iadd 31 rfl rfl ?_
  obtain ⟨q3, h⟩ := h
  obtain ⟨q4, h⟩ := h
  refine pj_icmp_gt 85 34 rfl (by decide) rfl q3 q4 (fun hc => ?_) (fun hc => ?_)
  · replace h := h.1 hc
    refine pj_aload_n 86 0 rfl rfl rfl rfl ?_
    refine pj_iload_n 87 3 rfl rfl rfl rfl ?_
    obtain ⟨q5, h⟩ := h
    refine pj_i2l 88 rfl rfl q5 ?_
    refine pj_iload_n 89 3 rfl rfl rfl rfl ?_
    refine pj_iload 91 4 rfl rfl rfl ?_
    refine pj_iadd 92 rfl rfl ?_
    obtain ⟨q6, h⟩ := h
    refine pj_i2l 93 rfl rfl q6 ?_
    refine pn_callVv 96 11 [.long (pj_L x3), .long (pj_L (x3 + x4))] [] o0 (s_X11_tellTwo hg o0 h) plX11_265 rfl rfl rfl rfl (Nat.le_of_ble_eq_true rfl) (by decide) (fun M7 h => ?_)
    refine pj_iload_n 97 2 rfl rfl rfl rfl ?_
    exact pn_iret h rfl rfl
  · replace h := h.2 hc
    refine pj_aload_n 35 1 rfl rfl rfl rfl ?_
    refine pj_iload 37 5 rfl rfl rfl ?_
    refine pn_callVi 40 0 [.int (pj_I x5)] [] o1 (s_X0_beginOfLongestWith hg o1 h) plX11_269 rfl rfl rfl rfl (Nat.le_of_ble_eq_true rfl) (by decide) (fun t10 M9 h => ?_)
    refine pj_istore 42 (ls' := [(0, .ref r0), (1, .ref r1), (2, .int (pj_I x2)), (3, .int (pj_I x3)), (4, .int (pj_I x4)), (5, .int (pj_I x5)), (6, .int (pj_I t10))]) rfl (by decide) rfl rfl ?_
    refine pj_iload 44 6 rfl rfl rfl ?_
    refine pj_iconst 45 rfl rfl ?_
    obtain ⟨q11, h⟩ := h
    refine pj_icmp_ne 51 48 rfl (by decide) rfl q11 (show pj_in (-1) by decide) (fun hc => ?_) (fun hc => ?_)
    · replace h := h.1 hc
      refine pj_aload_n 52 1 rfl rfl rfl rfl ?_
      refine pj_iload 54 6 rfl rfl rfl ?_
      refine pn_callVi 57 0 [.int (pj_I t10)] [] o1 (s_X0_greatestFitting hg o1 h) plX11_195 rfl rfl rfl rfl (Nat.le_of_ble_eq_true rfl) (by decide) (fun t13 M12 h => ?_)
      refine pj_iload 59 6 rfl rfl rfl ?_
      refine pj_isub 60 rfl rfl ?_
      refine pj_istore 62 (ls' := [(0, .ref r0), (1, .ref r1), (2, .int (pj_I x2)), (3, .int (pj_I x3)), (4, .int (pj_I x4)), (5, .int (pj_I x5)), (6, .int (pj_I t10)), (7, .int (pj_I (t13 - t10)))]) rfl (by decide) rfl rfl ?_
      refine pj_iload 64 7 rfl rfl rfl ?_
      refine pj_iload 66 4 rfl rfl rfl ?_
      obtain ⟨q14, h⟩ := h
      obtain ⟨q15, h⟩ := h
      refine pj_icmp_ge 79 69 rfl (by decide) rfl q14 q15 (fun hc => ?_) (fun hc => ?_)
      · replace h := h.1 hc
        refine pj_iinc 82 5 (ls' := [(0, .ref r0), (1, .ref r1), (2, .int (pj_I x2)), (3, .int (pj_I x3)), (4, .int (pj_I x4)), (5, .int (pj_I (x5 + 1))), (6, .int (pj_I t10)), (7, .int (pj_I (t13 - t10)))]) rfl rfl (by decide) rfl rfl ?_
        refine pj_goto 17 rfl (by decide) ?_
        refine pn_sub [0, 1, 2, 3, 4, 5] rfl ?_
        exact hk17 _ _ _ _ _ h
      · replace h := h.2 hc
        refine pj_iload 71 7 rfl rfl rfl ?_
        refine pj_istore 73 (ls' := [(0, .ref r0), (1, .ref r1), (2, .int (pj_I x2)), (3, .int (pj_I x3)), (4, .int (pj_I (t13 - t10))), (5, .int (pj_I x5)), (6, .int (pj_I t10)), (7, .int (pj_I (t13 - t10)))]) rfl (by decide) rfl rfl ?_
        refine pj_iload 75 5 rfl rfl rfl ?_
        refine pj_istore_n 76 (ls' := [(0, .ref r0), (1, .ref r1), (2, .int (pj_I x5)), (3, .int (pj_I x3)), (4, .int (pj_I (t13 - t10))), (5, .int (pj_I x5)), (6, .int (pj_I t10)), (7, .int (pj_I (t13 - t10)))]) rfl rfl (by decide) rfl rfl ?_
        refine pj_iload 78 6 rfl rfl rfl ?_
        refine pj_istore_n 79 (ls' := [(0, .ref r0), (1, .ref r1), (2, .int (pj_I x5)), (3, .int (pj_I t10)), (4, .int (pj_I (t13 - t10))), (5, .int (pj_I x5)), (6, .int (pj_I t10)), (7, .int (pj_I (t13 - t10)))]) rfl rfl (by decide) rfl rfl ?_
        refine pj_iinc 82 5 (ls' := [(0, .ref r0), (1, .ref r1), (2, .int (pj_I x5)), (3, .int (pj_I t10)), (4, .int (pj_I (t13 - t10))), (5, .int (pj_I (x5 + 1))), (6, .int (pj_I t10)), (7, .int (pj_I (t13 - t10)))]) rfl rfl (by decide) rfl rfl ?_
        refine pj_goto 17 rfl (by decide) ?_
        refine pn_sub [0, 1, 2, 3, 4, 5] rfl ?_
        exact hk17 _ _ _ _ _ h
    · replace h := h.2 (Classical.not_not.mp hc)
      refine pj_bipush 50 rfl (by decide) rfl ?_
      exact pn_iret h rfl rfl
set_option maxRecDepth 20000 in
set_option maxHeartbeats 4000000 in
theorem s_X11_weakest_17 {l : Launch} {g : pj_G} (hg : pj_ph g = true) {r0 : Nat} {r1 : Nat} {x2 : Int} {x3 : Int} {x4 : Int} {x5 : Int} {M : pj_M} {Q : Int → pj_M → Prop}  (o0 : pj_ob r0 11) (o1 : pj_ob r1 0)  (h : w_X11_weakest_17 r0 r1  Q x2 x3 x4 x5 M) : pj_R l g mdX11_weakest pj_T (pj_Zm g mdX11_weakest (pj_qi Q)) pj_NK 0 0 17 [(0, .ref r0), (1, .ref r1), (2, .int (pj_I x2)), (3, .int (pj_I x3)), (4, .int (pj_I x4)), (5, .int (pj_I x5))] [] M :=
  h (fun s => pj_R l g mdX11_weakest pj_T (pj_Zm g mdX11_weakest (pj_qi Q)) pj_NK 0 0 17 [(0, .ref r0), (1, .ref r1), (2, .int (pj_I (s.1))), (3, .int (pj_I (s.2.1))), (4, .int (pj_I (s.2.2.1))), (5, .int (pj_I (s.2.2.2.1)))] [] s.2.2.2.2) (fun s hs => s_X11_weakest_17b hg o0 o1  (fun _ _ _ _ _ q => q) hs)
set_option maxRecDepth 20000 in
set_option maxHeartbeats 4000000 in
theorem s_X11_weakest {l : Launch} {g : pj_G} (hg : pj_ph g = true) {r0 : Nat} {M : pj_M} {Q : Int → pj_M → Prop} (o0 : pj_ob r0 11) (h : w_X11_weakest r0 M Q) : pj_S l g mdX11_weakest [.ref r0] pj_NK M (pj_qi Q) := by
  refine pj_ofR (ls := [(0, .ref r0)]) gcX11_weakest (by decide) rfl (Nat.le_of_ble_eq_true rfl) rfl ?_
  unfold w_X11_weakest at h
  refine pj_aload_n 1 0 rfl rfl rfl rfl ?_
  refine pn_callVr 4 11 [] [] o0 (s_X11_lineRead hg o0 h) plX11_188 rfl rfl rfl rfl (Nat.le_of_ble_eq_true rfl) (by decide) (fun t2 M1 ot2 h => ?_)
  refine pj_astore_n 5 (ls' := [(0, .ref r0), (1, .ref t2)]) rfl rfl (by decide) rfl rfl ?_
  refine pj_iconst 6 rfl rfl ?_
  refine pj_istore_n 7 (ls' := [(0, .ref r0), (1, .ref t2), (2, .int (pj_I 0))]) rfl rfl (by decide) rfl rfl ?_
  refine pj_iconst 8 rfl rfl ?_
  refine pj_istore_n 9 (ls' := [(0, .ref r0), (1, .ref t2), (2, .int (pj_I 0)), (3, .int (pj_I 0))]) rfl rfl (by decide) rfl rfl ?_
  refine pj_ldc_w 12 1048576 rfl pkX11_264 rfl ?_
  refine pj_istore 14 (ls' := [(0, .ref r0), (1, .ref t2), (2, .int (pj_I 0)), (3, .int (pj_I 0)), (4, .int (pj_I 1048576))]) rfl (by decide) rfl rfl ?_
  refine pj_iconst 15 rfl rfl ?_
  refine pj_istore 17 (ls' := [(0, .ref r0), (1, .ref t2), (2, .int (pj_I 0)), (3, .int (pj_I 0)), (4, .int (pj_I 1048576)), (5, .int (pj_I 0))]) rfl (by decide) rfl rfl ?_
  refine pn_sub [0, 1, 2, 3, 4, 5] rfl ?_
  exact s_X11_weakest_17 hg o0 ot2   h
