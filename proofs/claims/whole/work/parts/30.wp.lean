def w_X12_longest (r0 : Nat) (M : pj_M) (Q : Int → pj_M → Prop) : Prop :=
  ∀ M1 : pj_M, M1 = pj_up M r0 5 0 → w_X12_layAll r0 (M1 (pj_rf r0 0) 73) M1 (fun (M2 : pj_M) => w_X12_longestWith r0 (-1) M2 (fun (t5 : Int) (M4 : pj_M) => ∀ M6 : pj_M, M6 = pj_up M4 r0 4 0 → (pj_in (M6 r0 28)) ∧ w_X12_tell r0 (M6 r0 28) M6 (fun (M8 : pj_M) => (pj_in (M8 r0 29)) ∧ w_X12_tell r0 (M8 r0 29) M8 (fun (M11 : pj_M) => Q t5 M11))))
set_option maxRecDepth 20000 in
set_option maxHeartbeats 4000000 in
theorem s_X12_longest {l : Launch} {g : pj_G} (hg : pj_ph g = true) {r0 : Nat} {M : pj_M} {Q : Int → pj_M → Prop} (o0 : pj_ob r0 12) (h : w_X12_longest r0 M Q) : pj_S l g mdX12_longest [.ref r0] pj_NK M (pj_qi Q) := by
  refine pj_ofR (ls := [(0, .ref r0)]) gcX12_longest (by decide) rfl (Nat.le_of_ble_eq_true rfl) rfl ?_
  unfold w_X12_longest at h
  refine pj_aload_n 1 0 rfl rfl rfl rfl ?_
  refine pj_iconst 2 rfl rfl ?_
  refine pn_puti 5 12 5 5 o0  rfl pfX12_88 rfl rfl rfl (fun M1 hM1 => ?_)
  replace h := h M1 hM1
  refine pj_aload_n 6 0 rfl rfl rfl rfl ?_
  refine pj_aload_n 7 0 rfl rfl rfl rfl ?_
  refine pn_getr 10 12 0 hg o0 (pr_12_0 o0).2 rfl pfX12_9 rfl rfl ?_
  refine pj_bipush 12 rfl (by decide) rfl ?_
  refine pn_iald 13 95 (pr_12_0 o0) (show 0 ≤ (73 : Int) ∧ (73 : Int) < ((95 : Nat) : Int) by decide) rfl rfl ?_
  refine pn_callVv 16 12 [.int (pj_I (M1 (pj_rf r0 0) 73))] [] o0 (s_X12_layAll hg o0 h) plX12_246 rfl rfl rfl rfl (Nat.le_of_ble_eq_true rfl) (by decide) (fun M2 h => ?_)
  refine pj_aload_n 17 0 rfl rfl rfl rfl ?_
  refine pj_iconst 18 rfl rfl ?_
  refine pn_callVi 21 12 [.int (pj_I (-1))] [] o0 (s_X12_longestWith hg o0 h) plX12_309 rfl rfl rfl rfl (Nat.le_of_ble_eq_true rfl) (by decide) (fun t5 M4 h => ?_)
  refine pj_istore_n 22 (ls' := [(0, .ref r0), (1, .int (pj_I t5))]) rfl rfl (by decide) rfl rfl ?_
  refine pj_aload_n 23 0 rfl rfl rfl rfl ?_
  refine pj_iconst 24 rfl rfl ?_
  refine pn_puti 27 12 4 4 o0  rfl pfX12_92 rfl rfl rfl (fun M6 hM6 => ?_)
  replace h := h M6 hM6
  refine pj_aload_n 28 0 rfl rfl rfl rfl ?_
  refine pj_aload_n 29 0 rfl rfl rfl rfl ?_
  refine pn_geti 32 12 28 28 o0 rfl pfX12_303 (Or.inl rfl) rfl rfl ?_
  obtain ⟨q7, h⟩ := h
  refine pj_i2l 33 rfl rfl q7 ?_
  refine pn_callVv 36 12 [.long (pj_L (M6 r0 28))] [] o0 (s_X12_tell hg o0 h) plX12_260 rfl rfl rfl rfl (Nat.le_of_ble_eq_true rfl) (by decide) (fun M8 h => ?_)
  refine pj_aload_n 37 0 rfl rfl rfl rfl ?_
  refine pj_aload_n 38 0 rfl rfl rfl rfl ?_
  refine pn_geti 41 12 29 29 o0 rfl pfX12_306 (Or.inl rfl) rfl rfl ?_
  obtain ⟨q10, h⟩ := h
  refine pj_i2l 42 rfl rfl q10 ?_
  refine pn_callVv 45 12 [.long (pj_L (M8 r0 29))] [] o0 (s_X12_tell hg o0 h) plX12_260 rfl rfl rfl rfl (Nat.le_of_ble_eq_true rfl) (by decide) (fun M11 h => ?_)
  refine pj_iload_n 46 1 rfl rfl rfl rfl ?_
  exact pn_iret h rfl rfl
def w_X12_weakest_61 (r0 : Nat) (x3 : Int) (x4 : Int) (k22 : Int → Int → Int → pj_M → Prop) (Q : Int → pj_M → Prop) (M : pj_M) : Prop :=
  k22 x3 x4 (x3 + 1) M
def w_X12_weakest_22b (r0 : Nat)  (Q : Int → pj_M → Prop) (k22 : Int → Int → Int → pj_M → Prop) (x1 : Int) (x2 : Int) (x3 : Int) (M : pj_M) : Prop :=
  (pj_in x3) ∧ (pj_in ((M r0 14) + 1)) ∧ ((((M r0 14) + 1) < x3 → w_X12_longestWith r0 x1 M (fun (t7 : Int) (M6 : pj_M) => ∀ M8 : pj_M, M8 = pj_up M6 r0 4 0 → (pj_in (M8 r0 28)) ∧ w_X12_tell r0 (M8 r0 28) M8 (fun (M10 : pj_M) => (pj_in (M10 r0 29)) ∧ w_X12_tell r0 (M10 r0 29) M10 (fun (M13 : pj_M) => Q x1 M13)))) ∧ (¬ ((M r0 14) + 1) < x3 → w_X12_longestWith r0 x3 M (fun (t16 : Int) (M15 : pj_M) => (pj_in t16) ∧ ((¬ t16 = 0 → (pj_in x1) ∧ ((x1 = (-1) → w_X12_weakest_61 r0 x3 t16 k22 Q M15) ∧ (¬ x1 = (-1) → (pj_in t16) ∧ (pj_in x2) ∧ ((t16 < x2 → w_X12_weakest_61 r0 x3 t16 k22 Q M15) ∧ (¬ t16 < x2 → k22 x1 x2 (x3 + 1) M15))))) ∧ (t16 = 0 → Q (-2) M15)))))
def w_X12_weakest_22 (r0 : Nat)  (Q : Int → pj_M → Prop) (x1 : Int) (x2 : Int) (x3 : Int) (M : pj_M) : Prop := pj_lp (fun (k : Int × Int × Int × pj_M → Prop) (s : Int × Int × Int × pj_M) => w_X12_weakest_22b r0  Q (fun (x1 : Int) (x2 : Int) (x3 : Int) (M : pj_M) => k (x1, x2, x3, M)) s.1 s.2.1 s.2.2.1 s.2.2.2) (x1, x2, x3, M)
def w_X12_weakest (r0 : Nat) (M : pj_M) (Q : Int → pj_M → Prop) : Prop :=
  ∀ M1 : pj_M, M1 = pj_up M r0 5 0 → w_X12_layAll r0 (M1 (pj_rf r0 0) 73) M1 (fun (M2 : pj_M) => w_X12_weakest_22 r0  Q (-1) 0 0 M2)
set_option maxRecDepth 20000 in
set_option maxHeartbeats 4000000 in
theorem s_X12_weakest_61 {l : Launch} {g : pj_G} (hg : pj_ph g = true) {r0 : Nat} {x3 : Int} {x4 : Int} {M : pj_M} {Q : Int → pj_M → Prop} {k22 : Int → Int → Int → pj_M → Prop} (o0 : pj_ob r0 12) (hk22 : ∀ (x1 : Int) (x2 : Int) (x3 : Int) (M : pj_M), k22 x1 x2 x3 M → pj_R l g mdX12_weakest pj_T (pj_Zm g mdX12_weakest (pj_qi Q)) pj_NK 0 0 22 [(0, .ref r0), (1, .int (pj_I x1)), (2, .int (pj_I x2)), (3, .int (pj_I x3))] [] M) (h : w_X12_weakest_61 r0 x3 x4 k22 Q M) : pj_R l g mdX12_weakest pj_T (pj_Zm g mdX12_weakest (pj_qi Q)) pj_NK 0 0 61 [(0, .ref r0), (3, .int (pj_I x3)), (4, .int (pj_I x4))] [] M := by
  unfold w_X12_weakest_61 at h
  refine pj_iload_n 62 1 rfl rfl rfl rfl ?_
  refine pj_istore_n 63 (ls' := [(0, .ref r0), (1, .int (pj_I x3)), (3, .int (pj_I x3)), (4, .int (pj_I x4))]) rfl rfl (by decide) rfl rfl ?_
  refine pj_iload 65 3 rfl rfl rfl ?_
  refine pj_istore_n 66 (ls' := [(0, .ref r0), (1, .int (pj_I x3)), (2, .int (pj_I x4)), (3, .int (pj_I x3)), (4, .int (pj_I x4))]) rfl rfl (by decide) rfl rfl ?_
  refine pj_iinc 69 3 (ls' := [(0, .ref r0), (1, .int (pj_I x3)), (2, .int (pj_I x4)), (3, .int (pj_I (x3 + 1))), (4, .int (pj_I x4))]) rfl rfl (by decide) rfl rfl ?_
  refine pj_goto 22 rfl (by decide) ?_
  refine pn_sub [0, 1, 2, 3] rfl ?_
  exact hk22 _ _ _ _ h
set_option maxRecDepth 20000 in
set_option maxHeartbeats 4000000 in
theorem s_X12_weakest_22b {l : Launch} {g : pj_G} (hg : pj_ph g = true) {r0 : Nat} {x1 : Int} {x2 : Int} {x3 : Int} {M : pj_M} {Q : Int → pj_M → Prop}  {k22 : Int → Int → Int → pj_M → Prop} (o0 : pj_ob r0 12)  (hk22 : ∀ (x1 : Int) (x2 : Int) (x3 : Int) (M : pj_M), k22 x1 x2 x3 M → pj_R l g mdX12_weakest pj_T (pj_Zm g mdX12_weakest (pj_qi Q)) pj_NK 0 0 22 [(0, .ref r0), (1, .int (pj_I x1)), (2, .int (pj_I x2)), (3, .int (pj_I x3))] [] M) (h : w_X12_weakest_22b r0  Q k22 x1 x2 x3 M) : pj_R l g mdX12_weakest pj_T (pj_Zm g mdX12_weakest (pj_qi Q)) pj_NK 0 0 22 [(0, .ref r0), (1, .int (pj_I x1)), (2, .int (pj_I x2)), (3, .int (pj_I x3))] [] M := by
  unfold w_X12_weakest_22b at h
  refine pj_iload_n 23 3 rfl rfl rfl rfl ?_
  refine pj_aload_n 24 0 rfl rfl rfl rfl ?_
  refine pn_geti 27 12 14 14 o0 rfl pfX12_214 (Or.inl rfl) rfl rfl ?_
  refine pj_iconst 28 rfl rfl ?_
  refine pj_iadd 29 rfl rfl ?_
  obtain ⟨q4, h⟩ := h
  obtain ⟨q5, h⟩ := h
  refine pj_icmp_gt 72 32 rfl (by decide) rfl q4 q5 (fun hc => ?_) (fun hc => ?_)
  · replace h := h.1 hc
    refine pj_aload_n 73 0 rfl rfl rfl rfl ?_
    refine pj_iload_n 74 1 rfl rfl rfl rfl ?_
    refine pn_callVi 77 12 [.int (pj_I x1)] [] o0 (s_X12_longestWith hg o0 h) plX12_309 rfl rfl rfl rfl (Nat.le_of_ble_eq_true rfl) (by decide) (fun t7 M6 h => ?_)
    refine pj_pop 78 rfl rfl rfl ?_
    refine pj_aload_n 79 0 rfl rfl rfl rfl ?_
    refine pj_iconst 80 rfl rfl ?_
    refine pn_puti 83 12 4 4 o0  rfl pfX12_92 rfl rfl rfl (fun M8 hM8 => ?_)
    replace h := h M8 hM8
    refine pj_aload_n 84 0 rfl rfl rfl rfl ?_
    refine pj_aload_n 85 0 rfl rfl rfl rfl ?_
    refine pn_geti 88 12 28 28 o0 rfl pfX12_303 (Or.inl rfl) rfl rfl ?_
    obtain ⟨q9, h⟩ := h
    refine pj_i2l 89 rfl rfl q9 ?_
    refine pn_callVv 92 12 [.long (pj_L (M8 r0 28))] [] o0 (s_X12_tell hg o0 h) plX12_260 rfl rfl rfl rfl (Nat.le_of_ble_eq_true rfl) (by decide) (fun M10 h => ?_)
    refine pj_aload_n 93 0 rfl rfl rfl rfl ?_
    refine pj_aload_n 94 0 rfl rfl rfl rfl ?_
    refine pn_geti 97 12 29 29 o0 rfl pfX12_306 (Or.inl rfl) rfl rfl ?_
    obtain ⟨q12, h⟩ := h
    refine pj_i2l 98 rfl rfl q12 ?_
    refine pn_callVv 101 12 [.long (pj_L (M10 r0 29))] [] o0 (s_X12_tell hg o0 h) plX12_260 rfl rfl rfl rfl (Nat.le_of_ble_eq_true rfl) (by decide) (fun M13 h => ?_)
    refine pj_iload_n 102 1 rfl rfl rfl rfl ?_
    exact pn_iret h rfl rfl
  · replace h := h.2 hc
    refine pj_aload_n 33 0 rfl rfl rfl rfl ?_
    refine pj_iload_n 34 3 rfl rfl rfl rfl ?_
    refine pn_callVi 37 12 [.int (pj_I x3)] [] o0 (s_X12_longestWith hg o0 h) plX12_309 rfl rfl rfl rfl (Nat.le_of_ble_eq_true rfl) (by decide) (fun t16 M15 h => ?_)
    refine pj_istore 39 (ls' := [(0, .ref r0), (1, .int (pj_I x1)), (2, .int (pj_I x2)), (3, .int (pj_I x3)), (4, .int (pj_I t16))]) rfl (by decide) rfl rfl ?_
    refine pj_iload 41 4 rfl rfl rfl ?_
    obtain ⟨q17, h⟩ := h
    refine pj_if_ne 47 44 rfl (by decide) rfl q17  (fun hc => ?_) (fun hc => ?_)
    · replace h := h.1 hc
      refine pj_iload_n 48 1 rfl rfl rfl rfl ?_
      refine pj_iconst 49 rfl rfl ?_
      obtain ⟨q18, h⟩ := h
      refine pj_icmp_eq 61 52 rfl (by decide) rfl q18 (show pj_in (-1) by decide) (fun hc => ?_) (fun hc => ?_)
      · replace h := h.1 hc
        refine pn_sub [0, 3, 4] rfl ?_
        exact s_X12_weakest_61 hg o0  hk22 h
      · replace h := h.2 hc
        refine pj_iload 54 4 rfl rfl rfl ?_
        refine pj_iload_n 55 2 rfl rfl rfl rfl ?_
        obtain ⟨q19, h⟩ := h
        obtain ⟨q20, h⟩ := h
        refine pj_icmp_lt 61 58 rfl (by decide) rfl q19 q20 (fun hc => ?_) (fun hc => ?_)
        · replace h := h.1 hc
          refine pn_sub [0, 3, 4] rfl ?_
          exact s_X12_weakest_61 hg o0  hk22 h
        · replace h := h.2 hc
          refine pj_goto 66 rfl (by decide) ?_
          refine pj_iinc 69 3 (ls' := [(0, .ref r0), (1, .int (pj_I x1)), (2, .int (pj_I x2)), (3, .int (pj_I (x3 + 1))), (4, .int (pj_I t16))]) rfl rfl (by decide) rfl rfl ?_
          refine pj_goto 22 rfl (by decide) ?_
          refine pn_sub [0, 1, 2, 3] rfl ?_
          exact hk22 _ _ _ _ h
    · replace h := h.2 (Classical.not_not.mp hc)
      refine pj_bipush 46 rfl (by decide) rfl ?_
      exact pn_iret h rfl rfl
set_option maxRecDepth 20000 in
set_option maxHeartbeats 4000000 in
theorem s_X12_weakest_22 {l : Launch} {g : pj_G} (hg : pj_ph g = true) {r0 : Nat} {x1 : Int} {x2 : Int} {x3 : Int} {M : pj_M} {Q : Int → pj_M → Prop}  (o0 : pj_ob r0 12)  (h : w_X12_weakest_22 r0  Q x1 x2 x3 M) : pj_R l g mdX12_weakest pj_T (pj_Zm g mdX12_weakest (pj_qi Q)) pj_NK 0 0 22 [(0, .ref r0), (1, .int (pj_I x1)), (2, .int (pj_I x2)), (3, .int (pj_I x3))] [] M :=
  h (fun s => pj_R l g mdX12_weakest pj_T (pj_Zm g mdX12_weakest (pj_qi Q)) pj_NK 0 0 22 [(0, .ref r0), (1, .int (pj_I (s.1))), (2, .int (pj_I (s.2.1))), (3, .int (pj_I (s.2.2.1)))] [] s.2.2.2) (fun s hs => s_X12_weakest_22b hg o0  (fun _ _ _ _ q => q) hs)
set_option maxRecDepth 20000 in
set_option maxHeartbeats 4000000 in
theorem s_X12_weakest {l : Launch} {g : pj_G} (hg : pj_ph g = true) {r0 : Nat} {M : pj_M} {Q : Int → pj_M → Prop} (o0 : pj_ob r0 12) (h : w_X12_weakest r0 M Q) : pj_S l g mdX12_weakest [.ref r0] pj_NK M (pj_qi Q) := by
  refine pj_ofR (ls := [(0, .ref r0)]) gcX12_weakest (by decide) rfl (Nat.le_of_ble_eq_true rfl) rfl ?_
  unfold w_X12_weakest at h
  refine pj_aload_n 1 0 rfl rfl rfl rfl ?_
  refine pj_iconst 2 rfl rfl ?_
  refine pn_puti 5 12 5 5 o0  rfl pfX12_88 rfl rfl rfl (fun M1 hM1 => ?_)
  replace h := h M1 hM1
  refine pj_aload_n 6 0 rfl rfl rfl rfl ?_
  refine pj_aload_n 7 0 rfl rfl rfl rfl ?_
  refine pn_getr 10 12 0 hg o0 (pr_12_0 o0).2 rfl pfX12_9 rfl rfl ?_
  refine pj_bipush 12 rfl (by decide) rfl ?_
  refine pn_iald 13 95 (pr_12_0 o0) (show 0 ≤ (73 : Int) ∧ (73 : Int) < ((95 : Nat) : Int) by decide) rfl rfl ?_
  refine pn_callVv 16 12 [.int (pj_I (M1 (pj_rf r0 0) 73))] [] o0 (s_X12_layAll hg o0 h) plX12_246 rfl rfl rfl rfl (Nat.le_of_ble_eq_true rfl) (by decide) (fun M2 h => ?_)
  refine pj_iconst 17 rfl rfl ?_
  refine pj_istore_n 18 (ls' := [(0, .ref r0), (1, .int (pj_I (-1)))]) rfl rfl (by decide) rfl rfl ?_
  refine pj_iconst 19 rfl rfl ?_
  refine pj_istore_n 20 (ls' := [(0, .ref r0), (1, .int (pj_I (-1))), (2, .int (pj_I 0))]) rfl rfl (by decide) rfl rfl ?_
  refine pj_iconst 21 rfl rfl ?_
  refine pj_istore_n 22 (ls' := [(0, .ref r0), (1, .int (pj_I (-1))), (2, .int (pj_I 0)), (3, .int (pj_I 0))]) rfl rfl (by decide) rfl rfl ?_
  refine pn_sub [0, 1, 2, 3] rfl ?_
  exact s_X12_weakest_22 hg o0   h
def w_X12_wide_44b (r0 : Nat) (x1 : Int)  (Q : Int → pj_M → Prop) (k44 : Int → Int → pj_M → Prop) (x2 : Int) (x3 : Int) (M : pj_M) : Prop :=
  (pj_in (x3 + x1)) ∧ (pj_in ((M r0 14) + 2)) ∧ ((((M r0 14) + 2) < (x3 + x1) → Q x2 M) ∧ (¬ ((M r0 14) + 2) < (x3 + x1) → w_X12_isFit r0 x3 (x3 + x1) M (fun (t11 : Int) (M10 : pj_M) => (pj_in t11) ∧ ((t11 = 0 → (pj_in (M10 r0 4)) ∧ ((¬ (M10 r0 4) = 0 → k44 x2 (x3 + 1) M10) ∧ ((M10 r0 4) = 0 → (pj_in x3) ∧ w_X12_tell r0 x3 M10 (fun (M15 : pj_M) => k44 x2 (x3 + 1) M15)))) ∧ (¬ t11 = 0 → k44 (x2 + 1) (x3 + 1) M10)))))
def w_X12_wide_44 (r0 : Nat) (x1 : Int)  (Q : Int → pj_M → Prop) (x2 : Int) (x3 : Int) (M : pj_M) : Prop := pj_lp (fun (k : Int × Int × pj_M → Prop) (s : Int × Int × pj_M) => w_X12_wide_44b r0 x1  Q (fun (x2 : Int) (x3 : Int) (M : pj_M) => k (x2, x3, M)) s.1 s.2.1 s.2.2) (x2, x3, M)
def w_X12_wide (r0 : Nat) (x1 : Int) (M : pj_M) (Q : Int → pj_M → Prop) : Prop :=
  ∀ M1 : pj_M, M1 = pj_up M r0 5 0 → w_X12_in x1 1 ((M1 (pj_rf r0 0) 73) + 2) M1 (fun (t3 : Int) (M2 : pj_M) => (pj_in t3) ∧ ((¬ t3 = 0 → w_X12_layAll r0 (M2 (pj_rf r0 0) 73) M2 (fun (M5 : pj_M) => ∀ M7 : pj_M, M7 = pj_up M5 r0 4 0 → w_X12_wide_44 r0 x1  Q 0 0 M7)) ∧ (t3 = 0 → Q (-1) M2)))
set_option maxRecDepth 20000 in
set_option maxHeartbeats 4000000 in
theorem s_X12_wide_44b {l : Launch} {g : pj_G} (hg : pj_ph g = true) {r0 : Nat} {x1 : Int} {x2 : Int} {x3 : Int} {M : pj_M} {Q : Int → pj_M → Prop}  {k44 : Int → Int → pj_M → Prop} (o0 : pj_ob r0 12)  (hk44 : ∀ (x2 : Int) (x3 : Int) (M : pj_M), k44 x2 x3 M → pj_R l g mdX12_wide pj_T (pj_Zm g mdX12_wide (pj_qi Q)) pj_NK 0 0 44 [(0, .ref r0), (1, .int (pj_I x1)), (2, .int (pj_I x2)), (3, .int (pj_I x3))] [] M) (h : w_X12_wide_44b r0 x1  Q k44 x2 x3 M) : pj_R l g mdX12_wide pj_T (pj_Zm g mdX12_wide (pj_qi Q)) pj_NK 0 0 44 [(0, .ref r0), (1, .int (pj_I x1)), (2, .int (pj_I x2)), (3, .int (pj_I x3))] [] M := by
  unfold w_X12_wide_44b at h
  refine pj_iload_n 45 3 rfl rfl rfl rfl ?_
  refine pj_iload_n 46 1 rfl rfl rfl rfl ?_
  refine pj_iadd 47 rfl rfl ?_
  refine pj_aload_n 48 0 rfl rfl rfl rfl ?_
  refine pn_geti 51 12 14 14 o0 rfl pfX12_214 (Or.inl rfl) rfl rfl ?_
  refine pj_iconst 52 rfl rfl ?_
  refine pj_iadd 53 rfl rfl ?_
  obtain ⟨q8, h⟩ := h
  obtain ⟨q9, h⟩ := h
  refine pj_icmp_gt 92 56 rfl (by decide) rfl q8 q9 (fun hc => ?_) (fun hc => ?_)
  · replace h := h.1 hc
    refine pj_iload_n 93 2 rfl rfl rfl rfl ?_
    exact pn_iret h rfl rfl
  · replace h := h.2 hc
    refine pj_aload_n 57 0 rfl rfl rfl rfl ?_
    refine pj_iload_n 58 3 rfl rfl rfl rfl ?_
    refine pj_iload_n 59 3 rfl rfl rfl rfl ?_
    refine pj_iload_n 60 1 rfl rfl rfl rfl ?_
    refine pj_iadd 61 rfl rfl ?_
    refine pn_callVi 64 12 [.int (pj_I x3), .int (pj_I (x3 + x1))] [] o0 (s_X12_isFit hg o0 h) plX12_249 rfl rfl rfl rfl (Nat.le_of_ble_eq_true rfl) (by decide) (fun t11 M10 h => ?_)
    obtain ⟨q12, h⟩ := h
    refine pj_if_eq 73 67 rfl (by decide) rfl q12  (fun hc => ?_) (fun hc => ?_)
    · replace h := h.1 hc
      refine pj_aload_n 74 0 rfl rfl rfl rfl ?_
      refine pn_geti 77 12 4 4 o0 rfl pfX12_92 (Or.inl rfl) rfl rfl ?_
      obtain ⟨q13, h⟩ := h
      refine pj_if_ne 86 80 rfl (by decide) rfl q13  (fun hc => ?_) (fun hc => ?_)
      · replace h := h.1 hc
        refine pj_iinc 89 3 (ls' := [(0, .ref r0), (1, .int (pj_I x1)), (2, .int (pj_I x2)), (3, .int (pj_I (x3 + 1)))]) rfl rfl (by decide) rfl rfl ?_
        refine pj_goto 44 rfl (by decide) ?_
        refine pn_sub [0, 1, 2, 3] rfl ?_
        exact hk44 _ _ _ h
      · replace h := h.2 (Classical.not_not.mp hc)
        refine pj_aload_n 81 0 rfl rfl rfl rfl ?_
        refine pj_iload_n 82 3 rfl rfl rfl rfl ?_
        obtain ⟨q14, h⟩ := h
        refine pj_i2l 83 rfl rfl q14 ?_
        refine pn_callVv 86 12 [.long (pj_L x3)] [] o0 (s_X12_tell hg o0 h) plX12_260 rfl rfl rfl rfl (Nat.le_of_ble_eq_true rfl) (by decide) (fun M15 h => ?_)
        refine pj_iinc 89 3 (ls' := [(0, .ref r0), (1, .int (pj_I x1)), (2, .int (pj_I x2)), (3, .int (pj_I (x3 + 1)))]) rfl rfl (by decide) rfl rfl ?_
        refine pj_goto 44 rfl (by decide) ?_
        refine pn_sub [0, 1, 2, 3] rfl ?_
        exact hk44 _ _ _ h
    · replace h := h.2 hc
      refine pj_iinc 70 2 (ls' := [(0, .ref r0), (1, .int (pj_I x1)), (2, .int (pj_I (x2 + 1))), (3, .int (pj_I x3))]) rfl rfl (by decide) rfl rfl ?_
      refine pj_goto 86 rfl (by decide) ?_
      refine pj_iinc 89 3 (ls' := [(0, .ref r0), (1, .int (pj_I x1)), (2, .int (pj_I (x2 + 1))), (3, .int (pj_I (x3 + 1)))]) rfl rfl (by decide) rfl rfl ?_
      refine pj_goto 44 rfl (by decide) ?_
      refine pn_sub [0, 1, 2, 3] rfl ?_
      exact hk44 _ _ _ h
set_option maxRecDepth 20000 in
set_option maxHeartbeats 4000000 in
theorem s_X12_wide_44 {l : Launch} {g : pj_G} (hg : pj_ph g = true) {r0 : Nat} {x1 : Int} {x2 : Int} {x3 : Int} {M : pj_M} {Q : Int → pj_M → Prop}  (o0 : pj_ob r0 12)  (h : w_X12_wide_44 r0 x1  Q x2 x3 M) : pj_R l g mdX12_wide pj_T (pj_Zm g mdX12_wide (pj_qi Q)) pj_NK 0 0 44 [(0, .ref r0), (1, .int (pj_I x1)), (2, .int (pj_I x2)), (3, .int (pj_I x3))] [] M :=
  h (fun s => pj_R l g mdX12_wide pj_T (pj_Zm g mdX12_wide (pj_qi Q)) pj_NK 0 0 44 [(0, .ref r0), (1, .int (pj_I x1)), (2, .int (pj_I (s.1))), (3, .int (pj_I (s.2.1)))] [] s.2.2) (fun s hs => s_X12_wide_44b hg o0  (fun _ _ _ q => q) hs)
set_option maxRecDepth 20000 in
set_option maxHeartbeats 4000000 in
theorem s_X12_wide {l : Launch} {g : pj_G} (hg : pj_ph g = true) {r0 : Nat} {x1 : Int} {M : pj_M} {Q : Int → pj_M → Prop} (o0 : pj_ob r0 12) (h : w_X12_wide r0 x1 M Q) : pj_S l g mdX12_wide [.ref r0, .int (pj_I x1)] pj_NK M (pj_qi Q) := by
  refine pj_ofR (ls := [(0, .ref r0), (1, .int (pj_I x1))]) gcX12_wide (by decide) rfl (Nat.le_of_ble_eq_true rfl) rfl ?_
  unfold w_X12_wide at h
  refine pj_aload_n 1 0 rfl rfl rfl rfl ?_
  refine pj_iconst 2 rfl rfl ?_
  refine pn_puti 5 12 5 5 o0  rfl pfX12_88 rfl rfl rfl (fun M1 hM1 => ?_)
  replace h := h M1 hM1
  refine pj_iload_n 6 1 rfl rfl rfl rfl ?_
  refine pj_iconst 7 rfl rfl ?_
  refine pj_aload_n 8 0 rfl rfl rfl rfl ?_
  refine pn_getr 11 12 0 hg o0 (pr_12_0 o0).2 rfl pfX12_9 rfl rfl ?_
  refine pj_bipush 13 rfl (by decide) rfl ?_
  refine pn_iald 14 95 (pr_12_0 o0) (show 0 ≤ (73 : Int) ∧ (73 : Int) < ((95 : Nat) : Int) by decide) rfl rfl ?_
  refine pj_iconst 15 rfl rfl ?_
  refine pj_iadd 16 rfl rfl ?_
  refine pn_callSi 19 [.int (pj_I x1), .int (pj_I 1), .int (pj_I ((M1 (pj_rf r0 0) 73) + 2))] [] (s_X12_in hg  h) plX12_98 rfl rfl rfl rfl (Nat.le_of_ble_eq_true rfl) (by decide) (fun t3 M2 h => ?_)
  obtain ⟨q4, h⟩ := h
  refine pj_if_ne 24 22 rfl (by decide) rfl q4  (fun hc => ?_) (fun hc => ?_)
  · replace h := h.1 hc
    refine pj_aload_n 25 0 rfl rfl rfl rfl ?_
    refine pj_aload_n 26 0 rfl rfl rfl rfl ?_
    refine pn_getr 29 12 0 hg o0 (pr_12_0 o0).2 rfl pfX12_9 rfl rfl ?_
    refine pj_bipush 31 rfl (by decide) rfl ?_
    refine pn_iald 32 95 (pr_12_0 o0) (show 0 ≤ (73 : Int) ∧ (73 : Int) < ((95 : Nat) : Int) by decide) rfl rfl ?_
    refine pn_callVv 35 12 [.int (pj_I (M2 (pj_rf r0 0) 73))] [] o0 (s_X12_layAll hg o0 h) plX12_246 rfl rfl rfl rfl (Nat.le_of_ble_eq_true rfl) (by decide) (fun M5 h => ?_)
    refine pj_iconst 36 rfl rfl ?_
    refine pj_istore_n 37 (ls' := [(0, .ref r0), (1, .int (pj_I x1)), (2, .int (pj_I 0))]) rfl rfl (by decide) rfl rfl ?_
    refine pj_aload_n 38 0 rfl rfl rfl rfl ?_
    refine pj_iconst 39 rfl rfl ?_
    refine pn_puti 42 12 4 4 o0  rfl pfX12_92 rfl rfl rfl (fun M7 hM7 => ?_)
    replace h := h M7 hM7
    refine pj_iconst 43 rfl rfl ?_
    refine pj_istore_n 44 (ls' := [(0, .ref r0), (1, .int (pj_I x1)), (2, .int (pj_I 0)), (3, .int (pj_I 0))]) rfl rfl (by decide) rfl rfl ?_
    refine pn_sub [0, 1, 2, 3] rfl ?_
    exact s_X12_wide_44 hg o0   h
  · replace h := h.2 (Classical.not_not.mp hc)
    refine pj_iconst 23 rfl rfl ?_
    exact pn_iret h rfl rfl
def w_X12_manyOf_33 (r0 : Nat) (x1 : Int) (x3 : Int) (y0 : Int) (y1 : Int) (k4 : Int → Int → pj_M → Prop) (Q : Int → pj_M → Prop) (M : pj_M) : Prop :=
  k4 (y0 + y1) (x3 + 1) M
def w_X12_manyOf_4b (r0 : Nat) (x1 : Int)  (Q : Int → pj_M → Prop) (k4 : Int → Int → pj_M → Prop) (x2 : Int) (x3 : Int) (M : pj_M) : Prop :=
  (pj_in x3) ∧ (pj_in (M (pj_rf r0 0) 0)) ∧ (((M (pj_rf r0 0) 0) ≤ x3 → Q x2 M) ∧ (¬ (M (pj_rf r0 0) 0) ≤ x3 → w_X12_alt x3 M (fun (t4 : Int) (M3 : pj_M) => ((0 : Int) ≤ t4 ∧ t4 < 95) ∧ (pj_in (M3 (pj_rf r0 0) t4)) ∧ (pj_in x1) ∧ ((¬ (M3 (pj_rf r0 0) t4) = x1 → w_X12_manyOf_33 r0 x1 x3 x2 0 k4 Q M3) ∧ ((M3 (pj_rf r0 0) t4) = x1 → w_X12_manyOf_33 r0 x1 x3 x2 1 k4 Q M3)))))
def w_X12_manyOf_4 (r0 : Nat) (x1 : Int)  (Q : Int → pj_M → Prop) (x2 : Int) (x3 : Int) (M : pj_M) : Prop := pj_lp (fun (k : Int × Int × pj_M → Prop) (s : Int × Int × pj_M) => w_X12_manyOf_4b r0 x1  Q (fun (x2 : Int) (x3 : Int) (M : pj_M) => k (x2, x3, M)) s.1 s.2.1 s.2.2) (x2, x3, M)
def w_X12_manyOf (r0 : Nat) (x1 : Int) (M : pj_M) (Q : Int → pj_M → Prop) : Prop :=
  w_X12_manyOf_4 r0 x1  Q 0 0 M
set_option maxRecDepth 20000 in
set_option maxHeartbeats 4000000 in
theorem s_X12_manyOf_33 {l : Launch} {g : pj_G} (hg : pj_ph g = true) {r0 : Nat} {x1 : Int} {x3 : Int} {y0 : Int} {y1 : Int} {M : pj_M} {Q : Int → pj_M → Prop} {k4 : Int → Int → pj_M → Prop} (o0 : pj_ob r0 12) (hk4 : ∀ (x2 : Int) (x3 : Int) (M : pj_M), k4 x2 x3 M → pj_R l g mdX12_manyOf pj_T (pj_Zm g mdX12_manyOf (pj_qi Q)) pj_NK 0 0 4 [(0, .ref r0), (1, .int (pj_I x1)), (2, .int (pj_I x2)), (3, .int (pj_I x3))] [] M) (h : w_X12_manyOf_33 r0 x1 x3 y0 y1 k4 Q M) : pj_R l g mdX12_manyOf pj_T (pj_Zm g mdX12_manyOf (pj_qi Q)) pj_NK 0 0 33 [(0, .ref r0), (1, .int (pj_I x1)), (3, .int (pj_I x3))] [.int (pj_I y1), .int (pj_I y0)] M := by
  unfold w_X12_manyOf_33 at h
  refine pj_iadd 34 rfl rfl ?_
  refine pj_istore_n 35 (ls' := [(0, .ref r0), (1, .int (pj_I x1)), (2, .int (pj_I (y0 + y1))), (3, .int (pj_I x3))]) rfl rfl (by decide) rfl rfl ?_
  refine pj_iinc 38 3 (ls' := [(0, .ref r0), (1, .int (pj_I x1)), (2, .int (pj_I (y0 + y1))), (3, .int (pj_I (x3 + 1)))]) rfl rfl (by decide) rfl rfl ?_
  refine pj_goto 4 rfl (by decide) ?_
  refine pn_sub [0, 1, 2, 3] rfl ?_
  exact hk4 _ _ _ h
set_option maxRecDepth 20000 in
set_option maxHeartbeats 4000000 in
theorem s_X12_manyOf_4b {l : Launch} {g : pj_G} (hg : pj_ph g = true) {r0 : Nat} {x1 : Int} {x2 : Int} {x3 : Int} {M : pj_M} {Q : Int → pj_M → Prop}  {k4 : Int → Int → pj_M → Prop} (o0 : pj_ob r0 12)  (hk4 : ∀ (x2 : Int) (x3 : Int) (M : pj_M), k4 x2 x3 M → pj_R l g mdX12_manyOf pj_T (pj_Zm g mdX12_manyOf (pj_qi Q)) pj_NK 0 0 4 [(0, .ref r0), (1, .int (pj_I x1)), (2, .int (pj_I x2)), (3, .int (pj_I x3))] [] M) (h : w_X12_manyOf_4b r0 x1  Q k4 x2 x3 M) : pj_R l g mdX12_manyOf pj_T (pj_Zm g mdX12_manyOf (pj_qi Q)) pj_NK 0 0 4 [(0, .ref r0), (1, .int (pj_I x1)), (2, .int (pj_I x2)), (3, .int (pj_I x3))] [] M := by
  unfold w_X12_manyOf_4b at h
  refine pj_iload_n 5 3 rfl rfl rfl rfl ?_
  refine pj_aload_n 6 0 rfl rfl rfl rfl ?_
  refine pn_getr 9 12 0 hg o0 (pr_12_0 o0).2 rfl pfX12_9 rfl rfl ?_
  refine pj_iconst 10 rfl rfl ?_
  refine pn_iald 11 95 (pr_12_0 o0) (show 0 ≤ (0 : Int) ∧ (0 : Int) < ((95 : Nat) : Int) by decide) rfl rfl ?_
  obtain ⟨q1, h⟩ := h
  obtain ⟨q2, h⟩ := h
  refine pj_icmp_ge 41 14 rfl (by decide) rfl q1 q2 (fun hc => ?_) (fun hc => ?_)
  · replace h := h.1 hc
    refine pj_iload_n 42 2 rfl rfl rfl rfl ?_
    exact pn_iret h rfl rfl
  · replace h := h.2 hc
    refine pj_iload_n 15 2 rfl rfl rfl rfl ?_
    refine pj_aload_n 16 0 rfl rfl rfl rfl ?_
    refine pn_getr 19 12 0 hg o0 (pr_12_0 o0).2 rfl pfX12_9 rfl rfl ?_
    refine pj_iload_n 20 3 rfl rfl rfl rfl ?_
    refine pn_callSi 23 [.int (pj_I x3)] [.ref (pj_rf r0 0), .int (pj_I x2)] (s_X12_alt hg  h) plX12_127 rfl rfl rfl rfl (Nat.le_of_ble_eq_true rfl) (by decide) (fun t4 M3 h => ?_)
    obtain ⟨q5, h⟩ := h
    refine pn_iald 24 95 (pr_12_0 o0) q5 rfl rfl ?_
    refine pj_iload_n 25 1 rfl rfl rfl rfl ?_
    obtain ⟨q6, h⟩ := h
    obtain ⟨q7, h⟩ := h
    refine pj_icmp_ne 32 28 rfl (by decide) rfl q6 q7 (fun hc => ?_) (fun hc => ?_)
    · replace h := h.1 hc
      refine pj_iconst 33 rfl rfl ?_
      refine pn_sub [0, 1, 3] rfl ?_
      exact s_X12_manyOf_33 hg o0  hk4 h
    · replace h := h.2 (Classical.not_not.mp hc)
      refine pj_iconst 29 rfl rfl ?_
      refine pj_goto 33 rfl (by decide) ?_
      refine pn_sub [0, 1, 3] rfl ?_
      exact s_X12_manyOf_33 hg o0  hk4 h
set_option maxRecDepth 20000 in
set_option maxHeartbeats 4000000 in
theorem s_X12_manyOf_4 {l : Launch} {g : pj_G} (hg : pj_ph g = true) {r0 : Nat} {x1 : Int} {x2 : Int} {x3 : Int} {M : pj_M} {Q : Int → pj_M → Prop}  (o0 : pj_ob r0 12)  (h : w_X12_manyOf_4 r0 x1  Q x2 x3 M) : pj_R l g mdX12_manyOf pj_T (pj_Zm g mdX12_manyOf (pj_qi Q)) pj_NK 0 0 4 [(0, .ref r0), (1, .int (pj_I x1)), (2, .int (pj_I x2)), (3, .int (pj_I x3))] [] M :=
  h (fun s => pj_R l g mdX12_manyOf pj_T (pj_Zm g mdX12_manyOf (pj_qi Q)) pj_NK 0 0 4 [(0, .ref r0), (1, .int (pj_I x1)), (2, .int (pj_I (s.1))), (3, .int (pj_I (s.2.1)))] [] s.2.2) (fun s hs => s_X12_manyOf_4b hg o0  (fun _ _ _ q => q) hs)
set_option maxRecDepth 20000 in
set_option maxHeartbeats 4000000 in
theorem s_X12_manyOf {l : Launch} {g : pj_G} (hg : pj_ph g = true) {r0 : Nat} {x1 : Int} {M : pj_M} {Q : Int → pj_M → Prop} (o0 : pj_ob r0 12) (h : w_X12_manyOf r0 x1 M Q) : pj_S l g mdX12_manyOf [.ref r0, .int (pj_I x1)] pj_NK M (pj_qi Q) := by
  refine pj_ofR (ls := [(0, .ref r0), (1, .int (pj_I x1))]) gcX12_manyOf (by decide) rfl (Nat.le_of_ble_eq_true rfl) rfl ?_
  unfold w_X12_manyOf at h
  refine pj_iconst 1 rfl rfl ?_
  refine pj_istore_n 2 (ls' := [(0, .ref r0), (1, .int (pj_I x1)), (2, .int (pj_I 0))]) rfl rfl (by decide) rfl rfl ?_
  refine pj_iconst 3 rfl rfl ?_
  refine pj_istore_n 4 (ls' := [(0, .ref r0), (1, .int (pj_I x1)), (2, .int (pj_I 0)), (3, .int (pj_I 0))]) rfl rfl (by decide) rfl rfl ?_
  refine pn_sub [0, 1, 2, 3] rfl ?_
  exact s_X12_manyOf_4 hg o0   h
def w_X12_comesOfStart_31b (r0 : Nat) (x2 : Int) (x3 : Int) (k9 : Int → Int → pj_M → Prop) (k18 : Int → Int → pj_M → Prop) (Q : Int → pj_M → Prop) (k31 : Int → Int → pj_M → Prop) (x1 : Int) (x4 : Int) (M : pj_M) : Prop :=
  w_X12_longOf r0 x3 M (fun (t9 : Int) (M8 : pj_M) => (pj_in x4) ∧ (pj_in t9) ∧ ((t9 ≤ x4 → k18 x1 (x3 + 1) M8) ∧ (¬ t9 ≤ x4 → w_X12_alt x3 M8 (fun (t13 : Int) (M12 : pj_M) => ((0 : Int) ≤ t13 ∧ t13 < 95) ∧ w_X12_has x1 (M12 (pj_rf r0 0) t13) M12 (fun (t16 : Int) (M15 : pj_M) => (pj_in t16) ∧ ((t16 = 0 → k31 x1 (x4 + 1) M15) ∧ (¬ t16 = 0 → w_X12_symbolOf r0 x3 x4 M15 (fun (t19 : Int) (M18 : pj_M) => (pj_in t19) ∧ ((t19 < 8 → k31 x1 (x4 + 1) M18) ∧ (¬ t19 < 8 → w_X12_symbolOf r0 x3 x4 M18 (fun (t22 : Int) (M21 : pj_M) => ∀ z23 : Int, z23 = (pj_or x1 (pj_shl 1 (t22 - 8))) → k31 z23 (x4 + 1) M21)))))))))))
def w_X12_comesOfStart_31 (r0 : Nat) (x2 : Int) (x3 : Int) (k9 : Int → Int → pj_M → Prop) (k18 : Int → Int → pj_M → Prop) (Q : Int → pj_M → Prop) (x1 : Int) (x4 : Int) (M : pj_M) : Prop := pj_lp (fun (k : Int × Int × pj_M → Prop) (s : Int × Int × pj_M) => w_X12_comesOfStart_31b r0 x2 x3 k9 k18 Q (fun (x1 : Int) (x4 : Int) (M : pj_M) => k (x1, x4, M)) s.1 s.2.1 s.2.2) (x1, x4, M)
def w_X12_comesOfStart_18b (r0 : Nat) (x2 : Int) (k9 : Int → Int → pj_M → Prop) (Q : Int → pj_M → Prop) (k18 : Int → Int → pj_M → Prop) (x1 : Int) (x3 : Int) (M : pj_M) : Prop :=
  (pj_in x3) ∧ (pj_in (M (pj_rf r0 0) 0)) ∧ (((M (pj_rf r0 0) 0) ≤ x3 → k9 x1 x2 M) ∧ (¬ (M (pj_rf r0 0) 0) ≤ x3 → w_X12_comesOfStart_31 r0 x2 x3 k9 k18 Q x1 0 M))
def w_X12_comesOfStart_18 (r0 : Nat) (x2 : Int) (k9 : Int → Int → pj_M → Prop) (Q : Int → pj_M → Prop) (x1 : Int) (x3 : Int) (M : pj_M) : Prop := pj_lp (fun (k : Int × Int × pj_M → Prop) (s : Int × Int × pj_M) => w_X12_comesOfStart_18b r0 x2 k9 Q (fun (x1 : Int) (x3 : Int) (M : pj_M) => k (x1, x3, M)) s.1 s.2.1 s.2.2) (x1, x3, M)
def w_X12_comesOfStart_9b (r0 : Nat)  (Q : Int → pj_M → Prop) (k9 : Int → Int → pj_M → Prop) (x1 : Int) (x2 : Int) (M : pj_M) : Prop :=
  (pj_in x2) ∧ (pj_in x1) ∧ ((x2 = x1 → Q x1 M) ∧ (¬ x2 = x1 → w_X12_comesOfStart_18 r0 x1 k9 Q x1 0 M))
def w_X12_comesOfStart_9 (r0 : Nat)  (Q : Int → pj_M → Prop) (x1 : Int) (x2 : Int) (M : pj_M) : Prop := pj_lp (fun (k : Int × Int × pj_M → Prop) (s : Int × Int × pj_M) => w_X12_comesOfStart_9b r0  Q (fun (x1 : Int) (x2 : Int) (M : pj_M) => k (x1, x2, M)) s.1 s.2.1 s.2.2) (x1, x2, M)
def w_X12_comesOfStart (r0 : Nat) (M : pj_M) (Q : Int → pj_M → Prop) : Prop :=
  w_X12_start r0 M (fun (t2 : Int) (M1 : pj_M) => ∀ z3 : Int, z3 = (pj_shl 1 t2) → w_X12_comesOfStart_9 r0  Q z3 (-1) M1)
set_option maxRecDepth 20000 in
set_option maxHeartbeats 4000000 in
theorem s_X12_comesOfStart_31b {l : Launch} {g : pj_G} (hg : pj_ph g = true) {r0 : Nat} {x1 : Int} {x2 : Int} {x3 : Int} {x4 : Int} {M : pj_M} {Q : Int → pj_M → Prop} {k9 : Int → Int → pj_M → Prop} {k18 : Int → Int → pj_M → Prop} {k31 : Int → Int → pj_M → Prop} (o0 : pj_ob r0 12) (hk9 : ∀ (x1 : Int) (x2 : Int) (M : pj_M), k9 x1 x2 M → pj_R l g mdX12_comesOfStart pj_T (pj_Zm g mdX12_comesOfStart (pj_qi Q)) pj_NK 0 0 9 [(0, .ref r0), (1, .int (pj_I x1)), (2, .int (pj_I x2))] [] M) (hk18 : ∀ (x1 : Int) (x3 : Int) (M : pj_M), k18 x1 x3 M → pj_R l g mdX12_comesOfStart pj_T (pj_Zm g mdX12_comesOfStart (pj_qi Q)) pj_NK 0 0 18 [(0, .ref r0), (1, .int (pj_I x1)), (2, .int (pj_I x2)), (3, .int (pj_I x3))] [] M) (hk31 : ∀ (x1 : Int) (x4 : Int) (M : pj_M), k31 x1 x4 M → pj_R l g mdX12_comesOfStart pj_T (pj_Zm g mdX12_comesOfStart (pj_qi Q)) pj_NK 0 0 31 [(0, .ref r0), (1, .int (pj_I x1)), (2, .int (pj_I x2)), (3, .int (pj_I x3)), (4, .int (pj_I x4))] [] M) (h : w_X12_comesOfStart_31b r0 x2 x3 k9 k18 Q k31 x1 x4 M) : pj_R l g mdX12_comesOfStart pj_T (pj_Zm g mdX12_comesOfStart (pj_qi Q)) pj_NK 0 0 31 [(0, .ref r0), (1, .int (pj_I x1)), (2, .int (pj_I x2)), (3, .int (pj_I x3)), (4, .int (pj_I x4))] [] M := by
  unfold w_X12_comesOfStart_31b at h
  refine pj_iload 33 4 rfl rfl rfl ?_
  refine pj_aload_n 34 0 rfl rfl rfl rfl ?_
  refine pj_iload_n 35 3 rfl rfl rfl rfl ?_
  refine pn_callVi 38 12 [.int (pj_I x3)] [.int (pj_I x4)] o0 (s_X12_longOf hg o0 h) plX12_176 rfl rfl rfl rfl (Nat.le_of_ble_eq_true rfl) (by decide) (fun t9 M8 h => ?_)
  obtain ⟨q10, h⟩ := h
  obtain ⟨q11, h⟩ := h
  refine pj_icmp_ge 90 41 rfl (by decide) rfl q10 q11 (fun hc => ?_) (fun hc => ?_)
  · replace h := h.1 hc
    refine pj_iinc 93 3 (ls' := [(0, .ref r0), (1, .int (pj_I x1)), (2, .int (pj_I x2)), (3, .int (pj_I (x3 + 1))), (4, .int (pj_I x4))]) rfl rfl (by decide) rfl rfl ?_
    refine pj_goto 18 rfl (by decide) ?_
    refine pn_sub [0, 1, 2, 3] rfl ?_
    exact hk18 _ _ _ h
  · replace h := h.2 hc
    refine pj_iload_n 42 1 rfl rfl rfl rfl ?_
    refine pj_aload_n 43 0 rfl rfl rfl rfl ?_
    refine pn_getr 46 12 0 hg o0 (pr_12_0 o0).2 rfl pfX12_9 rfl rfl ?_
    refine pj_iload_n 47 3 rfl rfl rfl rfl ?_
    refine pn_callSi 50 [.int (pj_I x3)] [.ref (pj_rf r0 0), .int (pj_I x1)] (s_X12_alt hg  h) plX12_127 rfl rfl rfl rfl (Nat.le_of_ble_eq_true rfl) (by decide) (fun t13 M12 h => ?_)
    obtain ⟨q14, h⟩ := h
    refine pn_iald 51 95 (pr_12_0 o0) q14 rfl rfl ?_
    refine pn_callSi 54 [.int (pj_I x1), .int (pj_I (M12 (pj_rf r0 0) t13))] [] (s_X12_has hg  h) plX12_135 rfl rfl rfl rfl (Nat.le_of_ble_eq_true rfl) (by decide) (fun t16 M15 h => ?_)
    obtain ⟨q17, h⟩ := h
    refine pj_if_eq 84 57 rfl (by decide) rfl q17  (fun hc => ?_) (fun hc => ?_)
    · replace h := h.1 hc
      refine pj_iinc 87 4 (ls' := [(0, .ref r0), (1, .int (pj_I x1)), (2, .int (pj_I x2)), (3, .int (pj_I x3)), (4, .int (pj_I (x4 + 1)))]) rfl rfl (by decide) rfl rfl ?_
      refine pj_goto 31 rfl (by decide) ?_
      refine pn_sub [0, 1, 2, 3, 4] rfl ?_
      exact hk31 _ _ _ h
    · replace h := h.2 hc
      refine pj_aload_n 58 0 rfl rfl rfl rfl ?_
      refine pj_iload_n 59 3 rfl rfl rfl rfl ?_
      refine pj_iload 61 4 rfl rfl rfl ?_
      refine pn_callVi 64 12 [.int (pj_I x3), .int (pj_I x4)] [] o0 (s_X12_symbolOf hg o0 h) plX12_179 rfl rfl rfl rfl (Nat.le_of_ble_eq_true rfl) (by decide) (fun t19 M18 h => ?_)
      refine pj_bipush 66 rfl (by decide) rfl ?_
      obtain ⟨q20, h⟩ := h
      refine pj_icmp_lt 84 69 rfl (by decide) rfl q20 (show pj_in 8 by decide) (fun hc => ?_) (fun hc => ?_)
      · replace h := h.1 hc
        refine pj_iinc 87 4 (ls' := [(0, .ref r0), (1, .int (pj_I x1)), (2, .int (pj_I x2)), (3, .int (pj_I x3)), (4, .int (pj_I (x4 + 1)))]) rfl rfl (by decide) rfl rfl ?_
        refine pj_goto 31 rfl (by decide) ?_
        refine pn_sub [0, 1, 2, 3, 4] rfl ?_
        exact hk31 _ _ _ h
      · replace h := h.2 hc
        refine pj_iload_n 70 1 rfl rfl rfl rfl ?_
        refine pj_iconst 71 rfl rfl ?_
        refine pj_aload_n 72 0 rfl rfl rfl rfl ?_
        refine pj_iload_n 73 3 rfl rfl rfl rfl ?_
        refine pj_iload 75 4 rfl rfl rfl ?_
        refine pn_callVi 78 12 [.int (pj_I x3), .int (pj_I x4)] [.int (pj_I 1), .int (pj_I x1)] o0 (s_X12_symbolOf hg o0 h) plX12_179 rfl rfl rfl rfl (Nat.le_of_ble_eq_true rfl) (by decide) (fun t22 M21 h => ?_)
        refine pj_bipush 80 rfl (by decide) rfl ?_
        refine pj_isub 81 rfl rfl ?_
        refine pj_ishl 82 rfl rfl ?_
        refine pj_ior 83 rfl rfl ?_
        refine pn_nm (fun z23 hz23 => ?_)
        replace h := h z23 hz23
        refine pj_istore_n 84 (ls' := [(0, .ref r0), (1, .int (pj_I z23)), (2, .int (pj_I x2)), (3, .int (pj_I x3)), (4, .int (pj_I x4))]) rfl rfl (by decide) rfl rfl ?_
        refine pj_iinc 87 4 (ls' := [(0, .ref r0), (1, .int (pj_I z23)), (2, .int (pj_I x2)), (3, .int (pj_I x3)), (4, .int (pj_I (x4 + 1)))]) rfl rfl (by decide) rfl rfl ?_
        refine pj_goto 31 rfl (by decide) ?_
        refine pn_sub [0, 1, 2, 3, 4] rfl ?_
        exact hk31 _ _ _ h
set_option maxRecDepth 20000 in
set_option maxHeartbeats 4000000 in
theorem s_X12_comesOfStart_31 {l : Launch} {g : pj_G} (hg : pj_ph g = true) {r0 : Nat} {x1 : Int} {x2 : Int} {x3 : Int} {x4 : Int} {M : pj_M} {Q : Int → pj_M → Prop} {k9 : Int → Int → pj_M → Prop} {k18 : Int → Int → pj_M → Prop} (o0 : pj_ob r0 12) (hk9 : ∀ (x1 : Int) (x2 : Int) (M : pj_M), k9 x1 x2 M → pj_R l g mdX12_comesOfStart pj_T (pj_Zm g mdX12_comesOfStart (pj_qi Q)) pj_NK 0 0 9 [(0, .ref r0), (1, .int (pj_I x1)), (2, .int (pj_I x2))] [] M) (hk18 : ∀ (x1 : Int) (x3 : Int) (M : pj_M), k18 x1 x3 M → pj_R l g mdX12_comesOfStart pj_T (pj_Zm g mdX12_comesOfStart (pj_qi Q)) pj_NK 0 0 18 [(0, .ref r0), (1, .int (pj_I x1)), (2, .int (pj_I x2)), (3, .int (pj_I x3))] [] M) (h : w_X12_comesOfStart_31 r0 x2 x3 k9 k18 Q x1 x4 M) : pj_R l g mdX12_comesOfStart pj_T (pj_Zm g mdX12_comesOfStart (pj_qi Q)) pj_NK 0 0 31 [(0, .ref r0), (1, .int (pj_I x1)), (2, .int (pj_I x2)), (3, .int (pj_I x3)), (4, .int (pj_I x4))] [] M :=
  h (fun s => pj_R l g mdX12_comesOfStart pj_T (pj_Zm g mdX12_comesOfStart (pj_qi Q)) pj_NK 0 0 31 [(0, .ref r0), (1, .int (pj_I (s.1))), (2, .int (pj_I x2)), (3, .int (pj_I x3)), (4, .int (pj_I (s.2.1)))] [] s.2.2) (fun s hs => s_X12_comesOfStart_31b hg o0 hk9 hk18 (fun _ _ _ q => q) hs)
set_option maxRecDepth 20000 in
set_option maxHeartbeats 4000000 in
theorem s_X12_comesOfStart_18b {l : Launch} {g : pj_G} (hg : pj_ph g = true) {r0 : Nat} {x1 : Int} {x2 : Int} {x3 : Int} {M : pj_M} {Q : Int → pj_M → Prop} {k9 : Int → Int → pj_M → Prop} {k18 : Int → Int → pj_M → Prop} (o0 : pj_ob r0 12) (hk9 : ∀ (x1 : Int) (x2 : Int) (M : pj_M), k9 x1 x2 M → pj_R l g mdX12_comesOfStart pj_T (pj_Zm g mdX12_comesOfStart (pj_qi Q)) pj_NK 0 0 9 [(0, .ref r0), (1, .int (pj_I x1)), (2, .int (pj_I x2))] [] M) (hk18 : ∀ (x1 : Int) (x3 : Int) (M : pj_M), k18 x1 x3 M → pj_R l g mdX12_comesOfStart pj_T (pj_Zm g mdX12_comesOfStart (pj_qi Q)) pj_NK 0 0 18 [(0, .ref r0), (1, .int (pj_I x1)), (2, .int (pj_I x2)), (3, .int (pj_I x3))] [] M) (h : w_X12_comesOfStart_18b r0 x2 k9 Q k18 x1 x3 M) : pj_R l g mdX12_comesOfStart pj_T (pj_Zm g mdX12_comesOfStart (pj_qi Q)) pj_NK 0 0 18 [(0, .ref r0), (1, .int (pj_I x1)), (2, .int (pj_I x2)), (3, .int (pj_I x3))] [] M := by
  unfold w_X12_comesOfStart_18b at h
  refine pj_iload_n 19 3 rfl rfl rfl rfl ?_
  refine pj_aload_n 20 0 rfl rfl rfl rfl ?_
  refine pn_getr 23 12 0 hg o0 (pr_12_0 o0).2 rfl pfX12_9 rfl rfl ?_
  refine pj_iconst 24 rfl rfl ?_
  refine pn_iald 25 95 (pr_12_0 o0) (show 0 ≤ (0 : Int) ∧ (0 : Int) < ((95 : Nat) : Int) by decide) rfl rfl ?_
  obtain ⟨q6, h⟩ := h
  obtain ⟨q7, h⟩ := h
  refine pj_icmp_ge 96 28 rfl (by decide) rfl q6 q7 (fun hc => ?_) (fun hc => ?_)
  · replace h := h.1 hc
    refine pj_goto 9 rfl (by decide) ?_
    refine pn_sub [0, 1, 2] rfl ?_
    exact hk9 _ _ _ h
  · replace h := h.2 hc
    refine pj_iconst 29 rfl rfl ?_
    refine pj_istore 31 (ls' := [(0, .ref r0), (1, .int (pj_I x1)), (2, .int (pj_I x2)), (3, .int (pj_I x3)), (4, .int (pj_I 0))]) rfl (by decide) rfl rfl ?_
    refine pn_sub [0, 1, 2, 3, 4] rfl ?_
    exact s_X12_comesOfStart_31 hg o0  hk9 hk18 h
set_option maxRecDepth 20000 in
set_option maxHeartbeats 4000000 in
theorem s_X12_comesOfStart_18 {l : Launch} {g : pj_G} (hg : pj_ph g = true) {r0 : Nat} {x1 : Int} {x2 : Int} {x3 : Int} {M : pj_M} {Q : Int → pj_M → Prop} {k9 : Int → Int → pj_M → Prop} (o0 : pj_ob r0 12) (hk9 : ∀ (x1 : Int) (x2 : Int) (M : pj_M), k9 x1 x2 M → pj_R l g mdX12_comesOfStart pj_T (pj_Zm g mdX12_comesOfStart (pj_qi Q)) pj_NK 0 0 9 [(0, .ref r0), (1, .int (pj_I x1)), (2, .int (pj_I x2))] [] M) (h : w_X12_comesOfStart_18 r0 x2 k9 Q x1 x3 M) : pj_R l g mdX12_comesOfStart pj_T (pj_Zm g mdX12_comesOfStart (pj_qi Q)) pj_NK 0 0 18 [(0, .ref r0), (1, .int (pj_I x1)), (2, .int (pj_I x2)), (3, .int (pj_I x3))] [] M :=
  h (fun s => pj_R l g mdX12_comesOfStart pj_T (pj_Zm g mdX12_comesOfStart (pj_qi Q)) pj_NK 0 0 18 [(0, .ref r0), (1, .int (pj_I (s.1))), (2, .int (pj_I x2)), (3, .int (pj_I (s.2.1)))] [] s.2.2) (fun s hs => s_X12_comesOfStart_18b hg o0 hk9 (fun _ _ _ q => q) hs)
set_option maxRecDepth 20000 in
set_option maxHeartbeats 4000000 in
theorem s_X12_comesOfStart_9b {l : Launch} {g : pj_G} (hg : pj_ph g = true) {r0 : Nat} {x1 : Int} {x2 : Int} {M : pj_M} {Q : Int → pj_M → Prop}  {k9 : Int → Int → pj_M → Prop} (o0 : pj_ob r0 12)  (hk9 : ∀ (x1 : Int) (x2 : Int) (M : pj_M), k9 x1 x2 M → pj_R l g mdX12_comesOfStart pj_T (pj_Zm g mdX12_comesOfStart (pj_qi Q)) pj_NK 0 0 9 [(0, .ref r0), (1, .int (pj_I x1)), (2, .int (pj_I x2))] [] M) (h : w_X12_comesOfStart_9b r0  Q k9 x1 x2 M) : pj_R l g mdX12_comesOfStart pj_T (pj_Zm g mdX12_comesOfStart (pj_qi Q)) pj_NK 0 0 9 [(0, .ref r0), (1, .int (pj_I x1)), (2, .int (pj_I x2))] [] M := by
  unfold w_X12_comesOfStart_9b at h
  refine pj_iload_n 10 2 rfl rfl rfl rfl ?_
  refine pj_iload_n 11 1 rfl rfl rfl rfl ?_
  obtain ⟨q4, h⟩ := h
  obtain ⟨q5, h⟩ := h
  refine pj_icmp_eq 99 14 rfl (by decide) rfl q4 q5 (fun hc => ?_) (fun hc => ?_)
  · replace h := h.1 hc
    refine pj_iload_n 100 1 rfl rfl rfl rfl ?_
    exact pn_iret h rfl rfl
  · replace h := h.2 hc
    refine pj_iload_n 15 1 rfl rfl rfl rfl ?_
    refine pj_istore_n 16 (ls' := [(0, .ref r0), (1, .int (pj_I x1)), (2, .int (pj_I x1))]) rfl rfl (by decide) rfl rfl ?_
    refine pj_iconst 17 rfl rfl ?_
    refine pj_istore_n 18 (ls' := [(0, .ref r0), (1, .int (pj_I x1)), (2, .int (pj_I x1)), (3, .int (pj_I 0))]) rfl rfl (by decide) rfl rfl ?_
    refine pn_sub [0, 1, 2, 3] rfl ?_
    exact s_X12_comesOfStart_18 hg o0  hk9 h
set_option maxRecDepth 20000 in
set_option maxHeartbeats 4000000 in
theorem s_X12_comesOfStart_9 {l : Launch} {g : pj_G} (hg : pj_ph g = true) {r0 : Nat} {x1 : Int} {x2 : Int} {M : pj_M} {Q : Int → pj_M → Prop}  (o0 : pj_ob r0 12)  (h : w_X12_comesOfStart_9 r0  Q x1 x2 M) : pj_R l g mdX12_comesOfStart pj_T (pj_Zm g mdX12_comesOfStart (pj_qi Q)) pj_NK 0 0 9 [(0, .ref r0), (1, .int (pj_I x1)), (2, .int (pj_I x2))] [] M :=
  h (fun s => pj_R l g mdX12_comesOfStart pj_T (pj_Zm g mdX12_comesOfStart (pj_qi Q)) pj_NK 0 0 9 [(0, .ref r0), (1, .int (pj_I (s.1))), (2, .int (pj_I (s.2.1)))] [] s.2.2) (fun s hs => s_X12_comesOfStart_9b hg o0  (fun _ _ _ q => q) hs)
set_option maxRecDepth 20000 in
set_option maxHeartbeats 4000000 in
theorem s_X12_comesOfStart {l : Launch} {g : pj_G} (hg : pj_ph g = true) {r0 : Nat} {M : pj_M} {Q : Int → pj_M → Prop} (o0 : pj_ob r0 12) (h : w_X12_comesOfStart r0 M Q) : pj_S l g mdX12_comesOfStart [.ref r0] pj_NK M (pj_qi Q) := by
  refine pj_ofR (ls := [(0, .ref r0)]) gcX12_comesOfStart (by decide) rfl (Nat.le_of_ble_eq_true rfl) rfl ?_
  unfold w_X12_comesOfStart at h
  refine pj_iconst 1 rfl rfl ?_
  refine pj_aload_n 2 0 rfl rfl rfl rfl ?_
  refine pn_callVi 5 12 [] [.int (pj_I 1)] o0 (s_X12_start hg o0 h) plX12_240 rfl rfl rfl rfl (Nat.le_of_ble_eq_true rfl) (by decide) (fun t2 M1 h => ?_)
  refine pj_ishl 6 rfl rfl ?_
  refine pn_nm (fun z3 hz3 => ?_)
  replace h := h z3 hz3
  refine pj_istore_n 7 (ls' := [(0, .ref r0), (1, .int (pj_I z3))]) rfl rfl (by decide) rfl rfl ?_
  refine pj_iconst 8 rfl rfl ?_
  refine pj_istore_n 9 (ls' := [(0, .ref r0), (1, .int (pj_I z3)), (2, .int (pj_I (-1)))]) rfl rfl (by decide) rfl rfl ?_
  refine pn_sub [0, 1, 2] rfl ?_
  exact s_X12_comesOfStart_9 hg o0   h
def w_X12_edgesOf_67 (r0 : Nat) (x1 : Int) (x2 : Int) (x4 : Int) (y0 : Int) (y1 : Int) (k5 : Int → Int → pj_M → Prop) (Q : Int → pj_M → Prop) (M : pj_M) : Prop :=
  ∀ z11 : Int, z11 = (pj_or y0 y1) → k5 z11 (x4 + 1) M
def w_X12_edgesOf_44 (r0 : Nat) (x1 : Int) (x2 : Int) (x3 : Int) (x4 : Int) (u0 : Nat) (k5 : Int → Int → pj_M → Prop) (Q : Int → pj_M → Prop) (M : pj_M) : Prop :=
  w_X12_cell x1 0 1 M (fun (t8 : Int) (M7 : pj_M) => ((0 : Int) ≤ t8 ∧ t8 < 1536) ∧ (pj_in (M7 u0 t8)) ∧ (((M7 u0 t8) = 0 → w_X12_edgesOf_67 r0 x1 x2 x4 x3 0 k5 Q M7) ∧ (¬ (M7 u0 t8) = 0 → w_X12_edgesOf_67 r0 x1 x2 x4 x3 (pj_shl 1 x4) k5 Q M7)))
def w_X12_edgesOf_5b (r0 : Nat) (x1 : Int) (x2 : Int)  (Q : Int → pj_M → Prop) (k5 : Int → Int → pj_M → Prop) (x3 : Int) (x4 : Int) (M : pj_M) : Prop :=
  (pj_in x4) ∧ ((8 ≤ x4 → Q x3 M) ∧ (¬ 8 ≤ x4 → ∀ M2 : pj_M, M2 = pj_up M r0 14 1 → ∀ M3 : pj_M, M3 = pj_up M2 (pj_rf r0 13) 0 x4 → w_X12_layTables r0 M3 (fun (M4 : pj_M) => (pj_in x2) ∧ ((¬ x2 = 0 → w_X12_edgesOf_44 r0 x1 x2 x3 x4 (pj_rf r0 17) k5 Q M4) ∧ (x2 = 0 → w_X12_edgesOf_44 r0 x1 x2 x3 x4 (pj_rf r0 16) k5 Q M4)))))
def w_X12_edgesOf_5 (r0 : Nat) (x1 : Int) (x2 : Int)  (Q : Int → pj_M → Prop) (x3 : Int) (x4 : Int) (M : pj_M) : Prop := pj_lp (fun (k : Int × Int × pj_M → Prop) (s : Int × Int × pj_M) => w_X12_edgesOf_5b r0 x1 x2  Q (fun (x3 : Int) (x4 : Int) (M : pj_M) => k (x3, x4, M)) s.1 s.2.1 s.2.2) (x3, x4, M)
def w_X12_edgesOf (r0 : Nat) (x1 : Int) (x2 : Int) (M : pj_M) (Q : Int → pj_M → Prop) : Prop :=
  w_X12_edgesOf_5 r0 x1 x2  Q 0 0 M
set_option maxRecDepth 20000 in
set_option maxHeartbeats 4000000 in
theorem s_X12_edgesOf_67 {l : Launch} {g : pj_G} (hg : pj_ph g = true) {r0 : Nat} {x1 : Int} {x2 : Int} {x4 : Int} {y0 : Int} {y1 : Int} {M : pj_M} {Q : Int → pj_M → Prop} {k5 : Int → Int → pj_M → Prop} (o0 : pj_ob r0 12) (hk5 : ∀ (x3 : Int) (x4 : Int) (M : pj_M), k5 x3 x4 M → pj_R l g mdX12_edgesOf pj_T (pj_Zm g mdX12_edgesOf (pj_qi Q)) pj_NK 0 0 5 [(0, .ref r0), (1, .int (pj_I x1)), (2, .int (pj_I x2)), (3, .int (pj_I x3)), (4, .int (pj_I x4))] [] M) (h : w_X12_edgesOf_67 r0 x1 x2 x4 y0 y1 k5 Q M) : pj_R l g mdX12_edgesOf pj_T (pj_Zm g mdX12_edgesOf (pj_qi Q)) pj_NK 0 0 67 [(0, .ref r0), (1, .int (pj_I x1)), (2, .int (pj_I x2)), (4, .int (pj_I x4))] [.int (pj_I y1), .int (pj_I y0)] M := by
  unfold w_X12_edgesOf_67 at h
  refine pj_ior 68 rfl rfl ?_
  refine pn_nm (fun z11 hz11 => ?_)
  replace h := h z11 hz11
  refine pj_istore_n 69 (ls' := [(0, .ref r0), (1, .int (pj_I x1)), (2, .int (pj_I x2)), (3, .int (pj_I z11)), (4, .int (pj_I x4))]) rfl rfl (by decide) rfl rfl ?_
  refine pj_iinc 72 4 (ls' := [(0, .ref r0), (1, .int (pj_I x1)), (2, .int (pj_I x2)), (3, .int (pj_I z11)), (4, .int (pj_I (x4 + 1)))]) rfl rfl (by decide) rfl rfl ?_
  refine pj_goto 5 rfl (by decide) ?_
  refine pn_sub [0, 1, 2, 3, 4] rfl ?_
  exact hk5 _ _ _ h
set_option maxRecDepth 20000 in
set_option maxHeartbeats 4000000 in
theorem s_X12_edgesOf_44 {l : Launch} {g : pj_G} (hg : pj_ph g = true) {r0 : Nat} {x1 : Int} {x2 : Int} {x3 : Int} {x4 : Int} {u0 : Nat} {M : pj_M} {Q : Int → pj_M → Prop} {k5 : Int → Int → pj_M → Prop} (o0 : pj_ob r0 12) (ou0 : pj_ol u0 2 1536) (hk5 : ∀ (x3 : Int) (x4 : Int) (M : pj_M), k5 x3 x4 M → pj_R l g mdX12_edgesOf pj_T (pj_Zm g mdX12_edgesOf (pj_qi Q)) pj_NK 0 0 5 [(0, .ref r0), (1, .int (pj_I x1)), (2, .int (pj_I x2)), (3, .int (pj_I x3)), (4, .int (pj_I x4))] [] M) (h : w_X12_edgesOf_44 r0 x1 x2 x3 x4 u0 k5 Q M) : pj_R l g mdX12_edgesOf pj_T (pj_Zm g mdX12_edgesOf (pj_qi Q)) pj_NK 0 0 44 [(0, .ref r0), (1, .int (pj_I x1)), (2, .int (pj_I x2)), (3, .int (pj_I x3)), (4, .int (pj_I x4))] [.ref u0] M := by
  unfold w_X12_edgesOf_44 at h
  refine pj_astore 46 (ls' := [(0, .ref r0), (1, .int (pj_I x1)), (2, .int (pj_I x2)), (3, .int (pj_I x3)), (4, .int (pj_I x4)), (5, .ref u0)]) rfl (by decide) rfl rfl ?_
  refine pj_iload_n 47 3 rfl rfl rfl rfl ?_
  refine pj_aload 49 5 rfl rfl rfl ?_
  refine pj_iload_n 50 1 rfl rfl rfl rfl ?_
  refine pj_iconst 51 rfl rfl ?_
  refine pj_iconst 52 rfl rfl ?_
  refine pn_callSi 55 [.int (pj_I x1), .int (pj_I 0), .int (pj_I 1)] [.ref u0, .int (pj_I x3)] (s_X12_cell hg  h) plX12_183 rfl rfl rfl rfl (Nat.le_of_ble_eq_true rfl) (by decide) (fun t8 M7 h => ?_)
  obtain ⟨q9, h⟩ := h
  refine pn_bald 56 2 1536 ou0 (by decide) q9 rfl rfl ?_
  obtain ⟨q10, h⟩ := h
  refine pj_if_eq 66 59 rfl (by decide) rfl q10  (fun hc => ?_) (fun hc => ?_)
  · replace h := h.1 hc
    refine pj_iconst 67 rfl rfl ?_
    refine pn_sub [0, 1, 2, 4] rfl ?_
    exact s_X12_edgesOf_67 hg o0  hk5 h
  · replace h := h.2 hc
    refine pj_iconst 60 rfl rfl ?_
    refine pj_iload 62 4 rfl rfl rfl ?_
    refine pj_ishl 63 rfl rfl ?_
    refine pj_goto 67 rfl (by decide) ?_
    refine pn_sub [0, 1, 2, 4] rfl ?_
    exact s_X12_edgesOf_67 hg o0  hk5 h
set_option maxRecDepth 20000 in
set_option maxHeartbeats 4000000 in
theorem s_X12_edgesOf_5b {l : Launch} {g : pj_G} (hg : pj_ph g = true) {r0 : Nat} {x1 : Int} {x2 : Int} {x3 : Int} {x4 : Int} {M : pj_M} {Q : Int → pj_M → Prop}  {k5 : Int → Int → pj_M → Prop} (o0 : pj_ob r0 12)  (hk5 : ∀ (x3 : Int) (x4 : Int) (M : pj_M), k5 x3 x4 M → pj_R l g mdX12_edgesOf pj_T (pj_Zm g mdX12_edgesOf (pj_qi Q)) pj_NK 0 0 5 [(0, .ref r0), (1, .int (pj_I x1)), (2, .int (pj_I x2)), (3, .int (pj_I x3)), (4, .int (pj_I x4))] [] M) (h : w_X12_edgesOf_5b r0 x1 x2  Q k5 x3 x4 M) : pj_R l g mdX12_edgesOf pj_T (pj_Zm g mdX12_edgesOf (pj_qi Q)) pj_NK 0 0 5 [(0, .ref r0), (1, .int (pj_I x1)), (2, .int (pj_I x2)), (3, .int (pj_I x3)), (4, .int (pj_I x4))] [] M := by
  unfold w_X12_edgesOf_5b at h
  refine pj_iload 7 4 rfl rfl rfl ?_
  refine pj_bipush 9 rfl (by decide) rfl ?_
  obtain ⟨q1, h⟩ := h
  refine pj_icmp_ge 75 12 rfl (by decide) rfl q1 (show pj_in 8 by decide) (fun hc => ?_) (fun hc => ?_)
  · replace h := h.1 hc
    refine pj_iload_n 76 3 rfl rfl rfl rfl ?_
    exact pn_iret h rfl rfl
  · replace h := h.2 hc
    refine pj_aload_n 13 0 rfl rfl rfl rfl ?_
    refine pj_iconst 14 rfl rfl ?_
    refine pn_puti 17 12 14 14 o0  rfl pfX12_214 rfl rfl rfl (fun M2 hM2 => ?_)
    replace h := h M2 hM2
    refine pj_aload_n 18 0 rfl rfl rfl rfl ?_
    refine pn_getr 21 12 13 hg o0 (pr_12_13 o0).2 rfl pfX12_30 rfl rfl ?_
    refine pj_iconst 22 rfl rfl ?_
    refine pj_iload 24 4 rfl rfl rfl ?_
    refine pn_iast 25 16 (pr_12_13 o0)  (show 0 ≤ (0 : Int) ∧ (0 : Int) < ((16 : Nat) : Int) by decide) rfl rfl (fun M3 hM3 => ?_)
    replace h := h M3 hM3
    refine pj_aload_n 26 0 rfl rfl rfl rfl ?_
    refine pn_callVv 29 12 [] [] o0 (s_X12_layTables hg o0 h) plX12_225 rfl rfl rfl rfl (Nat.le_of_ble_eq_true rfl) (by decide) (fun M4 h => ?_)
    refine pj_iload_n 30 2 rfl rfl rfl rfl ?_
    obtain ⟨q6, h⟩ := h
    refine pj_if_ne 40 33 rfl (by decide) rfl q6  (fun hc => ?_) (fun hc => ?_)
    · replace h := h.1 hc
      refine pj_aload_n 41 0 rfl rfl rfl rfl ?_
      refine pn_getr 44 12 17 hg o0 (pr_12_17 o0).2 rfl pfX12_40 rfl rfl ?_
      refine pn_sub [0, 1, 2, 3, 4] rfl ?_
      exact s_X12_edgesOf_44 hg o0 (pr_12_17 o0) hk5 h
    · replace h := h.2 (Classical.not_not.mp hc)
      refine pj_aload_n 34 0 rfl rfl rfl rfl ?_
      refine pn_getr 37 12 16 hg o0 (pr_12_16 o0).2 rfl pfX12_37 rfl rfl ?_
      refine pj_goto 44 rfl (by decide) ?_
      refine pn_sub [0, 1, 2, 3, 4] rfl ?_
      exact s_X12_edgesOf_44 hg o0 (pr_12_16 o0) hk5 h
set_option maxRecDepth 20000 in
set_option maxHeartbeats 4000000 in
theorem s_X12_edgesOf_5 {l : Launch} {g : pj_G} (hg : pj_ph g = true) {r0 : Nat} {x1 : Int} {x2 : Int} {x3 : Int} {x4 : Int} {M : pj_M} {Q : Int → pj_M → Prop}  (o0 : pj_ob r0 12)  (h : w_X12_edgesOf_5 r0 x1 x2  Q x3 x4 M) : pj_R l g mdX12_edgesOf pj_T (pj_Zm g mdX12_edgesOf (pj_qi Q)) pj_NK 0 0 5 [(0, .ref r0), (1, .int (pj_I x1)), (2, .int (pj_I x2)), (3, .int (pj_I x3)), (4, .int (pj_I x4))] [] M :=
  h (fun s => pj_R l g mdX12_edgesOf pj_T (pj_Zm g mdX12_edgesOf (pj_qi Q)) pj_NK 0 0 5 [(0, .ref r0), (1, .int (pj_I x1)), (2, .int (pj_I x2)), (3, .int (pj_I (s.1))), (4, .int (pj_I (s.2.1)))] [] s.2.2) (fun s hs => s_X12_edgesOf_5b hg o0  (fun _ _ _ q => q) hs)
set_option maxRecDepth 20000 in
set_option maxHeartbeats 4000000 in
theorem s_X12_edgesOf {l : Launch} {g : pj_G} (hg : pj_ph g = true) {r0 : Nat} {x1 : Int} {x2 : Int} {M : pj_M} {Q : Int → pj_M → Prop} (o0 : pj_ob r0 12) (h : w_X12_edgesOf r0 x1 x2 M Q) : pj_S l g mdX12_edgesOf [.ref r0, .int (pj_I x1), .int (pj_I x2)] pj_NK M (pj_qi Q) := by
  refine pj_ofR (ls := [(0, .ref r0), (1, .int (pj_I x1)), (2, .int (pj_I x2))]) gcX12_edgesOf (by decide) rfl (Nat.le_of_ble_eq_true rfl) rfl ?_
  unfold w_X12_edgesOf at h
  refine pj_iconst 1 rfl rfl ?_
  refine pj_istore_n 2 (ls' := [(0, .ref r0), (1, .int (pj_I x1)), (2, .int (pj_I x2)), (3, .int (pj_I 0))]) rfl rfl (by decide) rfl rfl ?_
  refine pj_iconst 3 rfl rfl ?_
  refine pj_istore 5 (ls' := [(0, .ref r0), (1, .int (pj_I x1)), (2, .int (pj_I x2)), (3, .int (pj_I 0)), (4, .int (pj_I 0))]) rfl (by decide) rfl rfl ?_
  refine pn_sub [0, 1, 2, 3, 4] rfl ?_
  exact s_X12_edgesOf_5 hg o0   h
def w_X12_shortest (r0 : Nat) (x1 : Int) (M : pj_M) (Q : Int → pj_M → Prop) : Prop :=
  ∀ M1 : pj_M, M1 = pj_up M r0 14 0 → w_X12_neededOf r0 M1 (fun (t3 : Int) (M2 : pj_M) => w_X12_cell x1 0 0 M2 (fun (t5 : Int) (M4 : pj_M) => ((0 : Int) ≤ t5 ∧ t5 < 1536) ∧ Q (M4 (pj_rf r0 25) t5) M4))
set_option maxRecDepth 20000 in
set_option maxHeartbeats 4000000 in
theorem s_X12_shortest {l : Launch} {g : pj_G} (hg : pj_ph g = true) {r0 : Nat} {x1 : Int} {M : pj_M} {Q : Int → pj_M → Prop} (o0 : pj_ob r0 12) (h : w_X12_shortest r0 x1 M Q) : pj_S l g mdX12_shortest [.ref r0, .int (pj_I x1)] pj_NK M (pj_qi Q) := by
  refine pj_ofR (ls := [(0, .ref r0), (1, .int (pj_I x1))]) gcX12_shortest (by decide) rfl (Nat.le_of_ble_eq_true rfl) rfl ?_
  unfold w_X12_shortest at h
  refine pj_aload_n 1 0 rfl rfl rfl rfl ?_
  refine pj_iconst 2 rfl rfl ?_
  refine pn_puti 5 12 14 14 o0  rfl pfX12_214 rfl rfl rfl (fun M1 hM1 => ?_)
  replace h := h M1 hM1
  refine pj_aload_n 6 0 rfl rfl rfl rfl ?_
  refine pn_callVi 9 12 [] [] o0 (s_X12_neededOf hg o0 h) plX12_297 rfl rfl rfl rfl (Nat.le_of_ble_eq_true rfl) (by decide) (fun t3 M2 h => ?_)
  refine pj_pop 10 rfl rfl rfl ?_
  refine pj_aload_n 11 0 rfl rfl rfl rfl ?_
  refine pn_getr 14 12 25 hg o0 (pr_12_25 o0).2 rfl pfX12_61 rfl rfl ?_
  refine pj_iload_n 15 1 rfl rfl rfl rfl ?_
  refine pj_iconst 16 rfl rfl ?_
  refine pj_iconst 17 rfl rfl ?_
  refine pn_callSi 20 [.int (pj_I x1), .int (pj_I 0), .int (pj_I 0)] [.ref (pj_rf r0 25)] (s_X12_cell hg  h) plX12_183 rfl rfl rfl rfl (Nat.le_of_ble_eq_true rfl) (by decide) (fun t5 M4 h => ?_)
  obtain ⟨q6, h⟩ := h
  refine pn_iald 21 1536 (pr_12_25 o0) q6 rfl rfl ?_
  exact pn_iret h rfl rfl
def w_X12_capital (r0 : Nat) (x1 : Int) (x2 : Int) (M : pj_M) (Q : Int → pj_M → Prop) : Prop :=
  ∀ M1 : pj_M, M1 = pj_up M r0 5 0 → w_X12_in x2 0 7 M1 (fun (t3 : Int) (M2 : pj_M) => (pj_in t3) ∧ ((t3 = 0 → Q (-1) M2) ∧ (¬ t3 = 0 → w_X12_isCapital r0 x1 M2 (fun (t6 : Int) (M5 : pj_M) => (pj_in t6) ∧ ((¬ t6 = 0 → ∀ M8 : pj_M, M8 = pj_up M5 r0 11 ((pj_rf r0 0) : Int) → ∃ b9 : Nat, (M8 r0 11 = (b9 : Int) ∧ pj_ol b9 1 95) ∧ w_X12_layGood r0 b9 M8 (fun (M10 : pj_M) => w_X12_has (M10 r0 12) x1 M10 (fun (t13 : Int) (M12 : pj_M) => (pj_in x2) ∧ ((¬ x2 = 0 → (pj_in x2) ∧ ((¬ x2 = 1 → (pj_in x2) ∧ ((¬ x2 = 2 → (pj_in x2) ∧ ((¬ x2 = 3 → (pj_in t13) ∧ ((¬ t13 = 0 → (pj_in x2) ∧ ((¬ x2 = 4 → (pj_in x2) ∧ ((¬ x2 = 7 → w_X12_edgesOf r0 x1 (x2 - 5) M12 (fun (t22 : Int) (M21 : pj_M) => Q t22 M21)) ∧ (x2 = 7 → w_X12_signsOf r0 x1 M12 (fun (t24 : Int) (M23 : pj_M) => Q t24 M23)))) ∧ (x2 = 4 → w_X12_shortest r0 x1 M12 (fun (t26 : Int) (M25 : pj_M) => Q t26 M25)))) ∧ (t13 = 0 → Q (-2) M12))) ∧ (x2 = 3 → (pj_in t13) ∧ ((t13 = 0 → Q 0 M12) ∧ (¬ t13 = 0 → w_X12_shortest r0 x1 M12 (fun (t29 : Int) (M28 : pj_M) => (pj_in t29) ∧ ((¬ t29 = 0 → Q 0 M28) ∧ (t29 = 0 → Q 1 M28)))))))) ∧ (x2 = 2 → w_X12_comesOfStart r0 M12 (fun (t32 : Int) (M31 : pj_M) => w_X12_has t32 x1 M31 (fun (t34 : Int) (M33 : pj_M) => (pj_in t34) ∧ ((t34 = 0 → Q 0 M33) ∧ (¬ t34 = 0 → Q 1 M33))))))) ∧ (x2 = 1 → (pj_in t13) ∧ ((t13 = 0 → Q 0 M12) ∧ (¬ t13 = 0 → Q 1 M12))))) ∧ (x2 = 0 → w_X12_manyOf r0 x1 M12 (fun (t38 : Int) (M37 : pj_M) => Q t38 M37)))))) ∧ (t6 = 0 → Q (-1) M5))))))
set_option maxRecDepth 20000 in
set_option maxHeartbeats 4000000 in
theorem s_X12_capital {l : Launch} {g : pj_G} (hg : pj_ph g = true) {r0 : Nat} {x1 : Int} {x2 : Int} {M : pj_M} {Q : Int → pj_M → Prop} (o0 : pj_ob r0 12) (h : w_X12_capital r0 x1 x2 M Q) : pj_S l g mdX12_capital [.ref r0, .int (pj_I x1), .int (pj_I x2)] pj_NK M (pj_qi Q) := by
  refine pj_ofR (ls := [(0, .ref r0), (1, .int (pj_I x1)), (2, .int (pj_I x2))]) gcX12_capital (by decide) rfl (Nat.le_of_ble_eq_true rfl) rfl ?_
  unfold w_X12_capital at h
  refine pj_aload_n 1 0 rfl rfl rfl rfl ?_
  refine pj_iconst 2 rfl rfl ?_
  refine pn_puti 5 12 5 5 o0  rfl pfX12_88 rfl rfl rfl (fun M1 hM1 => ?_)
  replace h := h M1 hM1
  refine pj_iload_n 6 2 rfl rfl rfl rfl ?_
  refine pj_iconst 7 rfl rfl ?_
  refine pj_bipush 9 rfl (by decide) rfl ?_
  refine pn_callSi 12 [.int (pj_I x2), .int (pj_I 0), .int (pj_I 7)] [] (s_X12_in hg  h) plX12_98 rfl rfl rfl rfl (Nat.le_of_ble_eq_true rfl) (by decide) (fun t3 M2 h => ?_)
  obtain ⟨q4, h⟩ := h
  refine pj_if_eq 23 15 rfl (by decide) rfl q4  (fun hc => ?_) (fun hc => ?_)
  · replace h := h.1 hc
    refine pj_iconst 24 rfl rfl ?_
    exact pn_iret h rfl rfl
  · replace h := h.2 hc
    refine pj_aload_n 16 0 rfl rfl rfl rfl ?_
    refine pj_iload_n 17 1 rfl rfl rfl rfl ?_
    refine pn_callVi 20 12 [.int (pj_I x1)] [] o0 (s_X12_isCapital hg o0 h) plX12_264 rfl rfl rfl rfl (Nat.le_of_ble_eq_true rfl) (by decide) (fun t6 M5 h => ?_)
    obtain ⟨q7, h⟩ := h
    refine pj_if_ne 25 23 rfl (by decide) rfl q7  (fun hc => ?_) (fun hc => ?_)
    · replace h := h.1 hc
      refine pj_aload_n 26 0 rfl rfl rfl rfl ?_
      refine pj_aload_n 27 0 rfl rfl rfl rfl ?_
      refine pn_getr 30 12 0 hg o0 (pr_12_0 o0).2 rfl pfX12_9 rfl rfl ?_
      refine pn_putr 33 12 11 11 o0 (pr_12_0 o0).2 rfl pfX12_27 rfl rfl rfl (fun M8 hM8 => ?_)
      replace h := h M8 hM8
      refine pj_aload_n 34 0 rfl rfl rfl rfl ?_
      refine pj_aload_n 35 0 rfl rfl rfl rfl ?_
      obtain ⟨b9, ⟨hb9, ob9⟩, h⟩ := h
      refine pn_getd 38 12 11 11 o0 hb9 ob9.2 rfl pfX12_27 rfl rfl rfl ?_
      refine pn_callVv 41 12 [.ref b9] [] o0 (s_X12_layGood hg o0 (pj_oa_of ob9) h) plX12_156 rfl rfl rfl rfl (Nat.le_of_ble_eq_true rfl) (by decide) (fun M10 h => ?_)
      refine pj_aload_n 42 0 rfl rfl rfl rfl ?_
      refine pn_geti 45 12 12 12 o0 rfl pfX12_160 (Or.inl rfl) rfl rfl ?_
      refine pj_iload_n 46 1 rfl rfl rfl rfl ?_
      refine pn_callSi 49 [.int (pj_I (M10 r0 12)), .int (pj_I x1)] [] (s_X12_has hg  h) plX12_135 rfl rfl rfl rfl (Nat.le_of_ble_eq_true rfl) (by decide) (fun t13 M12 h => ?_)
      refine pj_istore_n 50 (ls' := [(0, .ref r0), (1, .int (pj_I x1)), (2, .int (pj_I x2)), (3, .int (pj_I t13))]) rfl rfl (by decide) rfl rfl ?_
      refine pj_iload_n 51 2 rfl rfl rfl rfl ?_
      obtain ⟨q14, h⟩ := h
      refine pj_if_ne 60 54 rfl (by decide) rfl q14  (fun hc => ?_) (fun hc => ?_)
      · replace h := h.1 hc
        refine pj_iload_n 61 2 rfl rfl rfl rfl ?_
        refine pj_iconst 62 rfl rfl ?_
        obtain ⟨q15, h⟩ := h
        refine pj_icmp_ne 75 65 rfl (by decide) rfl q15 (show pj_in 1 by decide) (fun hc => ?_) (fun hc => ?_)
        · replace h := h.1 hc
          refine pj_iload_n 76 2 rfl rfl rfl rfl ?_
          refine pj_iconst 77 rfl rfl ?_
          obtain ⟨q16, h⟩ := h
          refine pj_icmp_ne 97 80 rfl (by decide) rfl q16 (show pj_in 2 by decide) (fun hc => ?_) (fun hc => ?_)
          · replace h := h.1 hc
            refine pj_iload_n 98 2 rfl rfl rfl rfl ?_
            refine pj_iconst 99 rfl rfl ?_
            obtain ⟨q17, h⟩ := h
            refine pj_icmp_ne 120 102 rfl (by decide) rfl q17 (show pj_in 3 by decide) (fun hc => ?_) (fun hc => ?_)
            · replace h := h.1 hc
              refine pj_iload_n 121 3 rfl rfl rfl rfl ?_
              obtain ⟨q18, h⟩ := h
              refine pj_if_ne 127 124 rfl (by decide) rfl q18  (fun hc => ?_) (fun hc => ?_)
              · replace h := h.1 hc
                refine pj_iload_n 128 2 rfl rfl rfl rfl ?_
                refine pj_iconst 129 rfl rfl ?_
                obtain ⟨q19, h⟩ := h
                refine pj_icmp_ne 140 132 rfl (by decide) rfl q19 (show pj_in 4 by decide) (fun hc => ?_) (fun hc => ?_)
                · replace h := h.1 hc
                  refine pj_iload_n 141 2 rfl rfl rfl rfl ?_
                  refine pj_bipush 143 rfl (by decide) rfl ?_
                  obtain ⟨q20, h⟩ := h
                  refine pj_icmp_ne 154 146 rfl (by decide) rfl q20 (show pj_in 7 by decide) (fun hc => ?_) (fun hc => ?_)
                  · replace h := h.1 hc
                    refine pj_aload_n 155 0 rfl rfl rfl rfl ?_
                    refine pj_iload_n 156 1 rfl rfl rfl rfl ?_
                    refine pj_iload_n 157 2 rfl rfl rfl rfl ?_
                    refine pj_iconst 158 rfl rfl ?_
                    refine pj_isub 159 rfl rfl ?_
                    refine pn_callVi 162 12 [.int (pj_I x1), .int (pj_I (x2 - 5))] [] o0 (s_X12_edgesOf hg o0 h) plX12_324 rfl rfl rfl rfl (Nat.le_of_ble_eq_true rfl) (by decide) (fun t22 M21 h => ?_)
                    exact pn_iret h rfl rfl
                  · replace h := h.2 (Classical.not_not.mp hc)
                    refine pj_aload_n 147 0 rfl rfl rfl rfl ?_
                    refine pj_iload_n 148 1 rfl rfl rfl rfl ?_
                    refine pn_callVi 151 12 [.int (pj_I x1)] [] o0 (s_X12_signsOf hg o0 h) plX12_321 rfl rfl rfl rfl (Nat.le_of_ble_eq_true rfl) (by decide) (fun t24 M23 h => ?_)
                    refine pj_goto 162 rfl (by decide) ?_
                    exact pn_iret h rfl rfl
                · replace h := h.2 (Classical.not_not.mp hc)
                  refine pj_aload_n 133 0 rfl rfl rfl rfl ?_
                  refine pj_iload_n 134 1 rfl rfl rfl rfl ?_
                  refine pn_callVi 137 12 [.int (pj_I x1)] [] o0 (s_X12_shortest hg o0 h) plX12_318 rfl rfl rfl rfl (Nat.le_of_ble_eq_true rfl) (by decide) (fun t26 M25 h => ?_)
                  refine pj_goto 162 rfl (by decide) ?_
                  exact pn_iret h rfl rfl
              · replace h := h.2 (Classical.not_not.mp hc)
                refine pj_bipush 126 rfl (by decide) rfl ?_
                exact pn_iret h rfl rfl
            · replace h := h.2 (Classical.not_not.mp hc)
              refine pj_iload_n 103 3 rfl rfl rfl rfl ?_
              obtain ⟨q27, h⟩ := h
              refine pj_if_eq 118 106 rfl (by decide) rfl q27  (fun hc => ?_) (fun hc => ?_)
              · replace h := h.1 hc
                refine pj_iconst 119 rfl rfl ?_
                exact pn_iret h rfl rfl
              · replace h := h.2 hc
                refine pj_aload_n 107 0 rfl rfl rfl rfl ?_
                refine pj_iload_n 108 1 rfl rfl rfl rfl ?_
                refine pn_callVi 111 12 [.int (pj_I x1)] [] o0 (s_X12_shortest hg o0 h) plX12_318 rfl rfl rfl rfl (Nat.le_of_ble_eq_true rfl) (by decide) (fun t29 M28 h => ?_)
                obtain ⟨q30, h⟩ := h
                refine pj_if_ne 118 114 rfl (by decide) rfl q30  (fun hc => ?_) (fun hc => ?_)
                · replace h := h.1 hc
                  refine pj_iconst 119 rfl rfl ?_
                  exact pn_iret h rfl rfl
                · replace h := h.2 (Classical.not_not.mp hc)
                  refine pj_iconst 115 rfl rfl ?_
                  refine pj_goto 119 rfl (by decide) ?_
                  exact pn_iret h rfl rfl
          · replace h := h.2 (Classical.not_not.mp hc)
            refine pj_aload_n 81 0 rfl rfl rfl rfl ?_
            refine pn_callVi 84 12 [] [] o0 (s_X12_comesOfStart hg o0 h) plX12_315 rfl rfl rfl rfl (Nat.le_of_ble_eq_true rfl) (by decide) (fun t32 M31 h => ?_)
            refine pj_iload_n 85 1 rfl rfl rfl rfl ?_
            refine pn_callSi 88 [.int (pj_I t32), .int (pj_I x1)] [] (s_X12_has hg  h) plX12_135 rfl rfl rfl rfl (Nat.le_of_ble_eq_true rfl) (by decide) (fun t34 M33 h => ?_)
            obtain ⟨q35, h⟩ := h
            refine pj_if_eq 95 91 rfl (by decide) rfl q35  (fun hc => ?_) (fun hc => ?_)
            · replace h := h.1 hc
              refine pj_iconst 96 rfl rfl ?_
              exact pn_iret h rfl rfl
            · replace h := h.2 hc
              refine pj_iconst 92 rfl rfl ?_
              refine pj_goto 96 rfl (by decide) ?_
              exact pn_iret h rfl rfl
        · replace h := h.2 (Classical.not_not.mp hc)
          refine pj_iload_n 66 3 rfl rfl rfl rfl ?_
          obtain ⟨q36, h⟩ := h
          refine pj_if_eq 73 69 rfl (by decide) rfl q36  (fun hc => ?_) (fun hc => ?_)
          · replace h := h.1 hc
            refine pj_iconst 74 rfl rfl ?_
            exact pn_iret h rfl rfl
          · replace h := h.2 hc
            refine pj_iconst 70 rfl rfl ?_
            refine pj_goto 74 rfl (by decide) ?_
            exact pn_iret h rfl rfl
      · replace h := h.2 (Classical.not_not.mp hc)
        refine pj_aload_n 55 0 rfl rfl rfl rfl ?_
        refine pj_iload_n 56 1 rfl rfl rfl rfl ?_
        refine pn_callVi 59 12 [.int (pj_I x1)] [] o0 (s_X12_manyOf hg o0 h) plX12_312 rfl rfl rfl rfl (Nat.le_of_ble_eq_true rfl) (by decide) (fun t38 M37 h => ?_)
        exact pn_iret h rfl rfl
    · replace h := h.2 (Classical.not_not.mp hc)
      refine pj_iconst 24 rfl rfl ?_
      exact pn_iret h rfl rfl
def w_X12_power_4b (x0 : Int) (x1 : Int)  (Q : Int → pj_M → Prop) (k4 : Int → Int → pj_M → Prop) (x2 : Int) (x3 : Int) (M : pj_M) : Prop :=
  (pj_in x3) ∧ (pj_in x1) ∧ ((x1 ≤ x3 → Q x2 M) ∧ (¬ x1 ≤ x3 → k4 (x2 * x0) (x3 + 1) M))
def w_X12_power_4 (x0 : Int) (x1 : Int)  (Q : Int → pj_M → Prop) (x2 : Int) (x3 : Int) (M : pj_M) : Prop := pj_lp (fun (k : Int × Int × pj_M → Prop) (s : Int × Int × pj_M) => w_X12_power_4b x0 x1  Q (fun (x2 : Int) (x3 : Int) (M : pj_M) => k (x2, x3, M)) s.1 s.2.1 s.2.2) (x2, x3, M)
def w_X12_power (x0 : Int) (x1 : Int) (M : pj_M) (Q : Int → pj_M → Prop) : Prop :=
  w_X12_power_4 x0 x1  Q 1 0 M
set_option maxRecDepth 20000 in
set_option maxHeartbeats 4000000 in
theorem s_X12_power_4b {l : Launch} {g : pj_G} (hg : pj_ph g = true) {x0 : Int} {x1 : Int} {x2 : Int} {x3 : Int} {M : pj_M} {Q : Int → pj_M → Prop}  {k4 : Int → Int → pj_M → Prop}   (hk4 : ∀ (x2 : Int) (x3 : Int) (M : pj_M), k4 x2 x3 M → pj_R l g mdX12_power pj_T (pj_Zm g mdX12_power (pj_qi Q)) pj_NK 0 0 4 [(0, .int (pj_I x0)), (1, .int (pj_I x1)), (2, .int (pj_I x2)), (3, .int (pj_I x3))] [] M) (h : w_X12_power_4b x0 x1  Q k4 x2 x3 M) : pj_R l g mdX12_power pj_T (pj_Zm g mdX12_power (pj_qi Q)) pj_NK 0 0 4 [(0, .int (pj_I x0)), (1, .int (pj_I x1)), (2, .int (pj_I x2)), (3, .int (pj_I x3))] [] M := by
  unfold w_X12_power_4b at h
  refine pj_iload_n 5 3 rfl rfl rfl rfl ?_
  refine pj_iload_n 6 1 rfl rfl rfl rfl ?_
  obtain ⟨q1, h⟩ := h
  obtain ⟨q2, h⟩ := h
  refine pj_icmp_ge 19 9 rfl (by decide) rfl q1 q2 (fun hc => ?_) (fun hc => ?_)
  · replace h := h.1 hc
    refine pj_iload_n 20 2 rfl rfl rfl rfl ?_
    exact pn_iret h rfl rfl
  · replace h := h.2 hc
    refine pj_iload_n 10 2 rfl rfl rfl rfl ?_
    refine pj_iload_n 11 0 rfl rfl rfl rfl ?_
    refine pj_imul 12 rfl rfl ?_
    refine pj_istore_n 13 (ls' := [(0, .int (pj_I x0)), (1, .int (pj_I x1)), (2, .int (pj_I (x2 * x0))), (3, .int (pj_I x3))]) rfl rfl (by decide) rfl rfl ?_
    refine pj_iinc 16 3 (ls' := [(0, .int (pj_I x0)), (1, .int (pj_I x1)), (2, .int (pj_I (x2 * x0))), (3, .int (pj_I (x3 + 1)))]) rfl rfl (by decide) rfl rfl ?_
    refine pj_goto 4 rfl (by decide) ?_
    refine pn_sub [0, 1, 2, 3] rfl ?_
    exact hk4 _ _ _ h
set_option maxRecDepth 20000 in
set_option maxHeartbeats 4000000 in
theorem s_X12_power_4 {l : Launch} {g : pj_G} (hg : pj_ph g = true) {x0 : Int} {x1 : Int} {x2 : Int} {x3 : Int} {M : pj_M} {Q : Int → pj_M → Prop}    (h : w_X12_power_4 x0 x1  Q x2 x3 M) : pj_R l g mdX12_power pj_T (pj_Zm g mdX12_power (pj_qi Q)) pj_NK 0 0 4 [(0, .int (pj_I x0)), (1, .int (pj_I x1)), (2, .int (pj_I x2)), (3, .int (pj_I x3))] [] M :=
  h (fun s => pj_R l g mdX12_power pj_T (pj_Zm g mdX12_power (pj_qi Q)) pj_NK 0 0 4 [(0, .int (pj_I x0)), (1, .int (pj_I x1)), (2, .int (pj_I (s.1))), (3, .int (pj_I (s.2.1)))] [] s.2.2) (fun s hs => s_X12_power_4b hg   (fun _ _ _ q => q) hs)
set_option maxRecDepth 20000 in
set_option maxHeartbeats 4000000 in
theorem s_X12_power {l : Launch} {g : pj_G} (hg : pj_ph g = true) {x0 : Int} {x1 : Int} {M : pj_M} {Q : Int → pj_M → Prop}  (h : w_X12_power x0 x1 M Q) : pj_S l g mdX12_power [.int (pj_I x0), .int (pj_I x1)] pj_NK M (pj_qi Q) := by
  refine pj_ofR (ls := [(0, .int (pj_I x0)), (1, .int (pj_I x1))]) gcX12_power (by decide) rfl (Nat.le_of_ble_eq_true rfl) rfl ?_
  unfold w_X12_power at h
  refine pj_iconst 1 rfl rfl ?_
  refine pj_istore_n 2 (ls' := [(0, .int (pj_I x0)), (1, .int (pj_I x1)), (2, .int (pj_I 1))]) rfl rfl (by decide) rfl rfl ?_
  refine pj_iconst 3 rfl rfl ?_
  refine pj_istore_n 4 (ls' := [(0, .int (pj_I x0)), (1, .int (pj_I x1)), (2, .int (pj_I 1)), (3, .int (pj_I 0))]) rfl rfl (by decide) rfl rfl ?_
  refine pn_sub [0, 1, 2, 3] rfl ?_
  exact s_X12_power_4 hg    h
def w_X12_layRow_54b (r0 : Nat) (x3 : Int) (x4 : Int) (x5 : Int) (x6 : Int) (k14 : Int → Int → pj_M → Prop) (Q : pj_M → Prop) (k54 : Int → Int → pj_M → Prop) (x7 : Int) (x8 : Int) (M : pj_M) : Prop :=
  w_X12_has x3 x8 M (fun (t11 : Int) (M10 : pj_M) => (pj_in t11) ∧ ((t11 = 0 → k54 x7 (x8 + 1) M10) ∧ (¬ t11 = 0 → (pj_in x7) ∧ ((x7 ≤ 0 → ((0 : Int) ≤ x6 ∧ x6 < 80) ∧ ∀ M15 : pj_M, M15 = pj_up M10 (pj_rf r0 10) x6 x8 → k14 x5 (x6 + (-1)) M15) ∧ (¬ x7 ≤ 0 → k54 (x7 + (-1)) (x8 + 1) M10)))))
def w_X12_layRow_54 (r0 : Nat) (x3 : Int) (x4 : Int) (x5 : Int) (x6 : Int) (k14 : Int → Int → pj_M → Prop) (Q : pj_M → Prop) (x7 : Int) (x8 : Int) (M : pj_M) : Prop := pj_lp (fun (k : Int × Int × pj_M → Prop) (s : Int × Int × pj_M) => w_X12_layRow_54b r0 x3 x4 x5 x6 k14 Q (fun (x7 : Int) (x8 : Int) (M : pj_M) => k (x7, x8, M)) s.1 s.2.1 s.2.2) (x7, x8, M)
def w_X12_layRow_49 (r0 : Nat) (x3 : Int) (x4 : Int) (x6 : Int) (x7 : Int) (y0 : Int) (k14 : Int → Int → pj_M → Prop) (Q : pj_M → Prop) (M : pj_M) : Prop :=
  w_X12_layRow_54 r0 x3 x4 y0 x6 k14 Q x7 0 M
def w_X12_layRow_33 (r0 : Nat) (x3 : Int) (x4 : Int) (x5 : Int) (x6 : Int) (y0 : Int) (k14 : Int → Int → pj_M → Prop) (Q : pj_M → Prop) (M : pj_M) : Prop :=
  (pj_in x4) ∧ ((¬ x4 = 0 → (pj_in x4) ∧ (¬ x4 = 0) ∧ w_X12_layRow_49 r0 x3 x4 x6 y0 (pj_div x5 x4) k14 Q M) ∧ (x4 = 0 → w_X12_layRow_49 r0 x3 x4 x6 y0 0 k14 Q M))
def w_X12_layRow_14b (r0 : Nat) (x3 : Int) (x4 : Int)  (Q : pj_M → Prop) (k14 : Int → Int → pj_M → Prop) (x5 : Int) (x6 : Int) (M : pj_M) : Prop :=
  (pj_in x6) ∧ ((x6 < 0 → Q M) ∧ (¬ x6 < 0 → (pj_in x4) ∧ ((¬ x4 = 0 → (pj_in x4) ∧ (¬ x4 = 0) ∧ w_X12_layRow_33 r0 x3 x4 x5 x6 (pj_rem x5 x4) k14 Q M) ∧ (x4 = 0 → w_X12_layRow_33 r0 x3 x4 x5 x6 0 k14 Q M))))
def w_X12_layRow_14 (r0 : Nat) (x3 : Int) (x4 : Int)  (Q : pj_M → Prop) (x5 : Int) (x6 : Int) (M : pj_M) : Prop := pj_lp (fun (k : Int × Int × pj_M → Prop) (s : Int × Int × pj_M) => w_X12_layRow_14b r0 x3 x4  Q (fun (x5 : Int) (x6 : Int) (M : pj_M) => k (x5, x6, M)) s.1 s.2.1 s.2.2) (x5, x6, M)
def w_X12_layRow (r0 : Nat) (x1 : Int) (x2 : Int) (x3 : Int) (M : pj_M) (Q : pj_M → Prop) : Prop :=
  w_Jbits x3 M (fun (t2 : Int) (M1 : pj_M) => w_X12_layRow_14 r0 x3 t2  Q x1 (x2 - 1) M1)
set_option maxRecDepth 20000 in
set_option maxHeartbeats 4000000 in
theorem s_X12_layRow_54b {l : Launch} {g : pj_G} (hg : pj_ph g = true) {r0 : Nat} {x3 : Int} {x4 : Int} {x5 : Int} {x6 : Int} {x7 : Int} {x8 : Int} {M : pj_M} {Q : pj_M → Prop} {k14 : Int → Int → pj_M → Prop} {k54 : Int → Int → pj_M → Prop} (o0 : pj_ob r0 12) (hk14 : ∀ (x5 : Int) (x6 : Int) (M : pj_M), k14 x5 x6 M → pj_R l g mdX12_layRow pj_T (pj_Zm g mdX12_layRow (pj_qv Q)) pj_NK 0 0 14 [(0, .ref r0), (3, .int (pj_I x3)), (4, .int (pj_I x4)), (5, .int (pj_I x5)), (6, .int (pj_I x6))] [] M) (hk54 : ∀ (x7 : Int) (x8 : Int) (M : pj_M), k54 x7 x8 M → pj_R l g mdX12_layRow pj_T (pj_Zm g mdX12_layRow (pj_qv Q)) pj_NK 0 0 54 [(0, .ref r0), (3, .int (pj_I x3)), (4, .int (pj_I x4)), (5, .int (pj_I x5)), (6, .int (pj_I x6)), (7, .int (pj_I x7)), (8, .int (pj_I x8))] [] M) (h : w_X12_layRow_54b r0 x3 x4 x5 x6 k14 Q k54 x7 x8 M) : pj_R l g mdX12_layRow pj_T (pj_Zm g mdX12_layRow (pj_qv Q)) pj_NK 0 0 54 [(0, .ref r0), (3, .int (pj_I x3)), (4, .int (pj_I x4)), (5, .int (pj_I x5)), (6, .int (pj_I x6)), (7, .int (pj_I x7)), (8, .int (pj_I x8))] [] M := by
  unfold w_X12_layRow_54b at h
  refine pj_iload_n 55 1 rfl rfl rfl rfl ?_
  refine pj_iload 57 6 rfl rfl rfl ?_
  refine pn_callSi 60 [.int (pj_I x3), .int (pj_I x8)] [] (s_X12_has hg  h) plX12_135 rfl rfl rfl rfl (Nat.le_of_ble_eq_true rfl) (by decide) (fun t11 M10 h => ?_)
  obtain ⟨q12, h⟩ := h
  refine pj_if_eq 71 63 rfl (by decide) rfl q12  (fun hc => ?_) (fun hc => ?_)
  · replace h := h.1 hc
    refine pj_iinc 74 6 (ls' := [(0, .ref r0), (3, .int (pj_I x3)), (4, .int (pj_I x4)), (5, .int (pj_I x5)), (6, .int (pj_I x6)), (7, .int (pj_I x7)), (8, .int (pj_I (x8 + 1)))]) rfl rfl (by decide) rfl rfl ?_
    refine pj_goto 54 rfl (by decide) ?_
    refine pn_sub [0, 1, 2, 3, 4, 5, 6] rfl ?_
    exact hk54 _ _ _ h
  · replace h := h.2 hc
    refine pj_iload 65 5 rfl rfl rfl ?_
    refine pj_iinc 68 5 (ls' := [(0, .ref r0), (3, .int (pj_I x3)), (4, .int (pj_I x4)), (5, .int (pj_I x5)), (6, .int (pj_I x6)), (7, .int (pj_I (x7 + (-1)))), (8, .int (pj_I x8))]) rfl rfl (by decide) rfl rfl ?_
    obtain ⟨q13, h⟩ := h
    refine pj_if_le 77 71 rfl (by decide) rfl q13  (fun hc => ?_) (fun hc => ?_)
    · replace h := h.1 hc
      refine pj_aload_n 78 0 rfl rfl rfl rfl ?_
      refine pn_getr 81 12 10 hg o0 (pr_12_10 o0).2 rfl pfX12_24 rfl rfl ?_
      refine pj_iload 83 4 rfl rfl rfl ?_
      refine pj_iload 85 6 rfl rfl rfl ?_
      obtain ⟨q14, h⟩ := h
      refine pn_iast 86 80 (pr_12_10 o0)  q14 rfl rfl (fun M15 hM15 => ?_)
      replace h := h M15 hM15
      refine pj_iinc 89 4 (ls' := [(0, .ref r0), (3, .int (pj_I x3)), (4, .int (pj_I x4)), (5, .int (pj_I x5)), (6, .int (pj_I (x6 + (-1)))), (7, .int (pj_I (x7 + (-1)))), (8, .int (pj_I x8))]) rfl rfl (by decide) rfl rfl ?_
      refine pj_goto 14 rfl (by decide) ?_
      refine pn_sub [0, 1, 2, 3, 4] rfl ?_
      exact hk14 _ _ _ h
    · replace h := h.2 hc
      refine pj_iinc 74 6 (ls' := [(0, .ref r0), (3, .int (pj_I x3)), (4, .int (pj_I x4)), (5, .int (pj_I x5)), (6, .int (pj_I x6)), (7, .int (pj_I (x7 + (-1)))), (8, .int (pj_I (x8 + 1)))]) rfl rfl (by decide) rfl rfl ?_
      refine pj_goto 54 rfl (by decide) ?_
      refine pn_sub [0, 1, 2, 3, 4, 5, 6] rfl ?_
      exact hk54 _ _ _ h
set_option maxRecDepth 20000 in
set_option maxHeartbeats 4000000 in
theorem s_X12_layRow_54 {l : Launch} {g : pj_G} (hg : pj_ph g = true) {r0 : Nat} {x3 : Int} {x4 : Int} {x5 : Int} {x6 : Int} {x7 : Int} {x8 : Int} {M : pj_M} {Q : pj_M → Prop} {k14 : Int → Int → pj_M → Prop} (o0 : pj_ob r0 12) (hk14 : ∀ (x5 : Int) (x6 : Int) (M : pj_M), k14 x5 x6 M → pj_R l g mdX12_layRow pj_T (pj_Zm g mdX12_layRow (pj_qv Q)) pj_NK 0 0 14 [(0, .ref r0), (3, .int (pj_I x3)), (4, .int (pj_I x4)), (5, .int (pj_I x5)), (6, .int (pj_I x6))] [] M) (h : w_X12_layRow_54 r0 x3 x4 x5 x6 k14 Q x7 x8 M) : pj_R l g mdX12_layRow pj_T (pj_Zm g mdX12_layRow (pj_qv Q)) pj_NK 0 0 54 [(0, .ref r0), (3, .int (pj_I x3)), (4, .int (pj_I x4)), (5, .int (pj_I x5)), (6, .int (pj_I x6)), (7, .int (pj_I x7)), (8, .int (pj_I x8))] [] M :=
  h (fun s => pj_R l g mdX12_layRow pj_T (pj_Zm g mdX12_layRow (pj_qv Q)) pj_NK 0 0 54 [(0, .ref r0), (3, .int (pj_I x3)), (4, .int (pj_I x4)), (5, .int (pj_I x5)), (6, .int (pj_I x6)), (7, .int (pj_I (s.1))), (8, .int (pj_I (s.2.1)))] [] s.2.2) (fun s hs => s_X12_layRow_54b hg o0 hk14 (fun _ _ _ q => q) hs)
set_option maxRecDepth 20000 in
set_option maxHeartbeats 4000000 in
theorem s_X12_layRow_49 {l : Launch} {g : pj_G} (hg : pj_ph g = true) {r0 : Nat} {x3 : Int} {x4 : Int} {x6 : Int} {x7 : Int} {y0 : Int} {M : pj_M} {Q : pj_M → Prop} {k14 : Int → Int → pj_M → Prop} (o0 : pj_ob r0 12) (hk14 : ∀ (x5 : Int) (x6 : Int) (M : pj_M), k14 x5 x6 M → pj_R l g mdX12_layRow pj_T (pj_Zm g mdX12_layRow (pj_qv Q)) pj_NK 0 0 14 [(0, .ref r0), (3, .int (pj_I x3)), (4, .int (pj_I x4)), (5, .int (pj_I x5)), (6, .int (pj_I x6))] [] M) (h : w_X12_layRow_49 r0 x3 x4 x6 x7 y0 k14 Q M) : pj_R l g mdX12_layRow pj_T (pj_Zm g mdX12_layRow (pj_qv Q)) pj_NK 0 0 49 [(0, .ref r0), (3, .int (pj_I x3)), (4, .int (pj_I x4)), (6, .int (pj_I x6)), (7, .int (pj_I x7))] [.int (pj_I y0)] M := by
  unfold w_X12_layRow_49 at h
  refine pj_istore 51 (ls' := [(0, .ref r0), (3, .int (pj_I x3)), (4, .int (pj_I x4)), (5, .int (pj_I y0)), (6, .int (pj_I x6)), (7, .int (pj_I x7))]) rfl (by decide) rfl rfl ?_
  refine pj_iconst 52 rfl rfl ?_
  refine pj_istore 54 (ls' := [(0, .ref r0), (3, .int (pj_I x3)), (4, .int (pj_I x4)), (5, .int (pj_I y0)), (6, .int (pj_I x6)), (7, .int (pj_I x7)), (8, .int (pj_I 0))]) rfl (by decide) rfl rfl ?_
  refine pn_sub [0, 1, 2, 3, 4, 5, 6] rfl ?_
  exact s_X12_layRow_54 hg o0  hk14 h
set_option maxRecDepth 20000 in
set_option maxHeartbeats 4000000 in
theorem s_X12_layRow_33 {l : Launch} {g : pj_G} (hg : pj_ph g = true) {r0 : Nat} {x3 : Int} {x4 : Int} {x5 : Int} {x6 : Int} {y0 : Int} {M : pj_M} {Q : pj_M → Prop} {k14 : Int → Int → pj_M → Prop} (o0 : pj_ob r0 12) (hk14 : ∀ (x5 : Int) (x6 : Int) (M : pj_M), k14 x5 x6 M → pj_R l g mdX12_layRow pj_T (pj_Zm g mdX12_layRow (pj_qv Q)) pj_NK 0 0 14 [(0, .ref r0), (3, .int (pj_I x3)), (4, .int (pj_I x4)), (5, .int (pj_I x5)), (6, .int (pj_I x6))] [] M) (h : w_X12_layRow_33 r0 x3 x4 x5 x6 y0 k14 Q M) : pj_R l g mdX12_layRow pj_T (pj_Zm g mdX12_layRow (pj_qv Q)) pj_NK 0 0 33 [(0, .ref r0), (3, .int (pj_I x3)), (4, .int (pj_I x4)), (5, .int (pj_I x5)), (6, .int (pj_I x6))] [.int (pj_I y0)] M := by
  unfold w_X12_layRow_33 at h
  refine pj_istore 35 (ls' := [(0, .ref r0), (3, .int (pj_I x3)), (4, .int (pj_I x4)), (5, .int (pj_I x5)), (6, .int (pj_I x6)), (7, .int (pj_I y0))]) rfl (by decide) rfl rfl ?_
  refine pj_iload 37 2 rfl rfl rfl ?_
  obtain ⟨q7, h⟩ := h
  refine pj_if_ne 44 40 rfl (by decide) rfl q7  (fun hc => ?_) (fun hc => ?_)
  · replace h := h.1 hc
    refine pj_iload 46 3 rfl rfl rfl ?_
    refine pj_iload 48 2 rfl rfl rfl ?_
    obtain ⟨q8, h⟩ := h
    obtain ⟨q9, h⟩ := h
    refine pj_idiv 49 rfl rfl q8 q9 ?_
    refine pn_sub [0, 1, 2, 4, 5] rfl ?_
    exact s_X12_layRow_49 hg o0  hk14 h
  · replace h := h.2 (Classical.not_not.mp hc)
    refine pj_iconst 41 rfl rfl ?_
    refine pj_goto 49 rfl (by decide) ?_
    refine pn_sub [0, 1, 2, 4, 5] rfl ?_
    exact s_X12_layRow_49 hg o0  hk14 h
set_option maxRecDepth 20000 in
set_option maxHeartbeats 4000000 in
theorem s_X12_layRow_14b {l : Launch} {g : pj_G} (hg : pj_ph g = true) {r0 : Nat} {x3 : Int} {x4 : Int} {x5 : Int} {x6 : Int} {M : pj_M} {Q : pj_M → Prop}  {k14 : Int → Int → pj_M → Prop} (o0 : pj_ob r0 12)  (hk14 : ∀ (x5 : Int) (x6 : Int) (M : pj_M), k14 x5 x6 M → pj_R l g mdX12_layRow pj_T (pj_Zm g mdX12_layRow (pj_qv Q)) pj_NK 0 0 14 [(0, .ref r0), (3, .int (pj_I x3)), (4, .int (pj_I x4)), (5, .int (pj_I x5)), (6, .int (pj_I x6))] [] M) (h : w_X12_layRow_14b r0 x3 x4  Q k14 x5 x6 M) : pj_R l g mdX12_layRow pj_T (pj_Zm g mdX12_layRow (pj_qv Q)) pj_NK 0 0 14 [(0, .ref r0), (3, .int (pj_I x3)), (4, .int (pj_I x4)), (5, .int (pj_I x5)), (6, .int (pj_I x6))] [] M := by
  unfold w_X12_layRow_14b at h
  refine pj_iload 16 4 rfl rfl rfl ?_
  obtain ⟨q3, h⟩ := h
  refine pj_if_lt 92 19 rfl (by decide) rfl q3  (fun hc => ?_) (fun hc => ?_)
  · replace h := h.1 hc
    exact pn_vret h rfl rfl
  · replace h := h.2 hc
    refine pj_iload 21 2 rfl rfl rfl ?_
    obtain ⟨q4, h⟩ := h
    refine pj_if_ne 28 24 rfl (by decide) rfl q4  (fun hc => ?_) (fun hc => ?_)
    · replace h := h.1 hc
      refine pj_iload 30 3 rfl rfl rfl ?_
      refine pj_iload 32 2 rfl rfl rfl ?_
      obtain ⟨q5, h⟩ := h
      obtain ⟨q6, h⟩ := h
      refine pj_irem 33 rfl rfl q5 q6 ?_
      refine pn_sub [0, 1, 2, 3, 4] rfl ?_
      exact s_X12_layRow_33 hg o0  hk14 h
    · replace h := h.2 (Classical.not_not.mp hc)
      refine pj_iconst 25 rfl rfl ?_
      refine pj_goto 33 rfl (by decide) ?_
      refine pn_sub [0, 1, 2, 3, 4] rfl ?_
      exact s_X12_layRow_33 hg o0  hk14 h
set_option maxRecDepth 20000 in
set_option maxHeartbeats 4000000 in
theorem s_X12_layRow_14 {l : Launch} {g : pj_G} (hg : pj_ph g = true) {r0 : Nat} {x3 : Int} {x4 : Int} {x5 : Int} {x6 : Int} {M : pj_M} {Q : pj_M → Prop}  (o0 : pj_ob r0 12)  (h : w_X12_layRow_14 r0 x3 x4  Q x5 x6 M) : pj_R l g mdX12_layRow pj_T (pj_Zm g mdX12_layRow (pj_qv Q)) pj_NK 0 0 14 [(0, .ref r0), (3, .int (pj_I x3)), (4, .int (pj_I x4)), (5, .int (pj_I x5)), (6, .int (pj_I x6))] [] M :=
  h (fun s => pj_R l g mdX12_layRow pj_T (pj_Zm g mdX12_layRow (pj_qv Q)) pj_NK 0 0 14 [(0, .ref r0), (3, .int (pj_I x3)), (4, .int (pj_I x4)), (5, .int (pj_I (s.1))), (6, .int (pj_I (s.2.1)))] [] s.2.2) (fun s hs => s_X12_layRow_14b hg o0  (fun _ _ _ q => q) hs)
set_option maxRecDepth 20000 in
set_option maxHeartbeats 4000000 in
theorem s_X12_layRow {l : Launch} {g : pj_G} (hg : pj_ph g = true) {r0 : Nat} {x1 : Int} {x2 : Int} {x3 : Int} {M : pj_M} {Q : pj_M → Prop} (o0 : pj_ob r0 12) (h : w_X12_layRow r0 x1 x2 x3 M Q) : pj_S l g mdX12_layRow [.ref r0, .int (pj_I x1), .int (pj_I x2), .int (pj_I x3)] pj_NK M (pj_qv Q) := by
  refine pj_ofR (ls := [(0, .ref r0), (1, .int (pj_I x1)), (2, .int (pj_I x2)), (3, .int (pj_I x3))]) gcX12_layRow (by decide) rfl (Nat.le_of_ble_eq_true rfl) rfl ?_
  unfold w_X12_layRow at h
  refine pj_iload_n 1 3 rfl rfl rfl rfl ?_
  refine pn_callSi 4 [.int (pj_I x3)] [] (s_Jbits hg  h) plX12_255 rfl rfl rfl rfl (Nat.le_of_ble_eq_true rfl) (by decide) (fun t2 M1 h => ?_)
  refine pj_istore 6 (ls' := [(0, .ref r0), (1, .int (pj_I x1)), (2, .int (pj_I x2)), (3, .int (pj_I x3)), (4, .int (pj_I t2))]) rfl (by decide) rfl rfl ?_
  refine pj_iload_n 7 1 rfl rfl rfl rfl ?_
  refine pj_istore 9 (ls' := [(0, .ref r0), (1, .int (pj_I x1)), (2, .int (pj_I x2)), (3, .int (pj_I x3)), (4, .int (pj_I t2)), (5, .int (pj_I x1))]) rfl (by decide) rfl rfl ?_
  refine pj_iload_n 10 2 rfl rfl rfl rfl ?_
  refine pj_iconst 11 rfl rfl ?_
  refine pj_isub 12 rfl rfl ?_
  refine pj_istore 14 (ls' := [(0, .ref r0), (1, .int (pj_I x1)), (2, .int (pj_I x2)), (3, .int (pj_I x3)), (4, .int (pj_I t2)), (5, .int (pj_I x1)), (6, .int (pj_I (x2 - 1)))]) rfl (by decide) rfl rfl ?_
  refine pn_sub [0, 3, 4, 5, 6] rfl ?_
  exact s_X12_layRow_14 hg o0   h
def w_X12_isOf (r0 : Nat) (r1 : Nat) (x2 : Int) (M : pj_M) (Q : Int → pj_M → Prop) : Prop :=
  ∀ M1 : pj_M, M1 = pj_up M r0 11 (r1 : Int) → ∃ b2 : Nat, (M1 r0 11 = (b2 : Int) ∧ pj_ol b2 1 95) ∧ w_X12_layGood r0 b2 M1 (fun (M3 : pj_M) => w_X12_layWord r0 (pj_rf r0 10) 0 x2 M3 (fun (M5 : pj_M) => w_X12_layOne r0 0 (pj_rf r0 15) M5 (fun (M7 : pj_M) => w_X12_start r0 M7 (fun (t10 : Int) (M9 : pj_M) => w_X12_cell t10 0 x2 M9 (fun (t12 : Int) (M11 : pj_M) => ((0 : Int) ≤ t12 ∧ t12 < 1536) ∧ ((M11 (pj_rf r0 15) t12) = 0 ∨ (M11 (pj_rf r0 15) t12) = 1) ∧ Q (M11 (pj_rf r0 15) t12) M11)))))
set_option maxRecDepth 20000 in
set_option maxHeartbeats 4000000 in
theorem s_X12_isOf {l : Launch} {g : pj_G} (hg : pj_ph g = true) {r0 : Nat} {r1 : Nat} {x2 : Int} {M : pj_M} {Q : Int → pj_M → Prop} (o0 : pj_ob r0 12) (o1 : pj_oa r1 1) (h : w_X12_isOf r0 r1 x2 M Q) : pj_S l g mdX12_isOf [.ref r0, .ref r1, .int (pj_I x2)] pj_NK M (pj_qi Q) := by
  refine pj_ofR (ls := [(0, .ref r0), (1, .ref r1), (2, .int (pj_I x2))]) gcX12_isOf (by decide) rfl (Nat.le_of_ble_eq_true rfl) rfl ?_
  unfold w_X12_isOf at h
  refine pj_aload_n 1 0 rfl rfl rfl rfl ?_
  refine pj_aload_n 2 1 rfl rfl rfl rfl ?_
  refine pn_putr 5 12 11 11 o0 (pr_len o1).2 rfl pfX12_27 rfl rfl rfl (fun M1 hM1 => ?_)
  replace h := h M1 hM1
  refine pj_aload_n 6 0 rfl rfl rfl rfl ?_
  refine pj_aload_n 7 0 rfl rfl rfl rfl ?_
  obtain ⟨b2, ⟨hb2, ob2⟩, h⟩ := h
  refine pn_getd 10 12 11 11 o0 hb2 ob2.2 rfl pfX12_27 rfl rfl rfl ?_
  refine pn_callVv 13 12 [.ref b2] [] o0 (s_X12_layGood hg o0 (pj_oa_of ob2) h) plX12_156 rfl rfl rfl rfl (Nat.le_of_ble_eq_true rfl) (by decide) (fun M3 h => ?_)
  refine pj_aload_n 14 0 rfl rfl rfl rfl ?_
  refine pj_aload_n 15 0 rfl rfl rfl rfl ?_
  refine pn_getr 18 12 10 hg o0 (pr_12_10 o0).2 rfl pfX12_24 rfl rfl ?_
  refine pj_iconst 19 rfl rfl ?_
  refine pj_iload_n 20 2 rfl rfl rfl rfl ?_
  refine pn_callVv 23 12 [.ref (pj_rf r0 10), .int (pj_I 0), .int (pj_I x2)] [] o0 (s_X12_layWord hg o0 (pj_oa_of (pr_12_10 o0)) h) plX12_221 rfl rfl rfl rfl (Nat.le_of_ble_eq_true rfl) (by decide) (fun M5 h => ?_)
  refine pj_aload_n 24 0 rfl rfl rfl rfl ?_
  refine pj_iconst 25 rfl rfl ?_
  refine pj_aload_n 26 0 rfl rfl rfl rfl ?_
  refine pn_getr 29 12 15 hg o0 (pr_12_15 o0).2 rfl pfX12_33 rfl rfl ?_
  refine pn_callVv 32 12 [.int (pj_I 0), .ref (pj_rf r0 15)] [] o0 (s_X12_layOne hg o0 (pj_oa_of (pr_12_15 o0)) h) plX12_228 rfl rfl rfl rfl (Nat.le_of_ble_eq_true rfl) (by decide) (fun M7 h => ?_)
  refine pj_aload_n 33 0 rfl rfl rfl rfl ?_
  refine pn_getr 36 12 15 hg o0 (pr_12_15 o0).2 rfl pfX12_33 rfl rfl ?_
  refine pj_aload_n 37 0 rfl rfl rfl rfl ?_
  refine pn_callVi 40 12 [] [.ref (pj_rf r0 15)] o0 (s_X12_start hg o0 h) plX12_240 rfl rfl rfl rfl (Nat.le_of_ble_eq_true rfl) (by decide) (fun t10 M9 h => ?_)
  refine pj_iconst 41 rfl rfl ?_
  refine pj_iload_n 42 2 rfl rfl rfl rfl ?_
  refine pn_callSi 45 [.int (pj_I t10), .int (pj_I 0), .int (pj_I x2)] [.ref (pj_rf r0 15)] (s_X12_cell hg  h) plX12_183 rfl rfl rfl rfl (Nat.le_of_ble_eq_true rfl) (by decide) (fun t12 M11 h => ?_)
  obtain ⟨q13, h⟩ := h
  refine pn_bald 46 2 1536 (pr_12_15 o0) (by decide) q13 rfl rfl ?_
  obtain ⟨q14, h⟩ := h
  exact pn_zret q14 h rfl rfl
def w_X12_signsNow (r0 : Nat) (r1 : Nat) (M : pj_M) (Q : Int → pj_M → Prop) : Prop :=
  ∀ M1 : pj_M, M1 = pj_up M r0 11 (r1 : Int) → ∃ b2 : Nat, (M1 r0 11 = (b2 : Int) ∧ pj_ol b2 1 95) ∧ w_X12_layGood r0 b2 M1 (fun (M3 : pj_M) => w_X12_start r0 M3 (fun (t6 : Int) (M5 : pj_M) => w_X12_signsOf r0 t6 M5 (fun (t8 : Int) (M7 : pj_M) => Q t8 M7)))
set_option maxRecDepth 20000 in
set_option maxHeartbeats 4000000 in
theorem s_X12_signsNow {l : Launch} {g : pj_G} (hg : pj_ph g = true) {r0 : Nat} {r1 : Nat} {M : pj_M} {Q : Int → pj_M → Prop} (o0 : pj_ob r0 12) (o1 : pj_oa r1 1) (h : w_X12_signsNow r0 r1 M Q) : pj_S l g mdX12_signsNow [.ref r0, .ref r1] pj_NK M (pj_qi Q) := by
  refine pj_ofR (ls := [(0, .ref r0), (1, .ref r1)]) gcX12_signsNow (by decide) rfl (Nat.le_of_ble_eq_true rfl) rfl ?_
  unfold w_X12_signsNow at h
  refine pj_aload_n 1 0 rfl rfl rfl rfl ?_
  refine pj_aload_n 2 1 rfl rfl rfl rfl ?_
  refine pn_putr 5 12 11 11 o0 (pr_len o1).2 rfl pfX12_27 rfl rfl rfl (fun M1 hM1 => ?_)
  replace h := h M1 hM1
  refine pj_aload_n 6 0 rfl rfl rfl rfl ?_
  refine pj_aload_n 7 0 rfl rfl rfl rfl ?_
  obtain ⟨b2, ⟨hb2, ob2⟩, h⟩ := h
  refine pn_getd 10 12 11 11 o0 hb2 ob2.2 rfl pfX12_27 rfl rfl rfl ?_
  refine pn_callVv 13 12 [.ref b2] [] o0 (s_X12_layGood hg o0 (pj_oa_of ob2) h) plX12_156 rfl rfl rfl rfl (Nat.le_of_ble_eq_true rfl) (by decide) (fun M3 h => ?_)
  refine pj_aload_n 14 0 rfl rfl rfl rfl ?_
  refine pj_aload_n 15 0 rfl rfl rfl rfl ?_
  refine pn_callVi 18 12 [] [.ref r0] o0 (s_X12_start hg o0 h) plX12_240 rfl rfl rfl rfl (Nat.le_of_ble_eq_true rfl) (by decide) (fun t6 M5 h => ?_)
  refine pn_callVi 21 12 [.int (pj_I t6)] [] o0 (s_X12_signsOf hg o0 h) plX12_321 rfl rfl rfl rfl (Nat.le_of_ble_eq_true rfl) (by decide) (fun t8 M7 h => ?_)
  exact pn_iret h rfl rfl
def w_X12_sentences_116 (r0 : Nat) (x1 : Int) (x2 : Int) (x3 : Int) (x4 : Int) (x5 : Int) (k55 : Int → Int → pj_M → Prop) (Q : Int → pj_M → Prop) (M : pj_M) : Prop :=
  k55 (x4 + 1) (x5 + 1) M
def w_X12_sentences_87b (r0 : Nat) (x1 : Int) (x2 : Int) (x3 : Int) (x4 : Int) (x5 : Int) (k55 : Int → Int → pj_M → Prop) (Q : Int → pj_M → Prop) (k87 : Int → pj_M → Prop) (x6 : Int) (M : pj_M) : Prop :=
  (pj_in x6) ∧ (pj_in x1) ∧ ((x1 ≤ x6 → w_X12_sentences_116 r0 x1 x2 x3 x4 x5 k55 Q M) ∧ (¬ x1 ≤ x6 → (pj_in x4) ∧ ((¬ x4 = 0 → w_X12_sentences_116 r0 x1 x2 x3 x4 x5 k55 Q M) ∧ (x4 = 0 → ((0 : Int) ≤ x6 ∧ x6 < 80) ∧ (pj_in (M (pj_rf r0 10) x6)) ∧ w_X12_tell r0 (M (pj_rf r0 10) x6) M (fun (M25 : pj_M) => k87 (x6 + 1) M25)))))
def w_X12_sentences_87 (r0 : Nat) (x1 : Int) (x2 : Int) (x3 : Int) (x4 : Int) (x5 : Int) (k55 : Int → Int → pj_M → Prop) (Q : Int → pj_M → Prop) (x6 : Int) (M : pj_M) : Prop := pj_lp (fun (k : Int × pj_M → Prop) (s : Int × pj_M) => w_X12_sentences_87b r0 x1 x2 x3 x4 x5 k55 Q (fun (x6 : Int) (M : pj_M) => k (x6, M)) s.1 s.2) (x6, M)
def w_X12_sentences_55b (r0 : Nat) (x1 : Int) (x2 : Int) (x3 : Int)  (Q : Int → pj_M → Prop) (k55 : Int → Int → pj_M → Prop) (x4 : Int) (x5 : Int) (M : pj_M) : Prop :=
  (pj_in x5) ∧ (pj_in x3) ∧ ((x3 ≤ x5 → Q x4 M) ∧ (¬ x3 ≤ x5 → w_X12_layRow r0 x5 x1 x2 M (fun (M15 : pj_M) => w_X12_isOf r0 (pj_rf r0 0) x1 M15 (fun (t18 : Int) (M17 : pj_M) => (pj_in t18) ∧ ((¬ t18 = 0 → w_X12_sentences_87 r0 x1 x2 x3 x4 x5 k55 Q 0 M17) ∧ (t18 = 0 → k55 x4 (x5 + 1) M17))))))
def w_X12_sentences_55 (r0 : Nat) (x1 : Int) (x2 : Int) (x3 : Int)  (Q : Int → pj_M → Prop) (x4 : Int) (x5 : Int) (M : pj_M) : Prop := pj_lp (fun (k : Int × Int × pj_M → Prop) (s : Int × Int × pj_M) => w_X12_sentences_55b r0 x1 x2 x3  Q (fun (x4 : Int) (x5 : Int) (M : pj_M) => k (x4, x5, M)) s.1 s.2.1 s.2.2) (x4, x5, M)
def w_X12_sentences (r0 : Nat) (x1 : Int) (M : pj_M) (Q : Int → pj_M → Prop) : Prop :=
  ∀ M1 : pj_M, M1 = pj_up M r0 5 0 → w_X12_in x1 0 5 M1 (fun (t3 : Int) (M2 : pj_M) => (pj_in t3) ∧ ((¬ t3 = 0 → w_X12_signsNow r0 (pj_rf r0 0) M2 (fun (t6 : Int) (M5 : pj_M) => w_Jbits t6 M5 (fun (t8 : Int) (M7 : pj_M) => w_X12_power t8 x1 M7 (fun (t10 : Int) (M9 : pj_M) => (pj_in t10) ∧ ((t10 ≤ 1000 → ∀ M12 : pj_M, M12 = pj_up M9 r0 4 0 → w_X12_sentences_55 r0 x1 t6 t10  Q 0 0 M12) ∧ (¬ t10 ≤ 1000 → Q (-2) M9)))))) ∧ (t3 = 0 → Q (-1) M2)))
set_option maxRecDepth 20000 in
set_option maxHeartbeats 4000000 in
theorem s_X12_sentences_116 {l : Launch} {g : pj_G} (hg : pj_ph g = true) {r0 : Nat} {x1 : Int} {x2 : Int} {x3 : Int} {x4 : Int} {x5 : Int} {M : pj_M} {Q : Int → pj_M → Prop} {k55 : Int → Int → pj_M → Prop} (o0 : pj_ob r0 12) (hk55 : ∀ (x4 : Int) (x5 : Int) (M : pj_M), k55 x4 x5 M → pj_R l g mdX12_sentences pj_T (pj_Zm g mdX12_sentences (pj_qi Q)) pj_NK 0 0 55 [(0, .ref r0), (1, .int (pj_I x1)), (2, .int (pj_I x2)), (3, .int (pj_I x3)), (4, .int (pj_I x4)), (5, .int (pj_I x5))] [] M) (h : w_X12_sentences_116 r0 x1 x2 x3 x4 x5 k55 Q M) : pj_R l g mdX12_sentences pj_T (pj_Zm g mdX12_sentences (pj_qi Q)) pj_NK 0 0 116 [(0, .ref r0), (1, .int (pj_I x1)), (2, .int (pj_I x2)), (3, .int (pj_I x3)), (4, .int (pj_I x4)), (5, .int (pj_I x5))] [] M := by
  unfold w_X12_sentences_116 at h
  refine pj_iinc 119 4 (ls' := [(0, .ref r0), (1, .int (pj_I x1)), (2, .int (pj_I x2)), (3, .int (pj_I x3)), (4, .int (pj_I (x4 + 1))), (5, .int (pj_I x5))]) rfl rfl (by decide) rfl rfl ?_
  refine pj_iinc 122 5 (ls' := [(0, .ref r0), (1, .int (pj_I x1)), (2, .int (pj_I x2)), (3, .int (pj_I x3)), (4, .int (pj_I (x4 + 1))), (5, .int (pj_I (x5 + 1)))]) rfl rfl (by decide) rfl rfl ?_
  refine pj_goto 55 rfl (by decide) ?_
  refine pn_sub [0, 1, 2, 3, 4, 5] rfl ?_
  exact hk55 _ _ _ h
set_option maxRecDepth 20000 in
set_option maxHeartbeats 4000000 in
theorem s_X12_sentences_87b {l : Launch} {g : pj_G} (hg : pj_ph g = true) {r0 : Nat} {x1 : Int} {x2 : Int} {x3 : Int} {x4 : Int} {x5 : Int} {x6 : Int} {M : pj_M} {Q : Int → pj_M → Prop} {k55 : Int → Int → pj_M → Prop} {k87 : Int → pj_M → Prop} (o0 : pj_ob r0 12) (hk55 : ∀ (x4 : Int) (x5 : Int) (M : pj_M), k55 x4 x5 M → pj_R l g mdX12_sentences pj_T (pj_Zm g mdX12_sentences (pj_qi Q)) pj_NK 0 0 55 [(0, .ref r0), (1, .int (pj_I x1)), (2, .int (pj_I x2)), (3, .int (pj_I x3)), (4, .int (pj_I x4)), (5, .int (pj_I x5))] [] M) (hk87 : ∀ (x6 : Int) (M : pj_M), k87 x6 M → pj_R l g mdX12_sentences pj_T (pj_Zm g mdX12_sentences (pj_qi Q)) pj_NK 0 0 87 [(0, .ref r0), (1, .int (pj_I x1)), (2, .int (pj_I x2)), (3, .int (pj_I x3)), (4, .int (pj_I x4)), (5, .int (pj_I x5)), (6, .int (pj_I x6))] [] M) (h : w_X12_sentences_87b r0 x1 x2 x3 x4 x5 k55 Q k87 x6 M) : pj_R l g mdX12_sentences pj_T (pj_Zm g mdX12_sentences (pj_qi Q)) pj_NK 0 0 87 [(0, .ref r0), (1, .int (pj_I x1)), (2, .int (pj_I x2)), (3, .int (pj_I x3)), (4, .int (pj_I x4)), (5, .int (pj_I x5)), (6, .int (pj_I x6))] [] M := by
  unfold w_X12_sentences_87b at h
  refine pj_iload 89 6 rfl rfl rfl ?_
  refine pj_iload_n 90 1 rfl rfl rfl rfl ?_
  obtain ⟨q20, h⟩ := h
  obtain ⟨q21, h⟩ := h
  refine pj_icmp_ge 116 93 rfl (by decide) rfl q20 q21 (fun hc => ?_) (fun hc => ?_)
  · replace h := h.1 hc
    refine pn_sub [0, 1, 2, 3, 4, 5] rfl ?_
    exact s_X12_sentences_116 hg o0  hk55 h
  · replace h := h.2 hc
    refine pj_iload 95 4 rfl rfl rfl ?_
    obtain ⟨q22, h⟩ := h
    refine pj_if_ne 116 98 rfl (by decide) rfl q22  (fun hc => ?_) (fun hc => ?_)
    · replace h := h.1 hc
      refine pn_sub [0, 1, 2, 3, 4, 5] rfl ?_
      exact s_X12_sentences_116 hg o0  hk55 h
    · replace h := h.2 (Classical.not_not.mp hc)
      refine pj_aload_n 99 0 rfl rfl rfl rfl ?_
      refine pj_aload_n 100 0 rfl rfl rfl rfl ?_
      refine pn_getr 103 12 10 hg o0 (pr_12_10 o0).2 rfl pfX12_24 rfl rfl ?_
      refine pj_iload 105 6 rfl rfl rfl ?_
      obtain ⟨q23, h⟩ := h
      refine pn_iald 106 80 (pr_12_10 o0) q23 rfl rfl ?_
      obtain ⟨q24, h⟩ := h
      refine pj_i2l 107 rfl rfl q24 ?_
      refine pn_callVv 110 12 [.long (pj_L (M (pj_rf r0 10) x6))] [] o0 (s_X12_tell hg o0 h) plX12_260 rfl rfl rfl rfl (Nat.le_of_ble_eq_true rfl) (by decide) (fun M25 h => ?_)
      refine pj_iinc 113 6 (ls' := [(0, .ref r0), (1, .int (pj_I x1)), (2, .int (pj_I x2)), (3, .int (pj_I x3)), (4, .int (pj_I x4)), (5, .int (pj_I x5)), (6, .int (pj_I (x6 + 1)))]) rfl rfl (by decide) rfl rfl ?_
      refine pj_goto 87 rfl (by decide) ?_
      refine pn_sub [0, 1, 2, 3, 4, 5, 6] rfl ?_
      exact hk87 _ _ h
set_option maxRecDepth 20000 in
set_option maxHeartbeats 4000000 in
theorem s_X12_sentences_87 {l : Launch} {g : pj_G} (hg : pj_ph g = true) {r0 : Nat} {x1 : Int} {x2 : Int} {x3 : Int} {x4 : Int} {x5 : Int} {x6 : Int} {M : pj_M} {Q : Int → pj_M → Prop} {k55 : Int → Int → pj_M → Prop} (o0 : pj_ob r0 12) (hk55 : ∀ (x4 : Int) (x5 : Int) (M : pj_M), k55 x4 x5 M → pj_R l g mdX12_sentences pj_T (pj_Zm g mdX12_sentences (pj_qi Q)) pj_NK 0 0 55 [(0, .ref r0), (1, .int (pj_I x1)), (2, .int (pj_I x2)), (3, .int (pj_I x3)), (4, .int (pj_I x4)), (5, .int (pj_I x5))] [] M) (h : w_X12_sentences_87 r0 x1 x2 x3 x4 x5 k55 Q x6 M) : pj_R l g mdX12_sentences pj_T (pj_Zm g mdX12_sentences (pj_qi Q)) pj_NK 0 0 87 [(0, .ref r0), (1, .int (pj_I x1)), (2, .int (pj_I x2)), (3, .int (pj_I x3)), (4, .int (pj_I x4)), (5, .int (pj_I x5)), (6, .int (pj_I x6))] [] M :=
  h (fun s => pj_R l g mdX12_sentences pj_T (pj_Zm g mdX12_sentences (pj_qi Q)) pj_NK 0 0 87 [(0, .ref r0), (1, .int (pj_I x1)), (2, .int (pj_I x2)), (3, .int (pj_I x3)), (4, .int (pj_I x4)), (5, .int (pj_I x5)), (6, .int (pj_I (s.1)))] [] s.2) (fun s hs => s_X12_sentences_87b hg o0 hk55 (fun _ _ q => q) hs)
set_option maxRecDepth 20000 in
set_option maxHeartbeats 4000000 in
theorem s_X12_sentences_55b {l : Launch} {g : pj_G} (hg : pj_ph g = true) {r0 : Nat} {x1 : Int} {x2 : Int} {x3 : Int} {x4 : Int} {x5 : Int} {M : pj_M} {Q : Int → pj_M → Prop}  {k55 : Int → Int → pj_M → Prop} (o0 : pj_ob r0 12)  (hk55 : ∀ (x4 : Int) (x5 : Int) (M : pj_M), k55 x4 x5 M → pj_R l g mdX12_sentences pj_T (pj_Zm g mdX12_sentences (pj_qi Q)) pj_NK 0 0 55 [(0, .ref r0), (1, .int (pj_I x1)), (2, .int (pj_I x2)), (3, .int (pj_I x3)), (4, .int (pj_I x4)), (5, .int (pj_I x5))] [] M) (h : w_X12_sentences_55b r0 x1 x2 x3  Q k55 x4 x5 M) : pj_R l g mdX12_sentences pj_T (pj_Zm g mdX12_sentences (pj_qi Q)) pj_NK 0 0 55 [(0, .ref r0), (1, .int (pj_I x1)), (2, .int (pj_I x2)), (3, .int (pj_I x3)), (4, .int (pj_I x4)), (5, .int (pj_I x5))] [] M := by
  unfold w_X12_sentences_55b at h
  refine pj_iload 57 5 rfl rfl rfl ?_
  refine pj_iload_n 58 3 rfl rfl rfl rfl ?_
  obtain ⟨q13, h⟩ := h
  obtain ⟨q14, h⟩ := h
  refine pj_icmp_ge 125 61 rfl (by decide) rfl q13 q14 (fun hc => ?_) (fun hc => ?_)
  · replace h := h.1 hc
    refine pj_iload 127 4 rfl rfl rfl ?_
    exact pn_iret h rfl rfl
  · replace h := h.2 hc
    refine pj_aload_n 62 0 rfl rfl rfl rfl ?_
    refine pj_iload 64 5 rfl rfl rfl ?_
    refine pj_iload_n 65 1 rfl rfl rfl rfl ?_
    refine pj_iload_n 66 2 rfl rfl rfl rfl ?_
    refine pn_callVv 69 12 [.int (pj_I x5), .int (pj_I x1), .int (pj_I x2)] [] o0 (s_X12_layRow hg o0 h) plX12_333 rfl rfl rfl rfl (Nat.le_of_ble_eq_true rfl) (by decide) (fun M15 h => ?_)
    refine pj_aload_n 70 0 rfl rfl rfl rfl ?_
    refine pj_aload_n 71 0 rfl rfl rfl rfl ?_
    refine pn_getr 74 12 0 hg o0 (pr_12_0 o0).2 rfl pfX12_9 rfl rfl ?_
    refine pj_iload_n 75 1 rfl rfl rfl rfl ?_
    refine pn_callVi 78 12 [.ref (pj_rf r0 0), .int (pj_I x1)] [] o0 (s_X12_isOf hg o0 (pj_oa_of (pr_12_0 o0)) h) plX12_336 rfl rfl rfl rfl (Nat.le_of_ble_eq_true rfl) (by decide) (fun t18 M17 h => ?_)
    obtain ⟨q19, h⟩ := h
    refine pj_if_ne 84 81 rfl (by decide) rfl q19  (fun hc => ?_) (fun hc => ?_)
    · replace h := h.1 hc
      refine pj_iconst 85 rfl rfl ?_
      refine pj_istore 87 (ls' := [(0, .ref r0), (1, .int (pj_I x1)), (2, .int (pj_I x2)), (3, .int (pj_I x3)), (4, .int (pj_I x4)), (5, .int (pj_I x5)), (6, .int (pj_I 0))]) rfl (by decide) rfl rfl ?_
      refine pn_sub [0, 1, 2, 3, 4, 5, 6] rfl ?_
      exact s_X12_sentences_87 hg o0  hk55 h
    · replace h := h.2 (Classical.not_not.mp hc)
      refine pj_goto 119 rfl (by decide) ?_
      refine pj_iinc 122 5 (ls' := [(0, .ref r0), (1, .int (pj_I x1)), (2, .int (pj_I x2)), (3, .int (pj_I x3)), (4, .int (pj_I x4)), (5, .int (pj_I (x5 + 1)))]) rfl rfl (by decide) rfl rfl ?_
      refine pj_goto 55 rfl (by decide) ?_
      refine pn_sub [0, 1, 2, 3, 4, 5] rfl ?_
      exact hk55 _ _ _ h
set_option maxRecDepth 20000 in
set_option maxHeartbeats 4000000 in
theorem s_X12_sentences_55 {l : Launch} {g : pj_G} (hg : pj_ph g = true) {r0 : Nat} {x1 : Int} {x2 : Int} {x3 : Int} {x4 : Int} {x5 : Int} {M : pj_M} {Q : Int → pj_M → Prop}  (o0 : pj_ob r0 12)  (h : w_X12_sentences_55 r0 x1 x2 x3  Q x4 x5 M) : pj_R l g mdX12_sentences pj_T (pj_Zm g mdX12_sentences (pj_qi Q)) pj_NK 0 0 55 [(0, .ref r0), (1, .int (pj_I x1)), (2, .int (pj_I x2)), (3, .int (pj_I x3)), (4, .int (pj_I x4)), (5, .int (pj_I x5))] [] M :=
  h (fun s => pj_R l g mdX12_sentences pj_T (pj_Zm g mdX12_sentences (pj_qi Q)) pj_NK 0 0 55 [(0, .ref r0), (1, .int (pj_I x1)), (2, .int (pj_I x2)), (3, .int (pj_I x3)), (4, .int (pj_I (s.1))), (5, .int (pj_I (s.2.1)))] [] s.2.2) (fun s hs => s_X12_sentences_55b hg o0  (fun _ _ _ q => q) hs)
set_option maxRecDepth 20000 in
set_option maxHeartbeats 4000000 in
theorem s_X12_sentences {l : Launch} {g : pj_G} (hg : pj_ph g = true) {r0 : Nat} {x1 : Int} {M : pj_M} {Q : Int → pj_M → Prop} (o0 : pj_ob r0 12) (h : w_X12_sentences r0 x1 M Q) : pj_S l g mdX12_sentences [.ref r0, .int (pj_I x1)] pj_NK M (pj_qi Q) := by
  refine pj_ofR (ls := [(0, .ref r0), (1, .int (pj_I x1))]) gcX12_sentences (by decide) rfl (Nat.le_of_ble_eq_true rfl) rfl ?_
  unfold w_X12_sentences at h
  refine pj_aload_n 1 0 rfl rfl rfl rfl ?_
  refine pj_iconst 2 rfl rfl ?_
  refine pn_puti 5 12 5 5 o0  rfl pfX12_88 rfl rfl rfl (fun M1 hM1 => ?_)
  replace h := h M1 hM1
  refine pj_iload_n 6 1 rfl rfl rfl rfl ?_
  refine pj_iconst 7 rfl rfl ?_
  refine pj_iconst 8 rfl rfl ?_
  refine pn_callSi 11 [.int (pj_I x1), .int (pj_I 0), .int (pj_I 5)] [] (s_X12_in hg  h) plX12_98 rfl rfl rfl rfl (Nat.le_of_ble_eq_true rfl) (by decide) (fun t3 M2 h => ?_)
  obtain ⟨q4, h⟩ := h
  refine pj_if_ne 16 14 rfl (by decide) rfl q4  (fun hc => ?_) (fun hc => ?_)
  · replace h := h.1 hc
    refine pj_aload_n 17 0 rfl rfl rfl rfl ?_
    refine pj_aload_n 18 0 rfl rfl rfl rfl ?_
    refine pn_getr 21 12 0 hg o0 (pr_12_0 o0).2 rfl pfX12_9 rfl rfl ?_
    refine pn_callVi 24 12 [.ref (pj_rf r0 0)] [] o0 (s_X12_signsNow hg o0 (pj_oa_of (pr_12_0 o0)) h) plX12_327 rfl rfl rfl rfl (Nat.le_of_ble_eq_true rfl) (by decide) (fun t6 M5 h => ?_)
    refine pj_istore_n 25 (ls' := [(0, .ref r0), (1, .int (pj_I x1)), (2, .int (pj_I t6))]) rfl rfl (by decide) rfl rfl ?_
    refine pj_iload_n 26 2 rfl rfl rfl rfl ?_
    refine pn_callSi 29 [.int (pj_I t6)] [] (s_Jbits hg  h) plX12_255 rfl rfl rfl rfl (Nat.le_of_ble_eq_true rfl) (by decide) (fun t8 M7 h => ?_)
    refine pj_iload_n 30 1 rfl rfl rfl rfl ?_
    refine pn_callSi 33 [.int (pj_I t8), .int (pj_I x1)] [] (s_X12_power hg  h) plX12_330 rfl rfl rfl rfl (Nat.le_of_ble_eq_true rfl) (by decide) (fun t10 M9 h => ?_)
    refine pj_istore_n 34 (ls' := [(0, .ref r0), (1, .int (pj_I x1)), (2, .int (pj_I t6)), (3, .int (pj_I t10))]) rfl rfl (by decide) rfl rfl ?_
    refine pj_iload_n 35 3 rfl rfl rfl rfl ?_
    refine pj_sipush 38 rfl (by decide) rfl ?_
    obtain ⟨q11, h⟩ := h
    refine pj_icmp_le 44 41 rfl (by decide) rfl q11 (show pj_in 1000 by decide) (fun hc => ?_) (fun hc => ?_)
    · replace h := h.1 hc
      refine pj_iconst 45 rfl rfl ?_
      refine pj_istore 47 (ls' := [(0, .ref r0), (1, .int (pj_I x1)), (2, .int (pj_I t6)), (3, .int (pj_I t10)), (4, .int (pj_I 0))]) rfl (by decide) rfl rfl ?_
      refine pj_aload_n 48 0 rfl rfl rfl rfl ?_
      refine pj_iconst 49 rfl rfl ?_
      refine pn_puti 52 12 4 4 o0  rfl pfX12_92 rfl rfl rfl (fun M12 hM12 => ?_)
      replace h := h M12 hM12
      refine pj_iconst 53 rfl rfl ?_
      refine pj_istore 55 (ls' := [(0, .ref r0), (1, .int (pj_I x1)), (2, .int (pj_I t6)), (3, .int (pj_I t10)), (4, .int (pj_I 0)), (5, .int (pj_I 0))]) rfl (by decide) rfl rfl ?_
      refine pn_sub [0, 1, 2, 3, 4, 5] rfl ?_
      exact s_X12_sentences_55 hg o0   h
    · replace h := h.2 hc
      refine pj_bipush 43 rfl (by decide) rfl ?_
      exact pn_iret h rfl rfl
  · replace h := h.2 (Classical.not_not.mp hc)
    refine pj_iconst 15 rfl rfl ?_
    exact pn_iret h rfl rfl
def w_X12_apart_216 (x4 : Int) (u0 : Nat) (y1 : Int)  (Q : Int → pj_M → Prop) (M : pj_M) : Prop :=
  w_X12_tell u0 y1 M (fun (M41 : pj_M) => Q x4 M41)
def w_X12_apart_180b (r0 : Nat) (x4 : Int) (x7 : Int)  (Q : Int → pj_M → Prop) (k180 : Int → pj_M → Prop) (x8 : Int) (M : pj_M) : Prop :=
  (pj_in x8) ∧ (pj_in x4) ∧ ((x4 ≤ x8 → (pj_in x7) ∧ ((x7 = 0 → w_X12_apart_216 x4 r0 0  Q M) ∧ (¬ x7 = 0 → w_X12_apart_216 x4 r0 1  Q M))) ∧ (¬ x4 ≤ x8 → ((0 : Int) ≤ x8 ∧ x8 < 80) ∧ (pj_in (M (pj_rf r0 10) x8)) ∧ w_X12_tell r0 (M (pj_rf r0 10) x8) M (fun (M45 : pj_M) => k180 (x8 + 1) M45)))
def w_X12_apart_180 (r0 : Nat) (x4 : Int) (x7 : Int)  (Q : Int → pj_M → Prop) (x8 : Int) (M : pj_M) : Prop := pj_lp (fun (k : Int × pj_M → Prop) (s : Int × pj_M) => w_X12_apart_180b r0 x4 x7  Q (fun (x8 : Int) (M : pj_M) => k (x8, M)) s.1 s.2) (x8, M)
def w_X12_apart_126b (r0 : Nat) (x2 : Int) (x3 : Int) (x4 : Int) (x5 : Int) (k106 : Int → pj_M → Prop) (Q : Int → pj_M → Prop) (k126 : Int → pj_M → Prop) (x6 : Int) (M : pj_M) : Prop :=
  (pj_in x6) ∧ (pj_in x5) ∧ ((x5 ≤ x6 → k106 (x4 + 1) M) ∧ (¬ x5 ≤ x6 → w_X12_layRow r0 x6 x4 x3 M (fun (M29 : pj_M) => w_X12_isOf r0 (pj_rf r0 0) x4 M29 (fun (t32 : Int) (M31 : pj_M) => w_X12_isOf r0 (pj_rf r0 32) x4 M31 (fun (t34 : Int) (M33 : pj_M) => (pj_in t32) ∧ (pj_in t34) ∧ ((¬ t32 = t34 → ∀ M37 : pj_M, M37 = pj_up M33 r0 4 0 → w_X12_apart_180 r0 x4 t32  Q 0 M37) ∧ (t32 = t34 → k126 (x6 + 1) M33)))))))
def w_X12_apart_126 (r0 : Nat) (x2 : Int) (x3 : Int) (x4 : Int) (x5 : Int) (k106 : Int → pj_M → Prop) (Q : Int → pj_M → Prop) (x6 : Int) (M : pj_M) : Prop := pj_lp (fun (k : Int × pj_M → Prop) (s : Int × pj_M) => w_X12_apart_126b r0 x2 x3 x4 x5 k106 Q (fun (x6 : Int) (M : pj_M) => k (x6, M)) s.1 s.2) (x6, M)
def w_X12_apart_106b (r0 : Nat) (x2 : Int) (x3 : Int)  (Q : Int → pj_M → Prop) (k106 : Int → pj_M → Prop) (x4 : Int) (M : pj_M) : Prop :=
  (pj_in x4) ∧ (pj_in x2) ∧ ((x2 < x4 → Q (-2) M) ∧ (¬ x2 < x4 → w_Jbits x3 M (fun (t24 : Int) (M23 : pj_M) => w_X12_power t24 x4 M23 (fun (t26 : Int) (M25 : pj_M) => w_X12_apart_126 r0 x2 x3 x4 t26 k106 Q 0 M25))))
def w_X12_apart_106 (r0 : Nat) (x2 : Int) (x3 : Int)  (Q : Int → pj_M → Prop) (x4 : Int) (M : pj_M) : Prop := pj_lp (fun (k : Int × pj_M → Prop) (s : Int × pj_M) => w_X12_apart_106b r0 x2 x3  Q (fun (x4 : Int) (M : pj_M) => k (x4, M)) s.1 s.2) (x4, M)
def w_X12_apart_39b (r0 : Nat) (x1 : Int) (x2 : Int)  (Q : Int → pj_M → Prop) (k39 : Int → pj_M → Prop) (x3 : Int) (M : pj_M) : Prop :=
  (pj_in x3) ∧ ((95 ≤ x3 → w_X12_signsNow r0 (pj_rf r0 0) M (fun (t12 : Int) (M11 : pj_M) => w_X12_signsNow r0 (pj_rf r0 32) M11 (fun (t14 : Int) (M13 : pj_M) => ∀ z15 : Int, z15 = (pj_or t12 t14) → w_Jbits z15 M13 (fun (t17 : Int) (M16 : pj_M) => w_X12_power t17 x2 M16 (fun (t19 : Int) (M18 : pj_M) => (pj_in t19) ∧ ((t19 ≤ 1000 → w_X12_apart_106 r0 x2 z15  Q 0 M18) ∧ (¬ t19 ≤ 1000 → Q (-4) M18))))))) ∧ (¬ 95 ≤ x3 → ((0 : Int) ≤ ((95 * x1) + x3) ∧ ((95 * x1) + x3) < 190) ∧ ((0 : Int) ≤ x3 ∧ x3 < 95) ∧ ∀ M49 : pj_M, M49 = pj_up M (pj_rf r0 32) x3 (M (pj_rf r0 30) ((95 * x1) + x3)) → k39 (x3 + 1) M49))
def w_X12_apart_39 (r0 : Nat) (x1 : Int) (x2 : Int)  (Q : Int → pj_M → Prop) (x3 : Int) (M : pj_M) : Prop := pj_lp (fun (k : Int × pj_M → Prop) (s : Int × pj_M) => w_X12_apart_39b r0 x1 x2  Q (fun (x3 : Int) (M : pj_M) => k (x3, M)) s.1 s.2) (x3, M)
def w_X12_apart (r0 : Nat) (x1 : Int) (x2 : Int) (M : pj_M) (Q : Int → pj_M → Prop) : Prop :=
  ∀ M1 : pj_M, M1 = pj_up M r0 5 0 → w_X12_in x1 0 1 M1 (fun (t3 : Int) (M2 : pj_M) => (pj_in t3) ∧ ((t3 = 0 → Q (-1) M2) ∧ (¬ t3 = 0 → w_X12_in x2 0 5 M2 (fun (t6 : Int) (M5 : pj_M) => (pj_in t6) ∧ ((¬ t6 = 0 → ((0 : Int) ≤ x1 ∧ x1 < 2) ∧ (pj_in (M5 (pj_rf r0 31) x1)) ∧ ((¬ (M5 (pj_rf r0 31) x1) = 0 → w_X12_apart_39 r0 x1 x2  Q 0 M5) ∧ ((M5 (pj_rf r0 31) x1) = 0 → Q (-3) M5))) ∧ (t6 = 0 → Q (-1) M5))))))
set_option maxRecDepth 20000 in
set_option maxHeartbeats 4000000 in
theorem s_X12_apart_216 {l : Launch} {g : pj_G} (hg : pj_ph g = true) {x4 : Int} {u0 : Nat} {y1 : Int} {M : pj_M} {Q : Int → pj_M → Prop}  (ou0 : pj_ob u0 12)  (h : w_X12_apart_216 x4 u0 y1  Q M) : pj_R l g mdX12_apart pj_T (pj_Zm g mdX12_apart (pj_qi Q)) pj_NK 0 0 216 [(4, .int (pj_I x4))] [.long (pj_L y1), .ref u0] M := by
  unfold w_X12_apart_216 at h
  refine pn_callVv 219 12 [.long (pj_L y1)] [] ou0 (s_X12_tell hg ou0 h) plX12_260 rfl rfl rfl rfl (Nat.le_of_ble_eq_true rfl) (by decide) (fun M41 h => ?_)
  refine pj_iload 221 0 rfl rfl rfl ?_
  exact pn_iret h rfl rfl
set_option maxRecDepth 20000 in
set_option maxHeartbeats 4000000 in
theorem s_X12_apart_180b {l : Launch} {g : pj_G} (hg : pj_ph g = true) {r0 : Nat} {x4 : Int} {x7 : Int} {x8 : Int} {M : pj_M} {Q : Int → pj_M → Prop}  {k180 : Int → pj_M → Prop} (o0 : pj_ob r0 12)  (hk180 : ∀ (x8 : Int) (M : pj_M), k180 x8 M → pj_R l g mdX12_apart pj_T (pj_Zm g mdX12_apart (pj_qi Q)) pj_NK 0 0 180 [(0, .ref r0), (4, .int (pj_I x4)), (7, .int (pj_I x7)), (8, .int (pj_I x8))] [] M) (h : w_X12_apart_180b r0 x4 x7  Q k180 x8 M) : pj_R l g mdX12_apart pj_T (pj_Zm g mdX12_apart (pj_qi Q)) pj_NK 0 0 180 [(0, .ref r0), (4, .int (pj_I x4)), (7, .int (pj_I x7)), (8, .int (pj_I x8))] [] M := by
  unfold w_X12_apart_180b at h
  refine pj_iload 182 3 rfl rfl rfl ?_
  refine pj_iload 184 1 rfl rfl rfl ?_
  obtain ⟨q38, h⟩ := h
  obtain ⟨q39, h⟩ := h
  refine pj_icmp_ge 205 187 rfl (by decide) rfl q38 q39 (fun hc => ?_) (fun hc => ?_)
  · replace h := h.1 hc
    refine pj_aload_n 206 0 rfl rfl rfl rfl ?_
    refine pj_iload 208 2 rfl rfl rfl ?_
    obtain ⟨q40, h⟩ := h
    refine pj_if_eq 215 211 rfl (by decide) rfl q40  (fun hc => ?_) (fun hc => ?_)
    · replace h := h.1 hc
      refine pj_lconst 216 0 rfl (by decide) rfl ?_
      refine pn_sub [1] rfl ?_
      exact s_X12_apart_216 hg  o0  h
    · replace h := h.2 hc
      refine pj_lconst 212 1 rfl (by decide) rfl ?_
      refine pj_goto 216 rfl (by decide) ?_
      refine pn_sub [1] rfl ?_
      exact s_X12_apart_216 hg  o0  h
  · replace h := h.2 hc
    refine pj_aload_n 188 0 rfl rfl rfl rfl ?_
    refine pj_aload_n 189 0 rfl rfl rfl rfl ?_
    refine pn_getr 192 12 10 hg o0 (pr_12_10 o0).2 rfl pfX12_24 rfl rfl ?_
    refine pj_iload 194 3 rfl rfl rfl ?_
    obtain ⟨q43, h⟩ := h
    refine pn_iald 195 80 (pr_12_10 o0) q43 rfl rfl ?_
    obtain ⟨q44, h⟩ := h
    refine pj_i2l 196 rfl rfl q44 ?_
    refine pn_callVv 199 12 [.long (pj_L (M (pj_rf r0 10) x8))] [] o0 (s_X12_tell hg o0 h) plX12_260 rfl rfl rfl rfl (Nat.le_of_ble_eq_true rfl) (by decide) (fun M45 h => ?_)
    refine pj_iinc 202 3 (ls' := [(0, .ref r0), (4, .int (pj_I x4)), (7, .int (pj_I x7)), (8, .int (pj_I (x8 + 1)))]) rfl rfl (by decide) rfl rfl ?_
    refine pj_goto 180 rfl (by decide) ?_
    refine pn_sub [0, 1, 2, 3] rfl ?_
    exact hk180 _ _ h
set_option maxRecDepth 20000 in
set_option maxHeartbeats 4000000 in
theorem s_X12_apart_180 {l : Launch} {g : pj_G} (hg : pj_ph g = true) {r0 : Nat} {x4 : Int} {x7 : Int} {x8 : Int} {M : pj_M} {Q : Int → pj_M → Prop}  (o0 : pj_ob r0 12)  (h : w_X12_apart_180 r0 x4 x7  Q x8 M) : pj_R l g mdX12_apart pj_T (pj_Zm g mdX12_apart (pj_qi Q)) pj_NK 0 0 180 [(0, .ref r0), (4, .int (pj_I x4)), (7, .int (pj_I x7)), (8, .int (pj_I x8))] [] M :=
  h (fun s => pj_R l g mdX12_apart pj_T (pj_Zm g mdX12_apart (pj_qi Q)) pj_NK 0 0 180 [(0, .ref r0), (4, .int (pj_I x4)), (7, .int (pj_I x7)), (8, .int (pj_I (s.1)))] [] s.2) (fun s hs => s_X12_apart_180b hg o0  (fun _ _ q => q) hs)
set_option maxRecDepth 20000 in
set_option maxHeartbeats 4000000 in
theorem s_X12_apart_126b {l : Launch} {g : pj_G} (hg : pj_ph g = true) {r0 : Nat} {x2 : Int} {x3 : Int} {x4 : Int} {x5 : Int} {x6 : Int} {M : pj_M} {Q : Int → pj_M → Prop} {k106 : Int → pj_M → Prop} {k126 : Int → pj_M → Prop} (o0 : pj_ob r0 12) (hk106 : ∀ (x4 : Int) (M : pj_M), k106 x4 M → pj_R l g mdX12_apart pj_T (pj_Zm g mdX12_apart (pj_qi Q)) pj_NK 0 0 106 [(0, .ref r0), (2, .int (pj_I x2)), (3, .int (pj_I x3)), (4, .int (pj_I x4))] [] M) (hk126 : ∀ (x6 : Int) (M : pj_M), k126 x6 M → pj_R l g mdX12_apart pj_T (pj_Zm g mdX12_apart (pj_qi Q)) pj_NK 0 0 126 [(0, .ref r0), (2, .int (pj_I x2)), (3, .int (pj_I x3)), (4, .int (pj_I x4)), (5, .int (pj_I x5)), (6, .int (pj_I x6))] [] M) (h : w_X12_apart_126b r0 x2 x3 x4 x5 k106 Q k126 x6 M) : pj_R l g mdX12_apart pj_T (pj_Zm g mdX12_apart (pj_qi Q)) pj_NK 0 0 126 [(0, .ref r0), (2, .int (pj_I x2)), (3, .int (pj_I x3)), (4, .int (pj_I x4)), (5, .int (pj_I x5)), (6, .int (pj_I x6))] [] M := by
  unfold w_X12_apart_126b at h
  refine pj_iload 128 5 rfl rfl rfl ?_
  refine pj_iload 130 4 rfl rfl rfl ?_
  obtain ⟨q27, h⟩ := h
  obtain ⟨q28, h⟩ := h
  refine pj_icmp_ge 228 133 rfl (by decide) rfl q27 q28 (fun hc => ?_) (fun hc => ?_)
  · replace h := h.1 hc
    refine pj_iinc 231 3 (ls' := [(0, .ref r0), (2, .int (pj_I x2)), (3, .int (pj_I x3)), (4, .int (pj_I (x4 + 1))), (5, .int (pj_I x5)), (6, .int (pj_I x6))]) rfl rfl (by decide) rfl rfl ?_
    refine pj_goto 106 rfl (by decide) ?_
    refine pn_sub [0, 1, 2, 3] rfl ?_
    exact hk106 _ _ h
  · replace h := h.2 hc
    refine pj_aload_n 134 0 rfl rfl rfl rfl ?_
    refine pj_iload 136 5 rfl rfl rfl ?_
    refine pj_iload 138 3 rfl rfl rfl ?_
    refine pj_iload_n 139 2 rfl rfl rfl rfl ?_
    refine pn_callVv 142 12 [.int (pj_I x6), .int (pj_I x4), .int (pj_I x3)] [] o0 (s_X12_layRow hg o0 h) plX12_333 rfl rfl rfl rfl (Nat.le_of_ble_eq_true rfl) (by decide) (fun M29 h => ?_)
    refine pj_aload_n 143 0 rfl rfl rfl rfl ?_
    refine pj_aload_n 144 0 rfl rfl rfl rfl ?_
    refine pn_getr 147 12 0 hg o0 (pr_12_0 o0).2 rfl pfX12_9 rfl rfl ?_
    refine pj_iload 149 3 rfl rfl rfl ?_
    refine pn_callVi 152 12 [.ref (pj_rf r0 0), .int (pj_I x4)] [] o0 (s_X12_isOf hg o0 (pj_oa_of (pr_12_0 o0)) h) plX12_336 rfl rfl rfl rfl (Nat.le_of_ble_eq_true rfl) (by decide) (fun t32 M31 h => ?_)
    refine pj_istore 154 (ls' := [(0, .ref r0), (2, .int (pj_I x2)), (3, .int (pj_I x3)), (4, .int (pj_I x4)), (5, .int (pj_I x5)), (6, .int (pj_I x6)), (7, .int (pj_I t32))]) rfl (by decide) rfl rfl ?_
    refine pj_iload 156 6 rfl rfl rfl ?_
    refine pj_aload_n 157 0 rfl rfl rfl rfl ?_
    refine pj_aload_n 158 0 rfl rfl rfl rfl ?_
    refine pn_getr 161 12 32 hg o0 (pr_12_32 o0).2 rfl pfX12_76 rfl rfl ?_
    refine pj_iload 163 3 rfl rfl rfl ?_
    refine pn_callVi 166 12 [.ref (pj_rf r0 32), .int (pj_I x4)] [.int (pj_I t32)] o0 (s_X12_isOf hg o0 (pj_oa_of (pr_12_32 o0)) h) plX12_336 rfl rfl rfl rfl (Nat.le_of_ble_eq_true rfl) (by decide) (fun t34 M33 h => ?_)
    obtain ⟨q35, h⟩ := h
    obtain ⟨q36, h⟩ := h
    refine pj_icmp_ne 172 169 rfl (by decide) rfl q35 q36 (fun hc => ?_) (fun hc => ?_)
    · replace h := h.1 hc
      refine pj_aload_n 173 0 rfl rfl rfl rfl ?_
      refine pj_iconst 174 rfl rfl ?_
      refine pn_puti 177 12 4 4 o0  rfl pfX12_92 rfl rfl rfl (fun M37 hM37 => ?_)
      replace h := h M37 hM37
      refine pj_iconst 178 rfl rfl ?_
      refine pj_istore 180 (ls' := [(0, .ref r0), (2, .int (pj_I x2)), (3, .int (pj_I x3)), (4, .int (pj_I x4)), (5, .int (pj_I x5)), (6, .int (pj_I x6)), (7, .int (pj_I t32)), (8, .int (pj_I 0))]) rfl (by decide) rfl rfl ?_
      refine pn_sub [0, 3, 6, 7] rfl ?_
      exact s_X12_apart_180 hg o0   h
    · replace h := h.2 (Classical.not_not.mp hc)
      refine pj_goto 222 rfl (by decide) ?_
      refine pj_iinc 225 5 (ls' := [(0, .ref r0), (2, .int (pj_I x2)), (3, .int (pj_I x3)), (4, .int (pj_I x4)), (5, .int (pj_I x5)), (6, .int (pj_I (x6 + 1))), (7, .int (pj_I t32))]) rfl rfl (by decide) rfl rfl ?_
      refine pj_goto 126 rfl (by decide) ?_
      refine pn_sub [0, 1, 2, 3, 4, 5] rfl ?_
      exact hk126 _ _ h
set_option maxRecDepth 20000 in
set_option maxHeartbeats 4000000 in
theorem s_X12_apart_126 {l : Launch} {g : pj_G} (hg : pj_ph g = true) {r0 : Nat} {x2 : Int} {x3 : Int} {x4 : Int} {x5 : Int} {x6 : Int} {M : pj_M} {Q : Int → pj_M → Prop} {k106 : Int → pj_M → Prop} (o0 : pj_ob r0 12) (hk106 : ∀ (x4 : Int) (M : pj_M), k106 x4 M → pj_R l g mdX12_apart pj_T (pj_Zm g mdX12_apart (pj_qi Q)) pj_NK 0 0 106 [(0, .ref r0), (2, .int (pj_I x2)), (3, .int (pj_I x3)), (4, .int (pj_I x4))] [] M) (h : w_X12_apart_126 r0 x2 x3 x4 x5 k106 Q x6 M) : pj_R l g mdX12_apart pj_T (pj_Zm g mdX12_apart (pj_qi Q)) pj_NK 0 0 126 [(0, .ref r0), (2, .int (pj_I x2)), (3, .int (pj_I x3)), (4, .int (pj_I x4)), (5, .int (pj_I x5)), (6, .int (pj_I x6))] [] M :=
  h (fun s => pj_R l g mdX12_apart pj_T (pj_Zm g mdX12_apart (pj_qi Q)) pj_NK 0 0 126 [(0, .ref r0), (2, .int (pj_I x2)), (3, .int (pj_I x3)), (4, .int (pj_I x4)), (5, .int (pj_I x5)), (6, .int (pj_I (s.1)))] [] s.2) (fun s hs => s_X12_apart_126b hg o0 hk106 (fun _ _ q => q) hs)
set_option maxRecDepth 20000 in
set_option maxHeartbeats 4000000 in
theorem s_X12_apart_106b {l : Launch} {g : pj_G} (hg : pj_ph g = true) {r0 : Nat} {x2 : Int} {x3 : Int} {x4 : Int} {M : pj_M} {Q : Int → pj_M → Prop}  {k106 : Int → pj_M → Prop} (o0 : pj_ob r0 12)  (hk106 : ∀ (x4 : Int) (M : pj_M), k106 x4 M → pj_R l g mdX12_apart pj_T (pj_Zm g mdX12_apart (pj_qi Q)) pj_NK 0 0 106 [(0, .ref r0), (2, .int (pj_I x2)), (3, .int (pj_I x3)), (4, .int (pj_I x4))] [] M) (h : w_X12_apart_106b r0 x2 x3  Q k106 x4 M) : pj_R l g mdX12_apart pj_T (pj_Zm g mdX12_apart (pj_qi Q)) pj_NK 0 0 106 [(0, .ref r0), (2, .int (pj_I x2)), (3, .int (pj_I x3)), (4, .int (pj_I x4))] [] M := by
  unfold w_X12_apart_106b at h
  refine pj_iload 108 3 rfl rfl rfl ?_
  refine pj_iload_n 109 1 rfl rfl rfl rfl ?_
  obtain ⟨q21, h⟩ := h
  obtain ⟨q22, h⟩ := h
  refine pj_icmp_gt 234 112 rfl (by decide) rfl q21 q22 (fun hc => ?_) (fun hc => ?_)
  · replace h := h.1 hc
    refine pj_bipush 236 rfl (by decide) rfl ?_
    exact pn_iret h rfl rfl
  · replace h := h.2 hc
    refine pj_iload_n 113 2 rfl rfl rfl rfl ?_
    refine pn_callSi 116 [.int (pj_I x3)] [] (s_Jbits hg  h) plX12_255 rfl rfl rfl rfl (Nat.le_of_ble_eq_true rfl) (by decide) (fun t24 M23 h => ?_)
    refine pj_iload 118 3 rfl rfl rfl ?_
    refine pn_callSi 121 [.int (pj_I t24), .int (pj_I x4)] [] (s_X12_power hg  h) plX12_330 rfl rfl rfl rfl (Nat.le_of_ble_eq_true rfl) (by decide) (fun t26 M25 h => ?_)
    refine pj_istore 123 (ls' := [(0, .ref r0), (2, .int (pj_I x2)), (3, .int (pj_I x3)), (4, .int (pj_I x4)), (5, .int (pj_I t26))]) rfl (by decide) rfl rfl ?_
    refine pj_iconst 124 rfl rfl ?_
    refine pj_istore 126 (ls' := [(0, .ref r0), (2, .int (pj_I x2)), (3, .int (pj_I x3)), (4, .int (pj_I x4)), (5, .int (pj_I t26)), (6, .int (pj_I 0))]) rfl (by decide) rfl rfl ?_
    refine pn_sub [0, 1, 2, 3, 4, 5] rfl ?_
    exact s_X12_apart_126 hg o0  hk106 h
set_option maxRecDepth 20000 in
set_option maxHeartbeats 4000000 in
theorem s_X12_apart_106 {l : Launch} {g : pj_G} (hg : pj_ph g = true) {r0 : Nat} {x2 : Int} {x3 : Int} {x4 : Int} {M : pj_M} {Q : Int → pj_M → Prop}  (o0 : pj_ob r0 12)  (h : w_X12_apart_106 r0 x2 x3  Q x4 M) : pj_R l g mdX12_apart pj_T (pj_Zm g mdX12_apart (pj_qi Q)) pj_NK 0 0 106 [(0, .ref r0), (2, .int (pj_I x2)), (3, .int (pj_I x3)), (4, .int (pj_I x4))] [] M :=
  h (fun s => pj_R l g mdX12_apart pj_T (pj_Zm g mdX12_apart (pj_qi Q)) pj_NK 0 0 106 [(0, .ref r0), (2, .int (pj_I x2)), (3, .int (pj_I x3)), (4, .int (pj_I (s.1)))] [] s.2) (fun s hs => s_X12_apart_106b hg o0  (fun _ _ q => q) hs)
set_option maxRecDepth 20000 in
set_option maxHeartbeats 4000000 in
theorem s_X12_apart_39b {l : Launch} {g : pj_G} (hg : pj_ph g = true) {r0 : Nat} {x1 : Int} {x2 : Int} {x3 : Int} {M : pj_M} {Q : Int → pj_M → Prop}  {k39 : Int → pj_M → Prop} (o0 : pj_ob r0 12)  (hk39 : ∀ (x3 : Int) (M : pj_M), k39 x3 M → pj_R l g mdX12_apart pj_T (pj_Zm g mdX12_apart (pj_qi Q)) pj_NK 0 0 39 [(0, .ref r0), (1, .int (pj_I x1)), (2, .int (pj_I x2)), (3, .int (pj_I x3))] [] M) (h : w_X12_apart_39b r0 x1 x2  Q k39 x3 M) : pj_R l g mdX12_apart pj_T (pj_Zm g mdX12_apart (pj_qi Q)) pj_NK 0 0 39 [(0, .ref r0), (1, .int (pj_I x1)), (2, .int (pj_I x2)), (3, .int (pj_I x3))] [] M := by
  unfold w_X12_apart_39b at h
  refine pj_iload_n 40 3 rfl rfl rfl rfl ?_
  refine pj_bipush 42 rfl (by decide) rfl ?_
  obtain ⟨q10, h⟩ := h
  refine pj_icmp_ge 68 45 rfl (by decide) rfl q10 (show pj_in 95 by decide) (fun hc => ?_) (fun hc => ?_)
  · replace h := h.1 hc
    refine pj_aload_n 69 0 rfl rfl rfl rfl ?_
    refine pj_aload_n 70 0 rfl rfl rfl rfl ?_
    refine pn_getr 73 12 0 hg o0 (pr_12_0 o0).2 rfl pfX12_9 rfl rfl ?_
    refine pn_callVi 76 12 [.ref (pj_rf r0 0)] [] o0 (s_X12_signsNow hg o0 (pj_oa_of (pr_12_0 o0)) h) plX12_327 rfl rfl rfl rfl (Nat.le_of_ble_eq_true rfl) (by decide) (fun t12 M11 h => ?_)
    refine pj_aload_n 77 0 rfl rfl rfl rfl ?_
    refine pj_aload_n 78 0 rfl rfl rfl rfl ?_
    refine pn_getr 81 12 32 hg o0 (pr_12_32 o0).2 rfl pfX12_76 rfl rfl ?_
    refine pn_callVi 84 12 [.ref (pj_rf r0 32)] [.int (pj_I t12)] o0 (s_X12_signsNow hg o0 (pj_oa_of (pr_12_32 o0)) h) plX12_327 rfl rfl rfl rfl (Nat.le_of_ble_eq_true rfl) (by decide) (fun t14 M13 h => ?_)
    refine pj_ior 85 rfl rfl ?_
    refine pn_nm (fun z15 hz15 => ?_)
    replace h := h z15 hz15
    refine pj_istore_n 86 (ls' := [(0, .ref r0), (1, .int (pj_I x1)), (2, .int (pj_I x2)), (3, .int (pj_I z15))]) rfl rfl (by decide) rfl rfl ?_
    refine pj_iload_n 87 3 rfl rfl rfl rfl ?_
    refine pn_callSi 90 [.int (pj_I z15)] [] (s_Jbits hg  h) plX12_255 rfl rfl rfl rfl (Nat.le_of_ble_eq_true rfl) (by decide) (fun t17 M16 h => ?_)
    refine pj_iload_n 91 2 rfl rfl rfl rfl ?_
    refine pn_callSi 94 [.int (pj_I t17), .int (pj_I x2)] [] (s_X12_power hg  h) plX12_330 rfl rfl rfl rfl (Nat.le_of_ble_eq_true rfl) (by decide) (fun t19 M18 h => ?_)
    refine pj_sipush 97 rfl (by decide) rfl ?_
    obtain ⟨q20, h⟩ := h
    refine pj_icmp_le 103 100 rfl (by decide) rfl q20 (show pj_in 1000 by decide) (fun hc => ?_) (fun hc => ?_)
    · replace h := h.1 hc
      refine pj_iconst 104 rfl rfl ?_
      refine pj_istore 106 (ls' := [(0, .ref r0), (1, .int (pj_I x1)), (2, .int (pj_I x2)), (3, .int (pj_I z15)), (4, .int (pj_I 0))]) rfl (by decide) rfl rfl ?_
      refine pn_sub [0, 2, 3, 4] rfl ?_
      exact s_X12_apart_106 hg o0   h
    · replace h := h.2 hc
      refine pj_bipush 102 rfl (by decide) rfl ?_
      exact pn_iret h rfl rfl
  · replace h := h.2 hc
    refine pj_aload_n 46 0 rfl rfl rfl rfl ?_
    refine pn_getr 49 12 32 hg o0 (pr_12_32 o0).2 rfl pfX12_76 rfl rfl ?_
    refine pj_iload_n 50 3 rfl rfl rfl rfl ?_
    refine pj_aload_n 51 0 rfl rfl rfl rfl ?_
    refine pn_getr 54 12 30 hg o0 (pr_12_30 o0).2 rfl pfX12_70 rfl rfl ?_
    refine pj_bipush 56 rfl (by decide) rfl ?_
    refine pj_iload_n 57 1 rfl rfl rfl rfl ?_
    refine pj_imul 58 rfl rfl ?_
    refine pj_iload_n 59 3 rfl rfl rfl rfl ?_
    refine pj_iadd 60 rfl rfl ?_
    obtain ⟨q47, h⟩ := h
    refine pn_iald 61 190 (pr_12_30 o0) q47 rfl rfl ?_
    obtain ⟨q48, h⟩ := h
    refine pn_iast 62 95 (pr_12_32 o0)  q48 rfl rfl (fun M49 hM49 => ?_)
    replace h := h M49 hM49
    refine pj_iinc 65 3 (ls' := [(0, .ref r0), (1, .int (pj_I x1)), (2, .int (pj_I x2)), (3, .int (pj_I (x3 + 1)))]) rfl rfl (by decide) rfl rfl ?_
    refine pj_goto 39 rfl (by decide) ?_
    refine pn_sub [0, 1, 2, 3] rfl ?_
    exact hk39 _ _ h
set_option maxRecDepth 20000 in
set_option maxHeartbeats 4000000 in
theorem s_X12_apart_39 {l : Launch} {g : pj_G} (hg : pj_ph g = true) {r0 : Nat} {x1 : Int} {x2 : Int} {x3 : Int} {M : pj_M} {Q : Int → pj_M → Prop}  (o0 : pj_ob r0 12)  (h : w_X12_apart_39 r0 x1 x2  Q x3 M) : pj_R l g mdX12_apart pj_T (pj_Zm g mdX12_apart (pj_qi Q)) pj_NK 0 0 39 [(0, .ref r0), (1, .int (pj_I x1)), (2, .int (pj_I x2)), (3, .int (pj_I x3))] [] M :=
  h (fun s => pj_R l g mdX12_apart pj_T (pj_Zm g mdX12_apart (pj_qi Q)) pj_NK 0 0 39 [(0, .ref r0), (1, .int (pj_I x1)), (2, .int (pj_I x2)), (3, .int (pj_I (s.1)))] [] s.2) (fun s hs => s_X12_apart_39b hg o0  (fun _ _ q => q) hs)
set_option maxRecDepth 20000 in
set_option maxHeartbeats 4000000 in
theorem s_X12_apart {l : Launch} {g : pj_G} (hg : pj_ph g = true) {r0 : Nat} {x1 : Int} {x2 : Int} {M : pj_M} {Q : Int → pj_M → Prop} (o0 : pj_ob r0 12) (h : w_X12_apart r0 x1 x2 M Q) : pj_S l g mdX12_apart [.ref r0, .int (pj_I x1), .int (pj_I x2)] pj_NK M (pj_qi Q) := by
  refine pj_ofR (ls := [(0, .ref r0), (1, .int (pj_I x1)), (2, .int (pj_I x2))]) gcX12_apart (by decide) rfl (Nat.le_of_ble_eq_true rfl) rfl ?_
  unfold w_X12_apart at h
  refine pj_aload_n 1 0 rfl rfl rfl rfl ?_
  refine pj_iconst 2 rfl rfl ?_
  refine pn_puti 5 12 5 5 o0  rfl pfX12_88 rfl rfl rfl (fun M1 hM1 => ?_)
  replace h := h M1 hM1
  refine pj_iload_n 6 1 rfl rfl rfl rfl ?_
  refine pj_iconst 7 rfl rfl ?_
  refine pj_iconst 8 rfl rfl ?_
  refine pn_callSi 11 [.int (pj_I x1), .int (pj_I 0), .int (pj_I 1)] [] (s_X12_in hg  h) plX12_98 rfl rfl rfl rfl (Nat.le_of_ble_eq_true rfl) (by decide) (fun t3 M2 h => ?_)
  obtain ⟨q4, h⟩ := h
  refine pj_if_eq 23 14 rfl (by decide) rfl q4  (fun hc => ?_) (fun hc => ?_)
  · replace h := h.1 hc
    refine pj_iconst 24 rfl rfl ?_
    exact pn_iret h rfl rfl
  · replace h := h.2 hc
    refine pj_iload_n 15 2 rfl rfl rfl rfl ?_
    refine pj_iconst 16 rfl rfl ?_
    refine pj_iconst 17 rfl rfl ?_
    refine pn_callSi 20 [.int (pj_I x2), .int (pj_I 0), .int (pj_I 5)] [] (s_X12_in hg  h) plX12_98 rfl rfl rfl rfl (Nat.le_of_ble_eq_true rfl) (by decide) (fun t6 M5 h => ?_)
    obtain ⟨q7, h⟩ := h
    refine pj_if_ne 25 23 rfl (by decide) rfl q7  (fun hc => ?_) (fun hc => ?_)
    · replace h := h.1 hc
      refine pj_aload_n 26 0 rfl rfl rfl rfl ?_
      refine pn_getr 29 12 31 hg o0 (pr_12_31 o0).2 rfl pfX12_73 rfl rfl ?_
      refine pj_iload_n 30 1 rfl rfl rfl rfl ?_
      obtain ⟨q8, h⟩ := h
      refine pn_bald 31 2 2 (pr_12_31 o0) (by decide) q8 rfl rfl ?_
      obtain ⟨q9, h⟩ := h
      refine pj_if_ne 37 34 rfl (by decide) rfl q9  (fun hc => ?_) (fun hc => ?_)
      · replace h := h.1 hc
        refine pj_iconst 38 rfl rfl ?_
        refine pj_istore_n 39 (ls' := [(0, .ref r0), (1, .int (pj_I x1)), (2, .int (pj_I x2)), (3, .int (pj_I 0))]) rfl rfl (by decide) rfl rfl ?_
        refine pn_sub [0, 1, 2, 3] rfl ?_
        exact s_X12_apart_39 hg o0   h
      · replace h := h.2 (Classical.not_not.mp hc)
        refine pj_bipush 36 rfl (by decide) rfl ?_
        exact pn_iret h rfl rfl
    · replace h := h.2 (Classical.not_not.mp hc)
      refine pj_iconst 24 rfl rfl ?_
      exact pn_iret h rfl rfl
def w_X12_refusesBecome (r0 : Nat) (x1 : Int) (x2 : Int) (M : pj_M) (Q : Int → pj_M → Prop) : Prop :=
  w_X12_in x1 1 (M (pj_rf r0 0) 73) M (fun (t2 : Int) (M1 : pj_M) => (pj_in t2) ∧ ((t2 = 0 → Q (-1) M1) ∧ (¬ t2 = 0 → w_X12_in x2 0 7 M1 (fun (t5 : Int) (M4 : pj_M) => (pj_in t5) ∧ ((¬ t5 = 0 → ((0 : Int) ≤ ((74 + x1) - 1) ∧ ((74 + x1) - 1) < 95) ∧ (pj_in (M4 (pj_rf r0 0) ((74 + x1) - 1))) ∧ (pj_in x2) ∧ ((¬ (M4 (pj_rf r0 0) ((74 + x1) - 1)) = x2 → Q 0 M4) ∧ ((M4 (pj_rf r0 0) ((74 + x1) - 1)) = x2 → Q (-2) M4))) ∧ (t5 = 0 → Q (-1) M4))))))
set_option maxRecDepth 20000 in
set_option maxHeartbeats 4000000 in
theorem s_X12_refusesBecome {l : Launch} {g : pj_G} (hg : pj_ph g = true) {r0 : Nat} {x1 : Int} {x2 : Int} {M : pj_M} {Q : Int → pj_M → Prop} (o0 : pj_ob r0 12) (h : w_X12_refusesBecome r0 x1 x2 M Q) : pj_S l g mdX12_refusesBecome [.ref r0, .int (pj_I x1), .int (pj_I x2)] pj_NK M (pj_qi Q) := by
  refine pj_ofR (ls := [(0, .ref r0), (1, .int (pj_I x1)), (2, .int (pj_I x2))]) gcX12_refusesBecome (by decide) rfl (Nat.le_of_ble_eq_true rfl) rfl ?_
  unfold w_X12_refusesBecome at h
  refine pj_iload_n 1 1 rfl rfl rfl rfl ?_
  refine pj_iconst 2 rfl rfl ?_
  refine pj_aload_n 3 0 rfl rfl rfl rfl ?_
  refine pn_getr 6 12 0 hg o0 (pr_12_0 o0).2 rfl pfX12_9 rfl rfl ?_
  refine pj_bipush 8 rfl (by decide) rfl ?_
  refine pn_iald 9 95 (pr_12_0 o0) (show 0 ≤ (73 : Int) ∧ (73 : Int) < ((95 : Nat) : Int) by decide) rfl rfl ?_
  refine pn_callSi 12 [.int (pj_I x1), .int (pj_I 1), .int (pj_I (M (pj_rf r0 0) 73))] [] (s_X12_in hg  h) plX12_98 rfl rfl rfl rfl (Nat.le_of_ble_eq_true rfl) (by decide) (fun t2 M1 h => ?_)
  obtain ⟨q3, h⟩ := h
  refine pj_if_eq 25 15 rfl (by decide) rfl q3  (fun hc => ?_) (fun hc => ?_)
  · replace h := h.1 hc
    refine pj_iconst 26 rfl rfl ?_
    exact pn_iret h rfl rfl
  · replace h := h.2 hc
    refine pj_iload_n 16 2 rfl rfl rfl rfl ?_
    refine pj_iconst 17 rfl rfl ?_
    refine pj_bipush 19 rfl (by decide) rfl ?_
    refine pn_callSi 22 [.int (pj_I x2), .int (pj_I 0), .int (pj_I 7)] [] (s_X12_in hg  h) plX12_98 rfl rfl rfl rfl (Nat.le_of_ble_eq_true rfl) (by decide) (fun t5 M4 h => ?_)
    obtain ⟨q6, h⟩ := h
    refine pj_if_ne 27 25 rfl (by decide) rfl q6  (fun hc => ?_) (fun hc => ?_)
    · replace h := h.1 hc
      refine pj_aload_n 28 0 rfl rfl rfl rfl ?_
      refine pn_getr 31 12 0 hg o0 (pr_12_0 o0).2 rfl pfX12_9 rfl rfl ?_
      refine pj_bipush 33 rfl (by decide) rfl ?_
      refine pj_iload_n 34 1 rfl rfl rfl rfl ?_
      refine pj_iadd 35 rfl rfl ?_
      refine pj_iconst 36 rfl rfl ?_
      refine pj_isub 37 rfl rfl ?_
      obtain ⟨q7, h⟩ := h
      refine pn_iald 38 95 (pr_12_0 o0) q7 rfl rfl ?_
      refine pj_iload_n 39 2 rfl rfl rfl rfl ?_
      obtain ⟨q8, h⟩ := h
      obtain ⟨q9, h⟩ := h
      refine pj_icmp_ne 47 42 rfl (by decide) rfl q8 q9 (fun hc => ?_) (fun hc => ?_)
      · replace h := h.1 hc
        refine pj_iconst 48 rfl rfl ?_
        exact pn_iret h rfl rfl
      · replace h := h.2 (Classical.not_not.mp hc)
        refine pj_bipush 44 rfl (by decide) rfl ?_
        refine pj_goto 48 rfl (by decide) ?_
        exact pn_iret h rfl rfl
    · replace h := h.2 (Classical.not_not.mp hc)
      refine pj_iconst 26 rfl rfl ?_
      exact pn_iret h rfl rfl
def w_X12_refusesCome (r0 : Nat) (x1 : Int) (x2 : Int) (M : pj_M) (Q : Int → pj_M → Prop) : Prop :=
  w_X12_in x1 1 ((M (pj_rf r0 0) 73) + 1) M (fun (t2 : Int) (M1 : pj_M) => (pj_in t2) ∧ ((t2 = 0 → Q (-1) M1) ∧ (¬ t2 = 0 → w_X12_in x2 0 7 M1 (fun (t5 : Int) (M4 : pj_M) => (pj_in t5) ∧ ((¬ t5 = 0 → (pj_in (M4 (pj_rf r0 0) 73)) ∧ ((¬ (M4 (pj_rf r0 0) 73) = 14 → Q 0 M4) ∧ ((M4 (pj_rf r0 0) 73) = 14 → Q (-3) M4))) ∧ (t5 = 0 → Q (-1) M4))))))
set_option maxRecDepth 20000 in
set_option maxHeartbeats 4000000 in
theorem s_X12_refusesCome {l : Launch} {g : pj_G} (hg : pj_ph g = true) {r0 : Nat} {x1 : Int} {x2 : Int} {M : pj_M} {Q : Int → pj_M → Prop} (o0 : pj_ob r0 12) (h : w_X12_refusesCome r0 x1 x2 M Q) : pj_S l g mdX12_refusesCome [.ref r0, .int (pj_I x1), .int (pj_I x2)] pj_NK M (pj_qi Q) := by
  refine pj_ofR (ls := [(0, .ref r0), (1, .int (pj_I x1)), (2, .int (pj_I x2))]) gcX12_refusesCome (by decide) rfl (Nat.le_of_ble_eq_true rfl) rfl ?_
  unfold w_X12_refusesCome at h
  refine pj_iload_n 1 1 rfl rfl rfl rfl ?_
  refine pj_iconst 2 rfl rfl ?_
  refine pj_aload_n 3 0 rfl rfl rfl rfl ?_
  refine pn_getr 6 12 0 hg o0 (pr_12_0 o0).2 rfl pfX12_9 rfl rfl ?_
  refine pj_bipush 8 rfl (by decide) rfl ?_
  refine pn_iald 9 95 (pr_12_0 o0) (show 0 ≤ (73 : Int) ∧ (73 : Int) < ((95 : Nat) : Int) by decide) rfl rfl ?_
  refine pj_iconst 10 rfl rfl ?_
  refine pj_iadd 11 rfl rfl ?_
  refine pn_callSi 14 [.int (pj_I x1), .int (pj_I 1), .int (pj_I ((M (pj_rf r0 0) 73) + 1))] [] (s_X12_in hg  h) plX12_98 rfl rfl rfl rfl (Nat.le_of_ble_eq_true rfl) (by decide) (fun t2 M1 h => ?_)
  obtain ⟨q3, h⟩ := h
  refine pj_if_eq 27 17 rfl (by decide) rfl q3  (fun hc => ?_) (fun hc => ?_)
  · replace h := h.1 hc
    refine pj_iconst 28 rfl rfl ?_
    exact pn_iret h rfl rfl
  · replace h := h.2 hc
    refine pj_iload_n 18 2 rfl rfl rfl rfl ?_
    refine pj_iconst 19 rfl rfl ?_
    refine pj_bipush 21 rfl (by decide) rfl ?_
    refine pn_callSi 24 [.int (pj_I x2), .int (pj_I 0), .int (pj_I 7)] [] (s_X12_in hg  h) plX12_98 rfl rfl rfl rfl (Nat.le_of_ble_eq_true rfl) (by decide) (fun t5 M4 h => ?_)
    obtain ⟨q6, h⟩ := h
    refine pj_if_ne 29 27 rfl (by decide) rfl q6  (fun hc => ?_) (fun hc => ?_)
    · replace h := h.1 hc
      refine pj_aload_n 30 0 rfl rfl rfl rfl ?_
      refine pn_getr 33 12 0 hg o0 (pr_12_0 o0).2 rfl pfX12_9 rfl rfl ?_
      refine pj_bipush 35 rfl (by decide) rfl ?_
      refine pn_iald 36 95 (pr_12_0 o0) (show 0 ≤ (73 : Int) ∧ (73 : Int) < ((95 : Nat) : Int) by decide) rfl rfl ?_
      refine pj_bipush 38 rfl (by decide) rfl ?_
      obtain ⟨q7, h⟩ := h
      refine pj_icmp_ne 46 41 rfl (by decide) rfl q7 (show pj_in 14 by decide) (fun hc => ?_) (fun hc => ?_)
      · replace h := h.1 hc
        refine pj_iconst 47 rfl rfl ?_
        exact pn_iret h rfl rfl
      · replace h := h.2 (Classical.not_not.mp hc)
        refine pj_bipush 43 rfl (by decide) rfl ?_
        refine pj_goto 47 rfl (by decide) ?_
        exact pn_iret h rfl rfl
    · replace h := h.2 (Classical.not_not.mp hc)
      refine pj_iconst 28 rfl rfl ?_
      exact pn_iret h rfl rfl
def w_X12_come_8b (r0 : Nat) (x1 : Int) (x2 : Int)  (Q : pj_M → Prop) (k8 : Int → pj_M → Prop) (x3 : Int) (M : pj_M) : Prop :=
  (pj_in x3) ∧ (pj_in x1) ∧ ((x3 < x1 → ((0 : Int) ≤ ((74 + x1) - 1) ∧ ((74 + x1) - 1) < 95) ∧ ∀ M5 : pj_M, M5 = pj_up M (pj_rf r0 0) ((74 + x1) - 1) x2 → ∀ M6 : pj_M, M6 = pj_up M5 (pj_rf r0 0) 73 ((M5 (pj_rf r0 0) 73) + 1) → Q M6) ∧ (¬ x3 < x1 → ((0 : Int) ≤ ((74 + x3) - 1) ∧ ((74 + x3) - 1) < 95) ∧ ((0 : Int) ≤ (74 + x3) ∧ (74 + x3) < 95) ∧ ∀ M9 : pj_M, M9 = pj_up M (pj_rf r0 0) (74 + x3) (M (pj_rf r0 0) ((74 + x3) - 1)) → k8 (x3 + (-1)) M9))
def w_X12_come_8 (r0 : Nat) (x1 : Int) (x2 : Int)  (Q : pj_M → Prop) (x3 : Int) (M : pj_M) : Prop := pj_lp (fun (k : Int × pj_M → Prop) (s : Int × pj_M) => w_X12_come_8b r0 x1 x2  Q (fun (x3 : Int) (M : pj_M) => k (x3, M)) s.1 s.2) (x3, M)
def w_X12_come (r0 : Nat) (x1 : Int) (x2 : Int) (M : pj_M) (Q : pj_M → Prop) : Prop :=
  ∀ z1 : Int, z1 = (M (pj_rf r0 0) 73) → w_X12_come_8 r0 x1 x2  Q z1 M
set_option maxRecDepth 20000 in
set_option maxHeartbeats 4000000 in
theorem s_X12_come_8b {l : Launch} {g : pj_G} (hg : pj_ph g = true) {r0 : Nat} {x1 : Int} {x2 : Int} {x3 : Int} {M : pj_M} {Q : pj_M → Prop}  {k8 : Int → pj_M → Prop} (o0 : pj_ob r0 12)  (hk8 : ∀ (x3 : Int) (M : pj_M), k8 x3 M → pj_R l g mdX12_come pj_T (pj_Zm g mdX12_come (pj_qv Q)) pj_NK 0 0 8 [(0, .ref r0), (1, .int (pj_I x1)), (2, .int (pj_I x2)), (3, .int (pj_I x3))] [] M) (h : w_X12_come_8b r0 x1 x2  Q k8 x3 M) : pj_R l g mdX12_come pj_T (pj_Zm g mdX12_come (pj_qv Q)) pj_NK 0 0 8 [(0, .ref r0), (1, .int (pj_I x1)), (2, .int (pj_I x2)), (3, .int (pj_I x3))] [] M := by
  unfold w_X12_come_8b at h
  refine pj_iload_n 9 3 rfl rfl rfl rfl ?_
  refine pj_iload_n 10 1 rfl rfl rfl rfl ?_
  obtain ⟨q2, h⟩ := h
  obtain ⟨q3, h⟩ := h
  refine pj_icmp_lt 39 13 rfl (by decide) rfl q2 q3 (fun hc => ?_) (fun hc => ?_)
  · replace h := h.1 hc
    refine pj_aload_n 40 0 rfl rfl rfl rfl ?_
    refine pn_getr 43 12 0 hg o0 (pr_12_0 o0).2 rfl pfX12_9 rfl rfl ?_
    refine pj_bipush 45 rfl (by decide) rfl ?_
    refine pj_iload_n 46 1 rfl rfl rfl rfl ?_
    refine pj_iadd 47 rfl rfl ?_
    refine pj_iconst 48 rfl rfl ?_
    refine pj_isub 49 rfl rfl ?_
    refine pj_iload_n 50 2 rfl rfl rfl rfl ?_
    obtain ⟨q4, h⟩ := h
    refine pn_iast 51 95 (pr_12_0 o0)  q4 rfl rfl (fun M5 hM5 => ?_)
    replace h := h M5 hM5
    refine pj_aload_n 52 0 rfl rfl rfl rfl ?_
    refine pn_getr 55 12 0 hg o0 (pr_12_0 o0).2 rfl pfX12_9 rfl rfl ?_
    refine pj_bipush 57 rfl (by decide) rfl ?_
    refine pj_dup2 58 rfl rfl rfl rfl ?_
    refine pn_iald 59 95 (pr_12_0 o0) (show 0 ≤ (73 : Int) ∧ (73 : Int) < ((95 : Nat) : Int) by decide) rfl rfl ?_
    refine pj_iconst 60 rfl rfl ?_
    refine pj_iadd 61 rfl rfl ?_
    refine pn_iast 62 95 (pr_12_0 o0)  (show 0 ≤ (73 : Int) ∧ (73 : Int) < ((95 : Nat) : Int) by decide) rfl rfl (fun M6 hM6 => ?_)
    replace h := h M6 hM6
    exact pn_vret h rfl rfl
  · replace h := h.2 hc
    refine pj_aload_n 14 0 rfl rfl rfl rfl ?_
    refine pn_getr 17 12 0 hg o0 (pr_12_0 o0).2 rfl pfX12_9 rfl rfl ?_
    refine pj_bipush 19 rfl (by decide) rfl ?_
    refine pj_iload_n 20 3 rfl rfl rfl rfl ?_
    refine pj_iadd 21 rfl rfl ?_
    refine pj_aload_n 22 0 rfl rfl rfl rfl ?_
    refine pn_getr 25 12 0 hg o0 (pr_12_0 o0).2 rfl pfX12_9 rfl rfl ?_
    refine pj_bipush 27 rfl (by decide) rfl ?_
    refine pj_iload_n 28 3 rfl rfl rfl rfl ?_
    refine pj_iadd 29 rfl rfl ?_
    refine pj_iconst 30 rfl rfl ?_
    refine pj_isub 31 rfl rfl ?_
    obtain ⟨q7, h⟩ := h
    refine pn_iald 32 95 (pr_12_0 o0) q7 rfl rfl ?_
    obtain ⟨q8, h⟩ := h
    refine pn_iast 33 95 (pr_12_0 o0)  q8 rfl rfl (fun M9 hM9 => ?_)
    replace h := h M9 hM9
    refine pj_iinc 36 3 (ls' := [(0, .ref r0), (1, .int (pj_I x1)), (2, .int (pj_I x2)), (3, .int (pj_I (x3 + (-1))))]) rfl rfl (by decide) rfl rfl ?_
    refine pj_goto 8 rfl (by decide) ?_
    refine pn_sub [0, 1, 2, 3] rfl ?_
    exact hk8 _ _ h
set_option maxRecDepth 20000 in
set_option maxHeartbeats 4000000 in
theorem s_X12_come_8 {l : Launch} {g : pj_G} (hg : pj_ph g = true) {r0 : Nat} {x1 : Int} {x2 : Int} {x3 : Int} {M : pj_M} {Q : pj_M → Prop}  (o0 : pj_ob r0 12)  (h : w_X12_come_8 r0 x1 x2  Q x3 M) : pj_R l g mdX12_come pj_T (pj_Zm g mdX12_come (pj_qv Q)) pj_NK 0 0 8 [(0, .ref r0), (1, .int (pj_I x1)), (2, .int (pj_I x2)), (3, .int (pj_I x3))] [] M :=
  h (fun s => pj_R l g mdX12_come pj_T (pj_Zm g mdX12_come (pj_qv Q)) pj_NK 0 0 8 [(0, .ref r0), (1, .int (pj_I x1)), (2, .int (pj_I x2)), (3, .int (pj_I (s.1)))] [] s.2) (fun s hs => s_X12_come_8b hg o0  (fun _ _ q => q) hs)
set_option maxRecDepth 20000 in
set_option maxHeartbeats 4000000 in
theorem s_X12_come {l : Launch} {g : pj_G} (hg : pj_ph g = true) {r0 : Nat} {x1 : Int} {x2 : Int} {M : pj_M} {Q : pj_M → Prop} (o0 : pj_ob r0 12) (h : w_X12_come r0 x1 x2 M Q) : pj_S l g mdX12_come [.ref r0, .int (pj_I x1), .int (pj_I x2)] pj_NK M (pj_qv Q) := by
  refine pj_ofR (ls := [(0, .ref r0), (1, .int (pj_I x1)), (2, .int (pj_I x2))]) gcX12_come (by decide) rfl (Nat.le_of_ble_eq_true rfl) rfl ?_
  unfold w_X12_come at h
  refine pj_aload_n 1 0 rfl rfl rfl rfl ?_
  refine pn_getr 4 12 0 hg o0 (pr_12_0 o0).2 rfl pfX12_9 rfl rfl ?_
  refine pj_bipush 6 rfl (by decide) rfl ?_
  refine pn_iald 7 95 (pr_12_0 o0) (show 0 ≤ (73 : Int) ∧ (73 : Int) < ((95 : Nat) : Int) by decide) rfl rfl ?_
  refine pn_nm (fun z1 hz1 => ?_)
  replace h := h z1 hz1
  refine pj_istore_n 8 (ls' := [(0, .ref r0), (1, .int (pj_I x1)), (2, .int (pj_I x2)), (3, .int (pj_I z1))]) rfl rfl (by decide) rfl rfl ?_
  refine pn_sub [0, 1, 2, 3] rfl ?_
  exact s_X12_come_8 hg o0   h
