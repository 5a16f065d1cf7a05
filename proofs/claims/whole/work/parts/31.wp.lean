def w_X12_go_2b (r0 : Nat)  (Q : pj_M → Prop) (k2 : Int → pj_M → Prop) (x2 : Int) (M : pj_M) : Prop :=
  (pj_in x2) ∧ (pj_in (M (pj_rf r0 0) 73)) ∧ (((M (pj_rf r0 0) 73) ≤ x2 → ∀ M3 : pj_M, M3 = pj_up M (pj_rf r0 0) 73 ((M (pj_rf r0 0) 73) - 1) → ((0 : Int) ≤ (74 + (M3 (pj_rf r0 0) 73)) ∧ (74 + (M3 (pj_rf r0 0) 73)) < 95) ∧ ∀ M5 : pj_M, M5 = pj_up M3 (pj_rf r0 0) (74 + (M3 (pj_rf r0 0) 73)) 0 → Q M5) ∧ (¬ (M (pj_rf r0 0) 73) ≤ x2 → ((0 : Int) ≤ (74 + x2) ∧ (74 + x2) < 95) ∧ ((0 : Int) ≤ ((74 + x2) - 1) ∧ ((74 + x2) - 1) < 95) ∧ ∀ M8 : pj_M, M8 = pj_up M (pj_rf r0 0) ((74 + x2) - 1) (M (pj_rf r0 0) (74 + x2)) → k2 (x2 + 1) M8))
def w_X12_go_2 (r0 : Nat)  (Q : pj_M → Prop) (x2 : Int) (M : pj_M) : Prop := pj_lp (fun (k : Int × pj_M → Prop) (s : Int × pj_M) => w_X12_go_2b r0  Q (fun (x2 : Int) (M : pj_M) => k (x2, M)) s.1 s.2) (x2, M)
def w_X12_go (r0 : Nat) (x1 : Int) (M : pj_M) (Q : pj_M → Prop) : Prop :=
  w_X12_go_2 r0  Q x1 M
set_option maxRecDepth 20000 in
set_option maxHeartbeats 4000000 in
theorem s_X12_go_2b {l : Launch} {g : pj_G} (hg : pj_ph g = true) {r0 : Nat} {x2 : Int} {M : pj_M} {Q : pj_M → Prop}  {k2 : Int → pj_M → Prop} (o0 : pj_ob r0 12)  (hk2 : ∀ (x2 : Int) (M : pj_M), k2 x2 M → pj_R l g mdX12_go pj_T (pj_Zm g mdX12_go (pj_qv Q)) pj_NK 0 0 2 [(0, .ref r0), (2, .int (pj_I x2))] [] M) (h : w_X12_go_2b r0  Q k2 x2 M) : pj_R l g mdX12_go pj_T (pj_Zm g mdX12_go (pj_qv Q)) pj_NK 0 0 2 [(0, .ref r0), (2, .int (pj_I x2))] [] M := by
  unfold w_X12_go_2b at h
  refine pj_iload_n 3 1 rfl rfl rfl rfl ?_
  refine pj_aload_n 4 0 rfl rfl rfl rfl ?_
  refine pn_getr 7 12 0 hg o0 (pr_12_0 o0).2 rfl pfX12_9 rfl rfl ?_
  refine pj_bipush 9 rfl (by decide) rfl ?_
  refine pn_iald 10 95 (pr_12_0 o0) (show 0 ≤ (73 : Int) ∧ (73 : Int) < ((95 : Nat) : Int) by decide) rfl rfl ?_
  obtain ⟨q1, h⟩ := h
  obtain ⟨q2, h⟩ := h
  refine pj_icmp_ge 39 13 rfl (by decide) rfl q1 q2 (fun hc => ?_) (fun hc => ?_)
  · replace h := h.1 hc
    refine pj_aload_n 40 0 rfl rfl rfl rfl ?_
    refine pn_getr 43 12 0 hg o0 (pr_12_0 o0).2 rfl pfX12_9 rfl rfl ?_
    refine pj_bipush 45 rfl (by decide) rfl ?_
    refine pj_dup2 46 rfl rfl rfl rfl ?_
    refine pn_iald 47 95 (pr_12_0 o0) (show 0 ≤ (73 : Int) ∧ (73 : Int) < ((95 : Nat) : Int) by decide) rfl rfl ?_
    refine pj_iconst 48 rfl rfl ?_
    refine pj_isub 49 rfl rfl ?_
    refine pn_iast 50 95 (pr_12_0 o0)  (show 0 ≤ (73 : Int) ∧ (73 : Int) < ((95 : Nat) : Int) by decide) rfl rfl (fun M3 hM3 => ?_)
    replace h := h M3 hM3
    refine pj_aload_n 51 0 rfl rfl rfl rfl ?_
    refine pn_getr 54 12 0 hg o0 (pr_12_0 o0).2 rfl pfX12_9 rfl rfl ?_
    refine pj_bipush 56 rfl (by decide) rfl ?_
    refine pj_aload_n 57 0 rfl rfl rfl rfl ?_
    refine pn_getr 60 12 0 hg o0 (pr_12_0 o0).2 rfl pfX12_9 rfl rfl ?_
    refine pj_bipush 62 rfl (by decide) rfl ?_
    refine pn_iald 63 95 (pr_12_0 o0) (show 0 ≤ (73 : Int) ∧ (73 : Int) < ((95 : Nat) : Int) by decide) rfl rfl ?_
    refine pj_iadd 64 rfl rfl ?_
    refine pj_iconst 65 rfl rfl ?_
    obtain ⟨q4, h⟩ := h
    refine pn_iast 66 95 (pr_12_0 o0)  q4 rfl rfl (fun M5 hM5 => ?_)
    replace h := h M5 hM5
    exact pn_vret h rfl rfl
  · replace h := h.2 hc
    refine pj_aload_n 14 0 rfl rfl rfl rfl ?_
    refine pn_getr 17 12 0 hg o0 (pr_12_0 o0).2 rfl pfX12_9 rfl rfl ?_
    refine pj_bipush 19 rfl (by decide) rfl ?_
    refine pj_iload_n 20 1 rfl rfl rfl rfl ?_
    refine pj_iadd 21 rfl rfl ?_
    refine pj_iconst 22 rfl rfl ?_
    refine pj_isub 23 rfl rfl ?_
    refine pj_aload_n 24 0 rfl rfl rfl rfl ?_
    refine pn_getr 27 12 0 hg o0 (pr_12_0 o0).2 rfl pfX12_9 rfl rfl ?_
    refine pj_bipush 29 rfl (by decide) rfl ?_
    refine pj_iload_n 30 1 rfl rfl rfl rfl ?_
    refine pj_iadd 31 rfl rfl ?_
    obtain ⟨q6, h⟩ := h
    refine pn_iald 32 95 (pr_12_0 o0) q6 rfl rfl ?_
    obtain ⟨q7, h⟩ := h
    refine pn_iast 33 95 (pr_12_0 o0)  q7 rfl rfl (fun M8 hM8 => ?_)
    replace h := h M8 hM8
    refine pj_iinc 36 1 (ls' := [(0, .ref r0), (2, .int (pj_I (x2 + 1)))]) rfl rfl (by decide) rfl rfl ?_
    refine pj_goto 2 rfl (by decide) ?_
    refine pn_sub [0, 1] rfl ?_
    exact hk2 _ _ h
set_option maxRecDepth 20000 in
set_option maxHeartbeats 4000000 in
theorem s_X12_go_2 {l : Launch} {g : pj_G} (hg : pj_ph g = true) {r0 : Nat} {x2 : Int} {M : pj_M} {Q : pj_M → Prop}  (o0 : pj_ob r0 12)  (h : w_X12_go_2 r0  Q x2 M) : pj_R l g mdX12_go pj_T (pj_Zm g mdX12_go (pj_qv Q)) pj_NK 0 0 2 [(0, .ref r0), (2, .int (pj_I x2))] [] M :=
  h (fun s => pj_R l g mdX12_go pj_T (pj_Zm g mdX12_go (pj_qv Q)) pj_NK 0 0 2 [(0, .ref r0), (2, .int (pj_I (s.1)))] [] s.2) (fun s hs => s_X12_go_2b hg o0  (fun _ _ q => q) hs)
set_option maxRecDepth 20000 in
set_option maxHeartbeats 4000000 in
theorem s_X12_go {l : Launch} {g : pj_G} (hg : pj_ph g = true) {r0 : Nat} {x1 : Int} {M : pj_M} {Q : pj_M → Prop} (o0 : pj_ob r0 12) (h : w_X12_go r0 x1 M Q) : pj_S l g mdX12_go [.ref r0, .int (pj_I x1)] pj_NK M (pj_qv Q) := by
  refine pj_ofR (ls := [(0, .ref r0), (1, .int (pj_I x1))]) gcX12_go (by decide) rfl (Nat.le_of_ble_eq_true rfl) rfl ?_
  unfold w_X12_go at h
  refine pj_iload_n 1 1 rfl rfl rfl rfl ?_
  refine pj_istore_n 2 (ls' := [(0, .ref r0), (1, .int (pj_I x1)), (2, .int (pj_I x1))]) rfl rfl (by decide) rfl rfl ?_
  refine pn_sub [0, 2] rfl ?_
  exact s_X12_go_2 hg o0   h
def w_X12_becomes (r0 : Nat) (x1 : Int) (x2 : Int) (M : pj_M) (Q : Int → pj_M → Prop) : Prop :=
  ∀ M1 : pj_M, M1 = pj_up M r0 5 0 → w_X12_refusesBecome r0 x1 x2 M1 (fun (t3 : Int) (M2 : pj_M) => (pj_in t3) ∧ ((0 ≤ t3 → w_X12_change r0 M2 (fun (M5 : pj_M) => ((0 : Int) ≤ ((74 + x1) - 1) ∧ ((74 + x1) - 1) < 95) ∧ ∀ z8 : Int, z8 = (M5 (pj_rf r0 0) ((74 + x1) - 1)) → ((0 : Int) ≤ ((74 + x1) - 1) ∧ ((74 + x1) - 1) < 95) ∧ ∀ M10 : pj_M, M10 = pj_up M5 (pj_rf r0 0) ((74 + x1) - 1) x2 → Q z8 M10)) ∧ (¬ 0 ≤ t3 → Q t3 M2)))
set_option maxRecDepth 20000 in
set_option maxHeartbeats 4000000 in
theorem s_X12_becomes {l : Launch} {g : pj_G} (hg : pj_ph g = true) {r0 : Nat} {x1 : Int} {x2 : Int} {M : pj_M} {Q : Int → pj_M → Prop} (o0 : pj_ob r0 12) (h : w_X12_becomes r0 x1 x2 M Q) : pj_S l g mdX12_becomes [.ref r0, .int (pj_I x1), .int (pj_I x2)] pj_NK M (pj_qi Q) := by
  refine pj_ofR (ls := [(0, .ref r0), (1, .int (pj_I x1)), (2, .int (pj_I x2))]) gcX12_becomes (by decide) rfl (Nat.le_of_ble_eq_true rfl) rfl ?_
  unfold w_X12_becomes at h
  refine pj_aload_n 1 0 rfl rfl rfl rfl ?_
  refine pj_iconst 2 rfl rfl ?_
  refine pn_puti 5 12 5 5 o0  rfl pfX12_88 rfl rfl rfl (fun M1 hM1 => ?_)
  replace h := h M1 hM1
  refine pj_aload_n 6 0 rfl rfl rfl rfl ?_
  refine pj_iload_n 7 1 rfl rfl rfl rfl ?_
  refine pj_iload_n 8 2 rfl rfl rfl rfl ?_
  refine pn_callVi 11 12 [.int (pj_I x1), .int (pj_I x2)] [] o0 (s_X12_refusesBecome hg o0 h) plX12_345 rfl rfl rfl rfl (Nat.le_of_ble_eq_true rfl) (by decide) (fun t3 M2 h => ?_)
  refine pj_istore_n 12 (ls' := [(0, .ref r0), (1, .int (pj_I x1)), (2, .int (pj_I x2)), (3, .int (pj_I t3))]) rfl rfl (by decide) rfl rfl ?_
  refine pj_iload_n 13 3 rfl rfl rfl rfl ?_
  obtain ⟨q4, h⟩ := h
  refine pj_if_ge 18 16 rfl (by decide) rfl q4  (fun hc => ?_) (fun hc => ?_)
  · replace h := h.1 hc
    refine pj_aload_n 19 0 rfl rfl rfl rfl ?_
    refine pn_callVv 22 12 [] [] o0 (s_X12_change hg o0 h) plX12_163 rfl rfl rfl rfl (Nat.le_of_ble_eq_true rfl) (by decide) (fun M5 h => ?_)
    refine pj_aload_n 23 0 rfl rfl rfl rfl ?_
    refine pn_getr 26 12 0 hg o0 (pr_12_0 o0).2 rfl pfX12_9 rfl rfl ?_
    refine pj_bipush 28 rfl (by decide) rfl ?_
    refine pj_iload_n 29 1 rfl rfl rfl rfl ?_
    refine pj_iadd 30 rfl rfl ?_
    refine pj_iconst 31 rfl rfl ?_
    refine pj_isub 32 rfl rfl ?_
    obtain ⟨q7, h⟩ := h
    refine pn_iald 33 95 (pr_12_0 o0) q7 rfl rfl ?_
    refine pn_nm (fun z8 hz8 => ?_)
    replace h := h z8 hz8
    refine pj_istore 35 (ls' := [(0, .ref r0), (1, .int (pj_I x1)), (2, .int (pj_I x2)), (3, .int (pj_I t3)), (4, .int (pj_I z8))]) rfl (by decide) rfl rfl ?_
    refine pj_aload_n 36 0 rfl rfl rfl rfl ?_
    refine pn_getr 39 12 0 hg o0 (pr_12_0 o0).2 rfl pfX12_9 rfl rfl ?_
    refine pj_bipush 41 rfl (by decide) rfl ?_
    refine pj_iload_n 42 1 rfl rfl rfl rfl ?_
    refine pj_iadd 43 rfl rfl ?_
    refine pj_iconst 44 rfl rfl ?_
    refine pj_isub 45 rfl rfl ?_
    refine pj_iload_n 46 2 rfl rfl rfl rfl ?_
    obtain ⟨q9, h⟩ := h
    refine pn_iast 47 95 (pr_12_0 o0)  q9 rfl rfl (fun M10 hM10 => ?_)
    replace h := h M10 hM10
    refine pj_iload 49 4 rfl rfl rfl ?_
    exact pn_iret h rfl rfl
  · replace h := h.2 hc
    refine pj_iload_n 17 3 rfl rfl rfl rfl ?_
    exact pn_iret h rfl rfl
def w_X12_comes (r0 : Nat) (x1 : Int) (x2 : Int) (M : pj_M) (Q : Int → pj_M → Prop) : Prop :=
  ∀ M1 : pj_M, M1 = pj_up M r0 5 0 → w_X12_refusesCome r0 x1 x2 M1 (fun (t3 : Int) (M2 : pj_M) => (pj_in t3) ∧ ((0 ≤ t3 → w_X12_change r0 M2 (fun (M5 : pj_M) => w_X12_come r0 x1 x2 M5 (fun (M7 : pj_M) => Q (M7 (pj_rf r0 0) 73) M7))) ∧ (¬ 0 ≤ t3 → Q t3 M2)))
set_option maxRecDepth 20000 in
set_option maxHeartbeats 4000000 in
theorem s_X12_comes {l : Launch} {g : pj_G} (hg : pj_ph g = true) {r0 : Nat} {x1 : Int} {x2 : Int} {M : pj_M} {Q : Int → pj_M → Prop} (o0 : pj_ob r0 12) (h : w_X12_comes r0 x1 x2 M Q) : pj_S l g mdX12_comes [.ref r0, .int (pj_I x1), .int (pj_I x2)] pj_NK M (pj_qi Q) := by
  refine pj_ofR (ls := [(0, .ref r0), (1, .int (pj_I x1)), (2, .int (pj_I x2))]) gcX12_comes (by decide) rfl (Nat.le_of_ble_eq_true rfl) rfl ?_
  unfold w_X12_comes at h
  refine pj_aload_n 1 0 rfl rfl rfl rfl ?_
  refine pj_iconst 2 rfl rfl ?_
  refine pn_puti 5 12 5 5 o0  rfl pfX12_88 rfl rfl rfl (fun M1 hM1 => ?_)
  replace h := h M1 hM1
  refine pj_aload_n 6 0 rfl rfl rfl rfl ?_
  refine pj_iload_n 7 1 rfl rfl rfl rfl ?_
  refine pj_iload_n 8 2 rfl rfl rfl rfl ?_
  refine pn_callVi 11 12 [.int (pj_I x1), .int (pj_I x2)] [] o0 (s_X12_refusesCome hg o0 h) plX12_348 rfl rfl rfl rfl (Nat.le_of_ble_eq_true rfl) (by decide) (fun t3 M2 h => ?_)
  refine pj_istore_n 12 (ls' := [(0, .ref r0), (1, .int (pj_I x1)), (2, .int (pj_I x2)), (3, .int (pj_I t3))]) rfl rfl (by decide) rfl rfl ?_
  refine pj_iload_n 13 3 rfl rfl rfl rfl ?_
  obtain ⟨q4, h⟩ := h
  refine pj_if_ge 18 16 rfl (by decide) rfl q4  (fun hc => ?_) (fun hc => ?_)
  · replace h := h.1 hc
    refine pj_aload_n 19 0 rfl rfl rfl rfl ?_
    refine pn_callVv 22 12 [] [] o0 (s_X12_change hg o0 h) plX12_163 rfl rfl rfl rfl (Nat.le_of_ble_eq_true rfl) (by decide) (fun M5 h => ?_)
    refine pj_aload_n 23 0 rfl rfl rfl rfl ?_
    refine pj_iload_n 24 1 rfl rfl rfl rfl ?_
    refine pj_iload_n 25 2 rfl rfl rfl rfl ?_
    refine pn_callVv 28 12 [.int (pj_I x1), .int (pj_I x2)] [] o0 (s_X12_come hg o0 h) plX12_351 rfl rfl rfl rfl (Nat.le_of_ble_eq_true rfl) (by decide) (fun M7 h => ?_)
    refine pj_aload_n 29 0 rfl rfl rfl rfl ?_
    refine pn_getr 32 12 0 hg o0 (pr_12_0 o0).2 rfl pfX12_9 rfl rfl ?_
    refine pj_bipush 34 rfl (by decide) rfl ?_
    refine pn_iald 35 95 (pr_12_0 o0) (show 0 ≤ (73 : Int) ∧ (73 : Int) < ((95 : Nat) : Int) by decide) rfl rfl ?_
    exact pn_iret h rfl rfl
  · replace h := h.2 hc
    refine pj_iload_n 17 3 rfl rfl rfl rfl ?_
    exact pn_iret h rfl rfl
def w_X12_goes (r0 : Nat) (x1 : Int) (M : pj_M) (Q : Int → pj_M → Prop) : Prop :=
  ∀ M1 : pj_M, M1 = pj_up M r0 5 0 → w_X12_in x1 1 (M1 (pj_rf r0 0) 73) M1 (fun (t3 : Int) (M2 : pj_M) => (pj_in t3) ∧ ((¬ t3 = 0 → w_X12_change r0 M2 (fun (M5 : pj_M) => w_X12_go r0 x1 M5 (fun (M7 : pj_M) => Q (M7 (pj_rf r0 0) 73) M7))) ∧ (t3 = 0 → Q (-1) M2)))
set_option maxRecDepth 20000 in
set_option maxHeartbeats 4000000 in
theorem s_X12_goes {l : Launch} {g : pj_G} (hg : pj_ph g = true) {r0 : Nat} {x1 : Int} {M : pj_M} {Q : Int → pj_M → Prop} (o0 : pj_ob r0 12) (h : w_X12_goes r0 x1 M Q) : pj_S l g mdX12_goes [.ref r0, .int (pj_I x1)] pj_NK M (pj_qi Q) := by
  refine pj_ofR (ls := [(0, .ref r0), (1, .int (pj_I x1))]) gcX12_goes (by decide) rfl (Nat.le_of_ble_eq_true rfl) rfl ?_
  unfold w_X12_goes at h
  refine pj_aload_n 1 0 rfl rfl rfl rfl ?_
  refine pj_iconst 2 rfl rfl ?_
  refine pn_puti 5 12 5 5 o0  rfl pfX12_88 rfl rfl rfl (fun M1 hM1 => ?_)
  replace h := h M1 hM1
  refine pj_iload_n 6 1 rfl rfl rfl rfl ?_
  refine pj_iconst 7 rfl rfl ?_
  refine pj_aload_n 8 0 rfl rfl rfl rfl ?_
  refine pn_getr 11 12 0 hg o0 (pr_12_0 o0).2 rfl pfX12_9 rfl rfl ?_
  refine pj_bipush 13 rfl (by decide) rfl ?_
  refine pn_iald 14 95 (pr_12_0 o0) (show 0 ≤ (73 : Int) ∧ (73 : Int) < ((95 : Nat) : Int) by decide) rfl rfl ?_
  refine pn_callSi 17 [.int (pj_I x1), .int (pj_I 1), .int (pj_I (M1 (pj_rf r0 0) 73))] [] (s_X12_in hg  h) plX12_98 rfl rfl rfl rfl (Nat.le_of_ble_eq_true rfl) (by decide) (fun t3 M2 h => ?_)
  obtain ⟨q4, h⟩ := h
  refine pj_if_ne 22 20 rfl (by decide) rfl q4  (fun hc => ?_) (fun hc => ?_)
  · replace h := h.1 hc
    refine pj_aload_n 23 0 rfl rfl rfl rfl ?_
    refine pn_callVv 26 12 [] [] o0 (s_X12_change hg o0 h) plX12_163 rfl rfl rfl rfl (Nat.le_of_ble_eq_true rfl) (by decide) (fun M5 h => ?_)
    refine pj_aload_n 27 0 rfl rfl rfl rfl ?_
    refine pj_iload_n 28 1 rfl rfl rfl rfl ?_
    refine pn_callVv 31 12 [.int (pj_I x1)] [] o0 (s_X12_go hg o0 h) plX12_354 rfl rfl rfl rfl (Nat.le_of_ble_eq_true rfl) (by decide) (fun M7 h => ?_)
    refine pj_aload_n 32 0 rfl rfl rfl rfl ?_
    refine pn_getr 35 12 0 hg o0 (pr_12_0 o0).2 rfl pfX12_9 rfl rfl ?_
    refine pj_bipush 37 rfl (by decide) rfl ?_
    refine pn_iald 38 95 (pr_12_0 o0) (show 0 ≤ (73 : Int) ∧ (73 : Int) < ((95 : Nat) : Int) by decide) rfl rfl ?_
    exact pn_iret h rfl rfl
  · replace h := h.2 (Classical.not_not.mp hc)
    refine pj_iconst 21 rfl rfl ?_
    exact pn_iret h rfl rfl
def w_X12_act_47 (r0 : Nat) (x1 : Int) (x2 : Int) (x3 : Int) (y0 : Int)  (Q : Int → pj_M → Prop) (M : pj_M) : Prop :=
  (pj_in y0) ∧ ((0 ≤ y0 → (pj_in x1) ∧ ((¬ x1 = 0 → (pj_in x1) ∧ ((¬ x1 = 1 → w_X12_go r0 x2 M (fun (M9 : pj_M) => Q 1 M9)) ∧ (x1 = 1 → w_X12_come r0 x2 x3 M (fun (M11 : pj_M) => Q 1 M11)))) ∧ (x1 = 0 → ((0 : Int) ≤ ((74 + x2) - 1) ∧ ((74 + x2) - 1) < 95) ∧ ∀ M14 : pj_M, M14 = pj_up M (pj_rf r0 0) ((74 + x2) - 1) x3 → Q 1 M14))) ∧ (¬ 0 ≤ y0 → Q 0 M))
def w_X12_act (r0 : Nat) (x1 : Int) (x2 : Int) (x3 : Int) (M : pj_M) (Q : Int → pj_M → Prop) : Prop :=
  (pj_in x1) ∧ ((¬ x1 = 0 → (pj_in x1) ∧ ((¬ x1 = 1 → w_X12_in x2 1 (M (pj_rf r0 0) 73) M (fun (t4 : Int) (M3 : pj_M) => (pj_in t4) ∧ ((t4 = 0 → w_X12_act_47 r0 x1 x2 x3 (-1)  Q M3) ∧ (¬ t4 = 0 → w_X12_act_47 r0 x1 x2 x3 0  Q M3)))) ∧ (x1 = 1 → w_X12_refusesCome r0 x2 x3 M (fun (t16 : Int) (M15 : pj_M) => w_X12_act_47 r0 x1 x2 x3 t16  Q M15)))) ∧ (x1 = 0 → w_X12_refusesBecome r0 x2 x3 M (fun (t18 : Int) (M17 : pj_M) => w_X12_act_47 r0 x1 x2 x3 t18  Q M17)))
set_option maxRecDepth 20000 in
set_option maxHeartbeats 4000000 in
theorem s_X12_act_47 {l : Launch} {g : pj_G} (hg : pj_ph g = true) {r0 : Nat} {x1 : Int} {x2 : Int} {x3 : Int} {y0 : Int} {M : pj_M} {Q : Int → pj_M → Prop}  (o0 : pj_ob r0 12)  (h : w_X12_act_47 r0 x1 x2 x3 y0  Q M) : pj_R l g mdX12_act pj_T (pj_Zm g mdX12_act (pj_qi Q)) pj_NK 0 0 47 [(0, .ref r0), (1, .int (pj_I x1)), (2, .int (pj_I x2)), (3, .int (pj_I x3))] [.int (pj_I y0)] M := by
  unfold w_X12_act_47 at h
  refine pj_istore 49 (ls' := [(0, .ref r0), (1, .int (pj_I x1)), (2, .int (pj_I x2)), (3, .int (pj_I x3)), (4, .int (pj_I y0))]) rfl (by decide) rfl rfl ?_
  refine pj_iload 51 4 rfl rfl rfl ?_
  obtain ⟨q6, h⟩ := h
  refine pj_if_ge 56 54 rfl (by decide) rfl q6  (fun hc => ?_) (fun hc => ?_)
  · replace h := h.1 hc
    refine pj_iload_n 57 1 rfl rfl rfl rfl ?_
    obtain ⟨q7, h⟩ := h
    refine pj_if_ne 75 60 rfl (by decide) rfl q7  (fun hc => ?_) (fun hc => ?_)
    · replace h := h.1 hc
      refine pj_iload_n 76 1 rfl rfl rfl rfl ?_
      refine pj_iconst 77 rfl rfl ?_
      obtain ⟨q8, h⟩ := h
      refine pj_icmp_ne 89 80 rfl (by decide) rfl q8 (show pj_in 1 by decide) (fun hc => ?_) (fun hc => ?_)
      · replace h := h.1 hc
        refine pj_aload_n 90 0 rfl rfl rfl rfl ?_
        refine pj_iload_n 91 2 rfl rfl rfl rfl ?_
        refine pn_callVv 94 12 [.int (pj_I x2)] [] o0 (s_X12_go hg o0 h) plX12_354 rfl rfl rfl rfl (Nat.le_of_ble_eq_true rfl) (by decide) (fun M9 h => ?_)
        refine pj_iconst 95 rfl rfl ?_
        exact pn_zret (by decide) h rfl rfl
      · replace h := h.2 (Classical.not_not.mp hc)
        refine pj_aload_n 81 0 rfl rfl rfl rfl ?_
        refine pj_iload_n 82 2 rfl rfl rfl rfl ?_
        refine pj_iload_n 83 3 rfl rfl rfl rfl ?_
        refine pn_callVv 86 12 [.int (pj_I x2), .int (pj_I x3)] [] o0 (s_X12_come hg o0 h) plX12_351 rfl rfl rfl rfl (Nat.le_of_ble_eq_true rfl) (by decide) (fun M11 h => ?_)
        refine pj_goto 94 rfl (by decide) ?_
        refine pj_iconst 95 rfl rfl ?_
        exact pn_zret (by decide) h rfl rfl
    · replace h := h.2 (Classical.not_not.mp hc)
      refine pj_aload_n 61 0 rfl rfl rfl rfl ?_
      refine pn_getr 64 12 0 hg o0 (pr_12_0 o0).2 rfl pfX12_9 rfl rfl ?_
      refine pj_bipush 66 rfl (by decide) rfl ?_
      refine pj_iload_n 67 2 rfl rfl rfl rfl ?_
      refine pj_iadd 68 rfl rfl ?_
      refine pj_iconst 69 rfl rfl ?_
      refine pj_isub 70 rfl rfl ?_
      refine pj_iload_n 71 3 rfl rfl rfl rfl ?_
      obtain ⟨q13, h⟩ := h
      refine pn_iast 72 95 (pr_12_0 o0)  q13 rfl rfl (fun M14 hM14 => ?_)
      replace h := h M14 hM14
      refine pj_goto 94 rfl (by decide) ?_
      refine pj_iconst 95 rfl rfl ?_
      exact pn_zret (by decide) h rfl rfl
  · replace h := h.2 hc
    refine pj_iconst 55 rfl rfl ?_
    exact pn_zret (by decide) h rfl rfl
set_option maxRecDepth 20000 in
set_option maxHeartbeats 4000000 in
theorem s_X12_act {l : Launch} {g : pj_G} (hg : pj_ph g = true) {r0 : Nat} {x1 : Int} {x2 : Int} {x3 : Int} {M : pj_M} {Q : Int → pj_M → Prop} (o0 : pj_ob r0 12) (h : w_X12_act r0 x1 x2 x3 M Q) : pj_S l g mdX12_act [.ref r0, .int (pj_I x1), .int (pj_I x2), .int (pj_I x3)] pj_NK M (pj_qi Q) := by
  refine pj_ofR (ls := [(0, .ref r0), (1, .int (pj_I x1)), (2, .int (pj_I x2)), (3, .int (pj_I x3))]) gcX12_act (by decide) rfl (Nat.le_of_ble_eq_true rfl) rfl ?_
  unfold w_X12_act at h
  refine pj_iload_n 1 1 rfl rfl rfl rfl ?_
  obtain ⟨q1, h⟩ := h
  refine pj_if_ne 13 4 rfl (by decide) rfl q1  (fun hc => ?_) (fun hc => ?_)
  · replace h := h.1 hc
    refine pj_iload_n 14 1 rfl rfl rfl rfl ?_
    refine pj_iconst 15 rfl rfl ?_
    obtain ⟨q2, h⟩ := h
    refine pj_icmp_ne 27 18 rfl (by decide) rfl q2 (show pj_in 1 by decide) (fun hc => ?_) (fun hc => ?_)
    · replace h := h.1 hc
      refine pj_iload_n 28 2 rfl rfl rfl rfl ?_
      refine pj_iconst 29 rfl rfl ?_
      refine pj_aload_n 30 0 rfl rfl rfl rfl ?_
      refine pn_getr 33 12 0 hg o0 (pr_12_0 o0).2 rfl pfX12_9 rfl rfl ?_
      refine pj_bipush 35 rfl (by decide) rfl ?_
      refine pn_iald 36 95 (pr_12_0 o0) (show 0 ≤ (73 : Int) ∧ (73 : Int) < ((95 : Nat) : Int) by decide) rfl rfl ?_
      refine pn_callSi 39 [.int (pj_I x2), .int (pj_I 1), .int (pj_I (M (pj_rf r0 0) 73))] [] (s_X12_in hg  h) plX12_98 rfl rfl rfl rfl (Nat.le_of_ble_eq_true rfl) (by decide) (fun t4 M3 h => ?_)
      obtain ⟨q5, h⟩ := h
      refine pj_if_eq 46 42 rfl (by decide) rfl q5  (fun hc => ?_) (fun hc => ?_)
      · replace h := h.1 hc
        refine pj_iconst 47 rfl rfl ?_
        refine pn_sub [0, 1, 2, 3] rfl ?_
        exact s_X12_act_47 hg o0   h
      · replace h := h.2 hc
        refine pj_iconst 43 rfl rfl ?_
        refine pj_goto 47 rfl (by decide) ?_
        refine pn_sub [0, 1, 2, 3] rfl ?_
        exact s_X12_act_47 hg o0   h
    · replace h := h.2 (Classical.not_not.mp hc)
      refine pj_aload_n 19 0 rfl rfl rfl rfl ?_
      refine pj_iload_n 20 2 rfl rfl rfl rfl ?_
      refine pj_iload_n 21 3 rfl rfl rfl rfl ?_
      refine pn_callVi 24 12 [.int (pj_I x2), .int (pj_I x3)] [] o0 (s_X12_refusesCome hg o0 h) plX12_348 rfl rfl rfl rfl (Nat.le_of_ble_eq_true rfl) (by decide) (fun t16 M15 h => ?_)
      refine pj_goto 47 rfl (by decide) ?_
      refine pn_sub [0, 1, 2, 3] rfl ?_
      exact s_X12_act_47 hg o0   h
  · replace h := h.2 (Classical.not_not.mp hc)
    refine pj_aload_n 5 0 rfl rfl rfl rfl ?_
    refine pj_iload_n 6 2 rfl rfl rfl rfl ?_
    refine pj_iload_n 7 3 rfl rfl rfl rfl ?_
    refine pn_callVi 10 12 [.int (pj_I x2), .int (pj_I x3)] [] o0 (s_X12_refusesBecome hg o0 h) plX12_345 rfl rfl rfl rfl (Nat.le_of_ble_eq_true rfl) (by decide) (fun t18 M17 h => ?_)
    refine pj_goto 47 rfl (by decide) ?_
    refine pn_sub [0, 1, 2, 3] rfl ?_
    exact s_X12_act_47 hg o0   h
def w_X12_readAct_104 (u0 : Nat) (y1 : Int) (y2 : Int)  (Q : pj_M → Prop) (M : pj_M) : Prop :=
  ((0 : Int) ≤ y1 ∧ y1 < 240) ∧ ∀ M18 : pj_M, M18 = pj_up M u0 y1 y2 → Q M18
def w_X12_readAct_36 (r0 : Nat) (x1 : Int) (y0 : Int)  (Q : pj_M → Prop) (M : pj_M) : Prop :=
  (pj_in y0) ∧ ((¬ y0 = (-1) → ∀ M7 : pj_M, M7 = pj_up M r0 7 ((M r0 7) + 1) → ((0 : Int) ≤ x1 ∧ x1 < 240) ∧ ∀ M9 : pj_M, M9 = pj_up M7 (pj_rf r0 36) x1 y0 → w_X12_twoDigits r0 M9 (fun (t11 : Int) (M10 : pj_M) => ((0 : Int) ≤ (x1 + 1) ∧ (x1 + 1) < 240) ∧ ∀ M13 : pj_M, M13 = pj_up M10 (pj_rf r0 36) (x1 + 1) t11 → (pj_in y0) ∧ ((¬ y0 = 2 → w_X12_oneOf r0 97 8 M13 (fun (t16 : Int) (M15 : pj_M) => w_X12_readAct_104 (pj_rf r0 36) (x1 + 2) t16  Q M15)) ∧ (y0 = 2 → w_X12_readAct_104 (pj_rf r0 36) (x1 + 2) 0  Q M13)))) ∧ (y0 = (-1) → w_X12_fault r0 (M r0 7) M (fun (M19 : pj_M) => Q M19)))
def w_X12_readAct (r0 : Nat) (x1 : Int) (M : pj_M) (Q : pj_M → Prop) : Prop :=
  w_X12_here r0 M (fun (t2 : Int) (M1 : pj_M) => (pj_in t2) ∧ ((¬ t2 = 114 → (pj_in t2) ∧ ((¬ t2 = 105 → (pj_in t2) ∧ ((¬ t2 = 100 → w_X12_readAct_36 r0 x1 (-1)  Q M1) ∧ (t2 = 100 → w_X12_readAct_36 r0 x1 2  Q M1))) ∧ (t2 = 105 → w_X12_readAct_36 r0 x1 1  Q M1))) ∧ (t2 = 114 → w_X12_readAct_36 r0 x1 0  Q M1)))
set_option maxRecDepth 20000 in
set_option maxHeartbeats 4000000 in
theorem s_X12_readAct_104 {l : Launch} {g : pj_G} (hg : pj_ph g = true) {u0 : Nat} {y1 : Int} {y2 : Int} {M : pj_M} {Q : pj_M → Prop}  (ou0 : pj_ol u0 1 240)  (h : w_X12_readAct_104 u0 y1 y2  Q M) : pj_R l g mdX12_readAct pj_T (pj_Zm g mdX12_readAct (pj_qv Q)) pj_NK 0 0 104 [] [.int (pj_I y2), .int (pj_I y1), .ref u0] M := by
  unfold w_X12_readAct_104 at h
  obtain ⟨q17, h⟩ := h
  refine pn_iast 105 240 ou0  q17 rfl rfl (fun M18 hM18 => ?_)
  replace h := h M18 hM18
  exact pn_vret h rfl rfl
set_option maxRecDepth 20000 in
set_option maxHeartbeats 4000000 in
theorem s_X12_readAct_36 {l : Launch} {g : pj_G} (hg : pj_ph g = true) {r0 : Nat} {x1 : Int} {y0 : Int} {M : pj_M} {Q : pj_M → Prop}  (o0 : pj_ob r0 12)  (h : w_X12_readAct_36 r0 x1 y0  Q M) : pj_R l g mdX12_readAct pj_T (pj_Zm g mdX12_readAct (pj_qv Q)) pj_NK 0 0 36 [(0, .ref r0), (1, .int (pj_I x1))] [.int (pj_I y0)] M := by
  unfold w_X12_readAct_36 at h
  refine pj_istore_n 37 (ls' := [(0, .ref r0), (1, .int (pj_I x1)), (3, .int (pj_I y0))]) rfl rfl (by decide) rfl rfl ?_
  refine pj_iload_n 38 2 rfl rfl rfl rfl ?_
  refine pj_iconst 39 rfl rfl ?_
  obtain ⟨q6, h⟩ := h
  refine pj_icmp_ne 51 42 rfl (by decide) rfl q6 (show pj_in (-1) by decide) (fun hc => ?_) (fun hc => ?_)
  · replace h := h.1 hc
    refine pj_aload_n 52 0 rfl rfl rfl rfl ?_
    refine pj_dup 53 rfl rfl rfl ?_
    refine pn_geti 56 12 7 7 o0 rfl pfX12_105 (Or.inl rfl) rfl rfl ?_
    refine pj_iconst 57 rfl rfl ?_
    refine pj_iadd 58 rfl rfl ?_
    refine pn_puti 61 12 7 7 o0  rfl pfX12_105 rfl rfl rfl (fun M7 hM7 => ?_)
    replace h := h M7 hM7
    refine pj_aload_n 62 0 rfl rfl rfl rfl ?_
    refine pn_getr 65 12 36 hg o0 (pr_12_36 o0).2 rfl pfX12_85 rfl rfl ?_
    refine pj_iload_n 66 1 rfl rfl rfl rfl ?_
    refine pj_iload_n 67 2 rfl rfl rfl rfl ?_
    obtain ⟨q8, h⟩ := h
    refine pn_iast 68 240 (pr_12_36 o0)  q8 rfl rfl (fun M9 hM9 => ?_)
    replace h := h M9 hM9
    refine pj_aload_n 69 0 rfl rfl rfl rfl ?_
    refine pn_getr 72 12 36 hg o0 (pr_12_36 o0).2 rfl pfX12_85 rfl rfl ?_
    refine pj_iload_n 73 1 rfl rfl rfl rfl ?_
    refine pj_iconst 74 rfl rfl ?_
    refine pj_iadd 75 rfl rfl ?_
    refine pj_aload_n 76 0 rfl rfl rfl rfl ?_
    refine pn_callVi 79 12 [] [.int (pj_I (x1 + 1)), .ref (pj_rf r0 36)] o0 (s_X12_twoDigits hg o0 h) plX12_357 rfl rfl rfl rfl (Nat.le_of_ble_eq_true rfl) (by decide) (fun t11 M10 h => ?_)
    obtain ⟨q12, h⟩ := h
    refine pn_iast 80 240 (pr_12_36 o0)  q12 rfl rfl (fun M13 hM13 => ?_)
    replace h := h M13 hM13
    refine pj_aload_n 81 0 rfl rfl rfl rfl ?_
    refine pn_getr 84 12 36 hg o0 (pr_12_36 o0).2 rfl pfX12_85 rfl rfl ?_
    refine pj_iload_n 85 1 rfl rfl rfl rfl ?_
    refine pj_iconst 86 rfl rfl ?_
    refine pj_iadd 87 rfl rfl ?_
    refine pj_iload_n 88 2 rfl rfl rfl rfl ?_
    refine pj_iconst 89 rfl rfl ?_
    obtain ⟨q14, h⟩ := h
    refine pj_icmp_ne 96 92 rfl (by decide) rfl q14 (show pj_in 2 by decide) (fun hc => ?_) (fun hc => ?_)
    · replace h := h.1 hc
      refine pj_aload_n 97 0 rfl rfl rfl rfl ?_
      refine pj_bipush 99 rfl (by decide) rfl ?_
      refine pj_bipush 101 rfl (by decide) rfl ?_
      refine pn_callVi 104 12 [.int (pj_I 97), .int (pj_I 8)] [.int (pj_I (x1 + 2)), .ref (pj_rf r0 36)] o0 (s_X12_oneOf hg o0 h) plX12_123 rfl rfl rfl rfl (Nat.le_of_ble_eq_true rfl) (by decide) (fun t16 M15 h => ?_)
      refine pn_sub [] rfl ?_
      exact s_X12_readAct_104 hg  (pr_12_36 o0)  h
    · replace h := h.2 (Classical.not_not.mp hc)
      refine pj_iconst 93 rfl rfl ?_
      refine pj_goto 104 rfl (by decide) ?_
      refine pn_sub [] rfl ?_
      exact s_X12_readAct_104 hg  (pr_12_36 o0)  h
  · replace h := h.2 (Classical.not_not.mp hc)
    refine pj_aload_n 43 0 rfl rfl rfl rfl ?_
    refine pj_aload_n 44 0 rfl rfl rfl rfl ?_
    refine pn_geti 47 12 7 7 o0 rfl pfX12_105 (Or.inl rfl) rfl rfl ?_
    refine pn_callVv 50 12 [.int (pj_I (M r0 7))] [] o0 (s_X12_fault hg o0 h) plX12_119 rfl rfl rfl rfl (Nat.le_of_ble_eq_true rfl) (by decide) (fun M19 h => ?_)
    exact pn_vret h rfl rfl
set_option maxRecDepth 20000 in
set_option maxHeartbeats 4000000 in
theorem s_X12_readAct {l : Launch} {g : pj_G} (hg : pj_ph g = true) {r0 : Nat} {x1 : Int} {M : pj_M} {Q : pj_M → Prop} (o0 : pj_ob r0 12) (h : w_X12_readAct r0 x1 M Q) : pj_S l g mdX12_readAct [.ref r0, .int (pj_I x1)] pj_NK M (pj_qv Q) := by
  refine pj_ofR (ls := [(0, .ref r0), (1, .int (pj_I x1))]) gcX12_readAct (by decide) rfl (Nat.le_of_ble_eq_true rfl) rfl ?_
  unfold w_X12_readAct at h
  refine pj_aload_n 1 0 rfl rfl rfl rfl ?_
  refine pn_callVi 4 12 [] [] o0 (s_X12_here hg o0 h) plX12_115 rfl rfl rfl rfl (Nat.le_of_ble_eq_true rfl) (by decide) (fun t2 M1 h => ?_)
  refine pj_istore_n 5 (ls' := [(0, .ref r0), (1, .int (pj_I x1)), (2, .int (pj_I t2))]) rfl rfl (by decide) rfl rfl ?_
  refine pj_iload_n 6 2 rfl rfl rfl rfl ?_
  refine pj_bipush 8 rfl (by decide) rfl ?_
  obtain ⟨q3, h⟩ := h
  refine pj_icmp_ne 15 11 rfl (by decide) rfl q3 (show pj_in 114 by decide) (fun hc => ?_) (fun hc => ?_)
  · replace h := h.1 hc
    refine pj_iload_n 16 2 rfl rfl rfl rfl ?_
    refine pj_bipush 18 rfl (by decide) rfl ?_
    obtain ⟨q4, h⟩ := h
    refine pj_icmp_ne 25 21 rfl (by decide) rfl q4 (show pj_in 105 by decide) (fun hc => ?_) (fun hc => ?_)
    · replace h := h.1 hc
      refine pj_iload_n 26 2 rfl rfl rfl rfl ?_
      refine pj_bipush 28 rfl (by decide) rfl ?_
      obtain ⟨q5, h⟩ := h
      refine pj_icmp_ne 35 31 rfl (by decide) rfl q5 (show pj_in 100 by decide) (fun hc => ?_) (fun hc => ?_)
      · replace h := h.1 hc
        refine pj_iconst 36 rfl rfl ?_
        refine pn_sub [0, 1] rfl ?_
        exact s_X12_readAct_36 hg o0   h
      · replace h := h.2 (Classical.not_not.mp hc)
        refine pj_iconst 32 rfl rfl ?_
        refine pj_goto 36 rfl (by decide) ?_
        refine pn_sub [0, 1] rfl ?_
        exact s_X12_readAct_36 hg o0   h
    · replace h := h.2 (Classical.not_not.mp hc)
      refine pj_iconst 22 rfl rfl ?_
      refine pj_goto 36 rfl (by decide) ?_
      refine pn_sub [0, 1] rfl ?_
      exact s_X12_readAct_36 hg o0   h
  · replace h := h.2 (Classical.not_not.mp hc)
    refine pj_iconst 12 rfl rfl ?_
    refine pj_goto 36 rfl (by decide) ?_
    refine pn_sub [0, 1] rfl ?_
    exact s_X12_readAct_36 hg o0   h
def w_X12_day_154 (r0 : Nat) (x2 : Int) (u0 : Nat) (y1 : Int)  (Q : Int → pj_M → Prop) (M : pj_M) : Prop :=
  w_X12_tell u0 y1 M (fun (M17 : pj_M) => w_X12_reportWithout r0 0 M17 (fun (t20 : Int) (M19 : pj_M) => (pj_in t20) ∧ w_X12_tell r0 t20 M19 (fun (M22 : pj_M) => Q x2 M22)))
def w_X12_day_138 (r0 : Nat) (x1 : Int) (x2 : Int)  (Q : Int → pj_M → Prop) (M : pj_M) : Prop :=
  ∀ M14 : pj_M, M14 = pj_up M r0 4 0 → (pj_in x2) ∧ (pj_in x1) ∧ ((x1 ≤ x2 → w_X12_day_154 r0 x2 r0 0  Q M14) ∧ (¬ x1 ≤ x2 → w_X12_day_154 r0 x2 r0 1  Q M14))
def w_X12_day_130 (r0 : Nat) (x1 : Int) (x2 : Int)  (Q : Int → pj_M → Prop) (M : pj_M) : Prop :=
  (pj_in x2) ∧ ((x2 ≤ 0 → w_X12_day_138 r0 x1 x2  Q M) ∧ (¬ x2 ≤ 0 → w_X12_note r0 M (fun (M24 : pj_M) => w_X12_day_138 r0 x1 x2  Q M24)))
def w_X12_day_84b (r0 : Nat) (x1 : Int)  (Q : Int → pj_M → Prop) (k84 : Int → pj_M → Prop) (x2 : Int) (M : pj_M) : Prop :=
  (pj_in x2) ∧ (pj_in x1) ∧ ((x1 ≤ x2 → w_X12_day_130 r0 x1 x2  Q M) ∧ (¬ x1 ≤ x2 → ((0 : Int) ≤ (3 * x2) ∧ (3 * x2) < 240) ∧ ((0 : Int) ≤ ((3 * x2) + 1) ∧ ((3 * x2) + 1) < 240) ∧ ((0 : Int) ≤ ((3 * x2) + 2) ∧ ((3 * x2) + 2) < 240) ∧ w_X12_act r0 (M (pj_rf r0 36) (3 * x2)) (M (pj_rf r0 36) ((3 * x2) + 1)) (M (pj_rf r0 36) ((3 * x2) + 2)) M (fun (t30 : Int) (M29 : pj_M) => (pj_in t30) ∧ ((t30 = 0 → w_X12_day_130 r0 x1 x2  Q M29) ∧ (¬ t30 = 0 → k84 (x2 + 1) M29)))))
def w_X12_day_84 (r0 : Nat) (x1 : Int)  (Q : Int → pj_M → Prop) (x2 : Int) (M : pj_M) : Prop := pj_lp (fun (k : Int × pj_M → Prop) (s : Int × pj_M) => w_X12_day_84b r0 x1  Q (fun (x2 : Int) (M : pj_M) => k (x2, M)) s.1 s.2) (x2, M)
def w_X12_day_58b (r0 : Nat) (x1 : Int)  (Q : Int → pj_M → Prop) (k58 : Int → pj_M → Prop) (x2 : Int) (M : pj_M) : Prop :=
  (pj_in x2) ∧ ((95 ≤ x2 → w_X12_day_84 r0 x1  Q 0 M) ∧ (¬ 95 ≤ x2 → ((0 : Int) ≤ x2 ∧ x2 < 95) ∧ ((0 : Int) ≤ x2 ∧ x2 < 95) ∧ ∀ M34 : pj_M, M34 = pj_up M (pj_rf r0 35) x2 (M (pj_rf r0 0) x2) → k58 (x2 + 1) M34))
def w_X12_day_58 (r0 : Nat) (x1 : Int)  (Q : Int → pj_M → Prop) (x2 : Int) (M : pj_M) : Prop := pj_lp (fun (k : Int × pj_M → Prop) (s : Int × pj_M) => w_X12_day_58b r0 x1  Q (fun (x2 : Int) (M : pj_M) => k (x2, M)) s.1 s.2) (x2, M)
def w_X12_day_42 (r0 : Nat) (x1 : Int)  (Q : Int → pj_M → Prop) (M : pj_M) : Prop :=
  w_X12_wasRight r0 M (fun (t8 : Int) (M7 : pj_M) => (pj_in t8) ∧ ((¬ t8 = 0 → w_X12_day_58 r0 x1  Q 0 M7) ∧ (t8 = 0 → Q ((-1) - (M7 r0 8)) M7)))
def w_X12_day_11b (r0 : Nat)  (Q : Int → pj_M → Prop) (k11 : Int → pj_M → Prop) (x1 : Int) (M : pj_M) : Prop :=
  w_X12_fine r0 M (fun (t5 : Int) (M4 : pj_M) => (pj_in t5) ∧ ((t5 = 0 → w_X12_day_42 r0 x1  Q M4) ∧ (¬ t5 = 0 → (pj_in (M4 r0 7)) ∧ (pj_in (M4 r0 6)) ∧ (((M4 r0 6) ≤ (M4 r0 7) → w_X12_day_42 r0 x1  Q M4) ∧ (¬ (M4 r0 6) ≤ (M4 r0 7) → w_X12_readAct r0 (3 * x1) M4 (fun (M37 : pj_M) => k11 (x1 + 1) M37))))))
def w_X12_day_11 (r0 : Nat)  (Q : Int → pj_M → Prop) (x1 : Int) (M : pj_M) : Prop := pj_lp (fun (k : Int × pj_M → Prop) (s : Int × pj_M) => w_X12_day_11b r0  Q (fun (x1 : Int) (M : pj_M) => k (x1, M)) s.1 s.2) (x1, M)
def w_X12_day (r0 : Nat) (M : pj_M) (Q : Int → pj_M → Prop) : Prop :=
  ∀ M1 : pj_M, M1 = pj_up M r0 5 0 → w_X12_begin r0 M1 (fun (M2 : pj_M) => w_X12_day_11 r0  Q 0 M2)
set_option maxRecDepth 20000 in
set_option maxHeartbeats 4000000 in
theorem s_X12_day_154 {l : Launch} {g : pj_G} (hg : pj_ph g = true) {r0 : Nat} {x2 : Int} {u0 : Nat} {y1 : Int} {M : pj_M} {Q : Int → pj_M → Prop}  (o0 : pj_ob r0 12) (ou0 : pj_ob u0 12)  (h : w_X12_day_154 r0 x2 u0 y1  Q M) : pj_R l g mdX12_day pj_T (pj_Zm g mdX12_day (pj_qi Q)) pj_NK 0 0 154 [(0, .ref r0), (2, .int (pj_I x2))] [.long (pj_L y1), .ref u0] M := by
  unfold w_X12_day_154 at h
  refine pn_callVv 157 12 [.long (pj_L y1)] [] ou0 (s_X12_tell hg ou0 h) plX12_260 rfl rfl rfl rfl (Nat.le_of_ble_eq_true rfl) (by decide) (fun M17 h => ?_)
  refine pj_aload_n 158 0 rfl rfl rfl rfl ?_
  refine pj_aload_n 159 0 rfl rfl rfl rfl ?_
  refine pj_iconst 160 rfl rfl ?_
  refine pn_callVi 163 12 [.int (pj_I 0)] [.ref r0] o0 (s_X12_reportWithout hg o0 h) plX12_300 rfl rfl rfl rfl (Nat.le_of_ble_eq_true rfl) (by decide) (fun t20 M19 h => ?_)
  obtain ⟨q21, h⟩ := h
  refine pj_i2l 164 rfl rfl q21 ?_
  refine pn_callVv 167 12 [.long (pj_L t20)] [] o0 (s_X12_tell hg o0 h) plX12_260 rfl rfl rfl rfl (Nat.le_of_ble_eq_true rfl) (by decide) (fun M22 h => ?_)
  refine pj_iload_n 168 1 rfl rfl rfl rfl ?_
  exact pn_iret h rfl rfl
set_option maxRecDepth 20000 in
set_option maxHeartbeats 4000000 in
theorem s_X12_day_138 {l : Launch} {g : pj_G} (hg : pj_ph g = true) {r0 : Nat} {x1 : Int} {x2 : Int} {M : pj_M} {Q : Int → pj_M → Prop}  (o0 : pj_ob r0 12)  (h : w_X12_day_138 r0 x1 x2  Q M) : pj_R l g mdX12_day pj_T (pj_Zm g mdX12_day (pj_qi Q)) pj_NK 0 0 138 [(0, .ref r0), (1, .int (pj_I x1)), (2, .int (pj_I x2))] [] M := by
  unfold w_X12_day_138 at h
  refine pj_aload_n 139 0 rfl rfl rfl rfl ?_
  refine pj_iconst 140 rfl rfl ?_
  refine pn_puti 143 12 4 4 o0  rfl pfX12_92 rfl rfl rfl (fun M14 hM14 => ?_)
  replace h := h M14 hM14
  refine pj_aload_n 144 0 rfl rfl rfl rfl ?_
  refine pj_iload_n 145 2 rfl rfl rfl rfl ?_
  refine pj_iload_n 146 1 rfl rfl rfl rfl ?_
  obtain ⟨q15, h⟩ := h
  obtain ⟨q16, h⟩ := h
  refine pj_icmp_ge 153 149 rfl (by decide) rfl q15 q16 (fun hc => ?_) (fun hc => ?_)
  · replace h := h.1 hc
    refine pj_lconst 154 0 rfl (by decide) rfl ?_
    refine pn_sub [0, 2] rfl ?_
    exact s_X12_day_154 hg o0 o0  h
  · replace h := h.2 hc
    refine pj_lconst 150 1 rfl (by decide) rfl ?_
    refine pj_goto 154 rfl (by decide) ?_
    refine pn_sub [0, 2] rfl ?_
    exact s_X12_day_154 hg o0 o0  h
set_option maxRecDepth 20000 in
set_option maxHeartbeats 4000000 in
theorem s_X12_day_130 {l : Launch} {g : pj_G} (hg : pj_ph g = true) {r0 : Nat} {x1 : Int} {x2 : Int} {M : pj_M} {Q : Int → pj_M → Prop}  (o0 : pj_ob r0 12)  (h : w_X12_day_130 r0 x1 x2  Q M) : pj_R l g mdX12_day pj_T (pj_Zm g mdX12_day (pj_qi Q)) pj_NK 0 0 130 [(0, .ref r0), (1, .int (pj_I x1)), (2, .int (pj_I x2))] [] M := by
  unfold w_X12_day_130 at h
  refine pj_iload_n 131 2 rfl rfl rfl rfl ?_
  obtain ⟨q13, h⟩ := h
  refine pj_if_le 138 134 rfl (by decide) rfl q13  (fun hc => ?_) (fun hc => ?_)
  · replace h := h.1 hc
    refine pn_sub [0, 1, 2] rfl ?_
    exact s_X12_day_138 hg o0   h
  · replace h := h.2 hc
    refine pj_aload_n 135 0 rfl rfl rfl rfl ?_
    refine pn_callVv 138 12 [] [] o0 (s_X12_note hg o0 h) plX12_339 rfl rfl rfl rfl (Nat.le_of_ble_eq_true rfl) (by decide) (fun M24 h => ?_)
    refine pn_sub [0, 1, 2] rfl ?_
    exact s_X12_day_138 hg o0   h
set_option maxRecDepth 20000 in
set_option maxHeartbeats 4000000 in
theorem s_X12_day_84b {l : Launch} {g : pj_G} (hg : pj_ph g = true) {r0 : Nat} {x1 : Int} {x2 : Int} {M : pj_M} {Q : Int → pj_M → Prop}  {k84 : Int → pj_M → Prop} (o0 : pj_ob r0 12)  (hk84 : ∀ (x2 : Int) (M : pj_M), k84 x2 M → pj_R l g mdX12_day pj_T (pj_Zm g mdX12_day (pj_qi Q)) pj_NK 0 0 84 [(0, .ref r0), (1, .int (pj_I x1)), (2, .int (pj_I x2))] [] M) (h : w_X12_day_84b r0 x1  Q k84 x2 M) : pj_R l g mdX12_day pj_T (pj_Zm g mdX12_day (pj_qi Q)) pj_NK 0 0 84 [(0, .ref r0), (1, .int (pj_I x1)), (2, .int (pj_I x2))] [] M := by
  unfold w_X12_day_84b at h
  refine pj_iload_n 85 2 rfl rfl rfl rfl ?_
  refine pj_iload_n 86 1 rfl rfl rfl rfl ?_
  obtain ⟨q11, h⟩ := h
  obtain ⟨q12, h⟩ := h
  refine pj_icmp_ge 130 89 rfl (by decide) rfl q11 q12 (fun hc => ?_) (fun hc => ?_)
  · replace h := h.1 hc
    refine pn_sub [0, 1, 2] rfl ?_
    exact s_X12_day_130 hg o0   h
  · replace h := h.2 hc
    refine pj_aload_n 90 0 rfl rfl rfl rfl ?_
    refine pj_aload_n 91 0 rfl rfl rfl rfl ?_
    refine pn_getr 94 12 36 hg o0 (pr_12_36 o0).2 rfl pfX12_85 rfl rfl ?_
    refine pj_iconst 95 rfl rfl ?_
    refine pj_iload_n 96 2 rfl rfl rfl rfl ?_
    refine pj_imul 97 rfl rfl ?_
    obtain ⟨q26, h⟩ := h
    refine pn_iald 98 240 (pr_12_36 o0) q26 rfl rfl ?_
    refine pj_aload_n 99 0 rfl rfl rfl rfl ?_
    refine pn_getr 102 12 36 hg o0 (pr_12_36 o0).2 rfl pfX12_85 rfl rfl ?_
    refine pj_iconst 103 rfl rfl ?_
    refine pj_iload_n 104 2 rfl rfl rfl rfl ?_
    refine pj_imul 105 rfl rfl ?_
    refine pj_iconst 106 rfl rfl ?_
    refine pj_iadd 107 rfl rfl ?_
    obtain ⟨q27, h⟩ := h
    refine pn_iald 108 240 (pr_12_36 o0) q27 rfl rfl ?_
    refine pj_aload_n 109 0 rfl rfl rfl rfl ?_
    refine pn_getr 112 12 36 hg o0 (pr_12_36 o0).2 rfl pfX12_85 rfl rfl ?_
    refine pj_iconst 113 rfl rfl ?_
    refine pj_iload_n 114 2 rfl rfl rfl rfl ?_
    refine pj_imul 115 rfl rfl ?_
    refine pj_iconst 116 rfl rfl ?_
    refine pj_iadd 117 rfl rfl ?_
    obtain ⟨q28, h⟩ := h
    refine pn_iald 118 240 (pr_12_36 o0) q28 rfl rfl ?_
    refine pn_callVi 121 12 [.int (pj_I (M (pj_rf r0 36) (3 * x2))), .int (pj_I (M (pj_rf r0 36) ((3 * x2) + 1))), .int (pj_I (M (pj_rf r0 36) ((3 * x2) + 2)))] [] o0 (s_X12_act hg o0 h) plX12_363 rfl rfl rfl rfl (Nat.le_of_ble_eq_true rfl) (by decide) (fun t30 M29 h => ?_)
    obtain ⟨q31, h⟩ := h
    refine pj_if_eq 130 124 rfl (by decide) rfl q31  (fun hc => ?_) (fun hc => ?_)
    · replace h := h.1 hc
      refine pn_sub [0, 1, 2] rfl ?_
      exact s_X12_day_130 hg o0   h
    · replace h := h.2 hc
      refine pj_iinc 127 2 (ls' := [(0, .ref r0), (1, .int (pj_I x1)), (2, .int (pj_I (x2 + 1)))]) rfl rfl (by decide) rfl rfl ?_
      refine pj_goto 84 rfl (by decide) ?_
      refine pn_sub [0, 1, 2] rfl ?_
      exact hk84 _ _ h
set_option maxRecDepth 20000 in
set_option maxHeartbeats 4000000 in
theorem s_X12_day_84 {l : Launch} {g : pj_G} (hg : pj_ph g = true) {r0 : Nat} {x1 : Int} {x2 : Int} {M : pj_M} {Q : Int → pj_M → Prop}  (o0 : pj_ob r0 12)  (h : w_X12_day_84 r0 x1  Q x2 M) : pj_R l g mdX12_day pj_T (pj_Zm g mdX12_day (pj_qi Q)) pj_NK 0 0 84 [(0, .ref r0), (1, .int (pj_I x1)), (2, .int (pj_I x2))] [] M :=
  h (fun s => pj_R l g mdX12_day pj_T (pj_Zm g mdX12_day (pj_qi Q)) pj_NK 0 0 84 [(0, .ref r0), (1, .int (pj_I x1)), (2, .int (pj_I (s.1)))] [] s.2) (fun s hs => s_X12_day_84b hg o0  (fun _ _ q => q) hs)
set_option maxRecDepth 20000 in
set_option maxHeartbeats 4000000 in
theorem s_X12_day_58b {l : Launch} {g : pj_G} (hg : pj_ph g = true) {r0 : Nat} {x1 : Int} {x2 : Int} {M : pj_M} {Q : Int → pj_M → Prop}  {k58 : Int → pj_M → Prop} (o0 : pj_ob r0 12)  (hk58 : ∀ (x2 : Int) (M : pj_M), k58 x2 M → pj_R l g mdX12_day pj_T (pj_Zm g mdX12_day (pj_qi Q)) pj_NK 0 0 58 [(0, .ref r0), (1, .int (pj_I x1)), (2, .int (pj_I x2))] [] M) (h : w_X12_day_58b r0 x1  Q k58 x2 M) : pj_R l g mdX12_day pj_T (pj_Zm g mdX12_day (pj_qi Q)) pj_NK 0 0 58 [(0, .ref r0), (1, .int (pj_I x1)), (2, .int (pj_I x2))] [] M := by
  unfold w_X12_day_58b at h
  refine pj_iload_n 59 2 rfl rfl rfl rfl ?_
  refine pj_bipush 61 rfl (by decide) rfl ?_
  obtain ⟨q10, h⟩ := h
  refine pj_icmp_ge 82 64 rfl (by decide) rfl q10 (show pj_in 95 by decide) (fun hc => ?_) (fun hc => ?_)
  · replace h := h.1 hc
    refine pj_iconst 83 rfl rfl ?_
    refine pj_istore_n 84 (ls' := [(0, .ref r0), (1, .int (pj_I x1)), (2, .int (pj_I 0))]) rfl rfl (by decide) rfl rfl ?_
    refine pn_sub [0, 1, 2] rfl ?_
    exact s_X12_day_84 hg o0   h
  · replace h := h.2 hc
    refine pj_aload_n 65 0 rfl rfl rfl rfl ?_
    refine pn_getr 68 12 35 hg o0 (pr_12_35 o0).2 rfl pfX12_82 rfl rfl ?_
    refine pj_iload_n 69 2 rfl rfl rfl rfl ?_
    refine pj_aload_n 70 0 rfl rfl rfl rfl ?_
    refine pn_getr 73 12 0 hg o0 (pr_12_0 o0).2 rfl pfX12_9 rfl rfl ?_
    refine pj_iload_n 74 2 rfl rfl rfl rfl ?_
    obtain ⟨q32, h⟩ := h
    refine pn_iald 75 95 (pr_12_0 o0) q32 rfl rfl ?_
    obtain ⟨q33, h⟩ := h
    refine pn_iast 76 95 (pr_12_35 o0)  q33 rfl rfl (fun M34 hM34 => ?_)
    replace h := h M34 hM34
    refine pj_iinc 79 2 (ls' := [(0, .ref r0), (1, .int (pj_I x1)), (2, .int (pj_I (x2 + 1)))]) rfl rfl (by decide) rfl rfl ?_
    refine pj_goto 58 rfl (by decide) ?_
    refine pn_sub [0, 1, 2] rfl ?_
    exact hk58 _ _ h
set_option maxRecDepth 20000 in
set_option maxHeartbeats 4000000 in
theorem s_X12_day_58 {l : Launch} {g : pj_G} (hg : pj_ph g = true) {r0 : Nat} {x1 : Int} {x2 : Int} {M : pj_M} {Q : Int → pj_M → Prop}  (o0 : pj_ob r0 12)  (h : w_X12_day_58 r0 x1  Q x2 M) : pj_R l g mdX12_day pj_T (pj_Zm g mdX12_day (pj_qi Q)) pj_NK 0 0 58 [(0, .ref r0), (1, .int (pj_I x1)), (2, .int (pj_I x2))] [] M :=
  h (fun s => pj_R l g mdX12_day pj_T (pj_Zm g mdX12_day (pj_qi Q)) pj_NK 0 0 58 [(0, .ref r0), (1, .int (pj_I x1)), (2, .int (pj_I (s.1)))] [] s.2) (fun s hs => s_X12_day_58b hg o0  (fun _ _ q => q) hs)
set_option maxRecDepth 20000 in
set_option maxHeartbeats 4000000 in
theorem s_X12_day_42 {l : Launch} {g : pj_G} (hg : pj_ph g = true) {r0 : Nat} {x1 : Int} {M : pj_M} {Q : Int → pj_M → Prop}  (o0 : pj_ob r0 12)  (h : w_X12_day_42 r0 x1  Q M) : pj_R l g mdX12_day pj_T (pj_Zm g mdX12_day (pj_qi Q)) pj_NK 0 0 42 [(0, .ref r0), (1, .int (pj_I x1))] [] M := by
  unfold w_X12_day_42 at h
  refine pj_aload_n 43 0 rfl rfl rfl rfl ?_
  refine pn_callVi 46 12 [] [] o0 (s_X12_wasRight hg o0 h) plX12_149 rfl rfl rfl rfl (Nat.le_of_ble_eq_true rfl) (by decide) (fun t8 M7 h => ?_)
  obtain ⟨q9, h⟩ := h
  refine pj_if_ne 56 49 rfl (by decide) rfl q9  (fun hc => ?_) (fun hc => ?_)
  · replace h := h.1 hc
    refine pj_iconst 57 rfl rfl ?_
    refine pj_istore_n 58 (ls' := [(0, .ref r0), (1, .int (pj_I x1)), (2, .int (pj_I 0))]) rfl rfl (by decide) rfl rfl ?_
    refine pn_sub [0, 1, 2] rfl ?_
    exact s_X12_day_58 hg o0   h
  · replace h := h.2 (Classical.not_not.mp hc)
    refine pj_iconst 50 rfl rfl ?_
    refine pj_aload_n 51 0 rfl rfl rfl rfl ?_
    refine pn_geti 54 12 8 8 o0 rfl pfX12_108 (Or.inl rfl) rfl rfl ?_
    refine pj_isub 55 rfl rfl ?_
    exact pn_iret h rfl rfl
set_option maxRecDepth 20000 in
set_option maxHeartbeats 4000000 in
theorem s_X12_day_11b {l : Launch} {g : pj_G} (hg : pj_ph g = true) {r0 : Nat} {x1 : Int} {M : pj_M} {Q : Int → pj_M → Prop}  {k11 : Int → pj_M → Prop} (o0 : pj_ob r0 12)  (hk11 : ∀ (x1 : Int) (M : pj_M), k11 x1 M → pj_R l g mdX12_day pj_T (pj_Zm g mdX12_day (pj_qi Q)) pj_NK 0 0 11 [(0, .ref r0), (1, .int (pj_I x1))] [] M) (h : w_X12_day_11b r0  Q k11 x1 M) : pj_R l g mdX12_day pj_T (pj_Zm g mdX12_day (pj_qi Q)) pj_NK 0 0 11 [(0, .ref r0), (1, .int (pj_I x1))] [] M := by
  unfold w_X12_day_11b at h
  refine pj_aload_n 12 0 rfl rfl rfl rfl ?_
  refine pn_callVi 15 12 [] [] o0 (s_X12_fine hg o0 h) plX12_111 rfl rfl rfl rfl (Nat.le_of_ble_eq_true rfl) (by decide) (fun t5 M4 h => ?_)
  obtain ⟨q6, h⟩ := h
  refine pj_if_eq 42 18 rfl (by decide) rfl q6  (fun hc => ?_) (fun hc => ?_)
  · replace h := h.1 hc
    refine pn_sub [0, 1] rfl ?_
    exact s_X12_day_42 hg o0   h
  · replace h := h.2 hc
    refine pj_aload_n 19 0 rfl rfl rfl rfl ?_
    refine pn_geti 22 12 7 7 o0 rfl pfX12_105 (Or.inl rfl) rfl rfl ?_
    refine pj_aload_n 23 0 rfl rfl rfl rfl ?_
    refine pn_geti 26 12 6 6 o0 rfl pfX12_102 (Or.inl rfl) rfl rfl ?_
    obtain ⟨q35, h⟩ := h
    obtain ⟨q36, h⟩ := h
    refine pj_icmp_ge 42 29 rfl (by decide) rfl q35 q36 (fun hc => ?_) (fun hc => ?_)
    · replace h := h.1 hc
      refine pn_sub [0, 1] rfl ?_
      exact s_X12_day_42 hg o0   h
    · replace h := h.2 hc
      refine pj_aload_n 30 0 rfl rfl rfl rfl ?_
      refine pj_iconst 31 rfl rfl ?_
      refine pj_iload_n 32 1 rfl rfl rfl rfl ?_
      refine pj_imul 33 rfl rfl ?_
      refine pn_callVv 36 12 [.int (pj_I (3 * x1))] [] o0 (s_X12_readAct hg o0 h) plX12_360 rfl rfl rfl rfl (Nat.le_of_ble_eq_true rfl) (by decide) (fun M37 h => ?_)
      refine pj_iinc 39 1 (ls' := [(0, .ref r0), (1, .int (pj_I (x1 + 1)))]) rfl rfl (by decide) rfl rfl ?_
      refine pj_goto 11 rfl (by decide) ?_
      refine pn_sub [0, 1] rfl ?_
      exact hk11 _ _ h
set_option maxRecDepth 20000 in
set_option maxHeartbeats 4000000 in
theorem s_X12_day_11 {l : Launch} {g : pj_G} (hg : pj_ph g = true) {r0 : Nat} {x1 : Int} {M : pj_M} {Q : Int → pj_M → Prop}  (o0 : pj_ob r0 12)  (h : w_X12_day_11 r0  Q x1 M) : pj_R l g mdX12_day pj_T (pj_Zm g mdX12_day (pj_qi Q)) pj_NK 0 0 11 [(0, .ref r0), (1, .int (pj_I x1))] [] M :=
  h (fun s => pj_R l g mdX12_day pj_T (pj_Zm g mdX12_day (pj_qi Q)) pj_NK 0 0 11 [(0, .ref r0), (1, .int (pj_I (s.1)))] [] s.2) (fun s hs => s_X12_day_11b hg o0  (fun _ _ q => q) hs)
set_option maxRecDepth 20000 in
set_option maxHeartbeats 4000000 in
theorem s_X12_day {l : Launch} {g : pj_G} (hg : pj_ph g = true) {r0 : Nat} {M : pj_M} {Q : Int → pj_M → Prop} (o0 : pj_ob r0 12) (h : w_X12_day r0 M Q) : pj_S l g mdX12_day [.ref r0] pj_NK M (pj_qi Q) := by
  refine pj_ofR (ls := [(0, .ref r0)]) gcX12_day (by decide) rfl (Nat.le_of_ble_eq_true rfl) rfl ?_
  unfold w_X12_day at h
  refine pj_aload_n 1 0 rfl rfl rfl rfl ?_
  refine pj_iconst 2 rfl rfl ?_
  refine pn_puti 5 12 5 5 o0  rfl pfX12_88 rfl rfl rfl (fun M1 hM1 => ?_)
  replace h := h M1 hM1
  refine pj_aload_n 6 0 rfl rfl rfl rfl ?_
  refine pn_callVv 9 12 [] [] o0 (s_X12_begin hg o0 h) plX12_143 rfl rfl rfl rfl (Nat.le_of_ble_eq_true rfl) (by decide) (fun M2 h => ?_)
  refine pj_iconst 10 rfl rfl ?_
  refine pj_istore_n 11 (ls' := [(0, .ref r0), (1, .int (pj_I 0))]) rfl rfl (by decide) rfl rfl ?_
  refine pn_sub [0, 1] rfl ?_
  exact s_X12_day_11 hg o0   h
def w_X12_undo_26b (r0 : Nat)  (Q : Int → pj_M → Prop) (k26 : Int → pj_M → Prop) (x1 : Int) (M : pj_M) : Prop :=
  (pj_in x1) ∧ ((95 ≤ x1 → Q (M r0 34) M) ∧ (¬ 95 ≤ x1 → ((0 : Int) ≤ ((95 * (M r0 34)) + x1) ∧ ((95 * (M r0 34)) + x1) < 950) ∧ ((0 : Int) ≤ x1 ∧ x1 < 95) ∧ ∀ M7 : pj_M, M7 = pj_up M (pj_rf r0 0) x1 (M (pj_rf r0 33) ((95 * (M r0 34)) + x1)) → k26 (x1 + 1) M7))
def w_X12_undo_26 (r0 : Nat)  (Q : Int → pj_M → Prop) (x1 : Int) (M : pj_M) : Prop := pj_lp (fun (k : Int × pj_M → Prop) (s : Int × pj_M) => w_X12_undo_26b r0  Q (fun (x1 : Int) (M : pj_M) => k (x1, M)) s.1 s.2) (x1, M)
def w_X12_undo (r0 : Nat) (M : pj_M) (Q : Int → pj_M → Prop) : Prop :=
  ∀ M1 : pj_M, M1 = pj_up M r0 5 0 → (pj_in (M1 r0 34)) ∧ ((¬ (M1 r0 34) = 0 → ∀ M3 : pj_M, M3 = pj_up M1 r0 34 ((M1 r0 34) - 1) → w_X12_undo_26 r0  Q 0 M3) ∧ ((M1 r0 34) = 0 → Q (-1) M1))
set_option maxRecDepth 20000 in
set_option maxHeartbeats 4000000 in
theorem s_X12_undo_26b {l : Launch} {g : pj_G} (hg : pj_ph g = true) {r0 : Nat} {x1 : Int} {M : pj_M} {Q : Int → pj_M → Prop}  {k26 : Int → pj_M → Prop} (o0 : pj_ob r0 12)  (hk26 : ∀ (x1 : Int) (M : pj_M), k26 x1 M → pj_R l g mdX12_undo pj_T (pj_Zm g mdX12_undo (pj_qi Q)) pj_NK 0 0 26 [(0, .ref r0), (1, .int (pj_I x1))] [] M) (h : w_X12_undo_26b r0  Q k26 x1 M) : pj_R l g mdX12_undo pj_T (pj_Zm g mdX12_undo (pj_qi Q)) pj_NK 0 0 26 [(0, .ref r0), (1, .int (pj_I x1))] [] M := by
  unfold w_X12_undo_26b at h
  refine pj_iload_n 27 1 rfl rfl rfl rfl ?_
  refine pj_bipush 29 rfl (by decide) rfl ?_
  obtain ⟨q4, h⟩ := h
  refine pj_icmp_ge 58 32 rfl (by decide) rfl q4 (show pj_in 95 by decide) (fun hc => ?_) (fun hc => ?_)
  · replace h := h.1 hc
    refine pj_aload_n 59 0 rfl rfl rfl rfl ?_
    refine pn_geti 62 12 34 34 o0 rfl pfX12_342 (Or.inl rfl) rfl rfl ?_
    exact pn_iret h rfl rfl
  · replace h := h.2 hc
    refine pj_aload_n 33 0 rfl rfl rfl rfl ?_
    refine pn_getr 36 12 0 hg o0 (pr_12_0 o0).2 rfl pfX12_9 rfl rfl ?_
    refine pj_iload_n 37 1 rfl rfl rfl rfl ?_
    refine pj_aload_n 38 0 rfl rfl rfl rfl ?_
    refine pn_getr 41 12 33 hg o0 (pr_12_33 o0).2 rfl pfX12_79 rfl rfl ?_
    refine pj_bipush 43 rfl (by decide) rfl ?_
    refine pj_aload_n 44 0 rfl rfl rfl rfl ?_
    refine pn_geti 47 12 34 34 o0 rfl pfX12_342 (Or.inl rfl) rfl rfl ?_
    refine pj_imul 48 rfl rfl ?_
    refine pj_iload_n 49 1 rfl rfl rfl rfl ?_
    refine pj_iadd 50 rfl rfl ?_
    obtain ⟨q5, h⟩ := h
    refine pn_iald 51 950 (pr_12_33 o0) q5 rfl rfl ?_
    obtain ⟨q6, h⟩ := h
    refine pn_iast 52 95 (pr_12_0 o0)  q6 rfl rfl (fun M7 hM7 => ?_)
    replace h := h M7 hM7
    refine pj_iinc 55 1 (ls' := [(0, .ref r0), (1, .int (pj_I (x1 + 1)))]) rfl rfl (by decide) rfl rfl ?_
    refine pj_goto 26 rfl (by decide) ?_
    refine pn_sub [0, 1] rfl ?_
    exact hk26 _ _ h
set_option maxRecDepth 20000 in
set_option maxHeartbeats 4000000 in
theorem s_X12_undo_26 {l : Launch} {g : pj_G} (hg : pj_ph g = true) {r0 : Nat} {x1 : Int} {M : pj_M} {Q : Int → pj_M → Prop}  (o0 : pj_ob r0 12)  (h : w_X12_undo_26 r0  Q x1 M) : pj_R l g mdX12_undo pj_T (pj_Zm g mdX12_undo (pj_qi Q)) pj_NK 0 0 26 [(0, .ref r0), (1, .int (pj_I x1))] [] M :=
  h (fun s => pj_R l g mdX12_undo pj_T (pj_Zm g mdX12_undo (pj_qi Q)) pj_NK 0 0 26 [(0, .ref r0), (1, .int (pj_I (s.1)))] [] s.2) (fun s hs => s_X12_undo_26b hg o0  (fun _ _ q => q) hs)
set_option maxRecDepth 20000 in
set_option maxHeartbeats 4000000 in
theorem s_X12_undo {l : Launch} {g : pj_G} (hg : pj_ph g = true) {r0 : Nat} {M : pj_M} {Q : Int → pj_M → Prop} (o0 : pj_ob r0 12) (h : w_X12_undo r0 M Q) : pj_S l g mdX12_undo [.ref r0] pj_NK M (pj_qi Q) := by
  refine pj_ofR (ls := [(0, .ref r0)]) gcX12_undo (by decide) rfl (Nat.le_of_ble_eq_true rfl) rfl ?_
  unfold w_X12_undo at h
  refine pj_aload_n 1 0 rfl rfl rfl rfl ?_
  refine pj_iconst 2 rfl rfl ?_
  refine pn_puti 5 12 5 5 o0  rfl pfX12_88 rfl rfl rfl (fun M1 hM1 => ?_)
  replace h := h M1 hM1
  refine pj_aload_n 6 0 rfl rfl rfl rfl ?_
  refine pn_geti 9 12 34 34 o0 rfl pfX12_342 (Or.inl rfl) rfl rfl ?_
  obtain ⟨q2, h⟩ := h
  refine pj_if_ne 14 12 rfl (by decide) rfl q2  (fun hc => ?_) (fun hc => ?_)
  · replace h := h.1 hc
    refine pj_aload_n 15 0 rfl rfl rfl rfl ?_
    refine pj_dup 16 rfl rfl rfl ?_
    refine pn_geti 19 12 34 34 o0 rfl pfX12_342 (Or.inl rfl) rfl rfl ?_
    refine pj_iconst 20 rfl rfl ?_
    refine pj_isub 21 rfl rfl ?_
    refine pn_puti 24 12 34 34 o0  rfl pfX12_342 rfl rfl rfl (fun M3 hM3 => ?_)
    replace h := h M3 hM3
    refine pj_iconst 25 rfl rfl ?_
    refine pj_istore_n 26 (ls' := [(0, .ref r0), (1, .int (pj_I 0))]) rfl rfl (by decide) rfl rfl ?_
    refine pn_sub [0, 1] rfl ?_
    exact s_X12_undo_26 hg o0   h
  · replace h := h.2 (Classical.not_not.mp hc)
    refine pj_iconst 13 rfl rfl ?_
    exact pn_iret h rfl rfl
def w_X12_draw (r0 : Nat) (x1 : Int) (M : pj_M) (Q : Int → pj_M → Prop) : Prop :=
  ∀ M1 : pj_M, M1 = pj_up M r0 37 (((M r0 37) * 1103515245) + 12345) → (pj_in x1) ∧ (¬ x1 = 0) ∧ Q (pj_rem (pj_ushr (M1 r0 37) 16) x1) M1
set_option maxRecDepth 20000 in
set_option maxHeartbeats 4000000 in
theorem s_X12_draw {l : Launch} {g : pj_G} (hg : pj_ph g = true) {r0 : Nat} {x1 : Int} {M : pj_M} {Q : Int → pj_M → Prop} (o0 : pj_ob r0 12) (h : w_X12_draw r0 x1 M Q) : pj_S l g mdX12_draw [.ref r0, .int (pj_I x1)] pj_NK M (pj_qi Q) := by
  refine pj_ofR (ls := [(0, .ref r0), (1, .int (pj_I x1))]) gcX12_draw (by decide) rfl (Nat.le_of_ble_eq_true rfl) rfl ?_
  unfold w_X12_draw at h
  refine pj_aload_n 1 0 rfl rfl rfl rfl ?_
  refine pj_aload_n 2 0 rfl rfl rfl rfl ?_
  refine pn_geti 5 12 37 37 o0 rfl pfX12_366 (Or.inl rfl) rfl rfl ?_
  refine pj_ldc_w 8 1103515245 rfl pkX12_369 rfl ?_
  refine pj_imul 9 rfl rfl ?_
  refine pj_sipush 12 rfl (by decide) rfl ?_
  refine pj_iadd 13 rfl rfl ?_
  refine pn_puti 16 12 37 37 o0  rfl pfX12_366 rfl rfl rfl (fun M1 hM1 => ?_)
  replace h := h M1 hM1
  refine pj_aload_n 17 0 rfl rfl rfl rfl ?_
  refine pn_geti 20 12 37 37 o0 rfl pfX12_366 (Or.inl rfl) rfl rfl ?_
  refine pj_bipush 22 rfl (by decide) rfl ?_
  refine pj_iushr 23 rfl rfl ?_
  refine pj_iload_n 24 1 rfl rfl rfl rfl ?_
  obtain ⟨q2, h⟩ := h
  obtain ⟨q3, h⟩ := h
  refine pj_irem 25 rfl rfl q2 q3 ?_
  exact pn_iret h rfl rfl
def w_X12_years_163b (r0 : Nat) (x4 : Int)  (Q : Int → pj_M → Prop) (k163 : Int → pj_M → Prop) (x5 : Int) (M : pj_M) : Prop :=
  (pj_in x5) ∧ ((95 ≤ x5 → Q x4 M) ∧ (¬ 95 ≤ x5 → ((0 : Int) ≤ x5 ∧ x5 < 95) ∧ ((0 : Int) ≤ x5 ∧ x5 < 95) ∧ ∀ M26 : pj_M, M26 = pj_up M (pj_rf r0 0) x5 (M (pj_rf r0 35) x5) → k163 (x5 + 1) M26))
def w_X12_years_163 (r0 : Nat) (x4 : Int)  (Q : Int → pj_M → Prop) (x5 : Int) (M : pj_M) : Prop := pj_lp (fun (k : Int × pj_M → Prop) (s : Int × pj_M) => w_X12_years_163b r0 x4  Q (fun (x5 : Int) (M : pj_M) => k (x5, M)) s.1 s.2) (x5, M)
def w_X12_years_113 (r0 : Nat) (x2 : Int) (x4 : Int) (y0 : Int) (y1 : Int) (k53 : Int → Int → pj_M → Prop) (Q : Int → pj_M → Prop) (M : pj_M) : Prop :=
  k53 (y0 + y1) (x4 + 1) M
def w_X12_years_92 (r0 : Nat) (x2 : Int) (x3 : Int) (x4 : Int) (x5 : Int) (x6 : Int) (y0 : Int) (k53 : Int → Int → pj_M → Prop) (Q : Int → pj_M → Prop) (M : pj_M) : Prop :=
  w_X12_act r0 x5 x6 y0 M (fun (t35 : Int) (M34 : pj_M) => (pj_in t35) ∧ ((t35 = 0 → w_X12_years_113 r0 x2 x4 x3 0 k53 Q M34) ∧ (¬ t35 = 0 → w_X12_years_113 r0 x2 x4 x3 1 k53 Q M34)))
def w_X12_years_53b (r0 : Nat) (x2 : Int)  (Q : Int → pj_M → Prop) (k53 : Int → Int → pj_M → Prop) (x3 : Int) (x4 : Int) (M : pj_M) : Prop :=
  (pj_in x4) ∧ (pj_in x2) ∧ ((x2 ≤ x4 → w_X12_reportWithout r0 0 M (fun (t10 : Int) (M9 : pj_M) => ∀ M11 : pj_M, M11 = pj_up M9 r0 4 0 → w_X12_neededOf r0 M11 (fun (t13 : Int) (M12 : pj_M) => (pj_in t13) ∧ w_X12_tell r0 t13 M12 (fun (M15 : pj_M) => (pj_in (M15 (pj_rf r0 0) 73)) ∧ w_X12_tell r0 (M15 (pj_rf r0 0) 73) M15 (fun (M18 : pj_M) => (pj_in x3) ∧ w_X12_tell r0 x3 M18 (fun (M21 : pj_M) => w_X12_years_163 r0 t10  Q 0 M21)))))) ∧ (¬ x2 ≤ x4 → w_X12_draw r0 3 M (fun (t28 : Int) (M27 : pj_M) => w_X12_draw r0 14 M27 (fun (t30 : Int) (M29 : pj_M) => (pj_in t28) ∧ ((¬ t28 = 2 → w_X12_draw r0 8 M29 (fun (t33 : Int) (M32 : pj_M) => w_X12_years_92 r0 x2 x3 x4 t28 (t30 + 1) t33 k53 Q M32)) ∧ (t28 = 2 → w_X12_years_92 r0 x2 x3 x4 t28 (t30 + 1) 0 k53 Q M29))))))
def w_X12_years_53 (r0 : Nat) (x2 : Int)  (Q : Int → pj_M → Prop) (x3 : Int) (x4 : Int) (M : pj_M) : Prop := pj_lp (fun (k : Int × Int × pj_M → Prop) (s : Int × Int × pj_M) => w_X12_years_53b r0 x2  Q (fun (x3 : Int) (x4 : Int) (M : pj_M) => k (x3, x4, M)) s.1 s.2.1 s.2.2) (x3, x4, M)
def w_X12_years_24b (r0 : Nat) (x2 : Int)  (Q : Int → pj_M → Prop) (k24 : Int → pj_M → Prop) (x3 : Int) (M : pj_M) : Prop :=
  (pj_in x3) ∧ ((95 ≤ x3 → w_X12_years_53 r0 x2  Q 0 0 M) ∧ (¬ 95 ≤ x3 → ((0 : Int) ≤ x3 ∧ x3 < 95) ∧ ((0 : Int) ≤ x3 ∧ x3 < 95) ∧ ∀ M39 : pj_M, M39 = pj_up M (pj_rf r0 35) x3 (M (pj_rf r0 0) x3) → k24 (x3 + 1) M39))
def w_X12_years_24 (r0 : Nat) (x2 : Int)  (Q : Int → pj_M → Prop) (x3 : Int) (M : pj_M) : Prop := pj_lp (fun (k : Int × pj_M → Prop) (s : Int × pj_M) => w_X12_years_24b r0 x2  Q (fun (x3 : Int) (M : pj_M) => k (x3, M)) s.1 s.2) (x3, M)
def w_X12_years (r0 : Nat) (x1 : Int) (x2 : Int) (M : pj_M) (Q : Int → pj_M → Prop) : Prop :=
  ∀ M1 : pj_M, M1 = pj_up M r0 5 0 → w_X12_in x2 1 20 M1 (fun (t3 : Int) (M2 : pj_M) => (pj_in t3) ∧ ((¬ t3 = 0 → ∀ M5 : pj_M, M5 = pj_up M2 r0 37 x1 → w_X12_years_24 r0 x2  Q 0 M5) ∧ (t3 = 0 → Q (-1) M2)))
set_option maxRecDepth 20000 in
set_option maxHeartbeats 4000000 in
theorem s_X12_years_163b {l : Launch} {g : pj_G} (hg : pj_ph g = true) {r0 : Nat} {x4 : Int} {x5 : Int} {M : pj_M} {Q : Int → pj_M → Prop}  {k163 : Int → pj_M → Prop} (o0 : pj_ob r0 12)  (hk163 : ∀ (x5 : Int) (M : pj_M), k163 x5 M → pj_R l g mdX12_years pj_T (pj_Zm g mdX12_years (pj_qi Q)) pj_NK 0 0 163 [(0, .ref r0), (4, .int (pj_I x4)), (5, .int (pj_I x5))] [] M) (h : w_X12_years_163b r0 x4  Q k163 x5 M) : pj_R l g mdX12_years pj_T (pj_Zm g mdX12_years (pj_qi Q)) pj_NK 0 0 163 [(0, .ref r0), (4, .int (pj_I x4)), (5, .int (pj_I x5))] [] M := by
  unfold w_X12_years_163b at h
  refine pj_iload 165 2 rfl rfl rfl ?_
  refine pj_bipush 167 rfl (by decide) rfl ?_
  obtain ⟨q23, h⟩ := h
  refine pj_icmp_ge 190 170 rfl (by decide) rfl q23 (show pj_in 95 by decide) (fun hc => ?_) (fun hc => ?_)
  · replace h := h.1 hc
    refine pj_iload 192 1 rfl rfl rfl ?_
    exact pn_iret h rfl rfl
  · replace h := h.2 hc
    refine pj_aload_n 171 0 rfl rfl rfl rfl ?_
    refine pn_getr 174 12 0 hg o0 (pr_12_0 o0).2 rfl pfX12_9 rfl rfl ?_
    refine pj_iload 176 2 rfl rfl rfl ?_
    refine pj_aload_n 177 0 rfl rfl rfl rfl ?_
    refine pn_getr 180 12 35 hg o0 (pr_12_35 o0).2 rfl pfX12_82 rfl rfl ?_
    refine pj_iload 182 2 rfl rfl rfl ?_
    obtain ⟨q24, h⟩ := h
    refine pn_iald 183 95 (pr_12_35 o0) q24 rfl rfl ?_
    obtain ⟨q25, h⟩ := h
    refine pn_iast 184 95 (pr_12_0 o0)  q25 rfl rfl (fun M26 hM26 => ?_)
    replace h := h M26 hM26
    refine pj_iinc 187 2 (ls' := [(0, .ref r0), (4, .int (pj_I x4)), (5, .int (pj_I (x5 + 1)))]) rfl rfl (by decide) rfl rfl ?_
    refine pj_goto 163 rfl (by decide) ?_
    refine pn_sub [0, 1, 2] rfl ?_
    exact hk163 _ _ h
set_option maxRecDepth 20000 in
set_option maxHeartbeats 4000000 in
theorem s_X12_years_163 {l : Launch} {g : pj_G} (hg : pj_ph g = true) {r0 : Nat} {x4 : Int} {x5 : Int} {M : pj_M} {Q : Int → pj_M → Prop}  (o0 : pj_ob r0 12)  (h : w_X12_years_163 r0 x4  Q x5 M) : pj_R l g mdX12_years pj_T (pj_Zm g mdX12_years (pj_qi Q)) pj_NK 0 0 163 [(0, .ref r0), (4, .int (pj_I x4)), (5, .int (pj_I x5))] [] M :=
  h (fun s => pj_R l g mdX12_years pj_T (pj_Zm g mdX12_years (pj_qi Q)) pj_NK 0 0 163 [(0, .ref r0), (4, .int (pj_I x4)), (5, .int (pj_I (s.1)))] [] s.2) (fun s hs => s_X12_years_163b hg o0  (fun _ _ q => q) hs)
set_option maxRecDepth 20000 in
set_option maxHeartbeats 4000000 in
theorem s_X12_years_113 {l : Launch} {g : pj_G} (hg : pj_ph g = true) {r0 : Nat} {x2 : Int} {x4 : Int} {y0 : Int} {y1 : Int} {M : pj_M} {Q : Int → pj_M → Prop} {k53 : Int → Int → pj_M → Prop} (o0 : pj_ob r0 12) (hk53 : ∀ (x3 : Int) (x4 : Int) (M : pj_M), k53 x3 x4 M → pj_R l g mdX12_years pj_T (pj_Zm g mdX12_years (pj_qi Q)) pj_NK 0 0 53 [(0, .ref r0), (2, .int (pj_I x2)), (3, .int (pj_I x3)), (4, .int (pj_I x4))] [] M) (h : w_X12_years_113 r0 x2 x4 y0 y1 k53 Q M) : pj_R l g mdX12_years pj_T (pj_Zm g mdX12_years (pj_qi Q)) pj_NK 0 0 113 [(0, .ref r0), (2, .int (pj_I x2)), (4, .int (pj_I x4))] [.int (pj_I y1), .int (pj_I y0)] M := by
  unfold w_X12_years_113 at h
  refine pj_iadd 114 rfl rfl ?_
  refine pj_istore_n 115 (ls' := [(0, .ref r0), (2, .int (pj_I x2)), (3, .int (pj_I (y0 + y1))), (4, .int (pj_I x4))]) rfl rfl (by decide) rfl rfl ?_
  refine pj_iinc 118 3 (ls' := [(0, .ref r0), (2, .int (pj_I x2)), (3, .int (pj_I (y0 + y1))), (4, .int (pj_I (x4 + 1)))]) rfl rfl (by decide) rfl rfl ?_
  refine pj_goto 53 rfl (by decide) ?_
  refine pn_sub [0, 1, 2, 3] rfl ?_
  exact hk53 _ _ _ h
set_option maxRecDepth 20000 in
set_option maxHeartbeats 4000000 in
theorem s_X12_years_92 {l : Launch} {g : pj_G} (hg : pj_ph g = true) {r0 : Nat} {x2 : Int} {x3 : Int} {x4 : Int} {x5 : Int} {x6 : Int} {y0 : Int} {M : pj_M} {Q : Int → pj_M → Prop} {k53 : Int → Int → pj_M → Prop} (o0 : pj_ob r0 12) (hk53 : ∀ (x3 : Int) (x4 : Int) (M : pj_M), k53 x3 x4 M → pj_R l g mdX12_years pj_T (pj_Zm g mdX12_years (pj_qi Q)) pj_NK 0 0 53 [(0, .ref r0), (2, .int (pj_I x2)), (3, .int (pj_I x3)), (4, .int (pj_I x4))] [] M) (h : w_X12_years_92 r0 x2 x3 x4 x5 x6 y0 k53 Q M) : pj_R l g mdX12_years pj_T (pj_Zm g mdX12_years (pj_qi Q)) pj_NK 0 0 92 [(0, .ref r0), (2, .int (pj_I x2)), (3, .int (pj_I x3)), (4, .int (pj_I x4)), (5, .int (pj_I x5)), (6, .int (pj_I x6))] [.int (pj_I y0)] M := by
  unfold w_X12_years_92 at h
  refine pj_istore 94 (ls' := [(0, .ref r0), (2, .int (pj_I x2)), (3, .int (pj_I x3)), (4, .int (pj_I x4)), (5, .int (pj_I x5)), (6, .int (pj_I x6)), (7, .int (pj_I y0))]) rfl (by decide) rfl rfl ?_
  refine pj_iload_n 95 2 rfl rfl rfl rfl ?_
  refine pj_aload_n 96 0 rfl rfl rfl rfl ?_
  refine pj_iload 98 4 rfl rfl rfl ?_
  refine pj_iload 100 5 rfl rfl rfl ?_
  refine pj_iload 102 6 rfl rfl rfl ?_
  refine pn_callVi 105 12 [.int (pj_I x5), .int (pj_I x6), .int (pj_I y0)] [.int (pj_I x3)] o0 (s_X12_act hg o0 h) plX12_363 rfl rfl rfl rfl (Nat.le_of_ble_eq_true rfl) (by decide) (fun t35 M34 h => ?_)
  obtain ⟨q36, h⟩ := h
  refine pj_if_eq 112 108 rfl (by decide) rfl q36  (fun hc => ?_) (fun hc => ?_)
  · replace h := h.1 hc
    refine pj_iconst 113 rfl rfl ?_
    refine pn_sub [0, 1, 3] rfl ?_
    exact s_X12_years_113 hg o0  hk53 h
  · replace h := h.2 hc
    refine pj_iconst 109 rfl rfl ?_
    refine pj_goto 113 rfl (by decide) ?_
    refine pn_sub [0, 1, 3] rfl ?_
    exact s_X12_years_113 hg o0  hk53 h
set_option maxRecDepth 20000 in
set_option maxHeartbeats 4000000 in
theorem s_X12_years_53b {l : Launch} {g : pj_G} (hg : pj_ph g = true) {r0 : Nat} {x2 : Int} {x3 : Int} {x4 : Int} {M : pj_M} {Q : Int → pj_M → Prop}  {k53 : Int → Int → pj_M → Prop} (o0 : pj_ob r0 12)  (hk53 : ∀ (x3 : Int) (x4 : Int) (M : pj_M), k53 x3 x4 M → pj_R l g mdX12_years pj_T (pj_Zm g mdX12_years (pj_qi Q)) pj_NK 0 0 53 [(0, .ref r0), (2, .int (pj_I x2)), (3, .int (pj_I x3)), (4, .int (pj_I x4))] [] M) (h : w_X12_years_53b r0 x2  Q k53 x3 x4 M) : pj_R l g mdX12_years pj_T (pj_Zm g mdX12_years (pj_qi Q)) pj_NK 0 0 53 [(0, .ref r0), (2, .int (pj_I x2)), (3, .int (pj_I x3)), (4, .int (pj_I x4))] [] M := by
  unfold w_X12_years_53b at h
  refine pj_iload 55 3 rfl rfl rfl ?_
  refine pj_iload_n 56 1 rfl rfl rfl rfl ?_
  obtain ⟨q7, h⟩ := h
  obtain ⟨q8, h⟩ := h
  refine pj_icmp_ge 121 59 rfl (by decide) rfl q7 q8 (fun hc => ?_) (fun hc => ?_)
  · replace h := h.1 hc
    refine pj_aload_n 122 0 rfl rfl rfl rfl ?_
    refine pj_iconst 123 rfl rfl ?_
    refine pn_callVi 126 12 [.int (pj_I 0)] [] o0 (s_X12_reportWithout hg o0 h) plX12_300 rfl rfl rfl rfl (Nat.le_of_ble_eq_true rfl) (by decide) (fun t10 M9 h => ?_)
    refine pj_istore 128 (ls' := [(0, .ref r0), (2, .int (pj_I x2)), (3, .int (pj_I x3)), (4, .int (pj_I t10))]) rfl (by decide) rfl rfl ?_
    refine pj_aload_n 129 0 rfl rfl rfl rfl ?_
    refine pj_iconst 130 rfl rfl ?_
    refine pn_puti 133 12 4 4 o0  rfl pfX12_92 rfl rfl rfl (fun M11 hM11 => ?_)
    replace h := h M11 hM11
    refine pj_aload_n 134 0 rfl rfl rfl rfl ?_
    refine pj_aload_n 135 0 rfl rfl rfl rfl ?_
    refine pn_callVi 138 12 [] [.ref r0] o0 (s_X12_neededOf hg o0 h) plX12_297 rfl rfl rfl rfl (Nat.le_of_ble_eq_true rfl) (by decide) (fun t13 M12 h => ?_)
    obtain ⟨q14, h⟩ := h
    refine pj_i2l 139 rfl rfl q14 ?_
    refine pn_callVv 142 12 [.long (pj_L t13)] [] o0 (s_X12_tell hg o0 h) plX12_260 rfl rfl rfl rfl (Nat.le_of_ble_eq_true rfl) (by decide) (fun M15 h => ?_)
    refine pj_aload_n 143 0 rfl rfl rfl rfl ?_
    refine pj_aload_n 144 0 rfl rfl rfl rfl ?_
    refine pn_getr 147 12 0 hg o0 (pr_12_0 o0).2 rfl pfX12_9 rfl rfl ?_
    refine pj_bipush 149 rfl (by decide) rfl ?_
    refine pn_iald 150 95 (pr_12_0 o0) (show 0 ≤ (73 : Int) ∧ (73 : Int) < ((95 : Nat) : Int) by decide) rfl rfl ?_
    obtain ⟨q17, h⟩ := h
    refine pj_i2l 151 rfl rfl q17 ?_
    refine pn_callVv 154 12 [.long (pj_L (M15 (pj_rf r0 0) 73))] [] o0 (s_X12_tell hg o0 h) plX12_260 rfl rfl rfl rfl (Nat.le_of_ble_eq_true rfl) (by decide) (fun M18 h => ?_)
    refine pj_aload_n 155 0 rfl rfl rfl rfl ?_
    refine pj_iload_n 156 2 rfl rfl rfl rfl ?_
    obtain ⟨q20, h⟩ := h
    refine pj_i2l 157 rfl rfl q20 ?_
    refine pn_callVv 160 12 [.long (pj_L x3)] [] o0 (s_X12_tell hg o0 h) plX12_260 rfl rfl rfl rfl (Nat.le_of_ble_eq_true rfl) (by decide) (fun M21 h => ?_)
    refine pj_iconst 161 rfl rfl ?_
    refine pj_istore 163 (ls' := [(0, .ref r0), (2, .int (pj_I x2)), (3, .int (pj_I x3)), (4, .int (pj_I t10)), (5, .int (pj_I 0))]) rfl (by decide) rfl rfl ?_
    refine pn_sub [0, 3, 4] rfl ?_
    exact s_X12_years_163 hg o0   h
  · replace h := h.2 hc
    refine pj_aload_n 60 0 rfl rfl rfl rfl ?_
    refine pj_iconst 61 rfl rfl ?_
    refine pn_callVi 64 12 [.int (pj_I 3)] [] o0 (s_X12_draw hg o0 h) plX12_370 rfl rfl rfl rfl (Nat.le_of_ble_eq_true rfl) (by decide) (fun t28 M27 h => ?_)
    refine pj_istore 66 (ls' := [(0, .ref r0), (2, .int (pj_I x2)), (3, .int (pj_I x3)), (4, .int (pj_I x4)), (5, .int (pj_I t28))]) rfl (by decide) rfl rfl ?_
    refine pj_aload_n 67 0 rfl rfl rfl rfl ?_
    refine pj_bipush 69 rfl (by decide) rfl ?_
    refine pn_callVi 72 12 [.int (pj_I 14)] [] o0 (s_X12_draw hg o0 h) plX12_370 rfl rfl rfl rfl (Nat.le_of_ble_eq_true rfl) (by decide) (fun t30 M29 h => ?_)
    refine pj_iconst 73 rfl rfl ?_
    refine pj_iadd 74 rfl rfl ?_
    refine pj_istore 76 (ls' := [(0, .ref r0), (2, .int (pj_I x2)), (3, .int (pj_I x3)), (4, .int (pj_I x4)), (5, .int (pj_I t28)), (6, .int (pj_I (t30 + 1)))]) rfl (by decide) rfl rfl ?_
    refine pj_iload 78 4 rfl rfl rfl ?_
    refine pj_iconst 79 rfl rfl ?_
    obtain ⟨q31, h⟩ := h
    refine pj_icmp_ne 86 82 rfl (by decide) rfl q31 (show pj_in 2 by decide) (fun hc => ?_) (fun hc => ?_)
    · replace h := h.1 hc
      refine pj_aload_n 87 0 rfl rfl rfl rfl ?_
      refine pj_bipush 89 rfl (by decide) rfl ?_
      refine pn_callVi 92 12 [.int (pj_I 8)] [] o0 (s_X12_draw hg o0 h) plX12_370 rfl rfl rfl rfl (Nat.le_of_ble_eq_true rfl) (by decide) (fun t33 M32 h => ?_)
      refine pn_sub [0, 1, 2, 3, 4, 5] rfl ?_
      exact s_X12_years_92 hg o0  hk53 h
    · replace h := h.2 (Classical.not_not.mp hc)
      refine pj_iconst 83 rfl rfl ?_
      refine pj_goto 92 rfl (by decide) ?_
      refine pn_sub [0, 1, 2, 3, 4, 5] rfl ?_
      exact s_X12_years_92 hg o0  hk53 h
set_option maxRecDepth 20000 in
set_option maxHeartbeats 4000000 in
theorem s_X12_years_53 {l : Launch} {g : pj_G} (hg : pj_ph g = true) {r0 : Nat} {x2 : Int} {x3 : Int} {x4 : Int} {M : pj_M} {Q : Int → pj_M → Prop}  (o0 : pj_ob r0 12)  (h : w_X12_years_53 r0 x2  Q x3 x4 M) : pj_R l g mdX12_years pj_T (pj_Zm g mdX12_years (pj_qi Q)) pj_NK 0 0 53 [(0, .ref r0), (2, .int (pj_I x2)), (3, .int (pj_I x3)), (4, .int (pj_I x4))] [] M :=
  h (fun s => pj_R l g mdX12_years pj_T (pj_Zm g mdX12_years (pj_qi Q)) pj_NK 0 0 53 [(0, .ref r0), (2, .int (pj_I x2)), (3, .int (pj_I (s.1))), (4, .int (pj_I (s.2.1)))] [] s.2.2) (fun s hs => s_X12_years_53b hg o0  (fun _ _ _ q => q) hs)
set_option maxRecDepth 20000 in
set_option maxHeartbeats 4000000 in
theorem s_X12_years_24b {l : Launch} {g : pj_G} (hg : pj_ph g = true) {r0 : Nat} {x2 : Int} {x3 : Int} {M : pj_M} {Q : Int → pj_M → Prop}  {k24 : Int → pj_M → Prop} (o0 : pj_ob r0 12)  (hk24 : ∀ (x3 : Int) (M : pj_M), k24 x3 M → pj_R l g mdX12_years pj_T (pj_Zm g mdX12_years (pj_qi Q)) pj_NK 0 0 24 [(0, .ref r0), (2, .int (pj_I x2)), (3, .int (pj_I x3))] [] M) (h : w_X12_years_24b r0 x2  Q k24 x3 M) : pj_R l g mdX12_years pj_T (pj_Zm g mdX12_years (pj_qi Q)) pj_NK 0 0 24 [(0, .ref r0), (2, .int (pj_I x2)), (3, .int (pj_I x3))] [] M := by
  unfold w_X12_years_24b at h
  refine pj_iload_n 25 2 rfl rfl rfl rfl ?_
  refine pj_bipush 27 rfl (by decide) rfl ?_
  obtain ⟨q6, h⟩ := h
  refine pj_icmp_ge 48 30 rfl (by decide) rfl q6 (show pj_in 95 by decide) (fun hc => ?_) (fun hc => ?_)
  · replace h := h.1 hc
    refine pj_iconst 49 rfl rfl ?_
    refine pj_istore_n 50 (ls' := [(0, .ref r0), (2, .int (pj_I x2)), (3, .int (pj_I 0))]) rfl rfl (by decide) rfl rfl ?_
    refine pj_iconst 51 rfl rfl ?_
    refine pj_istore 53 (ls' := [(0, .ref r0), (2, .int (pj_I x2)), (3, .int (pj_I 0)), (4, .int (pj_I 0))]) rfl (by decide) rfl rfl ?_
    refine pn_sub [0, 1, 2, 3] rfl ?_
    exact s_X12_years_53 hg o0   h
  · replace h := h.2 hc
    refine pj_aload_n 31 0 rfl rfl rfl rfl ?_
    refine pn_getr 34 12 35 hg o0 (pr_12_35 o0).2 rfl pfX12_82 rfl rfl ?_
    refine pj_iload_n 35 2 rfl rfl rfl rfl ?_
    refine pj_aload_n 36 0 rfl rfl rfl rfl ?_
    refine pn_getr 39 12 0 hg o0 (pr_12_0 o0).2 rfl pfX12_9 rfl rfl ?_
    refine pj_iload_n 40 2 rfl rfl rfl rfl ?_
    obtain ⟨q37, h⟩ := h
    refine pn_iald 41 95 (pr_12_0 o0) q37 rfl rfl ?_
    obtain ⟨q38, h⟩ := h
    refine pn_iast 42 95 (pr_12_35 o0)  q38 rfl rfl (fun M39 hM39 => ?_)
    replace h := h M39 hM39
    refine pj_iinc 45 2 (ls' := [(0, .ref r0), (2, .int (pj_I x2)), (3, .int (pj_I (x3 + 1)))]) rfl rfl (by decide) rfl rfl ?_
    refine pj_goto 24 rfl (by decide) ?_
    refine pn_sub [0, 1, 2] rfl ?_
    exact hk24 _ _ h
set_option maxRecDepth 20000 in
set_option maxHeartbeats 4000000 in
theorem s_X12_years_24 {l : Launch} {g : pj_G} (hg : pj_ph g = true) {r0 : Nat} {x2 : Int} {x3 : Int} {M : pj_M} {Q : Int → pj_M → Prop}  (o0 : pj_ob r0 12)  (h : w_X12_years_24 r0 x2  Q x3 M) : pj_R l g mdX12_years pj_T (pj_Zm g mdX12_years (pj_qi Q)) pj_NK 0 0 24 [(0, .ref r0), (2, .int (pj_I x2)), (3, .int (pj_I x3))] [] M :=
  h (fun s => pj_R l g mdX12_years pj_T (pj_Zm g mdX12_years (pj_qi Q)) pj_NK 0 0 24 [(0, .ref r0), (2, .int (pj_I x2)), (3, .int (pj_I (s.1)))] [] s.2) (fun s hs => s_X12_years_24b hg o0  (fun _ _ q => q) hs)
set_option maxRecDepth 20000 in
set_option maxHeartbeats 4000000 in
theorem s_X12_years {l : Launch} {g : pj_G} (hg : pj_ph g = true) {r0 : Nat} {x1 : Int} {x2 : Int} {M : pj_M} {Q : Int → pj_M → Prop} (o0 : pj_ob r0 12) (h : w_X12_years r0 x1 x2 M Q) : pj_S l g mdX12_years [.ref r0, .int (pj_I x1), .int (pj_I x2)] pj_NK M (pj_qi Q) := by
  refine pj_ofR (ls := [(0, .ref r0), (1, .int (pj_I x1)), (2, .int (pj_I x2))]) gcX12_years (by decide) rfl (Nat.le_of_ble_eq_true rfl) rfl ?_
  unfold w_X12_years at h
  refine pj_aload_n 1 0 rfl rfl rfl rfl ?_
  refine pj_iconst 2 rfl rfl ?_
  refine pn_puti 5 12 5 5 o0  rfl pfX12_88 rfl rfl rfl (fun M1 hM1 => ?_)
  replace h := h M1 hM1
  refine pj_iload_n 6 2 rfl rfl rfl rfl ?_
  refine pj_iconst 7 rfl rfl ?_
  refine pj_bipush 9 rfl (by decide) rfl ?_
  refine pn_callSi 12 [.int (pj_I x2), .int (pj_I 1), .int (pj_I 20)] [] (s_X12_in hg  h) plX12_98 rfl rfl rfl rfl (Nat.le_of_ble_eq_true rfl) (by decide) (fun t3 M2 h => ?_)
  obtain ⟨q4, h⟩ := h
  refine pj_if_ne 17 15 rfl (by decide) rfl q4  (fun hc => ?_) (fun hc => ?_)
  · replace h := h.1 hc
    refine pj_aload_n 18 0 rfl rfl rfl rfl ?_
    refine pj_iload_n 19 1 rfl rfl rfl rfl ?_
    refine pn_puti 22 12 37 37 o0  rfl pfX12_366 rfl rfl rfl (fun M5 hM5 => ?_)
    replace h := h M5 hM5
    refine pj_iconst 23 rfl rfl ?_
    refine pj_istore_n 24 (ls' := [(0, .ref r0), (1, .int (pj_I x1)), (2, .int (pj_I x2)), (3, .int (pj_I 0))]) rfl rfl (by decide) rfl rfl ?_
    refine pn_sub [0, 2, 3] rfl ?_
    exact s_X12_years_24 hg o0   h
  · replace h := h.2 (Classical.not_not.mp hc)
    refine pj_iconst 16 rfl rfl ?_
    exact pn_iret h rfl rfl
def w_X12_keep_25b (r0 : Nat) (x1 : Int)  (Q : Int → pj_M → Prop) (k25 : Int → pj_M → Prop) (x2 : Int) (M : pj_M) : Prop :=
  (pj_in x2) ∧ ((95 ≤ x2 → Q 1 M) ∧ (¬ 95 ≤ x2 → ((0 : Int) ≤ x2 ∧ x2 < 95) ∧ ((0 : Int) ≤ ((95 * x1) + x2) ∧ ((95 * x1) + x2) < 190) ∧ ∀ M10 : pj_M, M10 = pj_up M (pj_rf r0 30) ((95 * x1) + x2) (M (pj_rf r0 0) x2) → k25 (x2 + 1) M10))
def w_X12_keep_25 (r0 : Nat) (x1 : Int)  (Q : Int → pj_M → Prop) (x2 : Int) (M : pj_M) : Prop := pj_lp (fun (k : Int × pj_M → Prop) (s : Int × pj_M) => w_X12_keep_25b r0 x1  Q (fun (x2 : Int) (M : pj_M) => k (x2, M)) s.1 s.2) (x2, M)
def w_X12_keep (r0 : Nat) (x1 : Int) (M : pj_M) (Q : Int → pj_M → Prop) : Prop :=
  ∀ M1 : pj_M, M1 = pj_up M r0 5 0 → w_X12_in x1 0 1 M1 (fun (t3 : Int) (M2 : pj_M) => (pj_in t3) ∧ ((¬ t3 = 0 → ((0 : Int) ≤ x1 ∧ x1 < 2) ∧ ∀ M6 : pj_M, M6 = pj_up M2 (pj_rf r0 31) x1 1 → w_X12_keep_25 r0 x1  Q 0 M6) ∧ (t3 = 0 → Q 0 M2)))
set_option maxRecDepth 20000 in
set_option maxHeartbeats 4000000 in
theorem s_X12_keep_25b {l : Launch} {g : pj_G} (hg : pj_ph g = true) {r0 : Nat} {x1 : Int} {x2 : Int} {M : pj_M} {Q : Int → pj_M → Prop}  {k25 : Int → pj_M → Prop} (o0 : pj_ob r0 12)  (hk25 : ∀ (x2 : Int) (M : pj_M), k25 x2 M → pj_R l g mdX12_keep pj_T (pj_Zm g mdX12_keep (pj_qi Q)) pj_NK 0 0 25 [(0, .ref r0), (1, .int (pj_I x1)), (2, .int (pj_I x2))] [] M) (h : w_X12_keep_25b r0 x1  Q k25 x2 M) : pj_R l g mdX12_keep pj_T (pj_Zm g mdX12_keep (pj_qi Q)) pj_NK 0 0 25 [(0, .ref r0), (1, .int (pj_I x1)), (2, .int (pj_I x2))] [] M := by
  unfold w_X12_keep_25b at h
  refine pj_iload_n 26 2 rfl rfl rfl rfl ?_
  refine pj_bipush 28 rfl (by decide) rfl ?_
  obtain ⟨q7, h⟩ := h
  refine pj_icmp_ge 54 31 rfl (by decide) rfl q7 (show pj_in 95 by decide) (fun hc => ?_) (fun hc => ?_)
  · replace h := h.1 hc
    refine pj_iconst 55 rfl rfl ?_
    exact pn_zret (by decide) h rfl rfl
  · replace h := h.2 hc
    refine pj_aload_n 32 0 rfl rfl rfl rfl ?_
    refine pn_getr 35 12 30 hg o0 (pr_12_30 o0).2 rfl pfX12_70 rfl rfl ?_
    refine pj_bipush 37 rfl (by decide) rfl ?_
    refine pj_iload_n 38 1 rfl rfl rfl rfl ?_
    refine pj_imul 39 rfl rfl ?_
    refine pj_iload_n 40 2 rfl rfl rfl rfl ?_
    refine pj_iadd 41 rfl rfl ?_
    refine pj_aload_n 42 0 rfl rfl rfl rfl ?_
    refine pn_getr 45 12 0 hg o0 (pr_12_0 o0).2 rfl pfX12_9 rfl rfl ?_
    refine pj_iload_n 46 2 rfl rfl rfl rfl ?_
    obtain ⟨q8, h⟩ := h
    refine pn_iald 47 95 (pr_12_0 o0) q8 rfl rfl ?_
    obtain ⟨q9, h⟩ := h
    refine pn_iast 48 190 (pr_12_30 o0)  q9 rfl rfl (fun M10 hM10 => ?_)
    replace h := h M10 hM10
    refine pj_iinc 51 2 (ls' := [(0, .ref r0), (1, .int (pj_I x1)), (2, .int (pj_I (x2 + 1)))]) rfl rfl (by decide) rfl rfl ?_
    refine pj_goto 25 rfl (by decide) ?_
    refine pn_sub [0, 1, 2] rfl ?_
    exact hk25 _ _ h
set_option maxRecDepth 20000 in
set_option maxHeartbeats 4000000 in
theorem s_X12_keep_25 {l : Launch} {g : pj_G} (hg : pj_ph g = true) {r0 : Nat} {x1 : Int} {x2 : Int} {M : pj_M} {Q : Int → pj_M → Prop}  (o0 : pj_ob r0 12)  (h : w_X12_keep_25 r0 x1  Q x2 M) : pj_R l g mdX12_keep pj_T (pj_Zm g mdX12_keep (pj_qi Q)) pj_NK 0 0 25 [(0, .ref r0), (1, .int (pj_I x1)), (2, .int (pj_I x2))] [] M :=
  h (fun s => pj_R l g mdX12_keep pj_T (pj_Zm g mdX12_keep (pj_qi Q)) pj_NK 0 0 25 [(0, .ref r0), (1, .int (pj_I x1)), (2, .int (pj_I (s.1)))] [] s.2) (fun s hs => s_X12_keep_25b hg o0  (fun _ _ q => q) hs)
set_option maxRecDepth 20000 in
set_option maxHeartbeats 4000000 in
theorem s_X12_keep {l : Launch} {g : pj_G} (hg : pj_ph g = true) {r0 : Nat} {x1 : Int} {M : pj_M} {Q : Int → pj_M → Prop} (o0 : pj_ob r0 12) (h : w_X12_keep r0 x1 M Q) : pj_S l g mdX12_keep [.ref r0, .int (pj_I x1)] pj_NK M (pj_qi Q) := by
  refine pj_ofR (ls := [(0, .ref r0), (1, .int (pj_I x1))]) gcX12_keep (by decide) rfl (Nat.le_of_ble_eq_true rfl) rfl ?_
  unfold w_X12_keep at h
  refine pj_aload_n 1 0 rfl rfl rfl rfl ?_
  refine pj_iconst 2 rfl rfl ?_
  refine pn_puti 5 12 5 5 o0  rfl pfX12_88 rfl rfl rfl (fun M1 hM1 => ?_)
  replace h := h M1 hM1
  refine pj_iload_n 6 1 rfl rfl rfl rfl ?_
  refine pj_iconst 7 rfl rfl ?_
  refine pj_iconst 8 rfl rfl ?_
  refine pn_callSi 11 [.int (pj_I x1), .int (pj_I 0), .int (pj_I 1)] [] (s_X12_in hg  h) plX12_98 rfl rfl rfl rfl (Nat.le_of_ble_eq_true rfl) (by decide) (fun t3 M2 h => ?_)
  obtain ⟨q4, h⟩ := h
  refine pj_if_ne 16 14 rfl (by decide) rfl q4  (fun hc => ?_) (fun hc => ?_)
  · replace h := h.1 hc
    refine pj_aload_n 17 0 rfl rfl rfl rfl ?_
    refine pn_getr 20 12 31 hg o0 (pr_12_31 o0).2 rfl pfX12_73 rfl rfl ?_
    refine pj_iload_n 21 1 rfl rfl rfl rfl ?_
    refine pj_iconst 22 rfl rfl ?_
    obtain ⟨q5, h⟩ := h
    refine pn_zast 23 2 (pr_12_31 o0) (by decide) q5 rfl rfl (fun M6 hM6 => ?_)
    replace h := h M6 hM6
    refine pj_iconst 24 rfl rfl ?_
    refine pj_istore_n 25 (ls' := [(0, .ref r0), (1, .int (pj_I x1)), (2, .int (pj_I 0))]) rfl rfl (by decide) rfl rfl ?_
    refine pn_sub [0, 1, 2] rfl ?_
    exact s_X12_keep_25 hg o0   h
  · replace h := h.2 (Classical.not_not.mp hc)
    refine pj_iconst 15 rfl rfl ?_
    exact pn_zret (by decide) h rfl rfl
def w_X12_again_27b (r0 : Nat) (x1 : Int)  (Q : Int → pj_M → Prop) (k27 : Int → pj_M → Prop) (x2 : Int) (M : pj_M) : Prop :=
  (pj_in x2) ∧ ((95 ≤ x2 → ∀ M8 : pj_M, M8 = pj_up M r0 34 0 → Q 1 M8) ∧ (¬ 95 ≤ x2 → ((0 : Int) ≤ ((95 * x1) + x2) ∧ ((95 * x1) + x2) < 190) ∧ ((0 : Int) ≤ x2 ∧ x2 < 95) ∧ ∀ M11 : pj_M, M11 = pj_up M (pj_rf r0 0) x2 (M (pj_rf r0 30) ((95 * x1) + x2)) → k27 (x2 + 1) M11))
def w_X12_again_27 (r0 : Nat) (x1 : Int)  (Q : Int → pj_M → Prop) (x2 : Int) (M : pj_M) : Prop := pj_lp (fun (k : Int × pj_M → Prop) (s : Int × pj_M) => w_X12_again_27b r0 x1  Q (fun (x2 : Int) (M : pj_M) => k (x2, M)) s.1 s.2) (x2, M)
def w_X12_again (r0 : Nat) (x1 : Int) (M : pj_M) (Q : Int → pj_M → Prop) : Prop :=
  ∀ M1 : pj_M, M1 = pj_up M r0 5 0 → w_X12_in x1 0 1 M1 (fun (t3 : Int) (M2 : pj_M) => (pj_in t3) ∧ ((t3 = 0 → Q 0 M2) ∧ (¬ t3 = 0 → ((0 : Int) ≤ x1 ∧ x1 < 2) ∧ (pj_in (M2 (pj_rf r0 31) x1)) ∧ ((¬ (M2 (pj_rf r0 31) x1) = 0 → w_X12_again_27 r0 x1  Q 0 M2) ∧ ((M2 (pj_rf r0 31) x1) = 0 → Q 0 M2)))))
set_option maxRecDepth 20000 in
set_option maxHeartbeats 4000000 in
theorem s_X12_again_27b {l : Launch} {g : pj_G} (hg : pj_ph g = true) {r0 : Nat} {x1 : Int} {x2 : Int} {M : pj_M} {Q : Int → pj_M → Prop}  {k27 : Int → pj_M → Prop} (o0 : pj_ob r0 12)  (hk27 : ∀ (x2 : Int) (M : pj_M), k27 x2 M → pj_R l g mdX12_again pj_T (pj_Zm g mdX12_again (pj_qi Q)) pj_NK 0 0 27 [(0, .ref r0), (1, .int (pj_I x1)), (2, .int (pj_I x2))] [] M) (h : w_X12_again_27b r0 x1  Q k27 x2 M) : pj_R l g mdX12_again pj_T (pj_Zm g mdX12_again (pj_qi Q)) pj_NK 0 0 27 [(0, .ref r0), (1, .int (pj_I x1)), (2, .int (pj_I x2))] [] M := by
  unfold w_X12_again_27b at h
  refine pj_iload_n 28 2 rfl rfl rfl rfl ?_
  refine pj_bipush 30 rfl (by decide) rfl ?_
  obtain ⟨q7, h⟩ := h
  refine pj_icmp_ge 56 33 rfl (by decide) rfl q7 (show pj_in 95 by decide) (fun hc => ?_) (fun hc => ?_)
  · replace h := h.1 hc
    refine pj_aload_n 57 0 rfl rfl rfl rfl ?_
    refine pj_iconst 58 rfl rfl ?_
    refine pn_puti 61 12 34 34 o0  rfl pfX12_342 rfl rfl rfl (fun M8 hM8 => ?_)
    replace h := h M8 hM8
    refine pj_iconst 62 rfl rfl ?_
    exact pn_zret (by decide) h rfl rfl
  · replace h := h.2 hc
    refine pj_aload_n 34 0 rfl rfl rfl rfl ?_
    refine pn_getr 37 12 0 hg o0 (pr_12_0 o0).2 rfl pfX12_9 rfl rfl ?_
    refine pj_iload_n 38 2 rfl rfl rfl rfl ?_
    refine pj_aload_n 39 0 rfl rfl rfl rfl ?_
    refine pn_getr 42 12 30 hg o0 (pr_12_30 o0).2 rfl pfX12_70 rfl rfl ?_
    refine pj_bipush 44 rfl (by decide) rfl ?_
    refine pj_iload_n 45 1 rfl rfl rfl rfl ?_
    refine pj_imul 46 rfl rfl ?_
    refine pj_iload_n 47 2 rfl rfl rfl rfl ?_
    refine pj_iadd 48 rfl rfl ?_
    obtain ⟨q9, h⟩ := h
    refine pn_iald 49 190 (pr_12_30 o0) q9 rfl rfl ?_
    obtain ⟨q10, h⟩ := h
    refine pn_iast 50 95 (pr_12_0 o0)  q10 rfl rfl (fun M11 hM11 => ?_)
    replace h := h M11 hM11
    refine pj_iinc 53 2 (ls' := [(0, .ref r0), (1, .int (pj_I x1)), (2, .int (pj_I (x2 + 1)))]) rfl rfl (by decide) rfl rfl ?_
    refine pj_goto 27 rfl (by decide) ?_
    refine pn_sub [0, 1, 2] rfl ?_
    exact hk27 _ _ h
set_option maxRecDepth 20000 in
set_option maxHeartbeats 4000000 in
theorem s_X12_again_27 {l : Launch} {g : pj_G} (hg : pj_ph g = true) {r0 : Nat} {x1 : Int} {x2 : Int} {M : pj_M} {Q : Int → pj_M → Prop}  (o0 : pj_ob r0 12)  (h : w_X12_again_27 r0 x1  Q x2 M) : pj_R l g mdX12_again pj_T (pj_Zm g mdX12_again (pj_qi Q)) pj_NK 0 0 27 [(0, .ref r0), (1, .int (pj_I x1)), (2, .int (pj_I x2))] [] M :=
  h (fun s => pj_R l g mdX12_again pj_T (pj_Zm g mdX12_again (pj_qi Q)) pj_NK 0 0 27 [(0, .ref r0), (1, .int (pj_I x1)), (2, .int (pj_I (s.1)))] [] s.2) (fun s hs => s_X12_again_27b hg o0  (fun _ _ q => q) hs)
set_option maxRecDepth 20000 in
set_option maxHeartbeats 4000000 in
theorem s_X12_again {l : Launch} {g : pj_G} (hg : pj_ph g = true) {r0 : Nat} {x1 : Int} {M : pj_M} {Q : Int → pj_M → Prop} (o0 : pj_ob r0 12) (h : w_X12_again r0 x1 M Q) : pj_S l g mdX12_again [.ref r0, .int (pj_I x1)] pj_NK M (pj_qi Q) := by
  refine pj_ofR (ls := [(0, .ref r0), (1, .int (pj_I x1))]) gcX12_again (by decide) rfl (Nat.le_of_ble_eq_true rfl) rfl ?_
  unfold w_X12_again at h
  refine pj_aload_n 1 0 rfl rfl rfl rfl ?_
  refine pj_iconst 2 rfl rfl ?_
  refine pn_puti 5 12 5 5 o0  rfl pfX12_88 rfl rfl rfl (fun M1 hM1 => ?_)
  replace h := h M1 hM1
  refine pj_iload_n 6 1 rfl rfl rfl rfl ?_
  refine pj_iconst 7 rfl rfl ?_
  refine pj_iconst 8 rfl rfl ?_
  refine pn_callSi 11 [.int (pj_I x1), .int (pj_I 0), .int (pj_I 1)] [] (s_X12_in hg  h) plX12_98 rfl rfl rfl rfl (Nat.le_of_ble_eq_true rfl) (by decide) (fun t3 M2 h => ?_)
  obtain ⟨q4, h⟩ := h
  refine pj_if_eq 23 14 rfl (by decide) rfl q4  (fun hc => ?_) (fun hc => ?_)
  · replace h := h.1 hc
    refine pj_iconst 24 rfl rfl ?_
    exact pn_zret (by decide) h rfl rfl
  · replace h := h.2 hc
    refine pj_aload_n 15 0 rfl rfl rfl rfl ?_
    refine pn_getr 18 12 31 hg o0 (pr_12_31 o0).2 rfl pfX12_73 rfl rfl ?_
    refine pj_iload_n 19 1 rfl rfl rfl rfl ?_
    obtain ⟨q5, h⟩ := h
    refine pn_bald 20 2 2 (pr_12_31 o0) (by decide) q5 rfl rfl ?_
    obtain ⟨q6, h⟩ := h
    refine pj_if_ne 25 23 rfl (by decide) rfl q6  (fun hc => ?_) (fun hc => ?_)
    · replace h := h.1 hc
      refine pj_iconst 26 rfl rfl ?_
      refine pj_istore_n 27 (ls' := [(0, .ref r0), (1, .int (pj_I x1)), (2, .int (pj_I 0))]) rfl rfl (by decide) rfl rfl ?_
      refine pn_sub [0, 1, 2] rfl ?_
      exact s_X12_again_27 hg o0   h
    · replace h := h.2 (Classical.not_not.mp hc)
      refine pj_iconst 24 rfl rfl ?_
      exact pn_zret (by decide) h rfl rfl
def w_X12_count (r0 : Nat) (x1 : Int) (M : pj_M) (Q : Int → pj_M → Prop) : Prop :=
  ∀ M1 : pj_M, M1 = pj_up M r0 5 0 → (pj_in x1) ∧ (((x1 < 0 ∨ 8 < x1) → Q (-1) M1) ∧ (x1 = 0 → Q (M1 (pj_rf r0 0) 73) M1) ∧ (x1 = 1 → Q (M1 (pj_rf r0 0) 0) M1) ∧ (x1 = 2 → w_X12_ruled (pj_rf r0 0) M1 (fun (t4 : Int) (M3 : pj_M) => Q t4 M3)) ∧ (x1 = 3 → w_X12_alt 0 M1 (fun (t6 : Int) (M5 : pj_M) => ((0 : Int) ≤ t6 ∧ t6 < 95) ∧ Q (M5 (pj_rf r0 0) t6) M5)) ∧ (x1 = 4 → Q (M1 (pj_rf r0 0) 88) M1) ∧ (x1 = 5 → Q (M1 r0 34) M1) ∧ (x1 = 6 → Q (M1 r0 4) M1) ∧ (x1 = 7 → Q (M1 r0 2) M1) ∧ (x1 = 8 → w_X12_signsNow r0 (pj_rf r0 0) M1 (fun (t9 : Int) (M8 : pj_M) => Q t9 M8)))
set_option maxRecDepth 20000 in
set_option maxHeartbeats 4000000 in
theorem s_X12_count {l : Launch} {g : pj_G} (hg : pj_ph g = true) {r0 : Nat} {x1 : Int} {M : pj_M} {Q : Int → pj_M → Prop} (o0 : pj_ob r0 12) (h : w_X12_count r0 x1 M Q) : pj_S l g mdX12_count [.ref r0, .int (pj_I x1)] pj_NK M (pj_qi Q) := by
  refine pj_ofR (ls := [(0, .ref r0), (1, .int (pj_I x1))]) gcX12_count (by decide) rfl (Nat.le_of_ble_eq_true rfl) rfl ?_
  unfold w_X12_count at h
  refine pj_aload_n 1 0 rfl rfl rfl rfl ?_
  refine pj_iconst 2 rfl rfl ?_
  refine pn_puti 5 12 5 5 o0  rfl pfX12_88 rfl rfl rfl (fun M1 hM1 => ?_)
  replace h := h M1 hM1
  refine pj_iload_n 6 1 rfl rfl rfl rfl ?_
  obtain ⟨q2, h⟩ := h
  rcases Classical.em (x1 < 0 ∨ 8 < x1) with hc | hc
  · replace h := h.1 hc
    refine pj_tout 121 rfl q2 hc (by decide) ?_
    refine pj_iconst 122 rfl rfl ?_
    exact pn_iret h rfl rfl
  · replace h := h.2
    rcases Classical.em (x1 = 0) with hc2 | hc2
    · replace h := h.1 hc2
      refine pj_tin 56 rfl q2 (by omega) (by omega) (by rw [hc2]; rfl) (by decide) ?_
      refine pj_aload_n 57 0 rfl rfl rfl rfl ?_
      refine pn_getr 60 12 0 hg o0 (pr_12_0 o0).2 rfl pfX12_9 rfl rfl ?_
      refine pj_bipush 62 rfl (by decide) rfl ?_
      refine pn_iald 63 95 (pr_12_0 o0) (show 0 ≤ (73 : Int) ∧ (73 : Int) < ((95 : Nat) : Int) by decide) rfl rfl ?_
      exact pn_iret h rfl rfl
    replace h := h.2
    have hn0 := hc2
    clear hc2
    rcases Classical.em (x1 = 1) with hc2 | hc2
    · replace h := h.1 hc2
      refine pj_tin 64 rfl q2 (by omega) (by omega) (by rw [hc2]; rfl) (by decide) ?_
      refine pj_aload_n 65 0 rfl rfl rfl rfl ?_
      refine pn_getr 68 12 0 hg o0 (pr_12_0 o0).2 rfl pfX12_9 rfl rfl ?_
      refine pj_iconst 69 rfl rfl ?_
      refine pn_iald 70 95 (pr_12_0 o0) (show 0 ≤ (0 : Int) ∧ (0 : Int) < ((95 : Nat) : Int) by decide) rfl rfl ?_
      exact pn_iret h rfl rfl
    replace h := h.2
    have hn1 := hc2
    clear hc2
    rcases Classical.em (x1 = 2) with hc2 | hc2
    · replace h := h.1 hc2
      refine pj_tin 71 rfl q2 (by omega) (by omega) (by rw [hc2]; rfl) (by decide) ?_
      refine pj_aload_n 72 0 rfl rfl rfl rfl ?_
      refine pn_getr 75 12 0 hg o0 (pr_12_0 o0).2 rfl pfX12_9 rfl rfl ?_
      refine pn_callSi 78 [.ref (pj_rf r0 0)] [] (s_X12_ruled hg (pj_oa_of (pr_12_0 o0)) h) plX12_131 rfl rfl rfl rfl (Nat.le_of_ble_eq_true rfl) (by decide) (fun t4 M3 h => ?_)
      exact pn_iret h rfl rfl
    replace h := h.2
    have hn2 := hc2
    clear hc2
    rcases Classical.em (x1 = 3) with hc2 | hc2
    · replace h := h.1 hc2
      refine pj_tin 79 rfl q2 (by omega) (by omega) (by rw [hc2]; rfl) (by decide) ?_
      refine pj_aload_n 80 0 rfl rfl rfl rfl ?_
      refine pn_getr 83 12 0 hg o0 (pr_12_0 o0).2 rfl pfX12_9 rfl rfl ?_
      refine pj_iconst 84 rfl rfl ?_
      refine pn_callSi 87 [.int (pj_I 0)] [.ref (pj_rf r0 0)] (s_X12_alt hg  h) plX12_127 rfl rfl rfl rfl (Nat.le_of_ble_eq_true rfl) (by decide) (fun t6 M5 h => ?_)
      obtain ⟨q7, h⟩ := h
      refine pn_iald 88 95 (pr_12_0 o0) q7 rfl rfl ?_
      exact pn_iret h rfl rfl
    replace h := h.2
    have hn3 := hc2
    clear hc2
    rcases Classical.em (x1 = 4) with hc2 | hc2
    · replace h := h.1 hc2
      refine pj_tin 89 rfl q2 (by omega) (by omega) (by rw [hc2]; rfl) (by decide) ?_
      refine pj_aload_n 90 0 rfl rfl rfl rfl ?_
      refine pn_getr 93 12 0 hg o0 (pr_12_0 o0).2 rfl pfX12_9 rfl rfl ?_
      refine pj_bipush 95 rfl (by decide) rfl ?_
      refine pn_iald 96 95 (pr_12_0 o0) (show 0 ≤ (88 : Int) ∧ (88 : Int) < ((95 : Nat) : Int) by decide) rfl rfl ?_
      exact pn_iret h rfl rfl
    replace h := h.2
    have hn4 := hc2
    clear hc2
    rcases Classical.em (x1 = 5) with hc2 | hc2
    · replace h := h.1 hc2
      refine pj_tin 97 rfl q2 (by omega) (by omega) (by rw [hc2]; rfl) (by decide) ?_
      refine pj_aload_n 98 0 rfl rfl rfl rfl ?_
      refine pn_geti 101 12 34 34 o0 rfl pfX12_342 (Or.inl rfl) rfl rfl ?_
      exact pn_iret h rfl rfl
    replace h := h.2
    have hn5 := hc2
    clear hc2
    rcases Classical.em (x1 = 6) with hc2 | hc2
    · replace h := h.1 hc2
      refine pj_tin 102 rfl q2 (by omega) (by omega) (by rw [hc2]; rfl) (by decide) ?_
      refine pj_aload_n 103 0 rfl rfl rfl rfl ?_
      refine pn_geti 106 12 4 4 o0 rfl pfX12_92 (Or.inl rfl) rfl rfl ?_
      exact pn_iret h rfl rfl
    replace h := h.2
    have hn6 := hc2
    clear hc2
    rcases Classical.em (x1 = 7) with hc2 | hc2
    · replace h := h.1 hc2
      refine pj_tin 107 rfl q2 (by omega) (by omega) (by rw [hc2]; rfl) (by decide) ?_
      refine pj_aload_n 108 0 rfl rfl rfl rfl ?_
      refine pn_geti 111 12 2 2 o0 rfl pfX12_95 (Or.inl rfl) rfl rfl ?_
      exact pn_iret h rfl rfl
    replace h := h.2
    have hn7 := hc2
    clear hc2
    have hc2 : x1 = 8 := by omega
    replace h := h hc2
    refine pj_tin 112 rfl q2 (by omega) (by omega) (by rw [hc2]; rfl) (by decide) ?_
    refine pj_aload_n 113 0 rfl rfl rfl rfl ?_
    refine pj_aload_n 114 0 rfl rfl rfl rfl ?_
    refine pn_getr 117 12 0 hg o0 (pr_12_0 o0).2 rfl pfX12_9 rfl rfl ?_
    refine pn_callVi 120 12 [.ref (pj_rf r0 0)] [] o0 (s_X12_signsNow hg o0 (pj_oa_of (pr_12_0 o0)) h) plX12_327 rfl rfl rfl rfl (Nat.le_of_ble_eq_true rfl) (by decide) (fun t9 M8 h => ?_)
    exact pn_iret h rfl rfl
def w_X12_row (r0 : Nat) (x1 : Int) (M : pj_M) (Q : Int → pj_M → Prop) : Prop :=
  ∀ M1 : pj_M, M1 = pj_up M r0 5 0 → w_X12_in x1 0 ((M1 r0 4) - 1) M1 (fun (t3 : Int) (M2 : pj_M) => (pj_in t3) ∧ ((t3 = 0 → w_X12_lost r0 M2 (fun (t6 : Int) (M5 : pj_M) => (pj_in t6) ∧ Q t6 M5)) ∧ (¬ t3 = 0 → ((0 : Int) ≤ x1 ∧ x1 < 64) ∧ Q (M2 (pj_rf r0 3) x1) M2)))
set_option maxRecDepth 20000 in
set_option maxHeartbeats 4000000 in
theorem s_X12_row {l : Launch} {g : pj_G} (hg : pj_ph g = true) {r0 : Nat} {x1 : Int} {M : pj_M} {Q : Int → pj_M → Prop} (o0 : pj_ob r0 12) (h : w_X12_row r0 x1 M Q) : pj_S l g mdX12_row [.ref r0, .int (pj_I x1)] pj_NK M (pj_ql Q) := by
  refine pj_ofR (ls := [(0, .ref r0), (1, .int (pj_I x1))]) gcX12_row (by decide) rfl (Nat.le_of_ble_eq_true rfl) rfl ?_
  unfold w_X12_row at h
  refine pj_aload_n 1 0 rfl rfl rfl rfl ?_
  refine pj_iconst 2 rfl rfl ?_
  refine pn_puti 5 12 5 5 o0  rfl pfX12_88 rfl rfl rfl (fun M1 hM1 => ?_)
  replace h := h M1 hM1
  refine pj_iload_n 6 1 rfl rfl rfl rfl ?_
  refine pj_iconst 7 rfl rfl ?_
  refine pj_aload_n 8 0 rfl rfl rfl rfl ?_
  refine pn_geti 11 12 4 4 o0 rfl pfX12_92 (Or.inl rfl) rfl rfl ?_
  refine pj_iconst 12 rfl rfl ?_
  refine pj_isub 13 rfl rfl ?_
  refine pn_callSi 16 [.int (pj_I x1), .int (pj_I 0), .int (pj_I ((M1 r0 4) - 1))] [] (s_X12_in hg  h) plX12_98 rfl rfl rfl rfl (Nat.le_of_ble_eq_true rfl) (by decide) (fun t3 M2 h => ?_)
  obtain ⟨q4, h⟩ := h
  refine pj_if_eq 28 19 rfl (by decide) rfl q4  (fun hc => ?_) (fun hc => ?_)
  · replace h := h.1 hc
    refine pj_aload_n 29 0 rfl rfl rfl rfl ?_
    refine pn_callVi 32 12 [] [] o0 (s_X12_lost hg o0 h) plX12_169 rfl rfl rfl rfl (Nat.le_of_ble_eq_true rfl) (by decide) (fun t6 M5 h => ?_)
    obtain ⟨q7, h⟩ := h
    refine pj_i2l 33 rfl rfl q7 ?_
    exact pn_lret h rfl rfl
  · replace h := h.2 hc
    refine pj_aload_n 20 0 rfl rfl rfl rfl ?_
    refine pn_getr 23 12 3 hg o0 (pr_12_3 o0).2 rfl pfX12_17 rfl rfl ?_
    refine pj_iload_n 24 1 rfl rfl rfl rfl ?_
    obtain ⟨q8, h⟩ := h
    refine pn_lald 25 64 (pr_12_3 o0) q8 rfl rfl ?_
    refine pj_goto 33 rfl (by decide) ?_
    exact pn_lret h rfl rfl
