def w_X0_fillWhole_76 (r0 : Nat) (x1 : Int) (x2 : Int) (x3 : Int) (x4 : Int) (k33 : Int → Int → pj_M → Prop) (k51 : Int → Int → pj_M → Prop) (Q : pj_M → Prop) (M : pj_M) : Prop :=
  w_X0_addWhole r0 x4 M (fun (t8 : Int) (M7 : pj_M) => (pj_in t8) ∧ ((t8 = 0 → k51 x1 (x4 + 1) M7) ∧ (¬ t8 = 0 → ((0 : Int) ≤ x4 ∧ x4 < 13) ∧ ∀ z11 : Int, z11 = (pj_or x1 (pj_shl 1 (M7 (pj_rf r0 2) x4))) → k51 z11 (x4 + 1) M7)))
def w_X0_fillWhole_51b (r0 : Nat) (x2 : Int) (x3 : Int) (k33 : Int → Int → pj_M → Prop) (Q : pj_M → Prop) (k51 : Int → Int → pj_M → Prop) (x1 : Int) (x4 : Int) (M : pj_M) : Prop :=
  (pj_in x4) ∧ (pj_in (M r0 6)) ∧ (((M r0 6) ≤ x4 → k33 x1 (x2 + 1) M) ∧ (¬ (M r0 6) ≤ x4 → (pj_in x2) ∧ ((x2 = 0 → w_X0_fillWhole_76 r0 x1 x2 x3 x4 k33 k51 Q M) ∧ (¬ x2 = 0 → ((0 : Int) ≤ x4 ∧ x4 < 13) ∧ (pj_in (pj_and (M (pj_rf r0 5) x4) x3)) ∧ (((pj_and (M (pj_rf r0 5) x4) x3) = 0 → k51 x1 (x4 + 1) M) ∧ (¬ (pj_and (M (pj_rf r0 5) x4) x3) = 0 → w_X0_fillWhole_76 r0 x1 x2 x3 x4 k33 k51 Q M))))))
def w_X0_fillWhole_51 (r0 : Nat) (x2 : Int) (x3 : Int) (k33 : Int → Int → pj_M → Prop) (Q : pj_M → Prop) (x1 : Int) (x4 : Int) (M : pj_M) : Prop := pj_lp (fun (k : Int × Int × pj_M → Prop) (s : Int × Int × pj_M) => w_X0_fillWhole_51b r0 x2 x3 k33 Q (fun (x1 : Int) (x4 : Int) (M : pj_M) => k (x1, x4, M)) s.1 s.2.1 s.2.2) (x1, x4, M)
def w_X0_fillWhole_33b (r0 : Nat)  (Q : pj_M → Prop) (k33 : Int → Int → pj_M → Prop) (x1 : Int) (x2 : Int) (M : pj_M) : Prop :=
  (pj_in x2) ∧ ((1000 ≤ x2 → Q M) ∧ (¬ 1000 ≤ x2 → (pj_in x1) ∧ ((x1 = 0 → Q M) ∧ (¬ x1 = 0 → w_X0_fillWhole_51 r0 x2 x1 k33 Q 0 0 M))))
def w_X0_fillWhole_33 (r0 : Nat)  (Q : pj_M → Prop) (x1 : Int) (x2 : Int) (M : pj_M) : Prop := pj_lp (fun (k : Int × Int × pj_M → Prop) (s : Int × Int × pj_M) => w_X0_fillWhole_33b r0  Q (fun (x1 : Int) (x2 : Int) (M : pj_M) => k (x1, x2, M)) s.1 s.2.1 s.2.2) (x1, x2, M)
def w_X0_fillWhole_2b (r0 : Nat)  (Q : pj_M → Prop) (k2 : Int → pj_M → Prop) (x1 : Int) (M : pj_M) : Prop :=
  (pj_in x1) ∧ ((7 ≤ x1 → w_X0_fillWhole_33 r0  Q 1 0 M) ∧ (¬ 7 ≤ x1 → ((0 : Int) ≤ ((x1 * 18) + (M r0 11)) ∧ ((x1 * 18) + (M r0 11)) < 126) ∧ ∀ M15 : pj_M, M15 = pj_up M (pj_rf r0 13) ((x1 * 18) + (M r0 11)) 0 → k2 (x1 + 1) M15))
def w_X0_fillWhole_2 (r0 : Nat)  (Q : pj_M → Prop) (x1 : Int) (M : pj_M) : Prop := pj_lp (fun (k : Int × pj_M → Prop) (s : Int × pj_M) => w_X0_fillWhole_2b r0  Q (fun (x1 : Int) (M : pj_M) => k (x1, M)) s.1 s.2) (x1, M)
def w_X0_fillWhole (r0 : Nat) (M : pj_M) (Q : pj_M → Prop) : Prop :=
  w_X0_fillWhole_2 r0  Q 0 M
set_option maxRecDepth 20000 in
set_option maxHeartbeats 4000000 in
theorem s_X0_fillWhole_76 {l : Launch} {g : pj_G} (hg : pj_ph g = true) {r0 : Nat} {x1 : Int} {x2 : Int} {x3 : Int} {x4 : Int} {M : pj_M} {Q : pj_M → Prop} {k33 : Int → Int → pj_M → Prop} {k51 : Int → Int → pj_M → Prop} (o0 : pj_ob r0 0) (hk33 : ∀ (x1 : Int) (x2 : Int) (M : pj_M), k33 x1 x2 M → pj_R l g mdX0_fillWhole pj_T (pj_Zm g mdX0_fillWhole (pj_qv Q)) pj_NK 0 0 33 [(0, .ref r0), (1, .int (pj_I x1)), (2, .int (pj_I x2))] [] M) (hk51 : ∀ (x1 : Int) (x4 : Int) (M : pj_M), k51 x1 x4 M → pj_R l g mdX0_fillWhole pj_T (pj_Zm g mdX0_fillWhole (pj_qv Q)) pj_NK 0 0 51 [(0, .ref r0), (1, .int (pj_I x1)), (2, .int (pj_I x2)), (3, .int (pj_I x3)), (4, .int (pj_I x4))] [] M) (h : w_X0_fillWhole_76 r0 x1 x2 x3 x4 k33 k51 Q M) : pj_R l g mdX0_fillWhole pj_T (pj_Zm g mdX0_fillWhole (pj_qv Q)) pj_NK 0 0 76 [(0, .ref r0), (1, .int (pj_I x1)), (2, .int (pj_I x2)), (3, .int (pj_I x3)), (4, .int (pj_I x4))] [] M := by
  unfold w_X0_fillWhole_76 at h
  refine pj_aload_n 77 0 rfl rfl rfl rfl ?_
  refine pj_iload 79 4 rfl rfl rfl ?_
  refine pn_callVi 82 0 [.int (pj_I x4)] [] o0 (s_X0_addWhole hg o0 h) plX0_148 rfl rfl rfl rfl (Nat.le_of_ble_eq_true rfl) (by decide) (fun t8 M7 h => ?_)
  obtain ⟨q9, h⟩ := h
  refine pj_if_eq 97 85 rfl (by decide) rfl q9  (fun hc => ?_) (fun hc => ?_)
  · replace h := h.1 hc
    refine pj_iinc 100 4 (ls' := [(0, .ref r0), (1, .int (pj_I x1)), (2, .int (pj_I x2)), (3, .int (pj_I x3)), (4, .int (pj_I (x4 + 1)))]) rfl rfl (by decide) rfl rfl ?_
    refine pj_goto 51 rfl (by decide) ?_
    refine pn_sub [0, 1, 2, 3, 4] rfl ?_
    exact hk51 _ _ _ h
  · replace h := h.2 hc
    refine pj_iload_n 86 1 rfl rfl rfl rfl ?_
    refine pj_iconst 87 rfl rfl ?_
    refine pj_aload_n 88 0 rfl rfl rfl rfl ?_
    refine pn_getr 91 0 2 hg o0 (pr_0_2 o0).2 rfl pfX0_25 rfl rfl ?_
    refine pj_iload 93 4 rfl rfl rfl ?_
    obtain ⟨q10, h⟩ := h
    refine pn_iald 94 13 (pr_0_2 o0) q10 rfl rfl ?_
    refine pj_ishl 95 rfl rfl ?_
    refine pj_ior 96 rfl rfl ?_
    refine pn_nm (fun z11 hz11 => ?_)
    replace h := h z11 hz11
    refine pj_istore_n 97 (ls' := [(0, .ref r0), (1, .int (pj_I z11)), (2, .int (pj_I x2)), (3, .int (pj_I x3)), (4, .int (pj_I x4))]) rfl rfl (by decide) rfl rfl ?_
    refine pj_iinc 100 4 (ls' := [(0, .ref r0), (1, .int (pj_I z11)), (2, .int (pj_I x2)), (3, .int (pj_I x3)), (4, .int (pj_I (x4 + 1)))]) rfl rfl (by decide) rfl rfl ?_
    refine pj_goto 51 rfl (by decide) ?_
    refine pn_sub [0, 1, 2, 3, 4] rfl ?_
    exact hk51 _ _ _ h
set_option maxRecDepth 20000 in
set_option maxHeartbeats 4000000 in
theorem s_X0_fillWhole_51b {l : Launch} {g : pj_G} (hg : pj_ph g = true) {r0 : Nat} {x1 : Int} {x2 : Int} {x3 : Int} {x4 : Int} {M : pj_M} {Q : pj_M → Prop} {k33 : Int → Int → pj_M → Prop} {k51 : Int → Int → pj_M → Prop} (o0 : pj_ob r0 0) (hk33 : ∀ (x1 : Int) (x2 : Int) (M : pj_M), k33 x1 x2 M → pj_R l g mdX0_fillWhole pj_T (pj_Zm g mdX0_fillWhole (pj_qv Q)) pj_NK 0 0 33 [(0, .ref r0), (1, .int (pj_I x1)), (2, .int (pj_I x2))] [] M) (hk51 : ∀ (x1 : Int) (x4 : Int) (M : pj_M), k51 x1 x4 M → pj_R l g mdX0_fillWhole pj_T (pj_Zm g mdX0_fillWhole (pj_qv Q)) pj_NK 0 0 51 [(0, .ref r0), (1, .int (pj_I x1)), (2, .int (pj_I x2)), (3, .int (pj_I x3)), (4, .int (pj_I x4))] [] M) (h : w_X0_fillWhole_51b r0 x2 x3 k33 Q k51 x1 x4 M) : pj_R l g mdX0_fillWhole pj_T (pj_Zm g mdX0_fillWhole (pj_qv Q)) pj_NK 0 0 51 [(0, .ref r0), (1, .int (pj_I x1)), (2, .int (pj_I x2)), (3, .int (pj_I x3)), (4, .int (pj_I x4))] [] M := by
  unfold w_X0_fillWhole_51b at h
  refine pj_iload 53 4 rfl rfl rfl ?_
  refine pj_aload_n 54 0 rfl rfl rfl rfl ?_
  refine pn_geti 57 0 6 6 o0 rfl pfX0_74 (Or.inl rfl) rfl rfl ?_
  obtain ⟨q4, h⟩ := h
  obtain ⟨q5, h⟩ := h
  refine pj_icmp_ge 103 60 rfl (by decide) rfl q4 q5 (fun hc => ?_) (fun hc => ?_)
  · replace h := h.1 hc
    refine pj_iinc 106 2 (ls' := [(0, .ref r0), (1, .int (pj_I x1)), (2, .int (pj_I (x2 + 1))), (3, .int (pj_I x3)), (4, .int (pj_I x4))]) rfl rfl (by decide) rfl rfl ?_
    refine pj_goto 33 rfl (by decide) ?_
    refine pn_sub [0, 1, 2] rfl ?_
    exact hk33 _ _ _ h
  · replace h := h.2 hc
    refine pj_iload_n 61 2 rfl rfl rfl rfl ?_
    obtain ⟨q6, h⟩ := h
    refine pj_if_eq 76 64 rfl (by decide) rfl q6  (fun hc => ?_) (fun hc => ?_)
    · replace h := h.1 hc
      refine pn_sub [0, 1, 2, 3, 4] rfl ?_
      exact s_X0_fillWhole_76 hg o0  hk33 hk51 h
    · replace h := h.2 hc
      refine pj_aload_n 65 0 rfl rfl rfl rfl ?_
      refine pn_getr 68 0 5 hg o0 (pr_0_5 o0).2 rfl pfX0_35 rfl rfl ?_
      refine pj_iload 70 4 rfl rfl rfl ?_
      obtain ⟨q12, h⟩ := h
      refine pn_iald 71 13 (pr_0_5 o0) q12 rfl rfl ?_
      refine pj_iload_n 72 3 rfl rfl rfl rfl ?_
      refine pj_iand 73 rfl rfl ?_
      obtain ⟨q13, h⟩ := h
      refine pj_if_eq 97 76 rfl (by decide) rfl q13  (fun hc => ?_) (fun hc => ?_)
      · replace h := h.1 hc
        refine pj_iinc 100 4 (ls' := [(0, .ref r0), (1, .int (pj_I x1)), (2, .int (pj_I x2)), (3, .int (pj_I x3)), (4, .int (pj_I (x4 + 1)))]) rfl rfl (by decide) rfl rfl ?_
        refine pj_goto 51 rfl (by decide) ?_
        refine pn_sub [0, 1, 2, 3, 4] rfl ?_
        exact hk51 _ _ _ h
      · replace h := h.2 hc
        refine pn_sub [0, 1, 2, 3, 4] rfl ?_
        exact s_X0_fillWhole_76 hg o0  hk33 hk51 h
set_option maxRecDepth 20000 in
set_option maxHeartbeats 4000000 in
theorem s_X0_fillWhole_51 {l : Launch} {g : pj_G} (hg : pj_ph g = true) {r0 : Nat} {x1 : Int} {x2 : Int} {x3 : Int} {x4 : Int} {M : pj_M} {Q : pj_M → Prop} {k33 : Int → Int → pj_M → Prop} (o0 : pj_ob r0 0) (hk33 : ∀ (x1 : Int) (x2 : Int) (M : pj_M), k33 x1 x2 M → pj_R l g mdX0_fillWhole pj_T (pj_Zm g mdX0_fillWhole (pj_qv Q)) pj_NK 0 0 33 [(0, .ref r0), (1, .int (pj_I x1)), (2, .int (pj_I x2))] [] M) (h : w_X0_fillWhole_51 r0 x2 x3 k33 Q x1 x4 M) : pj_R l g mdX0_fillWhole pj_T (pj_Zm g mdX0_fillWhole (pj_qv Q)) pj_NK 0 0 51 [(0, .ref r0), (1, .int (pj_I x1)), (2, .int (pj_I x2)), (3, .int (pj_I x3)), (4, .int (pj_I x4))] [] M :=
  h (fun s => pj_R l g mdX0_fillWhole pj_T (pj_Zm g mdX0_fillWhole (pj_qv Q)) pj_NK 0 0 51 [(0, .ref r0), (1, .int (pj_I (s.1))), (2, .int (pj_I x2)), (3, .int (pj_I x3)), (4, .int (pj_I (s.2.1)))] [] s.2.2) (fun s hs => s_X0_fillWhole_51b hg o0 hk33 (fun _ _ _ q => q) hs)
set_option maxRecDepth 20000 in
set_option maxHeartbeats 4000000 in
theorem s_X0_fillWhole_33b {l : Launch} {g : pj_G} (hg : pj_ph g = true) {r0 : Nat} {x1 : Int} {x2 : Int} {M : pj_M} {Q : pj_M → Prop}  {k33 : Int → Int → pj_M → Prop} (o0 : pj_ob r0 0)  (hk33 : ∀ (x1 : Int) (x2 : Int) (M : pj_M), k33 x1 x2 M → pj_R l g mdX0_fillWhole pj_T (pj_Zm g mdX0_fillWhole (pj_qv Q)) pj_NK 0 0 33 [(0, .ref r0), (1, .int (pj_I x1)), (2, .int (pj_I x2))] [] M) (h : w_X0_fillWhole_33b r0  Q k33 x1 x2 M) : pj_R l g mdX0_fillWhole pj_T (pj_Zm g mdX0_fillWhole (pj_qv Q)) pj_NK 0 0 33 [(0, .ref r0), (1, .int (pj_I x1)), (2, .int (pj_I x2))] [] M := by
  unfold w_X0_fillWhole_33b at h
  refine pj_iload_n 34 2 rfl rfl rfl rfl ?_
  refine pj_sipush 37 rfl (by decide) rfl ?_
  obtain ⟨q2, h⟩ := h
  refine pj_icmp_ge 109 40 rfl (by decide) rfl q2 (show pj_in 1000 by decide) (fun hc => ?_) (fun hc => ?_)
  · replace h := h.1 hc
    exact pn_vret h rfl rfl
  · replace h := h.2 hc
    refine pj_iload_n 41 1 rfl rfl rfl rfl ?_
    obtain ⟨q3, h⟩ := h
    refine pj_if_eq 109 44 rfl (by decide) rfl q3  (fun hc => ?_) (fun hc => ?_)
    · replace h := h.1 hc
      exact pn_vret h rfl rfl
    · replace h := h.2 hc
      refine pj_iload_n 45 1 rfl rfl rfl rfl ?_
      refine pj_istore_n 46 (ls' := [(0, .ref r0), (1, .int (pj_I x1)), (2, .int (pj_I x2)), (3, .int (pj_I x1))]) rfl rfl (by decide) rfl rfl ?_
      refine pj_iconst 47 rfl rfl ?_
      refine pj_istore_n 48 (ls' := [(0, .ref r0), (1, .int (pj_I 0)), (2, .int (pj_I x2)), (3, .int (pj_I x1))]) rfl rfl (by decide) rfl rfl ?_
      refine pj_iconst 49 rfl rfl ?_
      refine pj_istore 51 (ls' := [(0, .ref r0), (1, .int (pj_I 0)), (2, .int (pj_I x2)), (3, .int (pj_I x1)), (4, .int (pj_I 0))]) rfl (by decide) rfl rfl ?_
      refine pn_sub [0, 1, 2, 3, 4] rfl ?_
      exact s_X0_fillWhole_51 hg o0  hk33 h
set_option maxRecDepth 20000 in
set_option maxHeartbeats 4000000 in
theorem s_X0_fillWhole_33 {l : Launch} {g : pj_G} (hg : pj_ph g = true) {r0 : Nat} {x1 : Int} {x2 : Int} {M : pj_M} {Q : pj_M → Prop}  (o0 : pj_ob r0 0)  (h : w_X0_fillWhole_33 r0  Q x1 x2 M) : pj_R l g mdX0_fillWhole pj_T (pj_Zm g mdX0_fillWhole (pj_qv Q)) pj_NK 0 0 33 [(0, .ref r0), (1, .int (pj_I x1)), (2, .int (pj_I x2))] [] M :=
  h (fun s => pj_R l g mdX0_fillWhole pj_T (pj_Zm g mdX0_fillWhole (pj_qv Q)) pj_NK 0 0 33 [(0, .ref r0), (1, .int (pj_I (s.1))), (2, .int (pj_I (s.2.1)))] [] s.2.2) (fun s hs => s_X0_fillWhole_33b hg o0  (fun _ _ _ q => q) hs)
set_option maxRecDepth 20000 in
set_option maxHeartbeats 4000000 in
theorem s_X0_fillWhole_2b {l : Launch} {g : pj_G} (hg : pj_ph g = true) {r0 : Nat} {x1 : Int} {M : pj_M} {Q : pj_M → Prop}  {k2 : Int → pj_M → Prop} (o0 : pj_ob r0 0)  (hk2 : ∀ (x1 : Int) (M : pj_M), k2 x1 M → pj_R l g mdX0_fillWhole pj_T (pj_Zm g mdX0_fillWhole (pj_qv Q)) pj_NK 0 0 2 [(0, .ref r0), (1, .int (pj_I x1))] [] M) (h : w_X0_fillWhole_2b r0  Q k2 x1 M) : pj_R l g mdX0_fillWhole pj_T (pj_Zm g mdX0_fillWhole (pj_qv Q)) pj_NK 0 0 2 [(0, .ref r0), (1, .int (pj_I x1))] [] M := by
  unfold w_X0_fillWhole_2b at h
  refine pj_iload_n 3 1 rfl rfl rfl rfl ?_
  refine pj_bipush 5 rfl (by decide) rfl ?_
  obtain ⟨q1, h⟩ := h
  refine pj_icmp_ge 29 8 rfl (by decide) rfl q1 (show pj_in 7 by decide) (fun hc => ?_) (fun hc => ?_)
  · replace h := h.1 hc
    refine pj_iconst 30 rfl rfl ?_
    refine pj_istore_n 31 (ls' := [(0, .ref r0), (1, .int (pj_I 1))]) rfl rfl (by decide) rfl rfl ?_
    refine pj_iconst 32 rfl rfl ?_
    refine pj_istore_n 33 (ls' := [(0, .ref r0), (1, .int (pj_I 1)), (2, .int (pj_I 0))]) rfl rfl (by decide) rfl rfl ?_
    refine pn_sub [0, 1, 2] rfl ?_
    exact s_X0_fillWhole_33 hg o0   h
  · replace h := h.2 hc
    refine pj_aload_n 9 0 rfl rfl rfl rfl ?_
    refine pn_getr 12 0 13 hg o0 (pr_0_13 o0).2 rfl pfX0_44 rfl rfl ?_
    refine pj_iload_n 13 1 rfl rfl rfl rfl ?_
    refine pj_bipush 15 rfl (by decide) rfl ?_
    refine pj_imul 16 rfl rfl ?_
    refine pj_aload_n 17 0 rfl rfl rfl rfl ?_
    refine pn_geti 20 0 11 11 o0 rfl pfX0_93 (Or.inl rfl) rfl rfl ?_
    refine pj_iadd 21 rfl rfl ?_
    refine pj_iconst 22 rfl rfl ?_
    obtain ⟨q14, h⟩ := h
    refine pn_iast 23 126 (pr_0_13 o0)  q14 rfl rfl (fun M15 hM15 => ?_)
    replace h := h M15 hM15
    refine pj_iinc 26 1 (ls' := [(0, .ref r0), (1, .int (pj_I (x1 + 1)))]) rfl rfl (by decide) rfl rfl ?_
    refine pj_goto 2 rfl (by decide) ?_
    refine pn_sub [0, 1] rfl ?_
    exact hk2 _ _ h
set_option maxRecDepth 20000 in
set_option maxHeartbeats 4000000 in
theorem s_X0_fillWhole_2 {l : Launch} {g : pj_G} (hg : pj_ph g = true) {r0 : Nat} {x1 : Int} {M : pj_M} {Q : pj_M → Prop}  (o0 : pj_ob r0 0)  (h : w_X0_fillWhole_2 r0  Q x1 M) : pj_R l g mdX0_fillWhole pj_T (pj_Zm g mdX0_fillWhole (pj_qv Q)) pj_NK 0 0 2 [(0, .ref r0), (1, .int (pj_I x1))] [] M :=
  h (fun s => pj_R l g mdX0_fillWhole pj_T (pj_Zm g mdX0_fillWhole (pj_qv Q)) pj_NK 0 0 2 [(0, .ref r0), (1, .int (pj_I (s.1)))] [] s.2) (fun s hs => s_X0_fillWhole_2b hg o0  (fun _ _ q => q) hs)
set_option maxRecDepth 20000 in
set_option maxHeartbeats 4000000 in
theorem s_X0_fillWhole {l : Launch} {g : pj_G} (hg : pj_ph g = true) {r0 : Nat} {M : pj_M} {Q : pj_M → Prop} (o0 : pj_ob r0 0) (h : w_X0_fillWhole r0 M Q) : pj_S l g mdX0_fillWhole [.ref r0] pj_NK M (pj_qv Q) := by
  refine pj_ofR (ls := [(0, .ref r0)]) gcX0_fillWhole (by decide) rfl (Nat.le_of_ble_eq_true rfl) rfl ?_
  unfold w_X0_fillWhole at h
  refine pj_iconst 1 rfl rfl ?_
  refine pj_istore_n 2 (ls' := [(0, .ref r0), (1, .int (pj_I 0))]) rfl rfl (by decide) rfl rfl ?_
  refine pn_sub [0, 1] rfl ?_
  exact s_X0_fillWhole_2 hg o0   h
def w_X0_learn_118b (r0 : Nat)  (Q : pj_M → Prop) (k118 : Int → pj_M → Prop) (x3 : Int) (M : pj_M) : Prop :=
  (pj_in x3) ∧ ((10 ≤ x3 → w_X0_fillWhole r0 M (fun (M17 : pj_M) => Q M17)) ∧ (¬ 10 ≤ x3 → ((0 : Int) ≤ x3 ∧ x3 < 10) ∧ ∀ M20 : pj_M, M20 = pj_up M (pj_rf r0 10) x3 0 → k118 (x3 + 1) M20))
def w_X0_learn_118 (r0 : Nat)  (Q : pj_M → Prop) (x3 : Int) (M : pj_M) : Prop := pj_lp (fun (k : Int × pj_M → Prop) (s : Int × pj_M) => w_X0_learn_118b r0  Q (fun (x3 : Int) (M : pj_M) => k (x3, M)) s.1 s.2) (x3, M)
def w_X0_learn_63b (r0 : Nat)  (Q : pj_M → Prop) (k63 : Int → pj_M → Prop) (x3 : Int) (M : pj_M) : Prop :=
  (pj_in x3) ∧ (pj_in (M (pj_rf r0 0) 3)) ∧ (((M (pj_rf r0 0) 3) ≤ x3 → w_X0_addFrame r0 M (fun (M12 : pj_M) => ∀ M14 : pj_M, M14 = pj_up M12 r0 11 0 → ∀ M15 : pj_M, M15 = pj_up M14 r0 12 (-1) → w_X0_learn_118 r0  Q 0 M15)) ∧ (¬ (M (pj_rf r0 0) 3) ≤ x3 → w_X3_lengthOf (pj_rf r0 1) (pj_rf r0 0) x3 M (fun (t22 : Int) (M21 : pj_M) => (pj_in t22) ∧ ((1048576 ≤ t22 → k63 (x3 + 1) M21) ∧ (¬ 1048576 ≤ t22 → w_X0_addRule r0 x3 M21 (fun (M24 : pj_M) => k63 (x3 + 1) M24))))))
def w_X0_learn_63 (r0 : Nat)  (Q : pj_M → Prop) (x3 : Int) (M : pj_M) : Prop := pj_lp (fun (k : Int × pj_M → Prop) (s : Int × pj_M) => w_X0_learn_63b r0  Q (fun (x3 : Int) (M : pj_M) => k (x3, M)) s.1 s.2) (x3, M)
def w_X0_learn_27 (r0 : Nat) (r1 : Nat) (x2 : Int)  (Q : pj_M → Prop) (M : pj_M) : Prop :=
  ∀ M2 : pj_M, M2 = pj_up M r0 7 1 → (x2 = 0 ∨ x2 = 1) ∧ ∀ M4 : pj_M, M4 = pj_up M2 r0 8 x2 → w_X4_copyFrom (pj_rf r0 0) r1 M4 (fun (M5 : pj_M) => w_X3_learn (pj_rf r0 1) (pj_rf r0 0) M5 (fun (M7 : pj_M) => ∀ M9 : pj_M, M9 = pj_up M7 r0 6 0 → w_X0_learn_63 r0  Q 0 M9))
def w_X0_learn (r0 : Nat) (r1 : Nat) (x2 : Int) (M : pj_M) (Q : pj_M → Prop) : Prop :=
  (pj_in (M r0 7)) ∧ (((M r0 7) = 0 → w_X0_learn_27 r0 r1 x2  Q M) ∧ (¬ (M r0 7) = 0 → (pj_in (M r0 8)) ∧ (pj_in x2) ∧ ((¬ (M r0 8) = x2 → w_X0_learn_27 r0 r1 x2  Q M) ∧ ((M r0 8) = x2 → w_X4_isLike (pj_rf r0 0) r1 M (fun (t29 : Int) (M28 : pj_M) => (pj_in t29) ∧ ((t29 = 0 → w_X0_learn_27 r0 r1 x2  Q M28) ∧ (¬ t29 = 0 → Q M28)))))))
set_option maxRecDepth 20000 in
set_option maxHeartbeats 4000000 in
theorem s_X0_learn_118b {l : Launch} {g : pj_G} (hg : pj_ph g = true) {r0 : Nat} {x3 : Int} {M : pj_M} {Q : pj_M → Prop}  {k118 : Int → pj_M → Prop} (o0 : pj_ob r0 0)  (hk118 : ∀ (x3 : Int) (M : pj_M), k118 x3 M → pj_R l g mdX0_learn pj_T (pj_Zm g mdX0_learn (pj_qv Q)) pj_NK 0 0 118 [(0, .ref r0), (3, .int (pj_I x3))] [] M) (h : w_X0_learn_118b r0  Q k118 x3 M) : pj_R l g mdX0_learn pj_T (pj_Zm g mdX0_learn (pj_qv Q)) pj_NK 0 0 118 [(0, .ref r0), (3, .int (pj_I x3))] [] M := by
  unfold w_X0_learn_118b at h
  refine pj_iload_n 119 1 rfl rfl rfl rfl ?_
  refine pj_bipush 121 rfl (by decide) rfl ?_
  obtain ⟨q16, h⟩ := h
  refine pj_icmp_ge 137 124 rfl (by decide) rfl q16 (show pj_in 10 by decide) (fun hc => ?_) (fun hc => ?_)
  · replace h := h.1 hc
    refine pj_aload_n 138 0 rfl rfl rfl rfl ?_
    refine pn_callVv 141 0 [] [] o0 (s_X0_fillWhole hg o0 h) plX0_99 rfl rfl rfl rfl (Nat.le_of_ble_eq_true rfl) (by decide) (fun M17 h => ?_)
    exact pn_vret h rfl rfl
  · replace h := h.2 hc
    refine pj_aload_n 125 0 rfl rfl rfl rfl ?_
    refine pn_getr 128 0 10 hg o0 (pr_0_10 o0).2 rfl pfX0_41 rfl rfl ?_
    refine pj_iload_n 129 1 rfl rfl rfl rfl ?_
    refine pj_iconst 130 rfl rfl ?_
    obtain ⟨q19, h⟩ := h
    refine pn_iast 131 10 (pr_0_10 o0)  q19 rfl rfl (fun M20 hM20 => ?_)
    replace h := h M20 hM20
    refine pj_iinc 134 1 (ls' := [(0, .ref r0), (3, .int (pj_I (x3 + 1)))]) rfl rfl (by decide) rfl rfl ?_
    refine pj_goto 118 rfl (by decide) ?_
    refine pn_sub [0, 1] rfl ?_
    exact hk118 _ _ h
set_option maxRecDepth 20000 in
set_option maxHeartbeats 4000000 in
theorem s_X0_learn_118 {l : Launch} {g : pj_G} (hg : pj_ph g = true) {r0 : Nat} {x3 : Int} {M : pj_M} {Q : pj_M → Prop}  (o0 : pj_ob r0 0)  (h : w_X0_learn_118 r0  Q x3 M) : pj_R l g mdX0_learn pj_T (pj_Zm g mdX0_learn (pj_qv Q)) pj_NK 0 0 118 [(0, .ref r0), (3, .int (pj_I x3))] [] M :=
  h (fun s => pj_R l g mdX0_learn pj_T (pj_Zm g mdX0_learn (pj_qv Q)) pj_NK 0 0 118 [(0, .ref r0), (3, .int (pj_I (s.1)))] [] s.2) (fun s hs => s_X0_learn_118b hg o0  (fun _ _ q => q) hs)
set_option maxRecDepth 20000 in
set_option maxHeartbeats 4000000 in
theorem s_X0_learn_63b {l : Launch} {g : pj_G} (hg : pj_ph g = true) {r0 : Nat} {x3 : Int} {M : pj_M} {Q : pj_M → Prop}  {k63 : Int → pj_M → Prop} (o0 : pj_ob r0 0)  (hk63 : ∀ (x3 : Int) (M : pj_M), k63 x3 M → pj_R l g mdX0_learn pj_T (pj_Zm g mdX0_learn (pj_qv Q)) pj_NK 0 0 63 [(0, .ref r0), (3, .int (pj_I x3))] [] M) (h : w_X0_learn_63b r0  Q k63 x3 M) : pj_R l g mdX0_learn pj_T (pj_Zm g mdX0_learn (pj_qv Q)) pj_NK 0 0 63 [(0, .ref r0), (3, .int (pj_I x3))] [] M := by
  unfold w_X0_learn_63b at h
  refine pj_iload_n 64 1 rfl rfl rfl rfl ?_
  refine pj_aload_n 65 0 rfl rfl rfl rfl ?_
  refine pn_getr 68 0 0 hg o0 (pr_0_0 o0).2 rfl pfX0_14 rfl rfl ?_
  refine pn_geti 71 4 3 3 (pr_0_0 o0) rfl pfX0_78 (Or.inl rfl) rfl rfl ?_
  obtain ⟨q10, h⟩ := h
  obtain ⟨q11, h⟩ := h
  refine pj_icmp_ge 102 74 rfl (by decide) rfl q10 q11 (fun hc => ?_) (fun hc => ?_)
  · replace h := h.1 hc
    refine pj_aload_n 103 0 rfl rfl rfl rfl ?_
    refine pn_callVv 106 0 [] [] o0 (s_X0_addFrame hg o0 h) plX0_90 rfl rfl rfl rfl (Nat.le_of_ble_eq_true rfl) (by decide) (fun M12 h => ?_)
    refine pj_aload_n 107 0 rfl rfl rfl rfl ?_
    refine pj_iconst 108 rfl rfl ?_
    refine pn_puti 111 0 11 11 o0  rfl pfX0_93 rfl rfl rfl (fun M14 hM14 => ?_)
    replace h := h M14 hM14
    refine pj_aload_n 112 0 rfl rfl rfl rfl ?_
    refine pj_iconst 113 rfl rfl ?_
    refine pn_puti 116 0 12 12 o0  rfl pfX0_96 rfl rfl rfl (fun M15 hM15 => ?_)
    replace h := h M15 hM15
    refine pj_iconst 117 rfl rfl ?_
    refine pj_istore_n 118 (ls' := [(0, .ref r0), (3, .int (pj_I 0))]) rfl rfl (by decide) rfl rfl ?_
    refine pn_sub [0, 1] rfl ?_
    exact s_X0_learn_118 hg o0   h
  · replace h := h.2 hc
    refine pj_aload_n 75 0 rfl rfl rfl rfl ?_
    refine pn_getr 78 0 1 hg o0 (pr_0_1 o0).2 rfl pfX0_21 rfl rfl ?_
    refine pj_aload_n 79 0 rfl rfl rfl rfl ?_
    refine pn_getr 82 0 0 hg o0 (pr_0_0 o0).2 rfl pfX0_14 rfl rfl ?_
    refine pj_iload_n 83 1 rfl rfl rfl rfl ?_
    refine pn_callVi 86 3 [.ref (pj_rf r0 0), .int (pj_I x3)] [] (pr_0_1 o0) (s_X3_lengthOf hg (pr_0_1 o0) (pr_0_0 o0) h) plX0_81 rfl rfl rfl rfl (Nat.le_of_ble_eq_true rfl) (by decide) (fun t22 M21 h => ?_)
    refine pj_ldc 88 1048576 rfl pkX0_85 rfl ?_
    obtain ⟨q23, h⟩ := h
    refine pj_icmp_ge 96 91 rfl (by decide) rfl q23 (show pj_in 1048576 by decide) (fun hc => ?_) (fun hc => ?_)
    · replace h := h.1 hc
      refine pj_iinc 99 1 (ls' := [(0, .ref r0), (3, .int (pj_I (x3 + 1)))]) rfl rfl (by decide) rfl rfl ?_
      refine pj_goto 63 rfl (by decide) ?_
      refine pn_sub [0, 1] rfl ?_
      exact hk63 _ _ h
    · replace h := h.2 hc
      refine pj_aload_n 92 0 rfl rfl rfl rfl ?_
      refine pj_iload_n 93 1 rfl rfl rfl rfl ?_
      refine pn_callVv 96 0 [.int (pj_I x3)] [] o0 (s_X0_addRule hg o0 h) plX0_86 rfl rfl rfl rfl (Nat.le_of_ble_eq_true rfl) (by decide) (fun M24 h => ?_)
      refine pj_iinc 99 1 (ls' := [(0, .ref r0), (3, .int (pj_I (x3 + 1)))]) rfl rfl (by decide) rfl rfl ?_
      refine pj_goto 63 rfl (by decide) ?_
      refine pn_sub [0, 1] rfl ?_
      exact hk63 _ _ h
set_option maxRecDepth 20000 in
set_option maxHeartbeats 4000000 in
theorem s_X0_learn_63 {l : Launch} {g : pj_G} (hg : pj_ph g = true) {r0 : Nat} {x3 : Int} {M : pj_M} {Q : pj_M → Prop}  (o0 : pj_ob r0 0)  (h : w_X0_learn_63 r0  Q x3 M) : pj_R l g mdX0_learn pj_T (pj_Zm g mdX0_learn (pj_qv Q)) pj_NK 0 0 63 [(0, .ref r0), (3, .int (pj_I x3))] [] M :=
  h (fun s => pj_R l g mdX0_learn pj_T (pj_Zm g mdX0_learn (pj_qv Q)) pj_NK 0 0 63 [(0, .ref r0), (3, .int (pj_I (s.1)))] [] s.2) (fun s hs => s_X0_learn_63b hg o0  (fun _ _ q => q) hs)
set_option maxRecDepth 20000 in
set_option maxHeartbeats 4000000 in
theorem s_X0_learn_27 {l : Launch} {g : pj_G} (hg : pj_ph g = true) {r0 : Nat} {r1 : Nat} {x2 : Int} {M : pj_M} {Q : pj_M → Prop}  (o0 : pj_ob r0 0) (o1 : pj_ob r1 4)  (h : w_X0_learn_27 r0 r1 x2  Q M) : pj_R l g mdX0_learn pj_T (pj_Zm g mdX0_learn (pj_qv Q)) pj_NK 0 0 27 [(0, .ref r0), (1, .ref r1), (2, .int (pj_I x2))] [] M := by
  unfold w_X0_learn_27 at h
  refine pj_aload_n 28 0 rfl rfl rfl rfl ?_
  refine pj_iconst 29 rfl rfl ?_
  refine pn_putz 32 0 7 7 o0 (by decide) rfl pfX0_56 rfl rfl rfl (fun M2 hM2 => ?_)
  replace h := h M2 hM2
  refine pj_aload_n 33 0 rfl rfl rfl rfl ?_
  refine pj_iload_n 34 2 rfl rfl rfl rfl ?_
  obtain ⟨q3, h⟩ := h
  refine pn_putz 37 0 8 8 o0 q3 rfl pfX0_60 rfl rfl rfl (fun M4 hM4 => ?_)
  replace h := h M4 hM4
  refine pj_aload_n 38 0 rfl rfl rfl rfl ?_
  refine pn_getr 41 0 0 hg o0 (pr_0_0 o0).2 rfl pfX0_14 rfl rfl ?_
  refine pj_aload_n 42 1 rfl rfl rfl rfl ?_
  refine pn_callVv 45 4 [.ref r1] [] (pr_0_0 o0) (s_X4_copyFrom hg (pr_0_0 o0) o1 h) plX0_67 rfl rfl rfl rfl (Nat.le_of_ble_eq_true rfl) (by decide) (fun M5 h => ?_)
  refine pj_aload_n 46 0 rfl rfl rfl rfl ?_
  refine pn_getr 49 0 1 hg o0 (pr_0_1 o0).2 rfl pfX0_21 rfl rfl ?_
  refine pj_aload_n 50 0 rfl rfl rfl rfl ?_
  refine pn_getr 53 0 0 hg o0 (pr_0_0 o0).2 rfl pfX0_14 rfl rfl ?_
  refine pn_callVv 56 3 [.ref (pj_rf r0 0)] [] (pr_0_1 o0) (s_X3_learn hg (pr_0_1 o0) (pr_0_0 o0) h) plX0_71 rfl rfl rfl rfl (Nat.le_of_ble_eq_true rfl) (by decide) (fun M7 h => ?_)
  refine pj_aload_n 57 0 rfl rfl rfl rfl ?_
  refine pj_iconst 58 rfl rfl ?_
  refine pn_puti 61 0 6 6 o0  rfl pfX0_74 rfl rfl rfl (fun M9 hM9 => ?_)
  replace h := h M9 hM9
  refine pj_iconst 62 rfl rfl ?_
  refine pj_istore_n 63 (ls' := [(0, .ref r0), (1, .ref r1), (2, .int (pj_I x2)), (3, .int (pj_I 0))]) rfl rfl (by decide) rfl rfl ?_
  refine pn_sub [0, 3] rfl ?_
  exact s_X0_learn_63 hg o0   h
set_option maxRecDepth 20000 in
set_option maxHeartbeats 4000000 in
theorem s_X0_learn {l : Launch} {g : pj_G} (hg : pj_ph g = true) {r0 : Nat} {r1 : Nat} {x2 : Int} {M : pj_M} {Q : pj_M → Prop} (o0 : pj_ob r0 0) (o1 : pj_ob r1 4) (h : w_X0_learn r0 r1 x2 M Q) : pj_S l g mdX0_learn [.ref r0, .ref r1, .int (pj_I x2)] pj_NK M (pj_qv Q) := by
  refine pj_ofR (ls := [(0, .ref r0), (1, .ref r1), (2, .int (pj_I x2))]) gcX0_learn (by decide) rfl (Nat.le_of_ble_eq_true rfl) rfl ?_
  unfold w_X0_learn at h
  refine pj_aload_n 1 0 rfl rfl rfl rfl ?_
  refine pn_geti 4 0 7 7 o0 rfl pfX0_56 (Or.inr rfl) rfl rfl ?_
  obtain ⟨q1, h⟩ := h
  refine pj_if_eq 27 7 rfl (by decide) rfl q1  (fun hc => ?_) (fun hc => ?_)
  · replace h := h.1 hc
    refine pn_sub [0, 1, 2] rfl ?_
    exact s_X0_learn_27 hg o0 o1   h
  · replace h := h.2 hc
    refine pj_aload_n 8 0 rfl rfl rfl rfl ?_
    refine pn_geti 11 0 8 8 o0 rfl pfX0_60 (Or.inr rfl) rfl rfl ?_
    refine pj_iload_n 12 2 rfl rfl rfl rfl ?_
    obtain ⟨q26, h⟩ := h
    obtain ⟨q27, h⟩ := h
    refine pj_icmp_ne 27 15 rfl (by decide) rfl q26 q27 (fun hc => ?_) (fun hc => ?_)
    · replace h := h.1 hc
      refine pn_sub [0, 1, 2] rfl ?_
      exact s_X0_learn_27 hg o0 o1   h
    · replace h := h.2 (Classical.not_not.mp hc)
      refine pj_aload_n 16 0 rfl rfl rfl rfl ?_
      refine pn_getr 19 0 0 hg o0 (pr_0_0 o0).2 rfl pfX0_14 rfl rfl ?_
      refine pj_aload_n 20 1 rfl rfl rfl rfl ?_
      refine pn_callVi 23 4 [.ref r1] [] (pr_0_0 o0) (s_X4_isLike hg (pr_0_0 o0) o1 h) plX0_63 rfl rfl rfl rfl (Nat.le_of_ble_eq_true rfl) (by decide) (fun t29 M28 h => ?_)
      obtain ⟨q30, h⟩ := h
      refine pj_if_eq 27 26 rfl (by decide) rfl q30  (fun hc => ?_) (fun hc => ?_)
      · replace h := h.1 hc
        refine pn_sub [0, 1, 2] rfl ?_
        exact s_X0_learn_27 hg o0 o1   h
      · replace h := h.2 hc
        exact pn_vret h rfl rfl
def w_X0_cut_28b (r0 : Nat) (x1 : Int)  (Q : pj_M → Prop) (k28 : Int → pj_M → Prop) (x2 : Int) (M : pj_M) : Prop :=
  (pj_in x2) ∧ ((10 ≤ x2 → Q M) ∧ (¬ 10 ≤ x2 → ((0 : Int) ≤ x2 ∧ x2 < 10) ∧ ((0 : Int) ≤ x2 ∧ x2 < 10) ∧ ∀ M10 : pj_M, M10 = pj_up M (pj_rf r0 10) x2 (pj_and (M (pj_rf r0 10) x2) ((pj_shl 1 x1) - 1)) → k28 (x2 + 1) M10))
def w_X0_cut_28 (r0 : Nat) (x1 : Int)  (Q : pj_M → Prop) (x2 : Int) (M : pj_M) : Prop := pj_lp (fun (k : Int × pj_M → Prop) (s : Int × pj_M) => w_X0_cut_28b r0 x1  Q (fun (x2 : Int) (M : pj_M) => k (x2, M)) s.1 s.2) (x2, M)
def w_X0_cut (r0 : Nat) (x1 : Int) (M : pj_M) (Q : pj_M → Prop) : Prop :=
  (pj_in x1) ∧ (pj_in (M r0 11)) ∧ ((x1 < (M r0 11) → ∀ M3 : pj_M, M3 = pj_up M r0 11 x1 → w_Jmin (M3 r0 12) x1 M3 (fun (t5 : Int) (M4 : pj_M) => ∀ M6 : pj_M, M6 = pj_up M4 r0 12 t5 → w_X0_cut_28 r0 x1  Q 0 M6)) ∧ (¬ x1 < (M r0 11) → Q M))
set_option maxRecDepth 20000 in
set_option maxHeartbeats 4000000 in
theorem s_X0_cut_28b {l : Launch} {g : pj_G} (hg : pj_ph g = true) {r0 : Nat} {x1 : Int} {x2 : Int} {M : pj_M} {Q : pj_M → Prop}  {k28 : Int → pj_M → Prop} (o0 : pj_ob r0 0)  (hk28 : ∀ (x2 : Int) (M : pj_M), k28 x2 M → pj_R l g mdX0_cut pj_T (pj_Zm g mdX0_cut (pj_qv Q)) pj_NK 0 0 28 [(0, .ref r0), (1, .int (pj_I x1)), (2, .int (pj_I x2))] [] M) (h : w_X0_cut_28b r0 x1  Q k28 x2 M) : pj_R l g mdX0_cut pj_T (pj_Zm g mdX0_cut (pj_qv Q)) pj_NK 0 0 28 [(0, .ref r0), (1, .int (pj_I x1)), (2, .int (pj_I x2))] [] M := by
  unfold w_X0_cut_28b at h
  refine pj_iload_n 29 2 rfl rfl rfl rfl ?_
  refine pj_bipush 31 rfl (by decide) rfl ?_
  obtain ⟨q7, h⟩ := h
  refine pj_icmp_ge 54 34 rfl (by decide) rfl q7 (show pj_in 10 by decide) (fun hc => ?_) (fun hc => ?_)
  · replace h := h.1 hc
    exact pn_vret h rfl rfl
  · replace h := h.2 hc
    refine pj_aload_n 35 0 rfl rfl rfl rfl ?_
    refine pn_getr 38 0 10 hg o0 (pr_0_10 o0).2 rfl pfX0_41 rfl rfl ?_
    refine pj_iload_n 39 2 rfl rfl rfl rfl ?_
    refine pj_dup2 40 rfl rfl rfl rfl ?_
    obtain ⟨q8, h⟩ := h
    refine pn_iald 41 10 (pr_0_10 o0) q8 rfl rfl ?_
    refine pj_iconst 42 rfl rfl ?_
    refine pj_iload_n 43 1 rfl rfl rfl rfl ?_
    refine pj_ishl 44 rfl rfl ?_
    refine pj_iconst 45 rfl rfl ?_
    refine pj_isub 46 rfl rfl ?_
    refine pj_iand 47 rfl rfl ?_
    obtain ⟨q9, h⟩ := h
    refine pn_iast 48 10 (pr_0_10 o0)  q9 rfl rfl (fun M10 hM10 => ?_)
    replace h := h M10 hM10
    refine pj_iinc 51 2 (ls' := [(0, .ref r0), (1, .int (pj_I x1)), (2, .int (pj_I (x2 + 1)))]) rfl rfl (by decide) rfl rfl ?_
    refine pj_goto 28 rfl (by decide) ?_
    refine pn_sub [0, 1, 2] rfl ?_
    exact hk28 _ _ h
set_option maxRecDepth 20000 in
set_option maxHeartbeats 4000000 in
theorem s_X0_cut_28 {l : Launch} {g : pj_G} (hg : pj_ph g = true) {r0 : Nat} {x1 : Int} {x2 : Int} {M : pj_M} {Q : pj_M → Prop}  (o0 : pj_ob r0 0)  (h : w_X0_cut_28 r0 x1  Q x2 M) : pj_R l g mdX0_cut pj_T (pj_Zm g mdX0_cut (pj_qv Q)) pj_NK 0 0 28 [(0, .ref r0), (1, .int (pj_I x1)), (2, .int (pj_I x2))] [] M :=
  h (fun s => pj_R l g mdX0_cut pj_T (pj_Zm g mdX0_cut (pj_qv Q)) pj_NK 0 0 28 [(0, .ref r0), (1, .int (pj_I x1)), (2, .int (pj_I (s.1)))] [] s.2) (fun s hs => s_X0_cut_28b hg o0  (fun _ _ q => q) hs)
set_option maxRecDepth 20000 in
set_option maxHeartbeats 4000000 in
theorem s_X0_cut {l : Launch} {g : pj_G} (hg : pj_ph g = true) {r0 : Nat} {x1 : Int} {M : pj_M} {Q : pj_M → Prop} (o0 : pj_ob r0 0) (h : w_X0_cut r0 x1 M Q) : pj_S l g mdX0_cut [.ref r0, .int (pj_I x1)] pj_NK M (pj_qv Q) := by
  refine pj_ofR (ls := [(0, .ref r0), (1, .int (pj_I x1))]) gcX0_cut (by decide) rfl (Nat.le_of_ble_eq_true rfl) rfl ?_
  unfold w_X0_cut at h
  refine pj_iload_n 1 1 rfl rfl rfl rfl ?_
  refine pj_aload_n 2 0 rfl rfl rfl rfl ?_
  refine pn_geti 5 0 11 11 o0 rfl pfX0_93 (Or.inl rfl) rfl rfl ?_
  obtain ⟨q1, h⟩ := h
  obtain ⟨q2, h⟩ := h
  refine pj_icmp_lt 9 8 rfl (by decide) rfl q1 q2 (fun hc => ?_) (fun hc => ?_)
  · replace h := h.1 hc
    refine pj_aload_n 10 0 rfl rfl rfl rfl ?_
    refine pj_iload_n 11 1 rfl rfl rfl rfl ?_
    refine pn_puti 14 0 11 11 o0  rfl pfX0_93 rfl rfl rfl (fun M3 hM3 => ?_)
    replace h := h M3 hM3
    refine pj_aload_n 15 0 rfl rfl rfl rfl ?_
    refine pj_aload_n 16 0 rfl rfl rfl rfl ?_
    refine pn_geti 19 0 12 12 o0 rfl pfX0_96 (Or.inl rfl) rfl rfl ?_
    refine pj_iload_n 20 1 rfl rfl rfl rfl ?_
    refine pn_callSi 23 [.int (pj_I (M3 r0 12)), .int (pj_I x1)] [.ref r0] (s_Jmin hg  h) plX0_142 rfl rfl rfl rfl (Nat.le_of_ble_eq_true rfl) (by decide) (fun t5 M4 h => ?_)
    refine pn_puti 26 0 12 12 o0  rfl pfX0_96 rfl rfl rfl (fun M6 hM6 => ?_)
    replace h := h M6 hM6
    refine pj_iconst 27 rfl rfl ?_
    refine pj_istore_n 28 (ls' := [(0, .ref r0), (1, .int (pj_I x1)), (2, .int (pj_I 0))]) rfl rfl (by decide) rfl rfl ?_
    refine pn_sub [0, 1, 2] rfl ?_
    exact s_X0_cut_28 hg o0   h
  · replace h := h.2 hc
    exact pn_vret h rfl rfl
def w_X0_push (r0 : Nat) (x1 : Int) (M : pj_M) (Q : pj_M → Prop) : Prop :=
  (pj_in (M r0 11)) ∧ (((M r0 11) < 17 → ((0 : Int) ≤ (M r0 11) ∧ (M r0 11) < 17) ∧ ∀ M3 : pj_M, M3 = pj_up M (pj_rf r0 9) (M r0 11) x1 → ((0 : Int) ≤ x1 ∧ x1 < 10) ∧ ((0 : Int) ≤ x1 ∧ x1 < 10) ∧ ∀ M6 : pj_M, M6 = pj_up M3 (pj_rf r0 10) x1 (pj_or (M3 (pj_rf r0 10) x1) (pj_shl 1 (M3 r0 11))) → ∀ M7 : pj_M, M7 = pj_up M6 r0 11 ((M6 r0 11) + 1) → w_X0_fillWhole r0 M7 (fun (M8 : pj_M) => Q M8)) ∧ (¬ (M r0 11) < 17 → Q M))
set_option maxRecDepth 20000 in
set_option maxHeartbeats 4000000 in
theorem s_X0_push {l : Launch} {g : pj_G} (hg : pj_ph g = true) {r0 : Nat} {x1 : Int} {M : pj_M} {Q : pj_M → Prop} (o0 : pj_ob r0 0) (h : w_X0_push r0 x1 M Q) : pj_S l g mdX0_push [.ref r0, .int (pj_I x1)] pj_NK M (pj_qv Q) := by
  refine pj_ofR (ls := [(0, .ref r0), (1, .int (pj_I x1))]) gcX0_push (by decide) rfl (Nat.le_of_ble_eq_true rfl) rfl ?_
  unfold w_X0_push at h
  refine pj_aload_n 1 0 rfl rfl rfl rfl ?_
  refine pn_geti 4 0 11 11 o0 rfl pfX0_93 (Or.inl rfl) rfl rfl ?_
  refine pj_bipush 6 rfl (by decide) rfl ?_
  obtain ⟨q1, h⟩ := h
  refine pj_icmp_lt 10 9 rfl (by decide) rfl q1 (show pj_in 17 by decide) (fun hc => ?_) (fun hc => ?_)
  · replace h := h.1 hc
    refine pj_aload_n 11 0 rfl rfl rfl rfl ?_
    refine pn_getr 14 0 9 hg o0 (pr_0_9 o0).2 rfl pfX0_38 rfl rfl ?_
    refine pj_aload_n 15 0 rfl rfl rfl rfl ?_
    refine pn_geti 18 0 11 11 o0 rfl pfX0_93 (Or.inl rfl) rfl rfl ?_
    refine pj_iload_n 19 1 rfl rfl rfl rfl ?_
    obtain ⟨q2, h⟩ := h
    refine pn_iast 20 17 (pr_0_9 o0)  q2 rfl rfl (fun M3 hM3 => ?_)
    replace h := h M3 hM3
    refine pj_aload_n 21 0 rfl rfl rfl rfl ?_
    refine pn_getr 24 0 10 hg o0 (pr_0_10 o0).2 rfl pfX0_41 rfl rfl ?_
    refine pj_iload_n 25 1 rfl rfl rfl rfl ?_
    refine pj_dup2 26 rfl rfl rfl rfl ?_
    obtain ⟨q4, h⟩ := h
    refine pn_iald 27 10 (pr_0_10 o0) q4 rfl rfl ?_
    refine pj_iconst 28 rfl rfl ?_
    refine pj_aload_n 29 0 rfl rfl rfl rfl ?_
    refine pn_geti 32 0 11 11 o0 rfl pfX0_93 (Or.inl rfl) rfl rfl ?_
    refine pj_ishl 33 rfl rfl ?_
    refine pj_ior 34 rfl rfl ?_
    obtain ⟨q5, h⟩ := h
    refine pn_iast 35 10 (pr_0_10 o0)  q5 rfl rfl (fun M6 hM6 => ?_)
    replace h := h M6 hM6
    refine pj_aload_n 36 0 rfl rfl rfl rfl ?_
    refine pj_dup 37 rfl rfl rfl ?_
    refine pn_geti 40 0 11 11 o0 rfl pfX0_93 (Or.inl rfl) rfl rfl ?_
    refine pj_iconst 41 rfl rfl ?_
    refine pj_iadd 42 rfl rfl ?_
    refine pn_puti 45 0 11 11 o0  rfl pfX0_93 rfl rfl rfl (fun M7 hM7 => ?_)
    replace h := h M7 hM7
    refine pj_aload_n 46 0 rfl rfl rfl rfl ?_
    refine pn_callVv 49 0 [] [] o0 (s_X0_fillWhole hg o0 h) plX0_99 rfl rfl rfl rfl (Nat.le_of_ble_eq_true rfl) (by decide) (fun M8 h => ?_)
    exact pn_vret h rfl rfl
  · replace h := h.2 hc
    exact pn_vret h rfl rfl
def w_X0_lay_19 (r0 : Nat) (x1 : Int) (x2 : Int)  (Q : pj_M → Prop) (M : pj_M) : Prop :=
  w_X0_cut r0 x1 M (fun (M3 : pj_M) => w_X0_push r0 x2 M3 (fun (M5 : pj_M) => Q M5))
def w_X0_lay (r0 : Nat) (x1 : Int) (x2 : Int) (M : pj_M) (Q : pj_M → Prop) : Prop :=
  (pj_in x1) ∧ (pj_in (M r0 11)) ∧ (((M r0 11) ≤ x1 → w_X0_lay_19 r0 x1 x2  Q M) ∧ (¬ (M r0 11) ≤ x1 → ((0 : Int) ≤ x1 ∧ x1 < 17) ∧ (pj_in (M (pj_rf r0 9) x1)) ∧ (pj_in x2) ∧ ((¬ (M (pj_rf r0 9) x1) = x2 → w_X0_lay_19 r0 x1 x2  Q M) ∧ ((M (pj_rf r0 9) x1) = x2 → Q M))))
set_option maxRecDepth 20000 in
set_option maxHeartbeats 4000000 in
theorem s_X0_lay_19 {l : Launch} {g : pj_G} (hg : pj_ph g = true) {r0 : Nat} {x1 : Int} {x2 : Int} {M : pj_M} {Q : pj_M → Prop}  (o0 : pj_ob r0 0)  (h : w_X0_lay_19 r0 x1 x2  Q M) : pj_R l g mdX0_lay pj_T (pj_Zm g mdX0_lay (pj_qv Q)) pj_NK 0 0 19 [(0, .ref r0), (1, .int (pj_I x1)), (2, .int (pj_I x2))] [] M := by
  unfold w_X0_lay_19 at h
  refine pj_aload_n 20 0 rfl rfl rfl rfl ?_
  refine pj_iload_n 21 1 rfl rfl rfl rfl ?_
  refine pn_callVv 24 0 [.int (pj_I x1)] [] o0 (s_X0_cut hg o0 h) plX0_124 rfl rfl rfl rfl (Nat.le_of_ble_eq_true rfl) (by decide) (fun M3 h => ?_)
  refine pj_aload_n 25 0 rfl rfl rfl rfl ?_
  refine pj_iload_n 26 2 rfl rfl rfl rfl ?_
  refine pn_callVv 29 0 [.int (pj_I x2)] [] o0 (s_X0_push hg o0 h) plX0_139 rfl rfl rfl rfl (Nat.le_of_ble_eq_true rfl) (by decide) (fun M5 h => ?_)
  exact pn_vret h rfl rfl
set_option maxRecDepth 20000 in
set_option maxHeartbeats 4000000 in
theorem s_X0_lay {l : Launch} {g : pj_G} (hg : pj_ph g = true) {r0 : Nat} {x1 : Int} {x2 : Int} {M : pj_M} {Q : pj_M → Prop} (o0 : pj_ob r0 0) (h : w_X0_lay r0 x1 x2 M Q) : pj_S l g mdX0_lay [.ref r0, .int (pj_I x1), .int (pj_I x2)] pj_NK M (pj_qv Q) := by
  refine pj_ofR (ls := [(0, .ref r0), (1, .int (pj_I x1)), (2, .int (pj_I x2))]) gcX0_lay (by decide) rfl (Nat.le_of_ble_eq_true rfl) rfl ?_
  unfold w_X0_lay at h
  refine pj_iload_n 1 1 rfl rfl rfl rfl ?_
  refine pj_aload_n 2 0 rfl rfl rfl rfl ?_
  refine pn_geti 5 0 11 11 o0 rfl pfX0_93 (Or.inl rfl) rfl rfl ?_
  obtain ⟨q1, h⟩ := h
  obtain ⟨q2, h⟩ := h
  refine pj_icmp_ge 19 8 rfl (by decide) rfl q1 q2 (fun hc => ?_) (fun hc => ?_)
  · replace h := h.1 hc
    refine pn_sub [0, 1, 2] rfl ?_
    exact s_X0_lay_19 hg o0   h
  · replace h := h.2 hc
    refine pj_aload_n 9 0 rfl rfl rfl rfl ?_
    refine pn_getr 12 0 9 hg o0 (pr_0_9 o0).2 rfl pfX0_38 rfl rfl ?_
    refine pj_iload_n 13 1 rfl rfl rfl rfl ?_
    obtain ⟨q7, h⟩ := h
    refine pn_iald 14 17 (pr_0_9 o0) q7 rfl rfl ?_
    refine pj_iload_n 15 2 rfl rfl rfl rfl ?_
    obtain ⟨q8, h⟩ := h
    obtain ⟨q9, h⟩ := h
    refine pj_icmp_ne 19 18 rfl (by decide) rfl q8 q9 (fun hc => ?_) (fun hc => ?_)
    · replace h := h.1 hc
      refine pn_sub [0, 1, 2] rfl ?_
      exact s_X0_lay_19 hg o0   h
    · replace h := h.2 (Classical.not_not.mp hc)
      exact pn_vret h rfl rfl
def w_X3_yieldsSomething (r0 : Nat) (x1 : Int) (M : pj_M) (Q : Int → pj_M → Prop) : Prop :=
  ((0 : Int) ≤ x1 ∧ x1 < 6) ∧ (pj_in (M (pj_rf r0 0) x1)) ∧ ((1048576 ≤ (M (pj_rf r0 0) x1) → Q 0 M) ∧ (¬ 1048576 ≤ (M (pj_rf r0 0) x1) → Q 1 M))
set_option maxRecDepth 20000 in
set_option maxHeartbeats 4000000 in
theorem s_X3_yieldsSomething {l : Launch} {g : pj_G} (hg : pj_ph g = true) {r0 : Nat} {x1 : Int} {M : pj_M} {Q : Int → pj_M → Prop} (o0 : pj_ob r0 3) (h : w_X3_yieldsSomething r0 x1 M Q) : pj_S l g mdX3_yieldsSomething [.ref r0, .int (pj_I x1)] pj_NK M (pj_qi Q) := by
  refine pj_ofR (ls := [(0, .ref r0), (1, .int (pj_I x1))]) gcX3_yieldsSomething (by decide) rfl (Nat.le_of_ble_eq_true rfl) rfl ?_
  unfold w_X3_yieldsSomething at h
  refine pj_aload_n 1 0 rfl rfl rfl rfl ?_
  refine pn_getr 4 3 0 hg o0 (pr_3_0 o0).2 rfl pfX3_9 rfl rfl ?_
  refine pj_iload_n 5 1 rfl rfl rfl rfl ?_
  obtain ⟨q1, h⟩ := h
  refine pn_iald 6 6 (pr_3_0 o0) q1 rfl rfl ?_
  refine pj_ldc 8 1048576 rfl pkX3_34 rfl ?_
  obtain ⟨q2, h⟩ := h
  refine pj_icmp_ge 15 11 rfl (by decide) rfl q2 (show pj_in 1048576 by decide) (fun hc => ?_) (fun hc => ?_)
  · replace h := h.1 hc
    refine pj_iconst 16 rfl rfl ?_
    exact pn_zret (by decide) h rfl rfl
  · replace h := h.2 hc
    refine pj_iconst 12 rfl rfl ?_
    refine pj_goto 16 rfl (by decide) ?_
    exact pn_zret (by decide) h rfl rfl
def w_Jbits (x0 : Int) (M : pj_M) (Q : Int → pj_M → Prop) : Prop :=
  ∀ z1 : Int, z1 = (x0 - (pj_and (pj_ushr x0 1) 1431655765)) → ∀ z2 : Int, z2 = ((pj_and z1 858993459) + (pj_and (pj_ushr z1 2) 858993459)) → ∀ z3 : Int, z3 = (pj_and (z2 + (pj_ushr z2 4)) 252645135) → ∀ z4 : Int, z4 = (z3 + (pj_ushr z3 8)) → ∀ z5 : Int, z5 = (z4 + (pj_ushr z4 16)) → Q (pj_and z5 63) M
set_option maxRecDepth 20000 in
set_option maxHeartbeats 4000000 in
theorem s_Jbits {l : Launch} {g : pj_G} (hg : pj_ph g = true) {x0 : Int} {M : pj_M} {Q : Int → pj_M → Prop}  (h : w_Jbits x0 M Q) : pj_S l g mdJbits [.int (pj_I x0)] pj_NK M (pj_qi Q) := by
  refine pj_ofR (ls := [(0, .int (pj_I x0))]) gcJbits (by decide) rfl (Nat.le_of_ble_eq_true rfl) rfl ?_
  unfold w_Jbits at h
  refine pj_iload_n 1 0 rfl rfl rfl rfl ?_
  refine pj_iload_n 2 0 rfl rfl rfl rfl ?_
  refine pj_iconst 3 rfl rfl ?_
  refine pj_iushr 4 rfl rfl ?_
  refine pj_ldc_w 7 1431655765 rfl pkJI_265 rfl ?_
  refine pj_iand 8 rfl rfl ?_
  refine pj_isub 9 rfl rfl ?_
  refine pn_nm (fun z1 hz1 => ?_)
  replace h := h z1 hz1
  refine pj_istore_n 10 (ls' := [(0, .int (pj_I z1))]) rfl rfl (by decide) rfl rfl ?_
  refine pj_iload_n 11 0 rfl rfl rfl rfl ?_
  refine pj_ldc_w 14 858993459 rfl pkJI_266 rfl ?_
  refine pj_iand 15 rfl rfl ?_
  refine pj_iload_n 16 0 rfl rfl rfl rfl ?_
  refine pj_iconst 17 rfl rfl ?_
  refine pj_iushr 18 rfl rfl ?_
  refine pj_ldc_w 21 858993459 rfl pkJI_266 rfl ?_
  refine pj_iand 22 rfl rfl ?_
  refine pj_iadd 23 rfl rfl ?_
  refine pn_nm (fun z2 hz2 => ?_)
  replace h := h z2 hz2
  refine pj_istore_n 24 (ls' := [(0, .int (pj_I z2))]) rfl rfl (by decide) rfl rfl ?_
  refine pj_iload_n 25 0 rfl rfl rfl rfl ?_
  refine pj_iload_n 26 0 rfl rfl rfl rfl ?_
  refine pj_iconst 27 rfl rfl ?_
  refine pj_iushr 28 rfl rfl ?_
  refine pj_iadd 29 rfl rfl ?_
  refine pj_ldc_w 32 252645135 rfl pkJI_267 rfl ?_
  refine pj_iand 33 rfl rfl ?_
  refine pn_nm (fun z3 hz3 => ?_)
  replace h := h z3 hz3
  refine pj_istore_n 34 (ls' := [(0, .int (pj_I z3))]) rfl rfl (by decide) rfl rfl ?_
  refine pj_iload_n 35 0 rfl rfl rfl rfl ?_
  refine pj_iload_n 36 0 rfl rfl rfl rfl ?_
  refine pj_bipush 38 rfl (by decide) rfl ?_
  refine pj_iushr 39 rfl rfl ?_
  refine pj_iadd 40 rfl rfl ?_
  refine pn_nm (fun z4 hz4 => ?_)
  replace h := h z4 hz4
  refine pj_istore_n 41 (ls' := [(0, .int (pj_I z4))]) rfl rfl (by decide) rfl rfl ?_
  refine pj_iload_n 42 0 rfl rfl rfl rfl ?_
  refine pj_iload_n 43 0 rfl rfl rfl rfl ?_
  refine pj_bipush 45 rfl (by decide) rfl ?_
  refine pj_iushr 46 rfl rfl ?_
  refine pj_iadd 47 rfl rfl ?_
  refine pn_nm (fun z5 hz5 => ?_)
  replace h := h z5 hz5
  refine pj_istore_n 48 (ls' := [(0, .int (pj_I z5))]) rfl rfl (by decide) rfl rfl ?_
  refine pj_iload_n 49 0 rfl rfl rfl rfl ?_
  refine pj_bipush 51 rfl (by decide) rfl ?_
  refine pj_iand 52 rfl rfl ?_
  exact pn_iret h rfl rfl
def w_X0_lowest (x0 : Int) (M : pj_M) (Q : Int → pj_M → Prop) : Prop :=
  w_Jbits ((pj_and x0 (pj_neg x0)) - 1) M (fun (t2 : Int) (M1 : pj_M) => Q t2 M1)
set_option maxRecDepth 20000 in
set_option maxHeartbeats 4000000 in
theorem s_X0_lowest {l : Launch} {g : pj_G} (hg : pj_ph g = true) {x0 : Int} {M : pj_M} {Q : Int → pj_M → Prop}  (h : w_X0_lowest x0 M Q) : pj_S l g mdX0_lowest [.int (pj_I x0)] pj_NK M (pj_qi Q) := by
  refine pj_ofR (ls := [(0, .int (pj_I x0))]) gcX0_lowest (by decide) rfl (Nat.le_of_ble_eq_true rfl) rfl ?_
  unfold w_X0_lowest at h
  refine pj_iload_n 1 0 rfl rfl rfl rfl ?_
  refine pj_iload_n 2 0 rfl rfl rfl rfl ?_
  refine pj_ineg 3 rfl rfl ?_
  refine pj_iand 4 rfl rfl ?_
  refine pj_iconst 5 rfl rfl ?_
  refine pj_isub 6 rfl rfl ?_
  refine pn_callSi 9 [.int (pj_I ((pj_and x0 (pj_neg x0)) - 1))] [] (s_Jbits hg  h) plX0_169 rfl rfl rfl rfl (Nat.le_of_ble_eq_true rfl) (by decide) (fun t2 M1 h => ?_)
  exact pn_iret h rfl rfl
def w_X0_leastEnd_37b (r0 : Nat) (x2 : Int) (x3 : Int)  (Q : Int → pj_M → Prop) (k37 : Int → Int → pj_M → Prop) (x4 : Int) (x5 : Int) (M : pj_M) : Prop :=
  (pj_in x5) ∧ ((18 ≤ x5 → Q x4 M) ∧ (¬ 18 ≤ x5 → (pj_in (pj_ushr x2 x5)) ∧ (((pj_ushr x2 x5) = 0 → Q x4 M) ∧ (¬ (pj_ushr x2 x5) = 0 → (pj_in (pj_and (pj_ushr x2 x5) 1)) ∧ (((pj_and (pj_ushr x2 x5) 1) = 0 → k37 x4 (x5 + 1) M) ∧ (¬ (pj_and (pj_ushr x2 x5) 1) = 0 → ((0 : Int) ≤ (x3 + x5) ∧ (x3 + x5) < 126) ∧ w_Jmin x4 (M (pj_rf r0 15) (x3 + x5)) M (fun (t7 : Int) (M6 : pj_M) => k37 t7 (x5 + 1) M6)))))))
def w_X0_leastEnd_37 (r0 : Nat) (x2 : Int) (x3 : Int)  (Q : Int → pj_M → Prop) (x4 : Int) (x5 : Int) (M : pj_M) : Prop := pj_lp (fun (k : Int × Int × pj_M → Prop) (s : Int × Int × pj_M) => w_X0_leastEnd_37b r0 x2 x3  Q (fun (x4 : Int) (x5 : Int) (M : pj_M) => k (x4, x5, M)) s.1 s.2.1 s.2.2) (x4, x5, M)
def w_X0_leastEnd (r0 : Nat) (x1 : Int) (x2 : Int) (M : pj_M) (Q : Int → pj_M → Prop) : Prop :=
  (pj_in x1) ∧ ((10 ≤ x1 → w_X0_leastEnd_37 r0 x2 ((x1 - 10) * 18)  Q 1048576 0 M) ∧ (¬ 10 ≤ x1 → ((0 : Int) ≤ x1 ∧ x1 < 10) ∧ w_X0_lowest (pj_or x2 (pj_and (pj_ushr x2 1) (M (pj_rf r0 10) x1))) M (fun (t10 : Int) (M9 : pj_M) => Q t10 M9)))
set_option maxRecDepth 20000 in
set_option maxHeartbeats 4000000 in
theorem s_X0_leastEnd_37b {l : Launch} {g : pj_G} (hg : pj_ph g = true) {r0 : Nat} {x2 : Int} {x3 : Int} {x4 : Int} {x5 : Int} {M : pj_M} {Q : Int → pj_M → Prop}  {k37 : Int → Int → pj_M → Prop} (o0 : pj_ob r0 0)  (hk37 : ∀ (x4 : Int) (x5 : Int) (M : pj_M), k37 x4 x5 M → pj_R l g mdX0_leastEnd pj_T (pj_Zm g mdX0_leastEnd (pj_qi Q)) pj_NK 0 0 37 [(0, .ref r0), (2, .int (pj_I x2)), (3, .int (pj_I x3)), (4, .int (pj_I x4)), (5, .int (pj_I x5))] [] M) (h : w_X0_leastEnd_37b r0 x2 x3  Q k37 x4 x5 M) : pj_R l g mdX0_leastEnd pj_T (pj_Zm g mdX0_leastEnd (pj_qi Q)) pj_NK 0 0 37 [(0, .ref r0), (2, .int (pj_I x2)), (3, .int (pj_I x3)), (4, .int (pj_I x4)), (5, .int (pj_I x5))] [] M := by
  unfold w_X0_leastEnd_37b at h
  refine pj_iload 39 4 rfl rfl rfl ?_
  refine pj_bipush 41 rfl (by decide) rfl ?_
  obtain ⟨q2, h⟩ := h
  refine pj_icmp_ge 82 44 rfl (by decide) rfl q2 (show pj_in 18 by decide) (fun hc => ?_) (fun hc => ?_)
  · replace h := h.1 hc
    refine pj_iload 84 3 rfl rfl rfl ?_
    exact pn_iret h rfl rfl
  · replace h := h.2 hc
    refine pj_iload_n 45 1 rfl rfl rfl rfl ?_
    refine pj_iload 47 4 rfl rfl rfl ?_
    refine pj_iushr 48 rfl rfl ?_
    obtain ⟨q3, h⟩ := h
    refine pj_if_eq 82 51 rfl (by decide) rfl q3  (fun hc => ?_) (fun hc => ?_)
    · replace h := h.1 hc
      refine pj_iload 84 3 rfl rfl rfl ?_
      exact pn_iret h rfl rfl
    · replace h := h.2 hc
      refine pj_iload_n 52 1 rfl rfl rfl rfl ?_
      refine pj_iload 54 4 rfl rfl rfl ?_
      refine pj_iushr 55 rfl rfl ?_
      refine pj_iconst 56 rfl rfl ?_
      refine pj_iand 57 rfl rfl ?_
      obtain ⟨q4, h⟩ := h
      refine pj_if_eq 76 60 rfl (by decide) rfl q4  (fun hc => ?_) (fun hc => ?_)
      · replace h := h.1 hc
        refine pj_iinc 79 4 (ls' := [(0, .ref r0), (2, .int (pj_I x2)), (3, .int (pj_I x3)), (4, .int (pj_I x4)), (5, .int (pj_I (x5 + 1)))]) rfl rfl (by decide) rfl rfl ?_
        refine pj_goto 37 rfl (by decide) ?_
        refine pn_sub [0, 1, 2, 3, 4] rfl ?_
        exact hk37 _ _ _ h
      · replace h := h.2 hc
        refine pj_iload 62 3 rfl rfl rfl ?_
        refine pj_aload_n 63 0 rfl rfl rfl rfl ?_
        refine pn_getr 66 0 15 hg o0 (pr_0_15 o0).2 rfl pfX0_50 rfl rfl ?_
        refine pj_iload_n 67 2 rfl rfl rfl rfl ?_
        refine pj_iload 69 4 rfl rfl rfl ?_
        refine pj_iadd 70 rfl rfl ?_
        obtain ⟨q5, h⟩ := h
        refine pn_iald 71 126 (pr_0_15 o0) q5 rfl rfl ?_
        refine pn_callSi 74 [.int (pj_I x4), .int (pj_I (M (pj_rf r0 15) (x3 + x5)))] [] (s_Jmin hg  h) plX0_142 rfl rfl rfl rfl (Nat.le_of_ble_eq_true rfl) (by decide) (fun t7 M6 h => ?_)
        refine pj_istore 76 (ls' := [(0, .ref r0), (2, .int (pj_I x2)), (3, .int (pj_I x3)), (4, .int (pj_I t7)), (5, .int (pj_I x5))]) rfl (by decide) rfl rfl ?_
        refine pj_iinc 79 4 (ls' := [(0, .ref r0), (2, .int (pj_I x2)), (3, .int (pj_I x3)), (4, .int (pj_I t7)), (5, .int (pj_I (x5 + 1)))]) rfl rfl (by decide) rfl rfl ?_
        refine pj_goto 37 rfl (by decide) ?_
        refine pn_sub [0, 1, 2, 3, 4] rfl ?_
        exact hk37 _ _ _ h
set_option maxRecDepth 20000 in
set_option maxHeartbeats 4000000 in
theorem s_X0_leastEnd_37 {l : Launch} {g : pj_G} (hg : pj_ph g = true) {r0 : Nat} {x2 : Int} {x3 : Int} {x4 : Int} {x5 : Int} {M : pj_M} {Q : Int → pj_M → Prop}  (o0 : pj_ob r0 0)  (h : w_X0_leastEnd_37 r0 x2 x3  Q x4 x5 M) : pj_R l g mdX0_leastEnd pj_T (pj_Zm g mdX0_leastEnd (pj_qi Q)) pj_NK 0 0 37 [(0, .ref r0), (2, .int (pj_I x2)), (3, .int (pj_I x3)), (4, .int (pj_I x4)), (5, .int (pj_I x5))] [] M :=
  h (fun s => pj_R l g mdX0_leastEnd pj_T (pj_Zm g mdX0_leastEnd (pj_qi Q)) pj_NK 0 0 37 [(0, .ref r0), (2, .int (pj_I x2)), (3, .int (pj_I x3)), (4, .int (pj_I (s.1))), (5, .int (pj_I (s.2.1)))] [] s.2.2) (fun s hs => s_X0_leastEnd_37b hg o0  (fun _ _ _ q => q) hs)
set_option maxRecDepth 20000 in
set_option maxHeartbeats 4000000 in
theorem s_X0_leastEnd {l : Launch} {g : pj_G} (hg : pj_ph g = true) {r0 : Nat} {x1 : Int} {x2 : Int} {M : pj_M} {Q : Int → pj_M → Prop} (o0 : pj_ob r0 0) (h : w_X0_leastEnd r0 x1 x2 M Q) : pj_S l g mdX0_leastEnd [.ref r0, .int (pj_I x1), .int (pj_I x2)] pj_NK M (pj_qi Q) := by
  refine pj_ofR (ls := [(0, .ref r0), (1, .int (pj_I x1)), (2, .int (pj_I x2))]) gcX0_leastEnd (by decide) rfl (Nat.le_of_ble_eq_true rfl) rfl ?_
  unfold w_X0_leastEnd at h
  refine pj_iload_n 1 1 rfl rfl rfl rfl ?_
  refine pj_bipush 3 rfl (by decide) rfl ?_
  obtain ⟨q1, h⟩ := h
  refine pj_icmp_ge 22 6 rfl (by decide) rfl q1 (show pj_in 10 by decide) (fun hc => ?_) (fun hc => ?_)
  · replace h := h.1 hc
    refine pj_iload_n 23 1 rfl rfl rfl rfl ?_
    refine pj_bipush 25 rfl (by decide) rfl ?_
    refine pj_isub 26 rfl rfl ?_
    refine pj_bipush 28 rfl (by decide) rfl ?_
    refine pj_imul 29 rfl rfl ?_
    refine pj_istore_n 30 (ls' := [(0, .ref r0), (1, .int (pj_I x1)), (2, .int (pj_I x2)), (3, .int (pj_I ((x1 - 10) * 18)))]) rfl rfl (by decide) rfl rfl ?_
    refine pj_ldc 32 1048576 rfl pkX0_85 rfl ?_
    refine pj_istore 34 (ls' := [(0, .ref r0), (1, .int (pj_I x1)), (2, .int (pj_I x2)), (3, .int (pj_I ((x1 - 10) * 18))), (4, .int (pj_I 1048576))]) rfl (by decide) rfl rfl ?_
    refine pj_iconst 35 rfl rfl ?_
    refine pj_istore 37 (ls' := [(0, .ref r0), (1, .int (pj_I x1)), (2, .int (pj_I x2)), (3, .int (pj_I ((x1 - 10) * 18))), (4, .int (pj_I 1048576)), (5, .int (pj_I 0))]) rfl (by decide) rfl rfl ?_
    refine pn_sub [0, 2, 3, 4, 5] rfl ?_
    exact s_X0_leastEnd_37 hg o0   h
  · replace h := h.2 hc
    refine pj_iload_n 7 2 rfl rfl rfl rfl ?_
    refine pj_iload_n 8 2 rfl rfl rfl rfl ?_
    refine pj_iconst 9 rfl rfl ?_
    refine pj_iushr 10 rfl rfl ?_
    refine pj_aload_n 11 0 rfl rfl rfl rfl ?_
    refine pn_getr 14 0 10 hg o0 (pr_0_10 o0).2 rfl pfX0_41 rfl rfl ?_
    refine pj_iload_n 15 1 rfl rfl rfl rfl ?_
    obtain ⟨q8, h⟩ := h
    refine pn_iald 16 10 (pr_0_10 o0) q8 rfl rfl ?_
    refine pj_iand 17 rfl rfl ?_
    refine pj_ior 18 rfl rfl ?_
    refine pn_callSi 21 [.int (pj_I (pj_or x2 (pj_and (pj_ushr x2 1) (M (pj_rf r0 10) x1))))] [] (s_X0_lowest hg  h) plX0_165 rfl rfl rfl rfl (Nat.le_of_ble_eq_true rfl) (by decide) (fun t10 M9 h => ?_)
    exact pn_iret h rfl rfl
def w_X0_addParts_208 (r0 : Nat) (x5 : Int) (x6 : Int) (x7 : Int) (x8 : Int) (y0 : Int)  (Q : Int → pj_M → Prop) (M : pj_M) : Prop :=
  ((0 : Int) ≤ x8 ∧ x8 < 126) ∧ ((0 : Int) ≤ x8 ∧ x8 < 126) ∧ ∀ M11 : pj_M, M11 = pj_up M (pj_rf r0 14) x8 (pj_or (M (pj_rf r0 14) x8) x5) → ((0 : Int) ≤ x8 ∧ x8 < 126) ∧ w_Jmin (M11 (pj_rf r0 15) x8) x6 M11 (fun (t14 : Int) (M13 : pj_M) => ((0 : Int) ≤ x8 ∧ x8 < 126) ∧ ∀ M16 : pj_M, M16 = pj_up M13 (pj_rf r0 15) x8 t14 → ((0 : Int) ≤ x8 ∧ x8 < 126) ∧ w_Jmin (M16 (pj_rf r0 16) x8) x7 M16 (fun (t19 : Int) (M18 : pj_M) => ((0 : Int) ≤ x8 ∧ x8 < 126) ∧ ∀ M21 : pj_M, M21 = pj_up M18 (pj_rf r0 16) x8 t19 → (y0 = 0 ∨ y0 = 1) ∧ Q y0 M21))
def w_X0_addParts_203 (r0 : Nat) (x5 : Int) (x6 : Int) (x7 : Int) (x8 : Int)  (Q : Int → pj_M → Prop) (M : pj_M) : Prop :=
  w_X0_addParts_208 r0 x5 x6 x7 x8 1  Q M
def w_X0_addParts_26b (r0 : Nat) (x1 : Int) (x2 : Int) (x3 : Int)  (Q : Int → pj_M → Prop) (k26 : Int → Int → Int → Int → Int → pj_M → Prop) (x4 : Int) (x5 : Int) (x6 : Int) (x7 : Int) (x8 : Int) (M : pj_M) : Prop :=
  (pj_in x8) ∧ ((x8 < 0 → ((0 : Int) ≤ x1 ∧ x1 < 13) ∧ ∀ z6 : Int, z6 = (((M (pj_rf r0 2) x1) * 18) + x2) → ((0 : Int) ≤ z6 ∧ z6 < 126) ∧ (pj_in (pj_and x5 (pj_xor (M (pj_rf r0 14) z6) (-1)))) ∧ ((¬ (pj_and x5 (pj_xor (M (pj_rf r0 14) z6) (-1))) = 0 → w_X0_addParts_203 r0 x5 x6 x7 z6  Q M) ∧ ((pj_and x5 (pj_xor (M (pj_rf r0 14) z6) (-1))) = 0 → ((0 : Int) ≤ z6 ∧ z6 < 126) ∧ (pj_in x6) ∧ (pj_in (M (pj_rf r0 15) z6)) ∧ ((x6 < (M (pj_rf r0 15) z6) → w_X0_addParts_203 r0 x5 x6 x7 z6  Q M) ∧ (¬ x6 < (M (pj_rf r0 15) z6) → ((0 : Int) ≤ z6 ∧ z6 < 126) ∧ (pj_in x7) ∧ (pj_in (M (pj_rf r0 16) z6)) ∧ (((M (pj_rf r0 16) z6) ≤ x7 → w_X0_addParts_208 r0 x5 x6 x7 z6 0  Q M) ∧ (¬ (M (pj_rf r0 16) z6) ≤ x7 → w_X0_addParts_203 r0 x5 x6 x7 z6  Q M))))))) ∧ (¬ x8 < 0 → ((0 : Int) ≤ ((x1 * 4) + x8) ∧ ((x1 * 4) + x8) < 52) ∧ ∀ z30 : Int, z30 = (M (pj_rf r0 4) ((x1 * 4) + x8)) → w_X0_leastEnd r0 z30 x4 M (fun (t32 : Int) (M31 : pj_M) => w_Jmin x6 t32 M31 (fun (t34 : Int) (M33 : pj_M) => w_X0_leastEnd r0 z30 x5 M33 (fun (t36 : Int) (M35 : pj_M) => w_Jmin x7 t36 M35 (fun (t38 : Int) (M37 : pj_M) => w_X0_stepBack r0 z30 x4 M37 (fun (t40 : Int) (M39 : pj_M) => w_X0_stepBack r0 z30 x5 M39 (fun (t42 : Int) (M41 : pj_M) => ∀ z43 : Int, z43 = (pj_or t42 x3) → (pj_in z30) ∧ ((z30 < 10 → k26 t40 z43 t34 t38 (x8 + (-1)) M41) ∧ (¬ z30 < 10 → ((0 : Int) ≤ (((z30 - 10) * 18) + x2) ∧ (((z30 - 10) * 18) + x2) < 126) ∧ w_Jmin t38 (M41 (pj_rf r0 16) (((z30 - 10) * 18) + x2)) M41 (fun (t47 : Int) (M46 : pj_M) => ((0 : Int) ≤ (((z30 - 10) * 18) + x2) ∧ (((z30 - 10) * 18) + x2) < 126) ∧ ∀ z49 : Int, z49 = (pj_or z43 (M46 (pj_rf r0 14) (((z30 - 10) * 18) + x2))) → k26 t40 z49 t34 t47 (x8 + (-1)) M46)))))))))))
def w_X0_addParts_26 (r0 : Nat) (x1 : Int) (x2 : Int) (x3 : Int)  (Q : Int → pj_M → Prop) (x4 : Int) (x5 : Int) (x6 : Int) (x7 : Int) (x8 : Int) (M : pj_M) : Prop := pj_lp (fun (k : Int × Int × Int × Int × Int × pj_M → Prop) (s : Int × Int × Int × Int × Int × pj_M) => w_X0_addParts_26b r0 x1 x2 x3  Q (fun (x4 : Int) (x5 : Int) (x6 : Int) (x7 : Int) (x8 : Int) (M : pj_M) => k (x4, x5, x6, x7, x8, M)) s.1 s.2.1 s.2.2.1 s.2.2.2.1 s.2.2.2.2.1 s.2.2.2.2.2) (x4, x5, x6, x7, x8, M)
def w_X0_addParts (r0 : Nat) (x1 : Int) (x2 : Int) (M : pj_M) (Q : Int → pj_M → Prop) : Prop :=
  ∀ z1 : Int, z1 = (pj_shl 1 x2) → ((0 : Int) ≤ x1 ∧ x1 < 13) ∧ ∀ z3 : Int, z3 = ((M (pj_rf r0 3) x1) - 1) → w_X0_addParts_26 r0 x1 x2 z1  Q z1 z1 x2 x2 z3 M
set_option maxRecDepth 20000 in
set_option maxHeartbeats 4000000 in
theorem s_X0_addParts_208 {l : Launch} {g : pj_G} (hg : pj_ph g = true) {r0 : Nat} {x5 : Int} {x6 : Int} {x7 : Int} {x8 : Int} {y0 : Int} {M : pj_M} {Q : Int → pj_M → Prop}  (o0 : pj_ob r0 0)  (h : w_X0_addParts_208 r0 x5 x6 x7 x8 y0  Q M) : pj_R l g mdX0_addParts pj_T (pj_Zm g mdX0_addParts (pj_qi Q)) pj_NK 0 0 208 [(0, .ref r0), (5, .int (pj_I x5)), (6, .int (pj_I x6)), (7, .int (pj_I x7)), (8, .int (pj_I x8))] [.int (pj_I y0)] M := by
  unfold w_X0_addParts_208 at h
  refine pj_istore 210 (ls' := [(0, .ref r0), (5, .int (pj_I x5)), (6, .int (pj_I x6)), (7, .int (pj_I x7)), (8, .int (pj_I x8)), (9, .int (pj_I y0))]) rfl (by decide) rfl rfl ?_
  refine pj_aload_n 211 0 rfl rfl rfl rfl ?_
  refine pn_getr 214 0 14 hg o0 (pr_0_14 o0).2 rfl pfX0_47 rfl rfl ?_
  refine pj_iload 216 4 rfl rfl rfl ?_
  refine pj_dup2 217 rfl rfl rfl rfl ?_
  obtain ⟨q9, h⟩ := h
  refine pn_iald 218 126 (pr_0_14 o0) q9 rfl rfl ?_
  refine pj_iload 220 1 rfl rfl rfl ?_
  refine pj_ior 221 rfl rfl ?_
  obtain ⟨q10, h⟩ := h
  refine pn_iast 222 126 (pr_0_14 o0)  q10 rfl rfl (fun M11 hM11 => ?_)
  replace h := h M11 hM11
  refine pj_aload_n 223 0 rfl rfl rfl rfl ?_
  refine pn_getr 226 0 15 hg o0 (pr_0_15 o0).2 rfl pfX0_50 rfl rfl ?_
  refine pj_iload 228 4 rfl rfl rfl ?_
  refine pj_aload_n 229 0 rfl rfl rfl rfl ?_
  refine pn_getr 232 0 15 hg o0 (pr_0_15 o0).2 rfl pfX0_50 rfl rfl ?_
  refine pj_iload 234 4 rfl rfl rfl ?_
  obtain ⟨q12, h⟩ := h
  refine pn_iald 235 126 (pr_0_15 o0) q12 rfl rfl ?_
  refine pj_iload 237 2 rfl rfl rfl ?_
  refine pn_callSi 240 [.int (pj_I (M11 (pj_rf r0 15) x8)), .int (pj_I x6)] [.int (pj_I x8), .ref (pj_rf r0 15)] (s_Jmin hg  h) plX0_142 rfl rfl rfl rfl (Nat.le_of_ble_eq_true rfl) (by decide) (fun t14 M13 h => ?_)
  obtain ⟨q15, h⟩ := h
  refine pn_iast 241 126 (pr_0_15 o0)  q15 rfl rfl (fun M16 hM16 => ?_)
  replace h := h M16 hM16
  refine pj_aload_n 242 0 rfl rfl rfl rfl ?_
  refine pn_getr 245 0 16 hg o0 (pr_0_16 o0).2 rfl pfX0_53 rfl rfl ?_
  refine pj_iload 247 4 rfl rfl rfl ?_
  refine pj_aload_n 248 0 rfl rfl rfl rfl ?_
  refine pn_getr 251 0 16 hg o0 (pr_0_16 o0).2 rfl pfX0_53 rfl rfl ?_
  refine pj_iload 253 4 rfl rfl rfl ?_
  obtain ⟨q17, h⟩ := h
  refine pn_iald 254 126 (pr_0_16 o0) q17 rfl rfl ?_
  refine pj_iload 256 3 rfl rfl rfl ?_
  refine pn_callSi 259 [.int (pj_I (M16 (pj_rf r0 16) x8)), .int (pj_I x7)] [.int (pj_I x8), .ref (pj_rf r0 16)] (s_Jmin hg  h) plX0_142 rfl rfl rfl rfl (Nat.le_of_ble_eq_true rfl) (by decide) (fun t19 M18 h => ?_)
  obtain ⟨q20, h⟩ := h
  refine pn_iast 260 126 (pr_0_16 o0)  q20 rfl rfl (fun M21 hM21 => ?_)
  replace h := h M21 hM21
  refine pj_iload 262 5 rfl rfl rfl ?_
  obtain ⟨q22, h⟩ := h
  exact pn_zret q22 h rfl rfl
set_option maxRecDepth 20000 in
set_option maxHeartbeats 4000000 in
theorem s_X0_addParts_203 {l : Launch} {g : pj_G} (hg : pj_ph g = true) {r0 : Nat} {x5 : Int} {x6 : Int} {x7 : Int} {x8 : Int} {M : pj_M} {Q : Int → pj_M → Prop}  (o0 : pj_ob r0 0)  (h : w_X0_addParts_203 r0 x5 x6 x7 x8  Q M) : pj_R l g mdX0_addParts pj_T (pj_Zm g mdX0_addParts (pj_qi Q)) pj_NK 0 0 203 [(0, .ref r0), (5, .int (pj_I x5)), (6, .int (pj_I x6)), (7, .int (pj_I x7)), (8, .int (pj_I x8))] [] M := by
  unfold w_X0_addParts_203 at h
  refine pj_iconst 204 rfl rfl ?_
  refine pj_goto 208 rfl (by decide) ?_
  refine pn_sub [0, 1, 2, 3, 4] rfl ?_
  exact s_X0_addParts_208 hg o0   h
set_option maxRecDepth 20000 in
set_option maxHeartbeats 4000000 in
theorem s_X0_addParts_26b {l : Launch} {g : pj_G} (hg : pj_ph g = true) {r0 : Nat} {x1 : Int} {x2 : Int} {x3 : Int} {x4 : Int} {x5 : Int} {x6 : Int} {x7 : Int} {x8 : Int} {M : pj_M} {Q : Int → pj_M → Prop}  {k26 : Int → Int → Int → Int → Int → pj_M → Prop} (o0 : pj_ob r0 0)  (hk26 : ∀ (x4 : Int) (x5 : Int) (x6 : Int) (x7 : Int) (x8 : Int) (M : pj_M), k26 x4 x5 x6 x7 x8 M → pj_R l g mdX0_addParts pj_T (pj_Zm g mdX0_addParts (pj_qi Q)) pj_NK 0 0 26 [(0, .ref r0), (1, .int (pj_I x1)), (2, .int (pj_I x2)), (3, .int (pj_I x3)), (4, .int (pj_I x4)), (5, .int (pj_I x5)), (6, .int (pj_I x6)), (7, .int (pj_I x7)), (8, .int (pj_I x8))] [] M) (h : w_X0_addParts_26b r0 x1 x2 x3  Q k26 x4 x5 x6 x7 x8 M) : pj_R l g mdX0_addParts pj_T (pj_Zm g mdX0_addParts (pj_qi Q)) pj_NK 0 0 26 [(0, .ref r0), (1, .int (pj_I x1)), (2, .int (pj_I x2)), (3, .int (pj_I x3)), (4, .int (pj_I x4)), (5, .int (pj_I x5)), (6, .int (pj_I x6)), (7, .int (pj_I x7)), (8, .int (pj_I x8))] [] M := by
  unfold w_X0_addParts_26b at h
  refine pj_iload 28 8 rfl rfl rfl ?_
  obtain ⟨q4, h⟩ := h
  refine pj_if_lt 151 31 rfl (by decide) rfl q4  (fun hc => ?_) (fun hc => ?_)
  · replace h := h.1 hc
    refine pj_aload_n 152 0 rfl rfl rfl rfl ?_
    refine pn_getr 155 0 2 hg o0 (pr_0_2 o0).2 rfl pfX0_25 rfl rfl ?_
    refine pj_iload_n 156 1 rfl rfl rfl rfl ?_
    obtain ⟨q5, h⟩ := h
    refine pn_iald 157 13 (pr_0_2 o0) q5 rfl rfl ?_
    refine pj_bipush 159 rfl (by decide) rfl ?_
    refine pj_imul 160 rfl rfl ?_
    refine pj_iload_n 161 2 rfl rfl rfl rfl ?_
    refine pj_iadd 162 rfl rfl ?_
    refine pn_nm (fun z6 hz6 => ?_)
    replace h := h z6 hz6
    refine pj_istore 164 (ls' := [(0, .ref r0), (1, .int (pj_I x1)), (2, .int (pj_I x2)), (3, .int (pj_I x3)), (4, .int (pj_I x4)), (5, .int (pj_I x5)), (6, .int (pj_I x6)), (7, .int (pj_I x7)), (8, .int (pj_I z6))]) rfl (by decide) rfl rfl ?_
    refine pj_iload 166 5 rfl rfl rfl ?_
    refine pj_aload_n 167 0 rfl rfl rfl rfl ?_
    refine pn_getr 170 0 14 hg o0 (pr_0_14 o0).2 rfl pfX0_47 rfl rfl ?_
    refine pj_iload 172 8 rfl rfl rfl ?_
    obtain ⟨q7, h⟩ := h
    refine pn_iald 173 126 (pr_0_14 o0) q7 rfl rfl ?_
    refine pj_iconst 174 rfl rfl ?_
    refine pj_ixor 175 rfl rfl ?_
    refine pj_iand 176 rfl rfl ?_
    obtain ⟨q8, h⟩ := h
    refine pj_if_ne 203 179 rfl (by decide) rfl q8  (fun hc => ?_) (fun hc => ?_)
    · replace h := h.1 hc
      refine pn_sub [0, 5, 6, 7, 8] rfl ?_
      exact s_X0_addParts_203 hg o0   h
    · replace h := h.2 (Classical.not_not.mp hc)
      refine pj_iload 181 6 rfl rfl rfl ?_
      refine pj_aload_n 182 0 rfl rfl rfl rfl ?_
      refine pn_getr 185 0 15 hg o0 (pr_0_15 o0).2 rfl pfX0_50 rfl rfl ?_
      refine pj_iload 187 8 rfl rfl rfl ?_
      obtain ⟨q23, h⟩ := h
      refine pn_iald 188 126 (pr_0_15 o0) q23 rfl rfl ?_
      obtain ⟨q24, h⟩ := h
      obtain ⟨q25, h⟩ := h
      refine pj_icmp_lt 203 191 rfl (by decide) rfl q24 q25 (fun hc => ?_) (fun hc => ?_)
      · replace h := h.1 hc
        refine pn_sub [0, 5, 6, 7, 8] rfl ?_
        exact s_X0_addParts_203 hg o0   h
      · replace h := h.2 hc
        refine pj_iload 193 7 rfl rfl rfl ?_
        refine pj_aload_n 194 0 rfl rfl rfl rfl ?_
        refine pn_getr 197 0 16 hg o0 (pr_0_16 o0).2 rfl pfX0_53 rfl rfl ?_
        refine pj_iload 199 8 rfl rfl rfl ?_
        obtain ⟨q26, h⟩ := h
        refine pn_iald 200 126 (pr_0_16 o0) q26 rfl rfl ?_
        obtain ⟨q27, h⟩ := h
        obtain ⟨q28, h⟩ := h
        refine pj_icmp_ge 207 203 rfl (by decide) rfl q27 q28 (fun hc => ?_) (fun hc => ?_)
        · replace h := h.1 hc
          refine pj_iconst 208 rfl rfl ?_
          refine pn_sub [0, 5, 6, 7, 8] rfl ?_
          exact s_X0_addParts_208 hg o0   h
        · replace h := h.2 hc
          refine pn_sub [0, 5, 6, 7, 8] rfl ?_
          exact s_X0_addParts_203 hg o0   h
  · replace h := h.2 hc
    refine pj_aload_n 32 0 rfl rfl rfl rfl ?_
    refine pn_getr 35 0 4 hg o0 (pr_0_4 o0).2 rfl pfX0_32 rfl rfl ?_
    refine pj_iload_n 36 1 rfl rfl rfl rfl ?_
    refine pj_iconst 37 rfl rfl ?_
    refine pj_imul 38 rfl rfl ?_
    refine pj_iload 40 8 rfl rfl rfl ?_
    refine pj_iadd 41 rfl rfl ?_
    obtain ⟨q29, h⟩ := h
    refine pn_iald 42 52 (pr_0_4 o0) q29 rfl rfl ?_
    refine pn_nm (fun z30 hz30 => ?_)
    replace h := h z30 hz30
    refine pj_istore 44 (ls' := [(0, .ref r0), (1, .int (pj_I x1)), (2, .int (pj_I x2)), (3, .int (pj_I x3)), (4, .int (pj_I x4)), (5, .int (pj_I x5)), (6, .int (pj_I x6)), (7, .int (pj_I x7)), (8, .int (pj_I x8)), (9, .int (pj_I z30))]) rfl (by decide) rfl rfl ?_
    refine pj_iload 46 6 rfl rfl rfl ?_
    refine pj_aload_n 47 0 rfl rfl rfl rfl ?_
    refine pj_iload 49 9 rfl rfl rfl ?_
    refine pj_iload 51 4 rfl rfl rfl ?_
    refine pn_callVi 54 0 [.int (pj_I z30), .int (pj_I x4)] [.int (pj_I x6)] o0 (s_X0_leastEnd hg o0 h) plX0_162 rfl rfl rfl rfl (Nat.le_of_ble_eq_true rfl) (by decide) (fun t32 M31 h => ?_)
    refine pn_callSi 57 [.int (pj_I x6), .int (pj_I t32)] [] (s_Jmin hg  h) plX0_142 rfl rfl rfl rfl (Nat.le_of_ble_eq_true rfl) (by decide) (fun t34 M33 h => ?_)
    refine pj_istore 59 (ls' := [(0, .ref r0), (1, .int (pj_I x1)), (2, .int (pj_I x2)), (3, .int (pj_I x3)), (4, .int (pj_I x4)), (5, .int (pj_I x5)), (6, .int (pj_I t34)), (7, .int (pj_I x7)), (8, .int (pj_I x8)), (9, .int (pj_I z30))]) rfl (by decide) rfl rfl ?_
    refine pj_iload 61 7 rfl rfl rfl ?_
    refine pj_aload_n 62 0 rfl rfl rfl rfl ?_
    refine pj_iload 64 9 rfl rfl rfl ?_
    refine pj_iload 66 5 rfl rfl rfl ?_
    refine pn_callVi 69 0 [.int (pj_I z30), .int (pj_I x5)] [.int (pj_I x7)] o0 (s_X0_leastEnd hg o0 h) plX0_162 rfl rfl rfl rfl (Nat.le_of_ble_eq_true rfl) (by decide) (fun t36 M35 h => ?_)
    refine pn_callSi 72 [.int (pj_I x7), .int (pj_I t36)] [] (s_Jmin hg  h) plX0_142 rfl rfl rfl rfl (Nat.le_of_ble_eq_true rfl) (by decide) (fun t38 M37 h => ?_)
    refine pj_istore 74 (ls' := [(0, .ref r0), (1, .int (pj_I x1)), (2, .int (pj_I x2)), (3, .int (pj_I x3)), (4, .int (pj_I x4)), (5, .int (pj_I x5)), (6, .int (pj_I t34)), (7, .int (pj_I t38)), (8, .int (pj_I x8)), (9, .int (pj_I z30))]) rfl (by decide) rfl rfl ?_
    refine pj_aload_n 75 0 rfl rfl rfl rfl ?_
    refine pj_iload 77 9 rfl rfl rfl ?_
    refine pj_iload 79 4 rfl rfl rfl ?_
    refine pn_callVi 82 0 [.int (pj_I z30), .int (pj_I x4)] [] o0 (s_X0_stepBack hg o0 h) plX0_152 rfl rfl rfl rfl (Nat.le_of_ble_eq_true rfl) (by decide) (fun t40 M39 h => ?_)
    refine pj_istore 84 (ls' := [(0, .ref r0), (1, .int (pj_I x1)), (2, .int (pj_I x2)), (3, .int (pj_I x3)), (4, .int (pj_I t40)), (5, .int (pj_I x5)), (6, .int (pj_I t34)), (7, .int (pj_I t38)), (8, .int (pj_I x8)), (9, .int (pj_I z30))]) rfl (by decide) rfl rfl ?_
    refine pj_aload_n 85 0 rfl rfl rfl rfl ?_
    refine pj_iload 87 9 rfl rfl rfl ?_
    refine pj_iload 89 5 rfl rfl rfl ?_
    refine pn_callVi 92 0 [.int (pj_I z30), .int (pj_I x5)] [] o0 (s_X0_stepBack hg o0 h) plX0_152 rfl rfl rfl rfl (Nat.le_of_ble_eq_true rfl) (by decide) (fun t42 M41 h => ?_)
    refine pj_iload_n 93 3 rfl rfl rfl rfl ?_
    refine pj_ior 94 rfl rfl ?_
    refine pn_nm (fun z43 hz43 => ?_)
    replace h := h z43 hz43
    refine pj_istore 96 (ls' := [(0, .ref r0), (1, .int (pj_I x1)), (2, .int (pj_I x2)), (3, .int (pj_I x3)), (4, .int (pj_I t40)), (5, .int (pj_I z43)), (6, .int (pj_I t34)), (7, .int (pj_I t38)), (8, .int (pj_I x8)), (9, .int (pj_I z30))]) rfl (by decide) rfl rfl ?_
    refine pj_iload 98 9 rfl rfl rfl ?_
    refine pj_bipush 100 rfl (by decide) rfl ?_
    obtain ⟨q44, h⟩ := h
    refine pj_icmp_lt 145 103 rfl (by decide) rfl q44 (show pj_in 10 by decide) (fun hc => ?_) (fun hc => ?_)
    · replace h := h.1 hc
      refine pj_iinc 148 8 (ls' := [(0, .ref r0), (1, .int (pj_I x1)), (2, .int (pj_I x2)), (3, .int (pj_I x3)), (4, .int (pj_I t40)), (5, .int (pj_I z43)), (6, .int (pj_I t34)), (7, .int (pj_I t38)), (8, .int (pj_I (x8 + (-1)))), (9, .int (pj_I z30))]) rfl rfl (by decide) rfl rfl ?_
      refine pj_goto 26 rfl (by decide) ?_
      refine pn_sub [0, 1, 2, 3, 4, 5, 6, 7, 8] rfl ?_
      exact hk26 _ _ _ _ _ _ h
    · replace h := h.2 hc
      refine pj_iload 105 7 rfl rfl rfl ?_
      refine pj_aload_n 106 0 rfl rfl rfl rfl ?_
      refine pn_getr 109 0 16 hg o0 (pr_0_16 o0).2 rfl pfX0_53 rfl rfl ?_
      refine pj_iload 111 9 rfl rfl rfl ?_
      refine pj_bipush 113 rfl (by decide) rfl ?_
      refine pj_isub 114 rfl rfl ?_
      refine pj_bipush 116 rfl (by decide) rfl ?_
      refine pj_imul 117 rfl rfl ?_
      refine pj_iload_n 118 2 rfl rfl rfl rfl ?_
      refine pj_iadd 119 rfl rfl ?_
      obtain ⟨q45, h⟩ := h
      refine pn_iald 120 126 (pr_0_16 o0) q45 rfl rfl ?_
      refine pn_callSi 123 [.int (pj_I t38), .int (pj_I (M41 (pj_rf r0 16) (((z30 - 10) * 18) + x2)))] [] (s_Jmin hg  h) plX0_142 rfl rfl rfl rfl (Nat.le_of_ble_eq_true rfl) (by decide) (fun t47 M46 h => ?_)
      refine pj_istore 125 (ls' := [(0, .ref r0), (1, .int (pj_I x1)), (2, .int (pj_I x2)), (3, .int (pj_I x3)), (4, .int (pj_I t40)), (5, .int (pj_I z43)), (6, .int (pj_I t34)), (7, .int (pj_I t47)), (8, .int (pj_I x8)), (9, .int (pj_I z30))]) rfl (by decide) rfl rfl ?_
      refine pj_iload 127 5 rfl rfl rfl ?_
      refine pj_aload_n 128 0 rfl rfl rfl rfl ?_
      refine pn_getr 131 0 14 hg o0 (pr_0_14 o0).2 rfl pfX0_47 rfl rfl ?_
      refine pj_iload 133 9 rfl rfl rfl ?_
      refine pj_bipush 135 rfl (by decide) rfl ?_
      refine pj_isub 136 rfl rfl ?_
      refine pj_bipush 138 rfl (by decide) rfl ?_
      refine pj_imul 139 rfl rfl ?_
      refine pj_iload_n 140 2 rfl rfl rfl rfl ?_
      refine pj_iadd 141 rfl rfl ?_
      obtain ⟨q48, h⟩ := h
      refine pn_iald 142 126 (pr_0_14 o0) q48 rfl rfl ?_
      refine pj_ior 143 rfl rfl ?_
      refine pn_nm (fun z49 hz49 => ?_)
      replace h := h z49 hz49
      refine pj_istore 145 (ls' := [(0, .ref r0), (1, .int (pj_I x1)), (2, .int (pj_I x2)), (3, .int (pj_I x3)), (4, .int (pj_I t40)), (5, .int (pj_I z49)), (6, .int (pj_I t34)), (7, .int (pj_I t47)), (8, .int (pj_I x8)), (9, .int (pj_I z30))]) rfl (by decide) rfl rfl ?_
      refine pj_iinc 148 8 (ls' := [(0, .ref r0), (1, .int (pj_I x1)), (2, .int (pj_I x2)), (3, .int (pj_I x3)), (4, .int (pj_I t40)), (5, .int (pj_I z49)), (6, .int (pj_I t34)), (7, .int (pj_I t47)), (8, .int (pj_I (x8 + (-1)))), (9, .int (pj_I z30))]) rfl rfl (by decide) rfl rfl ?_
      refine pj_goto 26 rfl (by decide) ?_
      refine pn_sub [0, 1, 2, 3, 4, 5, 6, 7, 8] rfl ?_
      exact hk26 _ _ _ _ _ _ h
set_option maxRecDepth 20000 in
set_option maxHeartbeats 4000000 in
theorem s_X0_addParts_26 {l : Launch} {g : pj_G} (hg : pj_ph g = true) {r0 : Nat} {x1 : Int} {x2 : Int} {x3 : Int} {x4 : Int} {x5 : Int} {x6 : Int} {x7 : Int} {x8 : Int} {M : pj_M} {Q : Int → pj_M → Prop}  (o0 : pj_ob r0 0)  (h : w_X0_addParts_26 r0 x1 x2 x3  Q x4 x5 x6 x7 x8 M) : pj_R l g mdX0_addParts pj_T (pj_Zm g mdX0_addParts (pj_qi Q)) pj_NK 0 0 26 [(0, .ref r0), (1, .int (pj_I x1)), (2, .int (pj_I x2)), (3, .int (pj_I x3)), (4, .int (pj_I x4)), (5, .int (pj_I x5)), (6, .int (pj_I x6)), (7, .int (pj_I x7)), (8, .int (pj_I x8))] [] M :=
  h (fun s => pj_R l g mdX0_addParts pj_T (pj_Zm g mdX0_addParts (pj_qi Q)) pj_NK 0 0 26 [(0, .ref r0), (1, .int (pj_I x1)), (2, .int (pj_I x2)), (3, .int (pj_I x3)), (4, .int (pj_I (s.1))), (5, .int (pj_I (s.2.1))), (6, .int (pj_I (s.2.2.1))), (7, .int (pj_I (s.2.2.2.1))), (8, .int (pj_I (s.2.2.2.2.1)))] [] s.2.2.2.2.2) (fun s hs => s_X0_addParts_26b hg o0  (fun _ _ _ _ _ _ q => q) hs)
set_option maxRecDepth 20000 in
set_option maxHeartbeats 4000000 in
theorem s_X0_addParts {l : Launch} {g : pj_G} (hg : pj_ph g = true) {r0 : Nat} {x1 : Int} {x2 : Int} {M : pj_M} {Q : Int → pj_M → Prop} (o0 : pj_ob r0 0) (h : w_X0_addParts r0 x1 x2 M Q) : pj_S l g mdX0_addParts [.ref r0, .int (pj_I x1), .int (pj_I x2)] pj_NK M (pj_qi Q) := by
  refine pj_ofR (ls := [(0, .ref r0), (1, .int (pj_I x1)), (2, .int (pj_I x2))]) gcX0_addParts (by decide) rfl (Nat.le_of_ble_eq_true rfl) rfl ?_
  unfold w_X0_addParts at h
  refine pj_iconst 1 rfl rfl ?_
  refine pj_iload_n 2 2 rfl rfl rfl rfl ?_
  refine pj_ishl 3 rfl rfl ?_
  refine pn_nm (fun z1 hz1 => ?_)
  replace h := h z1 hz1
  refine pj_istore_n 4 (ls' := [(0, .ref r0), (1, .int (pj_I x1)), (2, .int (pj_I x2)), (3, .int (pj_I z1))]) rfl rfl (by decide) rfl rfl ?_
  refine pj_iload_n 5 3 rfl rfl rfl rfl ?_
  refine pj_istore 7 (ls' := [(0, .ref r0), (1, .int (pj_I x1)), (2, .int (pj_I x2)), (3, .int (pj_I z1)), (4, .int (pj_I z1))]) rfl (by decide) rfl rfl ?_
  refine pj_iload_n 8 3 rfl rfl rfl rfl ?_
  refine pj_istore 10 (ls' := [(0, .ref r0), (1, .int (pj_I x1)), (2, .int (pj_I x2)), (3, .int (pj_I z1)), (4, .int (pj_I z1)), (5, .int (pj_I z1))]) rfl (by decide) rfl rfl ?_
  refine pj_iload_n 11 2 rfl rfl rfl rfl ?_
  refine pj_istore 13 (ls' := [(0, .ref r0), (1, .int (pj_I x1)), (2, .int (pj_I x2)), (3, .int (pj_I z1)), (4, .int (pj_I z1)), (5, .int (pj_I z1)), (6, .int (pj_I x2))]) rfl (by decide) rfl rfl ?_
  refine pj_iload_n 14 2 rfl rfl rfl rfl ?_
  refine pj_istore 16 (ls' := [(0, .ref r0), (1, .int (pj_I x1)), (2, .int (pj_I x2)), (3, .int (pj_I z1)), (4, .int (pj_I z1)), (5, .int (pj_I z1)), (6, .int (pj_I x2)), (7, .int (pj_I x2))]) rfl (by decide) rfl rfl ?_
  refine pj_aload_n 17 0 rfl rfl rfl rfl ?_
  refine pn_getr 20 0 3 hg o0 (pr_0_3 o0).2 rfl pfX0_29 rfl rfl ?_
  refine pj_iload_n 21 1 rfl rfl rfl rfl ?_
  obtain ⟨q2, h⟩ := h
  refine pn_iald 22 13 (pr_0_3 o0) q2 rfl rfl ?_
  refine pj_iconst 23 rfl rfl ?_
  refine pj_isub 24 rfl rfl ?_
  refine pn_nm (fun z3 hz3 => ?_)
  replace h := h z3 hz3
  refine pj_istore 26 (ls' := [(0, .ref r0), (1, .int (pj_I x1)), (2, .int (pj_I x2)), (3, .int (pj_I z1)), (4, .int (pj_I z1)), (5, .int (pj_I z1)), (6, .int (pj_I x2)), (7, .int (pj_I x2)), (8, .int (pj_I z3))]) rfl (by decide) rfl rfl ?_
  refine pn_sub [0, 1, 2, 3, 4, 5, 6, 7, 8] rfl ?_
  exact s_X0_addParts_26 hg o0   h
def w_X0_fillParts_180 (r0 : Nat) (x1 : Int)  (Q : pj_M → Prop) (M : pj_M) : Prop :=
  ∀ M3 : pj_M, M3 = pj_up M r0 12 x1 → Q M3
def w_X0_fillParts_146 (r0 : Nat) (x1 : Int) (x2 : Int) (x3 : Int) (x4 : Int) (x5 : Int) (k101 : Int → Int → pj_M → Prop) (k120 : Int → Int → pj_M → Prop) (Q : pj_M → Prop) (M : pj_M) : Prop :=
  w_X0_addParts r0 x5 x1 M (fun (t9 : Int) (M8 : pj_M) => (pj_in t9) ∧ ((t9 = 0 → k120 x2 (x5 + 1) M8) ∧ (¬ t9 = 0 → ((0 : Int) ≤ x5 ∧ x5 < 13) ∧ ∀ z12 : Int, z12 = (pj_or x2 (pj_shl 1 (M8 (pj_rf r0 2) x5))) → k120 z12 (x5 + 1) M8)))
def w_X0_fillParts_120b (r0 : Nat) (x1 : Int) (x3 : Int) (x4 : Int) (k101 : Int → Int → pj_M → Prop) (Q : pj_M → Prop) (k120 : Int → Int → pj_M → Prop) (x2 : Int) (x5 : Int) (M : pj_M) : Prop :=
  (pj_in x5) ∧ (pj_in (M r0 6)) ∧ (((M r0 6) ≤ x5 → k101 x2 (x3 + 1) M) ∧ (¬ (M r0 6) ≤ x5 → (pj_in x3) ∧ ((x3 = 0 → w_X0_fillParts_146 r0 x1 x2 x3 x4 x5 k101 k120 Q M) ∧ (¬ x3 = 0 → ((0 : Int) ≤ x5 ∧ x5 < 13) ∧ (pj_in (pj_and (M (pj_rf r0 5) x5) x4)) ∧ (((pj_and (M (pj_rf r0 5) x5) x4) = 0 → k120 x2 (x5 + 1) M) ∧ (¬ (pj_and (M (pj_rf r0 5) x5) x4) = 0 → w_X0_fillParts_146 r0 x1 x2 x3 x4 x5 k101 k120 Q M))))))
def w_X0_fillParts_120 (r0 : Nat) (x1 : Int) (x3 : Int) (x4 : Int) (k101 : Int → Int → pj_M → Prop) (Q : pj_M → Prop) (x2 : Int) (x5 : Int) (M : pj_M) : Prop := pj_lp (fun (k : Int × Int × pj_M → Prop) (s : Int × Int × pj_M) => w_X0_fillParts_120b r0 x1 x3 x4 k101 Q (fun (x2 : Int) (x5 : Int) (M : pj_M) => k (x2, x5, M)) s.1 s.2.1 s.2.2) (x2, x5, M)
def w_X0_fillParts_101b (r0 : Nat) (x1 : Int)  (Q : pj_M → Prop) (k101 : Int → Int → pj_M → Prop) (x2 : Int) (x3 : Int) (M : pj_M) : Prop :=
  (pj_in x3) ∧ ((1000 ≤ x3 → w_X0_fillParts_180 r0 x1  Q M) ∧ (¬ 1000 ≤ x3 → (pj_in x2) ∧ ((x2 = 0 → w_X0_fillParts_180 r0 x1  Q M) ∧ (¬ x2 = 0 → w_X0_fillParts_120 r0 x1 x3 x2 k101 Q 0 0 M))))
def w_X0_fillParts_101 (r0 : Nat) (x1 : Int)  (Q : pj_M → Prop) (x2 : Int) (x3 : Int) (M : pj_M) : Prop := pj_lp (fun (k : Int × Int × pj_M → Prop) (s : Int × Int × pj_M) => w_X0_fillParts_101b r0 x1  Q (fun (x2 : Int) (x3 : Int) (M : pj_M) => k (x2, x3, M)) s.1 s.2.1 s.2.2) (x2, x3, M)
def w_X0_fillParts_90 (r0 : Nat) (x1 : Int) (x2 : Int) (u0 : Nat) (y1 : Int) (y2 : Int) (k2 : Int → pj_M → Prop) (Q : pj_M → Prop) (M : pj_M) : Prop :=
  ((0 : Int) ≤ y1 ∧ y1 < 126) ∧ ∀ M24 : pj_M, M24 = pj_up M u0 y1 y2 → k2 (x2 + 1) M24
def w_X0_fillParts_73 (r0 : Nat) (x1 : Int) (x2 : Int) (x3 : Int) (x4 : Int) (u0 : Nat) (y1 : Int) (y2 : Int) (k2 : Int → pj_M → Prop) (Q : pj_M → Prop) (M : pj_M) : Prop :=
  ((0 : Int) ≤ y1 ∧ y1 < 126) ∧ ∀ M21 : pj_M, M21 = pj_up M u0 y1 y2 → (pj_in x3) ∧ ((x3 = 0 → w_X0_fillParts_90 r0 x1 x2 (pj_rf r0 16) x4 1048576 k2 Q M21) ∧ (¬ x3 = 0 → w_X0_fillParts_90 r0 x1 x2 (pj_rf r0 16) x4 x1 k2 Q M21))
def w_X0_fillParts_56 (r0 : Nat) (x1 : Int) (x2 : Int) (x3 : Int) (x4 : Int) (u0 : Nat) (y1 : Int) (y2 : Int) (k2 : Int → pj_M → Prop) (Q : pj_M → Prop) (M : pj_M) : Prop :=
  ((0 : Int) ≤ y1 ∧ y1 < 126) ∧ ∀ M18 : pj_M, M18 = pj_up M u0 y1 y2 → (pj_in x3) ∧ ((x3 = 0 → w_X0_fillParts_73 r0 x1 x2 x3 x4 (pj_rf r0 15) x4 1048576 k2 Q M18) ∧ (¬ x3 = 0 → w_X0_fillParts_73 r0 x1 x2 x3 x4 (pj_rf r0 15) x4 x1 k2 Q M18))
def w_X0_fillParts_30 (r0 : Nat) (x1 : Int) (x2 : Int) (y0 : Int) (k2 : Int → pj_M → Prop) (Q : pj_M → Prop) (M : pj_M) : Prop :=
  (pj_in y0) ∧ ((y0 = 0 → w_X0_fillParts_56 r0 x1 x2 y0 ((x2 * 18) + x1) (pj_rf r0 14) ((x2 * 18) + x1) 0 k2 Q M) ∧ (¬ y0 = 0 → w_X0_fillParts_56 r0 x1 x2 y0 ((x2 * 18) + x1) (pj_rf r0 14) ((x2 * 18) + x1) (pj_shl 1 x1) k2 Q M))
def w_X0_fillParts_25 (r0 : Nat) (x1 : Int) (x2 : Int) (k2 : Int → pj_M → Prop) (Q : pj_M → Prop) (M : pj_M) : Prop :=
  w_X0_fillParts_30 r0 x1 x2 1 k2 Q M
def w_X0_fillParts_2b (r0 : Nat) (x1 : Int)  (Q : pj_M → Prop) (k2 : Int → pj_M → Prop) (x2 : Int) (M : pj_M) : Prop :=
  (pj_in x2) ∧ ((7 ≤ x2 → w_X0_fillParts_101 r0 x1  Q 1 0 M) ∧ (¬ 7 ≤ x2 → (pj_in x2) ∧ ((x2 = 6 → w_X0_fillParts_25 r0 x1 x2 k2 Q M) ∧ (¬ x2 = 6 → w_X3_yieldsSomething (pj_rf r0 1) x2 M (fun (t26 : Int) (M25 : pj_M) => (pj_in t26) ∧ ((t26 = 0 → w_X0_fillParts_30 r0 x1 x2 0 k2 Q M25) ∧ (¬ t26 = 0 → w_X0_fillParts_25 r0 x1 x2 k2 Q M25)))))))
def w_X0_fillParts_2 (r0 : Nat) (x1 : Int)  (Q : pj_M → Prop) (x2 : Int) (M : pj_M) : Prop := pj_lp (fun (k : Int × pj_M → Prop) (s : Int × pj_M) => w_X0_fillParts_2b r0 x1  Q (fun (x2 : Int) (M : pj_M) => k (x2, M)) s.1 s.2) (x2, M)
def w_X0_fillParts (r0 : Nat) (x1 : Int) (M : pj_M) (Q : pj_M → Prop) : Prop :=
  w_X0_fillParts_2 r0 x1  Q 0 M
set_option maxRecDepth 20000 in
set_option maxHeartbeats 4000000 in
theorem s_X0_fillParts_180 {l : Launch} {g : pj_G} (hg : pj_ph g = true) {r0 : Nat} {x1 : Int} {M : pj_M} {Q : pj_M → Prop}  (o0 : pj_ob r0 0)  (h : w_X0_fillParts_180 r0 x1  Q M) : pj_R l g mdX0_fillParts pj_T (pj_Zm g mdX0_fillParts (pj_qv Q)) pj_NK 0 0 180 [(0, .ref r0), (1, .int (pj_I x1))] [] M := by
  unfold w_X0_fillParts_180 at h
  refine pj_aload_n 181 0 rfl rfl rfl rfl ?_
  refine pj_iload_n 182 1 rfl rfl rfl rfl ?_
  refine pn_puti 185 0 12 12 o0  rfl pfX0_96 rfl rfl rfl (fun M3 hM3 => ?_)
  replace h := h M3 hM3
  exact pn_vret h rfl rfl
set_option maxRecDepth 20000 in
set_option maxHeartbeats 4000000 in
theorem s_X0_fillParts_146 {l : Launch} {g : pj_G} (hg : pj_ph g = true) {r0 : Nat} {x1 : Int} {x2 : Int} {x3 : Int} {x4 : Int} {x5 : Int} {M : pj_M} {Q : pj_M → Prop} {k101 : Int → Int → pj_M → Prop} {k120 : Int → Int → pj_M → Prop} (o0 : pj_ob r0 0) (hk101 : ∀ (x2 : Int) (x3 : Int) (M : pj_M), k101 x2 x3 M → pj_R l g mdX0_fillParts pj_T (pj_Zm g mdX0_fillParts (pj_qv Q)) pj_NK 0 0 101 [(0, .ref r0), (1, .int (pj_I x1)), (2, .int (pj_I x2)), (3, .int (pj_I x3))] [] M) (hk120 : ∀ (x2 : Int) (x5 : Int) (M : pj_M), k120 x2 x5 M → pj_R l g mdX0_fillParts pj_T (pj_Zm g mdX0_fillParts (pj_qv Q)) pj_NK 0 0 120 [(0, .ref r0), (1, .int (pj_I x1)), (2, .int (pj_I x2)), (3, .int (pj_I x3)), (4, .int (pj_I x4)), (5, .int (pj_I x5))] [] M) (h : w_X0_fillParts_146 r0 x1 x2 x3 x4 x5 k101 k120 Q M) : pj_R l g mdX0_fillParts pj_T (pj_Zm g mdX0_fillParts (pj_qv Q)) pj_NK 0 0 146 [(0, .ref r0), (1, .int (pj_I x1)), (2, .int (pj_I x2)), (3, .int (pj_I x3)), (4, .int (pj_I x4)), (5, .int (pj_I x5))] [] M := by
  unfold w_X0_fillParts_146 at h
  refine pj_aload_n 147 0 rfl rfl rfl rfl ?_
  refine pj_iload 149 5 rfl rfl rfl ?_
  refine pj_iload_n 150 1 rfl rfl rfl rfl ?_
  refine pn_callVi 153 0 [.int (pj_I x5), .int (pj_I x1)] [] o0 (s_X0_addParts hg o0 h) plX0_158 rfl rfl rfl rfl (Nat.le_of_ble_eq_true rfl) (by decide) (fun t9 M8 h => ?_)
  obtain ⟨q10, h⟩ := h
  refine pj_if_eq 168 156 rfl (by decide) rfl q10  (fun hc => ?_) (fun hc => ?_)
  · replace h := h.1 hc
    refine pj_iinc 171 5 (ls' := [(0, .ref r0), (1, .int (pj_I x1)), (2, .int (pj_I x2)), (3, .int (pj_I x3)), (4, .int (pj_I x4)), (5, .int (pj_I (x5 + 1)))]) rfl rfl (by decide) rfl rfl ?_
    refine pj_goto 120 rfl (by decide) ?_
    refine pn_sub [0, 1, 2, 3, 4, 5] rfl ?_
    exact hk120 _ _ _ h
  · replace h := h.2 hc
    refine pj_iload_n 157 2 rfl rfl rfl rfl ?_
    refine pj_iconst 158 rfl rfl ?_
    refine pj_aload_n 159 0 rfl rfl rfl rfl ?_
    refine pn_getr 162 0 2 hg o0 (pr_0_2 o0).2 rfl pfX0_25 rfl rfl ?_
    refine pj_iload 164 5 rfl rfl rfl ?_
    obtain ⟨q11, h⟩ := h
    refine pn_iald 165 13 (pr_0_2 o0) q11 rfl rfl ?_
    refine pj_ishl 166 rfl rfl ?_
    refine pj_ior 167 rfl rfl ?_
    refine pn_nm (fun z12 hz12 => ?_)
    replace h := h z12 hz12
    refine pj_istore_n 168 (ls' := [(0, .ref r0), (1, .int (pj_I x1)), (2, .int (pj_I z12)), (3, .int (pj_I x3)), (4, .int (pj_I x4)), (5, .int (pj_I x5))]) rfl rfl (by decide) rfl rfl ?_
    refine pj_iinc 171 5 (ls' := [(0, .ref r0), (1, .int (pj_I x1)), (2, .int (pj_I z12)), (3, .int (pj_I x3)), (4, .int (pj_I x4)), (5, .int (pj_I (x5 + 1)))]) rfl rfl (by decide) rfl rfl ?_
    refine pj_goto 120 rfl (by decide) ?_
    refine pn_sub [0, 1, 2, 3, 4, 5] rfl ?_
    exact hk120 _ _ _ h
set_option maxRecDepth 20000 in
set_option maxHeartbeats 4000000 in
theorem s_X0_fillParts_120b {l : Launch} {g : pj_G} (hg : pj_ph g = true) {r0 : Nat} {x1 : Int} {x2 : Int} {x3 : Int} {x4 : Int} {x5 : Int} {M : pj_M} {Q : pj_M → Prop} {k101 : Int → Int → pj_M → Prop} {k120 : Int → Int → pj_M → Prop} (o0 : pj_ob r0 0) (hk101 : ∀ (x2 : Int) (x3 : Int) (M : pj_M), k101 x2 x3 M → pj_R l g mdX0_fillParts pj_T (pj_Zm g mdX0_fillParts (pj_qv Q)) pj_NK 0 0 101 [(0, .ref r0), (1, .int (pj_I x1)), (2, .int (pj_I x2)), (3, .int (pj_I x3))] [] M) (hk120 : ∀ (x2 : Int) (x5 : Int) (M : pj_M), k120 x2 x5 M → pj_R l g mdX0_fillParts pj_T (pj_Zm g mdX0_fillParts (pj_qv Q)) pj_NK 0 0 120 [(0, .ref r0), (1, .int (pj_I x1)), (2, .int (pj_I x2)), (3, .int (pj_I x3)), (4, .int (pj_I x4)), (5, .int (pj_I x5))] [] M) (h : w_X0_fillParts_120b r0 x1 x3 x4 k101 Q k120 x2 x5 M) : pj_R l g mdX0_fillParts pj_T (pj_Zm g mdX0_fillParts (pj_qv Q)) pj_NK 0 0 120 [(0, .ref r0), (1, .int (pj_I x1)), (2, .int (pj_I x2)), (3, .int (pj_I x3)), (4, .int (pj_I x4)), (5, .int (pj_I x5))] [] M := by
  unfold w_X0_fillParts_120b at h
  refine pj_iload 122 5 rfl rfl rfl ?_
  refine pj_aload_n 123 0 rfl rfl rfl rfl ?_
  refine pn_geti 126 0 6 6 o0 rfl pfX0_74 (Or.inl rfl) rfl rfl ?_
  obtain ⟨q5, h⟩ := h
  obtain ⟨q6, h⟩ := h
  refine pj_icmp_ge 174 129 rfl (by decide) rfl q5 q6 (fun hc => ?_) (fun hc => ?_)
  · replace h := h.1 hc
    refine pj_iinc 177 3 (ls' := [(0, .ref r0), (1, .int (pj_I x1)), (2, .int (pj_I x2)), (3, .int (pj_I (x3 + 1))), (4, .int (pj_I x4)), (5, .int (pj_I x5))]) rfl rfl (by decide) rfl rfl ?_
    refine pj_goto 101 rfl (by decide) ?_
    refine pn_sub [0, 1, 2, 3] rfl ?_
    exact hk101 _ _ _ h
  · replace h := h.2 hc
    refine pj_iload_n 130 3 rfl rfl rfl rfl ?_
    obtain ⟨q7, h⟩ := h
    refine pj_if_eq 146 133 rfl (by decide) rfl q7  (fun hc => ?_) (fun hc => ?_)
    · replace h := h.1 hc
      refine pn_sub [0, 1, 2, 3, 4, 5] rfl ?_
      exact s_X0_fillParts_146 hg o0  hk101 hk120 h
    · replace h := h.2 hc
      refine pj_aload_n 134 0 rfl rfl rfl rfl ?_
      refine pn_getr 137 0 5 hg o0 (pr_0_5 o0).2 rfl pfX0_35 rfl rfl ?_
      refine pj_iload 139 5 rfl rfl rfl ?_
      obtain ⟨q13, h⟩ := h
      refine pn_iald 140 13 (pr_0_5 o0) q13 rfl rfl ?_
      refine pj_iload 142 4 rfl rfl rfl ?_
      refine pj_iand 143 rfl rfl ?_
      obtain ⟨q14, h⟩ := h
      refine pj_if_eq 168 146 rfl (by decide) rfl q14  (fun hc => ?_) (fun hc => ?_)
      · replace h := h.1 hc
        refine pj_iinc 171 5 (ls' := [(0, .ref r0), (1, .int (pj_I x1)), (2, .int (pj_I x2)), (3, .int (pj_I x3)), (4, .int (pj_I x4)), (5, .int (pj_I (x5 + 1)))]) rfl rfl (by decide) rfl rfl ?_
        refine pj_goto 120 rfl (by decide) ?_
        refine pn_sub [0, 1, 2, 3, 4, 5] rfl ?_
        exact hk120 _ _ _ h
      · replace h := h.2 hc
        refine pn_sub [0, 1, 2, 3, 4, 5] rfl ?_
        exact s_X0_fillParts_146 hg o0  hk101 hk120 h
set_option maxRecDepth 20000 in
set_option maxHeartbeats 4000000 in
theorem s_X0_fillParts_120 {l : Launch} {g : pj_G} (hg : pj_ph g = true) {r0 : Nat} {x1 : Int} {x2 : Int} {x3 : Int} {x4 : Int} {x5 : Int} {M : pj_M} {Q : pj_M → Prop} {k101 : Int → Int → pj_M → Prop} (o0 : pj_ob r0 0) (hk101 : ∀ (x2 : Int) (x3 : Int) (M : pj_M), k101 x2 x3 M → pj_R l g mdX0_fillParts pj_T (pj_Zm g mdX0_fillParts (pj_qv Q)) pj_NK 0 0 101 [(0, .ref r0), (1, .int (pj_I x1)), (2, .int (pj_I x2)), (3, .int (pj_I x3))] [] M) (h : w_X0_fillParts_120 r0 x1 x3 x4 k101 Q x2 x5 M) : pj_R l g mdX0_fillParts pj_T (pj_Zm g mdX0_fillParts (pj_qv Q)) pj_NK 0 0 120 [(0, .ref r0), (1, .int (pj_I x1)), (2, .int (pj_I x2)), (3, .int (pj_I x3)), (4, .int (pj_I x4)), (5, .int (pj_I x5))] [] M :=
  h (fun s => pj_R l g mdX0_fillParts pj_T (pj_Zm g mdX0_fillParts (pj_qv Q)) pj_NK 0 0 120 [(0, .ref r0), (1, .int (pj_I x1)), (2, .int (pj_I (s.1))), (3, .int (pj_I x3)), (4, .int (pj_I x4)), (5, .int (pj_I (s.2.1)))] [] s.2.2) (fun s hs => s_X0_fillParts_120b hg o0 hk101 (fun _ _ _ q => q) hs)
set_option maxRecDepth 20000 in
set_option maxHeartbeats 4000000 in
theorem s_X0_fillParts_101b {l : Launch} {g : pj_G} (hg : pj_ph g = true) {r0 : Nat} {x1 : Int} {x2 : Int} {x3 : Int} {M : pj_M} {Q : pj_M → Prop}  {k101 : Int → Int → pj_M → Prop} (o0 : pj_ob r0 0)  (hk101 : ∀ (x2 : Int) (x3 : Int) (M : pj_M), k101 x2 x3 M → pj_R l g mdX0_fillParts pj_T (pj_Zm g mdX0_fillParts (pj_qv Q)) pj_NK 0 0 101 [(0, .ref r0), (1, .int (pj_I x1)), (2, .int (pj_I x2)), (3, .int (pj_I x3))] [] M) (h : w_X0_fillParts_101b r0 x1  Q k101 x2 x3 M) : pj_R l g mdX0_fillParts pj_T (pj_Zm g mdX0_fillParts (pj_qv Q)) pj_NK 0 0 101 [(0, .ref r0), (1, .int (pj_I x1)), (2, .int (pj_I x2)), (3, .int (pj_I x3))] [] M := by
  unfold w_X0_fillParts_101b at h
  refine pj_iload_n 102 3 rfl rfl rfl rfl ?_
  refine pj_sipush 105 rfl (by decide) rfl ?_
  obtain ⟨q2, h⟩ := h
  refine pj_icmp_ge 180 108 rfl (by decide) rfl q2 (show pj_in 1000 by decide) (fun hc => ?_) (fun hc => ?_)
  · replace h := h.1 hc
    refine pn_sub [0, 1] rfl ?_
    exact s_X0_fillParts_180 hg o0   h
  · replace h := h.2 hc
    refine pj_iload_n 109 2 rfl rfl rfl rfl ?_
    obtain ⟨q4, h⟩ := h
    refine pj_if_eq 180 112 rfl (by decide) rfl q4  (fun hc => ?_) (fun hc => ?_)
    · replace h := h.1 hc
      refine pn_sub [0, 1] rfl ?_
      exact s_X0_fillParts_180 hg o0   h
    · replace h := h.2 hc
      refine pj_iload_n 113 2 rfl rfl rfl rfl ?_
      refine pj_istore 115 (ls' := [(0, .ref r0), (1, .int (pj_I x1)), (2, .int (pj_I x2)), (3, .int (pj_I x3)), (4, .int (pj_I x2))]) rfl (by decide) rfl rfl ?_
      refine pj_iconst 116 rfl rfl ?_
      refine pj_istore_n 117 (ls' := [(0, .ref r0), (1, .int (pj_I x1)), (2, .int (pj_I 0)), (3, .int (pj_I x3)), (4, .int (pj_I x2))]) rfl rfl (by decide) rfl rfl ?_
      refine pj_iconst 118 rfl rfl ?_
      refine pj_istore 120 (ls' := [(0, .ref r0), (1, .int (pj_I x1)), (2, .int (pj_I 0)), (3, .int (pj_I x3)), (4, .int (pj_I x2)), (5, .int (pj_I 0))]) rfl (by decide) rfl rfl ?_
      refine pn_sub [0, 1, 2, 3, 4, 5] rfl ?_
      exact s_X0_fillParts_120 hg o0  hk101 h
set_option maxRecDepth 20000 in
set_option maxHeartbeats 4000000 in
theorem s_X0_fillParts_101 {l : Launch} {g : pj_G} (hg : pj_ph g = true) {r0 : Nat} {x1 : Int} {x2 : Int} {x3 : Int} {M : pj_M} {Q : pj_M → Prop}  (o0 : pj_ob r0 0)  (h : w_X0_fillParts_101 r0 x1  Q x2 x3 M) : pj_R l g mdX0_fillParts pj_T (pj_Zm g mdX0_fillParts (pj_qv Q)) pj_NK 0 0 101 [(0, .ref r0), (1, .int (pj_I x1)), (2, .int (pj_I x2)), (3, .int (pj_I x3))] [] M :=
  h (fun s => pj_R l g mdX0_fillParts pj_T (pj_Zm g mdX0_fillParts (pj_qv Q)) pj_NK 0 0 101 [(0, .ref r0), (1, .int (pj_I x1)), (2, .int (pj_I (s.1))), (3, .int (pj_I (s.2.1)))] [] s.2.2) (fun s hs => s_X0_fillParts_101b hg o0  (fun _ _ _ q => q) hs)
set_option maxRecDepth 20000 in
set_option maxHeartbeats 4000000 in
theorem s_X0_fillParts_90 {l : Launch} {g : pj_G} (hg : pj_ph g = true) {r0 : Nat} {x1 : Int} {x2 : Int} {u0 : Nat} {y1 : Int} {y2 : Int} {M : pj_M} {Q : pj_M → Prop} {k2 : Int → pj_M → Prop} (o0 : pj_ob r0 0) (ou0 : pj_ol u0 1 126) (hk2 : ∀ (x2 : Int) (M : pj_M), k2 x2 M → pj_R l g mdX0_fillParts pj_T (pj_Zm g mdX0_fillParts (pj_qv Q)) pj_NK 0 0 2 [(0, .ref r0), (1, .int (pj_I x1)), (2, .int (pj_I x2))] [] M) (h : w_X0_fillParts_90 r0 x1 x2 u0 y1 y2 k2 Q M) : pj_R l g mdX0_fillParts pj_T (pj_Zm g mdX0_fillParts (pj_qv Q)) pj_NK 0 0 90 [(0, .ref r0), (1, .int (pj_I x1)), (2, .int (pj_I x2))] [.int (pj_I y2), .int (pj_I y1), .ref u0] M := by
  unfold w_X0_fillParts_90 at h
  obtain ⟨q23, h⟩ := h
  refine pn_iast 91 126 ou0  q23 rfl rfl (fun M24 hM24 => ?_)
  replace h := h M24 hM24
  refine pj_iinc 94 2 (ls' := [(0, .ref r0), (1, .int (pj_I x1)), (2, .int (pj_I (x2 + 1)))]) rfl rfl (by decide) rfl rfl ?_
  refine pj_goto 2 rfl (by decide) ?_
  refine pn_sub [0, 1, 2] rfl ?_
  exact hk2 _ _ h
set_option maxRecDepth 20000 in
set_option maxHeartbeats 4000000 in
theorem s_X0_fillParts_73 {l : Launch} {g : pj_G} (hg : pj_ph g = true) {r0 : Nat} {x1 : Int} {x2 : Int} {x3 : Int} {x4 : Int} {u0 : Nat} {y1 : Int} {y2 : Int} {M : pj_M} {Q : pj_M → Prop} {k2 : Int → pj_M → Prop} (o0 : pj_ob r0 0) (ou0 : pj_ol u0 1 126) (hk2 : ∀ (x2 : Int) (M : pj_M), k2 x2 M → pj_R l g mdX0_fillParts pj_T (pj_Zm g mdX0_fillParts (pj_qv Q)) pj_NK 0 0 2 [(0, .ref r0), (1, .int (pj_I x1)), (2, .int (pj_I x2))] [] M) (h : w_X0_fillParts_73 r0 x1 x2 x3 x4 u0 y1 y2 k2 Q M) : pj_R l g mdX0_fillParts pj_T (pj_Zm g mdX0_fillParts (pj_qv Q)) pj_NK 0 0 73 [(0, .ref r0), (1, .int (pj_I x1)), (2, .int (pj_I x2)), (3, .int (pj_I x3)), (4, .int (pj_I x4))] [.int (pj_I y2), .int (pj_I y1), .ref u0] M := by
  unfold w_X0_fillParts_73 at h
  obtain ⟨q20, h⟩ := h
  refine pn_iast 74 126 ou0  q20 rfl rfl (fun M21 hM21 => ?_)
  replace h := h M21 hM21
  refine pj_aload_n 75 0 rfl rfl rfl rfl ?_
  refine pn_getr 78 0 16 hg o0 (pr_0_16 o0).2 rfl pfX0_53 rfl rfl ?_
  refine pj_iload 80 4 rfl rfl rfl ?_
  refine pj_iload_n 81 3 rfl rfl rfl rfl ?_
  obtain ⟨q22, h⟩ := h
  refine pj_if_eq 88 84 rfl (by decide) rfl q22  (fun hc => ?_) (fun hc => ?_)
  · replace h := h.1 hc
    refine pj_ldc 90 1048576 rfl pkX0_85 rfl ?_
    refine pn_sub [0, 1, 2] rfl ?_
    exact s_X0_fillParts_90 hg o0 (pr_0_16 o0) hk2 h
  · replace h := h.2 hc
    refine pj_iload_n 85 1 rfl rfl rfl rfl ?_
    refine pj_goto 90 rfl (by decide) ?_
    refine pn_sub [0, 1, 2] rfl ?_
    exact s_X0_fillParts_90 hg o0 (pr_0_16 o0) hk2 h
set_option maxRecDepth 20000 in
set_option maxHeartbeats 4000000 in
theorem s_X0_fillParts_56 {l : Launch} {g : pj_G} (hg : pj_ph g = true) {r0 : Nat} {x1 : Int} {x2 : Int} {x3 : Int} {x4 : Int} {u0 : Nat} {y1 : Int} {y2 : Int} {M : pj_M} {Q : pj_M → Prop} {k2 : Int → pj_M → Prop} (o0 : pj_ob r0 0) (ou0 : pj_ol u0 1 126) (hk2 : ∀ (x2 : Int) (M : pj_M), k2 x2 M → pj_R l g mdX0_fillParts pj_T (pj_Zm g mdX0_fillParts (pj_qv Q)) pj_NK 0 0 2 [(0, .ref r0), (1, .int (pj_I x1)), (2, .int (pj_I x2))] [] M) (h : w_X0_fillParts_56 r0 x1 x2 x3 x4 u0 y1 y2 k2 Q M) : pj_R l g mdX0_fillParts pj_T (pj_Zm g mdX0_fillParts (pj_qv Q)) pj_NK 0 0 56 [(0, .ref r0), (1, .int (pj_I x1)), (2, .int (pj_I x2)), (3, .int (pj_I x3)), (4, .int (pj_I x4))] [.int (pj_I y2), .int (pj_I y1), .ref u0] M := by
  unfold w_X0_fillParts_56 at h
  obtain ⟨q17, h⟩ := h
  refine pn_iast 57 126 ou0  q17 rfl rfl (fun M18 hM18 => ?_)
  replace h := h M18 hM18
  refine pj_aload_n 58 0 rfl rfl rfl rfl ?_
  refine pn_getr 61 0 15 hg o0 (pr_0_15 o0).2 rfl pfX0_50 rfl rfl ?_
  refine pj_iload 63 4 rfl rfl rfl ?_
  refine pj_iload_n 64 3 rfl rfl rfl rfl ?_
  obtain ⟨q19, h⟩ := h
  refine pj_if_eq 71 67 rfl (by decide) rfl q19  (fun hc => ?_) (fun hc => ?_)
  · replace h := h.1 hc
    refine pj_ldc 73 1048576 rfl pkX0_85 rfl ?_
    refine pn_sub [0, 1, 2, 3, 4] rfl ?_
    exact s_X0_fillParts_73 hg o0 (pr_0_15 o0) hk2 h
  · replace h := h.2 hc
    refine pj_iload_n 68 1 rfl rfl rfl rfl ?_
    refine pj_goto 73 rfl (by decide) ?_
    refine pn_sub [0, 1, 2, 3, 4] rfl ?_
    exact s_X0_fillParts_73 hg o0 (pr_0_15 o0) hk2 h
set_option maxRecDepth 20000 in
set_option maxHeartbeats 4000000 in
theorem s_X0_fillParts_30 {l : Launch} {g : pj_G} (hg : pj_ph g = true) {r0 : Nat} {x1 : Int} {x2 : Int} {y0 : Int} {M : pj_M} {Q : pj_M → Prop} {k2 : Int → pj_M → Prop} (o0 : pj_ob r0 0) (hk2 : ∀ (x2 : Int) (M : pj_M), k2 x2 M → pj_R l g mdX0_fillParts pj_T (pj_Zm g mdX0_fillParts (pj_qv Q)) pj_NK 0 0 2 [(0, .ref r0), (1, .int (pj_I x1)), (2, .int (pj_I x2))] [] M) (h : w_X0_fillParts_30 r0 x1 x2 y0 k2 Q M) : pj_R l g mdX0_fillParts pj_T (pj_Zm g mdX0_fillParts (pj_qv Q)) pj_NK 0 0 30 [(0, .ref r0), (1, .int (pj_I x1)), (2, .int (pj_I x2))] [.int (pj_I y0)] M := by
  unfold w_X0_fillParts_30 at h
  refine pj_istore_n 31 (ls' := [(0, .ref r0), (1, .int (pj_I x1)), (2, .int (pj_I x2)), (3, .int (pj_I y0))]) rfl rfl (by decide) rfl rfl ?_
  refine pj_iload_n 32 2 rfl rfl rfl rfl ?_
  refine pj_bipush 34 rfl (by decide) rfl ?_
  refine pj_imul 35 rfl rfl ?_
  refine pj_iload_n 36 1 rfl rfl rfl rfl ?_
  refine pj_iadd 37 rfl rfl ?_
  refine pj_istore 39 (ls' := [(0, .ref r0), (1, .int (pj_I x1)), (2, .int (pj_I x2)), (3, .int (pj_I y0)), (4, .int (pj_I ((x2 * 18) + x1)))]) rfl (by decide) rfl rfl ?_
  refine pj_aload_n 40 0 rfl rfl rfl rfl ?_
  refine pn_getr 43 0 14 hg o0 (pr_0_14 o0).2 rfl pfX0_47 rfl rfl ?_
  refine pj_iload 45 4 rfl rfl rfl ?_
  refine pj_iload_n 46 3 rfl rfl rfl rfl ?_
  obtain ⟨q16, h⟩ := h
  refine pj_if_eq 55 49 rfl (by decide) rfl q16  (fun hc => ?_) (fun hc => ?_)
  · replace h := h.1 hc
    refine pj_iconst 56 rfl rfl ?_
    refine pn_sub [0, 1, 2, 3, 4] rfl ?_
    exact s_X0_fillParts_56 hg o0 (pr_0_14 o0) hk2 h
  · replace h := h.2 hc
    refine pj_iconst 50 rfl rfl ?_
    refine pj_iload_n 51 1 rfl rfl rfl rfl ?_
    refine pj_ishl 52 rfl rfl ?_
    refine pj_goto 56 rfl (by decide) ?_
    refine pn_sub [0, 1, 2, 3, 4] rfl ?_
    exact s_X0_fillParts_56 hg o0 (pr_0_14 o0) hk2 h
set_option maxRecDepth 20000 in
set_option maxHeartbeats 4000000 in
theorem s_X0_fillParts_25 {l : Launch} {g : pj_G} (hg : pj_ph g = true) {r0 : Nat} {x1 : Int} {x2 : Int} {M : pj_M} {Q : pj_M → Prop} {k2 : Int → pj_M → Prop} (o0 : pj_ob r0 0) (hk2 : ∀ (x2 : Int) (M : pj_M), k2 x2 M → pj_R l g mdX0_fillParts pj_T (pj_Zm g mdX0_fillParts (pj_qv Q)) pj_NK 0 0 2 [(0, .ref r0), (1, .int (pj_I x1)), (2, .int (pj_I x2))] [] M) (h : w_X0_fillParts_25 r0 x1 x2 k2 Q M) : pj_R l g mdX0_fillParts pj_T (pj_Zm g mdX0_fillParts (pj_qv Q)) pj_NK 0 0 25 [(0, .ref r0), (1, .int (pj_I x1)), (2, .int (pj_I x2))] [] M := by
  unfold w_X0_fillParts_25 at h
  refine pj_iconst 26 rfl rfl ?_
  refine pj_goto 30 rfl (by decide) ?_
  refine pn_sub [0, 1, 2] rfl ?_
  exact s_X0_fillParts_30 hg o0  hk2 h
set_option maxRecDepth 20000 in
set_option maxHeartbeats 4000000 in
theorem s_X0_fillParts_2b {l : Launch} {g : pj_G} (hg : pj_ph g = true) {r0 : Nat} {x1 : Int} {x2 : Int} {M : pj_M} {Q : pj_M → Prop}  {k2 : Int → pj_M → Prop} (o0 : pj_ob r0 0)  (hk2 : ∀ (x2 : Int) (M : pj_M), k2 x2 M → pj_R l g mdX0_fillParts pj_T (pj_Zm g mdX0_fillParts (pj_qv Q)) pj_NK 0 0 2 [(0, .ref r0), (1, .int (pj_I x1)), (2, .int (pj_I x2))] [] M) (h : w_X0_fillParts_2b r0 x1  Q k2 x2 M) : pj_R l g mdX0_fillParts pj_T (pj_Zm g mdX0_fillParts (pj_qv Q)) pj_NK 0 0 2 [(0, .ref r0), (1, .int (pj_I x1)), (2, .int (pj_I x2))] [] M := by
  unfold w_X0_fillParts_2b at h
  refine pj_iload_n 3 2 rfl rfl rfl rfl ?_
  refine pj_bipush 5 rfl (by decide) rfl ?_
  obtain ⟨q1, h⟩ := h
  refine pj_icmp_ge 97 8 rfl (by decide) rfl q1 (show pj_in 7 by decide) (fun hc => ?_) (fun hc => ?_)
  · replace h := h.1 hc
    refine pj_iconst 98 rfl rfl ?_
    refine pj_istore_n 99 (ls' := [(0, .ref r0), (1, .int (pj_I x1)), (2, .int (pj_I 1))]) rfl rfl (by decide) rfl rfl ?_
    refine pj_iconst 100 rfl rfl ?_
    refine pj_istore_n 101 (ls' := [(0, .ref r0), (1, .int (pj_I x1)), (2, .int (pj_I 1)), (3, .int (pj_I 0))]) rfl rfl (by decide) rfl rfl ?_
    refine pn_sub [0, 1, 2, 3] rfl ?_
    exact s_X0_fillParts_101 hg o0   h
  · replace h := h.2 hc
    refine pj_iload_n 9 2 rfl rfl rfl rfl ?_
    refine pj_bipush 11 rfl (by decide) rfl ?_
    obtain ⟨q15, h⟩ := h
    refine pj_icmp_eq 25 14 rfl (by decide) rfl q15 (show pj_in 6 by decide) (fun hc => ?_) (fun hc => ?_)
    · replace h := h.1 hc
      refine pn_sub [0, 1, 2] rfl ?_
      exact s_X0_fillParts_25 hg o0  hk2 h
    · replace h := h.2 hc
      refine pj_aload_n 15 0 rfl rfl rfl rfl ?_
      refine pn_getr 18 0 1 hg o0 (pr_0_1 o0).2 rfl pfX0_21 rfl rfl ?_
      refine pj_iload_n 19 2 rfl rfl rfl rfl ?_
      refine pn_callVi 22 3 [.int (pj_I x2)] [] (pr_0_1 o0) (s_X3_yieldsSomething hg (pr_0_1 o0) h) plX0_155 rfl rfl rfl rfl (Nat.le_of_ble_eq_true rfl) (by decide) (fun t26 M25 h => ?_)
      obtain ⟨q27, h⟩ := h
      refine pj_if_eq 29 25 rfl (by decide) rfl q27  (fun hc => ?_) (fun hc => ?_)
      · replace h := h.1 hc
        refine pj_iconst 30 rfl rfl ?_
        refine pn_sub [0, 1, 2] rfl ?_
        exact s_X0_fillParts_30 hg o0  hk2 h
      · replace h := h.2 hc
        refine pn_sub [0, 1, 2] rfl ?_
        exact s_X0_fillParts_25 hg o0  hk2 h
set_option maxRecDepth 20000 in
set_option maxHeartbeats 4000000 in
theorem s_X0_fillParts_2 {l : Launch} {g : pj_G} (hg : pj_ph g = true) {r0 : Nat} {x1 : Int} {x2 : Int} {M : pj_M} {Q : pj_M → Prop}  (o0 : pj_ob r0 0)  (h : w_X0_fillParts_2 r0 x1  Q x2 M) : pj_R l g mdX0_fillParts pj_T (pj_Zm g mdX0_fillParts (pj_qv Q)) pj_NK 0 0 2 [(0, .ref r0), (1, .int (pj_I x1)), (2, .int (pj_I x2))] [] M :=
  h (fun s => pj_R l g mdX0_fillParts pj_T (pj_Zm g mdX0_fillParts (pj_qv Q)) pj_NK 0 0 2 [(0, .ref r0), (1, .int (pj_I x1)), (2, .int (pj_I (s.1)))] [] s.2) (fun s hs => s_X0_fillParts_2b hg o0  (fun _ _ q => q) hs)
set_option maxRecDepth 20000 in
set_option maxHeartbeats 4000000 in
theorem s_X0_fillParts {l : Launch} {g : pj_G} (hg : pj_ph g = true) {r0 : Nat} {x1 : Int} {M : pj_M} {Q : pj_M → Prop} (o0 : pj_ob r0 0) (h : w_X0_fillParts r0 x1 M Q) : pj_S l g mdX0_fillParts [.ref r0, .int (pj_I x1)] pj_NK M (pj_qv Q) := by
  refine pj_ofR (ls := [(0, .ref r0), (1, .int (pj_I x1))]) gcX0_fillParts (by decide) rfl (Nat.le_of_ble_eq_true rfl) rfl ?_
  unfold w_X0_fillParts at h
  refine pj_iconst 1 rfl rfl ?_
  refine pj_istore_n 2 (ls' := [(0, .ref r0), (1, .int (pj_I x1)), (2, .int (pj_I 0))]) rfl rfl (by decide) rfl rfl ?_
  refine pn_sub [0, 1, 2] rfl ?_
  exact s_X0_fillParts_2 hg o0   h
def w_X0_read_117b (r0 : Nat)  (Q : pj_M → Prop) (k117 : Int → pj_M → Prop) (x5 : Int) (M : pj_M) : Prop :=
  (pj_in x5) ∧ (pj_in (M r0 11)) ∧ (((M r0 11) < x5 → Q M) ∧ (¬ (M r0 11) < x5 → w_X0_fillParts r0 x5 M (fun (M17 : pj_M) => k117 (x5 + 1) M17)))
def w_X0_read_117 (r0 : Nat)  (Q : pj_M → Prop) (x5 : Int) (M : pj_M) : Prop := pj_lp (fun (k : Int × pj_M → Prop) (s : Int × pj_M) => w_X0_read_117b r0  Q (fun (x5 : Int) (M : pj_M) => k (x5, M)) s.1 s.2) (x5, M)
def w_X0_read_98 (r0 : Nat) (x4 : Int) (u0 : Nat) (y1 : Int) (y2 : Int)  (Q : pj_M → Prop) (M : pj_M) : Prop :=
  w_X0_lay u0 y1 y2 M (fun (M10 : pj_M) => w_X0_cut r0 (x4 + 2) M10 (fun (M12 : pj_M) => ∀ z14 : Int, z14 = ((M12 r0 12) + 1) → w_X0_read_117 r0  Q z14 M12))
def w_X0_read_69 (r0 : Nat) (r2 : Nat) (x4 : Int) (x5 : Int) (u0 : Nat) (y1 : Int) (u2 : Nat) (y3 : Int) (k34 : Int → pj_M → Prop) (Q : pj_M → Prop) (M : pj_M) : Prop :=
  ((0 : Int) ≤ y3 ∧ y3 < 14) ∧ w_X0_lay u0 y1 (M u2 y3) M (fun (M21 : pj_M) => k34 (x5 + 1) M21)
def w_X0_read_34b (r0 : Nat) (r2 : Nat) (x4 : Int)  (Q : pj_M → Prop) (k34 : Int → pj_M → Prop) (x5 : Int) (M : pj_M) : Prop :=
  (pj_in x5) ∧ (pj_in x4) ∧ ((x4 ≤ x5 → (pj_in (M r0 8)) ∧ (((M r0 8) = 0 → w_X0_read_98 r0 x4 r0 (x4 + 1) 9  Q M) ∧ (¬ (M r0 8) = 0 → w_X0_read_98 r0 x4 r0 (x4 + 1) 8  Q M))) ∧ (¬ x4 ≤ x5 → (pj_in (M r0 8)) ∧ (((M r0 8) = 0 → w_X0_read_69 r0 r2 x4 x5 r0 (x5 + 1) (pj_rf r2 0) x5 k34 Q M) ∧ (¬ (M r0 8) = 0 → w_X0_read_69 r0 r2 x4 x5 r0 (x5 + 1) (pj_rf r2 0) ((x4 - 1) - x5) k34 Q M))))
def w_X0_read_34 (r0 : Nat) (r2 : Nat) (x4 : Int)  (Q : pj_M → Prop) (x5 : Int) (M : pj_M) : Prop := pj_lp (fun (k : Int × pj_M → Prop) (s : Int × pj_M) => w_X0_read_34b r0 r2 x4  Q (fun (x5 : Int) (M : pj_M) => k (x5, M)) s.1 s.2) (x5, M)
def w_X0_read_28 (r0 : Nat) (r2 : Nat) (x4 : Int) (u0 : Nat) (y1 : Int) (y2 : Int)  (Q : pj_M → Prop) (M : pj_M) : Prop :=
  w_X0_lay u0 y1 y2 M (fun (M5 : pj_M) => w_X0_read_34 r0 r2 x4  Q 0 M5)
def w_X0_read (r0 : Nat) (r1 : Nat) (r2 : Nat) (x3 : Int) (M : pj_M) (Q : pj_M → Prop) : Prop :=
  w_X0_learn r0 r1 x3 M (fun (M1 : pj_M) => ∀ z3 : Int, z3 = (M1 r2 1) → (pj_in (M1 r0 8)) ∧ (((M1 r0 8) = 0 → w_X0_read_28 r0 r2 z3 r0 0 8  Q M1) ∧ (¬ (M1 r0 8) = 0 → w_X0_read_28 r0 r2 z3 r0 0 9  Q M1)))
set_option maxRecDepth 20000 in
set_option maxHeartbeats 4000000 in
theorem s_X0_read_117b {l : Launch} {g : pj_G} (hg : pj_ph g = true) {r0 : Nat} {x5 : Int} {M : pj_M} {Q : pj_M → Prop}  {k117 : Int → pj_M → Prop} (o0 : pj_ob r0 0)  (hk117 : ∀ (x5 : Int) (M : pj_M), k117 x5 M → pj_R l g mdX0_read pj_T (pj_Zm g mdX0_read (pj_qv Q)) pj_NK 0 0 117 [(0, .ref r0), (5, .int (pj_I x5))] [] M) (h : w_X0_read_117b r0  Q k117 x5 M) : pj_R l g mdX0_read pj_T (pj_Zm g mdX0_read (pj_qv Q)) pj_NK 0 0 117 [(0, .ref r0), (5, .int (pj_I x5))] [] M := by
  unfold w_X0_read_117b at h
  refine pj_iload 119 1 rfl rfl rfl ?_
  refine pj_aload_n 120 0 rfl rfl rfl rfl ?_
  refine pn_geti 123 0 11 11 o0 rfl pfX0_93 (Or.inl rfl) rfl rfl ?_
  obtain ⟨q15, h⟩ := h
  obtain ⟨q16, h⟩ := h
  refine pj_icmp_gt 138 126 rfl (by decide) rfl q15 q16 (fun hc => ?_) (fun hc => ?_)
  · replace h := h.1 hc
    exact pn_vret h rfl rfl
  · replace h := h.2 hc
    refine pj_aload_n 127 0 rfl rfl rfl rfl ?_
    refine pj_iload 129 1 rfl rfl rfl ?_
    refine pn_callVv 132 0 [.int (pj_I x5)] [] o0 (s_X0_fillParts hg o0 h) plX0_127 rfl rfl rfl rfl (Nat.le_of_ble_eq_true rfl) (by decide) (fun M17 h => ?_)
    refine pj_iinc 135 1 (ls' := [(0, .ref r0), (5, .int (pj_I (x5 + 1)))]) rfl rfl (by decide) rfl rfl ?_
    refine pj_goto 117 rfl (by decide) ?_
    refine pn_sub [0, 1] rfl ?_
    exact hk117 _ _ h
set_option maxRecDepth 20000 in
set_option maxHeartbeats 4000000 in
theorem s_X0_read_117 {l : Launch} {g : pj_G} (hg : pj_ph g = true) {r0 : Nat} {x5 : Int} {M : pj_M} {Q : pj_M → Prop}  (o0 : pj_ob r0 0)  (h : w_X0_read_117 r0  Q x5 M) : pj_R l g mdX0_read pj_T (pj_Zm g mdX0_read (pj_qv Q)) pj_NK 0 0 117 [(0, .ref r0), (5, .int (pj_I x5))] [] M :=
  h (fun s => pj_R l g mdX0_read pj_T (pj_Zm g mdX0_read (pj_qv Q)) pj_NK 0 0 117 [(0, .ref r0), (5, .int (pj_I (s.1)))] [] s.2) (fun s hs => s_X0_read_117b hg o0  (fun _ _ q => q) hs)
set_option maxRecDepth 20000 in
set_option maxHeartbeats 4000000 in
theorem s_X0_read_98 {l : Launch} {g : pj_G} (hg : pj_ph g = true) {r0 : Nat} {x4 : Int} {u0 : Nat} {y1 : Int} {y2 : Int} {M : pj_M} {Q : pj_M → Prop}  (o0 : pj_ob r0 0) (ou0 : pj_ob u0 0)  (h : w_X0_read_98 r0 x4 u0 y1 y2  Q M) : pj_R l g mdX0_read pj_T (pj_Zm g mdX0_read (pj_qv Q)) pj_NK 0 0 98 [(0, .ref r0), (4, .int (pj_I x4))] [.int (pj_I y2), .int (pj_I y1), .ref u0] M := by
  unfold w_X0_read_98 at h
  refine pn_callVv 101 0 [.int (pj_I y1), .int (pj_I y2)] [] ou0 (s_X0_lay hg ou0 h) plX0_117 rfl rfl rfl rfl (Nat.le_of_ble_eq_true rfl) (by decide) (fun M10 h => ?_)
  refine pj_aload_n 102 0 rfl rfl rfl rfl ?_
  refine pj_iload 104 1 rfl rfl rfl ?_
  refine pj_iconst 105 rfl rfl ?_
  refine pj_iadd 106 rfl rfl ?_
  refine pn_callVv 109 0 [.int (pj_I (x4 + 2))] [] o0 (s_X0_cut hg o0 h) plX0_124 rfl rfl rfl rfl (Nat.le_of_ble_eq_true rfl) (by decide) (fun M12 h => ?_)
  refine pj_aload_n 110 0 rfl rfl rfl rfl ?_
  refine pn_geti 113 0 12 12 o0 rfl pfX0_96 (Or.inl rfl) rfl rfl ?_
  refine pj_iconst 114 rfl rfl ?_
  refine pj_iadd 115 rfl rfl ?_
  refine pn_nm (fun z14 hz14 => ?_)
  replace h := h z14 hz14
  refine pj_istore 117 (ls' := [(0, .ref r0), (4, .int (pj_I x4)), (5, .int (pj_I z14))]) rfl (by decide) rfl rfl ?_
  refine pn_sub [0, 2] rfl ?_
  exact s_X0_read_117 hg o0   h
set_option maxRecDepth 20000 in
set_option maxHeartbeats 4000000 in
theorem s_X0_read_69 {l : Launch} {g : pj_G} (hg : pj_ph g = true) {r0 : Nat} {r2 : Nat} {x4 : Int} {x5 : Int} {u0 : Nat} {y1 : Int} {u2 : Nat} {y3 : Int} {M : pj_M} {Q : pj_M → Prop} {k34 : Int → pj_M → Prop} (o0 : pj_ob r0 0) (o2 : pj_ob r2 7) (ou0 : pj_ob u0 0) (ou2 : pj_ol u2 1 14) (hk34 : ∀ (x5 : Int) (M : pj_M), k34 x5 M → pj_R l g mdX0_read pj_T (pj_Zm g mdX0_read (pj_qv Q)) pj_NK 0 0 34 [(0, .ref r0), (2, .ref r2), (4, .int (pj_I x4)), (5, .int (pj_I x5))] [] M) (h : w_X0_read_69 r0 r2 x4 x5 u0 y1 u2 y3 k34 Q M) : pj_R l g mdX0_read pj_T (pj_Zm g mdX0_read (pj_qv Q)) pj_NK 0 0 69 [(0, .ref r0), (2, .ref r2), (4, .int (pj_I x4)), (5, .int (pj_I x5))] [.int (pj_I y3), .ref u2, .int (pj_I y1), .ref u0] M := by
  unfold w_X0_read_69 at h
  obtain ⟨q20, h⟩ := h
  refine pn_iald 70 14 ou2 q20 rfl rfl ?_
  refine pn_callVv 73 0 [.int (pj_I y1), .int (pj_I (M u2 y3))] [] ou0 (s_X0_lay hg ou0 h) plX0_117 rfl rfl rfl rfl (Nat.le_of_ble_eq_true rfl) (by decide) (fun M21 h => ?_)
  refine pj_iinc 76 3 (ls' := [(0, .ref r0), (2, .ref r2), (4, .int (pj_I x4)), (5, .int (pj_I (x5 + 1)))]) rfl rfl (by decide) rfl rfl ?_
  refine pj_goto 34 rfl (by decide) ?_
  refine pn_sub [0, 1, 2, 3] rfl ?_
  exact hk34 _ _ h
set_option maxRecDepth 20000 in
set_option maxHeartbeats 4000000 in
theorem s_X0_read_34b {l : Launch} {g : pj_G} (hg : pj_ph g = true) {r0 : Nat} {r2 : Nat} {x4 : Int} {x5 : Int} {M : pj_M} {Q : pj_M → Prop}  {k34 : Int → pj_M → Prop} (o0 : pj_ob r0 0) (o2 : pj_ob r2 7)  (hk34 : ∀ (x5 : Int) (M : pj_M), k34 x5 M → pj_R l g mdX0_read pj_T (pj_Zm g mdX0_read (pj_qv Q)) pj_NK 0 0 34 [(0, .ref r0), (2, .ref r2), (4, .int (pj_I x4)), (5, .int (pj_I x5))] [] M) (h : w_X0_read_34b r0 r2 x4  Q k34 x5 M) : pj_R l g mdX0_read pj_T (pj_Zm g mdX0_read (pj_qv Q)) pj_NK 0 0 34 [(0, .ref r0), (2, .ref r2), (4, .int (pj_I x4)), (5, .int (pj_I x5))] [] M := by
  unfold w_X0_read_34b at h
  refine pj_iload 36 3 rfl rfl rfl ?_
  refine pj_iload 38 2 rfl rfl rfl ?_
  obtain ⟨q7, h⟩ := h
  obtain ⟨q8, h⟩ := h
  refine pj_icmp_ge 79 41 rfl (by decide) rfl q7 q8 (fun hc => ?_) (fun hc => ?_)
  · replace h := h.1 hc
    refine pj_aload_n 80 0 rfl rfl rfl rfl ?_
    refine pj_iload 82 2 rfl rfl rfl ?_
    refine pj_iconst 83 rfl rfl ?_
    refine pj_iadd 84 rfl rfl ?_
    refine pj_aload_n 85 0 rfl rfl rfl rfl ?_
    refine pn_geti 88 0 8 8 o0 rfl pfX0_60 (Or.inr rfl) rfl rfl ?_
    obtain ⟨q9, h⟩ := h
    refine pj_if_eq 96 91 rfl (by decide) rfl q9  (fun hc => ?_) (fun hc => ?_)
    · replace h := h.1 hc
      refine pj_bipush 98 rfl (by decide) rfl ?_
      refine pn_sub [0, 2] rfl ?_
      exact s_X0_read_98 hg o0 o0  h
    · replace h := h.2 hc
      refine pj_bipush 93 rfl (by decide) rfl ?_
      refine pj_goto 98 rfl (by decide) ?_
      refine pn_sub [0, 2] rfl ?_
      exact s_X0_read_98 hg o0 o0  h
  · replace h := h.2 hc
    refine pj_aload_n 42 0 rfl rfl rfl rfl ?_
    refine pj_iload 44 3 rfl rfl rfl ?_
    refine pj_iconst 45 rfl rfl ?_
    refine pj_iadd 46 rfl rfl ?_
    refine pj_aload_n 47 1 rfl rfl rfl rfl ?_
    refine pn_getr 50 7 0 hg o2 (pr_7_0 o2).2 rfl pfX0_121 rfl rfl ?_
    refine pj_aload_n 51 0 rfl rfl rfl rfl ?_
    refine pn_geti 54 0 8 8 o0 rfl pfX0_60 (Or.inr rfl) rfl rfl ?_
    obtain ⟨q19, h⟩ := h
    refine pj_if_eq 67 57 rfl (by decide) rfl q19  (fun hc => ?_) (fun hc => ?_)
    · replace h := h.1 hc
      refine pj_iload 69 3 rfl rfl rfl ?_
      refine pn_sub [0, 1, 2, 3] rfl ?_
      exact s_X0_read_69 hg o0 o2 o0 (pr_7_0 o2) hk34 h
    · replace h := h.2 hc
      refine pj_iload 59 2 rfl rfl rfl ?_
      refine pj_iconst 60 rfl rfl ?_
      refine pj_isub 61 rfl rfl ?_
      refine pj_iload 63 3 rfl rfl rfl ?_
      refine pj_isub 64 rfl rfl ?_
      refine pj_goto 69 rfl (by decide) ?_
      refine pn_sub [0, 1, 2, 3] rfl ?_
      exact s_X0_read_69 hg o0 o2 o0 (pr_7_0 o2) hk34 h
set_option maxRecDepth 20000 in
set_option maxHeartbeats 4000000 in
theorem s_X0_read_34 {l : Launch} {g : pj_G} (hg : pj_ph g = true) {r0 : Nat} {r2 : Nat} {x4 : Int} {x5 : Int} {M : pj_M} {Q : pj_M → Prop}  (o0 : pj_ob r0 0) (o2 : pj_ob r2 7)  (h : w_X0_read_34 r0 r2 x4  Q x5 M) : pj_R l g mdX0_read pj_T (pj_Zm g mdX0_read (pj_qv Q)) pj_NK 0 0 34 [(0, .ref r0), (2, .ref r2), (4, .int (pj_I x4)), (5, .int (pj_I x5))] [] M :=
  h (fun s => pj_R l g mdX0_read pj_T (pj_Zm g mdX0_read (pj_qv Q)) pj_NK 0 0 34 [(0, .ref r0), (2, .ref r2), (4, .int (pj_I x4)), (5, .int (pj_I (s.1)))] [] s.2) (fun s hs => s_X0_read_34b hg o0 o2  (fun _ _ q => q) hs)
set_option maxRecDepth 20000 in
set_option maxHeartbeats 4000000 in
theorem s_X0_read_28 {l : Launch} {g : pj_G} (hg : pj_ph g = true) {r0 : Nat} {r2 : Nat} {x4 : Int} {u0 : Nat} {y1 : Int} {y2 : Int} {M : pj_M} {Q : pj_M → Prop}  (o0 : pj_ob r0 0) (o2 : pj_ob r2 7) (ou0 : pj_ob u0 0)  (h : w_X0_read_28 r0 r2 x4 u0 y1 y2  Q M) : pj_R l g mdX0_read pj_T (pj_Zm g mdX0_read (pj_qv Q)) pj_NK 0 0 28 [(0, .ref r0), (2, .ref r2), (4, .int (pj_I x4))] [.int (pj_I y2), .int (pj_I y1), .ref u0] M := by
  unfold w_X0_read_28 at h
  refine pn_callVv 31 0 [.int (pj_I y1), .int (pj_I y2)] [] ou0 (s_X0_lay hg ou0 h) plX0_117 rfl rfl rfl rfl (Nat.le_of_ble_eq_true rfl) (by decide) (fun M5 h => ?_)
  refine pj_iconst 32 rfl rfl ?_
  refine pj_istore 34 (ls' := [(0, .ref r0), (2, .ref r2), (4, .int (pj_I x4)), (5, .int (pj_I 0))]) rfl (by decide) rfl rfl ?_
  refine pn_sub [0, 1, 2, 3] rfl ?_
  exact s_X0_read_34 hg o0 o2   h
set_option maxRecDepth 20000 in
set_option maxHeartbeats 4000000 in
theorem s_X0_read {l : Launch} {g : pj_G} (hg : pj_ph g = true) {r0 : Nat} {r1 : Nat} {r2 : Nat} {x3 : Int} {M : pj_M} {Q : pj_M → Prop} (o0 : pj_ob r0 0) (o1 : pj_ob r1 4) (o2 : pj_ob r2 7) (h : w_X0_read r0 r1 r2 x3 M Q) : pj_S l g mdX0_read [.ref r0, .ref r1, .ref r2, .int (pj_I x3)] pj_NK M (pj_qv Q) := by
  refine pj_ofR (ls := [(0, .ref r0), (1, .ref r1), (2, .ref r2), (3, .int (pj_I x3))]) gcX0_read (by decide) rfl (Nat.le_of_ble_eq_true rfl) rfl ?_
  unfold w_X0_read at h
  refine pj_aload_n 1 0 rfl rfl rfl rfl ?_
  refine pj_aload_n 2 1 rfl rfl rfl rfl ?_
  refine pj_iload_n 3 3 rfl rfl rfl rfl ?_
  refine pn_callVv 6 0 [.ref r1, .int (pj_I x3)] [] o0 (s_X0_learn hg o0 o1 h) plX0_111 rfl rfl rfl rfl (Nat.le_of_ble_eq_true rfl) (by decide) (fun M1 h => ?_)
  refine pj_aload_n 7 2 rfl rfl rfl rfl ?_
  refine pn_geti 10 7 1 1 o2 rfl pfX0_114 (Or.inl rfl) rfl rfl ?_
  refine pn_nm (fun z3 hz3 => ?_)
  replace h := h z3 hz3
  refine pj_istore 12 (ls' := [(0, .ref r0), (1, .ref r1), (2, .ref r2), (3, .int (pj_I x3)), (4, .int (pj_I z3))]) rfl (by decide) rfl rfl ?_
  refine pj_aload_n 13 0 rfl rfl rfl rfl ?_
  refine pj_iconst 14 rfl rfl ?_
  refine pj_aload_n 15 0 rfl rfl rfl rfl ?_
  refine pn_geti 18 0 8 8 o0 rfl pfX0_60 (Or.inr rfl) rfl rfl ?_
  obtain ⟨q4, h⟩ := h
  refine pj_if_eq 26 21 rfl (by decide) rfl q4  (fun hc => ?_) (fun hc => ?_)
  · replace h := h.1 hc
    refine pj_bipush 28 rfl (by decide) rfl ?_
    refine pn_sub [0, 2, 4] rfl ?_
    exact s_X0_read_28 hg o0 o2 o0  h
  · replace h := h.2 hc
    refine pj_bipush 23 rfl (by decide) rfl ?_
    refine pj_goto 28 rfl (by decide) ?_
    refine pn_sub [0, 2, 4] rfl ?_
    exact s_X0_read_28 hg o0 o2 o0  h
def w_X0_yieldsWhole (r0 : Nat) (x1 : Int) (x2 : Int) (x3 : Int) (M : pj_M) (Q : Int → pj_M → Prop) : Prop :=
  ((0 : Int) ≤ ((x1 * 18) + x3) ∧ ((x1 * 18) + x3) < 126) ∧ (pj_in (pj_and (pj_ushr (M (pj_rf r0 13) ((x1 * 18) + x3)) x2) 1)) ∧ (((pj_and (pj_ushr (M (pj_rf r0 13) ((x1 * 18) + x3)) x2) 1) = 0 → Q 0 M) ∧ (¬ (pj_and (pj_ushr (M (pj_rf r0 13) ((x1 * 18) + x3)) x2) 1) = 0 → Q 1 M))
set_option maxRecDepth 20000 in
set_option maxHeartbeats 4000000 in
theorem s_X0_yieldsWhole {l : Launch} {g : pj_G} (hg : pj_ph g = true) {r0 : Nat} {x1 : Int} {x2 : Int} {x3 : Int} {M : pj_M} {Q : Int → pj_M → Prop} (o0 : pj_ob r0 0) (h : w_X0_yieldsWhole r0 x1 x2 x3 M Q) : pj_S l g mdX0_yieldsWhole [.ref r0, .int (pj_I x1), .int (pj_I x2), .int (pj_I x3)] pj_NK M (pj_qi Q) := by
  refine pj_ofR (ls := [(0, .ref r0), (1, .int (pj_I x1)), (2, .int (pj_I x2)), (3, .int (pj_I x3))]) gcX0_yieldsWhole (by decide) rfl (Nat.le_of_ble_eq_true rfl) rfl ?_
  unfold w_X0_yieldsWhole at h
  refine pj_aload_n 1 0 rfl rfl rfl rfl ?_
  refine pn_getr 4 0 13 hg o0 (pr_0_13 o0).2 rfl pfX0_44 rfl rfl ?_
  refine pj_iload_n 5 1 rfl rfl rfl rfl ?_
  refine pj_bipush 7 rfl (by decide) rfl ?_
  refine pj_imul 8 rfl rfl ?_
  refine pj_iload_n 9 3 rfl rfl rfl rfl ?_
  refine pj_iadd 10 rfl rfl ?_
  obtain ⟨q1, h⟩ := h
  refine pn_iald 11 126 (pr_0_13 o0) q1 rfl rfl ?_
  refine pj_iload_n 12 2 rfl rfl rfl rfl ?_
  refine pj_iushr 13 rfl rfl ?_
  refine pj_iconst 14 rfl rfl ?_
  refine pj_iand 15 rfl rfl ?_
  obtain ⟨q2, h⟩ := h
  refine pj_if_eq 22 18 rfl (by decide) rfl q2  (fun hc => ?_) (fun hc => ?_)
  · replace h := h.1 hc
    refine pj_iconst 23 rfl rfl ?_
    exact pn_zret (by decide) h rfl rfl
  · replace h := h.2 hc
    refine pj_iconst 19 rfl rfl ?_
    refine pj_goto 23 rfl (by decide) ?_
    exact pn_zret (by decide) h rfl rfl
def w_X0_isSentence_2b (r0 : Nat) (r1 : Nat) (x2 : Int)  (Q : Int → pj_M → Prop) (k2 : Int → pj_M → Prop) (x3 : Int) (M : pj_M) : Prop :=
  (pj_in x3) ∧ (pj_in x2) ∧ ((x2 ≤ x3 → w_X0_cut r0 x2 M (fun (M3 : pj_M) => w_X0_yieldsWhole r0 (M3 (pj_rf r0 0) 4) 0 x2 M3 (fun (t6 : Int) (M5 : pj_M) => (t6 = 0 ∨ t6 = 1) ∧ Q t6 M5))) ∧ (¬ x2 ≤ x3 → ((0 : Int) ≤ x3 ∧ x3 < 5) ∧ w_X0_lay r0 x3 (M (pj_rf r1 2) x3) M (fun (M9 : pj_M) => k2 (x3 + 1) M9)))
def w_X0_isSentence_2 (r0 : Nat) (r1 : Nat) (x2 : Int)  (Q : Int → pj_M → Prop) (x3 : Int) (M : pj_M) : Prop := pj_lp (fun (k : Int × pj_M → Prop) (s : Int × pj_M) => w_X0_isSentence_2b r0 r1 x2  Q (fun (x3 : Int) (M : pj_M) => k (x3, M)) s.1 s.2) (x3, M)
def w_X0_isSentence (r0 : Nat) (r1 : Nat) (x2 : Int) (M : pj_M) (Q : Int → pj_M → Prop) : Prop :=
  w_X0_isSentence_2 r0 r1 x2  Q 0 M
set_option maxRecDepth 20000 in
set_option maxHeartbeats 4000000 in
theorem s_X0_isSentence_2b {l : Launch} {g : pj_G} (hg : pj_ph g = true) {r0 : Nat} {r1 : Nat} {x2 : Int} {x3 : Int} {M : pj_M} {Q : Int → pj_M → Prop}  {k2 : Int → pj_M → Prop} (o0 : pj_ob r0 0) (o1 : pj_ob r1 10)  (hk2 : ∀ (x3 : Int) (M : pj_M), k2 x3 M → pj_R l g mdX0_isSentence pj_T (pj_Zm g mdX0_isSentence (pj_qi Q)) pj_NK 0 0 2 [(0, .ref r0), (1, .ref r1), (2, .int (pj_I x2)), (3, .int (pj_I x3))] [] M) (h : w_X0_isSentence_2b r0 r1 x2  Q k2 x3 M) : pj_R l g mdX0_isSentence pj_T (pj_Zm g mdX0_isSentence (pj_qi Q)) pj_NK 0 0 2 [(0, .ref r0), (1, .ref r1), (2, .int (pj_I x2)), (3, .int (pj_I x3))] [] M := by
  unfold w_X0_isSentence_2b at h
  refine pj_iload_n 3 3 rfl rfl rfl rfl ?_
  refine pj_iload_n 4 2 rfl rfl rfl rfl ?_
  obtain ⟨q1, h⟩ := h
  obtain ⟨q2, h⟩ := h
  refine pj_icmp_ge 24 7 rfl (by decide) rfl q1 q2 (fun hc => ?_) (fun hc => ?_)
  · replace h := h.1 hc
    refine pj_aload_n 25 0 rfl rfl rfl rfl ?_
    refine pj_iload_n 26 2 rfl rfl rfl rfl ?_
    refine pn_callVv 29 0 [.int (pj_I x2)] [] o0 (s_X0_cut hg o0 h) plX0_124 rfl rfl rfl rfl (Nat.le_of_ble_eq_true rfl) (by decide) (fun M3 h => ?_)
    refine pj_aload_n 30 0 rfl rfl rfl rfl ?_
    refine pj_aload_n 31 0 rfl rfl rfl rfl ?_
    refine pn_getr 34 0 0 hg o0 (pr_0_0 o0).2 rfl pfX0_14 rfl rfl ?_
    refine pn_geti 37 4 4 4 (pr_0_0 o0) rfl pfX0_108 (Or.inl rfl) rfl rfl ?_
    refine pj_iconst 38 rfl rfl ?_
    refine pj_iload_n 39 2 rfl rfl rfl rfl ?_
    refine pn_callVi 42 0 [.int (pj_I (M3 (pj_rf r0 0) 4)), .int (pj_I 0), .int (pj_I x2)] [] o0 (s_X0_yieldsWhole hg o0 h) plX0_135 rfl rfl rfl rfl (Nat.le_of_ble_eq_true rfl) (by decide) (fun t6 M5 h => ?_)
    obtain ⟨q7, h⟩ := h
    exact pn_zret q7 h rfl rfl
  · replace h := h.2 hc
    refine pj_aload_n 8 0 rfl rfl rfl rfl ?_
    refine pj_iload_n 9 3 rfl rfl rfl rfl ?_
    refine pj_aload_n 10 1 rfl rfl rfl rfl ?_
    refine pn_getr 13 10 2 hg o1 (pr_10_2 o1).2 rfl pfX0_130 rfl rfl ?_
    refine pj_iload_n 14 3 rfl rfl rfl rfl ?_
    obtain ⟨q8, h⟩ := h
    refine pn_iald 15 5 (pr_10_2 o1) q8 rfl rfl ?_
    refine pn_callVv 18 0 [.int (pj_I x3), .int (pj_I (M (pj_rf r1 2) x3))] [] o0 (s_X0_lay hg o0 h) plX0_117 rfl rfl rfl rfl (Nat.le_of_ble_eq_true rfl) (by decide) (fun M9 h => ?_)
    refine pj_iinc 21 3 (ls' := [(0, .ref r0), (1, .ref r1), (2, .int (pj_I x2)), (3, .int (pj_I (x3 + 1)))]) rfl rfl (by decide) rfl rfl ?_
    refine pj_goto 2 rfl (by decide) ?_
    refine pn_sub [0, 1, 2, 3] rfl ?_
    exact hk2 _ _ h
set_option maxRecDepth 20000 in
set_option maxHeartbeats 4000000 in
theorem s_X0_isSentence_2 {l : Launch} {g : pj_G} (hg : pj_ph g = true) {r0 : Nat} {r1 : Nat} {x2 : Int} {x3 : Int} {M : pj_M} {Q : Int → pj_M → Prop}  (o0 : pj_ob r0 0) (o1 : pj_ob r1 10)  (h : w_X0_isSentence_2 r0 r1 x2  Q x3 M) : pj_R l g mdX0_isSentence pj_T (pj_Zm g mdX0_isSentence (pj_qi Q)) pj_NK 0 0 2 [(0, .ref r0), (1, .ref r1), (2, .int (pj_I x2)), (3, .int (pj_I x3))] [] M :=
  h (fun s => pj_R l g mdX0_isSentence pj_T (pj_Zm g mdX0_isSentence (pj_qi Q)) pj_NK 0 0 2 [(0, .ref r0), (1, .ref r1), (2, .int (pj_I x2)), (3, .int (pj_I (s.1)))] [] s.2) (fun s hs => s_X0_isSentence_2b hg o0 o1  (fun _ _ q => q) hs)
set_option maxRecDepth 20000 in
set_option maxHeartbeats 4000000 in
theorem s_X0_isSentence {l : Launch} {g : pj_G} (hg : pj_ph g = true) {r0 : Nat} {r1 : Nat} {x2 : Int} {M : pj_M} {Q : Int → pj_M → Prop} (o0 : pj_ob r0 0) (o1 : pj_ob r1 10) (h : w_X0_isSentence r0 r1 x2 M Q) : pj_S l g mdX0_isSentence [.ref r0, .ref r1, .int (pj_I x2)] pj_NK M (pj_qi Q) := by
  refine pj_ofR (ls := [(0, .ref r0), (1, .ref r1), (2, .int (pj_I x2))]) gcX0_isSentence (by decide) rfl (Nat.le_of_ble_eq_true rfl) rfl ?_
  unfold w_X0_isSentence at h
  refine pj_iconst 1 rfl rfl ?_
  refine pj_istore_n 2 (ls' := [(0, .ref r0), (1, .ref r1), (2, .int (pj_I x2)), (3, .int (pj_I 0))]) rfl rfl (by decide) rfl rfl ?_
  refine pn_sub [0, 1, 2, 3] rfl ?_
  exact s_X0_isSentence_2 hg o0 o1   h
def w_X0_yieldsPart (r0 : Nat) (x1 : Int) (x2 : Int) (x3 : Int) (x4 : Int) (M : pj_M) (Q : Int → pj_M → Prop) : Prop :=
  (pj_in x2) ∧ ((¬ x2 = 0 → (pj_in x2) ∧ ((¬ x2 = 1 → (pj_in x2) ∧ ((¬ x2 = 2 → ((0 : Int) ≤ ((x1 * 18) + x4) ∧ ((x1 * 18) + x4) < 126) ∧ (pj_in (M (pj_rf r0 16) ((x1 * 18) + x4))) ∧ (pj_in x3) ∧ ((x3 < (M (pj_rf r0 16) ((x1 * 18) + x4)) → Q 0 M) ∧ (¬ x3 < (M (pj_rf r0 16) ((x1 * 18) + x4)) → Q 1 M))) ∧ (x2 = 2 → ((0 : Int) ≤ ((x1 * 18) + x4) ∧ ((x1 * 18) + x4) < 126) ∧ (pj_in (M (pj_rf r0 15) ((x1 * 18) + x4))) ∧ (pj_in x3) ∧ ((x3 < (M (pj_rf r0 15) ((x1 * 18) + x4)) → Q 0 M) ∧ (¬ x3 < (M (pj_rf r0 15) ((x1 * 18) + x4)) → Q 1 M))))) ∧ (x2 = 1 → ((0 : Int) ≤ ((x1 * 18) + x4) ∧ ((x1 * 18) + x4) < 126) ∧ (pj_in (pj_and (pj_ushr (M (pj_rf r0 14) ((x1 * 18) + x4)) x3) 1)) ∧ (((pj_and (pj_ushr (M (pj_rf r0 14) ((x1 * 18) + x4)) x3) 1) = 0 → Q 0 M) ∧ (¬ (pj_and (pj_ushr (M (pj_rf r0 14) ((x1 * 18) + x4)) x3) 1) = 0 → Q 1 M))))) ∧ (x2 = 0 → ((0 : Int) ≤ ((x1 * 18) + x4) ∧ ((x1 * 18) + x4) < 126) ∧ (pj_in (pj_and (pj_ushr (M (pj_rf r0 13) ((x1 * 18) + x4)) x3) 1)) ∧ (((pj_and (pj_ushr (M (pj_rf r0 13) ((x1 * 18) + x4)) x3) 1) = 0 → Q 0 M) ∧ (¬ (pj_and (pj_ushr (M (pj_rf r0 13) ((x1 * 18) + x4)) x3) 1) = 0 → Q 1 M))))
set_option maxRecDepth 20000 in
set_option maxHeartbeats 4000000 in
theorem s_X0_yieldsPart {l : Launch} {g : pj_G} (hg : pj_ph g = true) {r0 : Nat} {x1 : Int} {x2 : Int} {x3 : Int} {x4 : Int} {M : pj_M} {Q : Int → pj_M → Prop} (o0 : pj_ob r0 0) (h : w_X0_yieldsPart r0 x1 x2 x3 x4 M Q) : pj_S l g mdX0_yieldsPart [.ref r0, .int (pj_I x1), .int (pj_I x2), .int (pj_I x3), .int (pj_I x4)] pj_NK M (pj_qi Q) := by
  refine pj_ofR (ls := [(0, .ref r0), (1, .int (pj_I x1)), (2, .int (pj_I x2)), (3, .int (pj_I x3)), (4, .int (pj_I x4))]) gcX0_yieldsPart (by decide) rfl (Nat.le_of_ble_eq_true rfl) rfl ?_
  unfold w_X0_yieldsPart at h
  refine pj_iload_n 1 1 rfl rfl rfl rfl ?_
  refine pj_bipush 3 rfl (by decide) rfl ?_
  refine pj_imul 4 rfl rfl ?_
  refine pj_iload 6 4 rfl rfl rfl ?_
  refine pj_iadd 7 rfl rfl ?_
  refine pj_istore 9 (ls' := [(0, .ref r0), (1, .int (pj_I x1)), (2, .int (pj_I x2)), (3, .int (pj_I x3)), (4, .int (pj_I x4)), (5, .int (pj_I ((x1 * 18) + x4)))]) rfl (by decide) rfl rfl ?_
  refine pj_iload_n 10 2 rfl rfl rfl rfl ?_
  obtain ⟨q1, h⟩ := h
  refine pj_if_ne 33 13 rfl (by decide) rfl q1  (fun hc => ?_) (fun hc => ?_)
  · replace h := h.1 hc
    refine pj_iload_n 34 2 rfl rfl rfl rfl ?_
    refine pj_iconst 35 rfl rfl ?_
    obtain ⟨q2, h⟩ := h
    refine pj_icmp_ne 58 38 rfl (by decide) rfl q2 (show pj_in 1 by decide) (fun hc => ?_) (fun hc => ?_)
    · replace h := h.1 hc
      refine pj_iload_n 59 2 rfl rfl rfl rfl ?_
      refine pj_iconst 60 rfl rfl ?_
      obtain ⟨q3, h⟩ := h
      refine pj_icmp_ne 82 63 rfl (by decide) rfl q3 (show pj_in 2 by decide) (fun hc => ?_) (fun hc => ?_)
      · replace h := h.1 hc
        refine pj_aload_n 83 0 rfl rfl rfl rfl ?_
        refine pn_getr 86 0 16 hg o0 (pr_0_16 o0).2 rfl pfX0_53 rfl rfl ?_
        refine pj_iload 88 5 rfl rfl rfl ?_
        obtain ⟨q4, h⟩ := h
        refine pn_iald 89 126 (pr_0_16 o0) q4 rfl rfl ?_
        refine pj_iload_n 90 3 rfl rfl rfl rfl ?_
        obtain ⟨q5, h⟩ := h
        obtain ⟨q6, h⟩ := h
        refine pj_icmp_gt 97 93 rfl (by decide) rfl q5 q6 (fun hc => ?_) (fun hc => ?_)
        · replace h := h.1 hc
          refine pj_iconst 98 rfl rfl ?_
          exact pn_zret (by decide) h rfl rfl
        · replace h := h.2 hc
          refine pj_iconst 94 rfl rfl ?_
          refine pj_goto 98 rfl (by decide) ?_
          exact pn_zret (by decide) h rfl rfl
      · replace h := h.2 (Classical.not_not.mp hc)
        refine pj_aload_n 64 0 rfl rfl rfl rfl ?_
        refine pn_getr 67 0 15 hg o0 (pr_0_15 o0).2 rfl pfX0_50 rfl rfl ?_
        refine pj_iload 69 5 rfl rfl rfl ?_
        obtain ⟨q7, h⟩ := h
        refine pn_iald 70 126 (pr_0_15 o0) q7 rfl rfl ?_
        refine pj_iload_n 71 3 rfl rfl rfl rfl ?_
        obtain ⟨q8, h⟩ := h
        obtain ⟨q9, h⟩ := h
        refine pj_icmp_gt 78 74 rfl (by decide) rfl q8 q9 (fun hc => ?_) (fun hc => ?_)
        · replace h := h.1 hc
          refine pj_iconst 79 rfl rfl ?_
          refine pj_goto 98 rfl (by decide) ?_
          exact pn_zret (by decide) h rfl rfl
        · replace h := h.2 hc
          refine pj_iconst 75 rfl rfl ?_
          refine pj_goto 98 rfl (by decide) ?_
          exact pn_zret (by decide) h rfl rfl
    · replace h := h.2 (Classical.not_not.mp hc)
      refine pj_aload_n 39 0 rfl rfl rfl rfl ?_
      refine pn_getr 42 0 14 hg o0 (pr_0_14 o0).2 rfl pfX0_47 rfl rfl ?_
      refine pj_iload 44 5 rfl rfl rfl ?_
      obtain ⟨q10, h⟩ := h
      refine pn_iald 45 126 (pr_0_14 o0) q10 rfl rfl ?_
      refine pj_iload_n 46 3 rfl rfl rfl rfl ?_
      refine pj_iushr 47 rfl rfl ?_
      refine pj_iconst 48 rfl rfl ?_
      refine pj_iand 49 rfl rfl ?_
      obtain ⟨q11, h⟩ := h
      refine pj_if_eq 56 52 rfl (by decide) rfl q11  (fun hc => ?_) (fun hc => ?_)
      · replace h := h.1 hc
        refine pj_iconst 57 rfl rfl ?_
        exact pn_zret (by decide) h rfl rfl
      · replace h := h.2 hc
        refine pj_iconst 53 rfl rfl ?_
        refine pj_goto 57 rfl (by decide) ?_
        exact pn_zret (by decide) h rfl rfl
  · replace h := h.2 (Classical.not_not.mp hc)
    refine pj_aload_n 14 0 rfl rfl rfl rfl ?_
    refine pn_getr 17 0 13 hg o0 (pr_0_13 o0).2 rfl pfX0_44 rfl rfl ?_
    refine pj_iload 19 5 rfl rfl rfl ?_
    obtain ⟨q12, h⟩ := h
    refine pn_iald 20 126 (pr_0_13 o0) q12 rfl rfl ?_
    refine pj_iload_n 21 3 rfl rfl rfl rfl ?_
    refine pj_iushr 22 rfl rfl ?_
    refine pj_iconst 23 rfl rfl ?_
    refine pj_iand 24 rfl rfl ?_
    obtain ⟨q13, h⟩ := h
    refine pj_if_eq 31 27 rfl (by decide) rfl q13  (fun hc => ?_) (fun hc => ?_)
    · replace h := h.1 hc
      refine pj_iconst 32 rfl rfl ?_
      exact pn_zret (by decide) h rfl rfl
    · replace h := h.2 hc
      refine pj_iconst 28 rfl rfl ?_
      refine pj_goto 32 rfl (by decide) ?_
      exact pn_zret (by decide) h rfl rfl
def w_X0_leastFitting (r0 : Nat) (x1 : Int) (M : pj_M) (Q : Int → pj_M → Prop) : Prop :=
  ((0 : Int) ≤ (108 + x1) ∧ (108 + x1) < 126) ∧ Q (M (pj_rf r0 16) (108 + x1)) M
set_option maxRecDepth 20000 in
set_option maxHeartbeats 4000000 in
theorem s_X0_leastFitting {l : Launch} {g : pj_G} (hg : pj_ph g = true) {r0 : Nat} {x1 : Int} {M : pj_M} {Q : Int → pj_M → Prop} (o0 : pj_ob r0 0) (h : w_X0_leastFitting r0 x1 M Q) : pj_S l g mdX0_leastFitting [.ref r0, .int (pj_I x1)] pj_NK M (pj_qi Q) := by
  refine pj_ofR (ls := [(0, .ref r0), (1, .int (pj_I x1))]) gcX0_leastFitting (by decide) rfl (Nat.le_of_ble_eq_true rfl) rfl ?_
  unfold w_X0_leastFitting at h
  refine pj_aload_n 1 0 rfl rfl rfl rfl ?_
  refine pn_getr 4 0 16 hg o0 (pr_0_16 o0).2 rfl pfX0_53 rfl rfl ?_
  refine pj_bipush 6 rfl (by decide) rfl ?_
  refine pj_iload_n 7 1 rfl rfl rfl rfl ?_
  refine pj_iadd 8 rfl rfl ?_
  obtain ⟨q1, h⟩ := h
  refine pn_iald 9 126 (pr_0_16 o0) q1 rfl rfl ?_
  exact pn_iret h rfl rfl
def w_X0_greatestFitting_2b (r0 : Nat) (x1 : Int)  (Q : Int → pj_M → Prop) (k2 : Int → pj_M → Prop) (x2 : Int) (M : pj_M) : Prop :=
  (pj_in x2) ∧ (pj_in (M r0 11)) ∧ (((M r0 11) ≤ x2 → Q x2 M) ∧ (¬ (M r0 11) ≤ x2 → w_X0_leastFitting r0 (x2 + 1) M (fun (t4 : Int) (M3 : pj_M) => (pj_in t4) ∧ (pj_in x1) ∧ ((x1 < t4 → Q x2 M3) ∧ (¬ x1 < t4 → k2 (x2 + 1) M3)))))
def w_X0_greatestFitting_2 (r0 : Nat) (x1 : Int)  (Q : Int → pj_M → Prop) (x2 : Int) (M : pj_M) : Prop := pj_lp (fun (k : Int × pj_M → Prop) (s : Int × pj_M) => w_X0_greatestFitting_2b r0 x1  Q (fun (x2 : Int) (M : pj_M) => k (x2, M)) s.1 s.2) (x2, M)
def w_X0_greatestFitting (r0 : Nat) (x1 : Int) (M : pj_M) (Q : Int → pj_M → Prop) : Prop :=
  w_X0_greatestFitting_2 r0 x1  Q x1 M
set_option maxRecDepth 20000 in
set_option maxHeartbeats 4000000 in
theorem s_X0_greatestFitting_2b {l : Launch} {g : pj_G} (hg : pj_ph g = true) {r0 : Nat} {x1 : Int} {x2 : Int} {M : pj_M} {Q : Int → pj_M → Prop}  {k2 : Int → pj_M → Prop} (o0 : pj_ob r0 0)  (hk2 : ∀ (x2 : Int) (M : pj_M), k2 x2 M → pj_R l g mdX0_greatestFitting pj_T (pj_Zm g mdX0_greatestFitting (pj_qi Q)) pj_NK 0 0 2 [(0, .ref r0), (1, .int (pj_I x1)), (2, .int (pj_I x2))] [] M) (h : w_X0_greatestFitting_2b r0 x1  Q k2 x2 M) : pj_R l g mdX0_greatestFitting pj_T (pj_Zm g mdX0_greatestFitting (pj_qi Q)) pj_NK 0 0 2 [(0, .ref r0), (1, .int (pj_I x1)), (2, .int (pj_I x2))] [] M := by
  unfold w_X0_greatestFitting_2b at h
  refine pj_iload_n 3 2 rfl rfl rfl rfl ?_
  refine pj_aload_n 4 0 rfl rfl rfl rfl ?_
  refine pn_geti 7 0 11 11 o0 rfl pfX0_93 (Or.inl rfl) rfl rfl ?_
  obtain ⟨q1, h⟩ := h
  obtain ⟨q2, h⟩ := h
  refine pj_icmp_ge 27 10 rfl (by decide) rfl q1 q2 (fun hc => ?_) (fun hc => ?_)
  · replace h := h.1 hc
    refine pj_iload_n 28 2 rfl rfl rfl rfl ?_
    exact pn_iret h rfl rfl
  · replace h := h.2 hc
    refine pj_aload_n 11 0 rfl rfl rfl rfl ?_
    refine pj_iload_n 12 2 rfl rfl rfl rfl ?_
    refine pj_iconst 13 rfl rfl ?_
    refine pj_iadd 14 rfl rfl ?_
    refine pn_callVi 17 0 [.int (pj_I (x2 + 1))] [] o0 (s_X0_leastFitting hg o0 h) plX0_174 rfl rfl rfl rfl (Nat.le_of_ble_eq_true rfl) (by decide) (fun t4 M3 h => ?_)
    refine pj_iload_n 18 1 rfl rfl rfl rfl ?_
    obtain ⟨q5, h⟩ := h
    obtain ⟨q6, h⟩ := h
    refine pj_icmp_gt 27 21 rfl (by decide) rfl q5 q6 (fun hc => ?_) (fun hc => ?_)
    · replace h := h.1 hc
      refine pj_iload_n 28 2 rfl rfl rfl rfl ?_
      exact pn_iret h rfl rfl
    · replace h := h.2 hc
      refine pj_iinc 24 2 (ls' := [(0, .ref r0), (1, .int (pj_I x1)), (2, .int (pj_I (x2 + 1)))]) rfl rfl (by decide) rfl rfl ?_
      refine pj_goto 2 rfl (by decide) ?_
      refine pn_sub [0, 1, 2] rfl ?_
      exact hk2 _ _ h
set_option maxRecDepth 20000 in
set_option maxHeartbeats 4000000 in
theorem s_X0_greatestFitting_2 {l : Launch} {g : pj_G} (hg : pj_ph g = true) {r0 : Nat} {x1 : Int} {x2 : Int} {M : pj_M} {Q : Int → pj_M → Prop}  (o0 : pj_ob r0 0)  (h : w_X0_greatestFitting_2 r0 x1  Q x2 M) : pj_R l g mdX0_greatestFitting pj_T (pj_Zm g mdX0_greatestFitting (pj_qi Q)) pj_NK 0 0 2 [(0, .ref r0), (1, .int (pj_I x1)), (2, .int (pj_I x2))] [] M :=
  h (fun s => pj_R l g mdX0_greatestFitting pj_T (pj_Zm g mdX0_greatestFitting (pj_qi Q)) pj_NK 0 0 2 [(0, .ref r0), (1, .int (pj_I x1)), (2, .int (pj_I (s.1)))] [] s.2) (fun s hs => s_X0_greatestFitting_2b hg o0  (fun _ _ q => q) hs)
set_option maxRecDepth 20000 in
set_option maxHeartbeats 4000000 in
theorem s_X0_greatestFitting {l : Launch} {g : pj_G} (hg : pj_ph g = true) {r0 : Nat} {x1 : Int} {M : pj_M} {Q : Int → pj_M → Prop} (o0 : pj_ob r0 0) (h : w_X0_greatestFitting r0 x1 M Q) : pj_S l g mdX0_greatestFitting [.ref r0, .int (pj_I x1)] pj_NK M (pj_qi Q) := by
  refine pj_ofR (ls := [(0, .ref r0), (1, .int (pj_I x1))]) gcX0_greatestFitting (by decide) rfl (Nat.le_of_ble_eq_true rfl) rfl ?_
  unfold w_X0_greatestFitting at h
  refine pj_iload_n 1 1 rfl rfl rfl rfl ?_
  refine pj_istore_n 2 (ls' := [(0, .ref r0), (1, .int (pj_I x1)), (2, .int (pj_I x1))]) rfl rfl (by decide) rfl rfl ?_
  refine pn_sub [0, 1, 2] rfl ?_
  exact s_X0_greatestFitting_2 hg o0   h
def w_X0_beginOfLongestWith_7b (r0 : Nat) (x1 : Int)  (Q : Int → pj_M → Prop) (k7 : Int → Int → Int → pj_M → Prop) (x2 : Int) (x3 : Int) (x4 : Int) (M : pj_M) : Prop :=
  (pj_in x4) ∧ (pj_in x1) ∧ ((x1 < x4 → Q x2 M) ∧ (¬ x1 < x4 → w_X0_greatestFitting r0 x4 M (fun (t4 : Int) (M3 : pj_M) => (pj_in t4) ∧ (pj_in x1) ∧ ((t4 ≤ x1 → k7 x2 x3 (x4 + 1) M3) ∧ (¬ t4 ≤ x1 → (pj_in (t4 - x4)) ∧ (pj_in x3) ∧ (((t4 - x4) ≤ x3 → k7 x2 x3 (x4 + 1) M3) ∧ (¬ (t4 - x4) ≤ x3 → k7 x4 (t4 - x4) (x4 + 1) M3)))))))
def w_X0_beginOfLongestWith_7 (r0 : Nat) (x1 : Int)  (Q : Int → pj_M → Prop) (x2 : Int) (x3 : Int) (x4 : Int) (M : pj_M) : Prop := pj_lp (fun (k : Int × Int × Int × pj_M → Prop) (s : Int × Int × Int × pj_M) => w_X0_beginOfLongestWith_7b r0 x1  Q (fun (x2 : Int) (x3 : Int) (x4 : Int) (M : pj_M) => k (x2, x3, x4, M)) s.1 s.2.1 s.2.2.1 s.2.2.2) (x2, x3, x4, M)
def w_X0_beginOfLongestWith (r0 : Nat) (x1 : Int) (M : pj_M) (Q : Int → pj_M → Prop) : Prop :=
  w_X0_beginOfLongestWith_7 r0 x1  Q (-1) 0 0 M
set_option maxRecDepth 20000 in
set_option maxHeartbeats 4000000 in
theorem s_X0_beginOfLongestWith_7b {l : Launch} {g : pj_G} (hg : pj_ph g = true) {r0 : Nat} {x1 : Int} {x2 : Int} {x3 : Int} {x4 : Int} {M : pj_M} {Q : Int → pj_M → Prop}  {k7 : Int → Int → Int → pj_M → Prop} (o0 : pj_ob r0 0)  (hk7 : ∀ (x2 : Int) (x3 : Int) (x4 : Int) (M : pj_M), k7 x2 x3 x4 M → pj_R l g mdX0_beginOfLongestWith pj_T (pj_Zm g mdX0_beginOfLongestWith (pj_qi Q)) pj_NK 0 0 7 [(0, .ref r0), (1, .int (pj_I x1)), (2, .int (pj_I x2)), (3, .int (pj_I x3)), (4, .int (pj_I x4))] [] M) (h : w_X0_beginOfLongestWith_7b r0 x1  Q k7 x2 x3 x4 M) : pj_R l g mdX0_beginOfLongestWith pj_T (pj_Zm g mdX0_beginOfLongestWith (pj_qi Q)) pj_NK 0 0 7 [(0, .ref r0), (1, .int (pj_I x1)), (2, .int (pj_I x2)), (3, .int (pj_I x3)), (4, .int (pj_I x4))] [] M := by
  unfold w_X0_beginOfLongestWith_7b at h
  refine pj_iload 9 4 rfl rfl rfl ?_
  refine pj_iload_n 10 1 rfl rfl rfl rfl ?_
  obtain ⟨q1, h⟩ := h
  obtain ⟨q2, h⟩ := h
  refine pj_icmp_gt 51 13 rfl (by decide) rfl q1 q2 (fun hc => ?_) (fun hc => ?_)
  · replace h := h.1 hc
    refine pj_iload_n 52 2 rfl rfl rfl rfl ?_
    exact pn_iret h rfl rfl
  · replace h := h.2 hc
    refine pj_aload_n 14 0 rfl rfl rfl rfl ?_
    refine pj_iload 16 4 rfl rfl rfl ?_
    refine pn_callVi 19 0 [.int (pj_I x4)] [] o0 (s_X0_greatestFitting hg o0 h) plX0_177 rfl rfl rfl rfl (Nat.le_of_ble_eq_true rfl) (by decide) (fun t4 M3 h => ?_)
    refine pj_istore 21 (ls' := [(0, .ref r0), (1, .int (pj_I x1)), (2, .int (pj_I x2)), (3, .int (pj_I x3)), (4, .int (pj_I x4)), (5, .int (pj_I t4))]) rfl (by decide) rfl rfl ?_
    refine pj_iload 23 5 rfl rfl rfl ?_
    refine pj_iload_n 24 1 rfl rfl rfl rfl ?_
    obtain ⟨q5, h⟩ := h
    obtain ⟨q6, h⟩ := h
    refine pj_icmp_le 45 27 rfl (by decide) rfl q5 q6 (fun hc => ?_) (fun hc => ?_)
    · replace h := h.1 hc
      refine pj_iinc 48 4 (ls' := [(0, .ref r0), (1, .int (pj_I x1)), (2, .int (pj_I x2)), (3, .int (pj_I x3)), (4, .int (pj_I (x4 + 1))), (5, .int (pj_I t4))]) rfl rfl (by decide) rfl rfl ?_
      refine pj_goto 7 rfl (by decide) ?_
      refine pn_sub [0, 1, 2, 3, 4] rfl ?_
      exact hk7 _ _ _ _ h
    · replace h := h.2 hc
      refine pj_iload 29 5 rfl rfl rfl ?_
      refine pj_iload 31 4 rfl rfl rfl ?_
      refine pj_isub 32 rfl rfl ?_
      refine pj_iload_n 33 3 rfl rfl rfl rfl ?_
      obtain ⟨q7, h⟩ := h
      obtain ⟨q8, h⟩ := h
      refine pj_icmp_le 45 36 rfl (by decide) rfl q7 q8 (fun hc => ?_) (fun hc => ?_)
      · replace h := h.1 hc
        refine pj_iinc 48 4 (ls' := [(0, .ref r0), (1, .int (pj_I x1)), (2, .int (pj_I x2)), (3, .int (pj_I x3)), (4, .int (pj_I (x4 + 1))), (5, .int (pj_I t4))]) rfl rfl (by decide) rfl rfl ?_
        refine pj_goto 7 rfl (by decide) ?_
        refine pn_sub [0, 1, 2, 3, 4] rfl ?_
        exact hk7 _ _ _ _ h
      · replace h := h.2 hc
        refine pj_iload 38 5 rfl rfl rfl ?_
        refine pj_iload 40 4 rfl rfl rfl ?_
        refine pj_isub 41 rfl rfl ?_
        refine pj_istore_n 42 (ls' := [(0, .ref r0), (1, .int (pj_I x1)), (2, .int (pj_I x2)), (3, .int (pj_I (t4 - x4))), (4, .int (pj_I x4)), (5, .int (pj_I t4))]) rfl rfl (by decide) rfl rfl ?_
        refine pj_iload 44 4 rfl rfl rfl ?_
        refine pj_istore_n 45 (ls' := [(0, .ref r0), (1, .int (pj_I x1)), (2, .int (pj_I x4)), (3, .int (pj_I (t4 - x4))), (4, .int (pj_I x4)), (5, .int (pj_I t4))]) rfl rfl (by decide) rfl rfl ?_
        refine pj_iinc 48 4 (ls' := [(0, .ref r0), (1, .int (pj_I x1)), (2, .int (pj_I x4)), (3, .int (pj_I (t4 - x4))), (4, .int (pj_I (x4 + 1))), (5, .int (pj_I t4))]) rfl rfl (by decide) rfl rfl ?_
        refine pj_goto 7 rfl (by decide) ?_
        refine pn_sub [0, 1, 2, 3, 4] rfl ?_
        exact hk7 _ _ _ _ h
set_option maxRecDepth 20000 in
set_option maxHeartbeats 4000000 in
theorem s_X0_beginOfLongestWith_7 {l : Launch} {g : pj_G} (hg : pj_ph g = true) {r0 : Nat} {x1 : Int} {x2 : Int} {x3 : Int} {x4 : Int} {M : pj_M} {Q : Int → pj_M → Prop}  (o0 : pj_ob r0 0)  (h : w_X0_beginOfLongestWith_7 r0 x1  Q x2 x3 x4 M) : pj_R l g mdX0_beginOfLongestWith pj_T (pj_Zm g mdX0_beginOfLongestWith (pj_qi Q)) pj_NK 0 0 7 [(0, .ref r0), (1, .int (pj_I x1)), (2, .int (pj_I x2)), (3, .int (pj_I x3)), (4, .int (pj_I x4))] [] M :=
  h (fun s => pj_R l g mdX0_beginOfLongestWith pj_T (pj_Zm g mdX0_beginOfLongestWith (pj_qi Q)) pj_NK 0 0 7 [(0, .ref r0), (1, .int (pj_I x1)), (2, .int (pj_I (s.1))), (3, .int (pj_I (s.2.1))), (4, .int (pj_I (s.2.2.1)))] [] s.2.2.2) (fun s hs => s_X0_beginOfLongestWith_7b hg o0  (fun _ _ _ _ q => q) hs)
set_option maxRecDepth 20000 in
set_option maxHeartbeats 4000000 in
theorem s_X0_beginOfLongestWith {l : Launch} {g : pj_G} (hg : pj_ph g = true) {r0 : Nat} {x1 : Int} {M : pj_M} {Q : Int → pj_M → Prop} (o0 : pj_ob r0 0) (h : w_X0_beginOfLongestWith r0 x1 M Q) : pj_S l g mdX0_beginOfLongestWith [.ref r0, .int (pj_I x1)] pj_NK M (pj_qi Q) := by
  refine pj_ofR (ls := [(0, .ref r0), (1, .int (pj_I x1))]) gcX0_beginOfLongestWith (by decide) rfl (Nat.le_of_ble_eq_true rfl) rfl ?_
  unfold w_X0_beginOfLongestWith at h
  refine pj_iconst 1 rfl rfl ?_
  refine pj_istore_n 2 (ls' := [(0, .ref r0), (1, .int (pj_I x1)), (2, .int (pj_I (-1)))]) rfl rfl (by decide) rfl rfl ?_
  refine pj_iconst 3 rfl rfl ?_
  refine pj_istore_n 4 (ls' := [(0, .ref r0), (1, .int (pj_I x1)), (2, .int (pj_I (-1))), (3, .int (pj_I 0))]) rfl rfl (by decide) rfl rfl ?_
  refine pj_iconst 5 rfl rfl ?_
  refine pj_istore 7 (ls' := [(0, .ref r0), (1, .int (pj_I x1)), (2, .int (pj_I (-1))), (3, .int (pj_I 0)), (4, .int (pj_I 0))]) rfl (by decide) rfl rfl ?_
  refine pn_sub [0, 1, 2, 3, 4] rfl ?_
  exact s_X0_beginOfLongestWith_7 hg o0   h
