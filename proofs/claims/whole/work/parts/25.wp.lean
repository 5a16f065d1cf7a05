def w_X11_wide_41b (r0 : Nat) (x1 : Int) (x2 : Int) (r3 : Nat)  (Q : Int → pj_M → Prop) (k41 : Int → Int → pj_M → Prop) (x4 : Int) (x5 : Int) (M : pj_M) : Prop :=
  (pj_in (x5 + x1)) ∧ (pj_in x2) ∧ ((x2 < (x5 + x1) → Q x4 M) ∧ (¬ x2 < (x5 + x1) → w_X0_leastFitting r3 (x5 + x1) M (fun (t11 : Int) (M10 : pj_M) => (pj_in t11) ∧ (pj_in x5) ∧ ((x5 < t11 → (pj_in (M10 r0 15)) ∧ ((¬ (M10 r0 15) = 0 → k41 x4 (x5 + 1) M10) ∧ ((M10 r0 15) = 0 → (pj_in x5) ∧ w_X11_tellMore r0 x5 M10 (fun (M16 : pj_M) => k41 x4 (x5 + 1) M16)))) ∧ (¬ x5 < t11 → k41 (x4 + 1) (x5 + 1) M10)))))
def w_X11_wide_41 (r0 : Nat) (x1 : Int) (x2 : Int) (r3 : Nat)  (Q : Int → pj_M → Prop) (x4 : Int) (x5 : Int) (M : pj_M) : Prop := pj_lp (fun (k : Int × Int × pj_M → Prop) (s : Int × Int × pj_M) => w_X11_wide_41b r0 x1 x2 r3  Q (fun (x4 : Int) (x5 : Int) (M : pj_M) => k (x4, x5, M)) s.1 s.2.1 s.2.2) (x4, x5, M)
def w_X11_wide (r0 : Nat) (x1 : Int) (M : pj_M) (Q : Int → pj_M → Prop) : Prop :=
  ∀ z1 : Int, z1 = ((M (pj_rf (pj_rf r0 2) 1) 1) + 2) → (pj_in x1) ∧ ((x1 < 1 → Q (-1) M) ∧ (¬ x1 < 1 → (pj_in x1) ∧ (pj_in z1) ∧ ((x1 ≤ z1 → w_X11_lineRead r0 M (fun (t6 : Nat) (M5 : pj_M) => ∀ M7 : pj_M, M7 = pj_up M5 r0 15 0 → w_X11_wide_41 r0 x1 z1 t6  Q 0 0 M7)) ∧ (¬ x1 ≤ z1 → Q (-1) M))))
set_option maxRecDepth 20000 in
set_option maxHeartbeats 4000000 in
theorem s_X11_wide_41b {l : Launch} {g : pj_G} (hg : pj_ph g = true) {r0 : Nat} {x1 : Int} {x2 : Int} {r3 : Nat} {x4 : Int} {x5 : Int} {M : pj_M} {Q : Int → pj_M → Prop}  {k41 : Int → Int → pj_M → Prop} (o0 : pj_ob r0 11) (o3 : pj_ob r3 0)  (hk41 : ∀ (x4 : Int) (x5 : Int) (M : pj_M), k41 x4 x5 M → pj_R l g mdX11_wide pj_T (pj_Zm g mdX11_wide (pj_qi Q)) pj_NK 0 0 41 [(0, .ref r0), (1, .int (pj_I x1)), (2, .int (pj_I x2)), (3, .ref r3), (4, .int (pj_I x4)), (5, .int (pj_I x5))] [] M) (h : w_X11_wide_41b r0 x1 x2 r3  Q k41 x4 x5 M) : pj_R l g mdX11_wide pj_T (pj_Zm g mdX11_wide (pj_qi Q)) pj_NK 0 0 41 [(0, .ref r0), (1, .int (pj_I x1)), (2, .int (pj_I x2)), (3, .ref r3), (4, .int (pj_I x4)), (5, .int (pj_I x5))] [] M := by
  unfold w_X11_wide_41b at h
  refine pj_iload 43 5 rfl rfl rfl ?_
  refine pj_iload_n 44 1 rfl rfl rfl rfl ?_
  refine pj_iadd 45 rfl rfl ?_
  refine pj_iload_n 46 2 rfl rfl rfl rfl ?_
  obtain ⟨q8, h⟩ := h
  obtain ⟨q9, h⟩ := h
  refine pj_icmp_gt 88 49 rfl (by decide) rfl q8 q9 (fun hc => ?_) (fun hc => ?_)
  · replace h := h.1 hc
    refine pj_iload 90 4 rfl rfl rfl ?_
    exact pn_iret h rfl rfl
  · replace h := h.2 hc
    refine pj_aload_n 50 3 rfl rfl rfl rfl ?_
    refine pj_iload 52 5 rfl rfl rfl ?_
    refine pj_iload_n 53 1 rfl rfl rfl rfl ?_
    refine pj_iadd 54 rfl rfl ?_
    refine pn_callVi 57 0 [.int (pj_I (x5 + x1))] [] o3 (s_X0_leastFitting hg o3 h) plX11_192 rfl rfl rfl rfl (Nat.le_of_ble_eq_true rfl) (by decide) (fun t11 M10 h => ?_)
    refine pj_iload 59 5 rfl rfl rfl ?_
    obtain ⟨q12, h⟩ := h
    obtain ⟨q13, h⟩ := h
    refine pj_icmp_gt 68 62 rfl (by decide) rfl q12 q13 (fun hc => ?_) (fun hc => ?_)
    · replace h := h.1 hc
      refine pj_aload_n 69 0 rfl rfl rfl rfl ?_
      refine pn_geti 72 11 15 15 o0 rfl pfX11_272 (Or.inl rfl) rfl rfl ?_
      obtain ⟨q14, h⟩ := h
      refine pj_if_ne 82 75 rfl (by decide) rfl q14  (fun hc => ?_) (fun hc => ?_)
      · replace h := h.1 hc
        refine pj_iinc 85 5 (ls' := [(0, .ref r0), (1, .int (pj_I x1)), (2, .int (pj_I x2)), (3, .ref r3), (4, .int (pj_I x4)), (5, .int (pj_I (x5 + 1)))]) rfl rfl (by decide) rfl rfl ?_
        refine pj_goto 41 rfl (by decide) ?_
        refine pn_sub [0, 1, 2, 3, 4, 5] rfl ?_
        exact hk41 _ _ _ h
      · replace h := h.2 (Classical.not_not.mp hc)
        refine pj_aload_n 76 0 rfl rfl rfl rfl ?_
        refine pj_iload 78 5 rfl rfl rfl ?_
        obtain ⟨q15, h⟩ := h
        refine pj_i2l 79 rfl rfl q15 ?_
        refine pn_callVv 82 11 [.long (pj_L x5)] [] o0 (s_X11_tellMore hg o0 h) plX11_275 rfl rfl rfl rfl (Nat.le_of_ble_eq_true rfl) (by decide) (fun M16 h => ?_)
        refine pj_iinc 85 5 (ls' := [(0, .ref r0), (1, .int (pj_I x1)), (2, .int (pj_I x2)), (3, .ref r3), (4, .int (pj_I x4)), (5, .int (pj_I (x5 + 1)))]) rfl rfl (by decide) rfl rfl ?_
        refine pj_goto 41 rfl (by decide) ?_
        refine pn_sub [0, 1, 2, 3, 4, 5] rfl ?_
        exact hk41 _ _ _ h
    · replace h := h.2 hc
      refine pj_iinc 65 4 (ls' := [(0, .ref r0), (1, .int (pj_I x1)), (2, .int (pj_I x2)), (3, .ref r3), (4, .int (pj_I (x4 + 1))), (5, .int (pj_I x5))]) rfl rfl (by decide) rfl rfl ?_
      refine pj_goto 82 rfl (by decide) ?_
      refine pj_iinc 85 5 (ls' := [(0, .ref r0), (1, .int (pj_I x1)), (2, .int (pj_I x2)), (3, .ref r3), (4, .int (pj_I (x4 + 1))), (5, .int (pj_I (x5 + 1)))]) rfl rfl (by decide) rfl rfl ?_
      refine pj_goto 41 rfl (by decide) ?_
      refine pn_sub [0, 1, 2, 3, 4, 5] rfl ?_
      exact hk41 _ _ _ h
set_option maxRecDepth 20000 in
set_option maxHeartbeats 4000000 in
theorem s_X11_wide_41 {l : Launch} {g : pj_G} (hg : pj_ph g = true) {r0 : Nat} {x1 : Int} {x2 : Int} {r3 : Nat} {x4 : Int} {x5 : Int} {M : pj_M} {Q : Int → pj_M → Prop}  (o0 : pj_ob r0 11) (o3 : pj_ob r3 0)  (h : w_X11_wide_41 r0 x1 x2 r3  Q x4 x5 M) : pj_R l g mdX11_wide pj_T (pj_Zm g mdX11_wide (pj_qi Q)) pj_NK 0 0 41 [(0, .ref r0), (1, .int (pj_I x1)), (2, .int (pj_I x2)), (3, .ref r3), (4, .int (pj_I x4)), (5, .int (pj_I x5))] [] M :=
  h (fun s => pj_R l g mdX11_wide pj_T (pj_Zm g mdX11_wide (pj_qi Q)) pj_NK 0 0 41 [(0, .ref r0), (1, .int (pj_I x1)), (2, .int (pj_I x2)), (3, .ref r3), (4, .int (pj_I (s.1))), (5, .int (pj_I (s.2.1)))] [] s.2.2) (fun s hs => s_X11_wide_41b hg o0 o3  (fun _ _ _ q => q) hs)
set_option maxRecDepth 20000 in
set_option maxHeartbeats 4000000 in
theorem s_X11_wide {l : Launch} {g : pj_G} (hg : pj_ph g = true) {r0 : Nat} {x1 : Int} {M : pj_M} {Q : Int → pj_M → Prop} (o0 : pj_ob r0 11) (h : w_X11_wide r0 x1 M Q) : pj_S l g mdX11_wide [.ref r0, .int (pj_I x1)] pj_NK M (pj_qi Q) := by
  refine pj_ofR (ls := [(0, .ref r0), (1, .int (pj_I x1))]) gcX11_wide (by decide) rfl (Nat.le_of_ble_eq_true rfl) rfl ?_
  unfold w_X11_wide at h
  refine pj_aload_n 1 0 rfl rfl rfl rfl ?_
  refine pn_getr 4 11 2 hg o0 (pr_11_2 o0).2 rfl pfX11_26 rfl rfl ?_
  refine pn_getr 7 1 1 hg (pr_11_2 o0) (pr_1_1 (pr_11_2 o0)).2 rfl pfX11_132 rfl rfl ?_
  refine pn_geti 10 7 1 1 (pr_1_1 (pr_11_2 o0)) rfl pfX11_139 (Or.inl rfl) rfl rfl ?_
  refine pj_iconst 11 rfl rfl ?_
  refine pj_iadd 12 rfl rfl ?_
  refine pn_nm (fun z1 hz1 => ?_)
  replace h := h z1 hz1
  refine pj_istore_n 13 (ls' := [(0, .ref r0), (1, .int (pj_I x1)), (2, .int (pj_I z1))]) rfl rfl (by decide) rfl rfl ?_
  refine pj_iload_n 14 1 rfl rfl rfl rfl ?_
  refine pj_iconst 15 rfl rfl ?_
  obtain ⟨q2, h⟩ := h
  refine pj_icmp_lt 23 18 rfl (by decide) rfl q2 (show pj_in 1 by decide) (fun hc => ?_) (fun hc => ?_)
  · replace h := h.1 hc
    refine pj_iconst 24 rfl rfl ?_
    exact pn_iret h rfl rfl
  · replace h := h.2 hc
    refine pj_iload_n 19 1 rfl rfl rfl rfl ?_
    refine pj_iload_n 20 2 rfl rfl rfl rfl ?_
    obtain ⟨q3, h⟩ := h
    obtain ⟨q4, h⟩ := h
    refine pj_icmp_le 25 23 rfl (by decide) rfl q3 q4 (fun hc => ?_) (fun hc => ?_)
    · replace h := h.1 hc
      refine pj_aload_n 26 0 rfl rfl rfl rfl ?_
      refine pn_callVr 29 11 [] [] o0 (s_X11_lineRead hg o0 h) plX11_188 rfl rfl rfl rfl (Nat.le_of_ble_eq_true rfl) (by decide) (fun t6 M5 ot6 h => ?_)
      refine pj_astore_n 30 (ls' := [(0, .ref r0), (1, .int (pj_I x1)), (2, .int (pj_I z1)), (3, .ref t6)]) rfl rfl (by decide) rfl rfl ?_
      refine pj_aload_n 31 0 rfl rfl rfl rfl ?_
      refine pj_iconst 32 rfl rfl ?_
      refine pn_puti 35 11 15 15 o0  rfl pfX11_272 rfl rfl rfl (fun M7 hM7 => ?_)
      replace h := h M7 hM7
      refine pj_iconst 36 rfl rfl ?_
      refine pj_istore 38 (ls' := [(0, .ref r0), (1, .int (pj_I x1)), (2, .int (pj_I z1)), (3, .ref t6), (4, .int (pj_I 0))]) rfl (by decide) rfl rfl ?_
      refine pj_iconst 39 rfl rfl ?_
      refine pj_istore 41 (ls' := [(0, .ref r0), (1, .int (pj_I x1)), (2, .int (pj_I z1)), (3, .ref t6), (4, .int (pj_I 0)), (5, .int (pj_I 0))]) rfl (by decide) rfl rfl ?_
      refine pn_sub [0, 1, 2, 3, 4, 5] rfl ?_
      exact s_X11_wide_41 hg o0 ot6   h
    · replace h := h.2 hc
      refine pj_iconst 24 rfl rfl ?_
      exact pn_iret h rfl rfl
def w_X11_capital (r0 : Nat) (x1 : Int) (x2 : Int) (M : pj_M) (Q : Int → pj_M → Prop) : Prop :=
  (pj_in x2) ∧ ((x2 < 0 → Q (-1) M) ∧ (¬ x2 < 0 → (pj_in x2) ∧ ((7 < x2 → Q (-1) M) ∧ (¬ 7 < x2 → w_X4_has (pj_rf (pj_rf r0 2) 0) x1 M (fun (t4 : Int) (M3 : pj_M) => (pj_in t4) ∧ ((¬ t4 = 0 → w_X0_learn (pj_rf r0 8) (pj_rf (pj_rf r0 2) 0) 0 M3 (fun (M6 : pj_M) => (pj_in x2) ∧ ((¬ x2 = 0 → w_X3_tell (pj_rf (pj_rf r0 8) 1) x1 x2 M6 (fun (t10 : Int) (M9 : pj_M) => Q t10 M9)) ∧ (x2 = 0 → w_X4_alternativesOf (pj_rf (pj_rf r0 2) 0) x1 M6 (fun (t12 : Int) (M11 : pj_M) => Q t12 M11))))) ∧ (t4 = 0 → Q (-1) M3)))))))
set_option maxRecDepth 20000 in
set_option maxHeartbeats 4000000 in
theorem s_X11_capital {l : Launch} {g : pj_G} (hg : pj_ph g = true) {r0 : Nat} {x1 : Int} {x2 : Int} {M : pj_M} {Q : Int → pj_M → Prop} (o0 : pj_ob r0 11) (h : w_X11_capital r0 x1 x2 M Q) : pj_S l g mdX11_capital [.ref r0, .int (pj_I x1), .int (pj_I x2)] pj_NK M (pj_qi Q) := by
  refine pj_ofR (ls := [(0, .ref r0), (1, .int (pj_I x1)), (2, .int (pj_I x2))]) gcX11_capital (by decide) rfl (Nat.le_of_ble_eq_true rfl) rfl ?_
  unfold w_X11_capital at h
  refine pj_iload_n 1 2 rfl rfl rfl rfl ?_
  obtain ⟨q1, h⟩ := h
  refine pj_if_lt 24 4 rfl (by decide) rfl q1  (fun hc => ?_) (fun hc => ?_)
  · replace h := h.1 hc
    refine pj_iconst 25 rfl rfl ?_
    exact pn_iret h rfl rfl
  · replace h := h.2 hc
    refine pj_iload_n 5 2 rfl rfl rfl rfl ?_
    refine pj_bipush 7 rfl (by decide) rfl ?_
    obtain ⟨q2, h⟩ := h
    refine pj_icmp_gt 24 10 rfl (by decide) rfl q2 (show pj_in 7 by decide) (fun hc => ?_) (fun hc => ?_)
    · replace h := h.1 hc
      refine pj_iconst 25 rfl rfl ?_
      exact pn_iret h rfl rfl
    · replace h := h.2 hc
      refine pj_aload_n 11 0 rfl rfl rfl rfl ?_
      refine pn_getr 14 11 2 hg o0 (pr_11_2 o0).2 rfl pfX11_26 rfl rfl ?_
      refine pn_getr 17 1 0 hg (pr_11_2 o0) (pr_1_0 (pr_11_2 o0)).2 rfl pfX11_115 rfl rfl ?_
      refine pj_iload_n 18 1 rfl rfl rfl rfl ?_
      refine pn_callVi 21 4 [.int (pj_I x1)] [] (pr_1_0 (pr_11_2 o0)) (s_X4_has hg (pr_1_0 (pr_11_2 o0)) h) plX11_212 rfl rfl rfl rfl (Nat.le_of_ble_eq_true rfl) (by decide) (fun t4 M3 h => ?_)
      obtain ⟨q5, h⟩ := h
      refine pj_if_ne 26 24 rfl (by decide) rfl q5  (fun hc => ?_) (fun hc => ?_)
      · replace h := h.1 hc
        refine pj_aload_n 27 0 rfl rfl rfl rfl ?_
        refine pn_getr 30 11 8 hg o0 (pr_11_8 o0).2 rfl pfX11_58 rfl rfl ?_
        refine pj_aload_n 31 0 rfl rfl rfl rfl ?_
        refine pn_getr 34 11 2 hg o0 (pr_11_2 o0).2 rfl pfX11_26 rfl rfl ?_
        refine pn_getr 37 1 0 hg (pr_11_2 o0) (pr_1_0 (pr_11_2 o0)).2 rfl pfX11_115 rfl rfl ?_
        refine pj_iconst 38 rfl rfl ?_
        refine pn_callVv 41 0 [.ref (pj_rf (pj_rf r0 2) 0), .int (pj_I 0)] [] (pr_11_8 o0) (s_X0_learn hg (pr_11_8 o0) (pr_1_0 (pr_11_2 o0)) h) plX11_285 rfl rfl rfl rfl (Nat.le_of_ble_eq_true rfl) (by decide) (fun M6 h => ?_)
        refine pj_iload_n 42 2 rfl rfl rfl rfl ?_
        obtain ⟨q8, h⟩ := h
        refine pj_if_ne 59 45 rfl (by decide) rfl q8  (fun hc => ?_) (fun hc => ?_)
        · replace h := h.1 hc
          refine pj_aload_n 60 0 rfl rfl rfl rfl ?_
          refine pn_getr 63 11 8 hg o0 (pr_11_8 o0).2 rfl pfX11_58 rfl rfl ?_
          refine pn_getr 66 0 1 hg (pr_11_8 o0) (pr_0_1 (pr_11_8 o0)).2 rfl pfX11_292 rfl rfl ?_
          refine pj_iload_n 67 1 rfl rfl rfl rfl ?_
          refine pj_iload_n 68 2 rfl rfl rfl rfl ?_
          refine pn_callVi 71 3 [.int (pj_I x1), .int (pj_I x2)] [] (pr_0_1 (pr_11_8 o0)) (s_X3_tell hg (pr_0_1 (pr_11_8 o0)) h) plX11_296 rfl rfl rfl rfl (Nat.le_of_ble_eq_true rfl) (by decide) (fun t10 M9 h => ?_)
          exact pn_iret h rfl rfl
        · replace h := h.2 (Classical.not_not.mp hc)
          refine pj_aload_n 46 0 rfl rfl rfl rfl ?_
          refine pn_getr 49 11 2 hg o0 (pr_11_2 o0).2 rfl pfX11_26 rfl rfl ?_
          refine pn_getr 52 1 0 hg (pr_11_2 o0) (pr_1_0 (pr_11_2 o0)).2 rfl pfX11_115 rfl rfl ?_
          refine pj_iload_n 53 1 rfl rfl rfl rfl ?_
          refine pn_callVi 56 4 [.int (pj_I x1)] [] (pr_1_0 (pr_11_2 o0)) (s_X4_alternativesOf hg (pr_1_0 (pr_11_2 o0)) h) plX11_289 rfl rfl rfl rfl (Nat.le_of_ble_eq_true rfl) (by decide) (fun t12 M11 h => ?_)
          refine pj_goto 71 rfl (by decide) ?_
          exact pn_iret h rfl rfl
      · replace h := h.2 (Classical.not_not.mp hc)
        refine pj_iconst 25 rfl rfl ?_
        exact pn_iret h rfl rfl
def w_X11_tellWord_2b (r0 : Nat) (x1 : Int)  (Q : pj_M → Prop) (k2 : Int → pj_M → Prop) (x2 : Int) (M : pj_M) : Prop :=
  (pj_in x2) ∧ (pj_in x1) ∧ ((x1 ≤ x2 → Q M) ∧ (¬ x1 ≤ x2 → ((0 : Int) ≤ x2 ∧ x2 < 5) ∧ (pj_in (M (pj_rf (pj_rf r0 13) 2) x2)) ∧ w_X11_tellMore r0 (M (pj_rf (pj_rf r0 13) 2) x2) M (fun (M5 : pj_M) => k2 (x2 + 1) M5)))
def w_X11_tellWord_2 (r0 : Nat) (x1 : Int)  (Q : pj_M → Prop) (x2 : Int) (M : pj_M) : Prop := pj_lp (fun (k : Int × pj_M → Prop) (s : Int × pj_M) => w_X11_tellWord_2b r0 x1  Q (fun (x2 : Int) (M : pj_M) => k (x2, M)) s.1 s.2) (x2, M)
def w_X11_tellWord (r0 : Nat) (x1 : Int) (M : pj_M) (Q : pj_M → Prop) : Prop :=
  w_X11_tellWord_2 r0 x1  Q 0 M
set_option maxRecDepth 20000 in
set_option maxHeartbeats 4000000 in
theorem s_X11_tellWord_2b {l : Launch} {g : pj_G} (hg : pj_ph g = true) {r0 : Nat} {x1 : Int} {x2 : Int} {M : pj_M} {Q : pj_M → Prop}  {k2 : Int → pj_M → Prop} (o0 : pj_ob r0 11)  (hk2 : ∀ (x2 : Int) (M : pj_M), k2 x2 M → pj_R l g mdX11_tellWord pj_T (pj_Zm g mdX11_tellWord (pj_qv Q)) pj_NK 0 0 2 [(0, .ref r0), (1, .int (pj_I x1)), (2, .int (pj_I x2))] [] M) (h : w_X11_tellWord_2b r0 x1  Q k2 x2 M) : pj_R l g mdX11_tellWord pj_T (pj_Zm g mdX11_tellWord (pj_qv Q)) pj_NK 0 0 2 [(0, .ref r0), (1, .int (pj_I x1)), (2, .int (pj_I x2))] [] M := by
  unfold w_X11_tellWord_2b at h
  refine pj_iload_n 3 2 rfl rfl rfl rfl ?_
  refine pj_iload_n 4 1 rfl rfl rfl rfl ?_
  obtain ⟨q1, h⟩ := h
  obtain ⟨q2, h⟩ := h
  refine pj_icmp_ge 27 7 rfl (by decide) rfl q1 q2 (fun hc => ?_) (fun hc => ?_)
  · replace h := h.1 hc
    exact pn_vret h rfl rfl
  · replace h := h.2 hc
    refine pj_aload_n 8 0 rfl rfl rfl rfl ?_
    refine pj_aload_n 9 0 rfl rfl rfl rfl ?_
    refine pn_getr 12 11 13 hg o0 (pr_11_13 o0).2 rfl pfX11_85 rfl rfl ?_
    refine pn_getr 15 10 2 hg (pr_11_13 o0) (pr_10_2 (pr_11_13 o0)).2 rfl pfX11_325 rfl rfl ?_
    refine pj_iload_n 16 2 rfl rfl rfl rfl ?_
    obtain ⟨q3, h⟩ := h
    refine pn_iald 17 5 (pr_10_2 (pr_11_13 o0)) q3 rfl rfl ?_
    obtain ⟨q4, h⟩ := h
    refine pj_i2l 18 rfl rfl q4 ?_
    refine pn_callVv 21 11 [.long (pj_L (M (pj_rf (pj_rf r0 13) 2) x2))] [] o0 (s_X11_tellMore hg o0 h) plX11_275 rfl rfl rfl rfl (Nat.le_of_ble_eq_true rfl) (by decide) (fun M5 h => ?_)
    refine pj_iinc 24 2 (ls' := [(0, .ref r0), (1, .int (pj_I x1)), (2, .int (pj_I (x2 + 1)))]) rfl rfl (by decide) rfl rfl ?_
    refine pj_goto 2 rfl (by decide) ?_
    refine pn_sub [0, 1, 2] rfl ?_
    exact hk2 _ _ h
set_option maxRecDepth 20000 in
set_option maxHeartbeats 4000000 in
theorem s_X11_tellWord_2 {l : Launch} {g : pj_G} (hg : pj_ph g = true) {r0 : Nat} {x1 : Int} {x2 : Int} {M : pj_M} {Q : pj_M → Prop}  (o0 : pj_ob r0 11)  (h : w_X11_tellWord_2 r0 x1  Q x2 M) : pj_R l g mdX11_tellWord pj_T (pj_Zm g mdX11_tellWord (pj_qv Q)) pj_NK 0 0 2 [(0, .ref r0), (1, .int (pj_I x1)), (2, .int (pj_I x2))] [] M :=
  h (fun s => pj_R l g mdX11_tellWord pj_T (pj_Zm g mdX11_tellWord (pj_qv Q)) pj_NK 0 0 2 [(0, .ref r0), (1, .int (pj_I x1)), (2, .int (pj_I (s.1)))] [] s.2) (fun s hs => s_X11_tellWord_2b hg o0  (fun _ _ q => q) hs)
set_option maxRecDepth 20000 in
set_option maxHeartbeats 4000000 in
theorem s_X11_tellWord {l : Launch} {g : pj_G} (hg : pj_ph g = true) {r0 : Nat} {x1 : Int} {M : pj_M} {Q : pj_M → Prop} (o0 : pj_ob r0 11) (h : w_X11_tellWord r0 x1 M Q) : pj_S l g mdX11_tellWord [.ref r0, .int (pj_I x1)] pj_NK M (pj_qv Q) := by
  refine pj_ofR (ls := [(0, .ref r0), (1, .int (pj_I x1))]) gcX11_tellWord (by decide) rfl (Nat.le_of_ble_eq_true rfl) rfl ?_
  unfold w_X11_tellWord at h
  refine pj_iconst 1 rfl rfl ?_
  refine pj_istore_n 2 (ls' := [(0, .ref r0), (1, .int (pj_I x1)), (2, .int (pj_I 0))]) rfl rfl (by decide) rfl rfl ?_
  refine pn_sub [0, 1, 2] rfl ?_
  exact s_X11_tellWord_2 hg o0   h
def w_X11_sentences_109 (r0 : Nat) (x1 : Int) (x2 : Int) (x3 : Int) (x4 : Int) (k69 : Int → Int → pj_M → Prop) (Q : Int → pj_M → Prop) (M : pj_M) : Prop :=
  k69 (x3 + 1) (x4 + 1) M
def w_X11_sentences_69b (r0 : Nat) (x1 : Int) (x2 : Int)  (Q : Int → pj_M → Prop) (k69 : Int → Int → pj_M → Prop) (x3 : Int) (x4 : Int) (M : pj_M) : Prop :=
  (pj_in x4) ∧ (pj_in x2) ∧ ((x2 ≤ x4 → Q x3 M) ∧ (¬ x2 ≤ x4 → w_X10_spell (pj_rf r0 13) x4 x1 M (fun (M15 : pj_M) => w_X0_isSentence (pj_rf r0 9) (pj_rf r0 13) x1 M15 (fun (t18 : Int) (M17 : pj_M) => (pj_in t18) ∧ ((t18 = 0 → k69 x3 (x4 + 1) M17) ∧ (¬ t18 = 0 → (pj_in x3) ∧ ((¬ x3 = 0 → w_X11_sentences_109 r0 x1 x2 x3 x4 k69 Q M17) ∧ (x3 = 0 → w_X11_tellWord r0 x1 M17 (fun (M21 : pj_M) => w_X11_sentences_109 r0 x1 x2 x3 x4 k69 Q M21)))))))))
def w_X11_sentences_69 (r0 : Nat) (x1 : Int) (x2 : Int)  (Q : Int → pj_M → Prop) (x3 : Int) (x4 : Int) (M : pj_M) : Prop := pj_lp (fun (k : Int × Int × pj_M → Prop) (s : Int × Int × pj_M) => w_X11_sentences_69b r0 x1 x2  Q (fun (x3 : Int) (x4 : Int) (M : pj_M) => k (x3, x4, M)) s.1 s.2.1 s.2.2) (x3, x4, M)
def w_X11_sentences (r0 : Nat) (x1 : Int) (M : pj_M) (Q : Int → pj_M → Prop) : Prop :=
  (pj_in x1) ∧ ((x1 < 0 → Q (-1) M) ∧ (¬ x1 < 0 → (pj_in x1) ∧ ((x1 ≤ 5 → w_X0_learn (pj_rf r0 9) (pj_rf (pj_rf r0 2) 0) 0 M (fun (M3 : pj_M) => w_X0_signsOfSentences (pj_rf r0 9) M3 (fun (t6 : Int) (M5 : pj_M) => w_X10_useLetters (pj_rf r0 13) t6 M5 (fun (M7 : pj_M) => w_X10_howMany (pj_rf r0 13) x1 M7 (fun (t10 : Int) (M9 : pj_M) => (pj_in t10) ∧ ((t10 ≤ 1000 → ∀ M12 : pj_M, M12 = pj_up M9 r0 15 0 → w_X11_sentences_69 r0 x1 t10  Q 0 0 M12) ∧ (¬ t10 ≤ 1000 → Q (-2) M9))))))) ∧ (¬ x1 ≤ 5 → Q (-1) M))))
set_option maxRecDepth 20000 in
set_option maxHeartbeats 4000000 in
theorem s_X11_sentences_109 {l : Launch} {g : pj_G} (hg : pj_ph g = true) {r0 : Nat} {x1 : Int} {x2 : Int} {x3 : Int} {x4 : Int} {M : pj_M} {Q : Int → pj_M → Prop} {k69 : Int → Int → pj_M → Prop} (o0 : pj_ob r0 11) (hk69 : ∀ (x3 : Int) (x4 : Int) (M : pj_M), k69 x3 x4 M → pj_R l g mdX11_sentences pj_T (pj_Zm g mdX11_sentences (pj_qi Q)) pj_NK 0 0 69 [(0, .ref r0), (1, .int (pj_I x1)), (2, .int (pj_I x2)), (3, .int (pj_I x3)), (4, .int (pj_I x4))] [] M) (h : w_X11_sentences_109 r0 x1 x2 x3 x4 k69 Q M) : pj_R l g mdX11_sentences pj_T (pj_Zm g mdX11_sentences (pj_qi Q)) pj_NK 0 0 109 [(0, .ref r0), (1, .int (pj_I x1)), (2, .int (pj_I x2)), (3, .int (pj_I x3)), (4, .int (pj_I x4))] [] M := by
  unfold w_X11_sentences_109 at h
  refine pj_iinc 112 3 (ls' := [(0, .ref r0), (1, .int (pj_I x1)), (2, .int (pj_I x2)), (3, .int (pj_I (x3 + 1))), (4, .int (pj_I x4))]) rfl rfl (by decide) rfl rfl ?_
  refine pj_iinc 115 4 (ls' := [(0, .ref r0), (1, .int (pj_I x1)), (2, .int (pj_I x2)), (3, .int (pj_I (x3 + 1))), (4, .int (pj_I (x4 + 1)))]) rfl rfl (by decide) rfl rfl ?_
  refine pj_goto 69 rfl (by decide) ?_
  refine pn_sub [0, 1, 2, 3, 4] rfl ?_
  exact hk69 _ _ _ h
set_option maxRecDepth 20000 in
set_option maxHeartbeats 4000000 in
theorem s_X11_sentences_69b {l : Launch} {g : pj_G} (hg : pj_ph g = true) {r0 : Nat} {x1 : Int} {x2 : Int} {x3 : Int} {x4 : Int} {M : pj_M} {Q : Int → pj_M → Prop}  {k69 : Int → Int → pj_M → Prop} (o0 : pj_ob r0 11)  (hk69 : ∀ (x3 : Int) (x4 : Int) (M : pj_M), k69 x3 x4 M → pj_R l g mdX11_sentences pj_T (pj_Zm g mdX11_sentences (pj_qi Q)) pj_NK 0 0 69 [(0, .ref r0), (1, .int (pj_I x1)), (2, .int (pj_I x2)), (3, .int (pj_I x3)), (4, .int (pj_I x4))] [] M) (h : w_X11_sentences_69b r0 x1 x2  Q k69 x3 x4 M) : pj_R l g mdX11_sentences pj_T (pj_Zm g mdX11_sentences (pj_qi Q)) pj_NK 0 0 69 [(0, .ref r0), (1, .int (pj_I x1)), (2, .int (pj_I x2)), (3, .int (pj_I x3)), (4, .int (pj_I x4))] [] M := by
  unfold w_X11_sentences_69b at h
  refine pj_iload 71 4 rfl rfl rfl ?_
  refine pj_iload_n 72 2 rfl rfl rfl rfl ?_
  obtain ⟨q13, h⟩ := h
  obtain ⟨q14, h⟩ := h
  refine pj_icmp_ge 118 75 rfl (by decide) rfl q13 q14 (fun hc => ?_) (fun hc => ?_)
  · replace h := h.1 hc
    refine pj_iload_n 119 3 rfl rfl rfl rfl ?_
    exact pn_iret h rfl rfl
  · replace h := h.2 hc
    refine pj_aload_n 76 0 rfl rfl rfl rfl ?_
    refine pn_getr 79 11 13 hg o0 (pr_11_13 o0).2 rfl pfX11_85 rfl rfl ?_
    refine pj_iload 81 4 rfl rfl rfl ?_
    refine pj_iload_n 82 1 rfl rfl rfl rfl ?_
    refine pn_callVv 85 10 [.int (pj_I x4), .int (pj_I x1)] [] (pr_11_13 o0) (s_X10_spell hg (pr_11_13 o0) h) plX11_311 rfl rfl rfl rfl (Nat.le_of_ble_eq_true rfl) (by decide) (fun M15 h => ?_)
    refine pj_aload_n 86 0 rfl rfl rfl rfl ?_
    refine pn_getr 89 11 9 hg o0 (pr_11_9 o0).2 rfl pfX11_62 rfl rfl ?_
    refine pj_aload_n 90 0 rfl rfl rfl rfl ?_
    refine pn_getr 93 11 13 hg o0 (pr_11_13 o0).2 rfl pfX11_85 rfl rfl ?_
    refine pj_iload_n 94 1 rfl rfl rfl rfl ?_
    refine pn_callVi 97 0 [.ref (pj_rf r0 13), .int (pj_I x1)] [] (pr_11_9 o0) (s_X0_isSentence hg (pr_11_9 o0) (pr_11_13 o0) h) plX11_315 rfl rfl rfl rfl (Nat.le_of_ble_eq_true rfl) (by decide) (fun t18 M17 h => ?_)
    obtain ⟨q19, h⟩ := h
    refine pj_if_eq 112 100 rfl (by decide) rfl q19  (fun hc => ?_) (fun hc => ?_)
    · replace h := h.1 hc
      refine pj_iinc 115 4 (ls' := [(0, .ref r0), (1, .int (pj_I x1)), (2, .int (pj_I x2)), (3, .int (pj_I x3)), (4, .int (pj_I (x4 + 1)))]) rfl rfl (by decide) rfl rfl ?_
      refine pj_goto 69 rfl (by decide) ?_
      refine pn_sub [0, 1, 2, 3, 4] rfl ?_
      exact hk69 _ _ _ h
    · replace h := h.2 hc
      refine pj_iload_n 101 3 rfl rfl rfl rfl ?_
      obtain ⟨q20, h⟩ := h
      refine pj_if_ne 109 104 rfl (by decide) rfl q20  (fun hc => ?_) (fun hc => ?_)
      · replace h := h.1 hc
        refine pn_sub [0, 1, 2, 3, 4] rfl ?_
        exact s_X11_sentences_109 hg o0  hk69 h
      · replace h := h.2 (Classical.not_not.mp hc)
        refine pj_aload_n 105 0 rfl rfl rfl rfl ?_
        refine pj_iload_n 106 1 rfl rfl rfl rfl ?_
        refine pn_callVv 109 11 [.int (pj_I x1)] [] o0 (s_X11_tellWord hg o0 h) plX11_319 rfl rfl rfl rfl (Nat.le_of_ble_eq_true rfl) (by decide) (fun M21 h => ?_)
        refine pn_sub [0, 1, 2, 3, 4] rfl ?_
        exact s_X11_sentences_109 hg o0  hk69 h
set_option maxRecDepth 20000 in
set_option maxHeartbeats 4000000 in
theorem s_X11_sentences_69 {l : Launch} {g : pj_G} (hg : pj_ph g = true) {r0 : Nat} {x1 : Int} {x2 : Int} {x3 : Int} {x4 : Int} {M : pj_M} {Q : Int → pj_M → Prop}  (o0 : pj_ob r0 11)  (h : w_X11_sentences_69 r0 x1 x2  Q x3 x4 M) : pj_R l g mdX11_sentences pj_T (pj_Zm g mdX11_sentences (pj_qi Q)) pj_NK 0 0 69 [(0, .ref r0), (1, .int (pj_I x1)), (2, .int (pj_I x2)), (3, .int (pj_I x3)), (4, .int (pj_I x4))] [] M :=
  h (fun s => pj_R l g mdX11_sentences pj_T (pj_Zm g mdX11_sentences (pj_qi Q)) pj_NK 0 0 69 [(0, .ref r0), (1, .int (pj_I x1)), (2, .int (pj_I x2)), (3, .int (pj_I (s.1))), (4, .int (pj_I (s.2.1)))] [] s.2.2) (fun s hs => s_X11_sentences_69b hg o0  (fun _ _ _ q => q) hs)
set_option maxRecDepth 20000 in
set_option maxHeartbeats 4000000 in
theorem s_X11_sentences {l : Launch} {g : pj_G} (hg : pj_ph g = true) {r0 : Nat} {x1 : Int} {M : pj_M} {Q : Int → pj_M → Prop} (o0 : pj_ob r0 11) (h : w_X11_sentences r0 x1 M Q) : pj_S l g mdX11_sentences [.ref r0, .int (pj_I x1)] pj_NK M (pj_qi Q) := by
  refine pj_ofR (ls := [(0, .ref r0), (1, .int (pj_I x1))]) gcX11_sentences (by decide) rfl (Nat.le_of_ble_eq_true rfl) rfl ?_
  unfold w_X11_sentences at h
  refine pj_iload_n 1 1 rfl rfl rfl rfl ?_
  obtain ⟨q1, h⟩ := h
  refine pj_if_lt 9 4 rfl (by decide) rfl q1  (fun hc => ?_) (fun hc => ?_)
  · replace h := h.1 hc
    refine pj_iconst 10 rfl rfl ?_
    exact pn_iret h rfl rfl
  · replace h := h.2 hc
    refine pj_iload_n 5 1 rfl rfl rfl rfl ?_
    refine pj_iconst 6 rfl rfl ?_
    obtain ⟨q2, h⟩ := h
    refine pj_icmp_le 11 9 rfl (by decide) rfl q2 (show pj_in 5 by decide) (fun hc => ?_) (fun hc => ?_)
    · replace h := h.1 hc
      refine pj_aload_n 12 0 rfl rfl rfl rfl ?_
      refine pn_getr 15 11 9 hg o0 (pr_11_9 o0).2 rfl pfX11_62 rfl rfl ?_
      refine pj_aload_n 16 0 rfl rfl rfl rfl ?_
      refine pn_getr 19 11 2 hg o0 (pr_11_2 o0).2 rfl pfX11_26 rfl rfl ?_
      refine pn_getr 22 1 0 hg (pr_11_2 o0) (pr_1_0 (pr_11_2 o0)).2 rfl pfX11_115 rfl rfl ?_
      refine pj_iconst 23 rfl rfl ?_
      refine pn_callVv 26 0 [.ref (pj_rf (pj_rf r0 2) 0), .int (pj_I 0)] [] (pr_11_9 o0) (s_X0_learn hg (pr_11_9 o0) (pr_1_0 (pr_11_2 o0)) h) plX11_285 rfl rfl rfl rfl (Nat.le_of_ble_eq_true rfl) (by decide) (fun M3 h => ?_)
      refine pj_aload_n 27 0 rfl rfl rfl rfl ?_
      refine pn_getr 30 11 13 hg o0 (pr_11_13 o0).2 rfl pfX11_85 rfl rfl ?_
      refine pj_aload_n 31 0 rfl rfl rfl rfl ?_
      refine pn_getr 34 11 9 hg o0 (pr_11_9 o0).2 rfl pfX11_62 rfl rfl ?_
      refine pn_callVi 37 0 [] [.ref (pj_rf r0 13)] (pr_11_9 o0) (s_X0_signsOfSentences hg (pr_11_9 o0) h) plX11_301 rfl rfl rfl rfl (Nat.le_of_ble_eq_true rfl) (by decide) (fun t6 M5 h => ?_)
      refine pn_callVv 40 10 [.int (pj_I t6)] [] (pr_11_13 o0) (s_X10_useLetters hg (pr_11_13 o0) h) plX11_304 rfl rfl rfl rfl (Nat.le_of_ble_eq_true rfl) (by decide) (fun M7 h => ?_)
      refine pj_aload_n 41 0 rfl rfl rfl rfl ?_
      refine pn_getr 44 11 13 hg o0 (pr_11_13 o0).2 rfl pfX11_85 rfl rfl ?_
      refine pj_iload_n 45 1 rfl rfl rfl rfl ?_
      refine pn_callVi 48 10 [.int (pj_I x1)] [] (pr_11_13 o0) (s_X10_howMany hg (pr_11_13 o0) h) plX11_308 rfl rfl rfl rfl (Nat.le_of_ble_eq_true rfl) (by decide) (fun t10 M9 h => ?_)
      refine pj_istore_n 49 (ls' := [(0, .ref r0), (1, .int (pj_I x1)), (2, .int (pj_I t10))]) rfl rfl (by decide) rfl rfl ?_
      refine pj_iload_n 50 2 rfl rfl rfl rfl ?_
      refine pj_sipush 53 rfl (by decide) rfl ?_
      obtain ⟨q11, h⟩ := h
      refine pj_icmp_le 59 56 rfl (by decide) rfl q11 (show pj_in 1000 by decide) (fun hc => ?_) (fun hc => ?_)
      · replace h := h.1 hc
        refine pj_iconst 60 rfl rfl ?_
        refine pj_istore_n 61 (ls' := [(0, .ref r0), (1, .int (pj_I x1)), (2, .int (pj_I t10)), (3, .int (pj_I 0))]) rfl rfl (by decide) rfl rfl ?_
        refine pj_aload_n 62 0 rfl rfl rfl rfl ?_
        refine pj_iconst 63 rfl rfl ?_
        refine pn_puti 66 11 15 15 o0  rfl pfX11_272 rfl rfl rfl (fun M12 hM12 => ?_)
        replace h := h M12 hM12
        refine pj_iconst 67 rfl rfl ?_
        refine pj_istore 69 (ls' := [(0, .ref r0), (1, .int (pj_I x1)), (2, .int (pj_I t10)), (3, .int (pj_I 0)), (4, .int (pj_I 0))]) rfl (by decide) rfl rfl ?_
        refine pn_sub [0, 1, 2, 3, 4] rfl ?_
        exact s_X11_sentences_69 hg o0   h
      · replace h := h.2 hc
        refine pj_bipush 58 rfl (by decide) rfl ?_
        exact pn_iret h rfl rfl
    · replace h := h.2 hc
      refine pj_iconst 10 rfl rfl ?_
      exact pn_iret h rfl rfl
def w_X11_findApart_77 (u0 : Nat) (y1 : Int)  (Q : Int → pj_M → Prop) (M : pj_M) : Prop :=
  w_X11_tellMore u0 y1 M (fun (M17 : pj_M) => Q 1 M17)
def w_X11_findApart_11b (r0 : Nat) (x1 : Int) (x2 : Int)  (Q : Int → pj_M → Prop) (k11 : Int → pj_M → Prop) (x3 : Int) (M : pj_M) : Prop :=
  (pj_in x3) ∧ (pj_in x2) ∧ ((x2 ≤ x3 → Q 0 M) ∧ (¬ x2 ≤ x3 → w_X10_spell (pj_rf r0 13) x3 x1 M (fun (M5 : pj_M) => w_X0_isSentence (pj_rf r0 9) (pj_rf r0 13) x1 M5 (fun (t8 : Int) (M7 : pj_M) => w_X0_isSentence (pj_rf r0 10) (pj_rf r0 13) x1 M7 (fun (t10 : Int) (M9 : pj_M) => (pj_in t8) ∧ (pj_in t10) ∧ ((t8 = t10 → k11 (x3 + 1) M9) ∧ (¬ t8 = t10 → ∀ M13 : pj_M, M13 = pj_up M9 r0 15 0 → w_X11_tellWord r0 x1 M13 (fun (M14 : pj_M) => (pj_in t8) ∧ ((t8 = 0 → w_X11_findApart_77 r0 0  Q M14) ∧ (¬ t8 = 0 → w_X11_findApart_77 r0 1  Q M14))))))))))
def w_X11_findApart_11 (r0 : Nat) (x1 : Int) (x2 : Int)  (Q : Int → pj_M → Prop) (x3 : Int) (M : pj_M) : Prop := pj_lp (fun (k : Int × pj_M → Prop) (s : Int × pj_M) => w_X11_findApart_11b r0 x1 x2  Q (fun (x3 : Int) (M : pj_M) => k (x3, M)) s.1 s.2) (x3, M)
def w_X11_findApart (r0 : Nat) (x1 : Int) (M : pj_M) (Q : Int → pj_M → Prop) : Prop :=
  w_X10_howMany (pj_rf r0 13) x1 M (fun (t2 : Int) (M1 : pj_M) => w_X11_findApart_11 r0 x1 t2  Q 0 M1)
set_option maxRecDepth 20000 in
set_option maxHeartbeats 4000000 in
theorem s_X11_findApart_77 {l : Launch} {g : pj_G} (hg : pj_ph g = true) {u0 : Nat} {y1 : Int} {M : pj_M} {Q : Int → pj_M → Prop}  (ou0 : pj_ob u0 11)  (h : w_X11_findApart_77 u0 y1  Q M) : pj_R l g mdX11_findApart pj_T (pj_Zm g mdX11_findApart (pj_qi Q)) pj_NK 0 0 77 [] [.long (pj_L y1), .ref u0] M := by
  unfold w_X11_findApart_77 at h
  refine pn_callVv 80 11 [.long (pj_L y1)] [] ou0 (s_X11_tellMore hg ou0 h) plX11_275 rfl rfl rfl rfl (Nat.le_of_ble_eq_true rfl) (by decide) (fun M17 h => ?_)
  refine pj_iconst 81 rfl rfl ?_
  exact pn_zret (by decide) h rfl rfl
set_option maxRecDepth 20000 in
set_option maxHeartbeats 4000000 in
theorem s_X11_findApart_11b {l : Launch} {g : pj_G} (hg : pj_ph g = true) {r0 : Nat} {x1 : Int} {x2 : Int} {x3 : Int} {M : pj_M} {Q : Int → pj_M → Prop}  {k11 : Int → pj_M → Prop} (o0 : pj_ob r0 11)  (hk11 : ∀ (x3 : Int) (M : pj_M), k11 x3 M → pj_R l g mdX11_findApart pj_T (pj_Zm g mdX11_findApart (pj_qi Q)) pj_NK 0 0 11 [(0, .ref r0), (1, .int (pj_I x1)), (2, .int (pj_I x2)), (3, .int (pj_I x3))] [] M) (h : w_X11_findApart_11b r0 x1 x2  Q k11 x3 M) : pj_R l g mdX11_findApart pj_T (pj_Zm g mdX11_findApart (pj_qi Q)) pj_NK 0 0 11 [(0, .ref r0), (1, .int (pj_I x1)), (2, .int (pj_I x2)), (3, .int (pj_I x3))] [] M := by
  unfold w_X11_findApart_11b at h
  refine pj_iload_n 12 3 rfl rfl rfl rfl ?_
  refine pj_iload_n 13 2 rfl rfl rfl rfl ?_
  obtain ⟨q3, h⟩ := h
  obtain ⟨q4, h⟩ := h
  refine pj_icmp_ge 88 16 rfl (by decide) rfl q3 q4 (fun hc => ?_) (fun hc => ?_)
  · replace h := h.1 hc
    refine pj_iconst 89 rfl rfl ?_
    exact pn_zret (by decide) h rfl rfl
  · replace h := h.2 hc
    refine pj_aload_n 17 0 rfl rfl rfl rfl ?_
    refine pn_getr 20 11 13 hg o0 (pr_11_13 o0).2 rfl pfX11_85 rfl rfl ?_
    refine pj_iload_n 21 3 rfl rfl rfl rfl ?_
    refine pj_iload_n 22 1 rfl rfl rfl rfl ?_
    refine pn_callVv 25 10 [.int (pj_I x3), .int (pj_I x1)] [] (pr_11_13 o0) (s_X10_spell hg (pr_11_13 o0) h) plX11_311 rfl rfl rfl rfl (Nat.le_of_ble_eq_true rfl) (by decide) (fun M5 h => ?_)
    refine pj_aload_n 26 0 rfl rfl rfl rfl ?_
    refine pn_getr 29 11 9 hg o0 (pr_11_9 o0).2 rfl pfX11_62 rfl rfl ?_
    refine pj_aload_n 30 0 rfl rfl rfl rfl ?_
    refine pn_getr 33 11 13 hg o0 (pr_11_13 o0).2 rfl pfX11_85 rfl rfl ?_
    refine pj_iload_n 34 1 rfl rfl rfl rfl ?_
    refine pn_callVi 37 0 [.ref (pj_rf r0 13), .int (pj_I x1)] [] (pr_11_9 o0) (s_X0_isSentence hg (pr_11_9 o0) (pr_11_13 o0) h) plX11_315 rfl rfl rfl rfl (Nat.le_of_ble_eq_true rfl) (by decide) (fun t8 M7 h => ?_)
    refine pj_istore 39 (ls' := [(0, .ref r0), (1, .int (pj_I x1)), (2, .int (pj_I x2)), (3, .int (pj_I x3)), (4, .int (pj_I t8))]) rfl (by decide) rfl rfl ?_
    refine pj_iload 41 4 rfl rfl rfl ?_
    refine pj_aload_n 42 0 rfl rfl rfl rfl ?_
    refine pn_getr 45 11 10 hg o0 (pr_11_10 o0).2 rfl pfX11_65 rfl rfl ?_
    refine pj_aload_n 46 0 rfl rfl rfl rfl ?_
    refine pn_getr 49 11 13 hg o0 (pr_11_13 o0).2 rfl pfX11_85 rfl rfl ?_
    refine pj_iload_n 50 1 rfl rfl rfl rfl ?_
    refine pn_callVi 53 0 [.ref (pj_rf r0 13), .int (pj_I x1)] [.int (pj_I t8)] (pr_11_10 o0) (s_X0_isSentence hg (pr_11_10 o0) (pr_11_13 o0) h) plX11_315 rfl rfl rfl rfl (Nat.le_of_ble_eq_true rfl) (by decide) (fun t10 M9 h => ?_)
    obtain ⟨q11, h⟩ := h
    obtain ⟨q12, h⟩ := h
    refine pj_icmp_eq 82 56 rfl (by decide) rfl q11 q12 (fun hc => ?_) (fun hc => ?_)
    · replace h := h.1 hc
      refine pj_iinc 85 3 (ls' := [(0, .ref r0), (1, .int (pj_I x1)), (2, .int (pj_I x2)), (3, .int (pj_I (x3 + 1))), (4, .int (pj_I t8))]) rfl rfl (by decide) rfl rfl ?_
      refine pj_goto 11 rfl (by decide) ?_
      refine pn_sub [0, 1, 2, 3] rfl ?_
      exact hk11 _ _ h
    · replace h := h.2 hc
      refine pj_aload_n 57 0 rfl rfl rfl rfl ?_
      refine pj_iconst 58 rfl rfl ?_
      refine pn_puti 61 11 15 15 o0  rfl pfX11_272 rfl rfl rfl (fun M13 hM13 => ?_)
      replace h := h M13 hM13
      refine pj_aload_n 62 0 rfl rfl rfl rfl ?_
      refine pj_iload_n 63 1 rfl rfl rfl rfl ?_
      refine pn_callVv 66 11 [.int (pj_I x1)] [] o0 (s_X11_tellWord hg o0 h) plX11_319 rfl rfl rfl rfl (Nat.le_of_ble_eq_true rfl) (by decide) (fun M14 h => ?_)
      refine pj_aload_n 67 0 rfl rfl rfl rfl ?_
      refine pj_iload 69 4 rfl rfl rfl ?_
      obtain ⟨q16, h⟩ := h
      refine pj_if_eq 76 72 rfl (by decide) rfl q16  (fun hc => ?_) (fun hc => ?_)
      · replace h := h.1 hc
        refine pj_lconst 77 0 rfl (by decide) rfl ?_
        refine pn_sub [] rfl ?_
        exact s_X11_findApart_77 hg  o0  h
      · replace h := h.2 hc
        refine pj_lconst 73 1 rfl (by decide) rfl ?_
        refine pj_goto 77 rfl (by decide) ?_
        refine pn_sub [] rfl ?_
        exact s_X11_findApart_77 hg  o0  h
set_option maxRecDepth 20000 in
set_option maxHeartbeats 4000000 in
theorem s_X11_findApart_11 {l : Launch} {g : pj_G} (hg : pj_ph g = true) {r0 : Nat} {x1 : Int} {x2 : Int} {x3 : Int} {M : pj_M} {Q : Int → pj_M → Prop}  (o0 : pj_ob r0 11)  (h : w_X11_findApart_11 r0 x1 x2  Q x3 M) : pj_R l g mdX11_findApart pj_T (pj_Zm g mdX11_findApart (pj_qi Q)) pj_NK 0 0 11 [(0, .ref r0), (1, .int (pj_I x1)), (2, .int (pj_I x2)), (3, .int (pj_I x3))] [] M :=
  h (fun s => pj_R l g mdX11_findApart pj_T (pj_Zm g mdX11_findApart (pj_qi Q)) pj_NK 0 0 11 [(0, .ref r0), (1, .int (pj_I x1)), (2, .int (pj_I x2)), (3, .int (pj_I (s.1)))] [] s.2) (fun s hs => s_X11_findApart_11b hg o0  (fun _ _ q => q) hs)
set_option maxRecDepth 20000 in
set_option maxHeartbeats 4000000 in
theorem s_X11_findApart {l : Launch} {g : pj_G} (hg : pj_ph g = true) {r0 : Nat} {x1 : Int} {M : pj_M} {Q : Int → pj_M → Prop} (o0 : pj_ob r0 11) (h : w_X11_findApart r0 x1 M Q) : pj_S l g mdX11_findApart [.ref r0, .int (pj_I x1)] pj_NK M (pj_qi Q) := by
  refine pj_ofR (ls := [(0, .ref r0), (1, .int (pj_I x1))]) gcX11_findApart (by decide) rfl (Nat.le_of_ble_eq_true rfl) rfl ?_
  unfold w_X11_findApart at h
  refine pj_aload_n 1 0 rfl rfl rfl rfl ?_
  refine pn_getr 4 11 13 hg o0 (pr_11_13 o0).2 rfl pfX11_85 rfl rfl ?_
  refine pj_iload_n 5 1 rfl rfl rfl rfl ?_
  refine pn_callVi 8 10 [.int (pj_I x1)] [] (pr_11_13 o0) (s_X10_howMany hg (pr_11_13 o0) h) plX11_308 rfl rfl rfl rfl (Nat.le_of_ble_eq_true rfl) (by decide) (fun t2 M1 h => ?_)
  refine pj_istore_n 9 (ls' := [(0, .ref r0), (1, .int (pj_I x1)), (2, .int (pj_I t2))]) rfl rfl (by decide) rfl rfl ?_
  refine pj_iconst 10 rfl rfl ?_
  refine pj_istore_n 11 (ls' := [(0, .ref r0), (1, .int (pj_I x1)), (2, .int (pj_I t2)), (3, .int (pj_I 0))]) rfl rfl (by decide) rfl rfl ?_
  refine pn_sub [0, 1, 2, 3] rfl ?_
  exact s_X11_findApart_11 hg o0   h
def w_X11_apart_105b (r0 : Nat) (x2 : Int)  (Q : Int → pj_M → Prop) (k105 : Int → pj_M → Prop) (x3 : Int) (M : pj_M) : Prop :=
  (pj_in x3) ∧ (pj_in x2) ∧ ((x2 < x3 → Q (-2) M) ∧ (¬ x2 < x3 → w_X11_findApart r0 x3 M (fun (t24 : Int) (M23 : pj_M) => (pj_in t24) ∧ ((t24 = 0 → k105 (x3 + 1) M23) ∧ (¬ t24 = 0 → Q x3 M23)))))
def w_X11_apart_105 (r0 : Nat) (x2 : Int)  (Q : Int → pj_M → Prop) (x3 : Int) (M : pj_M) : Prop := pj_lp (fun (k : Int × pj_M → Prop) (s : Int × pj_M) => w_X11_apart_105b r0 x2  Q (fun (x3 : Int) (M : pj_M) => k (x3, M)) s.1 s.2) (x3, M)
def w_X11_apart (r0 : Nat) (x1 : Int) (x2 : Int) (M : pj_M) (Q : Int → pj_M → Prop) : Prop :=
  (pj_in x1) ∧ ((x1 < 0 → Q (-1) M) ∧ (¬ x1 < 0 → (pj_in x1) ∧ ((2 ≤ x1 → Q (-1) M) ∧ (¬ 2 ≤ x1 → (pj_in x2) ∧ ((x2 < 0 → Q (-1) M) ∧ (¬ x2 < 0 → (pj_in x2) ∧ ((x2 ≤ 5 → ((0 : Int) ≤ x1 ∧ x1 < 2) ∧ (pj_in (M (pj_rf r0 7) x1)) ∧ ((¬ (M (pj_rf r0 7) x1) = 0 → w_X0_learn (pj_rf r0 9) (pj_rf (pj_rf r0 2) 0) 0 M (fun (M7 : pj_M) => ((0 : Int) ≤ x1 ∧ x1 < 2) ∧ w_X0_learn (pj_rf r0 10) (pj_rf (pj_rf (pj_rf r0 6) (x1).toNat) 0) 0 M7 (fun (M10 : pj_M) => w_X0_signsOfSentences (pj_rf r0 9) M10 (fun (t13 : Int) (M12 : pj_M) => w_X0_signsOfSentences (pj_rf r0 10) M12 (fun (t15 : Int) (M14 : pj_M) => w_X10_useLetters (pj_rf r0 13) (pj_or t13 t15) M14 (fun (M16 : pj_M) => w_X10_howMany (pj_rf r0 13) x2 M16 (fun (t19 : Int) (M18 : pj_M) => (pj_in t19) ∧ ((t19 ≤ 1000 → w_X11_apart_105 r0 x2  Q 0 M18) ∧ (¬ t19 ≤ 1000 → Q (-4) M18))))))))) ∧ ((M (pj_rf r0 7) x1) = 0 → Q (-3) M))) ∧ (¬ x2 ≤ 5 → Q (-1) M))))))))
set_option maxRecDepth 20000 in
set_option maxHeartbeats 4000000 in
theorem s_X11_apart_105b {l : Launch} {g : pj_G} (hg : pj_ph g = true) {r0 : Nat} {x2 : Int} {x3 : Int} {M : pj_M} {Q : Int → pj_M → Prop}  {k105 : Int → pj_M → Prop} (o0 : pj_ob r0 11)  (hk105 : ∀ (x3 : Int) (M : pj_M), k105 x3 M → pj_R l g mdX11_apart pj_T (pj_Zm g mdX11_apart (pj_qi Q)) pj_NK 0 0 105 [(0, .ref r0), (2, .int (pj_I x2)), (3, .int (pj_I x3))] [] M) (h : w_X11_apart_105b r0 x2  Q k105 x3 M) : pj_R l g mdX11_apart pj_T (pj_Zm g mdX11_apart (pj_qi Q)) pj_NK 0 0 105 [(0, .ref r0), (2, .int (pj_I x2)), (3, .int (pj_I x3))] [] M := by
  unfold w_X11_apart_105b at h
  refine pj_iload_n 106 2 rfl rfl rfl rfl ?_
  refine pj_iload_n 107 1 rfl rfl rfl rfl ?_
  obtain ⟨q21, h⟩ := h
  obtain ⟨q22, h⟩ := h
  refine pj_icmp_gt 126 110 rfl (by decide) rfl q21 q22 (fun hc => ?_) (fun hc => ?_)
  · replace h := h.1 hc
    refine pj_bipush 128 rfl (by decide) rfl ?_
    exact pn_iret h rfl rfl
  · replace h := h.2 hc
    refine pj_aload_n 111 0 rfl rfl rfl rfl ?_
    refine pj_iload_n 112 2 rfl rfl rfl rfl ?_
    refine pn_callVi 115 11 [.int (pj_I x3)] [] o0 (s_X11_findApart hg o0 h) plX11_322 rfl rfl rfl rfl (Nat.le_of_ble_eq_true rfl) (by decide) (fun t24 M23 h => ?_)
    obtain ⟨q25, h⟩ := h
    refine pj_if_eq 120 118 rfl (by decide) rfl q25  (fun hc => ?_) (fun hc => ?_)
    · replace h := h.1 hc
      refine pj_iinc 123 2 (ls' := [(0, .ref r0), (2, .int (pj_I x2)), (3, .int (pj_I (x3 + 1)))]) rfl rfl (by decide) rfl rfl ?_
      refine pj_goto 105 rfl (by decide) ?_
      refine pn_sub [0, 1, 2] rfl ?_
      exact hk105 _ _ h
    · replace h := h.2 hc
      refine pj_iload_n 119 2 rfl rfl rfl rfl ?_
      exact pn_iret h rfl rfl
set_option maxRecDepth 20000 in
set_option maxHeartbeats 4000000 in
theorem s_X11_apart_105 {l : Launch} {g : pj_G} (hg : pj_ph g = true) {r0 : Nat} {x2 : Int} {x3 : Int} {M : pj_M} {Q : Int → pj_M → Prop}  (o0 : pj_ob r0 11)  (h : w_X11_apart_105 r0 x2  Q x3 M) : pj_R l g mdX11_apart pj_T (pj_Zm g mdX11_apart (pj_qi Q)) pj_NK 0 0 105 [(0, .ref r0), (2, .int (pj_I x2)), (3, .int (pj_I x3))] [] M :=
  h (fun s => pj_R l g mdX11_apart pj_T (pj_Zm g mdX11_apart (pj_qi Q)) pj_NK 0 0 105 [(0, .ref r0), (2, .int (pj_I x2)), (3, .int (pj_I (s.1)))] [] s.2) (fun s hs => s_X11_apart_105b hg o0  (fun _ _ q => q) hs)
set_option maxRecDepth 20000 in
set_option maxHeartbeats 4000000 in
theorem s_X11_apart {l : Launch} {g : pj_G} (hg : pj_ph g = true) {r0 : Nat} {x1 : Int} {x2 : Int} {M : pj_M} {Q : Int → pj_M → Prop} (o0 : pj_ob r0 11) (h : w_X11_apart r0 x1 x2 M Q) : pj_S l g mdX11_apart [.ref r0, .int (pj_I x1), .int (pj_I x2)] pj_NK M (pj_qi Q) := by
  refine pj_ofR (ls := [(0, .ref r0), (1, .int (pj_I x1)), (2, .int (pj_I x2))]) gcX11_apart (by decide) rfl (Nat.le_of_ble_eq_true rfl) rfl ?_
  unfold w_X11_apart at h
  refine pj_iload_n 1 1 rfl rfl rfl rfl ?_
  obtain ⟨q1, h⟩ := h
  refine pj_if_lt 18 4 rfl (by decide) rfl q1  (fun hc => ?_) (fun hc => ?_)
  · replace h := h.1 hc
    refine pj_iconst 19 rfl rfl ?_
    exact pn_iret h rfl rfl
  · replace h := h.2 hc
    refine pj_iload_n 5 1 rfl rfl rfl rfl ?_
    refine pj_iconst 6 rfl rfl ?_
    obtain ⟨q2, h⟩ := h
    refine pj_icmp_ge 18 9 rfl (by decide) rfl q2 (show pj_in 2 by decide) (fun hc => ?_) (fun hc => ?_)
    · replace h := h.1 hc
      refine pj_iconst 19 rfl rfl ?_
      exact pn_iret h rfl rfl
    · replace h := h.2 hc
      refine pj_iload_n 10 2 rfl rfl rfl rfl ?_
      obtain ⟨q3, h⟩ := h
      refine pj_if_lt 18 13 rfl (by decide) rfl q3  (fun hc => ?_) (fun hc => ?_)
      · replace h := h.1 hc
        refine pj_iconst 19 rfl rfl ?_
        exact pn_iret h rfl rfl
      · replace h := h.2 hc
        refine pj_iload_n 14 2 rfl rfl rfl rfl ?_
        refine pj_iconst 15 rfl rfl ?_
        obtain ⟨q4, h⟩ := h
        refine pj_icmp_le 20 18 rfl (by decide) rfl q4 (show pj_in 5 by decide) (fun hc => ?_) (fun hc => ?_)
        · replace h := h.1 hc
          refine pj_aload_n 21 0 rfl rfl rfl rfl ?_
          refine pn_getr 24 11 7 hg o0 (pr_11_7 o0).2 rfl pfX11_51 rfl rfl ?_
          refine pj_iload_n 25 1 rfl rfl rfl rfl ?_
          obtain ⟨q5, h⟩ := h
          refine pn_bald 26 2 2 (pr_11_7 o0) (by decide) q5 rfl rfl ?_
          obtain ⟨q6, h⟩ := h
          refine pj_if_ne 32 29 rfl (by decide) rfl q6  (fun hc => ?_) (fun hc => ?_)
          · replace h := h.1 hc
            refine pj_aload_n 33 0 rfl rfl rfl rfl ?_
            refine pn_getr 36 11 9 hg o0 (pr_11_9 o0).2 rfl pfX11_62 rfl rfl ?_
            refine pj_aload_n 37 0 rfl rfl rfl rfl ?_
            refine pn_getr 40 11 2 hg o0 (pr_11_2 o0).2 rfl pfX11_26 rfl rfl ?_
            refine pn_getr 43 1 0 hg (pr_11_2 o0) (pr_1_0 (pr_11_2 o0)).2 rfl pfX11_115 rfl rfl ?_
            refine pj_iconst 44 rfl rfl ?_
            refine pn_callVv 47 0 [.ref (pj_rf (pj_rf r0 2) 0), .int (pj_I 0)] [] (pr_11_9 o0) (s_X0_learn hg (pr_11_9 o0) (pr_1_0 (pr_11_2 o0)) h) plX11_285 rfl rfl rfl rfl (Nat.le_of_ble_eq_true rfl) (by decide) (fun M7 h => ?_)
            refine pj_aload_n 48 0 rfl rfl rfl rfl ?_
            refine pn_getr 51 11 10 hg o0 (pr_11_10 o0).2 rfl pfX11_65 rfl rfl ?_
            refine pj_aload_n 52 0 rfl rfl rfl rfl ?_
            refine pn_getr 55 11 6 hg o0 (pr_11_6 o0).2 rfl pfX11_47 rfl rfl ?_
            refine pj_iload_n 56 1 rfl rfl rfl rfl ?_
            obtain ⟨q9, h⟩ := h
            refine pn_aald 57 2 hg (pr_11_6 o0) (pr_desks (pr_11_6 o0) q9).2 q9 rfl rfl ?_
            refine pn_getr 60 1 0 hg (pr_desks (pr_11_6 o0) q9) (pr_1_0 (pr_desks (pr_11_6 o0) q9)).2 rfl pfX11_115 rfl rfl ?_
            refine pj_iconst 61 rfl rfl ?_
            refine pn_callVv 64 0 [.ref (pj_rf (pj_rf (pj_rf r0 6) (x1).toNat) 0), .int (pj_I 0)] [] (pr_11_10 o0) (s_X0_learn hg (pr_11_10 o0) (pr_1_0 (pr_desks (pr_11_6 o0) q9)) h) plX11_285 rfl rfl rfl rfl (Nat.le_of_ble_eq_true rfl) (by decide) (fun M10 h => ?_)
            refine pj_aload_n 65 0 rfl rfl rfl rfl ?_
            refine pn_getr 68 11 13 hg o0 (pr_11_13 o0).2 rfl pfX11_85 rfl rfl ?_
            refine pj_aload_n 69 0 rfl rfl rfl rfl ?_
            refine pn_getr 72 11 9 hg o0 (pr_11_9 o0).2 rfl pfX11_62 rfl rfl ?_
            refine pn_callVi 75 0 [] [.ref (pj_rf r0 13)] (pr_11_9 o0) (s_X0_signsOfSentences hg (pr_11_9 o0) h) plX11_301 rfl rfl rfl rfl (Nat.le_of_ble_eq_true rfl) (by decide) (fun t13 M12 h => ?_)
            refine pj_aload_n 76 0 rfl rfl rfl rfl ?_
            refine pn_getr 79 11 10 hg o0 (pr_11_10 o0).2 rfl pfX11_65 rfl rfl ?_
            refine pn_callVi 82 0 [] [.int (pj_I t13), .ref (pj_rf r0 13)] (pr_11_10 o0) (s_X0_signsOfSentences hg (pr_11_10 o0) h) plX11_301 rfl rfl rfl rfl (Nat.le_of_ble_eq_true rfl) (by decide) (fun t15 M14 h => ?_)
            refine pj_ior 83 rfl rfl ?_
            refine pn_callVv 86 10 [.int (pj_I (pj_or t13 t15))] [] (pr_11_13 o0) (s_X10_useLetters hg (pr_11_13 o0) h) plX11_304 rfl rfl rfl rfl (Nat.le_of_ble_eq_true rfl) (by decide) (fun M16 h => ?_)
            refine pj_aload_n 87 0 rfl rfl rfl rfl ?_
            refine pn_getr 90 11 13 hg o0 (pr_11_13 o0).2 rfl pfX11_85 rfl rfl ?_
            refine pj_iload_n 91 2 rfl rfl rfl rfl ?_
            refine pn_callVi 94 10 [.int (pj_I x2)] [] (pr_11_13 o0) (s_X10_howMany hg (pr_11_13 o0) h) plX11_308 rfl rfl rfl rfl (Nat.le_of_ble_eq_true rfl) (by decide) (fun t19 M18 h => ?_)
            refine pj_sipush 97 rfl (by decide) rfl ?_
            obtain ⟨q20, h⟩ := h
            refine pj_icmp_le 103 100 rfl (by decide) rfl q20 (show pj_in 1000 by decide) (fun hc => ?_) (fun hc => ?_)
            · replace h := h.1 hc
              refine pj_iconst 104 rfl rfl ?_
              refine pj_istore_n 105 (ls' := [(0, .ref r0), (1, .int (pj_I x1)), (2, .int (pj_I x2)), (3, .int (pj_I 0))]) rfl rfl (by decide) rfl rfl ?_
              refine pn_sub [0, 2, 3] rfl ?_
              exact s_X11_apart_105 hg o0   h
            · replace h := h.2 hc
              refine pj_bipush 102 rfl (by decide) rfl ?_
              exact pn_iret h rfl rfl
          · replace h := h.2 (Classical.not_not.mp hc)
            refine pj_bipush 31 rfl (by decide) rfl ?_
            exact pn_iret h rfl rfl
        · replace h := h.2 hc
          refine pj_iconst 19 rfl rfl ?_
          exact pn_iret h rfl rfl
def w_X11_keptIfDone (r0 : Nat) (x1 : Int) (M : pj_M) (Q : Int → pj_M → Prop) : Prop :=
  (pj_in x1) ∧ ((x1 < 0 → Q x1 M) ∧ (¬ x1 < 0 → w_X6_push (pj_rf r0 5) (pj_rf r0 3) M (fun (M2 : pj_M) => Q x1 M2)))
set_option maxRecDepth 20000 in
set_option maxHeartbeats 4000000 in
theorem s_X11_keptIfDone {l : Launch} {g : pj_G} (hg : pj_ph g = true) {r0 : Nat} {x1 : Int} {M : pj_M} {Q : Int → pj_M → Prop} (o0 : pj_ob r0 11) (h : w_X11_keptIfDone r0 x1 M Q) : pj_S l g mdX11_keptIfDone [.ref r0, .int (pj_I x1)] pj_NK M (pj_qi Q) := by
  refine pj_ofR (ls := [(0, .ref r0), (1, .int (pj_I x1))]) gcX11_keptIfDone (by decide) rfl (Nat.le_of_ble_eq_true rfl) rfl ?_
  unfold w_X11_keptIfDone at h
  refine pj_iload_n 1 1 rfl rfl rfl rfl ?_
  obtain ⟨q1, h⟩ := h
  refine pj_if_lt 15 4 rfl (by decide) rfl q1  (fun hc => ?_) (fun hc => ?_)
  · replace h := h.1 hc
    refine pj_iload_n 16 1 rfl rfl rfl rfl ?_
    exact pn_iret h rfl rfl
  · replace h := h.2 hc
    refine pj_aload_n 5 0 rfl rfl rfl rfl ?_
    refine pn_getr 8 11 5 hg o0 (pr_11_5 o0).2 rfl pfX11_43 rfl rfl ?_
    refine pj_aload_n 9 0 rfl rfl rfl rfl ?_
    refine pn_getr 12 11 3 hg o0 (pr_11_3 o0).2 rfl pfX11_30 rfl rfl ?_
    refine pn_callVv 15 6 [.ref (pj_rf r0 3)] [] (pr_11_5 o0) (s_X6_push hg (pr_11_5 o0) (pr_11_3 o0) h) plX11_111 rfl rfl rfl rfl (Nat.le_of_ble_eq_true rfl) (by decide) (fun M2 h => ?_)
    refine pj_iload_n 16 1 rfl rfl rfl rfl ?_
    exact pn_iret h rfl rfl
def w_X11_becomes (r0 : Nat) (x1 : Int) (x2 : Int) (M : pj_M) (Q : Int → pj_M → Prop) : Prop :=
  w_X1_copyFrom (pj_rf r0 3) (pj_rf r0 2) M (fun (M1 : pj_M) => w_X7_replaceAt (pj_rf (pj_rf r0 2) 1) x1 x2 M1 (fun (t4 : Int) (M3 : pj_M) => w_X11_keptIfDone r0 t4 M3 (fun (t6 : Int) (M5 : pj_M) => Q t6 M5)))
set_option maxRecDepth 20000 in
set_option maxHeartbeats 4000000 in
theorem s_X11_becomes {l : Launch} {g : pj_G} (hg : pj_ph g = true) {r0 : Nat} {x1 : Int} {x2 : Int} {M : pj_M} {Q : Int → pj_M → Prop} (o0 : pj_ob r0 11) (h : w_X11_becomes r0 x1 x2 M Q) : pj_S l g mdX11_becomes [.ref r0, .int (pj_I x1), .int (pj_I x2)] pj_NK M (pj_qi Q) := by
  refine pj_ofR (ls := [(0, .ref r0), (1, .int (pj_I x1)), (2, .int (pj_I x2))]) gcX11_becomes (by decide) rfl (Nat.le_of_ble_eq_true rfl) rfl ?_
  unfold w_X11_becomes at h
  refine pj_aload_n 1 0 rfl rfl rfl rfl ?_
  refine pn_getr 4 11 3 hg o0 (pr_11_3 o0).2 rfl pfX11_30 rfl rfl ?_
  refine pj_aload_n 5 0 rfl rfl rfl rfl ?_
  refine pn_getr 8 11 2 hg o0 (pr_11_2 o0).2 rfl pfX11_26 rfl rfl ?_
  refine pn_callVv 11 1 [.ref (pj_rf r0 2)] [] (pr_11_3 o0) (s_X1_copyFrom hg (pr_11_3 o0) (pr_11_2 o0) h) plX11_328 rfl rfl rfl rfl (Nat.le_of_ble_eq_true rfl) (by decide) (fun M1 h => ?_)
  refine pj_aload_n 12 0 rfl rfl rfl rfl ?_
  refine pj_aload_n 13 0 rfl rfl rfl rfl ?_
  refine pn_getr 16 11 2 hg o0 (pr_11_2 o0).2 rfl pfX11_26 rfl rfl ?_
  refine pn_getr 19 1 1 hg (pr_11_2 o0) (pr_1_1 (pr_11_2 o0)).2 rfl pfX11_132 rfl rfl ?_
  refine pj_iload_n 20 1 rfl rfl rfl rfl ?_
  refine pj_iload_n 21 2 rfl rfl rfl rfl ?_
  refine pn_callVi 24 7 [.int (pj_I x1), .int (pj_I x2)] [.ref r0] (pr_1_1 (pr_11_2 o0)) (s_X7_replaceAt hg (pr_1_1 (pr_11_2 o0)) h) plX11_330 rfl rfl rfl rfl (Nat.le_of_ble_eq_true rfl) (by decide) (fun t4 M3 h => ?_)
  refine pn_callVi 27 11 [.int (pj_I t4)] [] o0 (s_X11_keptIfDone hg o0 h) plX11_333 rfl rfl rfl rfl (Nat.le_of_ble_eq_true rfl) (by decide) (fun t6 M5 h => ?_)
  exact pn_iret h rfl rfl
def w_X11_comes (r0 : Nat) (x1 : Int) (x2 : Int) (M : pj_M) (Q : Int → pj_M → Prop) : Prop :=
  w_X1_copyFrom (pj_rf r0 3) (pj_rf r0 2) M (fun (M1 : pj_M) => w_X7_insertAt (pj_rf (pj_rf r0 2) 1) x1 x2 M1 (fun (t4 : Int) (M3 : pj_M) => w_X11_keptIfDone r0 t4 M3 (fun (t6 : Int) (M5 : pj_M) => Q t6 M5)))
set_option maxRecDepth 20000 in
set_option maxHeartbeats 4000000 in
theorem s_X11_comes {l : Launch} {g : pj_G} (hg : pj_ph g = true) {r0 : Nat} {x1 : Int} {x2 : Int} {M : pj_M} {Q : Int → pj_M → Prop} (o0 : pj_ob r0 11) (h : w_X11_comes r0 x1 x2 M Q) : pj_S l g mdX11_comes [.ref r0, .int (pj_I x1), .int (pj_I x2)] pj_NK M (pj_qi Q) := by
  refine pj_ofR (ls := [(0, .ref r0), (1, .int (pj_I x1)), (2, .int (pj_I x2))]) gcX11_comes (by decide) rfl (Nat.le_of_ble_eq_true rfl) rfl ?_
  unfold w_X11_comes at h
  refine pj_aload_n 1 0 rfl rfl rfl rfl ?_
  refine pn_getr 4 11 3 hg o0 (pr_11_3 o0).2 rfl pfX11_30 rfl rfl ?_
  refine pj_aload_n 5 0 rfl rfl rfl rfl ?_
  refine pn_getr 8 11 2 hg o0 (pr_11_2 o0).2 rfl pfX11_26 rfl rfl ?_
  refine pn_callVv 11 1 [.ref (pj_rf r0 2)] [] (pr_11_3 o0) (s_X1_copyFrom hg (pr_11_3 o0) (pr_11_2 o0) h) plX11_328 rfl rfl rfl rfl (Nat.le_of_ble_eq_true rfl) (by decide) (fun M1 h => ?_)
  refine pj_aload_n 12 0 rfl rfl rfl rfl ?_
  refine pj_aload_n 13 0 rfl rfl rfl rfl ?_
  refine pn_getr 16 11 2 hg o0 (pr_11_2 o0).2 rfl pfX11_26 rfl rfl ?_
  refine pn_getr 19 1 1 hg (pr_11_2 o0) (pr_1_1 (pr_11_2 o0)).2 rfl pfX11_132 rfl rfl ?_
  refine pj_iload_n 20 1 rfl rfl rfl rfl ?_
  refine pj_iload_n 21 2 rfl rfl rfl rfl ?_
  refine pn_callVi 24 7 [.int (pj_I x1), .int (pj_I x2)] [.ref r0] (pr_1_1 (pr_11_2 o0)) (s_X7_insertAt hg (pr_1_1 (pr_11_2 o0)) h) plX11_336 rfl rfl rfl rfl (Nat.le_of_ble_eq_true rfl) (by decide) (fun t4 M3 h => ?_)
  refine pn_callVi 27 11 [.int (pj_I t4)] [] o0 (s_X11_keptIfDone hg o0 h) plX11_333 rfl rfl rfl rfl (Nat.le_of_ble_eq_true rfl) (by decide) (fun t6 M5 h => ?_)
  exact pn_iret h rfl rfl
def w_X11_goes (r0 : Nat) (x1 : Int) (M : pj_M) (Q : Int → pj_M → Prop) : Prop :=
  w_X1_copyFrom (pj_rf r0 3) (pj_rf r0 2) M (fun (M1 : pj_M) => w_X7_removeAt (pj_rf (pj_rf r0 2) 1) x1 M1 (fun (t4 : Int) (M3 : pj_M) => w_X11_keptIfDone r0 t4 M3 (fun (t6 : Int) (M5 : pj_M) => Q t6 M5)))
set_option maxRecDepth 20000 in
set_option maxHeartbeats 4000000 in
theorem s_X11_goes {l : Launch} {g : pj_G} (hg : pj_ph g = true) {r0 : Nat} {x1 : Int} {M : pj_M} {Q : Int → pj_M → Prop} (o0 : pj_ob r0 11) (h : w_X11_goes r0 x1 M Q) : pj_S l g mdX11_goes [.ref r0, .int (pj_I x1)] pj_NK M (pj_qi Q) := by
  refine pj_ofR (ls := [(0, .ref r0), (1, .int (pj_I x1))]) gcX11_goes (by decide) rfl (Nat.le_of_ble_eq_true rfl) rfl ?_
  unfold w_X11_goes at h
  refine pj_aload_n 1 0 rfl rfl rfl rfl ?_
  refine pn_getr 4 11 3 hg o0 (pr_11_3 o0).2 rfl pfX11_30 rfl rfl ?_
  refine pj_aload_n 5 0 rfl rfl rfl rfl ?_
  refine pn_getr 8 11 2 hg o0 (pr_11_2 o0).2 rfl pfX11_26 rfl rfl ?_
  refine pn_callVv 11 1 [.ref (pj_rf r0 2)] [] (pr_11_3 o0) (s_X1_copyFrom hg (pr_11_3 o0) (pr_11_2 o0) h) plX11_328 rfl rfl rfl rfl (Nat.le_of_ble_eq_true rfl) (by decide) (fun M1 h => ?_)
  refine pj_aload_n 12 0 rfl rfl rfl rfl ?_
  refine pj_aload_n 13 0 rfl rfl rfl rfl ?_
  refine pn_getr 16 11 2 hg o0 (pr_11_2 o0).2 rfl pfX11_26 rfl rfl ?_
  refine pn_getr 19 1 1 hg (pr_11_2 o0) (pr_1_1 (pr_11_2 o0)).2 rfl pfX11_132 rfl rfl ?_
  refine pj_iload_n 20 1 rfl rfl rfl rfl ?_
  refine pn_callVi 23 7 [.int (pj_I x1)] [.ref r0] (pr_1_1 (pr_11_2 o0)) (s_X7_removeAt hg (pr_1_1 (pr_11_2 o0)) h) plX11_339 rfl rfl rfl rfl (Nat.le_of_ble_eq_true rfl) (by decide) (fun t4 M3 h => ?_)
  refine pn_callVi 26 11 [.int (pj_I t4)] [] o0 (s_X11_keptIfDone hg o0 h) plX11_333 rfl rfl rfl rfl (Nat.le_of_ble_eq_true rfl) (by decide) (fun t6 M5 h => ?_)
  exact pn_iret h rfl rfl
def w_X11_day_152 (r0 : Nat) (x2 : Int) (u0 : Nat) (y1 : Int)  (Q : Int → pj_M → Prop) (M : pj_M) : Prop :=
  w_X11_piecesOf r0 (pj_rf r0 8) (pj_rf (pj_rf r0 2) 1) M (fun (t12 : Int) (M11 : pj_M) => (pj_in t12) ∧ w_X11_tellTwo u0 y1 t12 M11 (fun (M14 : pj_M) => Q x2 M14))
def w_X11_day_142 (r0 : Nat) (x2 : Int) (x3 : Int)  (Q : Int → pj_M → Prop) (M : pj_M) : Prop :=
  (pj_in x3) ∧ ((x3 = 0 → w_X11_day_152 r0 x2 r0 0  Q M) ∧ (¬ x3 = 0 → w_X11_day_152 r0 x2 r0 1  Q M))
def w_X11_day_120 (r0 : Nat) (x2 : Int) (x3 : Int)  (Q : Int → pj_M → Prop) (M : pj_M) : Prop :=
  w_X9_clear (pj_rf r0 0) M (fun (M7 : pj_M) => (pj_in x2) ∧ ((x2 ≤ 0 → w_X11_day_142 r0 x2 x3  Q M7) ∧ (¬ x2 ≤ 0 → w_X6_push (pj_rf r0 5) (pj_rf r0 3) M7 (fun (M16 : pj_M) => w_X11_day_142 r0 x2 x3  Q M16))))
def w_X11_day_96 (r0 : Nat) (x2 : Int) (x3 : Int) (x4 : Int) (x5 : Int) (k46 : Int → Int → Int → Int → pj_M → Prop) (Q : Int → pj_M → Prop) (M : pj_M) : Prop :=
  ((0 : Int) ≤ x4 ∧ x4 < 80) ∧ w_X9_lengthOfChange (M (pj_rf (pj_rf r0 0) 0) x4) M (fun (t26 : Int) (M25 : pj_M) => k46 x2 x3 (x4 + t26) (x5 + 1) M25)
def w_X11_day_46b (r0 : Nat)  (Q : Int → pj_M → Prop) (k46 : Int → Int → Int → Int → pj_M → Prop) (x2 : Int) (x3 : Int) (x4 : Int) (x5 : Int) (M : pj_M) : Prop :=
  (pj_in x5) ∧ ((80 ≤ x5 → w_X11_day_120 r0 x2 x3  Q M) ∧ (¬ 80 ≤ x5 → (pj_in x4) ∧ (pj_in (M (pj_rf r0 0) 1)) ∧ (((M (pj_rf r0 0) 1) ≤ x4 → w_X11_day_120 r0 x2 x3  Q M) ∧ (¬ (M (pj_rf r0 0) 1) ≤ x4 → (pj_in x3) ∧ ((¬ x3 = 0 → w_X11_day_120 r0 x2 x3  Q M) ∧ (x3 = 0 → w_X9_changeAt (pj_rf r0 0) x4 (pj_rf (pj_rf r0 2) 1) M (fun (t22 : Int) (M21 : pj_M) => (pj_in t22) ∧ ((0 ≤ t22 → w_X11_day_96 r0 (x2 + 1) x3 x4 x5 k46 Q M21) ∧ (¬ 0 ≤ t22 → w_X11_day_96 r0 x2 1 x4 x5 k46 Q M21)))))))))
def w_X11_day_46 (r0 : Nat)  (Q : Int → pj_M → Prop) (x2 : Int) (x3 : Int) (x4 : Int) (x5 : Int) (M : pj_M) : Prop := pj_lp (fun (k : Int × Int × Int × Int × pj_M → Prop) (s : Int × Int × Int × Int × pj_M) => w_X11_day_46b r0  Q (fun (x2 : Int) (x3 : Int) (x4 : Int) (x5 : Int) (M : pj_M) => k (x2, x3, x4, x5, M)) s.1 s.2.1 s.2.2.1 s.2.2.2.1 s.2.2.2.2) (x2, x3, x4, x5, M)
def w_X11_day (r0 : Nat) (M : pj_M) (Q : Int → pj_M → Prop) : Prop :=
  w_X9_misfitOfDay (pj_rf r0 0) M (fun (t2 : Int) (M1 : pj_M) => (pj_in t2) ∧ ((t2 = (-1) → w_X1_copyFrom (pj_rf r0 3) (pj_rf r0 2) M1 (fun (M4 : pj_M) => w_X11_day_46 r0  Q 0 0 0 0 M4)) ∧ (¬ t2 = (-1) → w_X9_clear (pj_rf r0 0) M1 (fun (M27 : pj_M) => w_X11_cannotStand t2 M27 (fun (t30 : Int) (M29 : pj_M) => Q t30 M29)))))
set_option maxRecDepth 20000 in
set_option maxHeartbeats 4000000 in
theorem s_X11_day_152 {l : Launch} {g : pj_G} (hg : pj_ph g = true) {r0 : Nat} {x2 : Int} {u0 : Nat} {y1 : Int} {M : pj_M} {Q : Int → pj_M → Prop}  (o0 : pj_ob r0 11) (ou0 : pj_ob u0 11)  (h : w_X11_day_152 r0 x2 u0 y1  Q M) : pj_R l g mdX11_day pj_T (pj_Zm g mdX11_day (pj_qi Q)) pj_NK 0 0 152 [(0, .ref r0), (2, .int (pj_I x2))] [.long (pj_L y1), .ref u0] M := by
  unfold w_X11_day_152 at h
  refine pj_aload_n 153 0 rfl rfl rfl rfl ?_
  refine pj_aload_n 154 0 rfl rfl rfl rfl ?_
  refine pn_getr 157 11 8 hg o0 (pr_11_8 o0).2 rfl pfX11_58 rfl rfl ?_
  refine pj_aload_n 158 0 rfl rfl rfl rfl ?_
  refine pn_getr 161 11 2 hg o0 (pr_11_2 o0).2 rfl pfX11_26 rfl rfl ?_
  refine pn_getr 164 1 1 hg (pr_11_2 o0) (pr_1_1 (pr_11_2 o0)).2 rfl pfX11_132 rfl rfl ?_
  refine pn_callVi 167 11 [.ref (pj_rf r0 8), .ref (pj_rf (pj_rf r0 2) 1)] [.long (pj_L y1), .ref u0] o0 (s_X11_piecesOf hg o0 (pr_11_8 o0) (pr_1_1 (pr_11_2 o0)) h) plX11_253 rfl rfl rfl rfl (Nat.le_of_ble_eq_true rfl) (by decide) (fun t12 M11 h => ?_)
  obtain ⟨q13, h⟩ := h
  refine pj_i2l 168 rfl rfl q13 ?_
  refine pn_callVv 171 11 [.long (pj_L y1), .long (pj_L t12)] [] ou0 (s_X11_tellTwo hg ou0 h) plX11_265 rfl rfl rfl rfl (Nat.le_of_ble_eq_true rfl) (by decide) (fun M14 h => ?_)
  refine pj_iload_n 172 1 rfl rfl rfl rfl ?_
  exact pn_iret h rfl rfl
set_option maxRecDepth 20000 in
set_option maxHeartbeats 4000000 in
theorem s_X11_day_142 {l : Launch} {g : pj_G} (hg : pj_ph g = true) {r0 : Nat} {x2 : Int} {x3 : Int} {M : pj_M} {Q : Int → pj_M → Prop}  (o0 : pj_ob r0 11)  (h : w_X11_day_142 r0 x2 x3  Q M) : pj_R l g mdX11_day pj_T (pj_Zm g mdX11_day (pj_qi Q)) pj_NK 0 0 142 [(0, .ref r0), (2, .int (pj_I x2)), (3, .int (pj_I x3))] [] M := by
  unfold w_X11_day_142 at h
  refine pj_aload_n 143 0 rfl rfl rfl rfl ?_
  refine pj_iload_n 144 2 rfl rfl rfl rfl ?_
  obtain ⟨q10, h⟩ := h
  refine pj_if_eq 151 147 rfl (by decide) rfl q10  (fun hc => ?_) (fun hc => ?_)
  · replace h := h.1 hc
    refine pj_lconst 152 0 rfl (by decide) rfl ?_
    refine pn_sub [0, 1] rfl ?_
    exact s_X11_day_152 hg o0 o0  h
  · replace h := h.2 hc
    refine pj_lconst 148 1 rfl (by decide) rfl ?_
    refine pj_goto 152 rfl (by decide) ?_
    refine pn_sub [0, 1] rfl ?_
    exact s_X11_day_152 hg o0 o0  h
set_option maxRecDepth 20000 in
set_option maxHeartbeats 4000000 in
theorem s_X11_day_120 {l : Launch} {g : pj_G} (hg : pj_ph g = true) {r0 : Nat} {x2 : Int} {x3 : Int} {M : pj_M} {Q : Int → pj_M → Prop}  (o0 : pj_ob r0 11)  (h : w_X11_day_120 r0 x2 x3  Q M) : pj_R l g mdX11_day pj_T (pj_Zm g mdX11_day (pj_qi Q)) pj_NK 0 0 120 [(0, .ref r0), (2, .int (pj_I x2)), (3, .int (pj_I x3))] [] M := by
  unfold w_X11_day_120 at h
  refine pj_aload_n 121 0 rfl rfl rfl rfl ?_
  refine pn_getr 124 11 0 hg o0 (pr_11_0 o0).2 rfl pfX11_12 rfl rfl ?_
  refine pn_callVv 127 9 [] [] (pr_11_0 o0) (s_X9_clear hg (pr_11_0 o0) h) plX11_108 rfl rfl rfl rfl (Nat.le_of_ble_eq_true rfl) (by decide) (fun M7 h => ?_)
  refine pj_iload_n 128 1 rfl rfl rfl rfl ?_
  obtain ⟨q9, h⟩ := h
  refine pj_if_le 142 131 rfl (by decide) rfl q9  (fun hc => ?_) (fun hc => ?_)
  · replace h := h.1 hc
    refine pn_sub [0, 1, 2] rfl ?_
    exact s_X11_day_142 hg o0   h
  · replace h := h.2 hc
    refine pj_aload_n 132 0 rfl rfl rfl rfl ?_
    refine pn_getr 135 11 5 hg o0 (pr_11_5 o0).2 rfl pfX11_43 rfl rfl ?_
    refine pj_aload_n 136 0 rfl rfl rfl rfl ?_
    refine pn_getr 139 11 3 hg o0 (pr_11_3 o0).2 rfl pfX11_30 rfl rfl ?_
    refine pn_callVv 142 6 [.ref (pj_rf r0 3)] [] (pr_11_5 o0) (s_X6_push hg (pr_11_5 o0) (pr_11_3 o0) h) plX11_111 rfl rfl rfl rfl (Nat.le_of_ble_eq_true rfl) (by decide) (fun M16 h => ?_)
    refine pn_sub [0, 1, 2] rfl ?_
    exact s_X11_day_142 hg o0   h
set_option maxRecDepth 20000 in
set_option maxHeartbeats 4000000 in
theorem s_X11_day_96 {l : Launch} {g : pj_G} (hg : pj_ph g = true) {r0 : Nat} {x2 : Int} {x3 : Int} {x4 : Int} {x5 : Int} {M : pj_M} {Q : Int → pj_M → Prop} {k46 : Int → Int → Int → Int → pj_M → Prop} (o0 : pj_ob r0 11) (hk46 : ∀ (x2 : Int) (x3 : Int) (x4 : Int) (x5 : Int) (M : pj_M), k46 x2 x3 x4 x5 M → pj_R l g mdX11_day pj_T (pj_Zm g mdX11_day (pj_qi Q)) pj_NK 0 0 46 [(0, .ref r0), (2, .int (pj_I x2)), (3, .int (pj_I x3)), (4, .int (pj_I x4)), (5, .int (pj_I x5))] [] M) (h : w_X11_day_96 r0 x2 x3 x4 x5 k46 Q M) : pj_R l g mdX11_day pj_T (pj_Zm g mdX11_day (pj_qi Q)) pj_NK 0 0 96 [(0, .ref r0), (2, .int (pj_I x2)), (3, .int (pj_I x3)), (4, .int (pj_I x4)), (5, .int (pj_I x5))] [] M := by
  unfold w_X11_day_96 at h
  refine pj_iload 98 3 rfl rfl rfl ?_
  refine pj_aload_n 99 0 rfl rfl rfl rfl ?_
  refine pn_getr 102 11 0 hg o0 (pr_11_0 o0).2 rfl pfX11_12 rfl rfl ?_
  refine pn_getr 105 9 0 hg (pr_11_0 o0) (pr_9_0 (pr_11_0 o0)).2 rfl pfX11_349 rfl rfl ?_
  refine pj_iload 107 3 rfl rfl rfl ?_
  obtain ⟨q24, h⟩ := h
  refine pn_iald 108 80 (pr_9_0 (pr_11_0 o0)) q24 rfl rfl ?_
  refine pn_callSi 111 [.int (pj_I (M (pj_rf (pj_rf r0 0) 0) x4))] [.int (pj_I x4)] (s_X9_lengthOfChange hg  h) plX11_350 rfl rfl rfl rfl (Nat.le_of_ble_eq_true rfl) (by decide) (fun t26 M25 h => ?_)
  refine pj_iadd 112 rfl rfl ?_
  refine pj_istore 114 (ls' := [(0, .ref r0), (2, .int (pj_I x2)), (3, .int (pj_I x3)), (4, .int (pj_I (x4 + t26))), (5, .int (pj_I x5))]) rfl (by decide) rfl rfl ?_
  refine pj_iinc 117 4 (ls' := [(0, .ref r0), (2, .int (pj_I x2)), (3, .int (pj_I x3)), (4, .int (pj_I (x4 + t26))), (5, .int (pj_I (x5 + 1)))]) rfl rfl (by decide) rfl rfl ?_
  refine pj_goto 46 rfl (by decide) ?_
  refine pn_sub [0, 1, 2, 3, 4] rfl ?_
  exact hk46 _ _ _ _ _ h
set_option maxRecDepth 20000 in
set_option maxHeartbeats 4000000 in
theorem s_X11_day_46b {l : Launch} {g : pj_G} (hg : pj_ph g = true) {r0 : Nat} {x2 : Int} {x3 : Int} {x4 : Int} {x5 : Int} {M : pj_M} {Q : Int → pj_M → Prop}  {k46 : Int → Int → Int → Int → pj_M → Prop} (o0 : pj_ob r0 11)  (hk46 : ∀ (x2 : Int) (x3 : Int) (x4 : Int) (x5 : Int) (M : pj_M), k46 x2 x3 x4 x5 M → pj_R l g mdX11_day pj_T (pj_Zm g mdX11_day (pj_qi Q)) pj_NK 0 0 46 [(0, .ref r0), (2, .int (pj_I x2)), (3, .int (pj_I x3)), (4, .int (pj_I x4)), (5, .int (pj_I x5))] [] M) (h : w_X11_day_46b r0  Q k46 x2 x3 x4 x5 M) : pj_R l g mdX11_day pj_T (pj_Zm g mdX11_day (pj_qi Q)) pj_NK 0 0 46 [(0, .ref r0), (2, .int (pj_I x2)), (3, .int (pj_I x3)), (4, .int (pj_I x4)), (5, .int (pj_I x5))] [] M := by
  unfold w_X11_day_46b at h
  refine pj_iload 48 4 rfl rfl rfl ?_
  refine pj_bipush 50 rfl (by decide) rfl ?_
  obtain ⟨q6, h⟩ := h
  refine pj_icmp_ge 120 53 rfl (by decide) rfl q6 (show pj_in 80 by decide) (fun hc => ?_) (fun hc => ?_)
  · replace h := h.1 hc
    refine pn_sub [0, 1, 2] rfl ?_
    exact s_X11_day_120 hg o0   h
  · replace h := h.2 hc
    refine pj_iload 55 3 rfl rfl rfl ?_
    refine pj_aload_n 56 0 rfl rfl rfl rfl ?_
    refine pn_getr 59 11 0 hg o0 (pr_11_0 o0).2 rfl pfX11_12 rfl rfl ?_
    refine pn_geti 62 9 1 1 (pr_11_0 o0) rfl pfX11_97 (Or.inl rfl) rfl rfl ?_
    obtain ⟨q18, h⟩ := h
    obtain ⟨q19, h⟩ := h
    refine pj_icmp_ge 120 65 rfl (by decide) rfl q18 q19 (fun hc => ?_) (fun hc => ?_)
    · replace h := h.1 hc
      refine pn_sub [0, 1, 2] rfl ?_
      exact s_X11_day_120 hg o0   h
    · replace h := h.2 hc
      refine pj_iload_n 66 2 rfl rfl rfl rfl ?_
      obtain ⟨q20, h⟩ := h
      refine pj_if_ne 120 69 rfl (by decide) rfl q20  (fun hc => ?_) (fun hc => ?_)
      · replace h := h.1 hc
        refine pn_sub [0, 1, 2] rfl ?_
        exact s_X11_day_120 hg o0   h
      · replace h := h.2 (Classical.not_not.mp hc)
        refine pj_aload_n 70 0 rfl rfl rfl rfl ?_
        refine pn_getr 73 11 0 hg o0 (pr_11_0 o0).2 rfl pfX11_12 rfl rfl ?_
        refine pj_iload 75 3 rfl rfl rfl ?_
        refine pj_aload_n 76 0 rfl rfl rfl rfl ?_
        refine pn_getr 79 11 2 hg o0 (pr_11_2 o0).2 rfl pfX11_26 rfl rfl ?_
        refine pn_getr 82 1 1 hg (pr_11_2 o0) (pr_1_1 (pr_11_2 o0)).2 rfl pfX11_132 rfl rfl ?_
        refine pn_callVi 85 9 [.int (pj_I x4), .ref (pj_rf (pj_rf r0 2) 1)] [] (pr_11_0 o0) (s_X9_changeAt hg (pr_11_0 o0) (pr_1_1 (pr_11_2 o0)) h) plX11_345 rfl rfl rfl rfl (Nat.le_of_ble_eq_true rfl) (by decide) (fun t22 M21 h => ?_)
        obtain ⟨q23, h⟩ := h
        refine pj_if_ge 93 88 rfl (by decide) rfl q23  (fun hc => ?_) (fun hc => ?_)
        · replace h := h.1 hc
          refine pj_iinc 96 1 (ls' := [(0, .ref r0), (2, .int (pj_I (x2 + 1))), (3, .int (pj_I x3)), (4, .int (pj_I x4)), (5, .int (pj_I x5))]) rfl rfl (by decide) rfl rfl ?_
          refine pn_sub [0, 1, 2, 3, 4] rfl ?_
          exact s_X11_day_96 hg o0  hk46 h
        · replace h := h.2 hc
          refine pj_iconst 89 rfl rfl ?_
          refine pj_istore_n 90 (ls' := [(0, .ref r0), (2, .int (pj_I x2)), (3, .int (pj_I 1)), (4, .int (pj_I x4)), (5, .int (pj_I x5))]) rfl rfl (by decide) rfl rfl ?_
          refine pj_goto 96 rfl (by decide) ?_
          refine pn_sub [0, 1, 2, 3, 4] rfl ?_
          exact s_X11_day_96 hg o0  hk46 h
set_option maxRecDepth 20000 in
set_option maxHeartbeats 4000000 in
theorem s_X11_day_46 {l : Launch} {g : pj_G} (hg : pj_ph g = true) {r0 : Nat} {x2 : Int} {x3 : Int} {x4 : Int} {x5 : Int} {M : pj_M} {Q : Int → pj_M → Prop}  (o0 : pj_ob r0 11)  (h : w_X11_day_46 r0  Q x2 x3 x4 x5 M) : pj_R l g mdX11_day pj_T (pj_Zm g mdX11_day (pj_qi Q)) pj_NK 0 0 46 [(0, .ref r0), (2, .int (pj_I x2)), (3, .int (pj_I x3)), (4, .int (pj_I x4)), (5, .int (pj_I x5))] [] M :=
  h (fun s => pj_R l g mdX11_day pj_T (pj_Zm g mdX11_day (pj_qi Q)) pj_NK 0 0 46 [(0, .ref r0), (2, .int (pj_I (s.1))), (3, .int (pj_I (s.2.1))), (4, .int (pj_I (s.2.2.1))), (5, .int (pj_I (s.2.2.2.1)))] [] s.2.2.2.2) (fun s hs => s_X11_day_46b hg o0  (fun _ _ _ _ _ q => q) hs)
set_option maxRecDepth 20000 in
set_option maxHeartbeats 4000000 in
theorem s_X11_day {l : Launch} {g : pj_G} (hg : pj_ph g = true) {r0 : Nat} {M : pj_M} {Q : Int → pj_M → Prop} (o0 : pj_ob r0 11) (h : w_X11_day r0 M Q) : pj_S l g mdX11_day [.ref r0] pj_NK M (pj_qi Q) := by
  refine pj_ofR (ls := [(0, .ref r0)]) gcX11_day (by decide) rfl (Nat.le_of_ble_eq_true rfl) rfl ?_
  unfold w_X11_day at h
  refine pj_aload_n 1 0 rfl rfl rfl rfl ?_
  refine pn_getr 4 11 0 hg o0 (pr_11_0 o0).2 rfl pfX11_12 rfl rfl ?_
  refine pn_callVi 7 9 [] [] (pr_11_0 o0) (s_X9_misfitOfDay hg (pr_11_0 o0) h) plX11_342 rfl rfl rfl rfl (Nat.le_of_ble_eq_true rfl) (by decide) (fun t2 M1 h => ?_)
  refine pj_istore_n 8 (ls' := [(0, .ref r0), (1, .int (pj_I t2))]) rfl rfl (by decide) rfl rfl ?_
  refine pj_iload_n 9 1 rfl rfl rfl rfl ?_
  refine pj_iconst 10 rfl rfl ?_
  obtain ⟨q3, h⟩ := h
  refine pj_icmp_eq 25 13 rfl (by decide) rfl q3 (show pj_in (-1) by decide) (fun hc => ?_) (fun hc => ?_)
  · replace h := h.1 hc
    refine pj_aload_n 26 0 rfl rfl rfl rfl ?_
    refine pn_getr 29 11 3 hg o0 (pr_11_3 o0).2 rfl pfX11_30 rfl rfl ?_
    refine pj_aload_n 30 0 rfl rfl rfl rfl ?_
    refine pn_getr 33 11 2 hg o0 (pr_11_2 o0).2 rfl pfX11_26 rfl rfl ?_
    refine pn_callVv 36 1 [.ref (pj_rf r0 2)] [] (pr_11_3 o0) (s_X1_copyFrom hg (pr_11_3 o0) (pr_11_2 o0) h) plX11_328 rfl rfl rfl rfl (Nat.le_of_ble_eq_true rfl) (by decide) (fun M4 h => ?_)
    refine pj_iconst 37 rfl rfl ?_
    refine pj_istore_n 38 (ls' := [(0, .ref r0), (1, .int (pj_I t2)), (2, .int (pj_I 0))]) rfl rfl (by decide) rfl rfl ?_
    refine pj_iconst 39 rfl rfl ?_
    refine pj_istore_n 40 (ls' := [(0, .ref r0), (1, .int (pj_I t2)), (2, .int (pj_I 0)), (3, .int (pj_I 0))]) rfl rfl (by decide) rfl rfl ?_
    refine pj_iconst 41 rfl rfl ?_
    refine pj_istore 43 (ls' := [(0, .ref r0), (1, .int (pj_I t2)), (2, .int (pj_I 0)), (3, .int (pj_I 0)), (4, .int (pj_I 0))]) rfl (by decide) rfl rfl ?_
    refine pj_iconst 44 rfl rfl ?_
    refine pj_istore 46 (ls' := [(0, .ref r0), (1, .int (pj_I t2)), (2, .int (pj_I 0)), (3, .int (pj_I 0)), (4, .int (pj_I 0)), (5, .int (pj_I 0))]) rfl (by decide) rfl rfl ?_
    refine pn_sub [0, 2, 3, 4, 5] rfl ?_
    exact s_X11_day_46 hg o0   h
  · replace h := h.2 hc
    refine pj_aload_n 14 0 rfl rfl rfl rfl ?_
    refine pn_getr 17 11 0 hg o0 (pr_11_0 o0).2 rfl pfX11_12 rfl rfl ?_
    refine pn_callVv 20 9 [] [] (pr_11_0 o0) (s_X9_clear hg (pr_11_0 o0) h) plX11_108 rfl rfl rfl rfl (Nat.le_of_ble_eq_true rfl) (by decide) (fun M27 h => ?_)
    refine pj_iload_n 21 1 rfl rfl rfl rfl ?_
    refine pn_callSi 24 [.int (pj_I t2)] [] (s_X11_cannotStand hg  h) plX11_140 rfl rfl rfl rfl (Nat.le_of_ble_eq_true rfl) (by decide) (fun t30 M29 h => ?_)
    exact pn_iret h rfl rfl
def w_X11_undo (r0 : Nat) (M : pj_M) (Q : Int → pj_M → Prop) : Prop :=
  w_X6_pop (pj_rf r0 5) (pj_rf r0 2) M (fun (t2 : Int) (M1 : pj_M) => (pj_in t2) ∧ ((t2 = 0 → Q (-1) M1) ∧ (¬ t2 = 0 → Q (M1 (pj_rf r0 5) 2) M1)))
set_option maxRecDepth 20000 in
set_option maxHeartbeats 4000000 in
theorem s_X11_undo {l : Launch} {g : pj_G} (hg : pj_ph g = true) {r0 : Nat} {M : pj_M} {Q : Int → pj_M → Prop} (o0 : pj_ob r0 11) (h : w_X11_undo r0 M Q) : pj_S l g mdX11_undo [.ref r0] pj_NK M (pj_qi Q) := by
  refine pj_ofR (ls := [(0, .ref r0)]) gcX11_undo (by decide) rfl (Nat.le_of_ble_eq_true rfl) rfl ?_
  unfold w_X11_undo at h
  refine pj_aload_n 1 0 rfl rfl rfl rfl ?_
  refine pn_getr 4 11 5 hg o0 (pr_11_5 o0).2 rfl pfX11_43 rfl rfl ?_
  refine pj_aload_n 5 0 rfl rfl rfl rfl ?_
  refine pn_getr 8 11 2 hg o0 (pr_11_2 o0).2 rfl pfX11_26 rfl rfl ?_
  refine pn_callVi 11 6 [.ref (pj_rf r0 2)] [] (pr_11_5 o0) (s_X6_pop hg (pr_11_5 o0) (pr_11_2 o0) h) plX11_353 rfl rfl rfl rfl (Nat.le_of_ble_eq_true rfl) (by decide) (fun t2 M1 h => ?_)
  obtain ⟨q3, h⟩ := h
  refine pj_if_eq 24 14 rfl (by decide) rfl q3  (fun hc => ?_) (fun hc => ?_)
  · replace h := h.1 hc
    refine pj_iconst 25 rfl rfl ?_
    exact pn_iret h rfl rfl
  · replace h := h.2 hc
    refine pj_aload_n 15 0 rfl rfl rfl rfl ?_
    refine pn_getr 18 11 5 hg o0 (pr_11_5 o0).2 rfl pfX11_43 rfl rfl ?_
    refine pn_geti 21 6 2 2 (pr_11_5 o0) rfl pfX11_357 (Or.inl rfl) rfl rfl ?_
    refine pj_goto 25 rfl (by decide) ?_
    exact pn_iret h rfl rfl
def w_X11_years (r0 : Nat) (x1 : Int) (x2 : Int) (M : pj_M) (Q : Int → pj_M → Prop) : Prop :=
  (pj_in x2) ∧ ((x2 < 1 → Q (-1) M) ∧ (¬ x2 < 1 → (pj_in x2) ∧ ((x2 ≤ 20 → w_X7_copyFrom (pj_rf r0 4) (pj_rf (pj_rf r0 2) 1) M (fun (M3 : pj_M) => w_X7_live (pj_rf r0 4) x1 x2 M3 (fun (t6 : Int) (M5 : pj_M) => w_X11_piecesOf r0 (pj_rf r0 9) (pj_rf r0 4) M5 (fun (t8 : Int) (M7 : pj_M) => w_X2_measure (pj_rf r0 11) (pj_rf r0 9) (pj_rf r0 4) M7 (fun (t10 : Int) (M9 : pj_M) => (pj_in t10) ∧ (pj_in (M9 (pj_rf r0 4) 1)) ∧ w_X11_tellTwo r0 t10 (M9 (pj_rf r0 4) 1) M9 (fun (M13 : pj_M) => (pj_in t6) ∧ w_X11_tellMore r0 t6 M13 (fun (M16 : pj_M) => Q t8 M16))))))) ∧ (¬ x2 ≤ 20 → Q (-1) M))))
set_option maxRecDepth 20000 in
set_option maxHeartbeats 4000000 in
theorem s_X11_years {l : Launch} {g : pj_G} (hg : pj_ph g = true) {r0 : Nat} {x1 : Int} {x2 : Int} {M : pj_M} {Q : Int → pj_M → Prop} (o0 : pj_ob r0 11) (h : w_X11_years r0 x1 x2 M Q) : pj_S l g mdX11_years [.ref r0, .int (pj_I x1), .int (pj_I x2)] pj_NK M (pj_qi Q) := by
  refine pj_ofR (ls := [(0, .ref r0), (1, .int (pj_I x1)), (2, .int (pj_I x2))]) gcX11_years (by decide) rfl (Nat.le_of_ble_eq_true rfl) rfl ?_
  unfold w_X11_years at h
  refine pj_iload_n 1 2 rfl rfl rfl rfl ?_
  refine pj_iconst 2 rfl rfl ?_
  obtain ⟨q1, h⟩ := h
  refine pj_icmp_lt 11 5 rfl (by decide) rfl q1 (show pj_in 1 by decide) (fun hc => ?_) (fun hc => ?_)
  · replace h := h.1 hc
    refine pj_iconst 12 rfl rfl ?_
    exact pn_iret h rfl rfl
  · replace h := h.2 hc
    refine pj_iload_n 6 2 rfl rfl rfl rfl ?_
    refine pj_bipush 8 rfl (by decide) rfl ?_
    obtain ⟨q2, h⟩ := h
    refine pj_icmp_le 13 11 rfl (by decide) rfl q2 (show pj_in 20 by decide) (fun hc => ?_) (fun hc => ?_)
    · replace h := h.1 hc
      refine pj_aload_n 14 0 rfl rfl rfl rfl ?_
      refine pn_getr 17 11 4 hg o0 (pr_11_4 o0).2 rfl pfX11_36 rfl rfl ?_
      refine pj_aload_n 18 0 rfl rfl rfl rfl ?_
      refine pn_getr 21 11 2 hg o0 (pr_11_2 o0).2 rfl pfX11_26 rfl rfl ?_
      refine pn_getr 24 1 1 hg (pr_11_2 o0) (pr_1_1 (pr_11_2 o0)).2 rfl pfX11_132 rfl rfl ?_
      refine pn_callVv 27 7 [.ref (pj_rf (pj_rf r0 2) 1)] [] (pr_11_4 o0) (s_X7_copyFrom hg (pr_11_4 o0) (pr_1_1 (pr_11_2 o0)) h) plX11_358 rfl rfl rfl rfl (Nat.le_of_ble_eq_true rfl) (by decide) (fun M3 h => ?_)
      refine pj_aload_n 28 0 rfl rfl rfl rfl ?_
      refine pn_getr 31 11 4 hg o0 (pr_11_4 o0).2 rfl pfX11_36 rfl rfl ?_
      refine pj_iload_n 32 1 rfl rfl rfl rfl ?_
      refine pj_iload_n 33 2 rfl rfl rfl rfl ?_
      refine pn_callVi 36 7 [.int (pj_I x1), .int (pj_I x2)] [] (pr_11_4 o0) (s_X7_live hg (pr_11_4 o0) h) plX11_360 rfl rfl rfl rfl (Nat.le_of_ble_eq_true rfl) (by decide) (fun t6 M5 h => ?_)
      refine pj_istore_n 37 (ls' := [(0, .ref r0), (1, .int (pj_I x1)), (2, .int (pj_I x2)), (3, .int (pj_I t6))]) rfl rfl (by decide) rfl rfl ?_
      refine pj_aload_n 38 0 rfl rfl rfl rfl ?_
      refine pj_aload_n 39 0 rfl rfl rfl rfl ?_
      refine pn_getr 42 11 9 hg o0 (pr_11_9 o0).2 rfl pfX11_62 rfl rfl ?_
      refine pj_aload_n 43 0 rfl rfl rfl rfl ?_
      refine pn_getr 46 11 4 hg o0 (pr_11_4 o0).2 rfl pfX11_36 rfl rfl ?_
      refine pn_callVi 49 11 [.ref (pj_rf r0 9), .ref (pj_rf r0 4)] [] o0 (s_X11_piecesOf hg o0 (pr_11_9 o0) (pr_11_4 o0) h) plX11_253 rfl rfl rfl rfl (Nat.le_of_ble_eq_true rfl) (by decide) (fun t8 M7 h => ?_)
      refine pj_istore 51 (ls' := [(0, .ref r0), (1, .int (pj_I x1)), (2, .int (pj_I x2)), (3, .int (pj_I t6)), (4, .int (pj_I t8))]) rfl (by decide) rfl rfl ?_
      refine pj_aload_n 52 0 rfl rfl rfl rfl ?_
      refine pj_aload_n 53 0 rfl rfl rfl rfl ?_
      refine pn_getr 56 11 11 hg o0 (pr_11_11 o0).2 rfl pfX11_71 rfl rfl ?_
      refine pj_aload_n 57 0 rfl rfl rfl rfl ?_
      refine pn_getr 60 11 9 hg o0 (pr_11_9 o0).2 rfl pfX11_62 rfl rfl ?_
      refine pj_aload_n 61 0 rfl rfl rfl rfl ?_
      refine pn_getr 64 11 4 hg o0 (pr_11_4 o0).2 rfl pfX11_36 rfl rfl ?_
      refine pn_callVi 67 2 [.ref (pj_rf r0 9), .ref (pj_rf r0 4)] [.ref r0] (pr_11_11 o0) (s_X2_measure hg (pr_11_11 o0) (pr_11_9 o0) (pr_11_4 o0) h) plX11_257 rfl rfl rfl rfl (Nat.le_of_ble_eq_true rfl) (by decide) (fun t10 M9 h => ?_)
      obtain ⟨q11, h⟩ := h
      refine pj_i2l 68 rfl rfl q11 ?_
      refine pj_aload_n 69 0 rfl rfl rfl rfl ?_
      refine pn_getr 72 11 4 hg o0 (pr_11_4 o0).2 rfl pfX11_36 rfl rfl ?_
      refine pn_geti 75 7 1 1 (pr_11_4 o0) rfl pfX11_139 (Or.inl rfl) rfl rfl ?_
      obtain ⟨q12, h⟩ := h
      refine pj_i2l 76 rfl rfl q12 ?_
      refine pn_callVv 79 11 [.long (pj_L t10), .long (pj_L (M9 (pj_rf r0 4) 1))] [] o0 (s_X11_tellTwo hg o0 h) plX11_265 rfl rfl rfl rfl (Nat.le_of_ble_eq_true rfl) (by decide) (fun M13 h => ?_)
      refine pj_aload_n 80 0 rfl rfl rfl rfl ?_
      refine pj_iload_n 81 3 rfl rfl rfl rfl ?_
      obtain ⟨q15, h⟩ := h
      refine pj_i2l 82 rfl rfl q15 ?_
      refine pn_callVv 85 11 [.long (pj_L t6)] [] o0 (s_X11_tellMore hg o0 h) plX11_275 rfl rfl rfl rfl (Nat.le_of_ble_eq_true rfl) (by decide) (fun M16 h => ?_)
      refine pj_iload 87 4 rfl rfl rfl ?_
      exact pn_iret h rfl rfl
    · replace h := h.2 hc
      refine pj_iconst 12 rfl rfl ?_
      exact pn_iret h rfl rfl
def w_X11_keep (r0 : Nat) (x1 : Int) (M : pj_M) (Q : Int → pj_M → Prop) : Prop :=
  (pj_in x1) ∧ ((x1 < 0 → Q 0 M) ∧ (¬ x1 < 0 → (pj_in x1) ∧ ((x1 < 2 → ((0 : Int) ≤ x1 ∧ x1 < 2) ∧ w_X1_copyFrom (pj_rf (pj_rf r0 6) (x1).toNat) (pj_rf r0 2) M (fun (M4 : pj_M) => ((0 : Int) ≤ x1 ∧ x1 < 2) ∧ ∀ M7 : pj_M, M7 = pj_up M4 (pj_rf r0 7) x1 1 → Q 1 M7)) ∧ (¬ x1 < 2 → Q 0 M))))
set_option maxRecDepth 20000 in
set_option maxHeartbeats 4000000 in
theorem s_X11_keep {l : Launch} {g : pj_G} (hg : pj_ph g = true) {r0 : Nat} {x1 : Int} {M : pj_M} {Q : Int → pj_M → Prop} (o0 : pj_ob r0 11) (h : w_X11_keep r0 x1 M Q) : pj_S l g mdX11_keep [.ref r0, .int (pj_I x1)] pj_NK M (pj_qi Q) := by
  refine pj_ofR (ls := [(0, .ref r0), (1, .int (pj_I x1))]) gcX11_keep (by decide) rfl (Nat.le_of_ble_eq_true rfl) rfl ?_
  unfold w_X11_keep at h
  refine pj_iload_n 1 1 rfl rfl rfl rfl ?_
  obtain ⟨q1, h⟩ := h
  refine pj_if_lt 9 4 rfl (by decide) rfl q1  (fun hc => ?_) (fun hc => ?_)
  · replace h := h.1 hc
    refine pj_iconst 10 rfl rfl ?_
    exact pn_zret (by decide) h rfl rfl
  · replace h := h.2 hc
    refine pj_iload_n 5 1 rfl rfl rfl rfl ?_
    refine pj_iconst 6 rfl rfl ?_
    obtain ⟨q2, h⟩ := h
    refine pj_icmp_lt 11 9 rfl (by decide) rfl q2 (show pj_in 2 by decide) (fun hc => ?_) (fun hc => ?_)
    · replace h := h.1 hc
      refine pj_aload_n 12 0 rfl rfl rfl rfl ?_
      refine pn_getr 15 11 6 hg o0 (pr_11_6 o0).2 rfl pfX11_47 rfl rfl ?_
      refine pj_iload_n 16 1 rfl rfl rfl rfl ?_
      obtain ⟨q3, h⟩ := h
      refine pn_aald 17 2 hg (pr_11_6 o0) (pr_desks (pr_11_6 o0) q3).2 q3 rfl rfl ?_
      refine pj_aload_n 18 0 rfl rfl rfl rfl ?_
      refine pn_getr 21 11 2 hg o0 (pr_11_2 o0).2 rfl pfX11_26 rfl rfl ?_
      refine pn_callVv 24 1 [.ref (pj_rf r0 2)] [] (pr_desks (pr_11_6 o0) q3) (s_X1_copyFrom hg (pr_desks (pr_11_6 o0) q3) (pr_11_2 o0) h) plX11_328 rfl rfl rfl rfl (Nat.le_of_ble_eq_true rfl) (by decide) (fun M4 h => ?_)
      refine pj_aload_n 25 0 rfl rfl rfl rfl ?_
      refine pn_getr 28 11 7 hg o0 (pr_11_7 o0).2 rfl pfX11_51 rfl rfl ?_
      refine pj_iload_n 29 1 rfl rfl rfl rfl ?_
      refine pj_iconst 30 rfl rfl ?_
      obtain ⟨q6, h⟩ := h
      refine pn_zast 31 2 (pr_11_7 o0) (by decide) q6 rfl rfl (fun M7 hM7 => ?_)
      replace h := h M7 hM7
      refine pj_iconst 32 rfl rfl ?_
      exact pn_zret (by decide) h rfl rfl
    · replace h := h.2 hc
      refine pj_iconst 10 rfl rfl ?_
      exact pn_zret (by decide) h rfl rfl
def w_X11_again (r0 : Nat) (x1 : Int) (M : pj_M) (Q : Int → pj_M → Prop) : Prop :=
  (pj_in x1) ∧ ((x1 < 0 → Q 0 M) ∧ (¬ x1 < 0 → (pj_in x1) ∧ ((2 ≤ x1 → Q 0 M) ∧ (¬ 2 ≤ x1 → ((0 : Int) ≤ x1 ∧ x1 < 2) ∧ (pj_in (M (pj_rf r0 7) x1)) ∧ ((¬ (M (pj_rf r0 7) x1) = 0 → ((0 : Int) ≤ x1 ∧ x1 < 2) ∧ w_X1_copyFrom (pj_rf r0 2) (pj_rf (pj_rf r0 6) (x1).toNat) M (fun (M6 : pj_M) => w_X6_clear (pj_rf r0 5) M6 (fun (M8 : pj_M) => Q 1 M8))) ∧ ((M (pj_rf r0 7) x1) = 0 → Q 0 M))))))
set_option maxRecDepth 20000 in
set_option maxHeartbeats 4000000 in
theorem s_X11_again {l : Launch} {g : pj_G} (hg : pj_ph g = true) {r0 : Nat} {x1 : Int} {M : pj_M} {Q : Int → pj_M → Prop} (o0 : pj_ob r0 11) (h : w_X11_again r0 x1 M Q) : pj_S l g mdX11_again [.ref r0, .int (pj_I x1)] pj_NK M (pj_qi Q) := by
  refine pj_ofR (ls := [(0, .ref r0), (1, .int (pj_I x1))]) gcX11_again (by decide) rfl (Nat.le_of_ble_eq_true rfl) rfl ?_
  unfold w_X11_again at h
  refine pj_iload_n 1 1 rfl rfl rfl rfl ?_
  obtain ⟨q1, h⟩ := h
  refine pj_if_lt 18 4 rfl (by decide) rfl q1  (fun hc => ?_) (fun hc => ?_)
  · replace h := h.1 hc
    refine pj_iconst 19 rfl rfl ?_
    exact pn_zret (by decide) h rfl rfl
  · replace h := h.2 hc
    refine pj_iload_n 5 1 rfl rfl rfl rfl ?_
    refine pj_iconst 6 rfl rfl ?_
    obtain ⟨q2, h⟩ := h
    refine pj_icmp_ge 18 9 rfl (by decide) rfl q2 (show pj_in 2 by decide) (fun hc => ?_) (fun hc => ?_)
    · replace h := h.1 hc
      refine pj_iconst 19 rfl rfl ?_
      exact pn_zret (by decide) h rfl rfl
    · replace h := h.2 hc
      refine pj_aload_n 10 0 rfl rfl rfl rfl ?_
      refine pn_getr 13 11 7 hg o0 (pr_11_7 o0).2 rfl pfX11_51 rfl rfl ?_
      refine pj_iload_n 14 1 rfl rfl rfl rfl ?_
      obtain ⟨q3, h⟩ := h
      refine pn_bald 15 2 2 (pr_11_7 o0) (by decide) q3 rfl rfl ?_
      obtain ⟨q4, h⟩ := h
      refine pj_if_ne 20 18 rfl (by decide) rfl q4  (fun hc => ?_) (fun hc => ?_)
      · replace h := h.1 hc
        refine pj_aload_n 21 0 rfl rfl rfl rfl ?_
        refine pn_getr 24 11 2 hg o0 (pr_11_2 o0).2 rfl pfX11_26 rfl rfl ?_
        refine pj_aload_n 25 0 rfl rfl rfl rfl ?_
        refine pn_getr 28 11 6 hg o0 (pr_11_6 o0).2 rfl pfX11_47 rfl rfl ?_
        refine pj_iload_n 29 1 rfl rfl rfl rfl ?_
        obtain ⟨q5, h⟩ := h
        refine pn_aald 30 2 hg (pr_11_6 o0) (pr_desks (pr_11_6 o0) q5).2 q5 rfl rfl ?_
        refine pn_callVv 33 1 [.ref (pj_rf (pj_rf r0 6) (x1).toNat)] [] (pr_11_2 o0) (s_X1_copyFrom hg (pr_11_2 o0) (pr_desks (pr_11_6 o0) q5) h) plX11_328 rfl rfl rfl rfl (Nat.le_of_ble_eq_true rfl) (by decide) (fun M6 h => ?_)
        refine pj_aload_n 34 0 rfl rfl rfl rfl ?_
        refine pn_getr 37 11 5 hg o0 (pr_11_5 o0).2 rfl pfX11_43 rfl rfl ?_
        refine pn_callVv 40 6 [] [] (pr_11_5 o0) (s_X6_clear hg (pr_11_5 o0) h) plX11_363 rfl rfl rfl rfl (Nat.le_of_ble_eq_true rfl) (by decide) (fun M8 h => ?_)
        refine pj_iconst 41 rfl rfl ?_
        exact pn_zret (by decide) h rfl rfl
      · replace h := h.2 (Classical.not_not.mp hc)
        refine pj_iconst 19 rfl rfl ?_
        exact pn_zret (by decide) h rfl rfl
def w_X11_count (r0 : Nat) (x1 : Int) (M : pj_M) (Q : Int → pj_M → Prop) : Prop :=
  (pj_in x1) ∧ (((x1 < 0 ∨ 8 < x1) → Q (-1) M) ∧ (x1 = 0 → Q (M (pj_rf (pj_rf r0 2) 1) 1) M) ∧ (x1 = 1 → Q (M (pj_rf (pj_rf r0 2) 0) 3) M) ∧ (x1 = 2 → Q (M (pj_rf (pj_rf r0 2) 0) 5) M) ∧ (x1 = 3 → Q (M (pj_rf (pj_rf r0 2) 0) 4) M) ∧ (x1 = 4 → Q (M (pj_rf r0 2) 3) M) ∧ (x1 = 5 → Q (M (pj_rf r0 5) 2) M) ∧ (x1 = 6 → Q (M r0 15) M) ∧ (x1 = 7 → Q (M (pj_rf r0 0) 1) M) ∧ (x1 = 8 → w_X0_learn (pj_rf r0 8) (pj_rf (pj_rf r0 2) 0) 0 M (fun (M2 : pj_M) => w_X0_signsOfSentences (pj_rf r0 8) M2 (fun (t5 : Int) (M4 : pj_M) => Q t5 M4))))
set_option maxRecDepth 20000 in
set_option maxHeartbeats 4000000 in
theorem s_X11_count {l : Launch} {g : pj_G} (hg : pj_ph g = true) {r0 : Nat} {x1 : Int} {M : pj_M} {Q : Int → pj_M → Prop} (o0 : pj_ob r0 11) (h : w_X11_count r0 x1 M Q) : pj_S l g mdX11_count [.ref r0, .int (pj_I x1)] pj_NK M (pj_qi Q) := by
  refine pj_ofR (ls := [(0, .ref r0), (1, .int (pj_I x1))]) gcX11_count (by decide) rfl (Nat.le_of_ble_eq_true rfl) rfl ?_
  unfold w_X11_count at h
  refine pj_iload_n 1 1 rfl rfl rfl rfl ?_
  obtain ⟨q1, h⟩ := h
  rcases Classical.em (x1 < 0 ∨ 8 < x1) with hc | hc
  · replace h := h.1 hc
    refine pj_tout 148 rfl q1 hc (by decide) ?_
    refine pj_iconst 149 rfl rfl ?_
    exact pn_iret h rfl rfl
  · replace h := h.2
    rcases Classical.em (x1 = 0) with hc2 | hc2
    · replace h := h.1 hc2
      refine pj_tin 52 rfl q1 (by omega) (by omega) (by rw [hc2]; rfl) (by decide) ?_
      refine pj_aload_n 53 0 rfl rfl rfl rfl ?_
      refine pn_getr 56 11 2 hg o0 (pr_11_2 o0).2 rfl pfX11_26 rfl rfl ?_
      refine pn_getr 59 1 1 hg (pr_11_2 o0) (pr_1_1 (pr_11_2 o0)).2 rfl pfX11_132 rfl rfl ?_
      refine pn_geti 62 7 1 1 (pr_1_1 (pr_11_2 o0)) rfl pfX11_139 (Or.inl rfl) rfl rfl ?_
      exact pn_iret h rfl rfl
    replace h := h.2
    have hn0 := hc2
    clear hc2
    rcases Classical.em (x1 = 1) with hc2 | hc2
    · replace h := h.1 hc2
      refine pj_tin 63 rfl q1 (by omega) (by omega) (by rw [hc2]; rfl) (by decide) ?_
      refine pj_aload_n 64 0 rfl rfl rfl rfl ?_
      refine pn_getr 67 11 2 hg o0 (pr_11_2 o0).2 rfl pfX11_26 rfl rfl ?_
      refine pn_getr 70 1 0 hg (pr_11_2 o0) (pr_1_0 (pr_11_2 o0)).2 rfl pfX11_115 rfl rfl ?_
      refine pn_geti 73 4 3 3 (pr_1_0 (pr_11_2 o0)) rfl pfX11_153 (Or.inl rfl) rfl rfl ?_
      exact pn_iret h rfl rfl
    replace h := h.2
    have hn1 := hc2
    clear hc2
    rcases Classical.em (x1 = 2) with hc2 | hc2
    · replace h := h.1 hc2
      refine pj_tin 74 rfl q1 (by omega) (by omega) (by rw [hc2]; rfl) (by decide) ?_
      refine pj_aload_n 75 0 rfl rfl rfl rfl ?_
      refine pn_getr 78 11 2 hg o0 (pr_11_2 o0).2 rfl pfX11_26 rfl rfl ?_
      refine pn_getr 81 1 0 hg (pr_11_2 o0) (pr_1_0 (pr_11_2 o0)).2 rfl pfX11_115 rfl rfl ?_
      refine pn_geti 84 4 5 5 (pr_1_0 (pr_11_2 o0)) rfl pfX11_364 (Or.inl rfl) rfl rfl ?_
      exact pn_iret h rfl rfl
    replace h := h.2
    have hn2 := hc2
    clear hc2
    rcases Classical.em (x1 = 3) with hc2 | hc2
    · replace h := h.1 hc2
      refine pj_tin 85 rfl q1 (by omega) (by omega) (by rw [hc2]; rfl) (by decide) ?_
      refine pj_aload_n 86 0 rfl rfl rfl rfl ?_
      refine pn_getr 89 11 2 hg o0 (pr_11_2 o0).2 rfl pfX11_26 rfl rfl ?_
      refine pn_getr 92 1 0 hg (pr_11_2 o0) (pr_1_0 (pr_11_2 o0)).2 rfl pfX11_115 rfl rfl ?_
      refine pn_geti 95 4 4 4 (pr_1_0 (pr_11_2 o0)) rfl pfX11_198 (Or.inl rfl) rfl rfl ?_
      exact pn_iret h rfl rfl
    replace h := h.2
    have hn3 := hc2
    clear hc2
    rcases Classical.em (x1 = 4) with hc2 | hc2
    · replace h := h.1 hc2
      refine pj_tin 96 rfl q1 (by omega) (by omega) (by rw [hc2]; rfl) (by decide) ?_
      refine pj_aload_n 97 0 rfl rfl rfl rfl ?_
      refine pn_getr 100 11 2 hg o0 (pr_11_2 o0).2 rfl pfX11_26 rfl rfl ?_
      refine pn_geti 103 1 3 3 (pr_11_2 o0) rfl pfX11_150 (Or.inl rfl) rfl rfl ?_
      exact pn_iret h rfl rfl
    replace h := h.2
    have hn4 := hc2
    clear hc2
    rcases Classical.em (x1 = 5) with hc2 | hc2
    · replace h := h.1 hc2
      refine pj_tin 104 rfl q1 (by omega) (by omega) (by rw [hc2]; rfl) (by decide) ?_
      refine pj_aload_n 105 0 rfl rfl rfl rfl ?_
      refine pn_getr 108 11 5 hg o0 (pr_11_5 o0).2 rfl pfX11_43 rfl rfl ?_
      refine pn_geti 111 6 2 2 (pr_11_5 o0) rfl pfX11_357 (Or.inl rfl) rfl rfl ?_
      exact pn_iret h rfl rfl
    replace h := h.2
    have hn5 := hc2
    clear hc2
    rcases Classical.em (x1 = 6) with hc2 | hc2
    · replace h := h.1 hc2
      refine pj_tin 112 rfl q1 (by omega) (by omega) (by rw [hc2]; rfl) (by decide) ?_
      refine pj_aload_n 113 0 rfl rfl rfl rfl ?_
      refine pn_geti 116 11 15 15 o0 rfl pfX11_272 (Or.inl rfl) rfl rfl ?_
      exact pn_iret h rfl rfl
    replace h := h.2
    have hn6 := hc2
    clear hc2
    rcases Classical.em (x1 = 7) with hc2 | hc2
    · replace h := h.1 hc2
      refine pj_tin 117 rfl q1 (by omega) (by omega) (by rw [hc2]; rfl) (by decide) ?_
      refine pj_aload_n 118 0 rfl rfl rfl rfl ?_
      refine pn_getr 121 11 0 hg o0 (pr_11_0 o0).2 rfl pfX11_12 rfl rfl ?_
      refine pn_geti 124 9 1 1 (pr_11_0 o0) rfl pfX11_97 (Or.inl rfl) rfl rfl ?_
      exact pn_iret h rfl rfl
    replace h := h.2
    have hn7 := hc2
    clear hc2
    have hc2 : x1 = 8 := by omega
    replace h := h hc2
    refine pj_tin 125 rfl q1 (by omega) (by omega) (by rw [hc2]; rfl) (by decide) ?_
    refine pj_aload_n 126 0 rfl rfl rfl rfl ?_
    refine pn_getr 129 11 8 hg o0 (pr_11_8 o0).2 rfl pfX11_58 rfl rfl ?_
    refine pj_aload_n 130 0 rfl rfl rfl rfl ?_
    refine pn_getr 133 11 2 hg o0 (pr_11_2 o0).2 rfl pfX11_26 rfl rfl ?_
    refine pn_getr 136 1 0 hg (pr_11_2 o0) (pr_1_0 (pr_11_2 o0)).2 rfl pfX11_115 rfl rfl ?_
    refine pj_iconst 137 rfl rfl ?_
    refine pn_callVv 140 0 [.ref (pj_rf (pj_rf r0 2) 0), .int (pj_I 0)] [] (pr_11_8 o0) (s_X0_learn hg (pr_11_8 o0) (pr_1_0 (pr_11_2 o0)) h) plX11_285 rfl rfl rfl rfl (Nat.le_of_ble_eq_true rfl) (by decide) (fun M2 h => ?_)
    refine pj_aload_n 141 0 rfl rfl rfl rfl ?_
    refine pn_getr 144 11 8 hg o0 (pr_11_8 o0).2 rfl pfX11_58 rfl rfl ?_
    refine pn_callVi 147 0 [] [] (pr_11_8 o0) (s_X0_signsOfSentences hg (pr_11_8 o0) h) plX11_301 rfl rfl rfl rfl (Nat.le_of_ble_eq_true rfl) (by decide) (fun t5 M4 h => ?_)
    exact pn_iret h rfl rfl
def w_X12_thrown (r0 : Nat) (M : pj_M) (Q : Int → pj_M → Prop) : Prop :=
  Q (M r0 5) M
set_option maxRecDepth 20000 in
set_option maxHeartbeats 4000000 in
theorem s_X12_thrown {l : Launch} {g : pj_G} (hg : pj_ph g = true) {r0 : Nat} {M : pj_M} {Q : Int → pj_M → Prop} (o0 : pj_ob r0 12) (h : w_X12_thrown r0 M Q) : pj_S l g mdX12_thrown [.ref r0] pj_NK M (pj_qi Q) := by
  refine pj_ofR (ls := [(0, .ref r0)]) gcX12_thrown (by decide) rfl (Nat.le_of_ble_eq_true rfl) rfl ?_
  unfold w_X12_thrown at h
  refine pj_aload_n 1 0 rfl rfl rfl rfl ?_
  refine pn_geti 4 12 5 5 o0 rfl pfX12_88 (Or.inl rfl) rfl rfl ?_
  exact pn_iret h rfl rfl
def w_X12_in (x0 : Int) (x1 : Int) (x2 : Int) (M : pj_M) (Q : Int → pj_M → Prop) : Prop :=
  (pj_in x0) ∧ (pj_in x1) ∧ ((x0 < x1 → Q 0 M) ∧ (¬ x0 < x1 → (pj_in x0) ∧ (pj_in x2) ∧ ((x2 < x0 → Q 0 M) ∧ (¬ x2 < x0 → Q 1 M))))
set_option maxRecDepth 20000 in
set_option maxHeartbeats 4000000 in
theorem s_X12_in {l : Launch} {g : pj_G} (hg : pj_ph g = true) {x0 : Int} {x1 : Int} {x2 : Int} {M : pj_M} {Q : Int → pj_M → Prop}  (h : w_X12_in x0 x1 x2 M Q) : pj_S l g mdX12_in [.int (pj_I x0), .int (pj_I x1), .int (pj_I x2)] pj_NK M (pj_qi Q) := by
  refine pj_ofR (ls := [(0, .int (pj_I x0)), (1, .int (pj_I x1)), (2, .int (pj_I x2))]) gcX12_in (by decide) rfl (Nat.le_of_ble_eq_true rfl) rfl ?_
  unfold w_X12_in at h
  refine pj_iload_n 1 0 rfl rfl rfl rfl ?_
  refine pj_iload_n 2 1 rfl rfl rfl rfl ?_
  obtain ⟨q1, h⟩ := h
  obtain ⟨q2, h⟩ := h
  refine pj_icmp_lt 14 5 rfl (by decide) rfl q1 q2 (fun hc => ?_) (fun hc => ?_)
  · replace h := h.1 hc
    refine pj_iconst 15 rfl rfl ?_
    exact pn_zret (by decide) h rfl rfl
  · replace h := h.2 hc
    refine pj_iload_n 6 0 rfl rfl rfl rfl ?_
    refine pj_iload_n 7 2 rfl rfl rfl rfl ?_
    obtain ⟨q3, h⟩ := h
    obtain ⟨q4, h⟩ := h
    refine pj_icmp_gt 14 10 rfl (by decide) rfl q3 q4 (fun hc => ?_) (fun hc => ?_)
    · replace h := h.1 hc
      refine pj_iconst 15 rfl rfl ?_
      exact pn_zret (by decide) h rfl rfl
    · replace h := h.2 hc
      refine pj_iconst 11 rfl rfl ?_
      refine pj_goto 15 rfl (by decide) ?_
      exact pn_zret (by decide) h rfl rfl
def w_X12_has (x0 : Int) (x1 : Int) (M : pj_M) (Q : Int → pj_M → Prop) : Prop :=
  (pj_in (pj_and (pj_shr x0 x1) 1)) ∧ ((¬ (pj_and (pj_shr x0 x1) 1) = 1 → Q 0 M) ∧ ((pj_and (pj_shr x0 x1) 1) = 1 → Q 1 M))
set_option maxRecDepth 20000 in
set_option maxHeartbeats 4000000 in
theorem s_X12_has {l : Launch} {g : pj_G} (hg : pj_ph g = true) {x0 : Int} {x1 : Int} {M : pj_M} {Q : Int → pj_M → Prop}  (h : w_X12_has x0 x1 M Q) : pj_S l g mdX12_has [.int (pj_I x0), .int (pj_I x1)] pj_NK M (pj_qi Q) := by
  refine pj_ofR (ls := [(0, .int (pj_I x0)), (1, .int (pj_I x1))]) gcX12_has (by decide) rfl (Nat.le_of_ble_eq_true rfl) rfl ?_
  unfold w_X12_has at h
  refine pj_iload_n 1 0 rfl rfl rfl rfl ?_
  refine pj_iload_n 2 1 rfl rfl rfl rfl ?_
  refine pj_ishr 3 rfl rfl ?_
  refine pj_iconst 4 rfl rfl ?_
  refine pj_iand 5 rfl rfl ?_
  refine pj_iconst 6 rfl rfl ?_
  obtain ⟨q1, h⟩ := h
  refine pj_icmp_ne 13 9 rfl (by decide) rfl q1 (show pj_in 1 by decide) (fun hc => ?_) (fun hc => ?_)
  · replace h := h.1 hc
    refine pj_iconst 14 rfl rfl ?_
    exact pn_zret (by decide) h rfl rfl
  · replace h := h.2 (Classical.not_not.mp hc)
    refine pj_iconst 10 rfl rfl ?_
    refine pj_goto 14 rfl (by decide) ?_
    exact pn_zret (by decide) h rfl rfl
def w_X12_lost (r0 : Nat) (M : pj_M) (Q : Int → pj_M → Prop) : Prop :=
  ∀ M1 : pj_M, M1 = pj_up M r0 5 1 → Q 0 M1
set_option maxRecDepth 20000 in
set_option maxHeartbeats 4000000 in
theorem s_X12_lost {l : Launch} {g : pj_G} (hg : pj_ph g = true) {r0 : Nat} {M : pj_M} {Q : Int → pj_M → Prop} (o0 : pj_ob r0 12) (h : w_X12_lost r0 M Q) : pj_S l g mdX12_lost [.ref r0] pj_NK M (pj_qi Q) := by
  refine pj_ofR (ls := [(0, .ref r0)]) gcX12_lost (by decide) rfl (Nat.le_of_ble_eq_true rfl) rfl ?_
  unfold w_X12_lost at h
  refine pj_aload_n 1 0 rfl rfl rfl rfl ?_
  refine pj_iconst 2 rfl rfl ?_
  refine pn_puti 5 12 5 5 o0  rfl pfX12_88 rfl rfl rfl (fun M1 hM1 => ?_)
  replace h := h M1 hM1
  refine pj_iconst 6 rfl rfl ?_
  exact pn_iret h rfl rfl
def w_X12_tell (r0 : Nat) (x1 : Int) (M : pj_M) (Q : pj_M → Prop) : Prop :=
  ((0 : Int) ≤ (M r0 4) ∧ (M r0 4) < 64) ∧ ∀ M2 : pj_M, M2 = pj_up M (pj_rf r0 3) (M r0 4) x1 → ∀ M3 : pj_M, M3 = pj_up M2 r0 4 ((M2 r0 4) + 1) → Q M3
set_option maxRecDepth 20000 in
set_option maxHeartbeats 4000000 in
theorem s_X12_tell {l : Launch} {g : pj_G} (hg : pj_ph g = true) {r0 : Nat} {x1 : Int} {M : pj_M} {Q : pj_M → Prop} (o0 : pj_ob r0 12) (h : w_X12_tell r0 x1 M Q) : pj_S l g mdX12_tell [.ref r0, .long (pj_L x1)] pj_NK M (pj_qv Q) := by
  refine pj_ofR (ls := [(0, .ref r0), (1, .long (pj_L x1))]) gcX12_tell (by decide) rfl (Nat.le_of_ble_eq_true rfl) rfl ?_
  unfold w_X12_tell at h
  refine pj_aload_n 1 0 rfl rfl rfl rfl ?_
  refine pn_getr 4 12 3 hg o0 (pr_12_3 o0).2 rfl pfX12_17 rfl rfl ?_
  refine pj_aload_n 5 0 rfl rfl rfl rfl ?_
  refine pn_geti 8 12 4 4 o0 rfl pfX12_92 (Or.inl rfl) rfl rfl ?_
  refine pj_lload_n 9 1 rfl rfl rfl rfl ?_
  obtain ⟨q1, h⟩ := h
  refine pn_last 10 64 (pr_12_3 o0)  q1 rfl rfl (fun M2 hM2 => ?_)
  replace h := h M2 hM2
  refine pj_aload_n 11 0 rfl rfl rfl rfl ?_
  refine pj_dup 12 rfl rfl rfl ?_
  refine pn_geti 15 12 4 4 o0 rfl pfX12_92 (Or.inl rfl) rfl rfl ?_
  refine pj_iconst 16 rfl rfl ?_
  refine pj_iadd 17 rfl rfl ?_
  refine pn_puti 20 12 4 4 o0  rfl pfX12_92 rfl rfl rfl (fun M3 hM3 => ?_)
  replace h := h M3 hM3
  exact pn_vret h rfl rfl
def w_X12_sign_20b (r0 : Nat) (x1 : Int)  (Q : Int → pj_M → Prop) (k20 : Int → pj_M → Prop) (x2 : Int) (M : pj_M) : Prop :=
  (pj_in x2) ∧ ((x2 < 0 → Q (M r0 2) M) ∧ (¬ x2 < 0 → ∀ M4 : pj_M, M4 = pj_up M r0 2 ((M r0 2) + 1) → (-128 ≤ (pj_i2b (pj_shr x1 (8 * x2))) ∧ (pj_i2b (pj_shr x1 (8 * x2))) ≤ 127) ∧ ((0 : Int) ≤ (M r0 2) ∧ (M r0 2) < 80) ∧ ∀ M7 : pj_M, M7 = pj_up M4 (pj_rf r0 1) (M r0 2) (pj_i2b (pj_shr x1 (8 * x2))) → k20 (x2 + (-1)) M7))
def w_X12_sign_20 (r0 : Nat) (x1 : Int)  (Q : Int → pj_M → Prop) (x2 : Int) (M : pj_M) : Prop := pj_lp (fun (k : Int × pj_M → Prop) (s : Int × pj_M) => w_X12_sign_20b r0 x1  Q (fun (x2 : Int) (M : pj_M) => k (x2, M)) s.1 s.2) (x2, M)
def w_X12_sign (r0 : Nat) (x1 : Int) (M : pj_M) (Q : Int → pj_M → Prop) : Prop :=
  ∀ M1 : pj_M, M1 = pj_up M r0 5 0 → (pj_in ((M1 r0 2) + 4)) ∧ ((((M1 r0 2) + 4) ≤ 80 → w_X12_sign_20 r0 x1  Q 3 M1) ∧ (¬ ((M1 r0 2) + 4) ≤ 80 → Q (-1) M1))
set_option maxRecDepth 20000 in
set_option maxHeartbeats 4000000 in
theorem s_X12_sign_20b {l : Launch} {g : pj_G} (hg : pj_ph g = true) {r0 : Nat} {x1 : Int} {x2 : Int} {M : pj_M} {Q : Int → pj_M → Prop}  {k20 : Int → pj_M → Prop} (o0 : pj_ob r0 12)  (hk20 : ∀ (x2 : Int) (M : pj_M), k20 x2 M → pj_R l g mdX12_sign pj_T (pj_Zm g mdX12_sign (pj_qi Q)) pj_NK 0 0 20 [(0, .ref r0), (1, .int (pj_I x1)), (2, .int (pj_I x2))] [] M) (h : w_X12_sign_20b r0 x1  Q k20 x2 M) : pj_R l g mdX12_sign pj_T (pj_Zm g mdX12_sign (pj_qi Q)) pj_NK 0 0 20 [(0, .ref r0), (1, .int (pj_I x1)), (2, .int (pj_I x2))] [] M := by
  unfold w_X12_sign_20b at h
  refine pj_iload_n 21 2 rfl rfl rfl rfl ?_
  obtain ⟨q3, h⟩ := h
  refine pj_if_lt 53 24 rfl (by decide) rfl q3  (fun hc => ?_) (fun hc => ?_)
  · replace h := h.1 hc
    refine pj_aload_n 54 0 rfl rfl rfl rfl ?_
    refine pn_geti 57 12 2 2 o0 rfl pfX12_95 (Or.inl rfl) rfl rfl ?_
    exact pn_iret h rfl rfl
  · replace h := h.2 hc
    refine pj_aload_n 25 0 rfl rfl rfl rfl ?_
    refine pn_getr 28 12 1 hg o0 (pr_12_1 o0).2 rfl pfX12_13 rfl rfl ?_
    refine pj_aload_n 29 0 rfl rfl rfl rfl ?_
    refine pj_dup 30 rfl rfl rfl ?_
    refine pn_geti 33 12 2 2 o0 rfl pfX12_95 (Or.inl rfl) rfl rfl ?_
    refine pj_dup_x1 34 rfl rfl rfl rfl ?_
    refine pj_iconst 35 rfl rfl ?_
    refine pj_iadd 36 rfl rfl ?_
    refine pn_puti 39 12 2 2 o0  rfl pfX12_95 rfl rfl rfl (fun M4 hM4 => ?_)
    replace h := h M4 hM4
    refine pj_iload_n 40 1 rfl rfl rfl rfl ?_
    refine pj_bipush 42 rfl (by decide) rfl ?_
    refine pj_iload_n 43 2 rfl rfl rfl rfl ?_
    refine pj_imul 44 rfl rfl ?_
    refine pj_ishr 45 rfl rfl ?_
    refine pj_i2b_r 46 rfl rfl ?_
    obtain ⟨q5, h⟩ := h
    obtain ⟨q6, h⟩ := h
    refine pn_bast 47 80 (pr_12_1 o0) q5 q6 rfl rfl (fun M7 hM7 => ?_)
    replace h := h M7 hM7
    refine pj_iinc 50 2 (ls' := [(0, .ref r0), (1, .int (pj_I x1)), (2, .int (pj_I (x2 + (-1))))]) rfl rfl (by decide) rfl rfl ?_
    refine pj_goto 20 rfl (by decide) ?_
    refine pn_sub [0, 1, 2] rfl ?_
    exact hk20 _ _ h
set_option maxRecDepth 20000 in
set_option maxHeartbeats 4000000 in
theorem s_X12_sign_20 {l : Launch} {g : pj_G} (hg : pj_ph g = true) {r0 : Nat} {x1 : Int} {x2 : Int} {M : pj_M} {Q : Int → pj_M → Prop}  (o0 : pj_ob r0 12)  (h : w_X12_sign_20 r0 x1  Q x2 M) : pj_R l g mdX12_sign pj_T (pj_Zm g mdX12_sign (pj_qi Q)) pj_NK 0 0 20 [(0, .ref r0), (1, .int (pj_I x1)), (2, .int (pj_I x2))] [] M :=
  h (fun s => pj_R l g mdX12_sign pj_T (pj_Zm g mdX12_sign (pj_qi Q)) pj_NK 0 0 20 [(0, .ref r0), (1, .int (pj_I x1)), (2, .int (pj_I (s.1)))] [] s.2) (fun s hs => s_X12_sign_20b hg o0  (fun _ _ q => q) hs)
set_option maxRecDepth 20000 in
set_option maxHeartbeats 4000000 in
theorem s_X12_sign {l : Launch} {g : pj_G} (hg : pj_ph g = true) {r0 : Nat} {x1 : Int} {M : pj_M} {Q : Int → pj_M → Prop} (o0 : pj_ob r0 12) (h : w_X12_sign r0 x1 M Q) : pj_S l g mdX12_sign [.ref r0, .int (pj_I x1)] pj_NK M (pj_qi Q) := by
  refine pj_ofR (ls := [(0, .ref r0), (1, .int (pj_I x1))]) gcX12_sign (by decide) rfl (Nat.le_of_ble_eq_true rfl) rfl ?_
  unfold w_X12_sign at h
  refine pj_aload_n 1 0 rfl rfl rfl rfl ?_
  refine pj_iconst 2 rfl rfl ?_
  refine pn_puti 5 12 5 5 o0  rfl pfX12_88 rfl rfl rfl (fun M1 hM1 => ?_)
  replace h := h M1 hM1
  refine pj_aload_n 6 0 rfl rfl rfl rfl ?_
  refine pn_geti 9 12 2 2 o0 rfl pfX12_95 (Or.inl rfl) rfl rfl ?_
  refine pj_iconst 10 rfl rfl ?_
  refine pj_iadd 11 rfl rfl ?_
  refine pj_bipush 13 rfl (by decide) rfl ?_
  obtain ⟨q2, h⟩ := h
  refine pj_icmp_le 18 16 rfl (by decide) rfl q2 (show pj_in 80 by decide) (fun hc => ?_) (fun hc => ?_)
  · replace h := h.1 hc
    refine pj_iconst 19 rfl rfl ?_
    refine pj_istore_n 20 (ls' := [(0, .ref r0), (1, .int (pj_I x1)), (2, .int (pj_I 3))]) rfl rfl (by decide) rfl rfl ?_
    refine pn_sub [0, 1, 2] rfl ?_
    exact s_X12_sign_20 hg o0   h
  · replace h := h.2 hc
    refine pj_iconst 17 rfl rfl ?_
    exact pn_iret h rfl rfl
def w_X12_end (r0 : Nat) (x1 : Int) (M : pj_M) (Q : Int → pj_M → Prop) : Prop :=
  ∀ M1 : pj_M, M1 = pj_up M r0 5 0 → w_X12_in x1 0 (M1 r0 2) M1 (fun (t3 : Int) (M2 : pj_M) => (pj_in t3) ∧ ((¬ t3 = 0 → ∀ M5 : pj_M, M5 = pj_up M2 r0 2 x1 → Q 1 M5) ∧ (t3 = 0 → Q 0 M2)))
set_option maxRecDepth 20000 in
set_option maxHeartbeats 4000000 in
theorem s_X12_end {l : Launch} {g : pj_G} (hg : pj_ph g = true) {r0 : Nat} {x1 : Int} {M : pj_M} {Q : Int → pj_M → Prop} (o0 : pj_ob r0 12) (h : w_X12_end r0 x1 M Q) : pj_S l g mdX12_end [.ref r0, .int (pj_I x1)] pj_NK M (pj_qi Q) := by
  refine pj_ofR (ls := [(0, .ref r0), (1, .int (pj_I x1))]) gcX12_end (by decide) rfl (Nat.le_of_ble_eq_true rfl) rfl ?_
  unfold w_X12_end at h
  refine pj_aload_n 1 0 rfl rfl rfl rfl ?_
  refine pj_iconst 2 rfl rfl ?_
  refine pn_puti 5 12 5 5 o0  rfl pfX12_88 rfl rfl rfl (fun M1 hM1 => ?_)
  replace h := h M1 hM1
  refine pj_iload_n 6 1 rfl rfl rfl rfl ?_
  refine pj_iconst 7 rfl rfl ?_
  refine pj_aload_n 8 0 rfl rfl rfl rfl ?_
  refine pn_geti 11 12 2 2 o0 rfl pfX12_95 (Or.inl rfl) rfl rfl ?_
  refine pn_callSi 14 [.int (pj_I x1), .int (pj_I 0), .int (pj_I (M1 r0 2))] [] (s_X12_in hg  h) plX12_98 rfl rfl rfl rfl (Nat.le_of_ble_eq_true rfl) (by decide) (fun t3 M2 h => ?_)
  obtain ⟨q4, h⟩ := h
  refine pj_if_ne 19 17 rfl (by decide) rfl q4  (fun hc => ?_) (fun hc => ?_)
  · replace h := h.1 hc
    refine pj_aload_n 20 0 rfl rfl rfl rfl ?_
    refine pj_iload_n 21 1 rfl rfl rfl rfl ?_
    refine pn_puti 24 12 2 2 o0  rfl pfX12_95 rfl rfl rfl (fun M5 hM5 => ?_)
    replace h := h M5 hM5
    refine pj_iconst 25 rfl rfl ?_
    exact pn_zret (by decide) h rfl rfl
  · replace h := h.2 (Classical.not_not.mp hc)
    refine pj_iconst 18 rfl rfl ?_
    exact pn_zret (by decide) h rfl rfl
def w_X12_begin (r0 : Nat) (M : pj_M) (Q : pj_M → Prop) : Prop :=
  ∀ M1 : pj_M, M1 = pj_up M r0 6 (M r0 2) → ∀ M2 : pj_M, M2 = pj_up M1 r0 7 0 → ∀ M3 : pj_M, M3 = pj_up M2 r0 8 (-1) → ∀ M4 : pj_M, M4 = pj_up M3 r0 2 0 → Q M4
set_option maxRecDepth 20000 in
set_option maxHeartbeats 4000000 in
theorem s_X12_begin {l : Launch} {g : pj_G} (hg : pj_ph g = true) {r0 : Nat} {M : pj_M} {Q : pj_M → Prop} (o0 : pj_ob r0 12) (h : w_X12_begin r0 M Q) : pj_S l g mdX12_begin [.ref r0] pj_NK M (pj_qv Q) := by
  refine pj_ofR (ls := [(0, .ref r0)]) gcX12_begin (by decide) rfl (Nat.le_of_ble_eq_true rfl) rfl ?_
  unfold w_X12_begin at h
  refine pj_aload_n 1 0 rfl rfl rfl rfl ?_
  refine pj_aload_n 2 0 rfl rfl rfl rfl ?_
  refine pn_geti 5 12 2 2 o0 rfl pfX12_95 (Or.inl rfl) rfl rfl ?_
  refine pn_puti 8 12 6 6 o0  rfl pfX12_102 rfl rfl rfl (fun M1 hM1 => ?_)
  replace h := h M1 hM1
  refine pj_aload_n 9 0 rfl rfl rfl rfl ?_
  refine pj_iconst 10 rfl rfl ?_
  refine pn_puti 13 12 7 7 o0  rfl pfX12_105 rfl rfl rfl (fun M2 hM2 => ?_)
  replace h := h M2 hM2
  refine pj_aload_n 14 0 rfl rfl rfl rfl ?_
  refine pj_iconst 15 rfl rfl ?_
  refine pn_puti 18 12 8 8 o0  rfl pfX12_108 rfl rfl rfl (fun M3 hM3 => ?_)
  replace h := h M3 hM3
  refine pj_aload_n 19 0 rfl rfl rfl rfl ?_
  refine pj_iconst 20 rfl rfl ?_
  refine pn_puti 23 12 2 2 o0  rfl pfX12_95 rfl rfl rfl (fun M4 hM4 => ?_)
  replace h := h M4 hM4
  exact pn_vret h rfl rfl
def w_X12_here (r0 : Nat) (M : pj_M) (Q : Int → pj_M → Prop) : Prop :=
  (pj_in (M r0 7)) ∧ (pj_in (M r0 6)) ∧ (((M r0 6) ≤ (M r0 7) → Q (-1) M) ∧ (¬ (M r0 6) ≤ (M r0 7) → ((0 : Int) ≤ (M r0 7) ∧ (M r0 7) < 80) ∧ Q (pj_and (M (pj_rf r0 1) (M r0 7)) 255) M))
set_option maxRecDepth 20000 in
set_option maxHeartbeats 4000000 in
theorem s_X12_here {l : Launch} {g : pj_G} (hg : pj_ph g = true) {r0 : Nat} {M : pj_M} {Q : Int → pj_M → Prop} (o0 : pj_ob r0 12) (h : w_X12_here r0 M Q) : pj_S l g mdX12_here [.ref r0] pj_NK M (pj_qi Q) := by
  refine pj_ofR (ls := [(0, .ref r0)]) gcX12_here (by decide) rfl (Nat.le_of_ble_eq_true rfl) rfl ?_
  unfold w_X12_here at h
  refine pj_aload_n 1 0 rfl rfl rfl rfl ?_
  refine pn_geti 4 12 7 7 o0 rfl pfX12_105 (Or.inl rfl) rfl rfl ?_
  refine pj_aload_n 5 0 rfl rfl rfl rfl ?_
  refine pn_geti 8 12 6 6 o0 rfl pfX12_102 (Or.inl rfl) rfl rfl ?_
  obtain ⟨q1, h⟩ := h
  obtain ⟨q2, h⟩ := h
  refine pj_icmp_ge 27 11 rfl (by decide) rfl q1 q2 (fun hc => ?_) (fun hc => ?_)
  · replace h := h.1 hc
    refine pj_iconst 28 rfl rfl ?_
    exact pn_iret h rfl rfl
  · replace h := h.2 hc
    refine pj_aload_n 12 0 rfl rfl rfl rfl ?_
    refine pn_getr 15 12 1 hg o0 (pr_12_1 o0).2 rfl pfX12_13 rfl rfl ?_
    refine pj_aload_n 16 0 rfl rfl rfl rfl ?_
    refine pn_geti 19 12 7 7 o0 rfl pfX12_105 (Or.inl rfl) rfl rfl ?_
    obtain ⟨q3, h⟩ := h
    refine pn_bald 20 3 80 (pr_12_1 o0) (by decide) q3 rfl rfl ?_
    refine pj_sipush 23 rfl (by decide) rfl ?_
    refine pj_iand 24 rfl rfl ?_
    refine pj_goto 28 rfl (by decide) ?_
    exact pn_iret h rfl rfl
def w_X12_fine (r0 : Nat) (M : pj_M) (Q : Int → pj_M → Prop) : Prop :=
  (pj_in (M r0 8)) ∧ ((¬ (M r0 8) = (-1) → Q 0 M) ∧ ((M r0 8) = (-1) → Q 1 M))
set_option maxRecDepth 20000 in
set_option maxHeartbeats 4000000 in
theorem s_X12_fine {l : Launch} {g : pj_G} (hg : pj_ph g = true) {r0 : Nat} {M : pj_M} {Q : Int → pj_M → Prop} (o0 : pj_ob r0 12) (h : w_X12_fine r0 M Q) : pj_S l g mdX12_fine [.ref r0] pj_NK M (pj_qi Q) := by
  refine pj_ofR (ls := [(0, .ref r0)]) gcX12_fine (by decide) rfl (Nat.le_of_ble_eq_true rfl) rfl ?_
  unfold w_X12_fine at h
  refine pj_aload_n 1 0 rfl rfl rfl rfl ?_
  refine pn_geti 4 12 8 8 o0 rfl pfX12_108 (Or.inl rfl) rfl rfl ?_
  refine pj_iconst 5 rfl rfl ?_
  obtain ⟨q1, h⟩ := h
  refine pj_icmp_ne 12 8 rfl (by decide) rfl q1 (show pj_in (-1) by decide) (fun hc => ?_) (fun hc => ?_)
  · replace h := h.1 hc
    refine pj_iconst 13 rfl rfl ?_
    exact pn_zret (by decide) h rfl rfl
  · replace h := h.2 (Classical.not_not.mp hc)
    refine pj_iconst 9 rfl rfl ?_
    refine pj_goto 13 rfl (by decide) ?_
    exact pn_zret (by decide) h rfl rfl
def w_X12_fault (r0 : Nat) (x1 : Int) (M : pj_M) (Q : pj_M → Prop) : Prop :=
  w_X12_fine r0 M (fun (t2 : Int) (M1 : pj_M) => (pj_in t2) ∧ ((t2 = 0 → Q M1) ∧ (¬ t2 = 0 → ∀ M4 : pj_M, M4 = pj_up M1 r0 8 x1 → Q M4)))
set_option maxRecDepth 20000 in
set_option maxHeartbeats 4000000 in
theorem s_X12_fault {l : Launch} {g : pj_G} (hg : pj_ph g = true) {r0 : Nat} {x1 : Int} {M : pj_M} {Q : pj_M → Prop} (o0 : pj_ob r0 12) (h : w_X12_fault r0 x1 M Q) : pj_S l g mdX12_fault [.ref r0, .int (pj_I x1)] pj_NK M (pj_qv Q) := by
  refine pj_ofR (ls := [(0, .ref r0), (1, .int (pj_I x1))]) gcX12_fault (by decide) rfl (Nat.le_of_ble_eq_true rfl) rfl ?_
  unfold w_X12_fault at h
  refine pj_aload_n 1 0 rfl rfl rfl rfl ?_
  refine pn_callVi 4 12 [] [] o0 (s_X12_fine hg o0 h) plX12_111 rfl rfl rfl rfl (Nat.le_of_ble_eq_true rfl) (by decide) (fun t2 M1 h => ?_)
  obtain ⟨q3, h⟩ := h
  refine pj_if_eq 12 7 rfl (by decide) rfl q3  (fun hc => ?_) (fun hc => ?_)
  · replace h := h.1 hc
    exact pn_vret h rfl rfl
  · replace h := h.2 hc
    refine pj_aload_n 8 0 rfl rfl rfl rfl ?_
    refine pj_iload_n 9 1 rfl rfl rfl rfl ?_
    refine pn_puti 12 12 8 8 o0  rfl pfX12_108 rfl rfl rfl (fun M4 hM4 => ?_)
    replace h := h M4 hM4
    exact pn_vret h rfl rfl
def w_X12_oneOf (r0 : Nat) (x1 : Int) (x2 : Int) (M : pj_M) (Q : Int → pj_M → Prop) : Prop :=
  w_X12_fine r0 M (fun (t2 : Int) (M1 : pj_M) => (pj_in t2) ∧ ((¬ t2 = 0 → w_X12_here r0 M1 (fun (t5 : Int) (M4 : pj_M) => w_X12_in t5 x1 ((x1 + x2) - 1) M4 (fun (t7 : Int) (M6 : pj_M) => (pj_in t7) ∧ ((¬ t7 = 0 → ∀ M9 : pj_M, M9 = pj_up M6 r0 7 ((M6 r0 7) + 1) → ((0 : Int) ≤ ((M9 r0 7) - 1) ∧ ((M9 r0 7) - 1) < 80) ∧ Q ((M9 (pj_rf r0 1) ((M9 r0 7) - 1)) - x1) M9) ∧ (t7 = 0 → w_X12_fault r0 (M6 r0 7) M6 (fun (M11 : pj_M) => Q 0 M11)))))) ∧ (t2 = 0 → Q 0 M1)))
set_option maxRecDepth 20000 in
set_option maxHeartbeats 4000000 in
theorem s_X12_oneOf {l : Launch} {g : pj_G} (hg : pj_ph g = true) {r0 : Nat} {x1 : Int} {x2 : Int} {M : pj_M} {Q : Int → pj_M → Prop} (o0 : pj_ob r0 12) (h : w_X12_oneOf r0 x1 x2 M Q) : pj_S l g mdX12_oneOf [.ref r0, .int (pj_I x1), .int (pj_I x2)] pj_NK M (pj_qi Q) := by
  refine pj_ofR (ls := [(0, .ref r0), (1, .int (pj_I x1)), (2, .int (pj_I x2))]) gcX12_oneOf (by decide) rfl (Nat.le_of_ble_eq_true rfl) rfl ?_
  unfold w_X12_oneOf at h
  refine pj_aload_n 1 0 rfl rfl rfl rfl ?_
  refine pn_callVi 4 12 [] [] o0 (s_X12_fine hg o0 h) plX12_111 rfl rfl rfl rfl (Nat.le_of_ble_eq_true rfl) (by decide) (fun t2 M1 h => ?_)
  obtain ⟨q3, h⟩ := h
  refine pj_if_ne 9 7 rfl (by decide) rfl q3  (fun hc => ?_) (fun hc => ?_)
  · replace h := h.1 hc
    refine pj_aload_n 10 0 rfl rfl rfl rfl ?_
    refine pn_callVi 13 12 [] [] o0 (s_X12_here hg o0 h) plX12_115 rfl rfl rfl rfl (Nat.le_of_ble_eq_true rfl) (by decide) (fun t5 M4 h => ?_)
    refine pj_iload_n 14 1 rfl rfl rfl rfl ?_
    refine pj_iload_n 15 1 rfl rfl rfl rfl ?_
    refine pj_iload_n 16 2 rfl rfl rfl rfl ?_
    refine pj_iadd 17 rfl rfl ?_
    refine pj_iconst 18 rfl rfl ?_
    refine pj_isub 19 rfl rfl ?_
    refine pn_callSi 22 [.int (pj_I t5), .int (pj_I x1), .int (pj_I ((x1 + x2) - 1))] [] (s_X12_in hg  h) plX12_98 rfl rfl rfl rfl (Nat.le_of_ble_eq_true rfl) (by decide) (fun t7 M6 h => ?_)
    obtain ⟨q8, h⟩ := h
    refine pj_if_ne 35 25 rfl (by decide) rfl q8  (fun hc => ?_) (fun hc => ?_)
    · replace h := h.1 hc
      refine pj_aload_n 36 0 rfl rfl rfl rfl ?_
      refine pj_dup 37 rfl rfl rfl ?_
      refine pn_geti 40 12 7 7 o0 rfl pfX12_105 (Or.inl rfl) rfl rfl ?_
      refine pj_iconst 41 rfl rfl ?_
      refine pj_iadd 42 rfl rfl ?_
      refine pn_puti 45 12 7 7 o0  rfl pfX12_105 rfl rfl rfl (fun M9 hM9 => ?_)
      replace h := h M9 hM9
      refine pj_aload_n 46 0 rfl rfl rfl rfl ?_
      refine pn_getr 49 12 1 hg o0 (pr_12_1 o0).2 rfl pfX12_13 rfl rfl ?_
      refine pj_aload_n 50 0 rfl rfl rfl rfl ?_
      refine pn_geti 53 12 7 7 o0 rfl pfX12_105 (Or.inl rfl) rfl rfl ?_
      refine pj_iconst 54 rfl rfl ?_
      refine pj_isub 55 rfl rfl ?_
      obtain ⟨q10, h⟩ := h
      refine pn_bald 56 3 80 (pr_12_1 o0) (by decide) q10 rfl rfl ?_
      refine pj_iload_n 57 1 rfl rfl rfl rfl ?_
      refine pj_isub 58 rfl rfl ?_
      exact pn_iret h rfl rfl
    · replace h := h.2 (Classical.not_not.mp hc)
      refine pj_aload_n 26 0 rfl rfl rfl rfl ?_
      refine pj_aload_n 27 0 rfl rfl rfl rfl ?_
      refine pn_geti 30 12 7 7 o0 rfl pfX12_105 (Or.inl rfl) rfl rfl ?_
      refine pn_callVv 33 12 [.int (pj_I (M6 r0 7))] [] o0 (s_X12_fault hg o0 h) plX12_119 rfl rfl rfl rfl (Nat.le_of_ble_eq_true rfl) (by decide) (fun M11 h => ?_)
      refine pj_iconst 34 rfl rfl ?_
      exact pn_iret h rfl rfl
  · replace h := h.2 (Classical.not_not.mp hc)
    refine pj_iconst 8 rfl rfl ?_
    exact pn_iret h rfl rfl
def w_X12_twoDigits (r0 : Nat) (M : pj_M) (Q : Int → pj_M → Prop) : Prop :=
  w_X12_oneOf r0 48 10 M (fun (t2 : Int) (M1 : pj_M) => w_X12_oneOf r0 48 10 M1 (fun (t4 : Int) (M3 : pj_M) => Q ((10 * t2) + t4) M3))
set_option maxRecDepth 20000 in
set_option maxHeartbeats 4000000 in
theorem s_X12_twoDigits {l : Launch} {g : pj_G} (hg : pj_ph g = true) {r0 : Nat} {M : pj_M} {Q : Int → pj_M → Prop} (o0 : pj_ob r0 12) (h : w_X12_twoDigits r0 M Q) : pj_S l g mdX12_twoDigits [.ref r0] pj_NK M (pj_qi Q) := by
  refine pj_ofR (ls := [(0, .ref r0)]) gcX12_twoDigits (by decide) rfl (Nat.le_of_ble_eq_true rfl) rfl ?_
  unfold w_X12_twoDigits at h
  refine pj_aload_n 1 0 rfl rfl rfl rfl ?_
  refine pj_bipush 3 rfl (by decide) rfl ?_
  refine pj_bipush 5 rfl (by decide) rfl ?_
  refine pn_callVi 8 12 [.int (pj_I 48), .int (pj_I 10)] [] o0 (s_X12_oneOf hg o0 h) plX12_123 rfl rfl rfl rfl (Nat.le_of_ble_eq_true rfl) (by decide) (fun t2 M1 h => ?_)
  refine pj_istore_n 9 (ls' := [(0, .ref r0), (1, .int (pj_I t2))]) rfl rfl (by decide) rfl rfl ?_
  refine pj_bipush 11 rfl (by decide) rfl ?_
  refine pj_iload_n 12 1 rfl rfl rfl rfl ?_
  refine pj_imul 13 rfl rfl ?_
  refine pj_aload_n 14 0 rfl rfl rfl rfl ?_
  refine pj_bipush 16 rfl (by decide) rfl ?_
  refine pj_bipush 18 rfl (by decide) rfl ?_
  refine pn_callVi 21 12 [.int (pj_I 48), .int (pj_I 10)] [.int (pj_I (10 * t2))] o0 (s_X12_oneOf hg o0 h) plX12_123 rfl rfl rfl rfl (Nat.le_of_ble_eq_true rfl) (by decide) (fun t4 M3 h => ?_)
  refine pj_iadd 22 rfl rfl ?_
  exact pn_iret h rfl rfl
def w_X12_wasRight_19 (r0 : Nat)  (Q : Int → pj_M → Prop) (M : pj_M) : Prop :=
  w_X12_fine r0 M (fun (t4 : Int) (M3 : pj_M) => (t4 = 0 ∨ t4 = 1) ∧ Q t4 M3)
def w_X12_wasRight (r0 : Nat) (M : pj_M) (Q : Int → pj_M → Prop) : Prop :=
  (pj_in (M r0 7)) ∧ (pj_in (M r0 6)) ∧ (((M r0 6) ≤ (M r0 7) → w_X12_wasRight_19 r0  Q M) ∧ (¬ (M r0 6) ≤ (M r0 7) → w_X12_fault r0 (M r0 7) M (fun (M6 : pj_M) => w_X12_wasRight_19 r0  Q M6)))
set_option maxRecDepth 20000 in
set_option maxHeartbeats 4000000 in
theorem s_X12_wasRight_19 {l : Launch} {g : pj_G} (hg : pj_ph g = true) {r0 : Nat} {M : pj_M} {Q : Int → pj_M → Prop}  (o0 : pj_ob r0 12)  (h : w_X12_wasRight_19 r0  Q M) : pj_R l g mdX12_wasRight pj_T (pj_Zm g mdX12_wasRight (pj_qi Q)) pj_NK 0 0 19 [(0, .ref r0)] [] M := by
  unfold w_X12_wasRight_19 at h
  refine pj_aload_n 20 0 rfl rfl rfl rfl ?_
  refine pn_callVi 23 12 [] [] o0 (s_X12_fine hg o0 h) plX12_111 rfl rfl rfl rfl (Nat.le_of_ble_eq_true rfl) (by decide) (fun t4 M3 h => ?_)
  obtain ⟨q5, h⟩ := h
  exact pn_zret q5 h rfl rfl
set_option maxRecDepth 20000 in
set_option maxHeartbeats 4000000 in
theorem s_X12_wasRight {l : Launch} {g : pj_G} (hg : pj_ph g = true) {r0 : Nat} {M : pj_M} {Q : Int → pj_M → Prop} (o0 : pj_ob r0 12) (h : w_X12_wasRight r0 M Q) : pj_S l g mdX12_wasRight [.ref r0] pj_NK M (pj_qi Q) := by
  refine pj_ofR (ls := [(0, .ref r0)]) gcX12_wasRight (by decide) rfl (Nat.le_of_ble_eq_true rfl) rfl ?_
  unfold w_X12_wasRight at h
  refine pj_aload_n 1 0 rfl rfl rfl rfl ?_
  refine pn_geti 4 12 7 7 o0 rfl pfX12_105 (Or.inl rfl) rfl rfl ?_
  refine pj_aload_n 5 0 rfl rfl rfl rfl ?_
  refine pn_geti 8 12 6 6 o0 rfl pfX12_102 (Or.inl rfl) rfl rfl ?_
  obtain ⟨q1, h⟩ := h
  obtain ⟨q2, h⟩ := h
  refine pj_icmp_ge 19 11 rfl (by decide) rfl q1 q2 (fun hc => ?_) (fun hc => ?_)
  · replace h := h.1 hc
    refine pn_sub [0] rfl ?_
    exact s_X12_wasRight_19 hg o0   h
  · replace h := h.2 hc
    refine pj_aload_n 12 0 rfl rfl rfl rfl ?_
    refine pj_aload_n 13 0 rfl rfl rfl rfl ?_
    refine pn_geti 16 12 7 7 o0 rfl pfX12_105 (Or.inl rfl) rfl rfl ?_
    refine pn_callVv 19 12 [.int (pj_I (M r0 7))] [] o0 (s_X12_fault hg o0 h) plX12_119 rfl rfl rfl rfl (Nat.le_of_ble_eq_true rfl) (by decide) (fun M6 h => ?_)
    refine pn_sub [0] rfl ?_
    exact s_X12_wasRight_19 hg o0   h
def w_X12_alt (x0 : Int) (M : pj_M) (Q : Int → pj_M → Prop) : Prop :=
  Q (1 + (6 * x0)) M
set_option maxRecDepth 20000 in
set_option maxHeartbeats 4000000 in
theorem s_X12_alt {l : Launch} {g : pj_G} (hg : pj_ph g = true) {x0 : Int} {M : pj_M} {Q : Int → pj_M → Prop}  (h : w_X12_alt x0 M Q) : pj_S l g mdX12_alt [.int (pj_I x0)] pj_NK M (pj_qi Q) := by
  refine pj_ofR (ls := [(0, .int (pj_I x0))]) gcX12_alt (by decide) rfl (Nat.le_of_ble_eq_true rfl) rfl ?_
  unfold w_X12_alt at h
  refine pj_iconst 1 rfl rfl ?_
  refine pj_bipush 3 rfl (by decide) rfl ?_
  refine pj_iload_n 4 0 rfl rfl rfl rfl ?_
  refine pj_imul 5 rfl rfl ?_
  refine pj_iadd 6 rfl rfl ?_
  exact pn_iret h rfl rfl
def w_X12_readAlternative_172 (r0 : Nat) (x3 : Int) (u0 : Nat) (y1 : Int) (y2 : Int) (k78 : pj_M → Prop) (Q : pj_M → Prop) (M : pj_M) : Prop :=
  ((0 : Int) ≤ y1 ∧ y1 < 73) ∧ ∀ M29 : pj_M, M29 = pj_up M u0 y1 y2 → ((0 : Int) ≤ (x3 + 1) ∧ (x3 + 1) < 73) ∧ ((0 : Int) ≤ (x3 + 1) ∧ (x3 + 1) < 73) ∧ ∀ M32 : pj_M, M32 = pj_up M29 (pj_rf r0 9) (x3 + 1) ((M29 (pj_rf r0 9) (x3 + 1)) + 1) → ∀ M33 : pj_M, M33 = pj_up M32 r0 7 ((M32 r0 7) + 1) → k78  M33
def w_X12_readAlternative_106 (r0 : Nat) (x3 : Int) (k78 : pj_M → Prop) (Q : pj_M → Prop) (M : pj_M) : Prop :=
  ((0 : Int) ≤ (x3 + 1) ∧ (x3 + 1) < 73) ∧ (pj_in (M (pj_rf r0 9) (x3 + 1))) ∧ ((¬ (M (pj_rf r0 9) (x3 + 1)) = 4 → w_X12_here r0 M (fun (t25 : Int) (M24 : pj_M) => ((0 : Int) ≤ (x3 + 1) ∧ (x3 + 1) < 73) ∧ (pj_in t25) ∧ ((t25 < 97 → w_X12_readAlternative_172 r0 x3 (pj_rf r0 9) ((x3 + 2) + (M24 (pj_rf r0 9) (x3 + 1))) ((t25 - 65) + 8) k78 Q M24) ∧ (¬ t25 < 97 → w_X12_readAlternative_172 r0 x3 (pj_rf r0 9) ((x3 + 2) + (M24 (pj_rf r0 9) (x3 + 1))) (t25 - 97) k78 Q M24)))) ∧ ((M (pj_rf r0 9) (x3 + 1)) = 4 → w_X12_fault r0 (M r0 7) M (fun (M34 : pj_M) => Q M34)))
def w_X12_readAlternative_78b (r0 : Nat) (x3 : Int)  (Q : pj_M → Prop) (k78 : pj_M → Prop)  (M : pj_M) : Prop :=
  w_X12_here r0 M (fun (t18 : Int) (M17 : pj_M) => w_X12_in t18 97 104 M17 (fun (t20 : Int) (M19 : pj_M) => (pj_in t20) ∧ ((¬ t20 = 0 → w_X12_readAlternative_106 r0 x3 k78 Q M19) ∧ (t20 = 0 → w_X12_here r0 M19 (fun (t37 : Int) (M36 : pj_M) => w_X12_in t37 65 70 M36 (fun (t39 : Int) (M38 : pj_M) => (pj_in t39) ∧ ((t39 = 0 → Q M38) ∧ (¬ t39 = 0 → w_X12_readAlternative_106 r0 x3 k78 Q M38))))))))
def w_X12_readAlternative_78 (r0 : Nat) (x3 : Int)  (Q : pj_M → Prop)  (M : pj_M) : Prop := pj_lp (fun (k : pj_M → Prop) (s : pj_M) => w_X12_readAlternative_78b r0 x3  Q (fun  (M : pj_M) => k M) s) M
def w_X12_readAlternative_27 (r0 : Nat) (x1 : Int) (x2 : Int)  (Q : pj_M → Prop) (M : pj_M) : Prop :=
  w_X12_oneOf r0 x2 1 M (fun (t6 : Int) (M5 : pj_M) => w_X12_fine r0 M5 (fun (t8 : Int) (M7 : pj_M) => (pj_in t8) ∧ ((¬ t8 = 0 → w_X12_alt (M7 (pj_rf r0 9) 0) M7 (fun (t11 : Int) (M10 : pj_M) => ∀ M12 : pj_M, M12 = pj_up M10 (pj_rf r0 9) 0 ((M10 (pj_rf r0 9) 0) + 1) → ((0 : Int) ≤ t11 ∧ t11 < 73) ∧ ∀ M14 : pj_M, M14 = pj_up M12 (pj_rf r0 9) t11 x1 → ((0 : Int) ≤ (t11 + 1) ∧ (t11 + 1) < 73) ∧ ∀ M16 : pj_M, M16 = pj_up M14 (pj_rf r0 9) (t11 + 1) 0 → w_X12_readAlternative_78 r0 t11  Q  M16)) ∧ (t8 = 0 → Q M7))))
def w_X12_readAlternative (r0 : Nat) (x1 : Int) (x2 : Int) (M : pj_M) (Q : pj_M → Prop) : Prop :=
  w_X12_here r0 M (fun (t2 : Int) (M1 : pj_M) => (pj_in t2) ∧ (pj_in x2) ∧ ((¬ t2 = x2 → w_X12_readAlternative_27 r0 x1 x2  Q M1) ∧ (t2 = x2 → (pj_in (M1 (pj_rf r0 9) 0)) ∧ ((¬ (M1 (pj_rf r0 9) 0) = 12 → w_X12_readAlternative_27 r0 x1 x2  Q M1) ∧ ((M1 (pj_rf r0 9) 0) = 12 → w_X12_fault r0 (M1 r0 7) M1 (fun (M42 : pj_M) => w_X12_readAlternative_27 r0 x1 x2  Q M42))))))
set_option maxRecDepth 20000 in
set_option maxHeartbeats 4000000 in
theorem s_X12_readAlternative_172 {l : Launch} {g : pj_G} (hg : pj_ph g = true) {r0 : Nat} {x3 : Int} {u0 : Nat} {y1 : Int} {y2 : Int} {M : pj_M} {Q : pj_M → Prop} {k78 : pj_M → Prop} (o0 : pj_ob r0 12) (ou0 : pj_ol u0 1 73) (hk78 : ∀  (M : pj_M), k78  M → pj_R l g mdX12_readAlternative pj_T (pj_Zm g mdX12_readAlternative (pj_qv Q)) pj_NK 0 0 78 [(0, .ref r0), (3, .int (pj_I x3))] [] M) (h : w_X12_readAlternative_172 r0 x3 u0 y1 y2 k78 Q M) : pj_R l g mdX12_readAlternative pj_T (pj_Zm g mdX12_readAlternative (pj_qv Q)) pj_NK 0 0 172 [(0, .ref r0), (3, .int (pj_I x3))] [.int (pj_I y2), .int (pj_I y1), .ref u0] M := by
  unfold w_X12_readAlternative_172 at h
  obtain ⟨q28, h⟩ := h
  refine pn_iast 173 73 ou0  q28 rfl rfl (fun M29 hM29 => ?_)
  replace h := h M29 hM29
  refine pj_aload_n 174 0 rfl rfl rfl rfl ?_
  refine pn_getr 177 12 9 hg o0 (pr_12_9 o0).2 rfl pfX12_21 rfl rfl ?_
  refine pj_iload_n 178 1 rfl rfl rfl rfl ?_
  refine pj_iconst 179 rfl rfl ?_
  refine pj_iadd 180 rfl rfl ?_
  refine pj_dup2 181 rfl rfl rfl rfl ?_
  obtain ⟨q30, h⟩ := h
  refine pn_iald 182 73 (pr_12_9 o0) q30 rfl rfl ?_
  refine pj_iconst 183 rfl rfl ?_
  refine pj_iadd 184 rfl rfl ?_
  obtain ⟨q31, h⟩ := h
  refine pn_iast 185 73 (pr_12_9 o0)  q31 rfl rfl (fun M32 hM32 => ?_)
  replace h := h M32 hM32
  refine pj_aload_n 186 0 rfl rfl rfl rfl ?_
  refine pj_dup 187 rfl rfl rfl ?_
  refine pn_geti 190 12 7 7 o0 rfl pfX12_105 (Or.inl rfl) rfl rfl ?_
  refine pj_iconst 191 rfl rfl ?_
  refine pj_iadd 192 rfl rfl ?_
  refine pn_puti 195 12 7 7 o0  rfl pfX12_105 rfl rfl rfl (fun M33 hM33 => ?_)
  replace h := h M33 hM33
  refine pj_goto 78 rfl (by decide) ?_
  refine pn_sub [0, 1] rfl ?_
  exact hk78  _ h
set_option maxRecDepth 20000 in
set_option maxHeartbeats 4000000 in
theorem s_X12_readAlternative_106 {l : Launch} {g : pj_G} (hg : pj_ph g = true) {r0 : Nat} {x3 : Int} {M : pj_M} {Q : pj_M → Prop} {k78 : pj_M → Prop} (o0 : pj_ob r0 12) (hk78 : ∀  (M : pj_M), k78  M → pj_R l g mdX12_readAlternative pj_T (pj_Zm g mdX12_readAlternative (pj_qv Q)) pj_NK 0 0 78 [(0, .ref r0), (3, .int (pj_I x3))] [] M) (h : w_X12_readAlternative_106 r0 x3 k78 Q M) : pj_R l g mdX12_readAlternative pj_T (pj_Zm g mdX12_readAlternative (pj_qv Q)) pj_NK 0 0 106 [(0, .ref r0), (3, .int (pj_I x3))] [] M := by
  unfold w_X12_readAlternative_106 at h
  refine pj_aload_n 107 0 rfl rfl rfl rfl ?_
  refine pn_getr 110 12 9 hg o0 (pr_12_9 o0).2 rfl pfX12_21 rfl rfl ?_
  refine pj_iload_n 111 1 rfl rfl rfl rfl ?_
  refine pj_iconst 112 rfl rfl ?_
  refine pj_iadd 113 rfl rfl ?_
  obtain ⟨q22, h⟩ := h
  refine pn_iald 114 73 (pr_12_9 o0) q22 rfl rfl ?_
  refine pj_iconst 115 rfl rfl ?_
  obtain ⟨q23, h⟩ := h
  refine pj_icmp_ne 127 118 rfl (by decide) rfl q23 (show pj_in 4 by decide) (fun hc => ?_) (fun hc => ?_)
  · replace h := h.1 hc
    refine pj_aload_n 128 0 rfl rfl rfl rfl ?_
    refine pn_callVi 131 12 [] [] o0 (s_X12_here hg o0 h) plX12_115 rfl rfl rfl rfl (Nat.le_of_ble_eq_true rfl) (by decide) (fun t25 M24 h => ?_)
    refine pj_istore 133 (ls' := [(0, .ref r0), (3, .int (pj_I x3)), (4, .int (pj_I t25))]) rfl (by decide) rfl rfl ?_
    refine pj_aload_n 134 0 rfl rfl rfl rfl ?_
    refine pn_getr 137 12 9 hg o0 (pr_12_9 o0).2 rfl pfX12_21 rfl rfl ?_
    refine pj_iload_n 138 1 rfl rfl rfl rfl ?_
    refine pj_iconst 139 rfl rfl ?_
    refine pj_iadd 140 rfl rfl ?_
    refine pj_aload_n 141 0 rfl rfl rfl rfl ?_
    refine pn_getr 144 12 9 hg o0 (pr_12_9 o0).2 rfl pfX12_21 rfl rfl ?_
    refine pj_iload_n 145 1 rfl rfl rfl rfl ?_
    refine pj_iconst 146 rfl rfl ?_
    refine pj_iadd 147 rfl rfl ?_
    obtain ⟨q26, h⟩ := h
    refine pn_iald 148 73 (pr_12_9 o0) q26 rfl rfl ?_
    refine pj_iadd 149 rfl rfl ?_
    refine pj_iload 151 2 rfl rfl rfl ?_
    refine pj_bipush 153 rfl (by decide) rfl ?_
    obtain ⟨q27, h⟩ := h
    refine pj_icmp_lt 164 156 rfl (by decide) rfl q27 (show pj_in 97 by decide) (fun hc => ?_) (fun hc => ?_)
    · replace h := h.1 hc
      refine pj_iload 166 2 rfl rfl rfl ?_
      refine pj_bipush 168 rfl (by decide) rfl ?_
      refine pj_isub 169 rfl rfl ?_
      refine pj_bipush 171 rfl (by decide) rfl ?_
      refine pj_iadd 172 rfl rfl ?_
      refine pn_sub [0, 1] rfl ?_
      exact s_X12_readAlternative_172 hg o0 (pr_12_9 o0) hk78 h
    · replace h := h.2 hc
      refine pj_iload 158 2 rfl rfl rfl ?_
      refine pj_bipush 160 rfl (by decide) rfl ?_
      refine pj_isub 161 rfl rfl ?_
      refine pj_goto 172 rfl (by decide) ?_
      refine pn_sub [0, 1] rfl ?_
      exact s_X12_readAlternative_172 hg o0 (pr_12_9 o0) hk78 h
  · replace h := h.2 (Classical.not_not.mp hc)
    refine pj_aload_n 119 0 rfl rfl rfl rfl ?_
    refine pj_aload_n 120 0 rfl rfl rfl rfl ?_
    refine pn_geti 123 12 7 7 o0 rfl pfX12_105 (Or.inl rfl) rfl rfl ?_
    refine pn_callVv 126 12 [.int (pj_I (M r0 7))] [] o0 (s_X12_fault hg o0 h) plX12_119 rfl rfl rfl rfl (Nat.le_of_ble_eq_true rfl) (by decide) (fun M34 h => ?_)
    exact pn_vret h rfl rfl
set_option maxRecDepth 20000 in
set_option maxHeartbeats 4000000 in
theorem s_X12_readAlternative_78b {l : Launch} {g : pj_G} (hg : pj_ph g = true) {r0 : Nat} {x3 : Int} {M : pj_M} {Q : pj_M → Prop}  {k78 : pj_M → Prop} (o0 : pj_ob r0 12)  (hk78 : ∀  (M : pj_M), k78  M → pj_R l g mdX12_readAlternative pj_T (pj_Zm g mdX12_readAlternative (pj_qv Q)) pj_NK 0 0 78 [(0, .ref r0), (3, .int (pj_I x3))] [] M) (h : w_X12_readAlternative_78b r0 x3  Q k78  M) : pj_R l g mdX12_readAlternative pj_T (pj_Zm g mdX12_readAlternative (pj_qv Q)) pj_NK 0 0 78 [(0, .ref r0), (3, .int (pj_I x3))] [] M := by
  unfold w_X12_readAlternative_78b at h
  refine pj_aload_n 79 0 rfl rfl rfl rfl ?_
  refine pn_callVi 82 12 [] [] o0 (s_X12_here hg o0 h) plX12_115 rfl rfl rfl rfl (Nat.le_of_ble_eq_true rfl) (by decide) (fun t18 M17 h => ?_)
  refine pj_bipush 84 rfl (by decide) rfl ?_
  refine pj_bipush 86 rfl (by decide) rfl ?_
  refine pn_callSi 89 [.int (pj_I t18), .int (pj_I 97), .int (pj_I 104)] [] (s_X12_in hg  h) plX12_98 rfl rfl rfl rfl (Nat.le_of_ble_eq_true rfl) (by decide) (fun t20 M19 h => ?_)
  obtain ⟨q21, h⟩ := h
  refine pj_if_ne 106 92 rfl (by decide) rfl q21  (fun hc => ?_) (fun hc => ?_)
  · replace h := h.1 hc
    refine pn_sub [0, 1] rfl ?_
    exact s_X12_readAlternative_106 hg o0  hk78 h
  · replace h := h.2 (Classical.not_not.mp hc)
    refine pj_aload_n 93 0 rfl rfl rfl rfl ?_
    refine pn_callVi 96 12 [] [] o0 (s_X12_here hg o0 h) plX12_115 rfl rfl rfl rfl (Nat.le_of_ble_eq_true rfl) (by decide) (fun t37 M36 h => ?_)
    refine pj_bipush 98 rfl (by decide) rfl ?_
    refine pj_bipush 100 rfl (by decide) rfl ?_
    refine pn_callSi 103 [.int (pj_I t37), .int (pj_I 65), .int (pj_I 70)] [] (s_X12_in hg  h) plX12_98 rfl rfl rfl rfl (Nat.le_of_ble_eq_true rfl) (by decide) (fun t39 M38 h => ?_)
    obtain ⟨q40, h⟩ := h
    refine pj_if_eq 198 106 rfl (by decide) rfl q40  (fun hc => ?_) (fun hc => ?_)
    · replace h := h.1 hc
      exact pn_vret h rfl rfl
    · replace h := h.2 hc
      refine pn_sub [0, 1] rfl ?_
      exact s_X12_readAlternative_106 hg o0  hk78 h
set_option maxRecDepth 20000 in
set_option maxHeartbeats 4000000 in
theorem s_X12_readAlternative_78 {l : Launch} {g : pj_G} (hg : pj_ph g = true) {r0 : Nat} {x3 : Int} {M : pj_M} {Q : pj_M → Prop}  (o0 : pj_ob r0 12)  (h : w_X12_readAlternative_78 r0 x3  Q  M) : pj_R l g mdX12_readAlternative pj_T (pj_Zm g mdX12_readAlternative (pj_qv Q)) pj_NK 0 0 78 [(0, .ref r0), (3, .int (pj_I x3))] [] M :=
  h (fun s => pj_R l g mdX12_readAlternative pj_T (pj_Zm g mdX12_readAlternative (pj_qv Q)) pj_NK 0 0 78 [(0, .ref r0), (3, .int (pj_I x3))] [] s) (fun s hs => s_X12_readAlternative_78b hg o0  (fun  _ q => q) hs)
set_option maxRecDepth 20000 in
set_option maxHeartbeats 4000000 in
theorem s_X12_readAlternative_27 {l : Launch} {g : pj_G} (hg : pj_ph g = true) {r0 : Nat} {x1 : Int} {x2 : Int} {M : pj_M} {Q : pj_M → Prop}  (o0 : pj_ob r0 12)  (h : w_X12_readAlternative_27 r0 x1 x2  Q M) : pj_R l g mdX12_readAlternative pj_T (pj_Zm g mdX12_readAlternative (pj_qv Q)) pj_NK 0 0 27 [(0, .ref r0), (1, .int (pj_I x1)), (2, .int (pj_I x2))] [] M := by
  unfold w_X12_readAlternative_27 at h
  refine pj_aload_n 28 0 rfl rfl rfl rfl ?_
  refine pj_iload_n 29 2 rfl rfl rfl rfl ?_
  refine pj_iconst 30 rfl rfl ?_
  refine pn_callVi 33 12 [.int (pj_I x2), .int (pj_I 1)] [] o0 (s_X12_oneOf hg o0 h) plX12_123 rfl rfl rfl rfl (Nat.le_of_ble_eq_true rfl) (by decide) (fun t6 M5 h => ?_)
  refine pj_pop 34 rfl rfl rfl ?_
  refine pj_aload_n 35 0 rfl rfl rfl rfl ?_
  refine pn_callVi 38 12 [] [] o0 (s_X12_fine hg o0 h) plX12_111 rfl rfl rfl rfl (Nat.le_of_ble_eq_true rfl) (by decide) (fun t8 M7 h => ?_)
  obtain ⟨q9, h⟩ := h
  refine pj_if_ne 42 41 rfl (by decide) rfl q9  (fun hc => ?_) (fun hc => ?_)
  · replace h := h.1 hc
    refine pj_aload_n 43 0 rfl rfl rfl rfl ?_
    refine pn_getr 46 12 9 hg o0 (pr_12_9 o0).2 rfl pfX12_21 rfl rfl ?_
    refine pj_iconst 47 rfl rfl ?_
    refine pn_iald 48 73 (pr_12_9 o0) (show 0 ≤ (0 : Int) ∧ (0 : Int) < ((73 : Nat) : Int) by decide) rfl rfl ?_
    refine pn_callSi 51 [.int (pj_I (M7 (pj_rf r0 9) 0))] [] (s_X12_alt hg  h) plX12_127 rfl rfl rfl rfl (Nat.le_of_ble_eq_true rfl) (by decide) (fun t11 M10 h => ?_)
    refine pj_istore_n 52 (ls' := [(0, .ref r0), (1, .int (pj_I x1)), (2, .int (pj_I x2)), (3, .int (pj_I t11))]) rfl rfl (by decide) rfl rfl ?_
    refine pj_aload_n 53 0 rfl rfl rfl rfl ?_
    refine pn_getr 56 12 9 hg o0 (pr_12_9 o0).2 rfl pfX12_21 rfl rfl ?_
    refine pj_iconst 57 rfl rfl ?_
    refine pj_dup2 58 rfl rfl rfl rfl ?_
    refine pn_iald 59 73 (pr_12_9 o0) (show 0 ≤ (0 : Int) ∧ (0 : Int) < ((73 : Nat) : Int) by decide) rfl rfl ?_
    refine pj_iconst 60 rfl rfl ?_
    refine pj_iadd 61 rfl rfl ?_
    refine pn_iast 62 73 (pr_12_9 o0)  (show 0 ≤ (0 : Int) ∧ (0 : Int) < ((73 : Nat) : Int) by decide) rfl rfl (fun M12 hM12 => ?_)
    replace h := h M12 hM12
    refine pj_aload_n 63 0 rfl rfl rfl rfl ?_
    refine pn_getr 66 12 9 hg o0 (pr_12_9 o0).2 rfl pfX12_21 rfl rfl ?_
    refine pj_iload_n 67 3 rfl rfl rfl rfl ?_
    refine pj_iload_n 68 1 rfl rfl rfl rfl ?_
    obtain ⟨q13, h⟩ := h
    refine pn_iast 69 73 (pr_12_9 o0)  q13 rfl rfl (fun M14 hM14 => ?_)
    replace h := h M14 hM14
    refine pj_aload_n 70 0 rfl rfl rfl rfl ?_
    refine pn_getr 73 12 9 hg o0 (pr_12_9 o0).2 rfl pfX12_21 rfl rfl ?_
    refine pj_iload_n 74 3 rfl rfl rfl rfl ?_
    refine pj_iconst 75 rfl rfl ?_
    refine pj_iadd 76 rfl rfl ?_
    refine pj_iconst 77 rfl rfl ?_
    obtain ⟨q15, h⟩ := h
    refine pn_iast 78 73 (pr_12_9 o0)  q15 rfl rfl (fun M16 hM16 => ?_)
    replace h := h M16 hM16
    refine pn_sub [0, 3] rfl ?_
    exact s_X12_readAlternative_78 hg o0   h
  · replace h := h.2 (Classical.not_not.mp hc)
    exact pn_vret h rfl rfl
set_option maxRecDepth 20000 in
set_option maxHeartbeats 4000000 in
theorem s_X12_readAlternative {l : Launch} {g : pj_G} (hg : pj_ph g = true) {r0 : Nat} {x1 : Int} {x2 : Int} {M : pj_M} {Q : pj_M → Prop} (o0 : pj_ob r0 12) (h : w_X12_readAlternative r0 x1 x2 M Q) : pj_S l g mdX12_readAlternative [.ref r0, .int (pj_I x1), .int (pj_I x2)] pj_NK M (pj_qv Q) := by
  refine pj_ofR (ls := [(0, .ref r0), (1, .int (pj_I x1)), (2, .int (pj_I x2))]) gcX12_readAlternative (by decide) rfl (Nat.le_of_ble_eq_true rfl) rfl ?_
  unfold w_X12_readAlternative at h
  refine pj_aload_n 1 0 rfl rfl rfl rfl ?_
  refine pn_callVi 4 12 [] [] o0 (s_X12_here hg o0 h) plX12_115 rfl rfl rfl rfl (Nat.le_of_ble_eq_true rfl) (by decide) (fun t2 M1 h => ?_)
  refine pj_iload_n 5 2 rfl rfl rfl rfl ?_
  obtain ⟨q3, h⟩ := h
  obtain ⟨q4, h⟩ := h
  refine pj_icmp_ne 27 8 rfl (by decide) rfl q3 q4 (fun hc => ?_) (fun hc => ?_)
  · replace h := h.1 hc
    refine pn_sub [0, 1, 2] rfl ?_
    exact s_X12_readAlternative_27 hg o0   h
  · replace h := h.2 (Classical.not_not.mp hc)
    refine pj_aload_n 9 0 rfl rfl rfl rfl ?_
    refine pn_getr 12 12 9 hg o0 (pr_12_9 o0).2 rfl pfX12_21 rfl rfl ?_
    refine pj_iconst 13 rfl rfl ?_
    refine pn_iald 14 73 (pr_12_9 o0) (show 0 ≤ (0 : Int) ∧ (0 : Int) < ((73 : Nat) : Int) by decide) rfl rfl ?_
    refine pj_bipush 16 rfl (by decide) rfl ?_
    obtain ⟨q41, h⟩ := h
    refine pj_icmp_ne 27 19 rfl (by decide) rfl q41 (show pj_in 12 by decide) (fun hc => ?_) (fun hc => ?_)
    · replace h := h.1 hc
      refine pn_sub [0, 1, 2] rfl ?_
      exact s_X12_readAlternative_27 hg o0   h
    · replace h := h.2 (Classical.not_not.mp hc)
      refine pj_aload_n 20 0 rfl rfl rfl rfl ?_
      refine pj_aload_n 21 0 rfl rfl rfl rfl ?_
      refine pn_geti 24 12 7 7 o0 rfl pfX12_105 (Or.inl rfl) rfl rfl ?_
      refine pn_callVv 27 12 [.int (pj_I (M1 r0 7))] [] o0 (s_X12_fault hg o0 h) plX12_119 rfl rfl rfl rfl (Nat.le_of_ble_eq_true rfl) (by decide) (fun M42 h => ?_)
      refine pn_sub [0, 1, 2] rfl ?_
      exact s_X12_readAlternative_27 hg o0   h
def w_X12_ruled_4b (r0 : Nat)  (Q : Int → pj_M → Prop) (k4 : Int → Int → pj_M → Prop) (x1 : Int) (x2 : Int) (M : pj_M) : Prop :=
  ((0 : Int) ≤ 0 ∧ 0 < ((pj_sh r0).2 : Int)) ∧ (pj_in x2) ∧ (pj_in (M r0 0)) ∧ (((M r0 0) ≤ x2 → Q x1 M) ∧ (¬ (M r0 0) ≤ x2 → w_X12_alt x2 M (fun (t5 : Int) (M4 : pj_M) => ((0 : Int) ≤ t5 ∧ t5 < ((pj_sh r0).2 : Int)) ∧ ∀ z7 : Int, z7 = (pj_or x1 (pj_shl 1 (M4 r0 t5))) → k4 z7 (x2 + 1) M4)))
def w_X12_ruled_4 (r0 : Nat)  (Q : Int → pj_M → Prop) (x1 : Int) (x2 : Int) (M : pj_M) : Prop := pj_lp (fun (k : Int × Int × pj_M → Prop) (s : Int × Int × pj_M) => w_X12_ruled_4b r0  Q (fun (x1 : Int) (x2 : Int) (M : pj_M) => k (x1, x2, M)) s.1 s.2.1 s.2.2) (x1, x2, M)
def w_X12_ruled (r0 : Nat) (M : pj_M) (Q : Int → pj_M → Prop) : Prop :=
  w_X12_ruled_4 r0  Q 0 0 M
set_option maxRecDepth 20000 in
set_option maxHeartbeats 4000000 in
theorem s_X12_ruled_4b {l : Launch} {g : pj_G} (hg : pj_ph g = true) {r0 : Nat} {x1 : Int} {x2 : Int} {M : pj_M} {Q : Int → pj_M → Prop}  {k4 : Int → Int → pj_M → Prop} (o0 : pj_ol r0 1 (pj_sh r0).2)  (hk4 : ∀ (x1 : Int) (x2 : Int) (M : pj_M), k4 x1 x2 M → pj_R l g mdX12_ruled pj_T (pj_Zm g mdX12_ruled (pj_qi Q)) pj_NK 0 0 4 [(0, .ref r0), (1, .int (pj_I x1)), (2, .int (pj_I x2))] [] M) (h : w_X12_ruled_4b r0  Q k4 x1 x2 M) : pj_R l g mdX12_ruled pj_T (pj_Zm g mdX12_ruled (pj_qi Q)) pj_NK 0 0 4 [(0, .ref r0), (1, .int (pj_I x1)), (2, .int (pj_I x2))] [] M := by
  unfold w_X12_ruled_4b at h
  refine pj_iload_n 5 2 rfl rfl rfl rfl ?_
  refine pj_aload_n 6 0 rfl rfl rfl rfl ?_
  refine pj_iconst 7 rfl rfl ?_
  obtain ⟨q1, h⟩ := h
  refine pn_iald 8 ((pj_sh r0).2) o0 q1 rfl rfl ?_
  obtain ⟨q2, h⟩ := h
  obtain ⟨q3, h⟩ := h
  refine pj_icmp_ge 28 11 rfl (by decide) rfl q2 q3 (fun hc => ?_) (fun hc => ?_)
  · replace h := h.1 hc
    refine pj_iload_n 29 1 rfl rfl rfl rfl ?_
    exact pn_iret h rfl rfl
  · replace h := h.2 hc
    refine pj_iload_n 12 1 rfl rfl rfl rfl ?_
    refine pj_iconst 13 rfl rfl ?_
    refine pj_aload_n 14 0 rfl rfl rfl rfl ?_
    refine pj_iload_n 15 2 rfl rfl rfl rfl ?_
    refine pn_callSi 18 [.int (pj_I x2)] [.ref r0, .int (pj_I 1), .int (pj_I x1)] (s_X12_alt hg  h) plX12_127 rfl rfl rfl rfl (Nat.le_of_ble_eq_true rfl) (by decide) (fun t5 M4 h => ?_)
    obtain ⟨q6, h⟩ := h
    refine pn_iald 19 ((pj_sh r0).2) o0 q6 rfl rfl ?_
    refine pj_ishl 20 rfl rfl ?_
    refine pj_ior 21 rfl rfl ?_
    refine pn_nm (fun z7 hz7 => ?_)
    replace h := h z7 hz7
    refine pj_istore_n 22 (ls' := [(0, .ref r0), (1, .int (pj_I z7)), (2, .int (pj_I x2))]) rfl rfl (by decide) rfl rfl ?_
    refine pj_iinc 25 2 (ls' := [(0, .ref r0), (1, .int (pj_I z7)), (2, .int (pj_I (x2 + 1)))]) rfl rfl (by decide) rfl rfl ?_
    refine pj_goto 4 rfl (by decide) ?_
    refine pn_sub [0, 1, 2] rfl ?_
    exact hk4 _ _ _ h
set_option maxRecDepth 20000 in
set_option maxHeartbeats 4000000 in
theorem s_X12_ruled_4 {l : Launch} {g : pj_G} (hg : pj_ph g = true) {r0 : Nat} {x1 : Int} {x2 : Int} {M : pj_M} {Q : Int → pj_M → Prop}  (o0 : pj_ol r0 1 (pj_sh r0).2)  (h : w_X12_ruled_4 r0  Q x1 x2 M) : pj_R l g mdX12_ruled pj_T (pj_Zm g mdX12_ruled (pj_qi Q)) pj_NK 0 0 4 [(0, .ref r0), (1, .int (pj_I x1)), (2, .int (pj_I x2))] [] M :=
  h (fun s => pj_R l g mdX12_ruled pj_T (pj_Zm g mdX12_ruled (pj_qi Q)) pj_NK 0 0 4 [(0, .ref r0), (1, .int (pj_I (s.1))), (2, .int (pj_I (s.2.1)))] [] s.2.2) (fun s hs => s_X12_ruled_4b hg o0  (fun _ _ _ q => q) hs)
set_option maxRecDepth 20000 in
set_option maxHeartbeats 4000000 in
theorem s_X12_ruled {l : Launch} {g : pj_G} (hg : pj_ph g = true) {r0 : Nat} {M : pj_M} {Q : Int → pj_M → Prop} (o0 : pj_oa r0 1) (h : w_X12_ruled r0 M Q) : pj_S l g mdX12_ruled [.ref r0] pj_NK M (pj_qi Q) := by
  refine pj_ofR (ls := [(0, .ref r0)]) gcX12_ruled (by decide) rfl (Nat.le_of_ble_eq_true rfl) rfl ?_
  unfold w_X12_ruled at h
  refine pj_iconst 1 rfl rfl ?_
  refine pj_istore_n 2 (ls' := [(0, .ref r0), (1, .int (pj_I 0))]) rfl rfl (by decide) rfl rfl ?_
  refine pj_iconst 3 rfl rfl ?_
  refine pj_istore_n 4 (ls' := [(0, .ref r0), (1, .int (pj_I 0)), (2, .int (pj_I 0))]) rfl rfl (by decide) rfl rfl ?_
  refine pn_sub [0, 1, 2] rfl ?_
  exact s_X12_ruled_4 hg (pr_len o0)   h
