def w_X11_cannotStand (x0 : Int) (M : pj_M) (Q : Int → pj_M → Prop) : Prop :=
  Q ((-1) - x0) M
set_option maxRecDepth 20000 in
set_option maxHeartbeats 4000000 in
theorem s_X11_cannotStand {l : Launch} {g : pj_G} (hg : pj_ph g = true) {x0 : Int} {M : pj_M} {Q : Int → pj_M → Prop}  (h : w_X11_cannotStand x0 M Q) : pj_S l g mdX11_cannotStand [.int (pj_I x0)] pj_NK M (pj_qi Q) := by
  refine pj_ofR (ls := [(0, .int (pj_I x0))]) gcX11_cannotStand (by decide) rfl (Nat.le_of_ble_eq_true rfl) rfl ?_
  unfold w_X11_cannotStand at h
  refine pj_iconst 1 rfl rfl ?_
  refine pj_iload_n 2 0 rfl rfl rfl rfl ?_
  refine pj_isub 3 rfl rfl ?_
  exact pn_iret h rfl rfl
def w_X5_read_14b (r0 : Nat) (r1 : Nat)  (Q : Int → pj_M → Prop) (k14 : Int → pj_M → Prop) (x2 : Int) (M : pj_M) : Prop :=
  (pj_in x2) ∧ (pj_in (M r1 1)) ∧ (((M r1 1) ≤ x2 → (pj_in (M r0 3)) ∧ (((M r0 3) = 2 → w_X4_everyCapitalHasRule (pj_rf r0 0) M (fun (t8 : Int) (M7 : pj_M) => (pj_in t8) ∧ ((¬ t8 = 0 → w_X3_learn (pj_rf r0 1) (pj_rf r0 0) M7 (fun (M10 : pj_M) => ((0 : Int) ≤ (M10 (pj_rf r0 0) 4) ∧ (M10 (pj_rf r0 0) 4) < 6) ∧ (pj_in (M10 (pj_rf (pj_rf r0 1) 0) (M10 (pj_rf r0 0) 4))) ∧ ((1048576 ≤ (M10 (pj_rf (pj_rf r0 1) 0) (M10 (pj_rf r0 0) 4)) → Q (-200) M10) ∧ (¬ 1048576 ≤ (M10 (pj_rf (pj_rf r0 1) 0) (M10 (pj_rf r0 0) 4)) → Q (M10 (pj_rf r0 0) 3) M10)))) ∧ (t8 = 0 → Q (-201) M7)))) ∧ (¬ (M r0 3) = 2 → w_X11_cannotStand (M r1 1) M (fun (t15 : Int) (M14 : pj_M) => Q t15 M14)))) ∧ (¬ (M r1 1) ≤ x2 → ((0 : Int) ≤ x2 ∧ x2 < 80) ∧ w_X5_takes r0 (M (pj_rf r1 0) x2) M (fun (t18 : Int) (M17 : pj_M) => (pj_in t18) ∧ ((¬ t18 = 0 → k14 (x2 + 1) M17) ∧ (t18 = 0 → w_X11_cannotStand x2 M17 (fun (t21 : Int) (M20 : pj_M) => Q t21 M20))))))
def w_X5_read_14 (r0 : Nat) (r1 : Nat)  (Q : Int → pj_M → Prop) (x2 : Int) (M : pj_M) : Prop := pj_lp (fun (k : Int × pj_M → Prop) (s : Int × pj_M) => w_X5_read_14b r0 r1  Q (fun (x2 : Int) (M : pj_M) => k (x2, M)) s.1 s.2) (x2, M)
def w_X5_read (r0 : Nat) (r1 : Nat) (M : pj_M) (Q : Int → pj_M → Prop) : Prop :=
  w_X4_clear (pj_rf r0 0) M (fun (M1 : pj_M) => ∀ M3 : pj_M, M3 = pj_up M1 r0 3 0 → w_X5_read_14 r0 r1  Q 0 M3)
set_option maxRecDepth 20000 in
set_option maxHeartbeats 4000000 in
theorem s_X5_read_14b {l : Launch} {g : pj_G} (hg : pj_ph g = true) {r0 : Nat} {r1 : Nat} {x2 : Int} {M : pj_M} {Q : Int → pj_M → Prop}  {k14 : Int → pj_M → Prop} (o0 : pj_ob r0 5) (o1 : pj_ob r1 9)  (hk14 : ∀ (x2 : Int) (M : pj_M), k14 x2 M → pj_R l g mdX5_read pj_T (pj_Zm g mdX5_read (pj_qi Q)) pj_NK 0 0 14 [(0, .ref r0), (1, .ref r1), (2, .int (pj_I x2))] [] M) (h : w_X5_read_14b r0 r1  Q k14 x2 M) : pj_R l g mdX5_read pj_T (pj_Zm g mdX5_read (pj_qi Q)) pj_NK 0 0 14 [(0, .ref r0), (1, .ref r1), (2, .int (pj_I x2))] [] M := by
  unfold w_X5_read_14b at h
  refine pj_iload_n 15 2 rfl rfl rfl rfl ?_
  refine pj_aload_n 16 1 rfl rfl rfl rfl ?_
  refine pn_geti 19 9 1 1 o1 rfl pfX5_32 (Or.inl rfl) rfl rfl ?_
  obtain ⟨q4, h⟩ := h
  obtain ⟨q5, h⟩ := h
  refine pj_icmp_ge 46 22 rfl (by decide) rfl q4 q5 (fun hc => ?_) (fun hc => ?_)
  · replace h := h.1 hc
    refine pj_aload_n 47 0 rfl rfl rfl rfl ?_
    refine pn_geti 50 5 3 3 o0 rfl pfX5_28 (Or.inl rfl) rfl rfl ?_
    refine pj_iconst 51 rfl rfl ?_
    obtain ⟨q6, h⟩ := h
    refine pj_icmp_eq 62 54 rfl (by decide) rfl q6 (show pj_in 2 by decide) (fun hc => ?_) (fun hc => ?_)
    · replace h := h.1 hc
      refine pj_aload_n 63 0 rfl rfl rfl rfl ?_
      refine pn_getr 66 5 0 hg o0 (pr_5_0 o0).2 rfl pfX5_12 rfl rfl ?_
      refine pn_callVi 69 4 [] [] (pr_5_0 o0) (s_X4_everyCapitalHasRule hg (pr_5_0 o0) h) plX5_49 rfl rfl rfl rfl (Nat.le_of_ble_eq_true rfl) (by decide) (fun t8 M7 h => ?_)
      obtain ⟨q9, h⟩ := h
      refine pj_if_ne 76 72 rfl (by decide) rfl q9  (fun hc => ?_) (fun hc => ?_)
      · replace h := h.1 hc
        refine pj_aload_n 77 0 rfl rfl rfl rfl ?_
        refine pn_getr 80 5 1 hg o0 (pr_5_1 o0).2 rfl pfX5_21 rfl rfl ?_
        refine pj_aload_n 81 0 rfl rfl rfl rfl ?_
        refine pn_getr 84 5 0 hg o0 (pr_5_0 o0).2 rfl pfX5_12 rfl rfl ?_
        refine pn_callVv 87 3 [.ref (pj_rf r0 0)] [] (pr_5_1 o0) (s_X3_learn hg (pr_5_1 o0) (pr_5_0 o0) h) plX5_53 rfl rfl rfl rfl (Nat.le_of_ble_eq_true rfl) (by decide) (fun M10 h => ?_)
        refine pj_aload_n 88 0 rfl rfl rfl rfl ?_
        refine pn_getr 91 5 1 hg o0 (pr_5_1 o0).2 rfl pfX5_21 rfl rfl ?_
        refine pn_getr 94 3 0 hg (pr_5_1 o0) (pr_3_0 (pr_5_1 o0)).2 rfl pfX5_57 rfl rfl ?_
        refine pj_aload_n 95 0 rfl rfl rfl rfl ?_
        refine pn_getr 98 5 0 hg o0 (pr_5_0 o0).2 rfl pfX5_12 rfl rfl ?_
        refine pn_geti 101 4 4 4 (pr_5_0 o0) rfl pfX5_60 (Or.inl rfl) rfl rfl ?_
        obtain ⟨q12, h⟩ := h
        refine pn_iald 102 6 (pr_3_0 (pr_5_1 o0)) q12 rfl rfl ?_
        refine pj_ldc 104 1048576 rfl pkX5_63 rfl ?_
        obtain ⟨q13, h⟩ := h
        refine pj_icmp_ge 117 107 rfl (by decide) rfl q13 (show pj_in 1048576 by decide) (fun hc => ?_) (fun hc => ?_)
        · replace h := h.1 hc
          refine pj_sipush 120 rfl (by decide) rfl ?_
          exact pn_iret h rfl rfl
        · replace h := h.2 hc
          refine pj_aload_n 108 0 rfl rfl rfl rfl ?_
          refine pn_getr 111 5 0 hg o0 (pr_5_0 o0).2 rfl pfX5_12 rfl rfl ?_
          refine pn_geti 114 4 3 3 (pr_5_0 o0) rfl pfX5_64 (Or.inl rfl) rfl rfl ?_
          refine pj_goto 120 rfl (by decide) ?_
          exact pn_iret h rfl rfl
      · replace h := h.2 (Classical.not_not.mp hc)
        refine pj_sipush 75 rfl (by decide) rfl ?_
        exact pn_iret h rfl rfl
    · replace h := h.2 hc
      refine pj_aload_n 55 1 rfl rfl rfl rfl ?_
      refine pn_geti 58 9 1 1 o1 rfl pfX5_32 (Or.inl rfl) rfl rfl ?_
      refine pn_callSi 61 [.int (pj_I (M r1 1))] [] (s_X11_cannotStand hg  h) plX5_45 rfl rfl rfl rfl (Nat.le_of_ble_eq_true rfl) (by decide) (fun t15 M14 h => ?_)
      exact pn_iret h rfl rfl
  · replace h := h.2 hc
    refine pj_aload_n 23 0 rfl rfl rfl rfl ?_
    refine pj_aload_n 24 1 rfl rfl rfl rfl ?_
    refine pn_getr 27 9 0 hg o1 (pr_9_0 o1).2 rfl pfX5_37 rfl rfl ?_
    refine pj_iload_n 28 2 rfl rfl rfl rfl ?_
    obtain ⟨q16, h⟩ := h
    refine pn_iald 29 80 (pr_9_0 o1) q16 rfl rfl ?_
    refine pn_callVi 32 5 [.int (pj_I (M (pj_rf r1 0) x2))] [] o0 (s_X5_takes hg o0 h) plX5_41 rfl rfl rfl rfl (Nat.le_of_ble_eq_true rfl) (by decide) (fun t18 M17 h => ?_)
    obtain ⟨q19, h⟩ := h
    refine pj_if_ne 40 35 rfl (by decide) rfl q19  (fun hc => ?_) (fun hc => ?_)
    · replace h := h.1 hc
      refine pj_iinc 43 2 (ls' := [(0, .ref r0), (1, .ref r1), (2, .int (pj_I (x2 + 1)))]) rfl rfl (by decide) rfl rfl ?_
      refine pj_goto 14 rfl (by decide) ?_
      refine pn_sub [0, 1, 2] rfl ?_
      exact hk14 _ _ h
    · replace h := h.2 (Classical.not_not.mp hc)
      refine pj_iload_n 36 2 rfl rfl rfl rfl ?_
      refine pn_callSi 39 [.int (pj_I x2)] [] (s_X11_cannotStand hg  h) plX5_45 rfl rfl rfl rfl (Nat.le_of_ble_eq_true rfl) (by decide) (fun t21 M20 h => ?_)
      exact pn_iret h rfl rfl
set_option maxRecDepth 20000 in
set_option maxHeartbeats 4000000 in
theorem s_X5_read_14 {l : Launch} {g : pj_G} (hg : pj_ph g = true) {r0 : Nat} {r1 : Nat} {x2 : Int} {M : pj_M} {Q : Int → pj_M → Prop}  (o0 : pj_ob r0 5) (o1 : pj_ob r1 9)  (h : w_X5_read_14 r0 r1  Q x2 M) : pj_R l g mdX5_read pj_T (pj_Zm g mdX5_read (pj_qi Q)) pj_NK 0 0 14 [(0, .ref r0), (1, .ref r1), (2, .int (pj_I x2))] [] M :=
  h (fun s => pj_R l g mdX5_read pj_T (pj_Zm g mdX5_read (pj_qi Q)) pj_NK 0 0 14 [(0, .ref r0), (1, .ref r1), (2, .int (pj_I (s.1)))] [] s.2) (fun s hs => s_X5_read_14b hg o0 o1  (fun _ _ q => q) hs)
set_option maxRecDepth 20000 in
set_option maxHeartbeats 4000000 in
theorem s_X5_read {l : Launch} {g : pj_G} (hg : pj_ph g = true) {r0 : Nat} {r1 : Nat} {M : pj_M} {Q : Int → pj_M → Prop} (o0 : pj_ob r0 5) (o1 : pj_ob r1 9) (h : w_X5_read r0 r1 M Q) : pj_S l g mdX5_read [.ref r0, .ref r1] pj_NK M (pj_qi Q) := by
  refine pj_ofR (ls := [(0, .ref r0), (1, .ref r1)]) gcX5_read (by decide) rfl (Nat.le_of_ble_eq_true rfl) rfl ?_
  unfold w_X5_read at h
  refine pj_aload_n 1 0 rfl rfl rfl rfl ?_
  refine pn_getr 4 5 0 hg o0 (pr_5_0 o0).2 rfl pfX5_12 rfl rfl ?_
  refine pn_callVv 7 4 [] [] (pr_5_0 o0) (s_X4_clear hg (pr_5_0 o0) h) plX5_25 rfl rfl rfl rfl (Nat.le_of_ble_eq_true rfl) (by decide) (fun M1 h => ?_)
  refine pj_aload_n 8 0 rfl rfl rfl rfl ?_
  refine pj_iconst 9 rfl rfl ?_
  refine pn_puti 12 5 3 3 o0  rfl pfX5_28 rfl rfl rfl (fun M3 hM3 => ?_)
  replace h := h M3 hM3
  refine pj_iconst 13 rfl rfl ?_
  refine pj_istore_n 14 (ls' := [(0, .ref r0), (1, .ref r1), (2, .int (pj_I 0))]) rfl rfl (by decide) rfl rfl ?_
  refine pn_sub [0, 1, 2] rfl ?_
  exact s_X5_read_14 hg o0 o1   h
def w_X6_push (r0 : Nat) (r1 : Nat) (M : pj_M) (Q : pj_M → Prop) : Prop :=
  ((0 : Int) ≤ (M r0 1) ∧ (M r0 1) < 10) ∧ w_X1_copyFrom (pj_rf (pj_rf r0 0) ((M r0 1)).toNat) r1 M (fun (M2 : pj_M) => ∀ M4 : pj_M, M4 = pj_up M2 r0 1 (pj_rem ((M2 r0 1) + 1) 10) → w_Jmin ((M4 r0 2) + 1) 10 M4 (fun (t6 : Int) (M5 : pj_M) => ∀ M7 : pj_M, M7 = pj_up M5 r0 2 t6 → Q M7))
set_option maxRecDepth 20000 in
set_option maxHeartbeats 4000000 in
theorem s_X6_push {l : Launch} {g : pj_G} (hg : pj_ph g = true) {r0 : Nat} {r1 : Nat} {M : pj_M} {Q : pj_M → Prop} (o0 : pj_ob r0 6) (o1 : pj_ob r1 1) (h : w_X6_push r0 r1 M Q) : pj_S l g mdX6_push [.ref r0, .ref r1] pj_NK M (pj_qv Q) := by
  refine pj_ofR (ls := [(0, .ref r0), (1, .ref r1)]) gcX6_push (by decide) rfl (Nat.le_of_ble_eq_true rfl) rfl ?_
  unfold w_X6_push at h
  refine pj_aload_n 1 0 rfl rfl rfl rfl ?_
  refine pn_getr 4 6 0 hg o0 (pr_6_0 o0).2 rfl pfX6_11 rfl rfl ?_
  refine pj_aload_n 5 0 rfl rfl rfl rfl ?_
  refine pn_geti 8 6 1 1 o0 rfl pfX6_18 (Or.inl rfl) rfl rfl ?_
  obtain ⟨q1, h⟩ := h
  refine pn_aald 9 10 hg (pr_6_0 o0) (pr_desks (pr_6_0 o0) q1).2 q1 rfl rfl ?_
  refine pj_aload_n 10 1 rfl rfl rfl rfl ?_
  refine pn_callVv 13 1 [.ref r1] [] (pr_desks (pr_6_0 o0) q1) (s_X1_copyFrom hg (pr_desks (pr_6_0 o0) q1) o1 h) plX6_22 rfl rfl rfl rfl (Nat.le_of_ble_eq_true rfl) (by decide) (fun M2 h => ?_)
  refine pj_aload_n 14 0 rfl rfl rfl rfl ?_
  refine pj_aload_n 15 0 rfl rfl rfl rfl ?_
  refine pn_geti 18 6 1 1 o0 rfl pfX6_18 (Or.inl rfl) rfl rfl ?_
  refine pj_iconst 19 rfl rfl ?_
  refine pj_iadd 20 rfl rfl ?_
  refine pj_bipush 22 rfl (by decide) rfl ?_
  refine pj_irem 23 rfl rfl (show pj_in 10 by decide) (by decide) ?_
  refine pn_puti 26 6 1 1 o0  rfl pfX6_18 rfl rfl rfl (fun M4 hM4 => ?_)
  replace h := h M4 hM4
  refine pj_aload_n 27 0 rfl rfl rfl rfl ?_
  refine pj_aload_n 28 0 rfl rfl rfl rfl ?_
  refine pn_geti 31 6 2 2 o0 rfl pfX6_26 (Or.inl rfl) rfl rfl ?_
  refine pj_iconst 32 rfl rfl ?_
  refine pj_iadd 33 rfl rfl ?_
  refine pj_bipush 35 rfl (by decide) rfl ?_
  refine pn_callSi 38 [.int (pj_I ((M4 r0 2) + 1)), .int (pj_I 10)] [.ref r0] (s_Jmin hg  h) plX6_29 rfl rfl rfl rfl (Nat.le_of_ble_eq_true rfl) (by decide) (fun t6 M5 h => ?_)
  refine pn_puti 41 6 2 2 o0  rfl pfX6_26 rfl rfl rfl (fun M7 hM7 => ?_)
  replace h := h M7 hM7
  exact pn_vret h rfl rfl
def w_X6_pop (r0 : Nat) (r1 : Nat) (M : pj_M) (Q : Int → pj_M → Prop) : Prop :=
  (pj_in (M r0 2)) ∧ ((¬ (M r0 2) = 0 → ∀ M2 : pj_M, M2 = pj_up M r0 1 (pj_rem (((M r0 1) + 10) - 1) 10) → ((0 : Int) ≤ (M2 r0 1) ∧ (M2 r0 1) < 10) ∧ w_X1_copyFrom r1 (pj_rf (pj_rf r0 0) ((M2 r0 1)).toNat) M2 (fun (M4 : pj_M) => ∀ M6 : pj_M, M6 = pj_up M4 r0 2 ((M4 r0 2) - 1) → Q 1 M6)) ∧ ((M r0 2) = 0 → Q 0 M))
set_option maxRecDepth 20000 in
set_option maxHeartbeats 4000000 in
theorem s_X6_pop {l : Launch} {g : pj_G} (hg : pj_ph g = true) {r0 : Nat} {r1 : Nat} {M : pj_M} {Q : Int → pj_M → Prop} (o0 : pj_ob r0 6) (o1 : pj_ob r1 1) (h : w_X6_pop r0 r1 M Q) : pj_S l g mdX6_pop [.ref r0, .ref r1] pj_NK M (pj_qi Q) := by
  refine pj_ofR (ls := [(0, .ref r0), (1, .ref r1)]) gcX6_pop (by decide) rfl (Nat.le_of_ble_eq_true rfl) rfl ?_
  unfold w_X6_pop at h
  refine pj_aload_n 1 0 rfl rfl rfl rfl ?_
  refine pn_geti 4 6 2 2 o0 rfl pfX6_26 (Or.inl rfl) rfl rfl ?_
  obtain ⟨q1, h⟩ := h
  refine pj_if_ne 9 7 rfl (by decide) rfl q1  (fun hc => ?_) (fun hc => ?_)
  · replace h := h.1 hc
    refine pj_aload_n 10 0 rfl rfl rfl rfl ?_
    refine pj_aload_n 11 0 rfl rfl rfl rfl ?_
    refine pn_geti 14 6 1 1 o0 rfl pfX6_18 (Or.inl rfl) rfl rfl ?_
    refine pj_bipush 16 rfl (by decide) rfl ?_
    refine pj_iadd 17 rfl rfl ?_
    refine pj_iconst 18 rfl rfl ?_
    refine pj_isub 19 rfl rfl ?_
    refine pj_bipush 21 rfl (by decide) rfl ?_
    refine pj_irem 22 rfl rfl (show pj_in 10 by decide) (by decide) ?_
    refine pn_puti 25 6 1 1 o0  rfl pfX6_18 rfl rfl rfl (fun M2 hM2 => ?_)
    replace h := h M2 hM2
    refine pj_aload_n 26 1 rfl rfl rfl rfl ?_
    refine pj_aload_n 27 0 rfl rfl rfl rfl ?_
    refine pn_getr 30 6 0 hg o0 (pr_6_0 o0).2 rfl pfX6_11 rfl rfl ?_
    refine pj_aload_n 31 0 rfl rfl rfl rfl ?_
    refine pn_geti 34 6 1 1 o0 rfl pfX6_18 (Or.inl rfl) rfl rfl ?_
    obtain ⟨q3, h⟩ := h
    refine pn_aald 35 10 hg (pr_6_0 o0) (pr_desks (pr_6_0 o0) q3).2 q3 rfl rfl ?_
    refine pn_callVv 38 1 [.ref (pj_rf (pj_rf r0 0) ((M2 r0 1)).toNat)] [] o1 (s_X1_copyFrom hg o1 (pr_desks (pr_6_0 o0) q3) h) plX6_22 rfl rfl rfl rfl (Nat.le_of_ble_eq_true rfl) (by decide) (fun M4 h => ?_)
    refine pj_aload_n 39 0 rfl rfl rfl rfl ?_
    refine pj_dup 40 rfl rfl rfl ?_
    refine pn_geti 43 6 2 2 o0 rfl pfX6_26 (Or.inl rfl) rfl rfl ?_
    refine pj_iconst 44 rfl rfl ?_
    refine pj_isub 45 rfl rfl ?_
    refine pn_puti 48 6 2 2 o0  rfl pfX6_26 rfl rfl rfl (fun M6 hM6 => ?_)
    replace h := h M6 hM6
    refine pj_iconst 49 rfl rfl ?_
    exact pn_zret (by decide) h rfl rfl
  · replace h := h.2 (Classical.not_not.mp hc)
    refine pj_iconst 8 rfl rfl ?_
    exact pn_zret (by decide) h rfl rfl
def w_X6_clear (r0 : Nat) (M : pj_M) (Q : pj_M → Prop) : Prop :=
  ∀ M1 : pj_M, M1 = pj_up M r0 2 0 → Q M1
set_option maxRecDepth 20000 in
set_option maxHeartbeats 4000000 in
theorem s_X6_clear {l : Launch} {g : pj_G} (hg : pj_ph g = true) {r0 : Nat} {M : pj_M} {Q : pj_M → Prop} (o0 : pj_ob r0 6) (h : w_X6_clear r0 M Q) : pj_S l g mdX6_clear [.ref r0] pj_NK M (pj_qv Q) := by
  refine pj_ofR (ls := [(0, .ref r0)]) gcX6_clear (by decide) rfl (Nat.le_of_ble_eq_true rfl) rfl ?_
  unfold w_X6_clear at h
  refine pj_aload_n 1 0 rfl rfl rfl rfl ?_
  refine pj_iconst 2 rfl rfl ?_
  refine pn_puti 5 6 2 2 o0  rfl pfX6_26 rfl rfl rfl (fun M1 hM1 => ?_)
  replace h := h M1 hM1
  exact pn_vret h rfl rfl
def w_X7_has (r0 : Nat) (x1 : Int) (M : pj_M) (Q : Int → pj_M → Prop) : Prop :=
  (pj_in x1) ∧ ((x1 < 1 → Q 0 M) ∧ (¬ x1 < 1 → (pj_in x1) ∧ (pj_in (M r0 1)) ∧ (((M r0 1) < x1 → Q 0 M) ∧ (¬ (M r0 1) < x1 → Q 1 M))))
set_option maxRecDepth 20000 in
set_option maxHeartbeats 4000000 in
theorem s_X7_has {l : Launch} {g : pj_G} (hg : pj_ph g = true) {r0 : Nat} {x1 : Int} {M : pj_M} {Q : Int → pj_M → Prop} (o0 : pj_ob r0 7) (h : w_X7_has r0 x1 M Q) : pj_S l g mdX7_has [.ref r0, .int (pj_I x1)] pj_NK M (pj_qi Q) := by
  refine pj_ofR (ls := [(0, .ref r0), (1, .int (pj_I x1))]) gcX7_has (by decide) rfl (Nat.le_of_ble_eq_true rfl) rfl ?_
  unfold w_X7_has at h
  refine pj_iload_n 1 1 rfl rfl rfl rfl ?_
  refine pj_iconst 2 rfl rfl ?_
  obtain ⟨q1, h⟩ := h
  refine pj_icmp_lt 17 5 rfl (by decide) rfl q1 (show pj_in 1 by decide) (fun hc => ?_) (fun hc => ?_)
  · replace h := h.1 hc
    refine pj_iconst 18 rfl rfl ?_
    exact pn_zret (by decide) h rfl rfl
  · replace h := h.2 hc
    refine pj_iload_n 6 1 rfl rfl rfl rfl ?_
    refine pj_aload_n 7 0 rfl rfl rfl rfl ?_
    refine pn_geti 10 7 1 1 o0 rfl pfX7_15 (Or.inl rfl) rfl rfl ?_
    obtain ⟨q2, h⟩ := h
    obtain ⟨q3, h⟩ := h
    refine pj_icmp_gt 17 13 rfl (by decide) rfl q2 q3 (fun hc => ?_) (fun hc => ?_)
    · replace h := h.1 hc
      refine pj_iconst 18 rfl rfl ?_
      exact pn_zret (by decide) h rfl rfl
    · replace h := h.2 hc
      refine pj_iconst 14 rfl rfl ?_
      refine pj_goto 18 rfl (by decide) ?_
      exact pn_zret (by decide) h rfl rfl
def w_X7_removeAt_12b (r0 : Nat)  (Q : Int → pj_M → Prop) (k12 : Int → pj_M → Prop) (x2 : Int) (M : pj_M) : Prop :=
  (pj_in x2) ∧ (pj_in (M r0 1)) ∧ (((M r0 1) ≤ x2 → ∀ M6 : pj_M, M6 = pj_up M r0 1 ((M r0 1) - 1) → Q (M6 r0 1) M6) ∧ (¬ (M r0 1) ≤ x2 → ((0 : Int) ≤ x2 ∧ x2 < 14) ∧ ((0 : Int) ≤ (x2 - 1) ∧ (x2 - 1) < 14) ∧ ∀ M9 : pj_M, M9 = pj_up M (pj_rf r0 0) (x2 - 1) (M (pj_rf r0 0) x2) → k12 (x2 + 1) M9))
def w_X7_removeAt_12 (r0 : Nat)  (Q : Int → pj_M → Prop) (x2 : Int) (M : pj_M) : Prop := pj_lp (fun (k : Int × pj_M → Prop) (s : Int × pj_M) => w_X7_removeAt_12b r0  Q (fun (x2 : Int) (M : pj_M) => k (x2, M)) s.1 s.2) (x2, M)
def w_X7_removeAt (r0 : Nat) (x1 : Int) (M : pj_M) (Q : Int → pj_M → Prop) : Prop :=
  w_X7_has r0 x1 M (fun (t2 : Int) (M1 : pj_M) => (pj_in t2) ∧ ((¬ t2 = 0 → w_X7_removeAt_12 r0  Q x1 M1) ∧ (t2 = 0 → Q (-1) M1)))
set_option maxRecDepth 20000 in
set_option maxHeartbeats 4000000 in
theorem s_X7_removeAt_12b {l : Launch} {g : pj_G} (hg : pj_ph g = true) {r0 : Nat} {x2 : Int} {M : pj_M} {Q : Int → pj_M → Prop}  {k12 : Int → pj_M → Prop} (o0 : pj_ob r0 7)  (hk12 : ∀ (x2 : Int) (M : pj_M), k12 x2 M → pj_R l g mdX7_removeAt pj_T (pj_Zm g mdX7_removeAt (pj_qi Q)) pj_NK 0 0 12 [(0, .ref r0), (2, .int (pj_I x2))] [] M) (h : w_X7_removeAt_12b r0  Q k12 x2 M) : pj_R l g mdX7_removeAt pj_T (pj_Zm g mdX7_removeAt (pj_qi Q)) pj_NK 0 0 12 [(0, .ref r0), (2, .int (pj_I x2))] [] M := by
  unfold w_X7_removeAt_12b at h
  refine pj_iload_n 13 1 rfl rfl rfl rfl ?_
  refine pj_aload_n 14 0 rfl rfl rfl rfl ?_
  refine pn_geti 17 7 1 1 o0 rfl pfX7_15 (Or.inl rfl) rfl rfl ?_
  obtain ⟨q4, h⟩ := h
  obtain ⟨q5, h⟩ := h
  refine pj_icmp_ge 40 20 rfl (by decide) rfl q4 q5 (fun hc => ?_) (fun hc => ?_)
  · replace h := h.1 hc
    refine pj_aload_n 41 0 rfl rfl rfl rfl ?_
    refine pj_dup 42 rfl rfl rfl ?_
    refine pn_geti 45 7 1 1 o0 rfl pfX7_15 (Or.inl rfl) rfl rfl ?_
    refine pj_iconst 46 rfl rfl ?_
    refine pj_isub 47 rfl rfl ?_
    refine pn_puti 50 7 1 1 o0  rfl pfX7_15 rfl rfl rfl (fun M6 hM6 => ?_)
    replace h := h M6 hM6
    refine pj_aload_n 51 0 rfl rfl rfl rfl ?_
    refine pn_geti 54 7 1 1 o0 rfl pfX7_15 (Or.inl rfl) rfl rfl ?_
    exact pn_iret h rfl rfl
  · replace h := h.2 hc
    refine pj_aload_n 21 0 rfl rfl rfl rfl ?_
    refine pn_getr 24 7 0 hg o0 (pr_7_0 o0).2 rfl pfX7_9 rfl rfl ?_
    refine pj_iload_n 25 1 rfl rfl rfl rfl ?_
    refine pj_iconst 26 rfl rfl ?_
    refine pj_isub 27 rfl rfl ?_
    refine pj_aload_n 28 0 rfl rfl rfl rfl ?_
    refine pn_getr 31 7 0 hg o0 (pr_7_0 o0).2 rfl pfX7_9 rfl rfl ?_
    refine pj_iload_n 32 1 rfl rfl rfl rfl ?_
    obtain ⟨q7, h⟩ := h
    refine pn_iald 33 14 (pr_7_0 o0) q7 rfl rfl ?_
    obtain ⟨q8, h⟩ := h
    refine pn_iast 34 14 (pr_7_0 o0)  q8 rfl rfl (fun M9 hM9 => ?_)
    replace h := h M9 hM9
    refine pj_iinc 37 1 (ls' := [(0, .ref r0), (2, .int (pj_I (x2 + 1)))]) rfl rfl (by decide) rfl rfl ?_
    refine pj_goto 12 rfl (by decide) ?_
    refine pn_sub [0, 1] rfl ?_
    exact hk12 _ _ h
set_option maxRecDepth 20000 in
set_option maxHeartbeats 4000000 in
theorem s_X7_removeAt_12 {l : Launch} {g : pj_G} (hg : pj_ph g = true) {r0 : Nat} {x2 : Int} {M : pj_M} {Q : Int → pj_M → Prop}  (o0 : pj_ob r0 7)  (h : w_X7_removeAt_12 r0  Q x2 M) : pj_R l g mdX7_removeAt pj_T (pj_Zm g mdX7_removeAt (pj_qi Q)) pj_NK 0 0 12 [(0, .ref r0), (2, .int (pj_I x2))] [] M :=
  h (fun s => pj_R l g mdX7_removeAt pj_T (pj_Zm g mdX7_removeAt (pj_qi Q)) pj_NK 0 0 12 [(0, .ref r0), (2, .int (pj_I (s.1)))] [] s.2) (fun s hs => s_X7_removeAt_12b hg o0  (fun _ _ q => q) hs)
set_option maxRecDepth 20000 in
set_option maxHeartbeats 4000000 in
theorem s_X7_removeAt {l : Launch} {g : pj_G} (hg : pj_ph g = true) {r0 : Nat} {x1 : Int} {M : pj_M} {Q : Int → pj_M → Prop} (o0 : pj_ob r0 7) (h : w_X7_removeAt r0 x1 M Q) : pj_S l g mdX7_removeAt [.ref r0, .int (pj_I x1)] pj_NK M (pj_qi Q) := by
  refine pj_ofR (ls := [(0, .ref r0), (1, .int (pj_I x1))]) gcX7_removeAt (by decide) rfl (Nat.le_of_ble_eq_true rfl) rfl ?_
  unfold w_X7_removeAt at h
  refine pj_aload_n 1 0 rfl rfl rfl rfl ?_
  refine pj_iload_n 2 1 rfl rfl rfl rfl ?_
  refine pn_callVi 5 7 [.int (pj_I x1)] [] o0 (s_X7_has hg o0 h) plX7_33 rfl rfl rfl rfl (Nat.le_of_ble_eq_true rfl) (by decide) (fun t2 M1 h => ?_)
  obtain ⟨q3, h⟩ := h
  refine pj_if_ne 10 8 rfl (by decide) rfl q3  (fun hc => ?_) (fun hc => ?_)
  · replace h := h.1 hc
    refine pj_iload_n 11 1 rfl rfl rfl rfl ?_
    refine pj_istore_n 12 (ls' := [(0, .ref r0), (1, .int (pj_I x1)), (2, .int (pj_I x1))]) rfl rfl (by decide) rfl rfl ?_
    refine pn_sub [0, 2] rfl ?_
    exact s_X7_removeAt_12 hg o0   h
  · replace h := h.2 (Classical.not_not.mp hc)
    refine pj_iconst 9 rfl rfl ?_
    exact pn_iret h rfl rfl
def w_X7_copyWithout (r0 : Nat) (r1 : Nat) (x2 : Int) (M : pj_M) (Q : pj_M → Prop) : Prop :=
  w_X7_copyFrom r0 r1 M (fun (M1 : pj_M) => w_X7_removeAt r0 x2 M1 (fun (t4 : Int) (M3 : pj_M) => Q M3))
set_option maxRecDepth 20000 in
set_option maxHeartbeats 4000000 in
theorem s_X7_copyWithout {l : Launch} {g : pj_G} (hg : pj_ph g = true) {r0 : Nat} {r1 : Nat} {x2 : Int} {M : pj_M} {Q : pj_M → Prop} (o0 : pj_ob r0 7) (o1 : pj_ob r1 7) (h : w_X7_copyWithout r0 r1 x2 M Q) : pj_S l g mdX7_copyWithout [.ref r0, .ref r1, .int (pj_I x2)] pj_NK M (pj_qv Q) := by
  refine pj_ofR (ls := [(0, .ref r0), (1, .ref r1), (2, .int (pj_I x2))]) gcX7_copyWithout (by decide) rfl (Nat.le_of_ble_eq_true rfl) rfl ?_
  unfold w_X7_copyWithout at h
  refine pj_aload_n 1 0 rfl rfl rfl rfl ?_
  refine pj_aload_n 2 1 rfl rfl rfl rfl ?_
  refine pn_callVv 5 7 [.ref r1] [] o0 (s_X7_copyFrom hg o0 o1 h) plX7_25 rfl rfl rfl rfl (Nat.le_of_ble_eq_true rfl) (by decide) (fun M1 h => ?_)
  refine pj_aload_n 6 0 rfl rfl rfl rfl ?_
  refine pj_iload_n 7 2 rfl rfl rfl rfl ?_
  refine pn_callVi 10 7 [.int (pj_I x2)] [] o0 (s_X7_removeAt hg o0 h) plX7_29 rfl rfl rfl rfl (Nat.le_of_ble_eq_true rfl) (by decide) (fun t4 M3 h => ?_)
  refine pj_pop 11 rfl rfl rfl ?_
  exact pn_vret h rfl rfl
def w_X7_replaceAt (r0 : Nat) (x1 : Int) (x2 : Int) (M : pj_M) (Q : Int → pj_M → Prop) : Prop :=
  w_X7_has r0 x1 M (fun (t2 : Int) (M1 : pj_M) => (pj_in t2) ∧ ((t2 = 0 → Q (-1) M1) ∧ (¬ t2 = 0 → (pj_in x2) ∧ ((x2 < 0 → Q (-1) M1) ∧ (¬ x2 < 0 → (pj_in x2) ∧ ((x2 < 8 → ((0 : Int) ≤ (x1 - 1) ∧ (x1 - 1) < 14) ∧ ∀ z7 : Int, z7 = (M1 (pj_rf r0 0) (x1 - 1)) → (pj_in z7) ∧ (pj_in x2) ∧ ((¬ z7 = x2 → ((0 : Int) ≤ (x1 - 1) ∧ (x1 - 1) < 14) ∧ ∀ M11 : pj_M, M11 = pj_up M1 (pj_rf r0 0) (x1 - 1) x2 → Q z7 M11) ∧ (z7 = x2 → Q (-2) M1))) ∧ (¬ x2 < 8 → Q (-1) M1)))))))
set_option maxRecDepth 20000 in
set_option maxHeartbeats 4000000 in
theorem s_X7_replaceAt {l : Launch} {g : pj_G} (hg : pj_ph g = true) {r0 : Nat} {x1 : Int} {x2 : Int} {M : pj_M} {Q : Int → pj_M → Prop} (o0 : pj_ob r0 7) (h : w_X7_replaceAt r0 x1 x2 M Q) : pj_S l g mdX7_replaceAt [.ref r0, .int (pj_I x1), .int (pj_I x2)] pj_NK M (pj_qi Q) := by
  refine pj_ofR (ls := [(0, .ref r0), (1, .int (pj_I x1)), (2, .int (pj_I x2))]) gcX7_replaceAt (by decide) rfl (Nat.le_of_ble_eq_true rfl) rfl ?_
  unfold w_X7_replaceAt at h
  refine pj_aload_n 1 0 rfl rfl rfl rfl ?_
  refine pj_iload_n 2 1 rfl rfl rfl rfl ?_
  refine pn_callVi 5 7 [.int (pj_I x1)] [] o0 (s_X7_has hg o0 h) plX7_33 rfl rfl rfl rfl (Nat.le_of_ble_eq_true rfl) (by decide) (fun t2 M1 h => ?_)
  obtain ⟨q3, h⟩ := h
  refine pj_if_eq 18 8 rfl (by decide) rfl q3  (fun hc => ?_) (fun hc => ?_)
  · replace h := h.1 hc
    refine pj_iconst 19 rfl rfl ?_
    exact pn_iret h rfl rfl
  · replace h := h.2 hc
    refine pj_iload_n 9 2 rfl rfl rfl rfl ?_
    obtain ⟨q4, h⟩ := h
    refine pj_if_lt 18 12 rfl (by decide) rfl q4  (fun hc => ?_) (fun hc => ?_)
    · replace h := h.1 hc
      refine pj_iconst 19 rfl rfl ?_
      exact pn_iret h rfl rfl
    · replace h := h.2 hc
      refine pj_iload_n 13 2 rfl rfl rfl rfl ?_
      refine pj_bipush 15 rfl (by decide) rfl ?_
      obtain ⟨q5, h⟩ := h
      refine pj_icmp_lt 20 18 rfl (by decide) rfl q5 (show pj_in 8 by decide) (fun hc => ?_) (fun hc => ?_)
      · replace h := h.1 hc
        refine pj_aload_n 21 0 rfl rfl rfl rfl ?_
        refine pn_getr 24 7 0 hg o0 (pr_7_0 o0).2 rfl pfX7_9 rfl rfl ?_
        refine pj_iload_n 25 1 rfl rfl rfl rfl ?_
        refine pj_iconst 26 rfl rfl ?_
        refine pj_isub 27 rfl rfl ?_
        obtain ⟨q6, h⟩ := h
        refine pn_iald 28 14 (pr_7_0 o0) q6 rfl rfl ?_
        refine pn_nm (fun z7 hz7 => ?_)
        replace h := h z7 hz7
        refine pj_istore_n 29 (ls' := [(0, .ref r0), (1, .int (pj_I x1)), (2, .int (pj_I x2)), (3, .int (pj_I z7))]) rfl rfl (by decide) rfl rfl ?_
        refine pj_iload_n 30 3 rfl rfl rfl rfl ?_
        refine pj_iload_n 31 2 rfl rfl rfl rfl ?_
        obtain ⟨q8, h⟩ := h
        obtain ⟨q9, h⟩ := h
        refine pj_icmp_ne 37 34 rfl (by decide) rfl q8 q9 (fun hc => ?_) (fun hc => ?_)
        · replace h := h.1 hc
          refine pj_aload_n 38 0 rfl rfl rfl rfl ?_
          refine pn_getr 41 7 0 hg o0 (pr_7_0 o0).2 rfl pfX7_9 rfl rfl ?_
          refine pj_iload_n 42 1 rfl rfl rfl rfl ?_
          refine pj_iconst 43 rfl rfl ?_
          refine pj_isub 44 rfl rfl ?_
          refine pj_iload_n 45 2 rfl rfl rfl rfl ?_
          obtain ⟨q10, h⟩ := h
          refine pn_iast 46 14 (pr_7_0 o0)  q10 rfl rfl (fun M11 hM11 => ?_)
          replace h := h M11 hM11
          refine pj_iload_n 47 3 rfl rfl rfl rfl ?_
          exact pn_iret h rfl rfl
        · replace h := h.2 (Classical.not_not.mp hc)
          refine pj_bipush 36 rfl (by decide) rfl ?_
          exact pn_iret h rfl rfl
      · replace h := h.2 hc
        refine pj_iconst 19 rfl rfl ?_
        exact pn_iret h rfl rfl
def w_X7_insertAt_44b (r0 : Nat) (x1 : Int) (x2 : Int)  (Q : Int → pj_M → Prop) (k44 : Int → pj_M → Prop) (x3 : Int) (M : pj_M) : Prop :=
  (pj_in x3) ∧ (pj_in x1) ∧ ((x3 < x1 → ((0 : Int) ≤ (x1 - 1) ∧ (x1 - 1) < 14) ∧ ∀ M11 : pj_M, M11 = pj_up M (pj_rf r0 0) (x1 - 1) x2 → ∀ M12 : pj_M, M12 = pj_up M11 r0 1 ((M11 r0 1) + 1) → Q (M12 r0 1) M12) ∧ (¬ x3 < x1 → ((0 : Int) ≤ (x3 - 1) ∧ (x3 - 1) < 14) ∧ ((0 : Int) ≤ x3 ∧ x3 < 14) ∧ ∀ M15 : pj_M, M15 = pj_up M (pj_rf r0 0) x3 (M (pj_rf r0 0) (x3 - 1)) → k44 (x3 + (-1)) M15))
def w_X7_insertAt_44 (r0 : Nat) (x1 : Int) (x2 : Int)  (Q : Int → pj_M → Prop) (x3 : Int) (M : pj_M) : Prop := pj_lp (fun (k : Int × pj_M → Prop) (s : Int × pj_M) => w_X7_insertAt_44b r0 x1 x2  Q (fun (x3 : Int) (M : pj_M) => k (x3, M)) s.1 s.2) (x3, M)
def w_X7_insertAt (r0 : Nat) (x1 : Int) (x2 : Int) (M : pj_M) (Q : Int → pj_M → Prop) : Prop :=
  (pj_in x1) ∧ ((x1 < 1 → Q (-1) M) ∧ (¬ x1 < 1 → (pj_in x1) ∧ (pj_in ((M r0 1) + 1)) ∧ ((((M r0 1) + 1) < x1 → Q (-1) M) ∧ (¬ ((M r0 1) + 1) < x1 → (pj_in x2) ∧ ((x2 < 0 → Q (-1) M) ∧ (¬ x2 < 0 → (pj_in x2) ∧ ((x2 < 8 → (pj_in (M r0 1)) ∧ (((M r0 1) < 14 → ∀ z7 : Int, z7 = (M r0 1) → w_X7_insertAt_44 r0 x1 x2  Q z7 M) ∧ (¬ (M r0 1) < 14 → Q (-3) M))) ∧ (¬ x2 < 8 → Q (-1) M))))))))
set_option maxRecDepth 20000 in
set_option maxHeartbeats 4000000 in
theorem s_X7_insertAt_44b {l : Launch} {g : pj_G} (hg : pj_ph g = true) {r0 : Nat} {x1 : Int} {x2 : Int} {x3 : Int} {M : pj_M} {Q : Int → pj_M → Prop}  {k44 : Int → pj_M → Prop} (o0 : pj_ob r0 7)  (hk44 : ∀ (x3 : Int) (M : pj_M), k44 x3 M → pj_R l g mdX7_insertAt pj_T (pj_Zm g mdX7_insertAt (pj_qi Q)) pj_NK 0 0 44 [(0, .ref r0), (1, .int (pj_I x1)), (2, .int (pj_I x2)), (3, .int (pj_I x3))] [] M) (h : w_X7_insertAt_44b r0 x1 x2  Q k44 x3 M) : pj_R l g mdX7_insertAt pj_T (pj_Zm g mdX7_insertAt (pj_qi Q)) pj_NK 0 0 44 [(0, .ref r0), (1, .int (pj_I x1)), (2, .int (pj_I x2)), (3, .int (pj_I x3))] [] M := by
  unfold w_X7_insertAt_44b at h
  refine pj_iload_n 45 3 rfl rfl rfl rfl ?_
  refine pj_iload_n 46 1 rfl rfl rfl rfl ?_
  obtain ⟨q8, h⟩ := h
  obtain ⟨q9, h⟩ := h
  refine pj_icmp_lt 69 49 rfl (by decide) rfl q8 q9 (fun hc => ?_) (fun hc => ?_)
  · replace h := h.1 hc
    refine pj_aload_n 70 0 rfl rfl rfl rfl ?_
    refine pn_getr 73 7 0 hg o0 (pr_7_0 o0).2 rfl pfX7_9 rfl rfl ?_
    refine pj_iload_n 74 1 rfl rfl rfl rfl ?_
    refine pj_iconst 75 rfl rfl ?_
    refine pj_isub 76 rfl rfl ?_
    refine pj_iload_n 77 2 rfl rfl rfl rfl ?_
    obtain ⟨q10, h⟩ := h
    refine pn_iast 78 14 (pr_7_0 o0)  q10 rfl rfl (fun M11 hM11 => ?_)
    replace h := h M11 hM11
    refine pj_aload_n 79 0 rfl rfl rfl rfl ?_
    refine pj_dup 80 rfl rfl rfl ?_
    refine pn_geti 83 7 1 1 o0 rfl pfX7_15 (Or.inl rfl) rfl rfl ?_
    refine pj_iconst 84 rfl rfl ?_
    refine pj_iadd 85 rfl rfl ?_
    refine pn_puti 88 7 1 1 o0  rfl pfX7_15 rfl rfl rfl (fun M12 hM12 => ?_)
    replace h := h M12 hM12
    refine pj_aload_n 89 0 rfl rfl rfl rfl ?_
    refine pn_geti 92 7 1 1 o0 rfl pfX7_15 (Or.inl rfl) rfl rfl ?_
    exact pn_iret h rfl rfl
  · replace h := h.2 hc
    refine pj_aload_n 50 0 rfl rfl rfl rfl ?_
    refine pn_getr 53 7 0 hg o0 (pr_7_0 o0).2 rfl pfX7_9 rfl rfl ?_
    refine pj_iload_n 54 3 rfl rfl rfl rfl ?_
    refine pj_aload_n 55 0 rfl rfl rfl rfl ?_
    refine pn_getr 58 7 0 hg o0 (pr_7_0 o0).2 rfl pfX7_9 rfl rfl ?_
    refine pj_iload_n 59 3 rfl rfl rfl rfl ?_
    refine pj_iconst 60 rfl rfl ?_
    refine pj_isub 61 rfl rfl ?_
    obtain ⟨q13, h⟩ := h
    refine pn_iald 62 14 (pr_7_0 o0) q13 rfl rfl ?_
    obtain ⟨q14, h⟩ := h
    refine pn_iast 63 14 (pr_7_0 o0)  q14 rfl rfl (fun M15 hM15 => ?_)
    replace h := h M15 hM15
    refine pj_iinc 66 3 (ls' := [(0, .ref r0), (1, .int (pj_I x1)), (2, .int (pj_I x2)), (3, .int (pj_I (x3 + (-1))))]) rfl rfl (by decide) rfl rfl ?_
    refine pj_goto 44 rfl (by decide) ?_
    refine pn_sub [0, 1, 2, 3] rfl ?_
    exact hk44 _ _ h
set_option maxRecDepth 20000 in
set_option maxHeartbeats 4000000 in
theorem s_X7_insertAt_44 {l : Launch} {g : pj_G} (hg : pj_ph g = true) {r0 : Nat} {x1 : Int} {x2 : Int} {x3 : Int} {M : pj_M} {Q : Int → pj_M → Prop}  (o0 : pj_ob r0 7)  (h : w_X7_insertAt_44 r0 x1 x2  Q x3 M) : pj_R l g mdX7_insertAt pj_T (pj_Zm g mdX7_insertAt (pj_qi Q)) pj_NK 0 0 44 [(0, .ref r0), (1, .int (pj_I x1)), (2, .int (pj_I x2)), (3, .int (pj_I x3))] [] M :=
  h (fun s => pj_R l g mdX7_insertAt pj_T (pj_Zm g mdX7_insertAt (pj_qi Q)) pj_NK 0 0 44 [(0, .ref r0), (1, .int (pj_I x1)), (2, .int (pj_I x2)), (3, .int (pj_I (s.1)))] [] s.2) (fun s hs => s_X7_insertAt_44b hg o0  (fun _ _ q => q) hs)
set_option maxRecDepth 20000 in
set_option maxHeartbeats 4000000 in
theorem s_X7_insertAt {l : Launch} {g : pj_G} (hg : pj_ph g = true) {r0 : Nat} {x1 : Int} {x2 : Int} {M : pj_M} {Q : Int → pj_M → Prop} (o0 : pj_ob r0 7) (h : w_X7_insertAt r0 x1 x2 M Q) : pj_S l g mdX7_insertAt [.ref r0, .int (pj_I x1), .int (pj_I x2)] pj_NK M (pj_qi Q) := by
  refine pj_ofR (ls := [(0, .ref r0), (1, .int (pj_I x1)), (2, .int (pj_I x2))]) gcX7_insertAt (by decide) rfl (Nat.le_of_ble_eq_true rfl) rfl ?_
  unfold w_X7_insertAt at h
  refine pj_iload_n 1 1 rfl rfl rfl rfl ?_
  refine pj_iconst 2 rfl rfl ?_
  obtain ⟨q1, h⟩ := h
  refine pj_icmp_lt 25 5 rfl (by decide) rfl q1 (show pj_in 1 by decide) (fun hc => ?_) (fun hc => ?_)
  · replace h := h.1 hc
    refine pj_iconst 26 rfl rfl ?_
    exact pn_iret h rfl rfl
  · replace h := h.2 hc
    refine pj_iload_n 6 1 rfl rfl rfl rfl ?_
    refine pj_aload_n 7 0 rfl rfl rfl rfl ?_
    refine pn_geti 10 7 1 1 o0 rfl pfX7_15 (Or.inl rfl) rfl rfl ?_
    refine pj_iconst 11 rfl rfl ?_
    refine pj_iadd 12 rfl rfl ?_
    obtain ⟨q2, h⟩ := h
    obtain ⟨q3, h⟩ := h
    refine pj_icmp_gt 25 15 rfl (by decide) rfl q2 q3 (fun hc => ?_) (fun hc => ?_)
    · replace h := h.1 hc
      refine pj_iconst 26 rfl rfl ?_
      exact pn_iret h rfl rfl
    · replace h := h.2 hc
      refine pj_iload_n 16 2 rfl rfl rfl rfl ?_
      obtain ⟨q4, h⟩ := h
      refine pj_if_lt 25 19 rfl (by decide) rfl q4  (fun hc => ?_) (fun hc => ?_)
      · replace h := h.1 hc
        refine pj_iconst 26 rfl rfl ?_
        exact pn_iret h rfl rfl
      · replace h := h.2 hc
        refine pj_iload_n 20 2 rfl rfl rfl rfl ?_
        refine pj_bipush 22 rfl (by decide) rfl ?_
        obtain ⟨q5, h⟩ := h
        refine pj_icmp_lt 27 25 rfl (by decide) rfl q5 (show pj_in 8 by decide) (fun hc => ?_) (fun hc => ?_)
        · replace h := h.1 hc
          refine pj_aload_n 28 0 rfl rfl rfl rfl ?_
          refine pn_geti 31 7 1 1 o0 rfl pfX7_15 (Or.inl rfl) rfl rfl ?_
          refine pj_bipush 33 rfl (by decide) rfl ?_
          obtain ⟨q6, h⟩ := h
          refine pj_icmp_lt 39 36 rfl (by decide) rfl q6 (show pj_in 14 by decide) (fun hc => ?_) (fun hc => ?_)
          · replace h := h.1 hc
            refine pj_aload_n 40 0 rfl rfl rfl rfl ?_
            refine pn_geti 43 7 1 1 o0 rfl pfX7_15 (Or.inl rfl) rfl rfl ?_
            refine pn_nm (fun z7 hz7 => ?_)
            replace h := h z7 hz7
            refine pj_istore_n 44 (ls' := [(0, .ref r0), (1, .int (pj_I x1)), (2, .int (pj_I x2)), (3, .int (pj_I z7))]) rfl rfl (by decide) rfl rfl ?_
            refine pn_sub [0, 1, 2, 3] rfl ?_
            exact s_X7_insertAt_44 hg o0   h
          · replace h := h.2 hc
            refine pj_bipush 38 rfl (by decide) rfl ?_
            exact pn_iret h rfl rfl
        · replace h := h.2 hc
          refine pj_iconst 26 rfl rfl ?_
          exact pn_iret h rfl rfl
def w_X7_drawn (x0 : Int) (M : pj_M) (Q : Int → pj_M → Prop) : Prop :=
  Q ((x0 * 1103515245) + 12345) M
set_option maxRecDepth 20000 in
set_option maxHeartbeats 4000000 in
theorem s_X7_drawn {l : Launch} {g : pj_G} (hg : pj_ph g = true) {x0 : Int} {M : pj_M} {Q : Int → pj_M → Prop}  (h : w_X7_drawn x0 M Q) : pj_S l g mdX7_drawn [.int (pj_I x0)] pj_NK M (pj_qi Q) := by
  refine pj_ofR (ls := [(0, .int (pj_I x0))]) gcX7_drawn (by decide) rfl (Nat.le_of_ble_eq_true rfl) rfl ?_
  unfold w_X7_drawn at h
  refine pj_iload_n 1 0 rfl rfl rfl rfl ?_
  refine pj_ldc 3 1103515245 rfl pkX7_44 rfl ?_
  refine pj_imul 4 rfl rfl ?_
  refine pj_sipush 7 rfl (by decide) rfl ?_
  refine pj_iadd 8 rfl rfl ?_
  exact pn_iret h rfl rfl
def w_X7_changeOf (r0 : Nat) (x1 : Int) (x2 : Int) (x3 : Int) (M : pj_M) (Q : Int → pj_M → Prop) : Prop :=
  (pj_in x1) ∧ ((¬ x1 = 0 → (pj_in x1) ∧ ((¬ x1 = 1 → w_X7_removeAt r0 x2 M (fun (t4 : Int) (M3 : pj_M) => Q t4 M3)) ∧ (x1 = 1 → w_X7_insertAt r0 x2 x3 M (fun (t6 : Int) (M5 : pj_M) => Q t6 M5)))) ∧ (x1 = 0 → w_X7_replaceAt r0 x2 x3 M (fun (t8 : Int) (M7 : pj_M) => Q t8 M7)))
set_option maxRecDepth 20000 in
set_option maxHeartbeats 4000000 in
theorem s_X7_changeOf {l : Launch} {g : pj_G} (hg : pj_ph g = true) {r0 : Nat} {x1 : Int} {x2 : Int} {x3 : Int} {M : pj_M} {Q : Int → pj_M → Prop} (o0 : pj_ob r0 7) (h : w_X7_changeOf r0 x1 x2 x3 M Q) : pj_S l g mdX7_changeOf [.ref r0, .int (pj_I x1), .int (pj_I x2), .int (pj_I x3)] pj_NK M (pj_qi Q) := by
  refine pj_ofR (ls := [(0, .ref r0), (1, .int (pj_I x1)), (2, .int (pj_I x2)), (3, .int (pj_I x3))]) gcX7_changeOf (by decide) rfl (Nat.le_of_ble_eq_true rfl) rfl ?_
  unfold w_X7_changeOf at h
  refine pj_iload_n 1 1 rfl rfl rfl rfl ?_
  obtain ⟨q1, h⟩ := h
  refine pj_if_ne 11 4 rfl (by decide) rfl q1  (fun hc => ?_) (fun hc => ?_)
  · replace h := h.1 hc
    refine pj_iload_n 12 1 rfl rfl rfl rfl ?_
    refine pj_iconst 13 rfl rfl ?_
    obtain ⟨q2, h⟩ := h
    refine pj_icmp_ne 25 16 rfl (by decide) rfl q2 (show pj_in 1 by decide) (fun hc => ?_) (fun hc => ?_)
    · replace h := h.1 hc
      refine pj_aload_n 26 0 rfl rfl rfl rfl ?_
      refine pj_iload_n 27 2 rfl rfl rfl rfl ?_
      refine pn_callVi 30 7 [.int (pj_I x2)] [] o0 (s_X7_removeAt hg o0 h) plX7_29 rfl rfl rfl rfl (Nat.le_of_ble_eq_true rfl) (by decide) (fun t4 M3 h => ?_)
      exact pn_iret h rfl rfl
    · replace h := h.2 (Classical.not_not.mp hc)
      refine pj_aload_n 17 0 rfl rfl rfl rfl ?_
      refine pj_iload_n 18 2 rfl rfl rfl rfl ?_
      refine pj_iload_n 19 3 rfl rfl rfl rfl ?_
      refine pn_callVi 22 7 [.int (pj_I x2), .int (pj_I x3)] [] o0 (s_X7_insertAt hg o0 h) plX7_49 rfl rfl rfl rfl (Nat.le_of_ble_eq_true rfl) (by decide) (fun t6 M5 h => ?_)
      refine pj_goto 30 rfl (by decide) ?_
      exact pn_iret h rfl rfl
  · replace h := h.2 (Classical.not_not.mp hc)
    refine pj_aload_n 5 0 rfl rfl rfl rfl ?_
    refine pj_iload_n 6 2 rfl rfl rfl rfl ?_
    refine pj_iload_n 7 3 rfl rfl rfl rfl ?_
    refine pn_callVi 10 7 [.int (pj_I x2), .int (pj_I x3)] [] o0 (s_X7_replaceAt hg o0 h) plX7_45 rfl rfl rfl rfl (Nat.le_of_ble_eq_true rfl) (by decide) (fun t8 M7 h => ?_)
    exact pn_iret h rfl rfl
def w_X7_live_66 (r0 : Nat) (x2 : Int) (x3 : Int) (x4 : Int) (x5 : Int) (x6 : Int) (x7 : Int) (x8 : Int) (k8 : Int → Int → Int → pj_M → Prop) (Q : Int → pj_M → Prop) (M : pj_M) : Prop :=
  w_X7_changeOf r0 x6 x7 x8 M (fun (t11 : Int) (M10 : pj_M) => (pj_in t11) ∧ ((t11 < 0 → k8 x3 x4 (x5 + 1) M10) ∧ (¬ t11 < 0 → k8 x3 (x4 + 1) (x5 + 1) M10)))
def w_X7_live_8b (r0 : Nat) (x2 : Int)  (Q : Int → pj_M → Prop) (k8 : Int → Int → Int → pj_M → Prop) (x3 : Int) (x4 : Int) (x5 : Int) (M : pj_M) : Prop :=
  (pj_in x5) ∧ (pj_in x2) ∧ ((x2 ≤ x5 → Q x4 M) ∧ (¬ x2 ≤ x5 → w_X7_drawn x3 M (fun (t4 : Int) (M3 : pj_M) => ∀ z5 : Int, z5 = (pj_rem (pj_ushr t4 16) 3) → w_X7_drawn t4 M3 (fun (t7 : Int) (M6 : pj_M) => ∀ z8 : Int, z8 = ((pj_rem (pj_ushr t7 16) 14) + 1) → (pj_in z5) ∧ ((z5 = 2 → w_X7_live_66 r0 x2 t7 x4 x5 z5 z8 0 k8 Q M6) ∧ (¬ z5 = 2 → w_X7_drawn t7 M6 (fun (t14 : Int) (M13 : pj_M) => ∀ z15 : Int, z15 = (pj_rem (pj_ushr t14 16) 8) → w_X7_live_66 r0 x2 t14 x4 x5 z5 z8 z15 k8 Q M13)))))))
def w_X7_live_8 (r0 : Nat) (x2 : Int)  (Q : Int → pj_M → Prop) (x3 : Int) (x4 : Int) (x5 : Int) (M : pj_M) : Prop := pj_lp (fun (k : Int × Int × Int × pj_M → Prop) (s : Int × Int × Int × pj_M) => w_X7_live_8b r0 x2  Q (fun (x3 : Int) (x4 : Int) (x5 : Int) (M : pj_M) => k (x3, x4, x5, M)) s.1 s.2.1 s.2.2.1 s.2.2.2) (x3, x4, x5, M)
def w_X7_live (r0 : Nat) (x1 : Int) (x2 : Int) (M : pj_M) (Q : Int → pj_M → Prop) : Prop :=
  w_X7_live_8 r0 x2  Q x1 0 0 M
set_option maxRecDepth 20000 in
set_option maxHeartbeats 4000000 in
theorem s_X7_live_66 {l : Launch} {g : pj_G} (hg : pj_ph g = true) {r0 : Nat} {x2 : Int} {x3 : Int} {x4 : Int} {x5 : Int} {x6 : Int} {x7 : Int} {x8 : Int} {M : pj_M} {Q : Int → pj_M → Prop} {k8 : Int → Int → Int → pj_M → Prop} (o0 : pj_ob r0 7) (hk8 : ∀ (x3 : Int) (x4 : Int) (x5 : Int) (M : pj_M), k8 x3 x4 x5 M → pj_R l g mdX7_live pj_T (pj_Zm g mdX7_live (pj_qi Q)) pj_NK 0 0 8 [(0, .ref r0), (2, .int (pj_I x2)), (3, .int (pj_I x3)), (4, .int (pj_I x4)), (5, .int (pj_I x5))] [] M) (h : w_X7_live_66 r0 x2 x3 x4 x5 x6 x7 x8 k8 Q M) : pj_R l g mdX7_live pj_T (pj_Zm g mdX7_live (pj_qi Q)) pj_NK 0 0 66 [(0, .ref r0), (2, .int (pj_I x2)), (3, .int (pj_I x3)), (4, .int (pj_I x4)), (5, .int (pj_I x5)), (6, .int (pj_I x6)), (7, .int (pj_I x7)), (8, .int (pj_I x8))] [] M := by
  unfold w_X7_live_66 at h
  refine pj_aload_n 67 0 rfl rfl rfl rfl ?_
  refine pj_iload 69 5 rfl rfl rfl ?_
  refine pj_iload 71 6 rfl rfl rfl ?_
  refine pj_iload 73 7 rfl rfl rfl ?_
  refine pn_callVi 76 7 [.int (pj_I x6), .int (pj_I x7), .int (pj_I x8)] [] o0 (s_X7_changeOf hg o0 h) plX7_40 rfl rfl rfl rfl (Nat.le_of_ble_eq_true rfl) (by decide) (fun t11 M10 h => ?_)
  obtain ⟨q12, h⟩ := h
  refine pj_if_lt 82 79 rfl (by decide) rfl q12  (fun hc => ?_) (fun hc => ?_)
  · replace h := h.1 hc
    refine pj_iinc 85 4 (ls' := [(0, .ref r0), (2, .int (pj_I x2)), (3, .int (pj_I x3)), (4, .int (pj_I x4)), (5, .int (pj_I (x5 + 1))), (6, .int (pj_I x6)), (7, .int (pj_I x7)), (8, .int (pj_I x8))]) rfl rfl (by decide) rfl rfl ?_
    refine pj_goto 8 rfl (by decide) ?_
    refine pn_sub [0, 1, 2, 3, 4] rfl ?_
    exact hk8 _ _ _ _ h
  · replace h := h.2 hc
    refine pj_iinc 82 3 (ls' := [(0, .ref r0), (2, .int (pj_I x2)), (3, .int (pj_I x3)), (4, .int (pj_I (x4 + 1))), (5, .int (pj_I x5)), (6, .int (pj_I x6)), (7, .int (pj_I x7)), (8, .int (pj_I x8))]) rfl rfl (by decide) rfl rfl ?_
    refine pj_iinc 85 4 (ls' := [(0, .ref r0), (2, .int (pj_I x2)), (3, .int (pj_I x3)), (4, .int (pj_I (x4 + 1))), (5, .int (pj_I (x5 + 1))), (6, .int (pj_I x6)), (7, .int (pj_I x7)), (8, .int (pj_I x8))]) rfl rfl (by decide) rfl rfl ?_
    refine pj_goto 8 rfl (by decide) ?_
    refine pn_sub [0, 1, 2, 3, 4] rfl ?_
    exact hk8 _ _ _ _ h
set_option maxRecDepth 20000 in
set_option maxHeartbeats 4000000 in
theorem s_X7_live_8b {l : Launch} {g : pj_G} (hg : pj_ph g = true) {r0 : Nat} {x2 : Int} {x3 : Int} {x4 : Int} {x5 : Int} {M : pj_M} {Q : Int → pj_M → Prop}  {k8 : Int → Int → Int → pj_M → Prop} (o0 : pj_ob r0 7)  (hk8 : ∀ (x3 : Int) (x4 : Int) (x5 : Int) (M : pj_M), k8 x3 x4 x5 M → pj_R l g mdX7_live pj_T (pj_Zm g mdX7_live (pj_qi Q)) pj_NK 0 0 8 [(0, .ref r0), (2, .int (pj_I x2)), (3, .int (pj_I x3)), (4, .int (pj_I x4)), (5, .int (pj_I x5))] [] M) (h : w_X7_live_8b r0 x2  Q k8 x3 x4 x5 M) : pj_R l g mdX7_live pj_T (pj_Zm g mdX7_live (pj_qi Q)) pj_NK 0 0 8 [(0, .ref r0), (2, .int (pj_I x2)), (3, .int (pj_I x3)), (4, .int (pj_I x4)), (5, .int (pj_I x5))] [] M := by
  unfold w_X7_live_8b at h
  refine pj_iload 10 4 rfl rfl rfl ?_
  refine pj_iload_n 11 1 rfl rfl rfl rfl ?_
  obtain ⟨q1, h⟩ := h
  obtain ⟨q2, h⟩ := h
  refine pj_icmp_ge 88 14 rfl (by decide) rfl q1 q2 (fun hc => ?_) (fun hc => ?_)
  · replace h := h.1 hc
    refine pj_iload 90 3 rfl rfl rfl ?_
    exact pn_iret h rfl rfl
  · replace h := h.2 hc
    refine pj_iload_n 15 2 rfl rfl rfl rfl ?_
    refine pn_callSi 18 [.int (pj_I x3)] [] (s_X7_drawn hg  h) plX7_37 rfl rfl rfl rfl (Nat.le_of_ble_eq_true rfl) (by decide) (fun t4 M3 h => ?_)
    refine pj_istore_n 19 (ls' := [(0, .ref r0), (2, .int (pj_I x2)), (3, .int (pj_I t4)), (4, .int (pj_I x4)), (5, .int (pj_I x5))]) rfl rfl (by decide) rfl rfl ?_
    refine pj_iload_n 20 2 rfl rfl rfl rfl ?_
    refine pj_bipush 22 rfl (by decide) rfl ?_
    refine pj_iushr 23 rfl rfl ?_
    refine pj_iconst 24 rfl rfl ?_
    refine pj_irem 25 rfl rfl (show pj_in 3 by decide) (by decide) ?_
    refine pn_nm (fun z5 hz5 => ?_)
    replace h := h z5 hz5
    refine pj_istore 27 (ls' := [(0, .ref r0), (2, .int (pj_I x2)), (3, .int (pj_I t4)), (4, .int (pj_I x4)), (5, .int (pj_I x5)), (6, .int (pj_I z5))]) rfl (by decide) rfl rfl ?_
    refine pj_iload_n 28 2 rfl rfl rfl rfl ?_
    refine pn_callSi 31 [.int (pj_I t4)] [] (s_X7_drawn hg  h) plX7_37 rfl rfl rfl rfl (Nat.le_of_ble_eq_true rfl) (by decide) (fun t7 M6 h => ?_)
    refine pj_istore_n 32 (ls' := [(0, .ref r0), (2, .int (pj_I x2)), (3, .int (pj_I t7)), (4, .int (pj_I x4)), (5, .int (pj_I x5)), (6, .int (pj_I z5))]) rfl rfl (by decide) rfl rfl ?_
    refine pj_iload_n 33 2 rfl rfl rfl rfl ?_
    refine pj_bipush 35 rfl (by decide) rfl ?_
    refine pj_iushr 36 rfl rfl ?_
    refine pj_bipush 38 rfl (by decide) rfl ?_
    refine pj_irem 39 rfl rfl (show pj_in 14 by decide) (by decide) ?_
    refine pj_iconst 40 rfl rfl ?_
    refine pj_iadd 41 rfl rfl ?_
    refine pn_nm (fun z8 hz8 => ?_)
    replace h := h z8 hz8
    refine pj_istore 43 (ls' := [(0, .ref r0), (2, .int (pj_I x2)), (3, .int (pj_I t7)), (4, .int (pj_I x4)), (5, .int (pj_I x5)), (6, .int (pj_I z5)), (7, .int (pj_I z8))]) rfl (by decide) rfl rfl ?_
    refine pj_iconst 44 rfl rfl ?_
    refine pj_istore 46 (ls' := [(0, .ref r0), (2, .int (pj_I x2)), (3, .int (pj_I t7)), (4, .int (pj_I x4)), (5, .int (pj_I x5)), (6, .int (pj_I z5)), (7, .int (pj_I z8)), (8, .int (pj_I 0))]) rfl (by decide) rfl rfl ?_
    refine pj_iload 48 5 rfl rfl rfl ?_
    refine pj_iconst 49 rfl rfl ?_
    obtain ⟨q9, h⟩ := h
    refine pj_icmp_eq 66 52 rfl (by decide) rfl q9 (show pj_in 2 by decide) (fun hc => ?_) (fun hc => ?_)
    · replace h := h.1 hc
      refine pn_sub [0, 1, 2, 3, 4, 5, 6, 7] rfl ?_
      exact s_X7_live_66 hg o0  hk8 h
    · replace h := h.2 hc
      refine pj_iload_n 53 2 rfl rfl rfl rfl ?_
      refine pn_callSi 56 [.int (pj_I t7)] [] (s_X7_drawn hg  h) plX7_37 rfl rfl rfl rfl (Nat.le_of_ble_eq_true rfl) (by decide) (fun t14 M13 h => ?_)
      refine pj_istore_n 57 (ls' := [(0, .ref r0), (2, .int (pj_I x2)), (3, .int (pj_I t14)), (4, .int (pj_I x4)), (5, .int (pj_I x5)), (6, .int (pj_I z5)), (7, .int (pj_I z8)), (8, .int (pj_I 0))]) rfl rfl (by decide) rfl rfl ?_
      refine pj_iload_n 58 2 rfl rfl rfl rfl ?_
      refine pj_bipush 60 rfl (by decide) rfl ?_
      refine pj_iushr 61 rfl rfl ?_
      refine pj_bipush 63 rfl (by decide) rfl ?_
      refine pj_irem 64 rfl rfl (show pj_in 8 by decide) (by decide) ?_
      refine pn_nm (fun z15 hz15 => ?_)
      replace h := h z15 hz15
      refine pj_istore 66 (ls' := [(0, .ref r0), (2, .int (pj_I x2)), (3, .int (pj_I t14)), (4, .int (pj_I x4)), (5, .int (pj_I x5)), (6, .int (pj_I z5)), (7, .int (pj_I z8)), (8, .int (pj_I z15))]) rfl (by decide) rfl rfl ?_
      refine pn_sub [0, 1, 2, 3, 4, 5, 6, 7] rfl ?_
      exact s_X7_live_66 hg o0  hk8 h
set_option maxRecDepth 20000 in
set_option maxHeartbeats 4000000 in
theorem s_X7_live_8 {l : Launch} {g : pj_G} (hg : pj_ph g = true) {r0 : Nat} {x2 : Int} {x3 : Int} {x4 : Int} {x5 : Int} {M : pj_M} {Q : Int → pj_M → Prop}  (o0 : pj_ob r0 7)  (h : w_X7_live_8 r0 x2  Q x3 x4 x5 M) : pj_R l g mdX7_live pj_T (pj_Zm g mdX7_live (pj_qi Q)) pj_NK 0 0 8 [(0, .ref r0), (2, .int (pj_I x2)), (3, .int (pj_I x3)), (4, .int (pj_I x4)), (5, .int (pj_I x5))] [] M :=
  h (fun s => pj_R l g mdX7_live pj_T (pj_Zm g mdX7_live (pj_qi Q)) pj_NK 0 0 8 [(0, .ref r0), (2, .int (pj_I x2)), (3, .int (pj_I (s.1))), (4, .int (pj_I (s.2.1))), (5, .int (pj_I (s.2.2.1)))] [] s.2.2.2) (fun s hs => s_X7_live_8b hg o0  (fun _ _ _ _ q => q) hs)
set_option maxRecDepth 20000 in
set_option maxHeartbeats 4000000 in
theorem s_X7_live {l : Launch} {g : pj_G} (hg : pj_ph g = true) {r0 : Nat} {x1 : Int} {x2 : Int} {M : pj_M} {Q : Int → pj_M → Prop} (o0 : pj_ob r0 7) (h : w_X7_live r0 x1 x2 M Q) : pj_S l g mdX7_live [.ref r0, .int (pj_I x1), .int (pj_I x2)] pj_NK M (pj_qi Q) := by
  refine pj_ofR (ls := [(0, .ref r0), (1, .int (pj_I x1)), (2, .int (pj_I x2))]) gcX7_live (by decide) rfl (Nat.le_of_ble_eq_true rfl) rfl ?_
  unfold w_X7_live at h
  refine pj_iload_n 1 1 rfl rfl rfl rfl ?_
  refine pj_istore_n 2 (ls' := [(0, .ref r0), (1, .int (pj_I x1)), (2, .int (pj_I x2)), (3, .int (pj_I x1))]) rfl rfl (by decide) rfl rfl ?_
  refine pj_iconst 3 rfl rfl ?_
  refine pj_istore 5 (ls' := [(0, .ref r0), (1, .int (pj_I x1)), (2, .int (pj_I x2)), (3, .int (pj_I x1)), (4, .int (pj_I 0))]) rfl (by decide) rfl rfl ?_
  refine pj_iconst 6 rfl rfl ?_
  refine pj_istore 8 (ls' := [(0, .ref r0), (1, .int (pj_I x1)), (2, .int (pj_I x2)), (3, .int (pj_I x1)), (4, .int (pj_I 0)), (5, .int (pj_I 0))]) rfl (by decide) rfl rfl ?_
  refine pn_sub [0, 2, 3, 4, 5] rfl ?_
  exact s_X7_live_8 hg o0   h
def w_X8_add (r0 : Nat) (x1 : Int) (x2 : Int) (M : pj_M) (Q : pj_M → Prop) : Prop :=
  (pj_in (M r0 2)) ∧ ((16 ≤ (M r0 2) → Q M) ∧ (¬ 16 ≤ (M r0 2) → ((0 : Int) ≤ (M r0 2) ∧ (M r0 2) < 16) ∧ ∀ M3 : pj_M, M3 = pj_up M (pj_rf r0 0) (M r0 2) x1 → ((0 : Int) ≤ (M3 r0 2) ∧ (M3 r0 2) < 16) ∧ ∀ M5 : pj_M, M5 = pj_up M3 (pj_rf r0 1) (M3 r0 2) x2 → ∀ M6 : pj_M, M6 = pj_up M5 r0 2 ((M5 r0 2) + 1) → Q M6))
set_option maxRecDepth 20000 in
set_option maxHeartbeats 4000000 in
theorem s_X8_add {l : Launch} {g : pj_G} (hg : pj_ph g = true) {r0 : Nat} {x1 : Int} {x2 : Int} {M : pj_M} {Q : pj_M → Prop} (o0 : pj_ob r0 8) (h : w_X8_add r0 x1 x2 M Q) : pj_S l g mdX8_add [.ref r0, .int (pj_I x1), .int (pj_I x2)] pj_NK M (pj_qv Q) := by
  refine pj_ofR (ls := [(0, .ref r0), (1, .int (pj_I x1)), (2, .int (pj_I x2))]) gcX8_add (by decide) rfl (Nat.le_of_ble_eq_true rfl) rfl ?_
  unfold w_X8_add at h
  refine pj_aload_n 1 0 rfl rfl rfl rfl ?_
  refine pn_geti 4 8 2 2 o0 rfl pfX8_24 (Or.inl rfl) rfl rfl ?_
  refine pj_bipush 6 rfl (by decide) rfl ?_
  obtain ⟨q1, h⟩ := h
  refine pj_icmp_ge 39 9 rfl (by decide) rfl q1 (show pj_in 16 by decide) (fun hc => ?_) (fun hc => ?_)
  · replace h := h.1 hc
    exact pn_vret h rfl rfl
  · replace h := h.2 hc
    refine pj_aload_n 10 0 rfl rfl rfl rfl ?_
    refine pn_getr 13 8 0 hg o0 (pr_8_0 o0).2 rfl pfX8_9 rfl rfl ?_
    refine pj_aload_n 14 0 rfl rfl rfl rfl ?_
    refine pn_geti 17 8 2 2 o0 rfl pfX8_24 (Or.inl rfl) rfl rfl ?_
    refine pj_iload_n 18 1 rfl rfl rfl rfl ?_
    obtain ⟨q2, h⟩ := h
    refine pn_iast 19 16 (pr_8_0 o0)  q2 rfl rfl (fun M3 hM3 => ?_)
    replace h := h M3 hM3
    refine pj_aload_n 20 0 rfl rfl rfl rfl ?_
    refine pn_getr 23 8 1 hg o0 (pr_8_1 o0).2 rfl pfX8_15 rfl rfl ?_
    refine pj_aload_n 24 0 rfl rfl rfl rfl ?_
    refine pn_geti 27 8 2 2 o0 rfl pfX8_24 (Or.inl rfl) rfl rfl ?_
    refine pj_iload_n 28 2 rfl rfl rfl rfl ?_
    obtain ⟨q4, h⟩ := h
    refine pn_iast 29 16 (pr_8_1 o0)  q4 rfl rfl (fun M5 hM5 => ?_)
    replace h := h M5 hM5
    refine pj_aload_n 30 0 rfl rfl rfl rfl ?_
    refine pj_dup 31 rfl rfl rfl ?_
    refine pn_geti 34 8 2 2 o0 rfl pfX8_24 (Or.inl rfl) rfl rfl ?_
    refine pj_iconst 35 rfl rfl ?_
    refine pj_iadd 36 rfl rfl ?_
    refine pn_puti 39 8 2 2 o0  rfl pfX8_24 rfl rfl rfl (fun M6 hM6 => ?_)
    replace h := h M6 hM6
    exact pn_vret h rfl rfl
def w_X8_placeBehindMate_9b (r0 : Nat) (x1 : Int)  (Q : Int → pj_M → Prop) (k9 : Int → pj_M → Prop) (x2 : Int) (M : pj_M) : Prop :=
  (pj_in x2) ∧ ((x2 < 1 → Q x1 M) ∧ (¬ x2 < 1 → ((0 : Int) ≤ x2 ∧ x2 < 16) ∧ (pj_in (M (pj_rf r0 3) x2)) ∧ (pj_in x1) ∧ (((M (pj_rf r0 3) x2) < x1 → k9 (x2 + (-1)) M) ∧ (¬ (M (pj_rf r0 3) x2) < x1 → ((0 : Int) ≤ x2 ∧ x2 < 16) ∧ Q ((M (pj_rf r0 3) x2) + 1) M))))
def w_X8_placeBehindMate_9 (r0 : Nat) (x1 : Int)  (Q : Int → pj_M → Prop) (x2 : Int) (M : pj_M) : Prop := pj_lp (fun (k : Int × pj_M → Prop) (s : Int × pj_M) => w_X8_placeBehindMate_9b r0 x1  Q (fun (x2 : Int) (M : pj_M) => k (x2, M)) s.1 s.2) (x2, M)
def w_X8_placeBehindMate (r0 : Nat) (x1 : Int) (M : pj_M) (Q : Int → pj_M → Prop) : Prop :=
  w_Jmin x1 16 M (fun (t2 : Int) (M1 : pj_M) => w_X8_placeBehindMate_9 r0 x1  Q (t2 - 1) M1)
set_option maxRecDepth 20000 in
set_option maxHeartbeats 4000000 in
theorem s_X8_placeBehindMate_9b {l : Launch} {g : pj_G} (hg : pj_ph g = true) {r0 : Nat} {x1 : Int} {x2 : Int} {M : pj_M} {Q : Int → pj_M → Prop}  {k9 : Int → pj_M → Prop} (o0 : pj_ob r0 8)  (hk9 : ∀ (x2 : Int) (M : pj_M), k9 x2 M → pj_R l g mdX8_placeBehindMate pj_T (pj_Zm g mdX8_placeBehindMate (pj_qi Q)) pj_NK 0 0 9 [(0, .ref r0), (1, .int (pj_I x1)), (2, .int (pj_I x2))] [] M) (h : w_X8_placeBehindMate_9b r0 x1  Q k9 x2 M) : pj_R l g mdX8_placeBehindMate pj_T (pj_Zm g mdX8_placeBehindMate (pj_qi Q)) pj_NK 0 0 9 [(0, .ref r0), (1, .int (pj_I x1)), (2, .int (pj_I x2))] [] M := by
  unfold w_X8_placeBehindMate_9b at h
  refine pj_iload_n 10 2 rfl rfl rfl rfl ?_
  refine pj_iconst 11 rfl rfl ?_
  obtain ⟨q3, h⟩ := h
  refine pj_icmp_lt 39 14 rfl (by decide) rfl q3 (show pj_in 1 by decide) (fun hc => ?_) (fun hc => ?_)
  · replace h := h.1 hc
    refine pj_iload_n 40 1 rfl rfl rfl rfl ?_
    exact pn_iret h rfl rfl
  · replace h := h.2 hc
    refine pj_aload_n 15 0 rfl rfl rfl rfl ?_
    refine pn_getr 18 8 3 hg o0 (pr_8_3 o0).2 rfl pfX8_18 rfl rfl ?_
    refine pj_iload_n 19 2 rfl rfl rfl rfl ?_
    obtain ⟨q4, h⟩ := h
    refine pn_iald 20 16 (pr_8_3 o0) q4 rfl rfl ?_
    refine pj_iload_n 21 1 rfl rfl rfl rfl ?_
    obtain ⟨q5, h⟩ := h
    obtain ⟨q6, h⟩ := h
    refine pj_icmp_lt 33 24 rfl (by decide) rfl q5 q6 (fun hc => ?_) (fun hc => ?_)
    · replace h := h.1 hc
      refine pj_iinc 36 2 (ls' := [(0, .ref r0), (1, .int (pj_I x1)), (2, .int (pj_I (x2 + (-1))))]) rfl rfl (by decide) rfl rfl ?_
      refine pj_goto 9 rfl (by decide) ?_
      refine pn_sub [0, 1, 2] rfl ?_
      exact hk9 _ _ h
    · replace h := h.2 hc
      refine pj_aload_n 25 0 rfl rfl rfl rfl ?_
      refine pn_getr 28 8 3 hg o0 (pr_8_3 o0).2 rfl pfX8_18 rfl rfl ?_
      refine pj_iload_n 29 2 rfl rfl rfl rfl ?_
      obtain ⟨q7, h⟩ := h
      refine pn_iald 30 16 (pr_8_3 o0) q7 rfl rfl ?_
      refine pj_iconst 31 rfl rfl ?_
      refine pj_iadd 32 rfl rfl ?_
      exact pn_iret h rfl rfl
set_option maxRecDepth 20000 in
set_option maxHeartbeats 4000000 in
theorem s_X8_placeBehindMate_9 {l : Launch} {g : pj_G} (hg : pj_ph g = true) {r0 : Nat} {x1 : Int} {x2 : Int} {M : pj_M} {Q : Int → pj_M → Prop}  (o0 : pj_ob r0 8)  (h : w_X8_placeBehindMate_9 r0 x1  Q x2 M) : pj_R l g mdX8_placeBehindMate pj_T (pj_Zm g mdX8_placeBehindMate (pj_qi Q)) pj_NK 0 0 9 [(0, .ref r0), (1, .int (pj_I x1)), (2, .int (pj_I x2))] [] M :=
  h (fun s => pj_R l g mdX8_placeBehindMate pj_T (pj_Zm g mdX8_placeBehindMate (pj_qi Q)) pj_NK 0 0 9 [(0, .ref r0), (1, .int (pj_I x1)), (2, .int (pj_I (s.1)))] [] s.2) (fun s hs => s_X8_placeBehindMate_9b hg o0  (fun _ _ q => q) hs)
set_option maxRecDepth 20000 in
set_option maxHeartbeats 4000000 in
theorem s_X8_placeBehindMate {l : Launch} {g : pj_G} (hg : pj_ph g = true) {r0 : Nat} {x1 : Int} {M : pj_M} {Q : Int → pj_M → Prop} (o0 : pj_ob r0 8) (h : w_X8_placeBehindMate r0 x1 M Q) : pj_S l g mdX8_placeBehindMate [.ref r0, .int (pj_I x1)] pj_NK M (pj_qi Q) := by
  refine pj_ofR (ls := [(0, .ref r0), (1, .int (pj_I x1))]) gcX8_placeBehindMate (by decide) rfl (Nat.le_of_ble_eq_true rfl) rfl ?_
  unfold w_X8_placeBehindMate at h
  refine pj_iload_n 1 1 rfl rfl rfl rfl ?_
  refine pj_bipush 3 rfl (by decide) rfl ?_
  refine pn_callSi 6 [.int (pj_I x1), .int (pj_I 16)] [] (s_Jmin hg  h) plX8_75 rfl rfl rfl rfl (Nat.le_of_ble_eq_true rfl) (by decide) (fun t2 M1 h => ?_)
  refine pj_iconst 7 rfl rfl ?_
  refine pj_isub 8 rfl rfl ?_
  refine pj_istore_n 9 (ls' := [(0, .ref r0), (1, .int (pj_I x1)), (2, .int (pj_I (t2 - 1)))]) rfl rfl (by decide) rfl rfl ?_
  refine pn_sub [0, 1, 2] rfl ?_
  exact s_X8_placeBehindMate_9 hg o0   h
def w_X8_fromLeft_64 (r0 : Nat) (r1 : Nat) (x2 : Int) (x4 : Int) (y0 : Int) (k10 : Int → Int → pj_M → Prop) (Q : pj_M → Prop) (M : pj_M) : Prop :=
  k10 y0 (x4 + 1) M
def w_X8_fromLeft_10b (r0 : Nat) (r1 : Nat) (x2 : Int)  (Q : pj_M → Prop) (k10 : Int → Int → pj_M → Prop) (x3 : Int) (x4 : Int) (M : pj_M) : Prop :=
  (pj_in x4) ∧ (pj_in (M r1 11)) ∧ (((M r1 11) < x4 → Q M) ∧ (¬ (M r1 11) < x4 → (pj_in x4) ∧ (pj_in x3) ∧ ((x4 ≤ x3 → k10 x3 (x4 + 1) M) ∧ (¬ x4 ≤ x3 → w_X0_leastFitting r1 x4 M (fun (t7 : Int) (M6 : pj_M) => (pj_in t7) ∧ (pj_in x3) ∧ ((t7 ≤ x3 → k10 x3 (x4 + 1) M6) ∧ (¬ t7 ≤ x3 → w_X0_leastFitting r1 x4 M6 (fun (t11 : Int) (M10 : pj_M) => w_X8_add r0 (t11 - 1) x4 M10 (fun (M12 : pj_M) => (pj_in x2) ∧ ((x2 = 0 → w_X8_fromLeft_64 r0 r1 x2 x4 x4 k10 Q M12) ∧ (¬ x2 = 0 → w_X8_placeBehindMate r0 x4 M12 (fun (t16 : Int) (M15 : pj_M) => w_X8_fromLeft_64 r0 r1 x2 x4 t16 k10 Q M15))))))))))))
def w_X8_fromLeft_10 (r0 : Nat) (r1 : Nat) (x2 : Int)  (Q : pj_M → Prop) (x3 : Int) (x4 : Int) (M : pj_M) : Prop := pj_lp (fun (k : Int × Int × pj_M → Prop) (s : Int × Int × pj_M) => w_X8_fromLeft_10b r0 r1 x2  Q (fun (x3 : Int) (x4 : Int) (M : pj_M) => k (x3, x4, M)) s.1 s.2.1 s.2.2) (x3, x4, M)
def w_X8_fromLeft (r0 : Nat) (r1 : Nat) (x2 : Int) (M : pj_M) (Q : pj_M → Prop) : Prop :=
  ∀ M1 : pj_M, M1 = pj_up M r0 2 0 → w_X8_fromLeft_10 r0 r1 x2  Q 0 1 M1
set_option maxRecDepth 20000 in
set_option maxHeartbeats 4000000 in
theorem s_X8_fromLeft_64 {l : Launch} {g : pj_G} (hg : pj_ph g = true) {r0 : Nat} {r1 : Nat} {x2 : Int} {x4 : Int} {y0 : Int} {M : pj_M} {Q : pj_M → Prop} {k10 : Int → Int → pj_M → Prop} (o0 : pj_ob r0 8) (o1 : pj_ob r1 0) (hk10 : ∀ (x3 : Int) (x4 : Int) (M : pj_M), k10 x3 x4 M → pj_R l g mdX8_fromLeft pj_T (pj_Zm g mdX8_fromLeft (pj_qv Q)) pj_NK 0 0 10 [(0, .ref r0), (1, .ref r1), (2, .int (pj_I x2)), (3, .int (pj_I x3)), (4, .int (pj_I x4))] [] M) (h : w_X8_fromLeft_64 r0 r1 x2 x4 y0 k10 Q M) : pj_R l g mdX8_fromLeft pj_T (pj_Zm g mdX8_fromLeft (pj_qv Q)) pj_NK 0 0 64 [(0, .ref r0), (1, .ref r1), (2, .int (pj_I x2)), (4, .int (pj_I x4))] [.int (pj_I y0)] M := by
  unfold w_X8_fromLeft_64 at h
  refine pj_istore_n 65 (ls' := [(0, .ref r0), (1, .ref r1), (2, .int (pj_I x2)), (3, .int (pj_I y0)), (4, .int (pj_I x4))]) rfl rfl (by decide) rfl rfl ?_
  refine pj_iinc 68 4 (ls' := [(0, .ref r0), (1, .ref r1), (2, .int (pj_I x2)), (3, .int (pj_I y0)), (4, .int (pj_I (x4 + 1)))]) rfl rfl (by decide) rfl rfl ?_
  refine pj_goto 10 rfl (by decide) ?_
  refine pn_sub [0, 1, 2, 3, 4] rfl ?_
  exact hk10 _ _ _ h
set_option maxRecDepth 20000 in
set_option maxHeartbeats 4000000 in
theorem s_X8_fromLeft_10b {l : Launch} {g : pj_G} (hg : pj_ph g = true) {r0 : Nat} {r1 : Nat} {x2 : Int} {x3 : Int} {x4 : Int} {M : pj_M} {Q : pj_M → Prop}  {k10 : Int → Int → pj_M → Prop} (o0 : pj_ob r0 8) (o1 : pj_ob r1 0)  (hk10 : ∀ (x3 : Int) (x4 : Int) (M : pj_M), k10 x3 x4 M → pj_R l g mdX8_fromLeft pj_T (pj_Zm g mdX8_fromLeft (pj_qv Q)) pj_NK 0 0 10 [(0, .ref r0), (1, .ref r1), (2, .int (pj_I x2)), (3, .int (pj_I x3)), (4, .int (pj_I x4))] [] M) (h : w_X8_fromLeft_10b r0 r1 x2  Q k10 x3 x4 M) : pj_R l g mdX8_fromLeft pj_T (pj_Zm g mdX8_fromLeft (pj_qv Q)) pj_NK 0 0 10 [(0, .ref r0), (1, .ref r1), (2, .int (pj_I x2)), (3, .int (pj_I x3)), (4, .int (pj_I x4))] [] M := by
  unfold w_X8_fromLeft_10b at h
  refine pj_iload 12 4 rfl rfl rfl ?_
  refine pj_aload_n 13 1 rfl rfl rfl rfl ?_
  refine pn_geti 16 0 11 11 o1 rfl pfX8_28 (Or.inl rfl) rfl rfl ?_
  obtain ⟨q2, h⟩ := h
  obtain ⟨q3, h⟩ := h
  refine pj_icmp_gt 71 19 rfl (by decide) rfl q2 q3 (fun hc => ?_) (fun hc => ?_)
  · replace h := h.1 hc
    exact pn_vret h rfl rfl
  · replace h := h.2 hc
    refine pj_iload 21 4 rfl rfl rfl ?_
    refine pj_iload_n 22 3 rfl rfl rfl rfl ?_
    obtain ⟨q4, h⟩ := h
    obtain ⟨q5, h⟩ := h
    refine pj_icmp_le 65 25 rfl (by decide) rfl q4 q5 (fun hc => ?_) (fun hc => ?_)
    · replace h := h.1 hc
      refine pj_iinc 68 4 (ls' := [(0, .ref r0), (1, .ref r1), (2, .int (pj_I x2)), (3, .int (pj_I x3)), (4, .int (pj_I (x4 + 1)))]) rfl rfl (by decide) rfl rfl ?_
      refine pj_goto 10 rfl (by decide) ?_
      refine pn_sub [0, 1, 2, 3, 4] rfl ?_
      exact hk10 _ _ _ h
    · replace h := h.2 hc
      refine pj_aload_n 26 1 rfl rfl rfl rfl ?_
      refine pj_iload 28 4 rfl rfl rfl ?_
      refine pn_callVi 31 0 [.int (pj_I x4)] [] o1 (s_X0_leastFitting hg o1 h) plX8_31 rfl rfl rfl rfl (Nat.le_of_ble_eq_true rfl) (by decide) (fun t7 M6 h => ?_)
      refine pj_iload_n 32 3 rfl rfl rfl rfl ?_
      obtain ⟨q8, h⟩ := h
      obtain ⟨q9, h⟩ := h
      refine pj_icmp_le 65 35 rfl (by decide) rfl q8 q9 (fun hc => ?_) (fun hc => ?_)
      · replace h := h.1 hc
        refine pj_iinc 68 4 (ls' := [(0, .ref r0), (1, .ref r1), (2, .int (pj_I x2)), (3, .int (pj_I x3)), (4, .int (pj_I (x4 + 1)))]) rfl rfl (by decide) rfl rfl ?_
        refine pj_goto 10 rfl (by decide) ?_
        refine pn_sub [0, 1, 2, 3, 4] rfl ?_
        exact hk10 _ _ _ h
      · replace h := h.2 hc
        refine pj_aload_n 36 0 rfl rfl rfl rfl ?_
        refine pj_aload_n 37 1 rfl rfl rfl rfl ?_
        refine pj_iload 39 4 rfl rfl rfl ?_
        refine pn_callVi 42 0 [.int (pj_I x4)] [.ref r0] o1 (s_X0_leastFitting hg o1 h) plX8_31 rfl rfl rfl rfl (Nat.le_of_ble_eq_true rfl) (by decide) (fun t11 M10 h => ?_)
        refine pj_iconst 43 rfl rfl ?_
        refine pj_isub 44 rfl rfl ?_
        refine pj_iload 46 4 rfl rfl rfl ?_
        refine pn_callVv 49 8 [.int (pj_I (t11 - 1)), .int (pj_I x4)] [] o0 (s_X8_add hg o0 h) plX8_35 rfl rfl rfl rfl (Nat.le_of_ble_eq_true rfl) (by decide) (fun M12 h => ?_)
        refine pj_iload_n 50 2 rfl rfl rfl rfl ?_
        obtain ⟨q14, h⟩ := h
        refine pj_if_eq 62 53 rfl (by decide) rfl q14  (fun hc => ?_) (fun hc => ?_)
        · replace h := h.1 hc
          refine pj_iload 64 4 rfl rfl rfl ?_
          refine pn_sub [0, 1, 2, 4] rfl ?_
          exact s_X8_fromLeft_64 hg o0 o1  hk10 h
        · replace h := h.2 hc
          refine pj_aload_n 54 0 rfl rfl rfl rfl ?_
          refine pj_iload 56 4 rfl rfl rfl ?_
          refine pn_callVi 59 8 [.int (pj_I x4)] [] o0 (s_X8_placeBehindMate hg o0 h) plX8_39 rfl rfl rfl rfl (Nat.le_of_ble_eq_true rfl) (by decide) (fun t16 M15 h => ?_)
          refine pj_goto 64 rfl (by decide) ?_
          refine pn_sub [0, 1, 2, 4] rfl ?_
          exact s_X8_fromLeft_64 hg o0 o1  hk10 h
set_option maxRecDepth 20000 in
set_option maxHeartbeats 4000000 in
theorem s_X8_fromLeft_10 {l : Launch} {g : pj_G} (hg : pj_ph g = true) {r0 : Nat} {r1 : Nat} {x2 : Int} {x3 : Int} {x4 : Int} {M : pj_M} {Q : pj_M → Prop}  (o0 : pj_ob r0 8) (o1 : pj_ob r1 0)  (h : w_X8_fromLeft_10 r0 r1 x2  Q x3 x4 M) : pj_R l g mdX8_fromLeft pj_T (pj_Zm g mdX8_fromLeft (pj_qv Q)) pj_NK 0 0 10 [(0, .ref r0), (1, .ref r1), (2, .int (pj_I x2)), (3, .int (pj_I x3)), (4, .int (pj_I x4))] [] M :=
  h (fun s => pj_R l g mdX8_fromLeft pj_T (pj_Zm g mdX8_fromLeft (pj_qv Q)) pj_NK 0 0 10 [(0, .ref r0), (1, .ref r1), (2, .int (pj_I x2)), (3, .int (pj_I (s.1))), (4, .int (pj_I (s.2.1)))] [] s.2.2) (fun s hs => s_X8_fromLeft_10b hg o0 o1  (fun _ _ _ q => q) hs)
set_option maxRecDepth 20000 in
set_option maxHeartbeats 4000000 in
theorem s_X8_fromLeft {l : Launch} {g : pj_G} (hg : pj_ph g = true) {r0 : Nat} {r1 : Nat} {x2 : Int} {M : pj_M} {Q : pj_M → Prop} (o0 : pj_ob r0 8) (o1 : pj_ob r1 0) (h : w_X8_fromLeft r0 r1 x2 M Q) : pj_S l g mdX8_fromLeft [.ref r0, .ref r1, .int (pj_I x2)] pj_NK M (pj_qv Q) := by
  refine pj_ofR (ls := [(0, .ref r0), (1, .ref r1), (2, .int (pj_I x2))]) gcX8_fromLeft (by decide) rfl (Nat.le_of_ble_eq_true rfl) rfl ?_
  unfold w_X8_fromLeft at h
  refine pj_aload_n 1 0 rfl rfl rfl rfl ?_
  refine pj_iconst 2 rfl rfl ?_
  refine pn_puti 5 8 2 2 o0  rfl pfX8_24 rfl rfl rfl (fun M1 hM1 => ?_)
  replace h := h M1 hM1
  refine pj_iconst 6 rfl rfl ?_
  refine pj_istore_n 7 (ls' := [(0, .ref r0), (1, .ref r1), (2, .int (pj_I x2)), (3, .int (pj_I 0))]) rfl rfl (by decide) rfl rfl ?_
  refine pj_iconst 8 rfl rfl ?_
  refine pj_istore 10 (ls' := [(0, .ref r0), (1, .ref r1), (2, .int (pj_I x2)), (3, .int (pj_I 0)), (4, .int (pj_I 1))]) rfl (by decide) rfl rfl ?_
  refine pn_sub [0, 1, 2, 3, 4] rfl ?_
  exact s_X8_fromLeft_10 hg o0 o1   h
def w_X8_turn_2b (r0 : Nat) (r1 : Nat)  (Q : pj_M → Prop) (k2 : Int → pj_M → Prop) (x2 : Int) (M : pj_M) : Prop :=
  (pj_in x2) ∧ (pj_in (pj_div (M r0 2) 2)) ∧ (((pj_div (M r0 2) 2) ≤ x2 → Q M) ∧ (¬ (pj_div (M r0 2) 2) ≤ x2 → ∀ z3 : Int, z3 = (((M r0 2) - 1) - x2) → ((0 : Int) ≤ x2 ∧ x2 < ((pj_sh r1).2 : Int)) ∧ ∀ z5 : Int, z5 = (M r1 x2) → ((0 : Int) ≤ z3 ∧ z3 < ((pj_sh r1).2 : Int)) ∧ ((0 : Int) ≤ x2 ∧ x2 < ((pj_sh r1).2 : Int)) ∧ ∀ M8 : pj_M, M8 = pj_up M r1 x2 (M r1 z3) → ((0 : Int) ≤ z3 ∧ z3 < ((pj_sh r1).2 : Int)) ∧ ∀ M10 : pj_M, M10 = pj_up M8 r1 z3 z5 → k2 (x2 + 1) M10))
def w_X8_turn_2 (r0 : Nat) (r1 : Nat)  (Q : pj_M → Prop) (x2 : Int) (M : pj_M) : Prop := pj_lp (fun (k : Int × pj_M → Prop) (s : Int × pj_M) => w_X8_turn_2b r0 r1  Q (fun (x2 : Int) (M : pj_M) => k (x2, M)) s.1 s.2) (x2, M)
def w_X8_turn (r0 : Nat) (r1 : Nat) (M : pj_M) (Q : pj_M → Prop) : Prop :=
  w_X8_turn_2 r0 r1  Q 0 M
set_option maxRecDepth 20000 in
set_option maxHeartbeats 4000000 in
theorem s_X8_turn_2b {l : Launch} {g : pj_G} (hg : pj_ph g = true) {r0 : Nat} {r1 : Nat} {x2 : Int} {M : pj_M} {Q : pj_M → Prop}  {k2 : Int → pj_M → Prop} (o0 : pj_ob r0 8) (o1 : pj_ol r1 1 (pj_sh r1).2)  (hk2 : ∀ (x2 : Int) (M : pj_M), k2 x2 M → pj_R l g mdX8_turn pj_T (pj_Zm g mdX8_turn (pj_qv Q)) pj_NK 0 0 2 [(0, .ref r0), (1, .ref r1), (2, .int (pj_I x2))] [] M) (h : w_X8_turn_2b r0 r1  Q k2 x2 M) : pj_R l g mdX8_turn pj_T (pj_Zm g mdX8_turn (pj_qv Q)) pj_NK 0 0 2 [(0, .ref r0), (1, .ref r1), (2, .int (pj_I x2))] [] M := by
  unfold w_X8_turn_2b at h
  refine pj_iload_n 3 2 rfl rfl rfl rfl ?_
  refine pj_aload_n 4 0 rfl rfl rfl rfl ?_
  refine pn_geti 7 8 2 2 o0 rfl pfX8_24 (Or.inl rfl) rfl rfl ?_
  refine pj_iconst 8 rfl rfl ?_
  refine pj_idiv 9 rfl rfl (show pj_in 2 by decide) (by decide) ?_
  obtain ⟨q1, h⟩ := h
  obtain ⟨q2, h⟩ := h
  refine pj_icmp_ge 43 12 rfl (by decide) rfl q1 q2 (fun hc => ?_) (fun hc => ?_)
  · replace h := h.1 hc
    exact pn_vret h rfl rfl
  · replace h := h.2 hc
    refine pj_aload_n 13 0 rfl rfl rfl rfl ?_
    refine pn_geti 16 8 2 2 o0 rfl pfX8_24 (Or.inl rfl) rfl rfl ?_
    refine pj_iconst 17 rfl rfl ?_
    refine pj_isub 18 rfl rfl ?_
    refine pj_iload_n 19 2 rfl rfl rfl rfl ?_
    refine pj_isub 20 rfl rfl ?_
    refine pn_nm (fun z3 hz3 => ?_)
    replace h := h z3 hz3
    refine pj_istore_n 21 (ls' := [(0, .ref r0), (1, .ref r1), (2, .int (pj_I x2)), (3, .int (pj_I z3))]) rfl rfl (by decide) rfl rfl ?_
    refine pj_aload_n 22 1 rfl rfl rfl rfl ?_
    refine pj_iload_n 23 2 rfl rfl rfl rfl ?_
    obtain ⟨q4, h⟩ := h
    refine pn_iald 24 ((pj_sh r1).2) o1 q4 rfl rfl ?_
    refine pn_nm (fun z5 hz5 => ?_)
    replace h := h z5 hz5
    refine pj_istore 26 (ls' := [(0, .ref r0), (1, .ref r1), (2, .int (pj_I x2)), (3, .int (pj_I z3)), (4, .int (pj_I z5))]) rfl (by decide) rfl rfl ?_
    refine pj_aload_n 27 1 rfl rfl rfl rfl ?_
    refine pj_iload_n 28 2 rfl rfl rfl rfl ?_
    refine pj_aload_n 29 1 rfl rfl rfl rfl ?_
    refine pj_iload_n 30 3 rfl rfl rfl rfl ?_
    obtain ⟨q6, h⟩ := h
    refine pn_iald 31 ((pj_sh r1).2) o1 q6 rfl rfl ?_
    obtain ⟨q7, h⟩ := h
    refine pn_iast 32 ((pj_sh r1).2) o1  q7 rfl rfl (fun M8 hM8 => ?_)
    replace h := h M8 hM8
    refine pj_aload_n 33 1 rfl rfl rfl rfl ?_
    refine pj_iload_n 34 3 rfl rfl rfl rfl ?_
    refine pj_iload 36 4 rfl rfl rfl ?_
    obtain ⟨q9, h⟩ := h
    refine pn_iast 37 ((pj_sh r1).2) o1  q9 rfl rfl (fun M10 hM10 => ?_)
    replace h := h M10 hM10
    refine pj_iinc 40 2 (ls' := [(0, .ref r0), (1, .ref r1), (2, .int (pj_I (x2 + 1))), (3, .int (pj_I z3)), (4, .int (pj_I z5))]) rfl rfl (by decide) rfl rfl ?_
    refine pj_goto 2 rfl (by decide) ?_
    refine pn_sub [0, 1, 2] rfl ?_
    exact hk2 _ _ h
set_option maxRecDepth 20000 in
set_option maxHeartbeats 4000000 in
theorem s_X8_turn_2 {l : Launch} {g : pj_G} (hg : pj_ph g = true) {r0 : Nat} {r1 : Nat} {x2 : Int} {M : pj_M} {Q : pj_M → Prop}  (o0 : pj_ob r0 8) (o1 : pj_ol r1 1 (pj_sh r1).2)  (h : w_X8_turn_2 r0 r1  Q x2 M) : pj_R l g mdX8_turn pj_T (pj_Zm g mdX8_turn (pj_qv Q)) pj_NK 0 0 2 [(0, .ref r0), (1, .ref r1), (2, .int (pj_I x2))] [] M :=
  h (fun s => pj_R l g mdX8_turn pj_T (pj_Zm g mdX8_turn (pj_qv Q)) pj_NK 0 0 2 [(0, .ref r0), (1, .ref r1), (2, .int (pj_I (s.1)))] [] s.2) (fun s hs => s_X8_turn_2b hg o0 o1  (fun _ _ q => q) hs)
set_option maxRecDepth 20000 in
set_option maxHeartbeats 4000000 in
theorem s_X8_turn {l : Launch} {g : pj_G} (hg : pj_ph g = true) {r0 : Nat} {r1 : Nat} {M : pj_M} {Q : pj_M → Prop} (o0 : pj_ob r0 8) (o1 : pj_oa r1 1) (h : w_X8_turn r0 r1 M Q) : pj_S l g mdX8_turn [.ref r0, .ref r1] pj_NK M (pj_qv Q) := by
  refine pj_ofR (ls := [(0, .ref r0), (1, .ref r1)]) gcX8_turn (by decide) rfl (Nat.le_of_ble_eq_true rfl) rfl ?_
  unfold w_X8_turn at h
  refine pj_iconst 1 rfl rfl ?_
  refine pj_istore_n 2 (ls' := [(0, .ref r0), (1, .ref r1), (2, .int (pj_I 0))]) rfl rfl (by decide) rfl rfl ?_
  refine pn_sub [0, 1, 2] rfl ?_
  exact s_X8_turn_2 hg o0 (pr_len o1)   h
def w_X8_fromRight_58 (r0 : Nat)  (Q : pj_M → Prop) (M : pj_M) : Prop :=
  w_X8_turn r0 (pj_rf r0 0) M (fun (M4 : pj_M) => w_X8_turn r0 (pj_rf r0 1) M4 (fun (M6 : pj_M) => Q M6))
def w_X8_fromRight_12b (r0 : Nat) (r1 : Nat)  (Q : pj_M → Prop) (k12 : Int → Int → pj_M → Prop) (x2 : Int) (x3 : Int) (M : pj_M) : Prop :=
  (pj_in x3) ∧ ((16 ≤ x3 → w_X8_fromRight_58 r0  Q M) ∧ (¬ 16 ≤ x3 → w_X0_leastFitting r1 x2 M (fun (t9 : Int) (M8 : pj_M) => (pj_in t9) ∧ ((t9 ≤ 0 → w_X8_fromRight_58 r0  Q M8) ∧ (¬ t9 ≤ 0 → w_X0_leastFitting r1 x2 M8 (fun (t12 : Int) (M11 : pj_M) => w_X0_greatestFitting r1 (t12 - 1) M11 (fun (t14 : Int) (M13 : pj_M) => w_X8_add r0 (t12 - 1) (t14 + 1) M13 (fun (M15 : pj_M) => k12 (t12 - 1) (x3 + 1) M15))))))))
def w_X8_fromRight_12 (r0 : Nat) (r1 : Nat)  (Q : pj_M → Prop) (x2 : Int) (x3 : Int) (M : pj_M) : Prop := pj_lp (fun (k : Int × Int × pj_M → Prop) (s : Int × Int × pj_M) => w_X8_fromRight_12b r0 r1  Q (fun (x2 : Int) (x3 : Int) (M : pj_M) => k (x2, x3, M)) s.1 s.2.1 s.2.2) (x2, x3, M)
def w_X8_fromRight (r0 : Nat) (r1 : Nat) (M : pj_M) (Q : pj_M → Prop) : Prop :=
  ∀ M1 : pj_M, M1 = pj_up M r0 2 0 → ∀ z2 : Int, z2 = (M1 r1 11) → w_X8_fromRight_12 r0 r1  Q z2 0 M1
set_option maxRecDepth 20000 in
set_option maxHeartbeats 4000000 in
theorem s_X8_fromRight_58 {l : Launch} {g : pj_G} (hg : pj_ph g = true) {r0 : Nat} {M : pj_M} {Q : pj_M → Prop}  (o0 : pj_ob r0 8)  (h : w_X8_fromRight_58 r0  Q M) : pj_R l g mdX8_fromRight pj_T (pj_Zm g mdX8_fromRight (pj_qv Q)) pj_NK 0 0 58 [(0, .ref r0)] [] M := by
  unfold w_X8_fromRight_58 at h
  refine pj_aload_n 59 0 rfl rfl rfl rfl ?_
  refine pj_aload_n 60 0 rfl rfl rfl rfl ?_
  refine pn_getr 63 8 0 hg o0 (pr_8_0 o0).2 rfl pfX8_9 rfl rfl ?_
  refine pn_callVv 66 8 [.ref (pj_rf r0 0)] [] o0 (s_X8_turn hg o0 (pj_oa_of (pr_8_0 o0)) h) plX8_45 rfl rfl rfl rfl (Nat.le_of_ble_eq_true rfl) (by decide) (fun M4 h => ?_)
  refine pj_aload_n 67 0 rfl rfl rfl rfl ?_
  refine pj_aload_n 68 0 rfl rfl rfl rfl ?_
  refine pn_getr 71 8 1 hg o0 (pr_8_1 o0).2 rfl pfX8_15 rfl rfl ?_
  refine pn_callVv 74 8 [.ref (pj_rf r0 1)] [] o0 (s_X8_turn hg o0 (pj_oa_of (pr_8_1 o0)) h) plX8_45 rfl rfl rfl rfl (Nat.le_of_ble_eq_true rfl) (by decide) (fun M6 h => ?_)
  exact pn_vret h rfl rfl
set_option maxRecDepth 20000 in
set_option maxHeartbeats 4000000 in
theorem s_X8_fromRight_12b {l : Launch} {g : pj_G} (hg : pj_ph g = true) {r0 : Nat} {r1 : Nat} {x2 : Int} {x3 : Int} {M : pj_M} {Q : pj_M → Prop}  {k12 : Int → Int → pj_M → Prop} (o0 : pj_ob r0 8) (o1 : pj_ob r1 0)  (hk12 : ∀ (x2 : Int) (x3 : Int) (M : pj_M), k12 x2 x3 M → pj_R l g mdX8_fromRight pj_T (pj_Zm g mdX8_fromRight (pj_qv Q)) pj_NK 0 0 12 [(0, .ref r0), (1, .ref r1), (2, .int (pj_I x2)), (3, .int (pj_I x3))] [] M) (h : w_X8_fromRight_12b r0 r1  Q k12 x2 x3 M) : pj_R l g mdX8_fromRight pj_T (pj_Zm g mdX8_fromRight (pj_qv Q)) pj_NK 0 0 12 [(0, .ref r0), (1, .ref r1), (2, .int (pj_I x2)), (3, .int (pj_I x3))] [] M := by
  unfold w_X8_fromRight_12b at h
  refine pj_iload_n 13 3 rfl rfl rfl rfl ?_
  refine pj_bipush 15 rfl (by decide) rfl ?_
  obtain ⟨q3, h⟩ := h
  refine pj_icmp_ge 58 18 rfl (by decide) rfl q3 (show pj_in 16 by decide) (fun hc => ?_) (fun hc => ?_)
  · replace h := h.1 hc
    refine pn_sub [0] rfl ?_
    exact s_X8_fromRight_58 hg o0   h
  · replace h := h.2 hc
    refine pj_aload_n 19 1 rfl rfl rfl rfl ?_
    refine pj_iload_n 20 2 rfl rfl rfl rfl ?_
    refine pn_callVi 23 0 [.int (pj_I x2)] [] o1 (s_X0_leastFitting hg o1 h) plX8_31 rfl rfl rfl rfl (Nat.le_of_ble_eq_true rfl) (by decide) (fun t9 M8 h => ?_)
    obtain ⟨q10, h⟩ := h
    refine pj_if_le 58 26 rfl (by decide) rfl q10  (fun hc => ?_) (fun hc => ?_)
    · replace h := h.1 hc
      refine pn_sub [0] rfl ?_
      exact s_X8_fromRight_58 hg o0   h
    · replace h := h.2 hc
      refine pj_aload_n 27 1 rfl rfl rfl rfl ?_
      refine pj_iload_n 28 2 rfl rfl rfl rfl ?_
      refine pn_callVi 31 0 [.int (pj_I x2)] [] o1 (s_X0_leastFitting hg o1 h) plX8_31 rfl rfl rfl rfl (Nat.le_of_ble_eq_true rfl) (by decide) (fun t12 M11 h => ?_)
      refine pj_iconst 32 rfl rfl ?_
      refine pj_isub 33 rfl rfl ?_
      refine pj_istore 35 (ls' := [(0, .ref r0), (1, .ref r1), (2, .int (pj_I x2)), (3, .int (pj_I x3)), (4, .int (pj_I (t12 - 1)))]) rfl (by decide) rfl rfl ?_
      refine pj_aload_n 36 0 rfl rfl rfl rfl ?_
      refine pj_iload 38 4 rfl rfl rfl ?_
      refine pj_aload_n 39 1 rfl rfl rfl rfl ?_
      refine pj_iload 41 4 rfl rfl rfl ?_
      refine pn_callVi 44 0 [.int (pj_I (t12 - 1))] [.int (pj_I (t12 - 1)), .ref r0] o1 (s_X0_greatestFitting hg o1 h) plX8_42 rfl rfl rfl rfl (Nat.le_of_ble_eq_true rfl) (by decide) (fun t14 M13 h => ?_)
      refine pj_iconst 45 rfl rfl ?_
      refine pj_iadd 46 rfl rfl ?_
      refine pn_callVv 49 8 [.int (pj_I (t12 - 1)), .int (pj_I (t14 + 1))] [] o0 (s_X8_add hg o0 h) plX8_35 rfl rfl rfl rfl (Nat.le_of_ble_eq_true rfl) (by decide) (fun M15 h => ?_)
      refine pj_iload 51 4 rfl rfl rfl ?_
      refine pj_istore_n 52 (ls' := [(0, .ref r0), (1, .ref r1), (2, .int (pj_I (t12 - 1))), (3, .int (pj_I x3)), (4, .int (pj_I (t12 - 1)))]) rfl rfl (by decide) rfl rfl ?_
      refine pj_iinc 55 3 (ls' := [(0, .ref r0), (1, .ref r1), (2, .int (pj_I (t12 - 1))), (3, .int (pj_I (x3 + 1))), (4, .int (pj_I (t12 - 1)))]) rfl rfl (by decide) rfl rfl ?_
      refine pj_goto 12 rfl (by decide) ?_
      refine pn_sub [0, 1, 2, 3] rfl ?_
      exact hk12 _ _ _ h
set_option maxRecDepth 20000 in
set_option maxHeartbeats 4000000 in
theorem s_X8_fromRight_12 {l : Launch} {g : pj_G} (hg : pj_ph g = true) {r0 : Nat} {r1 : Nat} {x2 : Int} {x3 : Int} {M : pj_M} {Q : pj_M → Prop}  (o0 : pj_ob r0 8) (o1 : pj_ob r1 0)  (h : w_X8_fromRight_12 r0 r1  Q x2 x3 M) : pj_R l g mdX8_fromRight pj_T (pj_Zm g mdX8_fromRight (pj_qv Q)) pj_NK 0 0 12 [(0, .ref r0), (1, .ref r1), (2, .int (pj_I x2)), (3, .int (pj_I x3))] [] M :=
  h (fun s => pj_R l g mdX8_fromRight pj_T (pj_Zm g mdX8_fromRight (pj_qv Q)) pj_NK 0 0 12 [(0, .ref r0), (1, .ref r1), (2, .int (pj_I (s.1))), (3, .int (pj_I (s.2.1)))] [] s.2.2) (fun s hs => s_X8_fromRight_12b hg o0 o1  (fun _ _ _ q => q) hs)
set_option maxRecDepth 20000 in
set_option maxHeartbeats 4000000 in
theorem s_X8_fromRight {l : Launch} {g : pj_G} (hg : pj_ph g = true) {r0 : Nat} {r1 : Nat} {M : pj_M} {Q : pj_M → Prop} (o0 : pj_ob r0 8) (o1 : pj_ob r1 0) (h : w_X8_fromRight r0 r1 M Q) : pj_S l g mdX8_fromRight [.ref r0, .ref r1] pj_NK M (pj_qv Q) := by
  refine pj_ofR (ls := [(0, .ref r0), (1, .ref r1)]) gcX8_fromRight (by decide) rfl (Nat.le_of_ble_eq_true rfl) rfl ?_
  unfold w_X8_fromRight at h
  refine pj_aload_n 1 0 rfl rfl rfl rfl ?_
  refine pj_iconst 2 rfl rfl ?_
  refine pn_puti 5 8 2 2 o0  rfl pfX8_24 rfl rfl rfl (fun M1 hM1 => ?_)
  replace h := h M1 hM1
  refine pj_aload_n 6 1 rfl rfl rfl rfl ?_
  refine pn_geti 9 0 11 11 o1 rfl pfX8_28 (Or.inl rfl) rfl rfl ?_
  refine pn_nm (fun z2 hz2 => ?_)
  replace h := h z2 hz2
  refine pj_istore_n 10 (ls' := [(0, .ref r0), (1, .ref r1), (2, .int (pj_I z2))]) rfl rfl (by decide) rfl rfl ?_
  refine pj_iconst 11 rfl rfl ?_
  refine pj_istore_n 12 (ls' := [(0, .ref r0), (1, .ref r1), (2, .int (pj_I z2)), (3, .int (pj_I 0))]) rfl rfl (by decide) rfl rfl ?_
  refine pn_sub [0, 1, 2, 3] rfl ?_
  exact s_X8_fromRight_12 hg o0 o1   h
def w_X8_leastOnes_7b (r0 : Nat) (r1 : Nat)  (Q : pj_M → Prop) (k7 : Int → pj_M → Prop) (x2 : Int) (M : pj_M) : Prop :=
  (pj_in x2) ∧ (pj_in (M r1 11)) ∧ (((M r1 11) < x2 → Q M) ∧ (¬ (M r1 11) < x2 → w_X0_leastFitting r1 x2 M (fun (t5 : Int) (M4 : pj_M) => (pj_in (t5 - 1)) ∧ (((t5 - 1) < 0 → k7 (x2 + 1) M4) ∧ (¬ (t5 - 1) < 0 → w_X0_leastFitting r1 (x2 - 1) M4 (fun (t8 : Int) (M7 : pj_M) => (pj_in t8) ∧ (pj_in (t5 - 1)) ∧ (((t5 - 1) < t8 → k7 (x2 + 1) M7) ∧ (¬ (t5 - 1) < t8 → w_X8_add r0 (t5 - 1) x2 M7 (fun (M11 : pj_M) => k7 (x2 + 1) M11)))))))))
def w_X8_leastOnes_7 (r0 : Nat) (r1 : Nat)  (Q : pj_M → Prop) (x2 : Int) (M : pj_M) : Prop := pj_lp (fun (k : Int × pj_M → Prop) (s : Int × pj_M) => w_X8_leastOnes_7b r0 r1  Q (fun (x2 : Int) (M : pj_M) => k (x2, M)) s.1 s.2) (x2, M)
def w_X8_leastOnes (r0 : Nat) (r1 : Nat) (M : pj_M) (Q : pj_M → Prop) : Prop :=
  ∀ M1 : pj_M, M1 = pj_up M r0 2 0 → w_X8_leastOnes_7 r0 r1  Q 1 M1
set_option maxRecDepth 20000 in
set_option maxHeartbeats 4000000 in
theorem s_X8_leastOnes_7b {l : Launch} {g : pj_G} (hg : pj_ph g = true) {r0 : Nat} {r1 : Nat} {x2 : Int} {M : pj_M} {Q : pj_M → Prop}  {k7 : Int → pj_M → Prop} (o0 : pj_ob r0 8) (o1 : pj_ob r1 0)  (hk7 : ∀ (x2 : Int) (M : pj_M), k7 x2 M → pj_R l g mdX8_leastOnes pj_T (pj_Zm g mdX8_leastOnes (pj_qv Q)) pj_NK 0 0 7 [(0, .ref r0), (1, .ref r1), (2, .int (pj_I x2))] [] M) (h : w_X8_leastOnes_7b r0 r1  Q k7 x2 M) : pj_R l g mdX8_leastOnes pj_T (pj_Zm g mdX8_leastOnes (pj_qv Q)) pj_NK 0 0 7 [(0, .ref r0), (1, .ref r1), (2, .int (pj_I x2))] [] M := by
  unfold w_X8_leastOnes_7b at h
  refine pj_iload_n 8 2 rfl rfl rfl rfl ?_
  refine pj_aload_n 9 1 rfl rfl rfl rfl ?_
  refine pn_geti 12 0 11 11 o1 rfl pfX8_28 (Or.inl rfl) rfl rfl ?_
  obtain ⟨q2, h⟩ := h
  obtain ⟨q3, h⟩ := h
  refine pj_icmp_gt 50 15 rfl (by decide) rfl q2 q3 (fun hc => ?_) (fun hc => ?_)
  · replace h := h.1 hc
    exact pn_vret h rfl rfl
  · replace h := h.2 hc
    refine pj_aload_n 16 1 rfl rfl rfl rfl ?_
    refine pj_iload_n 17 2 rfl rfl rfl rfl ?_
    refine pn_callVi 20 0 [.int (pj_I x2)] [] o1 (s_X0_leastFitting hg o1 h) plX8_31 rfl rfl rfl rfl (Nat.le_of_ble_eq_true rfl) (by decide) (fun t5 M4 h => ?_)
    refine pj_iconst 21 rfl rfl ?_
    refine pj_isub 22 rfl rfl ?_
    refine pj_istore_n 23 (ls' := [(0, .ref r0), (1, .ref r1), (2, .int (pj_I x2)), (3, .int (pj_I (t5 - 1)))]) rfl rfl (by decide) rfl rfl ?_
    refine pj_iload_n 24 3 rfl rfl rfl rfl ?_
    obtain ⟨q6, h⟩ := h
    refine pj_if_lt 44 27 rfl (by decide) rfl q6  (fun hc => ?_) (fun hc => ?_)
    · replace h := h.1 hc
      refine pj_iinc 47 2 (ls' := [(0, .ref r0), (1, .ref r1), (2, .int (pj_I (x2 + 1))), (3, .int (pj_I (t5 - 1)))]) rfl rfl (by decide) rfl rfl ?_
      refine pj_goto 7 rfl (by decide) ?_
      refine pn_sub [0, 1, 2] rfl ?_
      exact hk7 _ _ h
    · replace h := h.2 hc
      refine pj_aload_n 28 1 rfl rfl rfl rfl ?_
      refine pj_iload_n 29 2 rfl rfl rfl rfl ?_
      refine pj_iconst 30 rfl rfl ?_
      refine pj_isub 31 rfl rfl ?_
      refine pn_callVi 34 0 [.int (pj_I (x2 - 1))] [] o1 (s_X0_leastFitting hg o1 h) plX8_31 rfl rfl rfl rfl (Nat.le_of_ble_eq_true rfl) (by decide) (fun t8 M7 h => ?_)
      refine pj_iload_n 35 3 rfl rfl rfl rfl ?_
      obtain ⟨q9, h⟩ := h
      obtain ⟨q10, h⟩ := h
      refine pj_icmp_gt 44 38 rfl (by decide) rfl q9 q10 (fun hc => ?_) (fun hc => ?_)
      · replace h := h.1 hc
        refine pj_iinc 47 2 (ls' := [(0, .ref r0), (1, .ref r1), (2, .int (pj_I (x2 + 1))), (3, .int (pj_I (t5 - 1)))]) rfl rfl (by decide) rfl rfl ?_
        refine pj_goto 7 rfl (by decide) ?_
        refine pn_sub [0, 1, 2] rfl ?_
        exact hk7 _ _ h
      · replace h := h.2 hc
        refine pj_aload_n 39 0 rfl rfl rfl rfl ?_
        refine pj_iload_n 40 3 rfl rfl rfl rfl ?_
        refine pj_iload_n 41 2 rfl rfl rfl rfl ?_
        refine pn_callVv 44 8 [.int (pj_I (t5 - 1)), .int (pj_I x2)] [] o0 (s_X8_add hg o0 h) plX8_35 rfl rfl rfl rfl (Nat.le_of_ble_eq_true rfl) (by decide) (fun M11 h => ?_)
        refine pj_iinc 47 2 (ls' := [(0, .ref r0), (1, .ref r1), (2, .int (pj_I (x2 + 1))), (3, .int (pj_I (t5 - 1)))]) rfl rfl (by decide) rfl rfl ?_
        refine pj_goto 7 rfl (by decide) ?_
        refine pn_sub [0, 1, 2] rfl ?_
        exact hk7 _ _ h
set_option maxRecDepth 20000 in
set_option maxHeartbeats 4000000 in
theorem s_X8_leastOnes_7 {l : Launch} {g : pj_G} (hg : pj_ph g = true) {r0 : Nat} {r1 : Nat} {x2 : Int} {M : pj_M} {Q : pj_M → Prop}  (o0 : pj_ob r0 8) (o1 : pj_ob r1 0)  (h : w_X8_leastOnes_7 r0 r1  Q x2 M) : pj_R l g mdX8_leastOnes pj_T (pj_Zm g mdX8_leastOnes (pj_qv Q)) pj_NK 0 0 7 [(0, .ref r0), (1, .ref r1), (2, .int (pj_I x2))] [] M :=
  h (fun s => pj_R l g mdX8_leastOnes pj_T (pj_Zm g mdX8_leastOnes (pj_qv Q)) pj_NK 0 0 7 [(0, .ref r0), (1, .ref r1), (2, .int (pj_I (s.1)))] [] s.2) (fun s hs => s_X8_leastOnes_7b hg o0 o1  (fun _ _ q => q) hs)
set_option maxRecDepth 20000 in
set_option maxHeartbeats 4000000 in
theorem s_X8_leastOnes {l : Launch} {g : pj_G} (hg : pj_ph g = true) {r0 : Nat} {r1 : Nat} {M : pj_M} {Q : pj_M → Prop} (o0 : pj_ob r0 8) (o1 : pj_ob r1 0) (h : w_X8_leastOnes r0 r1 M Q) : pj_S l g mdX8_leastOnes [.ref r0, .ref r1] pj_NK M (pj_qv Q) := by
  refine pj_ofR (ls := [(0, .ref r0), (1, .ref r1)]) gcX8_leastOnes (by decide) rfl (Nat.le_of_ble_eq_true rfl) rfl ?_
  unfold w_X8_leastOnes at h
  refine pj_aload_n 1 0 rfl rfl rfl rfl ?_
  refine pj_iconst 2 rfl rfl ?_
  refine pn_puti 5 8 2 2 o0  rfl pfX8_24 rfl rfl rfl (fun M1 hM1 => ?_)
  replace h := h M1 hM1
  refine pj_iconst 6 rfl rfl ?_
  refine pj_istore_n 7 (ls' := [(0, .ref r0), (1, .ref r1), (2, .int (pj_I 1))]) rfl rfl (by decide) rfl rfl ?_
  refine pn_sub [0, 1, 2] rfl ?_
  exact s_X8_leastOnes_7 hg o0 o1   h
def w_X8_kindOf_2b (r0 : Nat) (x1 : Int)  (Q : Int → pj_M → Prop) (k2 : Int → pj_M → Prop) (x2 : Int) (M : pj_M) : Prop :=
  (pj_in x2) ∧ (pj_in (2 * (M r0 3))) ∧ (((2 * (M r0 3)) ≤ x2 → Q (-1) M) ∧ (¬ (2 * (M r0 3)) ≤ x2 → ((0 : Int) ≤ x2 ∧ x2 < 6) ∧ (pj_in (M (pj_rf r0 2) x2)) ∧ (pj_in x1) ∧ ((¬ (M (pj_rf r0 2) x2) = x1 → k2 (x2 + 1) M) ∧ ((M (pj_rf r0 2) x2) = x1 → Q x2 M))))
def w_X8_kindOf_2 (r0 : Nat) (x1 : Int)  (Q : Int → pj_M → Prop) (x2 : Int) (M : pj_M) : Prop := pj_lp (fun (k : Int × pj_M → Prop) (s : Int × pj_M) => w_X8_kindOf_2b r0 x1  Q (fun (x2 : Int) (M : pj_M) => k (x2, M)) s.1 s.2) (x2, M)
def w_X8_kindOf (r0 : Nat) (x1 : Int) (M : pj_M) (Q : Int → pj_M → Prop) : Prop :=
  w_X8_kindOf_2 r0 x1  Q 0 M
set_option maxRecDepth 20000 in
set_option maxHeartbeats 4000000 in
theorem s_X8_kindOf_2b {l : Launch} {g : pj_G} (hg : pj_ph g = true) {r0 : Nat} {x1 : Int} {x2 : Int} {M : pj_M} {Q : Int → pj_M → Prop}  {k2 : Int → pj_M → Prop} (o0 : pj_ob r0 1)  (hk2 : ∀ (x2 : Int) (M : pj_M), k2 x2 M → pj_R l g mdX8_kindOf pj_T (pj_Zm g mdX8_kindOf (pj_qi Q)) pj_NK 0 0 2 [(0, .ref r0), (1, .int (pj_I x1)), (2, .int (pj_I x2))] [] M) (h : w_X8_kindOf_2b r0 x1  Q k2 x2 M) : pj_R l g mdX8_kindOf pj_T (pj_Zm g mdX8_kindOf (pj_qi Q)) pj_NK 0 0 2 [(0, .ref r0), (1, .int (pj_I x1)), (2, .int (pj_I x2))] [] M := by
  unfold w_X8_kindOf_2b at h
  refine pj_iload_n 3 2 rfl rfl rfl rfl ?_
  refine pj_iconst 4 rfl rfl ?_
  refine pj_aload_n 5 0 rfl rfl rfl rfl ?_
  refine pn_geti 8 1 3 3 o0 rfl pfX8_69 (Or.inl rfl) rfl rfl ?_
  refine pj_imul 9 rfl rfl ?_
  obtain ⟨q1, h⟩ := h
  obtain ⟨q2, h⟩ := h
  refine pj_icmp_ge 30 12 rfl (by decide) rfl q1 q2 (fun hc => ?_) (fun hc => ?_)
  · replace h := h.1 hc
    refine pj_iconst 31 rfl rfl ?_
    exact pn_iret h rfl rfl
  · replace h := h.2 hc
    refine pj_aload_n 13 0 rfl rfl rfl rfl ?_
    refine pn_getr 16 1 2 hg o0 (pr_1_2 o0).2 rfl pfX8_72 rfl rfl ?_
    refine pj_iload_n 17 2 rfl rfl rfl rfl ?_
    obtain ⟨q3, h⟩ := h
    refine pn_iald 18 6 (pr_1_2 o0) q3 rfl rfl ?_
    refine pj_iload_n 19 1 rfl rfl rfl rfl ?_
    obtain ⟨q4, h⟩ := h
    obtain ⟨q5, h⟩ := h
    refine pj_icmp_ne 24 22 rfl (by decide) rfl q4 q5 (fun hc => ?_) (fun hc => ?_)
    · replace h := h.1 hc
      refine pj_iinc 27 2 (ls' := [(0, .ref r0), (1, .int (pj_I x1)), (2, .int (pj_I (x2 + 1)))]) rfl rfl (by decide) rfl rfl ?_
      refine pj_goto 2 rfl (by decide) ?_
      refine pn_sub [0, 1, 2] rfl ?_
      exact hk2 _ _ h
    · replace h := h.2 (Classical.not_not.mp hc)
      refine pj_iload_n 23 2 rfl rfl rfl rfl ?_
      exact pn_iret h rfl rfl
set_option maxRecDepth 20000 in
set_option maxHeartbeats 4000000 in
theorem s_X8_kindOf_2 {l : Launch} {g : pj_G} (hg : pj_ph g = true) {r0 : Nat} {x1 : Int} {x2 : Int} {M : pj_M} {Q : Int → pj_M → Prop}  (o0 : pj_ob r0 1)  (h : w_X8_kindOf_2 r0 x1  Q x2 M) : pj_R l g mdX8_kindOf pj_T (pj_Zm g mdX8_kindOf (pj_qi Q)) pj_NK 0 0 2 [(0, .ref r0), (1, .int (pj_I x1)), (2, .int (pj_I x2))] [] M :=
  h (fun s => pj_R l g mdX8_kindOf pj_T (pj_Zm g mdX8_kindOf (pj_qi Q)) pj_NK 0 0 2 [(0, .ref r0), (1, .int (pj_I x1)), (2, .int (pj_I (s.1)))] [] s.2) (fun s hs => s_X8_kindOf_2b hg o0  (fun _ _ q => q) hs)
set_option maxRecDepth 20000 in
set_option maxHeartbeats 4000000 in
theorem s_X8_kindOf {l : Launch} {g : pj_G} (hg : pj_ph g = true) {r0 : Nat} {x1 : Int} {M : pj_M} {Q : Int → pj_M → Prop} (o0 : pj_ob r0 1) (h : w_X8_kindOf r0 x1 M Q) : pj_S l g mdX8_kindOf [.ref r0, .int (pj_I x1)] pj_NK M (pj_qi Q) := by
  refine pj_ofR (ls := [(0, .ref r0), (1, .int (pj_I x1))]) gcX8_kindOf (by decide) rfl (Nat.le_of_ble_eq_true rfl) rfl ?_
  unfold w_X8_kindOf at h
  refine pj_iconst 1 rfl rfl ?_
  refine pj_istore_n 2 (ls' := [(0, .ref r0), (1, .int (pj_I x1)), (2, .int (pj_I 0))]) rfl rfl (by decide) rfl rfl ?_
  refine pn_sub [0, 1, 2] rfl ?_
  exact s_X8_kindOf_2 hg o0   h
def w_X8_latestOfKind_5b (r0 : Nat) (r1 : Nat) (x2 : Int)  (Q : Int → pj_M → Prop) (k5 : Int → pj_M → Prop) (x4 : Int) (M : pj_M) : Prop :=
  (pj_in x4) ∧ ((x4 < 0 → Q (-1) M) ∧ (¬ x4 < 0 → ((0 : Int) ≤ x4 ∧ x4 < 14) ∧ ((0 : Int) ≤ ((M (pj_rf r0 4) x4) - 1) ∧ ((M (pj_rf r0 4) x4) - 1) < 14) ∧ w_X8_kindOf r1 (M (pj_rf (pj_rf r1 1) 0) ((M (pj_rf r0 4) x4) - 1)) M (fun (t5 : Int) (M4 : pj_M) => (pj_in t5) ∧ (pj_in x2) ∧ ((¬ t5 = x2 → k5 (x4 + (-1)) M4) ∧ (t5 = x2 → Q x4 M4)))))
def w_X8_latestOfKind_5 (r0 : Nat) (r1 : Nat) (x2 : Int)  (Q : Int → pj_M → Prop) (x4 : Int) (M : pj_M) : Prop := pj_lp (fun (k : Int × pj_M → Prop) (s : Int × pj_M) => w_X8_latestOfKind_5b r0 r1 x2  Q (fun (x4 : Int) (M : pj_M) => k (x4, M)) s.1 s.2) (x4, M)
def w_X8_latestOfKind (r0 : Nat) (r1 : Nat) (x2 : Int) (x3 : Int) (M : pj_M) (Q : Int → pj_M → Prop) : Prop :=
  w_X8_latestOfKind_5 r0 r1 x2  Q (x3 - 1) M
set_option maxRecDepth 20000 in
set_option maxHeartbeats 4000000 in
theorem s_X8_latestOfKind_5b {l : Launch} {g : pj_G} (hg : pj_ph g = true) {r0 : Nat} {r1 : Nat} {x2 : Int} {x4 : Int} {M : pj_M} {Q : Int → pj_M → Prop}  {k5 : Int → pj_M → Prop} (o0 : pj_ob r0 8) (o1 : pj_ob r1 1)  (hk5 : ∀ (x4 : Int) (M : pj_M), k5 x4 M → pj_R l g mdX8_latestOfKind pj_T (pj_Zm g mdX8_latestOfKind (pj_qi Q)) pj_NK 0 0 5 [(0, .ref r0), (1, .ref r1), (2, .int (pj_I x2)), (4, .int (pj_I x4))] [] M) (h : w_X8_latestOfKind_5b r0 r1 x2  Q k5 x4 M) : pj_R l g mdX8_latestOfKind pj_T (pj_Zm g mdX8_latestOfKind (pj_qi Q)) pj_NK 0 0 5 [(0, .ref r0), (1, .ref r1), (2, .int (pj_I x2)), (4, .int (pj_I x4))] [] M := by
  unfold w_X8_latestOfKind_5b at h
  refine pj_iload 7 3 rfl rfl rfl ?_
  obtain ⟨q1, h⟩ := h
  refine pj_if_lt 44 10 rfl (by decide) rfl q1  (fun hc => ?_) (fun hc => ?_)
  · replace h := h.1 hc
    refine pj_iconst 45 rfl rfl ?_
    exact pn_iret h rfl rfl
  · replace h := h.2 hc
    refine pj_aload_n 11 1 rfl rfl rfl rfl ?_
    refine pj_aload_n 12 1 rfl rfl rfl rfl ?_
    refine pn_getr 15 1 1 hg o1 (pr_1_1 o1).2 rfl pfX8_49 rfl rfl ?_
    refine pn_getr 18 7 0 hg (pr_1_1 o1) (pr_7_0 (pr_1_1 o1)).2 rfl pfX8_58 rfl rfl ?_
    refine pj_aload_n 19 0 rfl rfl rfl rfl ?_
    refine pn_getr 22 8 4 hg o0 (pr_8_4 o0).2 rfl pfX8_21 rfl rfl ?_
    refine pj_iload 24 3 rfl rfl rfl ?_
    obtain ⟨q2, h⟩ := h
    refine pn_iald 25 14 (pr_8_4 o0) q2 rfl rfl ?_
    refine pj_iconst 26 rfl rfl ?_
    refine pj_isub 27 rfl rfl ?_
    obtain ⟨q3, h⟩ := h
    refine pn_iald 28 14 (pr_7_0 (pr_1_1 o1)) q3 rfl rfl ?_
    refine pn_callSi 31 [.ref r1, .int (pj_I (M (pj_rf (pj_rf r1 1) 0) ((M (pj_rf r0 4) x4) - 1)))] [] (s_X8_kindOf hg o1 h) plX8_61 rfl rfl rfl rfl (Nat.le_of_ble_eq_true rfl) (by decide) (fun t5 M4 h => ?_)
    refine pj_iload_n 32 2 rfl rfl rfl rfl ?_
    obtain ⟨q6, h⟩ := h
    obtain ⟨q7, h⟩ := h
    refine pj_icmp_ne 38 35 rfl (by decide) rfl q6 q7 (fun hc => ?_) (fun hc => ?_)
    · replace h := h.1 hc
      refine pj_iinc 41 3 (ls' := [(0, .ref r0), (1, .ref r1), (2, .int (pj_I x2)), (4, .int (pj_I (x4 + (-1))))]) rfl rfl (by decide) rfl rfl ?_
      refine pj_goto 5 rfl (by decide) ?_
      refine pn_sub [0, 1, 2, 3] rfl ?_
      exact hk5 _ _ h
    · replace h := h.2 (Classical.not_not.mp hc)
      refine pj_iload 37 3 rfl rfl rfl ?_
      exact pn_iret h rfl rfl
set_option maxRecDepth 20000 in
set_option maxHeartbeats 4000000 in
theorem s_X8_latestOfKind_5 {l : Launch} {g : pj_G} (hg : pj_ph g = true) {r0 : Nat} {r1 : Nat} {x2 : Int} {x4 : Int} {M : pj_M} {Q : Int → pj_M → Prop}  (o0 : pj_ob r0 8) (o1 : pj_ob r1 1)  (h : w_X8_latestOfKind_5 r0 r1 x2  Q x4 M) : pj_R l g mdX8_latestOfKind pj_T (pj_Zm g mdX8_latestOfKind (pj_qi Q)) pj_NK 0 0 5 [(0, .ref r0), (1, .ref r1), (2, .int (pj_I x2)), (4, .int (pj_I x4))] [] M :=
  h (fun s => pj_R l g mdX8_latestOfKind pj_T (pj_Zm g mdX8_latestOfKind (pj_qi Q)) pj_NK 0 0 5 [(0, .ref r0), (1, .ref r1), (2, .int (pj_I x2)), (4, .int (pj_I (s.1)))] [] s.2) (fun s hs => s_X8_latestOfKind_5b hg o0 o1  (fun _ _ q => q) hs)
set_option maxRecDepth 20000 in
set_option maxHeartbeats 4000000 in
theorem s_X8_latestOfKind {l : Launch} {g : pj_G} (hg : pj_ph g = true) {r0 : Nat} {r1 : Nat} {x2 : Int} {x3 : Int} {M : pj_M} {Q : Int → pj_M → Prop} (o0 : pj_ob r0 8) (o1 : pj_ob r1 1) (h : w_X8_latestOfKind r0 r1 x2 x3 M Q) : pj_S l g mdX8_latestOfKind [.ref r0, .ref r1, .int (pj_I x2), .int (pj_I x3)] pj_NK M (pj_qi Q) := by
  refine pj_ofR (ls := [(0, .ref r0), (1, .ref r1), (2, .int (pj_I x2)), (3, .int (pj_I x3))]) gcX8_latestOfKind (by decide) rfl (Nat.le_of_ble_eq_true rfl) rfl ?_
  unfold w_X8_latestOfKind at h
  refine pj_iload_n 1 3 rfl rfl rfl rfl ?_
  refine pj_iconst 2 rfl rfl ?_
  refine pj_isub 3 rfl rfl ?_
  refine pj_istore 5 (ls' := [(0, .ref r0), (1, .ref r1), (2, .int (pj_I x2)), (3, .int (pj_I x3)), (4, .int (pj_I (x3 - 1)))]) rfl (by decide) rfl rfl ?_
  refine pn_sub [0, 1, 2, 4] rfl ?_
  exact s_X8_latestOfKind_5 hg o0 o1   h
def w_X8_findMates_25b (r0 : Nat) (r1 : Nat)  (Q : pj_M → Prop) (k25 : Int → Int → pj_M → Prop) (x2 : Int) (x3 : Int) (M : pj_M) : Prop :=
  (pj_in x3) ∧ (pj_in (M (pj_rf r1 1) 1)) ∧ (((M (pj_rf r1 1) 1) < x3 → Q M) ∧ (¬ (M (pj_rf r1 1) 1) < x3 → ((0 : Int) ≤ (x3 - 1) ∧ (x3 - 1) < 14) ∧ w_X8_kindOf r1 (M (pj_rf (pj_rf r1 1) 0) (x3 - 1)) M (fun (t6 : Int) (M5 : pj_M) => (pj_in t6) ∧ ((¬ t6 = (-1) → (pj_in (pj_rem t6 2)) ∧ ((¬ (pj_rem t6 2) = 0 → w_X8_latestOfKind r0 r1 (t6 - 1) x2 M5 (fun (t10 : Int) (M9 : pj_M) => (pj_in t10) ∧ ((t10 = (-1) → k25 x2 (x3 + 1) M9) ∧ (¬ t10 = (-1) → ((0 : Int) ≤ t10 ∧ t10 < 14) ∧ ((0 : Int) ≤ x3 ∧ x3 < 16) ∧ ∀ M14 : pj_M, M14 = pj_up M9 (pj_rf r0 3) x3 (M9 (pj_rf r0 4) t10) → ((0 : Int) ≤ t10 ∧ t10 < 14) ∧ ((0 : Int) ≤ (M14 (pj_rf r0 4) t10) ∧ (M14 (pj_rf r0 4) t10) < 16) ∧ ∀ M17 : pj_M, M17 = pj_up M14 (pj_rf r0 3) (M14 (pj_rf r0 4) t10) x3 → k25 t10 (x3 + 1) M17)))) ∧ ((pj_rem t6 2) = 0 → ((0 : Int) ≤ x2 ∧ x2 < 14) ∧ ∀ M19 : pj_M, M19 = pj_up M5 (pj_rf r0 4) x2 x3 → k25 (x2 + 1) (x3 + 1) M19))) ∧ (t6 = (-1) → k25 x2 (x3 + 1) M5)))))
def w_X8_findMates_25 (r0 : Nat) (r1 : Nat)  (Q : pj_M → Prop) (x2 : Int) (x3 : Int) (M : pj_M) : Prop := pj_lp (fun (k : Int × Int × pj_M → Prop) (s : Int × Int × pj_M) => w_X8_findMates_25b r0 r1  Q (fun (x2 : Int) (x3 : Int) (M : pj_M) => k (x2, x3, M)) s.1 s.2.1 s.2.2) (x2, x3, M)
def w_X8_findMates_2b (r0 : Nat) (r1 : Nat)  (Q : pj_M → Prop) (k2 : Int → pj_M → Prop) (x2 : Int) (M : pj_M) : Prop :=
  (pj_in x2) ∧ ((16 ≤ x2 → w_X8_findMates_25 r0 r1  Q 0 1 M) ∧ (¬ 16 ≤ x2 → ((0 : Int) ≤ x2 ∧ x2 < 16) ∧ ∀ M21 : pj_M, M21 = pj_up M (pj_rf r0 3) x2 0 → k2 (x2 + 1) M21))
def w_X8_findMates_2 (r0 : Nat) (r1 : Nat)  (Q : pj_M → Prop) (x2 : Int) (M : pj_M) : Prop := pj_lp (fun (k : Int × pj_M → Prop) (s : Int × pj_M) => w_X8_findMates_2b r0 r1  Q (fun (x2 : Int) (M : pj_M) => k (x2, M)) s.1 s.2) (x2, M)
def w_X8_findMates (r0 : Nat) (r1 : Nat) (M : pj_M) (Q : pj_M → Prop) : Prop :=
  w_X8_findMates_2 r0 r1  Q 0 M
set_option maxRecDepth 20000 in
set_option maxHeartbeats 4000000 in
theorem s_X8_findMates_25b {l : Launch} {g : pj_G} (hg : pj_ph g = true) {r0 : Nat} {r1 : Nat} {x2 : Int} {x3 : Int} {M : pj_M} {Q : pj_M → Prop}  {k25 : Int → Int → pj_M → Prop} (o0 : pj_ob r0 8) (o1 : pj_ob r1 1)  (hk25 : ∀ (x2 : Int) (x3 : Int) (M : pj_M), k25 x2 x3 M → pj_R l g mdX8_findMates pj_T (pj_Zm g mdX8_findMates (pj_qv Q)) pj_NK 0 0 25 [(0, .ref r0), (1, .ref r1), (2, .int (pj_I x2)), (3, .int (pj_I x3))] [] M) (h : w_X8_findMates_25b r0 r1  Q k25 x2 x3 M) : pj_R l g mdX8_findMates pj_T (pj_Zm g mdX8_findMates (pj_qv Q)) pj_NK 0 0 25 [(0, .ref r0), (1, .ref r1), (2, .int (pj_I x2)), (3, .int (pj_I x3))] [] M := by
  unfold w_X8_findMates_25b at h
  refine pj_iload_n 26 3 rfl rfl rfl rfl ?_
  refine pj_aload_n 27 1 rfl rfl rfl rfl ?_
  refine pn_getr 30 1 1 hg o1 (pr_1_1 o1).2 rfl pfX8_49 rfl rfl ?_
  refine pn_geti 33 7 1 1 (pr_1_1 o1) rfl pfX8_55 (Or.inl rfl) rfl rfl ?_
  obtain ⟨q2, h⟩ := h
  obtain ⟨q3, h⟩ := h
  refine pj_icmp_gt 135 36 rfl (by decide) rfl q2 q3 (fun hc => ?_) (fun hc => ?_)
  · replace h := h.1 hc
    exact pn_vret h rfl rfl
  · replace h := h.2 hc
    refine pj_aload_n 37 1 rfl rfl rfl rfl ?_
    refine pj_aload_n 38 1 rfl rfl rfl rfl ?_
    refine pn_getr 41 1 1 hg o1 (pr_1_1 o1).2 rfl pfX8_49 rfl rfl ?_
    refine pn_getr 44 7 0 hg (pr_1_1 o1) (pr_7_0 (pr_1_1 o1)).2 rfl pfX8_58 rfl rfl ?_
    refine pj_iload_n 45 3 rfl rfl rfl rfl ?_
    refine pj_iconst 46 rfl rfl ?_
    refine pj_isub 47 rfl rfl ?_
    obtain ⟨q4, h⟩ := h
    refine pn_iald 48 14 (pr_7_0 (pr_1_1 o1)) q4 rfl rfl ?_
    refine pn_callSi 51 [.ref r1, .int (pj_I (M (pj_rf (pj_rf r1 1) 0) (x3 - 1)))] [] (s_X8_kindOf hg o1 h) plX8_61 rfl rfl rfl rfl (Nat.le_of_ble_eq_true rfl) (by decide) (fun t6 M5 h => ?_)
    refine pj_istore 53 (ls' := [(0, .ref r0), (1, .ref r1), (2, .int (pj_I x2)), (3, .int (pj_I x3)), (4, .int (pj_I t6))]) rfl (by decide) rfl rfl ?_
    refine pj_iload 55 4 rfl rfl rfl ?_
    refine pj_iconst 56 rfl rfl ?_
    obtain ⟨q7, h⟩ := h
    refine pj_icmp_ne 62 59 rfl (by decide) rfl q7 (show pj_in (-1) by decide) (fun hc => ?_) (fun hc => ?_)
    · replace h := h.1 hc
      refine pj_iload 64 4 rfl rfl rfl ?_
      refine pj_iconst 65 rfl rfl ?_
      refine pj_irem 66 rfl rfl (show pj_in 2 by decide) (by decide) ?_
      obtain ⟨q8, h⟩ := h
      refine pj_if_ne 82 69 rfl (by decide) rfl q8  (fun hc => ?_) (fun hc => ?_)
      · replace h := h.1 hc
        refine pj_aload_n 83 0 rfl rfl rfl rfl ?_
        refine pj_aload_n 84 1 rfl rfl rfl rfl ?_
        refine pj_iload 86 4 rfl rfl rfl ?_
        refine pj_iconst 87 rfl rfl ?_
        refine pj_isub 88 rfl rfl ?_
        refine pj_iload_n 89 2 rfl rfl rfl rfl ?_
        refine pn_callVi 92 8 [.ref r1, .int (pj_I (t6 - 1)), .int (pj_I x2)] [] o0 (s_X8_latestOfKind hg o0 o1 h) plX8_65 rfl rfl rfl rfl (Nat.le_of_ble_eq_true rfl) (by decide) (fun t10 M9 h => ?_)
        refine pj_istore 94 (ls' := [(0, .ref r0), (1, .ref r1), (2, .int (pj_I x2)), (3, .int (pj_I x3)), (4, .int (pj_I t6)), (5, .int (pj_I t10))]) rfl (by decide) rfl rfl ?_
        refine pj_iload 96 5 rfl rfl rfl ?_
        refine pj_iconst 97 rfl rfl ?_
        obtain ⟨q11, h⟩ := h
        refine pj_icmp_eq 129 100 rfl (by decide) rfl q11 (show pj_in (-1) by decide) (fun hc => ?_) (fun hc => ?_)
        · replace h := h.1 hc
          refine pj_iinc 132 3 (ls' := [(0, .ref r0), (1, .ref r1), (2, .int (pj_I x2)), (3, .int (pj_I (x3 + 1))), (4, .int (pj_I t6)), (5, .int (pj_I t10))]) rfl rfl (by decide) rfl rfl ?_
          refine pj_goto 25 rfl (by decide) ?_
          refine pn_sub [0, 1, 2, 3] rfl ?_
          exact hk25 _ _ _ h
        · replace h := h.2 hc
          refine pj_aload_n 101 0 rfl rfl rfl rfl ?_
          refine pn_getr 104 8 3 hg o0 (pr_8_3 o0).2 rfl pfX8_18 rfl rfl ?_
          refine pj_iload_n 105 3 rfl rfl rfl rfl ?_
          refine pj_aload_n 106 0 rfl rfl rfl rfl ?_
          refine pn_getr 109 8 4 hg o0 (pr_8_4 o0).2 rfl pfX8_21 rfl rfl ?_
          refine pj_iload 111 5 rfl rfl rfl ?_
          obtain ⟨q12, h⟩ := h
          refine pn_iald 112 14 (pr_8_4 o0) q12 rfl rfl ?_
          obtain ⟨q13, h⟩ := h
          refine pn_iast 113 16 (pr_8_3 o0)  q13 rfl rfl (fun M14 hM14 => ?_)
          replace h := h M14 hM14
          refine pj_aload_n 114 0 rfl rfl rfl rfl ?_
          refine pn_getr 117 8 3 hg o0 (pr_8_3 o0).2 rfl pfX8_18 rfl rfl ?_
          refine pj_aload_n 118 0 rfl rfl rfl rfl ?_
          refine pn_getr 121 8 4 hg o0 (pr_8_4 o0).2 rfl pfX8_21 rfl rfl ?_
          refine pj_iload 123 5 rfl rfl rfl ?_
          obtain ⟨q15, h⟩ := h
          refine pn_iald 124 14 (pr_8_4 o0) q15 rfl rfl ?_
          refine pj_iload_n 125 3 rfl rfl rfl rfl ?_
          obtain ⟨q16, h⟩ := h
          refine pn_iast 126 16 (pr_8_3 o0)  q16 rfl rfl (fun M17 hM17 => ?_)
          replace h := h M17 hM17
          refine pj_iload 128 5 rfl rfl rfl ?_
          refine pj_istore_n 129 (ls' := [(0, .ref r0), (1, .ref r1), (2, .int (pj_I t10)), (3, .int (pj_I x3)), (4, .int (pj_I t6)), (5, .int (pj_I t10))]) rfl rfl (by decide) rfl rfl ?_
          refine pj_iinc 132 3 (ls' := [(0, .ref r0), (1, .ref r1), (2, .int (pj_I t10)), (3, .int (pj_I (x3 + 1))), (4, .int (pj_I t6)), (5, .int (pj_I t10))]) rfl rfl (by decide) rfl rfl ?_
          refine pj_goto 25 rfl (by decide) ?_
          refine pn_sub [0, 1, 2, 3] rfl ?_
          exact hk25 _ _ _ h
      · replace h := h.2 (Classical.not_not.mp hc)
        refine pj_aload_n 70 0 rfl rfl rfl rfl ?_
        refine pn_getr 73 8 4 hg o0 (pr_8_4 o0).2 rfl pfX8_21 rfl rfl ?_
        refine pj_iload_n 74 2 rfl rfl rfl rfl ?_
        refine pj_iload_n 75 3 rfl rfl rfl rfl ?_
        obtain ⟨q18, h⟩ := h
        refine pn_iast 76 14 (pr_8_4 o0)  q18 rfl rfl (fun M19 hM19 => ?_)
        replace h := h M19 hM19
        refine pj_iinc 79 2 (ls' := [(0, .ref r0), (1, .ref r1), (2, .int (pj_I (x2 + 1))), (3, .int (pj_I x3)), (4, .int (pj_I t6))]) rfl rfl (by decide) rfl rfl ?_
        refine pj_goto 129 rfl (by decide) ?_
        refine pj_iinc 132 3 (ls' := [(0, .ref r0), (1, .ref r1), (2, .int (pj_I (x2 + 1))), (3, .int (pj_I (x3 + 1))), (4, .int (pj_I t6))]) rfl rfl (by decide) rfl rfl ?_
        refine pj_goto 25 rfl (by decide) ?_
        refine pn_sub [0, 1, 2, 3] rfl ?_
        exact hk25 _ _ _ h
    · replace h := h.2 (Classical.not_not.mp hc)
      refine pj_goto 129 rfl (by decide) ?_
      refine pj_iinc 132 3 (ls' := [(0, .ref r0), (1, .ref r1), (2, .int (pj_I x2)), (3, .int (pj_I (x3 + 1))), (4, .int (pj_I t6))]) rfl rfl (by decide) rfl rfl ?_
      refine pj_goto 25 rfl (by decide) ?_
      refine pn_sub [0, 1, 2, 3] rfl ?_
      exact hk25 _ _ _ h
set_option maxRecDepth 20000 in
set_option maxHeartbeats 4000000 in
theorem s_X8_findMates_25 {l : Launch} {g : pj_G} (hg : pj_ph g = true) {r0 : Nat} {r1 : Nat} {x2 : Int} {x3 : Int} {M : pj_M} {Q : pj_M → Prop}  (o0 : pj_ob r0 8) (o1 : pj_ob r1 1)  (h : w_X8_findMates_25 r0 r1  Q x2 x3 M) : pj_R l g mdX8_findMates pj_T (pj_Zm g mdX8_findMates (pj_qv Q)) pj_NK 0 0 25 [(0, .ref r0), (1, .ref r1), (2, .int (pj_I x2)), (3, .int (pj_I x3))] [] M :=
  h (fun s => pj_R l g mdX8_findMates pj_T (pj_Zm g mdX8_findMates (pj_qv Q)) pj_NK 0 0 25 [(0, .ref r0), (1, .ref r1), (2, .int (pj_I (s.1))), (3, .int (pj_I (s.2.1)))] [] s.2.2) (fun s hs => s_X8_findMates_25b hg o0 o1  (fun _ _ _ q => q) hs)
set_option maxRecDepth 20000 in
set_option maxHeartbeats 4000000 in
theorem s_X8_findMates_2b {l : Launch} {g : pj_G} (hg : pj_ph g = true) {r0 : Nat} {r1 : Nat} {x2 : Int} {M : pj_M} {Q : pj_M → Prop}  {k2 : Int → pj_M → Prop} (o0 : pj_ob r0 8) (o1 : pj_ob r1 1)  (hk2 : ∀ (x2 : Int) (M : pj_M), k2 x2 M → pj_R l g mdX8_findMates pj_T (pj_Zm g mdX8_findMates (pj_qv Q)) pj_NK 0 0 2 [(0, .ref r0), (1, .ref r1), (2, .int (pj_I x2))] [] M) (h : w_X8_findMates_2b r0 r1  Q k2 x2 M) : pj_R l g mdX8_findMates pj_T (pj_Zm g mdX8_findMates (pj_qv Q)) pj_NK 0 0 2 [(0, .ref r0), (1, .ref r1), (2, .int (pj_I x2))] [] M := by
  unfold w_X8_findMates_2b at h
  refine pj_iload_n 3 2 rfl rfl rfl rfl ?_
  refine pj_bipush 5 rfl (by decide) rfl ?_
  obtain ⟨q1, h⟩ := h
  refine pj_icmp_ge 21 8 rfl (by decide) rfl q1 (show pj_in 16 by decide) (fun hc => ?_) (fun hc => ?_)
  · replace h := h.1 hc
    refine pj_iconst 22 rfl rfl ?_
    refine pj_istore_n 23 (ls' := [(0, .ref r0), (1, .ref r1), (2, .int (pj_I 0))]) rfl rfl (by decide) rfl rfl ?_
    refine pj_iconst 24 rfl rfl ?_
    refine pj_istore_n 25 (ls' := [(0, .ref r0), (1, .ref r1), (2, .int (pj_I 0)), (3, .int (pj_I 1))]) rfl rfl (by decide) rfl rfl ?_
    refine pn_sub [0, 1, 2, 3] rfl ?_
    exact s_X8_findMates_25 hg o0 o1   h
  · replace h := h.2 hc
    refine pj_aload_n 9 0 rfl rfl rfl rfl ?_
    refine pn_getr 12 8 3 hg o0 (pr_8_3 o0).2 rfl pfX8_18 rfl rfl ?_
    refine pj_iload_n 13 2 rfl rfl rfl rfl ?_
    refine pj_iconst 14 rfl rfl ?_
    obtain ⟨q20, h⟩ := h
    refine pn_iast 15 16 (pr_8_3 o0)  q20 rfl rfl (fun M21 hM21 => ?_)
    replace h := h M21 hM21
    refine pj_iinc 18 2 (ls' := [(0, .ref r0), (1, .ref r1), (2, .int (pj_I (x2 + 1)))]) rfl rfl (by decide) rfl rfl ?_
    refine pj_goto 2 rfl (by decide) ?_
    refine pn_sub [0, 1, 2] rfl ?_
    exact hk2 _ _ h
set_option maxRecDepth 20000 in
set_option maxHeartbeats 4000000 in
theorem s_X8_findMates_2 {l : Launch} {g : pj_G} (hg : pj_ph g = true) {r0 : Nat} {r1 : Nat} {x2 : Int} {M : pj_M} {Q : pj_M → Prop}  (o0 : pj_ob r0 8) (o1 : pj_ob r1 1)  (h : w_X8_findMates_2 r0 r1  Q x2 M) : pj_R l g mdX8_findMates pj_T (pj_Zm g mdX8_findMates (pj_qv Q)) pj_NK 0 0 2 [(0, .ref r0), (1, .ref r1), (2, .int (pj_I x2))] [] M :=
  h (fun s => pj_R l g mdX8_findMates pj_T (pj_Zm g mdX8_findMates (pj_qv Q)) pj_NK 0 0 2 [(0, .ref r0), (1, .ref r1), (2, .int (pj_I (s.1)))] [] s.2) (fun s hs => s_X8_findMates_2b hg o0 o1  (fun _ _ q => q) hs)
set_option maxRecDepth 20000 in
set_option maxHeartbeats 4000000 in
theorem s_X8_findMates {l : Launch} {g : pj_G} (hg : pj_ph g = true) {r0 : Nat} {r1 : Nat} {M : pj_M} {Q : pj_M → Prop} (o0 : pj_ob r0 8) (o1 : pj_ob r1 1) (h : w_X8_findMates r0 r1 M Q) : pj_S l g mdX8_findMates [.ref r0, .ref r1] pj_NK M (pj_qv Q) := by
  refine pj_ofR (ls := [(0, .ref r0), (1, .ref r1)]) gcX8_findMates (by decide) rfl (Nat.le_of_ble_eq_true rfl) rfl ?_
  unfold w_X8_findMates at h
  refine pj_iconst 1 rfl rfl ?_
  refine pj_istore_n 2 (ls' := [(0, .ref r0), (1, .ref r1), (2, .int (pj_I 0))]) rfl rfl (by decide) rfl rfl ?_
  refine pn_sub [0, 1, 2] rfl ?_
  exact s_X8_findMates_2 hg o0 o1   h
def w_X9_add_16b (r0 : Nat) (x1 : Int)  (Q : Int → pj_M → Prop) (k16 : Int → pj_M → Prop) (x2 : Int) (M : pj_M) : Prop :=
  (pj_in x2) ∧ ((x2 < 0 → Q 1 M) ∧ (¬ x2 < 0 → ((0 : Int) ≤ (M r0 1) ∧ (M r0 1) < 80) ∧ ∀ M4 : pj_M, M4 = pj_up M (pj_rf r0 0) (M r0 1) (pj_and (pj_ushr x1 x2) 255) → ∀ M5 : pj_M, M5 = pj_up M4 r0 1 ((M4 r0 1) + 1) → k16 (x2 + (-8)) M5))
def w_X9_add_16 (r0 : Nat) (x1 : Int)  (Q : Int → pj_M → Prop) (x2 : Int) (M : pj_M) : Prop := pj_lp (fun (k : Int × pj_M → Prop) (s : Int × pj_M) => w_X9_add_16b r0 x1  Q (fun (x2 : Int) (M : pj_M) => k (x2, M)) s.1 s.2) (x2, M)
def w_X9_add (r0 : Nat) (x1 : Int) (M : pj_M) (Q : Int → pj_M → Prop) : Prop :=
  (pj_in ((M r0 1) + 4)) ∧ ((((M r0 1) + 4) ≤ 80 → w_X9_add_16 r0 x1  Q 24 M) ∧ (¬ ((M r0 1) + 4) ≤ 80 → Q 0 M))
set_option maxRecDepth 20000 in
set_option maxHeartbeats 4000000 in
theorem s_X9_add_16b {l : Launch} {g : pj_G} (hg : pj_ph g = true) {r0 : Nat} {x1 : Int} {x2 : Int} {M : pj_M} {Q : Int → pj_M → Prop}  {k16 : Int → pj_M → Prop} (o0 : pj_ob r0 9)  (hk16 : ∀ (x2 : Int) (M : pj_M), k16 x2 M → pj_R l g mdX9_add pj_T (pj_Zm g mdX9_add (pj_qi Q)) pj_NK 0 0 16 [(0, .ref r0), (1, .int (pj_I x1)), (2, .int (pj_I x2))] [] M) (h : w_X9_add_16b r0 x1  Q k16 x2 M) : pj_R l g mdX9_add pj_T (pj_Zm g mdX9_add (pj_qi Q)) pj_NK 0 0 16 [(0, .ref r0), (1, .int (pj_I x1)), (2, .int (pj_I x2))] [] M := by
  unfold w_X9_add_16b at h
  refine pj_iload_n 17 2 rfl rfl rfl rfl ?_
  obtain ⟨q2, h⟩ := h
  refine pj_if_lt 52 20 rfl (by decide) rfl q2  (fun hc => ?_) (fun hc => ?_)
  · replace h := h.1 hc
    refine pj_iconst 53 rfl rfl ?_
    exact pn_zret (by decide) h rfl rfl
  · replace h := h.2 hc
    refine pj_aload_n 21 0 rfl rfl rfl rfl ?_
    refine pn_getr 24 9 0 hg o0 (pr_9_0 o0).2 rfl pfX9_9 rfl rfl ?_
    refine pj_aload_n 25 0 rfl rfl rfl rfl ?_
    refine pn_geti 28 9 1 1 o0 rfl pfX9_15 (Or.inl rfl) rfl rfl ?_
    refine pj_iload_n 29 1 rfl rfl rfl rfl ?_
    refine pj_iload_n 30 2 rfl rfl rfl rfl ?_
    refine pj_iushr 31 rfl rfl ?_
    refine pj_sipush 34 rfl (by decide) rfl ?_
    refine pj_iand 35 rfl rfl ?_
    obtain ⟨q3, h⟩ := h
    refine pn_iast 36 80 (pr_9_0 o0)  q3 rfl rfl (fun M4 hM4 => ?_)
    replace h := h M4 hM4
    refine pj_aload_n 37 0 rfl rfl rfl rfl ?_
    refine pj_dup 38 rfl rfl rfl ?_
    refine pn_geti 41 9 1 1 o0 rfl pfX9_15 (Or.inl rfl) rfl rfl ?_
    refine pj_iconst 42 rfl rfl ?_
    refine pj_iadd 43 rfl rfl ?_
    refine pn_puti 46 9 1 1 o0  rfl pfX9_15 rfl rfl rfl (fun M5 hM5 => ?_)
    replace h := h M5 hM5
    refine pj_iinc 49 2 (ls' := [(0, .ref r0), (1, .int (pj_I x1)), (2, .int (pj_I (x2 + (-8))))]) rfl rfl (by decide) rfl rfl ?_
    refine pj_goto 16 rfl (by decide) ?_
    refine pn_sub [0, 1, 2] rfl ?_
    exact hk16 _ _ h
set_option maxRecDepth 20000 in
set_option maxHeartbeats 4000000 in
theorem s_X9_add_16 {l : Launch} {g : pj_G} (hg : pj_ph g = true) {r0 : Nat} {x1 : Int} {x2 : Int} {M : pj_M} {Q : Int → pj_M → Prop}  (o0 : pj_ob r0 9)  (h : w_X9_add_16 r0 x1  Q x2 M) : pj_R l g mdX9_add pj_T (pj_Zm g mdX9_add (pj_qi Q)) pj_NK 0 0 16 [(0, .ref r0), (1, .int (pj_I x1)), (2, .int (pj_I x2))] [] M :=
  h (fun s => pj_R l g mdX9_add pj_T (pj_Zm g mdX9_add (pj_qi Q)) pj_NK 0 0 16 [(0, .ref r0), (1, .int (pj_I x1)), (2, .int (pj_I (s.1)))] [] s.2) (fun s hs => s_X9_add_16b hg o0  (fun _ _ q => q) hs)
set_option maxRecDepth 20000 in
set_option maxHeartbeats 4000000 in
theorem s_X9_add {l : Launch} {g : pj_G} (hg : pj_ph g = true) {r0 : Nat} {x1 : Int} {M : pj_M} {Q : Int → pj_M → Prop} (o0 : pj_ob r0 9) (h : w_X9_add r0 x1 M Q) : pj_S l g mdX9_add [.ref r0, .int (pj_I x1)] pj_NK M (pj_qi Q) := by
  refine pj_ofR (ls := [(0, .ref r0), (1, .int (pj_I x1))]) gcX9_add (by decide) rfl (Nat.le_of_ble_eq_true rfl) rfl ?_
  unfold w_X9_add at h
  refine pj_aload_n 1 0 rfl rfl rfl rfl ?_
  refine pn_geti 4 9 1 1 o0 rfl pfX9_15 (Or.inl rfl) rfl rfl ?_
  refine pj_iconst 5 rfl rfl ?_
  refine pj_iadd 6 rfl rfl ?_
  refine pj_bipush 8 rfl (by decide) rfl ?_
  obtain ⟨q1, h⟩ := h
  refine pj_icmp_le 13 11 rfl (by decide) rfl q1 (show pj_in 80 by decide) (fun hc => ?_) (fun hc => ?_)
  · replace h := h.1 hc
    refine pj_bipush 15 rfl (by decide) rfl ?_
    refine pj_istore_n 16 (ls' := [(0, .ref r0), (1, .int (pj_I x1)), (2, .int (pj_I 24))]) rfl rfl (by decide) rfl rfl ?_
    refine pn_sub [0, 1, 2] rfl ?_
    exact s_X9_add_16 hg o0   h
  · replace h := h.2 hc
    refine pj_iconst 12 rfl rfl ?_
    exact pn_zret (by decide) h rfl rfl
def w_X9_shorten (r0 : Nat) (x1 : Int) (M : pj_M) (Q : Int → pj_M → Prop) : Prop :=
  (pj_in x1) ∧ ((x1 < 0 → Q 0 M) ∧ (¬ x1 < 0 → (pj_in x1) ∧ (pj_in (M r0 1)) ∧ ((x1 ≤ (M r0 1) → ∀ M4 : pj_M, M4 = pj_up M r0 1 x1 → Q 1 M4) ∧ (¬ x1 ≤ (M r0 1) → Q 0 M))))
set_option maxRecDepth 20000 in
set_option maxHeartbeats 4000000 in
theorem s_X9_shorten {l : Launch} {g : pj_G} (hg : pj_ph g = true) {r0 : Nat} {x1 : Int} {M : pj_M} {Q : Int → pj_M → Prop} (o0 : pj_ob r0 9) (h : w_X9_shorten r0 x1 M Q) : pj_S l g mdX9_shorten [.ref r0, .int (pj_I x1)] pj_NK M (pj_qi Q) := by
  refine pj_ofR (ls := [(0, .ref r0), (1, .int (pj_I x1))]) gcX9_shorten (by decide) rfl (Nat.le_of_ble_eq_true rfl) rfl ?_
  unfold w_X9_shorten at h
  refine pj_iload_n 1 1 rfl rfl rfl rfl ?_
  obtain ⟨q1, h⟩ := h
  refine pj_if_lt 12 4 rfl (by decide) rfl q1  (fun hc => ?_) (fun hc => ?_)
  · replace h := h.1 hc
    refine pj_iconst 13 rfl rfl ?_
    exact pn_zret (by decide) h rfl rfl
  · replace h := h.2 hc
    refine pj_iload_n 5 1 rfl rfl rfl rfl ?_
    refine pj_aload_n 6 0 rfl rfl rfl rfl ?_
    refine pn_geti 9 9 1 1 o0 rfl pfX9_15 (Or.inl rfl) rfl rfl ?_
    obtain ⟨q2, h⟩ := h
    obtain ⟨q3, h⟩ := h
    refine pj_icmp_le 14 12 rfl (by decide) rfl q2 q3 (fun hc => ?_) (fun hc => ?_)
    · replace h := h.1 hc
      refine pj_aload_n 15 0 rfl rfl rfl rfl ?_
      refine pj_iload_n 16 1 rfl rfl rfl rfl ?_
      refine pn_puti 19 9 1 1 o0  rfl pfX9_15 rfl rfl rfl (fun M4 hM4 => ?_)
      replace h := h M4 hM4
      refine pj_iconst 20 rfl rfl ?_
      exact pn_zret (by decide) h rfl rfl
    · replace h := h.2 hc
      refine pj_iconst 13 rfl rfl ?_
      exact pn_zret (by decide) h rfl rfl
def w_X9_clear (r0 : Nat) (M : pj_M) (Q : pj_M → Prop) : Prop :=
  ∀ M1 : pj_M, M1 = pj_up M r0 1 0 → Q M1
set_option maxRecDepth 20000 in
set_option maxHeartbeats 4000000 in
theorem s_X9_clear {l : Launch} {g : pj_G} (hg : pj_ph g = true) {r0 : Nat} {M : pj_M} {Q : pj_M → Prop} (o0 : pj_ob r0 9) (h : w_X9_clear r0 M Q) : pj_S l g mdX9_clear [.ref r0] pj_NK M (pj_qv Q) := by
  refine pj_ofR (ls := [(0, .ref r0)]) gcX9_clear (by decide) rfl (Nat.le_of_ble_eq_true rfl) rfl ?_
  unfold w_X9_clear at h
  refine pj_aload_n 1 0 rfl rfl rfl rfl ?_
  refine pj_iconst 2 rfl rfl ?_
  refine pn_puti 5 9 1 1 o0  rfl pfX9_15 rfl rfl rfl (fun M1 hM1 => ?_)
  replace h := h M1 hM1
  exact pn_vret h rfl rfl
def w_X9_misfitOfLine_2b (r0 : Nat)  (Q : Int → pj_M → Prop) (k2 : Int → pj_M → Prop) (x1 : Int) (M : pj_M) : Prop :=
  (pj_in x1) ∧ (pj_in (M r0 1)) ∧ (((M r0 1) ≤ x1 → Q (-1) M) ∧ (¬ (M r0 1) ≤ x1 → (pj_in x1) ∧ ((14 ≤ x1 → Q x1 M) ∧ (¬ 14 ≤ x1 → ((0 : Int) ≤ x1 ∧ x1 < 80) ∧ w_X9_isSign (M (pj_rf r0 0) x1) M (fun (t6 : Int) (M5 : pj_M) => (pj_in t6) ∧ ((¬ t6 = 0 → k2 (x1 + 1) M5) ∧ (t6 = 0 → Q x1 M5)))))))
def w_X9_misfitOfLine_2 (r0 : Nat)  (Q : Int → pj_M → Prop) (x1 : Int) (M : pj_M) : Prop := pj_lp (fun (k : Int × pj_M → Prop) (s : Int × pj_M) => w_X9_misfitOfLine_2b r0  Q (fun (x1 : Int) (M : pj_M) => k (x1, M)) s.1 s.2) (x1, M)
def w_X9_misfitOfLine (r0 : Nat) (M : pj_M) (Q : Int → pj_M → Prop) : Prop :=
  w_X9_misfitOfLine_2 r0  Q 0 M
set_option maxRecDepth 20000 in
set_option maxHeartbeats 4000000 in
theorem s_X9_misfitOfLine_2b {l : Launch} {g : pj_G} (hg : pj_ph g = true) {r0 : Nat} {x1 : Int} {M : pj_M} {Q : Int → pj_M → Prop}  {k2 : Int → pj_M → Prop} (o0 : pj_ob r0 9)  (hk2 : ∀ (x1 : Int) (M : pj_M), k2 x1 M → pj_R l g mdX9_misfitOfLine pj_T (pj_Zm g mdX9_misfitOfLine (pj_qi Q)) pj_NK 0 0 2 [(0, .ref r0), (1, .int (pj_I x1))] [] M) (h : w_X9_misfitOfLine_2b r0  Q k2 x1 M) : pj_R l g mdX9_misfitOfLine pj_T (pj_Zm g mdX9_misfitOfLine (pj_qi Q)) pj_NK 0 0 2 [(0, .ref r0), (1, .int (pj_I x1))] [] M := by
  unfold w_X9_misfitOfLine_2b at h
  refine pj_iload_n 3 1 rfl rfl rfl rfl ?_
  refine pj_aload_n 4 0 rfl rfl rfl rfl ?_
  refine pn_geti 7 9 1 1 o0 rfl pfX9_15 (Or.inl rfl) rfl rfl ?_
  obtain ⟨q1, h⟩ := h
  obtain ⟨q2, h⟩ := h
  refine pj_icmp_ge 36 10 rfl (by decide) rfl q1 q2 (fun hc => ?_) (fun hc => ?_)
  · replace h := h.1 hc
    refine pj_iconst 37 rfl rfl ?_
    exact pn_iret h rfl rfl
  · replace h := h.2 hc
    refine pj_iload_n 11 1 rfl rfl rfl rfl ?_
    refine pj_bipush 13 rfl (by decide) rfl ?_
    obtain ⟨q3, h⟩ := h
    refine pj_icmp_ge 28 16 rfl (by decide) rfl q3 (show pj_in 14 by decide) (fun hc => ?_) (fun hc => ?_)
    · replace h := h.1 hc
      refine pj_iload_n 29 1 rfl rfl rfl rfl ?_
      exact pn_iret h rfl rfl
    · replace h := h.2 hc
      refine pj_aload_n 17 0 rfl rfl rfl rfl ?_
      refine pn_getr 20 9 0 hg o0 (pr_9_0 o0).2 rfl pfX9_9 rfl rfl ?_
      refine pj_iload_n 21 1 rfl rfl rfl rfl ?_
      obtain ⟨q4, h⟩ := h
      refine pn_iald 22 80 (pr_9_0 o0) q4 rfl rfl ?_
      refine pn_callSi 25 [.int (pj_I (M (pj_rf r0 0) x1))] [] (s_X9_isSign hg  h) plX9_19 rfl rfl rfl rfl (Nat.le_of_ble_eq_true rfl) (by decide) (fun t6 M5 h => ?_)
      obtain ⟨q7, h⟩ := h
      refine pj_if_ne 30 28 rfl (by decide) rfl q7  (fun hc => ?_) (fun hc => ?_)
      · replace h := h.1 hc
        refine pj_iinc 33 1 (ls' := [(0, .ref r0), (1, .int (pj_I (x1 + 1)))]) rfl rfl (by decide) rfl rfl ?_
        refine pj_goto 2 rfl (by decide) ?_
        refine pn_sub [0, 1] rfl ?_
        exact hk2 _ _ h
      · replace h := h.2 (Classical.not_not.mp hc)
        refine pj_iload_n 29 1 rfl rfl rfl rfl ?_
        exact pn_iret h rfl rfl
set_option maxRecDepth 20000 in
set_option maxHeartbeats 4000000 in
theorem s_X9_misfitOfLine_2 {l : Launch} {g : pj_G} (hg : pj_ph g = true) {r0 : Nat} {x1 : Int} {M : pj_M} {Q : Int → pj_M → Prop}  (o0 : pj_ob r0 9)  (h : w_X9_misfitOfLine_2 r0  Q x1 M) : pj_R l g mdX9_misfitOfLine pj_T (pj_Zm g mdX9_misfitOfLine (pj_qi Q)) pj_NK 0 0 2 [(0, .ref r0), (1, .int (pj_I x1))] [] M :=
  h (fun s => pj_R l g mdX9_misfitOfLine pj_T (pj_Zm g mdX9_misfitOfLine (pj_qi Q)) pj_NK 0 0 2 [(0, .ref r0), (1, .int (pj_I (s.1)))] [] s.2) (fun s hs => s_X9_misfitOfLine_2b hg o0  (fun _ _ q => q) hs)
set_option maxRecDepth 20000 in
set_option maxHeartbeats 4000000 in
theorem s_X9_misfitOfLine {l : Launch} {g : pj_G} (hg : pj_ph g = true) {r0 : Nat} {M : pj_M} {Q : Int → pj_M → Prop} (o0 : pj_ob r0 9) (h : w_X9_misfitOfLine r0 M Q) : pj_S l g mdX9_misfitOfLine [.ref r0] pj_NK M (pj_qi Q) := by
  refine pj_ofR (ls := [(0, .ref r0)]) gcX9_misfitOfLine (by decide) rfl (Nat.le_of_ble_eq_true rfl) rfl ?_
  unfold w_X9_misfitOfLine at h
  refine pj_iconst 1 rfl rfl ?_
  refine pj_istore_n 2 (ls' := [(0, .ref r0), (1, .int (pj_I 0))]) rfl rfl (by decide) rfl rfl ?_
  refine pn_sub [0, 1] rfl ?_
  exact s_X9_misfitOfLine_2 hg o0   h
def w_X9_copyLineTo_15b (r0 : Nat) (r1 : Nat)  (Q : pj_M → Prop) (k15 : Int → pj_M → Prop) (x2 : Int) (M : pj_M) : Prop :=
  (pj_in x2) ∧ (pj_in (M r1 1)) ∧ (((M r1 1) ≤ x2 → Q M) ∧ (¬ (M r1 1) ≤ x2 → ((0 : Int) ≤ x2 ∧ x2 < 80) ∧ ((0 : Int) ≤ x2 ∧ x2 < 14) ∧ ∀ M8 : pj_M, M8 = pj_up M (pj_rf r1 0) x2 ((M (pj_rf r0 0) x2) - 97) → k15 (x2 + 1) M8))
def w_X9_copyLineTo_15 (r0 : Nat) (r1 : Nat)  (Q : pj_M → Prop) (x2 : Int) (M : pj_M) : Prop := pj_lp (fun (k : Int × pj_M → Prop) (s : Int × pj_M) => w_X9_copyLineTo_15b r0 r1  Q (fun (x2 : Int) (M : pj_M) => k (x2, M)) s.1 s.2) (x2, M)
def w_X9_copyLineTo (r0 : Nat) (r1 : Nat) (M : pj_M) (Q : pj_M → Prop) : Prop :=
  w_Jmin (M r0 1) 14 M (fun (t2 : Int) (M1 : pj_M) => ∀ M3 : pj_M, M3 = pj_up M1 r1 1 t2 → w_X9_copyLineTo_15 r0 r1  Q 0 M3)
set_option maxRecDepth 20000 in
set_option maxHeartbeats 4000000 in
theorem s_X9_copyLineTo_15b {l : Launch} {g : pj_G} (hg : pj_ph g = true) {r0 : Nat} {r1 : Nat} {x2 : Int} {M : pj_M} {Q : pj_M → Prop}  {k15 : Int → pj_M → Prop} (o0 : pj_ob r0 9) (o1 : pj_ob r1 7)  (hk15 : ∀ (x2 : Int) (M : pj_M), k15 x2 M → pj_R l g mdX9_copyLineTo pj_T (pj_Zm g mdX9_copyLineTo (pj_qv Q)) pj_NK 0 0 15 [(0, .ref r0), (1, .ref r1), (2, .int (pj_I x2))] [] M) (h : w_X9_copyLineTo_15b r0 r1  Q k15 x2 M) : pj_R l g mdX9_copyLineTo pj_T (pj_Zm g mdX9_copyLineTo (pj_qv Q)) pj_NK 0 0 15 [(0, .ref r0), (1, .ref r1), (2, .int (pj_I x2))] [] M := by
  unfold w_X9_copyLineTo_15b at h
  refine pj_iload_n 16 2 rfl rfl rfl rfl ?_
  refine pj_aload_n 17 1 rfl rfl rfl rfl ?_
  refine pn_geti 20 7 1 1 o1 rfl pfX9_29 (Or.inl rfl) rfl rfl ?_
  obtain ⟨q4, h⟩ := h
  obtain ⟨q5, h⟩ := h
  refine pj_icmp_ge 44 23 rfl (by decide) rfl q4 q5 (fun hc => ?_) (fun hc => ?_)
  · replace h := h.1 hc
    exact pn_vret h rfl rfl
  · replace h := h.2 hc
    refine pj_aload_n 24 1 rfl rfl rfl rfl ?_
    refine pn_getr 27 7 0 hg o1 (pr_7_0 o1).2 rfl pfX9_32 rfl rfl ?_
    refine pj_iload_n 28 2 rfl rfl rfl rfl ?_
    refine pj_aload_n 29 0 rfl rfl rfl rfl ?_
    refine pn_getr 32 9 0 hg o0 (pr_9_0 o0).2 rfl pfX9_9 rfl rfl ?_
    refine pj_iload_n 33 2 rfl rfl rfl rfl ?_
    obtain ⟨q6, h⟩ := h
    refine pn_iald 34 80 (pr_9_0 o0) q6 rfl rfl ?_
    refine pj_bipush 36 rfl (by decide) rfl ?_
    refine pj_isub 37 rfl rfl ?_
    obtain ⟨q7, h⟩ := h
    refine pn_iast 38 14 (pr_7_0 o1)  q7 rfl rfl (fun M8 hM8 => ?_)
    replace h := h M8 hM8
    refine pj_iinc 41 2 (ls' := [(0, .ref r0), (1, .ref r1), (2, .int (pj_I (x2 + 1)))]) rfl rfl (by decide) rfl rfl ?_
    refine pj_goto 15 rfl (by decide) ?_
    refine pn_sub [0, 1, 2] rfl ?_
    exact hk15 _ _ h
set_option maxRecDepth 20000 in
set_option maxHeartbeats 4000000 in
theorem s_X9_copyLineTo_15 {l : Launch} {g : pj_G} (hg : pj_ph g = true) {r0 : Nat} {r1 : Nat} {x2 : Int} {M : pj_M} {Q : pj_M → Prop}  (o0 : pj_ob r0 9) (o1 : pj_ob r1 7)  (h : w_X9_copyLineTo_15 r0 r1  Q x2 M) : pj_R l g mdX9_copyLineTo pj_T (pj_Zm g mdX9_copyLineTo (pj_qv Q)) pj_NK 0 0 15 [(0, .ref r0), (1, .ref r1), (2, .int (pj_I x2))] [] M :=
  h (fun s => pj_R l g mdX9_copyLineTo pj_T (pj_Zm g mdX9_copyLineTo (pj_qv Q)) pj_NK 0 0 15 [(0, .ref r0), (1, .ref r1), (2, .int (pj_I (s.1)))] [] s.2) (fun s hs => s_X9_copyLineTo_15b hg o0 o1  (fun _ _ q => q) hs)
set_option maxRecDepth 20000 in
set_option maxHeartbeats 4000000 in
theorem s_X9_copyLineTo {l : Launch} {g : pj_G} (hg : pj_ph g = true) {r0 : Nat} {r1 : Nat} {M : pj_M} {Q : pj_M → Prop} (o0 : pj_ob r0 9) (o1 : pj_ob r1 7) (h : w_X9_copyLineTo r0 r1 M Q) : pj_S l g mdX9_copyLineTo [.ref r0, .ref r1] pj_NK M (pj_qv Q) := by
  refine pj_ofR (ls := [(0, .ref r0), (1, .ref r1)]) gcX9_copyLineTo (by decide) rfl (Nat.le_of_ble_eq_true rfl) rfl ?_
  unfold w_X9_copyLineTo at h
  refine pj_aload_n 1 1 rfl rfl rfl rfl ?_
  refine pj_aload_n 2 0 rfl rfl rfl rfl ?_
  refine pn_geti 5 9 1 1 o0 rfl pfX9_15 (Or.inl rfl) rfl rfl ?_
  refine pj_bipush 7 rfl (by decide) rfl ?_
  refine pn_callSi 10 [.int (pj_I (M r0 1)), .int (pj_I 14)] [.ref r1] (s_Jmin hg  h) plX9_23 rfl rfl rfl rfl (Nat.le_of_ble_eq_true rfl) (by decide) (fun t2 M1 h => ?_)
  refine pn_puti 13 7 1 1 o1  rfl pfX9_29 rfl rfl rfl (fun M3 hM3 => ?_)
  replace h := h M3 hM3
  refine pj_iconst 14 rfl rfl ?_
  refine pj_istore_n 15 (ls' := [(0, .ref r0), (1, .ref r1), (2, .int (pj_I 0))]) rfl rfl (by decide) rfl rfl ?_
  refine pn_sub [0, 1, 2] rfl ?_
  exact s_X9_copyLineTo_15 hg o0 o1   h
def w_X9_misfitOfPairs_4b (r0 : Nat)  (Q : Int → pj_M → Prop) (k4 : Int → Int → pj_M → Prop) (x1 : Int) (x2 : Int) (M : pj_M) : Prop :=
  (pj_in x2) ∧ (pj_in (M r0 1)) ∧ (((M r0 1) ≤ x2 → (pj_in (pj_rem (M r0 1) 2)) ∧ ((¬ (pj_rem (M r0 1) 2) = 0 → Q (M r0 1) M) ∧ ((pj_rem (M r0 1) 2) = 0 → Q (-1) M))) ∧ (¬ (M r0 1) ≤ x2 → (pj_in x2) ∧ ((6 ≤ x2 → Q x2 M) ∧ (¬ 6 ≤ x2 → ((0 : Int) ≤ x2 ∧ x2 < 80) ∧ w_X9_isSign (M (pj_rf r0 0) x2) M (fun (t7 : Int) (M6 : pj_M) => (pj_in t7) ∧ ((¬ t7 = 0 → ((0 : Int) ≤ x2 ∧ x2 < 80) ∧ ∀ z10 : Int, z10 = (pj_shl 1 ((M6 (pj_rf r0 0) x2) - 97)) → (pj_in (pj_and x1 z10)) ∧ (((pj_and x1 z10) = 0 → ∀ z12 : Int, z12 = (pj_or x1 z10) → k4 z12 (x2 + 1) M6) ∧ (¬ (pj_and x1 z10) = 0 → Q x2 M6))) ∧ (t7 = 0 → Q x2 M6)))))))
def w_X9_misfitOfPairs_4 (r0 : Nat)  (Q : Int → pj_M → Prop) (x1 : Int) (x2 : Int) (M : pj_M) : Prop := pj_lp (fun (k : Int × Int × pj_M → Prop) (s : Int × Int × pj_M) => w_X9_misfitOfPairs_4b r0  Q (fun (x1 : Int) (x2 : Int) (M : pj_M) => k (x1, x2, M)) s.1 s.2.1 s.2.2) (x1, x2, M)
def w_X9_misfitOfPairs (r0 : Nat) (M : pj_M) (Q : Int → pj_M → Prop) : Prop :=
  w_X9_misfitOfPairs_4 r0  Q 0 0 M
set_option maxRecDepth 20000 in
set_option maxHeartbeats 4000000 in
theorem s_X9_misfitOfPairs_4b {l : Launch} {g : pj_G} (hg : pj_ph g = true) {r0 : Nat} {x1 : Int} {x2 : Int} {M : pj_M} {Q : Int → pj_M → Prop}  {k4 : Int → Int → pj_M → Prop} (o0 : pj_ob r0 9)  (hk4 : ∀ (x1 : Int) (x2 : Int) (M : pj_M), k4 x1 x2 M → pj_R l g mdX9_misfitOfPairs pj_T (pj_Zm g mdX9_misfitOfPairs (pj_qi Q)) pj_NK 0 0 4 [(0, .ref r0), (1, .int (pj_I x1)), (2, .int (pj_I x2))] [] M) (h : w_X9_misfitOfPairs_4b r0  Q k4 x1 x2 M) : pj_R l g mdX9_misfitOfPairs pj_T (pj_Zm g mdX9_misfitOfPairs (pj_qi Q)) pj_NK 0 0 4 [(0, .ref r0), (1, .int (pj_I x1)), (2, .int (pj_I x2))] [] M := by
  unfold w_X9_misfitOfPairs_4b at h
  refine pj_iload_n 5 2 rfl rfl rfl rfl ?_
  refine pj_aload_n 6 0 rfl rfl rfl rfl ?_
  refine pn_geti 9 9 1 1 o0 rfl pfX9_15 (Or.inl rfl) rfl rfl ?_
  obtain ⟨q1, h⟩ := h
  obtain ⟨q2, h⟩ := h
  refine pj_icmp_ge 62 12 rfl (by decide) rfl q1 q2 (fun hc => ?_) (fun hc => ?_)
  · replace h := h.1 hc
    refine pj_aload_n 63 0 rfl rfl rfl rfl ?_
    refine pn_geti 66 9 1 1 o0 rfl pfX9_15 (Or.inl rfl) rfl rfl ?_
    refine pj_iconst 67 rfl rfl ?_
    refine pj_irem 68 rfl rfl (show pj_in 2 by decide) (by decide) ?_
    obtain ⟨q3, h⟩ := h
    refine pj_if_ne 75 71 rfl (by decide) rfl q3  (fun hc => ?_) (fun hc => ?_)
    · replace h := h.1 hc
      refine pj_aload_n 76 0 rfl rfl rfl rfl ?_
      refine pn_geti 79 9 1 1 o0 rfl pfX9_15 (Or.inl rfl) rfl rfl ?_
      exact pn_iret h rfl rfl
    · replace h := h.2 (Classical.not_not.mp hc)
      refine pj_iconst 72 rfl rfl ?_
      refine pj_goto 79 rfl (by decide) ?_
      exact pn_iret h rfl rfl
  · replace h := h.2 hc
    refine pj_iload_n 13 2 rfl rfl rfl rfl ?_
    refine pj_bipush 15 rfl (by decide) rfl ?_
    obtain ⟨q4, h⟩ := h
    refine pj_icmp_ge 30 18 rfl (by decide) rfl q4 (show pj_in 6 by decide) (fun hc => ?_) (fun hc => ?_)
    · replace h := h.1 hc
      refine pj_iload_n 31 2 rfl rfl rfl rfl ?_
      exact pn_iret h rfl rfl
    · replace h := h.2 hc
      refine pj_aload_n 19 0 rfl rfl rfl rfl ?_
      refine pn_getr 22 9 0 hg o0 (pr_9_0 o0).2 rfl pfX9_9 rfl rfl ?_
      refine pj_iload_n 23 2 rfl rfl rfl rfl ?_
      obtain ⟨q5, h⟩ := h
      refine pn_iald 24 80 (pr_9_0 o0) q5 rfl rfl ?_
      refine pn_callSi 27 [.int (pj_I (M (pj_rf r0 0) x2))] [] (s_X9_isSign hg  h) plX9_19 rfl rfl rfl rfl (Nat.le_of_ble_eq_true rfl) (by decide) (fun t7 M6 h => ?_)
      obtain ⟨q8, h⟩ := h
      refine pj_if_ne 32 30 rfl (by decide) rfl q8  (fun hc => ?_) (fun hc => ?_)
      · replace h := h.1 hc
        refine pj_iconst 33 rfl rfl ?_
        refine pj_aload_n 34 0 rfl rfl rfl rfl ?_
        refine pn_getr 37 9 0 hg o0 (pr_9_0 o0).2 rfl pfX9_9 rfl rfl ?_
        refine pj_iload_n 38 2 rfl rfl rfl rfl ?_
        obtain ⟨q9, h⟩ := h
        refine pn_iald 39 80 (pr_9_0 o0) q9 rfl rfl ?_
        refine pj_bipush 41 rfl (by decide) rfl ?_
        refine pj_isub 42 rfl rfl ?_
        refine pj_ishl 43 rfl rfl ?_
        refine pn_nm (fun z10 hz10 => ?_)
        replace h := h z10 hz10
        refine pj_istore_n 44 (ls' := [(0, .ref r0), (1, .int (pj_I x1)), (2, .int (pj_I x2)), (3, .int (pj_I z10))]) rfl rfl (by decide) rfl rfl ?_
        refine pj_iload_n 45 1 rfl rfl rfl rfl ?_
        refine pj_iload_n 46 3 rfl rfl rfl rfl ?_
        refine pj_iand 47 rfl rfl ?_
        obtain ⟨q11, h⟩ := h
        refine pj_if_eq 52 50 rfl (by decide) rfl q11  (fun hc => ?_) (fun hc => ?_)
        · replace h := h.1 hc
          refine pj_iload_n 53 1 rfl rfl rfl rfl ?_
          refine pj_iload_n 54 3 rfl rfl rfl rfl ?_
          refine pj_ior 55 rfl rfl ?_
          refine pn_nm (fun z12 hz12 => ?_)
          replace h := h z12 hz12
          refine pj_istore_n 56 (ls' := [(0, .ref r0), (1, .int (pj_I z12)), (2, .int (pj_I x2)), (3, .int (pj_I z10))]) rfl rfl (by decide) rfl rfl ?_
          refine pj_iinc 59 2 (ls' := [(0, .ref r0), (1, .int (pj_I z12)), (2, .int (pj_I (x2 + 1))), (3, .int (pj_I z10))]) rfl rfl (by decide) rfl rfl ?_
          refine pj_goto 4 rfl (by decide) ?_
          refine pn_sub [0, 1, 2] rfl ?_
          exact hk4 _ _ _ h
        · replace h := h.2 hc
          refine pj_iload_n 51 2 rfl rfl rfl rfl ?_
          exact pn_iret h rfl rfl
      · replace h := h.2 (Classical.not_not.mp hc)
        refine pj_iload_n 31 2 rfl rfl rfl rfl ?_
        exact pn_iret h rfl rfl
set_option maxRecDepth 20000 in
set_option maxHeartbeats 4000000 in
theorem s_X9_misfitOfPairs_4 {l : Launch} {g : pj_G} (hg : pj_ph g = true) {r0 : Nat} {x1 : Int} {x2 : Int} {M : pj_M} {Q : Int → pj_M → Prop}  (o0 : pj_ob r0 9)  (h : w_X9_misfitOfPairs_4 r0  Q x1 x2 M) : pj_R l g mdX9_misfitOfPairs pj_T (pj_Zm g mdX9_misfitOfPairs (pj_qi Q)) pj_NK 0 0 4 [(0, .ref r0), (1, .int (pj_I x1)), (2, .int (pj_I x2))] [] M :=
  h (fun s => pj_R l g mdX9_misfitOfPairs pj_T (pj_Zm g mdX9_misfitOfPairs (pj_qi Q)) pj_NK 0 0 4 [(0, .ref r0), (1, .int (pj_I (s.1))), (2, .int (pj_I (s.2.1)))] [] s.2.2) (fun s hs => s_X9_misfitOfPairs_4b hg o0  (fun _ _ _ q => q) hs)
set_option maxRecDepth 20000 in
set_option maxHeartbeats 4000000 in
theorem s_X9_misfitOfPairs {l : Launch} {g : pj_G} (hg : pj_ph g = true) {r0 : Nat} {M : pj_M} {Q : Int → pj_M → Prop} (o0 : pj_ob r0 9) (h : w_X9_misfitOfPairs r0 M Q) : pj_S l g mdX9_misfitOfPairs [.ref r0] pj_NK M (pj_qi Q) := by
  refine pj_ofR (ls := [(0, .ref r0)]) gcX9_misfitOfPairs (by decide) rfl (Nat.le_of_ble_eq_true rfl) rfl ?_
  unfold w_X9_misfitOfPairs at h
  refine pj_iconst 1 rfl rfl ?_
  refine pj_istore_n 2 (ls' := [(0, .ref r0), (1, .int (pj_I 0))]) rfl rfl (by decide) rfl rfl ?_
  refine pj_iconst 3 rfl rfl ?_
  refine pj_istore_n 4 (ls' := [(0, .ref r0), (1, .int (pj_I 0)), (2, .int (pj_I 0))]) rfl rfl (by decide) rfl rfl ?_
  refine pn_sub [0, 1, 2] rfl ?_
  exact s_X9_misfitOfPairs_4 hg o0   h
def w_X9_copyPairsTo_16b (r0 : Nat) (r1 : Nat)  (Q : pj_M → Prop) (k16 : Int → pj_M → Prop) (x2 : Int) (M : pj_M) : Prop :=
  (pj_in x2) ∧ (pj_in (2 * (M r1 3))) ∧ (((2 * (M r1 3)) ≤ x2 → Q M) ∧ (¬ (2 * (M r1 3)) ≤ x2 → ((0 : Int) ≤ x2 ∧ x2 < 80) ∧ ((0 : Int) ≤ x2 ∧ x2 < 6) ∧ ∀ M8 : pj_M, M8 = pj_up M (pj_rf r1 2) x2 ((M (pj_rf r0 0) x2) - 97) → k16 (x2 + 1) M8))
def w_X9_copyPairsTo_16 (r0 : Nat) (r1 : Nat)  (Q : pj_M → Prop) (x2 : Int) (M : pj_M) : Prop := pj_lp (fun (k : Int × pj_M → Prop) (s : Int × pj_M) => w_X9_copyPairsTo_16b r0 r1  Q (fun (x2 : Int) (M : pj_M) => k (x2, M)) s.1 s.2) (x2, M)
def w_X9_copyPairsTo (r0 : Nat) (r1 : Nat) (M : pj_M) (Q : pj_M → Prop) : Prop :=
  w_Jmin (pj_div (M r0 1) 2) 3 M (fun (t2 : Int) (M1 : pj_M) => ∀ M3 : pj_M, M3 = pj_up M1 r1 3 t2 → w_X9_copyPairsTo_16 r0 r1  Q 0 M3)
set_option maxRecDepth 20000 in
set_option maxHeartbeats 4000000 in
theorem s_X9_copyPairsTo_16b {l : Launch} {g : pj_G} (hg : pj_ph g = true) {r0 : Nat} {r1 : Nat} {x2 : Int} {M : pj_M} {Q : pj_M → Prop}  {k16 : Int → pj_M → Prop} (o0 : pj_ob r0 9) (o1 : pj_ob r1 1)  (hk16 : ∀ (x2 : Int) (M : pj_M), k16 x2 M → pj_R l g mdX9_copyPairsTo pj_T (pj_Zm g mdX9_copyPairsTo (pj_qv Q)) pj_NK 0 0 16 [(0, .ref r0), (1, .ref r1), (2, .int (pj_I x2))] [] M) (h : w_X9_copyPairsTo_16b r0 r1  Q k16 x2 M) : pj_R l g mdX9_copyPairsTo pj_T (pj_Zm g mdX9_copyPairsTo (pj_qv Q)) pj_NK 0 0 16 [(0, .ref r0), (1, .ref r1), (2, .int (pj_I x2))] [] M := by
  unfold w_X9_copyPairsTo_16b at h
  refine pj_iload_n 17 2 rfl rfl rfl rfl ?_
  refine pj_iconst 18 rfl rfl ?_
  refine pj_aload_n 19 1 rfl rfl rfl rfl ?_
  refine pn_geti 22 1 3 3 o1 rfl pfX9_33 (Or.inl rfl) rfl rfl ?_
  refine pj_imul 23 rfl rfl ?_
  obtain ⟨q4, h⟩ := h
  obtain ⟨q5, h⟩ := h
  refine pj_icmp_ge 47 26 rfl (by decide) rfl q4 q5 (fun hc => ?_) (fun hc => ?_)
  · replace h := h.1 hc
    exact pn_vret h rfl rfl
  · replace h := h.2 hc
    refine pj_aload_n 27 1 rfl rfl rfl rfl ?_
    refine pn_getr 30 1 2 hg o1 (pr_1_2 o1).2 rfl pfX9_38 rfl rfl ?_
    refine pj_iload_n 31 2 rfl rfl rfl rfl ?_
    refine pj_aload_n 32 0 rfl rfl rfl rfl ?_
    refine pn_getr 35 9 0 hg o0 (pr_9_0 o0).2 rfl pfX9_9 rfl rfl ?_
    refine pj_iload_n 36 2 rfl rfl rfl rfl ?_
    obtain ⟨q6, h⟩ := h
    refine pn_iald 37 80 (pr_9_0 o0) q6 rfl rfl ?_
    refine pj_bipush 39 rfl (by decide) rfl ?_
    refine pj_isub 40 rfl rfl ?_
    obtain ⟨q7, h⟩ := h
    refine pn_iast 41 6 (pr_1_2 o1)  q7 rfl rfl (fun M8 hM8 => ?_)
    replace h := h M8 hM8
    refine pj_iinc 44 2 (ls' := [(0, .ref r0), (1, .ref r1), (2, .int (pj_I (x2 + 1)))]) rfl rfl (by decide) rfl rfl ?_
    refine pj_goto 16 rfl (by decide) ?_
    refine pn_sub [0, 1, 2] rfl ?_
    exact hk16 _ _ h
set_option maxRecDepth 20000 in
set_option maxHeartbeats 4000000 in
theorem s_X9_copyPairsTo_16 {l : Launch} {g : pj_G} (hg : pj_ph g = true) {r0 : Nat} {r1 : Nat} {x2 : Int} {M : pj_M} {Q : pj_M → Prop}  (o0 : pj_ob r0 9) (o1 : pj_ob r1 1)  (h : w_X9_copyPairsTo_16 r0 r1  Q x2 M) : pj_R l g mdX9_copyPairsTo pj_T (pj_Zm g mdX9_copyPairsTo (pj_qv Q)) pj_NK 0 0 16 [(0, .ref r0), (1, .ref r1), (2, .int (pj_I x2))] [] M :=
  h (fun s => pj_R l g mdX9_copyPairsTo pj_T (pj_Zm g mdX9_copyPairsTo (pj_qv Q)) pj_NK 0 0 16 [(0, .ref r0), (1, .ref r1), (2, .int (pj_I (s.1)))] [] s.2) (fun s hs => s_X9_copyPairsTo_16b hg o0 o1  (fun _ _ q => q) hs)
set_option maxRecDepth 20000 in
set_option maxHeartbeats 4000000 in
theorem s_X9_copyPairsTo {l : Launch} {g : pj_G} (hg : pj_ph g = true) {r0 : Nat} {r1 : Nat} {M : pj_M} {Q : pj_M → Prop} (o0 : pj_ob r0 9) (o1 : pj_ob r1 1) (h : w_X9_copyPairsTo r0 r1 M Q) : pj_S l g mdX9_copyPairsTo [.ref r0, .ref r1] pj_NK M (pj_qv Q) := by
  refine pj_ofR (ls := [(0, .ref r0), (1, .ref r1)]) gcX9_copyPairsTo (by decide) rfl (Nat.le_of_ble_eq_true rfl) rfl ?_
  unfold w_X9_copyPairsTo at h
  refine pj_aload_n 1 1 rfl rfl rfl rfl ?_
  refine pj_aload_n 2 0 rfl rfl rfl rfl ?_
  refine pn_geti 5 9 1 1 o0 rfl pfX9_15 (Or.inl rfl) rfl rfl ?_
  refine pj_iconst 6 rfl rfl ?_
  refine pj_idiv 7 rfl rfl (show pj_in 2 by decide) (by decide) ?_
  refine pj_iconst 8 rfl rfl ?_
  refine pn_callSi 11 [.int (pj_I (pj_div (M r0 1) 2)), .int (pj_I 3)] [.ref r1] (s_Jmin hg  h) plX9_23 rfl rfl rfl rfl (Nat.le_of_ble_eq_true rfl) (by decide) (fun t2 M1 h => ?_)
  refine pn_puti 14 1 3 3 o1  rfl pfX9_33 rfl rfl rfl (fun M3 hM3 => ?_)
  replace h := h M3 hM3
  refine pj_iconst 15 rfl rfl ?_
  refine pj_istore_n 16 (ls' := [(0, .ref r0), (1, .ref r1), (2, .int (pj_I 0))]) rfl rfl (by decide) rfl rfl ?_
  refine pn_sub [0, 1, 2] rfl ?_
  exact s_X9_copyPairsTo_16 hg o0 o1   h
def w_X9_lengthOfChange (x0 : Int) (M : pj_M) (Q : Int → pj_M → Prop) : Prop :=
  (pj_in x0) ∧ ((x0 = 114 → Q 4 M) ∧ (¬ x0 = 114 → (pj_in x0) ∧ ((¬ x0 = 105 → (pj_in x0) ∧ ((¬ x0 = 100 → Q 0 M) ∧ (x0 = 100 → Q 3 M))) ∧ (x0 = 105 → Q 4 M))))
set_option maxRecDepth 20000 in
set_option maxHeartbeats 4000000 in
theorem s_X9_lengthOfChange {l : Launch} {g : pj_G} (hg : pj_ph g = true) {x0 : Int} {M : pj_M} {Q : Int → pj_M → Prop}  (h : w_X9_lengthOfChange x0 M Q) : pj_S l g mdX9_lengthOfChange [.int (pj_I x0)] pj_NK M (pj_qi Q) := by
  refine pj_ofR (ls := [(0, .int (pj_I x0))]) gcX9_lengthOfChange (by decide) rfl (Nat.le_of_ble_eq_true rfl) rfl ?_
  unfold w_X9_lengthOfChange at h
  refine pj_iload_n 1 0 rfl rfl rfl rfl ?_
  refine pj_bipush 3 rfl (by decide) rfl ?_
  obtain ⟨q1, h⟩ := h
  refine pj_icmp_eq 12 6 rfl (by decide) rfl q1 (show pj_in 114 by decide) (fun hc => ?_) (fun hc => ?_)
  · replace h := h.1 hc
    refine pj_iconst 13 rfl rfl ?_
    exact pn_iret h rfl rfl
  · replace h := h.2 hc
    refine pj_iload_n 7 0 rfl rfl rfl rfl ?_
    refine pj_bipush 9 rfl (by decide) rfl ?_
    obtain ⟨q2, h⟩ := h
    refine pj_icmp_ne 14 12 rfl (by decide) rfl q2 (show pj_in 105 by decide) (fun hc => ?_) (fun hc => ?_)
    · replace h := h.1 hc
      refine pj_iload_n 15 0 rfl rfl rfl rfl ?_
      refine pj_bipush 17 rfl (by decide) rfl ?_
      obtain ⟨q3, h⟩ := h
      refine pj_icmp_ne 24 20 rfl (by decide) rfl q3 (show pj_in 100 by decide) (fun hc => ?_) (fun hc => ?_)
      · replace h := h.1 hc
        refine pj_iconst 25 rfl rfl ?_
        exact pn_iret h rfl rfl
      · replace h := h.2 (Classical.not_not.mp hc)
        refine pj_iconst 21 rfl rfl ?_
        refine pj_goto 25 rfl (by decide) ?_
        exact pn_iret h rfl rfl
    · replace h := h.2 (Classical.not_not.mp hc)
      refine pj_iconst 13 rfl rfl ?_
      exact pn_iret h rfl rfl
