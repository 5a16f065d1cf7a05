section PXC
variable {l : Launch} {g : pj_G} {Z : pj_Z} {c0 s0 L : Nat} {M : pj_M} {t : Nat × Nat × Nat} {xs : Nat → Int32} {i : Int}
theorem px_wide {d : pj_MD} {X : State → Prop} {n pc : Nat} {ls : List (Nat × Value)} {st : List Value} (h : pj_R l g d X Z n (c0 + 1) (s0 + 6) pc ls st M) : pj_R l g d X Z n c0 s0 pc ls st M := by
  intro p e s m args below meth c H locs la C hH hL
  exact W.widen (Nat.le_add_right _ _) (Nat.le_add_right _ _) (h p e s m args below meth c H locs la C hH hL)
set_option maxRecDepth 100000 in
set_option maxHeartbeats 4000000 in
theorem lc_sign (hg : pj_ph g = true) (inv : INV M) (hL : L < 2147483648) (h0 : 0 ≤ i) (h1 : i + 4 < L) (hc : c0 ≤ 601024 ∧ s0 ≤ 7293034) (kk : ∀ M', INV M' → pj_R l g mdL_law (px_XL t g L xs) Z pj_NK c0 s0 1287 (px_LS i) [] M') : pj_R l g mdL_law (px_XL t g L xs) Z pj_NK c0 s0 208 (px_LS i) [] M := by
  refine pj_aload_n 209 1 rfl rfl rfl rfl ?_
  refine px_arg (ex := []) 215 1 hL (by omega) (by omega) rfl rfl rfl rfl rfl rfl ?_
  refine px_call 218 11 [.int (pj_I (px_x xs (i + 1)))] [] px_o0 (s_X11_sign hg px_o0 (p_sign inv)) plL_27 rfl rfl rfl rfl (Nat.zero_le _) ⟨by decide, by decide⟩ ⟨rfl, rfl⟩ hc (fun r M1 hw => ?_)
  refine pj_aload_n 219 2 rfl rfl rfl rfl ?_
  refine px_arg (ex := []) 225 1 hL (by omega) (by omega) rfl rfl rfl rfl rfl rfl ?_
  refine px_call 228 12 [.int (pj_I (px_x xs (i + 1)))] [.int (pj_I r)] px_o203 (s_X12_sign hg px_o203 hw) plL_30 rfl rfl rfl rfl (Nat.le_of_ble_eq_true rfl) ⟨by decide, by decide⟩ ⟨rfl, rfl⟩ hc (fun r2 M2 hw2 => ?_)
  obtain ⟨rfl, inv2⟩ := hw2
  exact px_same 1287 rfl (by decide) (kk M2 inv2)
set_option maxRecDepth 100000 in
set_option maxHeartbeats 4000000 in
theorem lc_end (hg : pj_ph g = true) (inv : INV M) (hL : L < 2147483648) (h0 : 0 ≤ i) (h1 : i + 4 < L) (hc : c0 ≤ 601024 ∧ s0 ≤ 7293034) (kk : ∀ M', INV M' → pj_R l g mdL_law (px_XL t g L xs) Z pj_NK c0 s0 1287 (px_LS i) [] M') : pj_R l g mdL_law (px_XL t g L xs) Z pj_NK c0 s0 233 (px_LS i) [] M := by
  refine pj_aload_n 234 1 rfl rfl rfl rfl ?_
  refine px_arg (ex := []) 240 1 hL (by omega) (by omega) rfl rfl rfl rfl rfl rfl ?_
  refine px_call 243 11 [.int (pj_I (px_x xs (i + 1)))] [] px_o0 (s_X11_end hg px_o0 (p_end inv px_x_in)) plL_31 rfl rfl rfl rfl (Nat.zero_le _) ⟨by decide, by decide⟩ ⟨rfl, rfl⟩ hc (fun r M1 hw => ?_)
  refine pj_aload_n 244 2 rfl rfl rfl rfl ?_
  refine px_arg (ex := []) 250 1 hL (by omega) (by omega) rfl rfl rfl rfl rfl rfl ?_
  refine px_call 253 12 [.int (pj_I (px_x xs (i + 1)))] [.int (pj_I r)] px_o203 (s_X12_end hg px_o203 hw) plL_35 rfl rfl rfl rfl (Nat.le_of_ble_eq_true rfl) ⟨by decide, by decide⟩ ⟨rfl, rfl⟩ hc (fun r2 M2 hw2 => ?_)
  obtain ⟨rfl, inv2⟩ := hw2
  exact px_same 1287 rfl (by decide) (kk M2 inv2)
set_option maxRecDepth 100000 in
set_option maxHeartbeats 4000000 in
theorem lc_grammar (hg : pj_ph g = true) (inv : INV M) (hL : L < 2147483648) (h0 : 0 ≤ i) (h1 : i + 4 < L) (hc : c0 ≤ 601024 ∧ s0 ≤ 7293034) (kk : ∀ M', INV M' → pj_R l g mdL_law (px_XL t g L xs) Z pj_NK c0 s0 1287 (px_LS i) [] M') : pj_R l g mdL_law (px_XL t g L xs) Z pj_NK c0 s0 258 (px_LS i) [] M := by
  refine pj_aload_n 259 1 rfl rfl rfl rfl ?_
  refine px_call 262 11 [] [] px_o0 (s_X11_grammar hg px_o0 (p_grammar inv)) plL_36 rfl rfl rfl rfl (Nat.zero_le _) ⟨by decide, by decide⟩ ⟨rfl, rfl⟩ hc (fun r M1 hw => ?_)
  refine pj_aload_n 263 2 rfl rfl rfl rfl ?_
  refine px_call 266 12 [] [.int (pj_I r)] px_o203 (s_X12_grammar hg px_o203 hw) plL_40 rfl rfl rfl rfl (Nat.le_of_ble_eq_true rfl) ⟨by decide, by decide⟩ ⟨rfl, rfl⟩ hc (fun r2 M2 hw2 => ?_)
  obtain ⟨rfl, inv2⟩ := hw2
  exact px_same 1287 rfl (by decide) (kk M2 inv2)
set_option maxRecDepth 100000 in
set_option maxHeartbeats 4000000 in
theorem lc_line (hg : pj_ph g = true) (inv : INV M) (hL : L < 2147483648) (h0 : 0 ≤ i) (h1 : i + 4 < L) (hc : c0 ≤ 601024 ∧ s0 ≤ 7293034) (kk : ∀ M', INV M' → pj_R l g mdL_law (px_XL t g L xs) Z pj_NK c0 s0 1287 (px_LS i) [] M') : pj_R l g mdL_law (px_XL t g L xs) Z pj_NK c0 s0 271 (px_LS i) [] M := by
  refine pj_aload_n 272 1 rfl rfl rfl rfl ?_
  refine px_call 275 11 [] [] px_o0 (s_X11_line hg px_o0 (p_line inv)) plL_41 rfl rfl rfl rfl (Nat.zero_le _) ⟨by decide, by decide⟩ ⟨rfl, rfl⟩ hc (fun r M1 hw => ?_)
  refine pj_aload_n 276 2 rfl rfl rfl rfl ?_
  refine px_call 279 12 [] [.int (pj_I r)] px_o203 (s_X12_line hg px_o203 hw) plL_44 rfl rfl rfl rfl (Nat.le_of_ble_eq_true rfl) ⟨by decide, by decide⟩ ⟨rfl, rfl⟩ hc (fun r2 M2 hw2 => ?_)
  obtain ⟨rfl, inv2⟩ := hw2
  exact px_same 1287 rfl (by decide) (kk M2 inv2)
set_option maxRecDepth 100000 in
set_option maxHeartbeats 4000000 in
theorem lc_brackets (hg : pj_ph g = true) (inv : INV M) (hL : L < 2147483648) (h0 : 0 ≤ i) (h1 : i + 4 < L) (hc : c0 ≤ 601024 ∧ s0 ≤ 7293034) (kk : ∀ M', INV M' → pj_R l g mdL_law (px_XL t g L xs) Z pj_NK c0 s0 1287 (px_LS i) [] M') : pj_R l g mdL_law (px_XL t g L xs) Z pj_NK c0 s0 284 (px_LS i) [] M := by
  refine pj_aload_n 285 1 rfl rfl rfl rfl ?_
  refine px_call 288 11 [] [] px_o0 (s_X11_brackets hg px_o0 (p_brackets inv)) plL_45 rfl rfl rfl rfl (Nat.zero_le _) ⟨by decide, by decide⟩ ⟨rfl, rfl⟩ hc (fun r M1 hw => ?_)
  refine pj_aload_n 289 2 rfl rfl rfl rfl ?_
  refine px_call 292 12 [] [.int (pj_I r)] px_o203 (s_X12_brackets hg px_o203 hw) plL_48 rfl rfl rfl rfl (Nat.le_of_ble_eq_true rfl) ⟨by decide, by decide⟩ ⟨rfl, rfl⟩ hc (fun r2 M2 hw2 => ?_)
  obtain ⟨rfl, inv2⟩ := hw2
  exact px_same 1287 rfl (by decide) (kk M2 inv2)
set_option maxRecDepth 100000 in
set_option maxHeartbeats 4000000 in
theorem lc_sheet (hg : pj_ph g = true) (inv : INV M) (hL : L < 2147483648) (h0 : 0 ≤ i) (h1 : i + 4 < L) (hc : c0 ≤ 601024 ∧ s0 ≤ 7293034) (kk : ∀ M', INV M' → pj_R l g mdL_law (px_XL t g L xs) Z pj_NK c0 s0 1287 (px_LS i) [] M') : pj_R l g mdL_law (px_XL t g L xs) Z pj_NK c0 s0 421 (px_LS i) [] M := by
  refine pj_aload_n 422 1 rfl rfl rfl rfl ?_
  refine px_arg (ex := []) 428 1 hL (by omega) (by omega) rfl rfl rfl rfl rfl rfl ?_
  refine px_arg (ex := []) 434 2 hL (by omega) (by omega) rfl rfl rfl rfl rfl rfl ?_
  refine px_arg (ex := []) 440 3 hL (by omega) (by omega) rfl rfl rfl rfl rfl rfl ?_
  refine px_arg (ex := []) 446 4 hL (by omega) (by omega) rfl rfl rfl rfl rfl rfl ?_
  refine px_call 449 11 [.int (pj_I (px_x xs (i + 1))), .int (pj_I (px_x xs (i + 2))), .int (pj_I (px_x xs (i + 3))), .int (pj_I (px_x xs (i + 4)))] [] px_o0 (s_X11_sheet hg px_o0 (p_sheet inv px_x_in px_x_in)) plL_62 rfl rfl rfl rfl (Nat.zero_le _) ⟨by decide, by decide⟩ ⟨rfl, rfl⟩ hc (fun r M1 hw => ?_)
  refine pj_aload_n 450 2 rfl rfl rfl rfl ?_
  refine px_arg (ex := []) 456 1 hL (by omega) (by omega) rfl rfl rfl rfl rfl rfl ?_
  refine px_arg (ex := []) 462 2 hL (by omega) (by omega) rfl rfl rfl rfl rfl rfl ?_
  refine px_arg (ex := []) 468 3 hL (by omega) (by omega) rfl rfl rfl rfl rfl rfl ?_
  refine px_arg (ex := []) 474 4 hL (by omega) (by omega) rfl rfl rfl rfl rfl rfl ?_
  refine px_call 477 12 [.int (pj_I (px_x xs (i + 1))), .int (pj_I (px_x xs (i + 2))), .int (pj_I (px_x xs (i + 3))), .int (pj_I (px_x xs (i + 4)))] [.int (pj_I r)] px_o203 (s_X12_sheet hg px_o203 hw) plL_66 rfl rfl rfl rfl (Nat.le_of_ble_eq_true rfl) ⟨by decide, by decide⟩ ⟨rfl, rfl⟩ hc (fun r2 M2 hw2 => ?_)
  obtain ⟨rfl, inv2⟩ := hw2
  exact px_same 1287 rfl (by decide) (kk M2 inv2)
set_option maxRecDepth 100000 in
set_option maxHeartbeats 4000000 in
theorem lc_fits (hg : pj_ph g = true) (inv : INV M) (hL : L < 2147483648) (h0 : 0 ≤ i) (h1 : i + 4 < L) (hc : c0 ≤ 601024 ∧ s0 ≤ 7293034) (kk : ∀ M', INV M' → pj_R l g mdL_law (px_XL t g L xs) Z pj_NK c0 s0 1287 (px_LS i) [] M') : pj_R l g mdL_law (px_XL t g L xs) Z pj_NK c0 s0 482 (px_LS i) [] M := by
  refine pj_aload_n 483 1 rfl rfl rfl rfl ?_
  refine px_arg (ex := []) 489 1 hL (by omega) (by omega) rfl rfl rfl rfl rfl rfl ?_
  refine px_arg (ex := []) 495 2 hL (by omega) (by omega) rfl rfl rfl rfl rfl rfl ?_
  refine px_call 498 11 [.int (pj_I (px_x xs (i + 1))), .int (pj_I (px_x xs (i + 2)))] [] px_o0 (s_X11_fits hg px_o0 (p_fits inv px_x_in px_x_in)) plL_67 rfl rfl rfl rfl (Nat.zero_le _) ⟨by decide, by decide⟩ ⟨rfl, rfl⟩ hc (fun r M1 hw => ?_)
  refine pj_aload_n 499 2 rfl rfl rfl rfl ?_
  refine px_arg (ex := []) 505 1 hL (by omega) (by omega) rfl rfl rfl rfl rfl rfl ?_
  refine px_arg (ex := []) 511 2 hL (by omega) (by omega) rfl rfl rfl rfl rfl rfl ?_
  refine px_call 514 12 [.int (pj_I (px_x xs (i + 1))), .int (pj_I (px_x xs (i + 2)))] [.int (pj_I r)] px_o203 (s_X12_fits hg px_o203 hw) plL_70 rfl rfl rfl rfl (Nat.le_of_ble_eq_true rfl) ⟨by decide, by decide⟩ ⟨rfl, rfl⟩ hc (fun r2 M2 hw2 => ?_)
  obtain ⟨rfl, inv2⟩ := hw2
  exact px_same 1287 rfl (by decide) (kk M2 inv2)
set_option maxRecDepth 100000 in
set_option maxHeartbeats 4000000 in
theorem lc_onwards (hg : pj_ph g = true) (inv : INV M) (hL : L < 2147483648) (h0 : 0 ≤ i) (h1 : i + 4 < L) (hc : c0 ≤ 601024 ∧ s0 ≤ 7293034) (kk : ∀ M', INV M' → pj_R l g mdL_law (px_XL t g L xs) Z pj_NK c0 s0 1287 (px_LS i) [] M') : pj_R l g mdL_law (px_XL t g L xs) Z pj_NK c0 s0 519 (px_LS i) [] M := by
  refine pj_aload_n 520 1 rfl rfl rfl rfl ?_
  refine px_arg (ex := []) 526 1 hL (by omega) (by omega) rfl rfl rfl rfl rfl rfl ?_
  refine px_call 529 11 [.int (pj_I (px_x xs (i + 1)))] [] px_o0 (s_X11_onwards hg px_o0 (p_onwards inv px_x_in)) plL_71 rfl rfl rfl rfl (Nat.zero_le _) ⟨by decide, by decide⟩ ⟨rfl, rfl⟩ hc (fun r M1 hw => ?_)
  refine pj_aload_n 530 2 rfl rfl rfl rfl ?_
  refine px_arg (ex := []) 536 1 hL (by omega) (by omega) rfl rfl rfl rfl rfl rfl ?_
  refine px_call 539 12 [.int (pj_I (px_x xs (i + 1)))] [.int (pj_I r)] px_o203 (s_X12_onwards hg px_o203 hw) plL_74 rfl rfl rfl rfl (Nat.le_of_ble_eq_true rfl) ⟨by decide, by decide⟩ ⟨rfl, rfl⟩ hc (fun r2 M2 hw2 => ?_)
  obtain ⟨rfl, inv2⟩ := hw2
  exact px_same 1287 rfl (by decide) (kk M2 inv2)
set_option maxRecDepth 100000 in
set_option maxHeartbeats 4000000 in
theorem lc_back (hg : pj_ph g = true) (inv : INV M) (hL : L < 2147483648) (h0 : 0 ≤ i) (h1 : i + 4 < L) (hc : c0 ≤ 601024 ∧ s0 ≤ 7293034) (kk : ∀ M', INV M' → pj_R l g mdL_law (px_XL t g L xs) Z pj_NK c0 s0 1287 (px_LS i) [] M') : pj_R l g mdL_law (px_XL t g L xs) Z pj_NK c0 s0 544 (px_LS i) [] M := by
  refine pj_aload_n 545 1 rfl rfl rfl rfl ?_
  refine px_arg (ex := []) 551 1 hL (by omega) (by omega) rfl rfl rfl rfl rfl rfl ?_
  refine px_call 554 11 [.int (pj_I (px_x xs (i + 1)))] [] px_o0 (s_X11_back hg px_o0 (p_back inv px_x_in)) plL_75 rfl rfl rfl rfl (Nat.zero_le _) ⟨by decide, by decide⟩ ⟨rfl, rfl⟩ hc (fun r M1 hw => ?_)
  refine pj_aload_n 555 2 rfl rfl rfl rfl ?_
  refine px_arg (ex := []) 561 1 hL (by omega) (by omega) rfl rfl rfl rfl rfl rfl ?_
  refine px_call 564 12 [.int (pj_I (px_x xs (i + 1)))] [.int (pj_I r)] px_o203 (s_X12_back hg px_o203 hw) plL_78 rfl rfl rfl rfl (Nat.le_of_ble_eq_true rfl) ⟨by decide, by decide⟩ ⟨rfl, rfl⟩ hc (fun r2 M2 hw2 => ?_)
  obtain ⟨rfl, inv2⟩ := hw2
  exact px_same 1287 rfl (by decide) (kk M2 inv2)
set_option maxRecDepth 100000 in
set_option maxHeartbeats 4000000 in
theorem lc_sentence (hg : pj_ph g = true) (inv : INV M) (hL : L < 2147483648) (h0 : 0 ≤ i) (h1 : i + 4 < L) (hc : c0 ≤ 601024 ∧ s0 ≤ 7293034) (kk : ∀ M', INV M' → pj_R l g mdL_law (px_XL t g L xs) Z pj_NK c0 s0 1287 (px_LS i) [] M') : pj_R l g mdL_law (px_XL t g L xs) Z pj_NK c0 s0 569 (px_LS i) [] M := by
  refine pj_aload_n 570 1 rfl rfl rfl rfl ?_
  refine px_call 573 11 [] [] px_o0 (s_X11_sentence hg px_o0 (p_sentence inv)) plL_79 rfl rfl rfl rfl (Nat.zero_le _) ⟨by decide, by decide⟩ ⟨rfl, rfl⟩ hc (fun r M1 hw => ?_)
  refine pj_aload_n 574 2 rfl rfl rfl rfl ?_
  refine px_call 577 12 [] [.int (pj_I r)] px_o203 (s_X12_sentence hg px_o203 hw) plL_82 rfl rfl rfl rfl (Nat.le_of_ble_eq_true rfl) ⟨by decide, by decide⟩ ⟨rfl, rfl⟩ hc (fun r2 M2 hw2 => ?_)
  obtain ⟨rfl, inv2⟩ := hw2
  exact px_same 1287 rfl (by decide) (kk M2 inv2)
set_option maxRecDepth 100000 in
set_option maxHeartbeats 4000000 in
theorem lc_next (hg : pj_ph g = true) (inv : INV M) (hL : L < 2147483648) (h0 : 0 ≤ i) (h1 : i + 4 < L) (hc : c0 ≤ 601024 ∧ s0 ≤ 7293034) (kk : ∀ M', INV M' → pj_R l g mdL_law (px_XL t g L xs) Z pj_NK c0 s0 1287 (px_LS i) [] M') : pj_R l g mdL_law (px_XL t g L xs) Z pj_NK c0 s0 582 (px_LS i) [] M := by
  refine pj_aload_n 583 1 rfl rfl rfl rfl ?_
  refine px_arg (ex := []) 589 1 hL (by omega) (by omega) rfl rfl rfl rfl rfl rfl ?_
  refine px_arg (ex := []) 595 2 hL (by omega) (by omega) rfl rfl rfl rfl rfl rfl ?_
  refine px_call 598 11 [.int (pj_I (px_x xs (i + 1))), .int (pj_I (px_x xs (i + 2)))] [] px_o0 (s_X11_next hg px_o0 (p_next inv px_x_in px_x_in)) plL_83 rfl rfl rfl rfl (Nat.zero_le _) ⟨by decide, by decide⟩ ⟨rfl, rfl⟩ hc (fun r M1 hw => ?_)
  refine pj_aload_n 599 2 rfl rfl rfl rfl ?_
  refine px_arg (ex := []) 605 1 hL (by omega) (by omega) rfl rfl rfl rfl rfl rfl ?_
  refine px_arg (ex := []) 611 2 hL (by omega) (by omega) rfl rfl rfl rfl rfl rfl ?_
  refine px_call 614 12 [.int (pj_I (px_x xs (i + 1))), .int (pj_I (px_x xs (i + 2)))] [.int (pj_I r)] px_o203 (s_X12_next hg px_o203 hw) plL_86 rfl rfl rfl rfl (Nat.le_of_ble_eq_true rfl) ⟨by decide, by decide⟩ ⟨rfl, rfl⟩ hc (fun r2 M2 hw2 => ?_)
  obtain ⟨rfl, inv2⟩ := hw2
  exact px_same 1287 rfl (by decide) (kk M2 inv2)
set_option maxRecDepth 100000 in
set_option maxHeartbeats 4000000 in
theorem lc_ahead (hg : pj_ph g = true) (inv : INV M) (hL : L < 2147483648) (h0 : 0 ≤ i) (h1 : i + 4 < L) (hc : c0 ≤ 601024 ∧ s0 ≤ 7293034) (kk : ∀ M', INV M' → pj_R l g mdL_law (px_XL t g L xs) Z pj_NK c0 s0 1287 (px_LS i) [] M') : pj_R l g mdL_law (px_XL t g L xs) Z pj_NK c0 s0 619 (px_LS i) [] M := by
  refine pj_aload_n 620 1 rfl rfl rfl rfl ?_
  refine px_arg (ex := []) 626 1 hL (by omega) (by omega) rfl rfl rfl rfl rfl rfl ?_
  refine px_arg (ex := []) 632 2 hL (by omega) (by omega) rfl rfl rfl rfl rfl rfl ?_
  refine px_call 635 11 [.int (pj_I (px_x xs (i + 1))), .int (pj_I (px_x xs (i + 2)))] [] px_o0 (s_X11_ahead hg px_o0 (p_ahead inv px_x_in px_x_in)) plL_87 rfl rfl rfl rfl (Nat.zero_le _) ⟨by decide, by decide⟩ ⟨rfl, rfl⟩ hc (fun r M1 hw => ?_)
  refine pj_aload_n 636 2 rfl rfl rfl rfl ?_
  refine px_arg (ex := []) 642 1 hL (by omega) (by omega) rfl rfl rfl rfl rfl rfl ?_
  refine px_arg (ex := []) 648 2 hL (by omega) (by omega) rfl rfl rfl rfl rfl rfl ?_
  refine px_call 651 12 [.int (pj_I (px_x xs (i + 1))), .int (pj_I (px_x xs (i + 2)))] [.int (pj_I r)] px_o203 (s_X12_ahead hg px_o203 hw) plL_90 rfl rfl rfl rfl (Nat.le_of_ble_eq_true rfl) ⟨by decide, by decide⟩ ⟨rfl, rfl⟩ hc (fun r2 M2 hw2 => ?_)
  obtain ⟨rfl, inv2⟩ := hw2
  exact px_same 1287 rfl (by decide) (kk M2 inv2)
set_option maxRecDepth 100000 in
set_option maxHeartbeats 4000000 in
theorem lc_yields (hg : pj_ph g = true) (inv : INV M) (hL : L < 2147483648) (h0 : 0 ≤ i) (h1 : i + 4 < L) (hc : c0 ≤ 601024 ∧ s0 ≤ 7293034) (kk : ∀ M', INV M' → pj_R l g mdL_law (px_XL t g L xs) Z pj_NK c0 s0 1287 (px_LS i) [] M') : pj_R l g mdL_law (px_XL t g L xs) Z pj_NK c0 s0 656 (px_LS i) [] M := by
  refine pj_aload_n 657 1 rfl rfl rfl rfl ?_
  refine px_arg (ex := []) 663 1 hL (by omega) (by omega) rfl rfl rfl rfl rfl rfl ?_
  refine px_arg (ex := []) 669 2 hL (by omega) (by omega) rfl rfl rfl rfl rfl rfl ?_
  refine px_arg (ex := []) 675 3 hL (by omega) (by omega) rfl rfl rfl rfl rfl rfl ?_
  refine px_arg (ex := []) 681 4 hL (by omega) (by omega) rfl rfl rfl rfl rfl rfl ?_
  refine px_call 684 11 [.int (pj_I (px_x xs (i + 1))), .int (pj_I (px_x xs (i + 2))), .int (pj_I (px_x xs (i + 3))), .int (pj_I (px_x xs (i + 4)))] [] px_o0 (s_X11_yields hg px_o0 (p_yields inv px_x_in px_x_in px_x_in px_x_in)) plL_91 rfl rfl rfl rfl (Nat.zero_le _) ⟨by decide, by decide⟩ ⟨rfl, rfl⟩ hc (fun r M1 hw => ?_)
  refine pj_aload_n 685 2 rfl rfl rfl rfl ?_
  refine px_arg (ex := []) 691 1 hL (by omega) (by omega) rfl rfl rfl rfl rfl rfl ?_
  refine px_arg (ex := []) 697 2 hL (by omega) (by omega) rfl rfl rfl rfl rfl rfl ?_
  refine px_arg (ex := []) 703 3 hL (by omega) (by omega) rfl rfl rfl rfl rfl rfl ?_
  refine px_arg (ex := []) 709 4 hL (by omega) (by omega) rfl rfl rfl rfl rfl rfl ?_
  refine px_call 712 12 [.int (pj_I (px_x xs (i + 1))), .int (pj_I (px_x xs (i + 2))), .int (pj_I (px_x xs (i + 3))), .int (pj_I (px_x xs (i + 4)))] [.int (pj_I r)] px_o203 (s_X12_yields hg px_o203 hw) plL_94 rfl rfl rfl rfl (Nat.le_of_ble_eq_true rfl) ⟨by decide, by decide⟩ ⟨rfl, rfl⟩ hc (fun r2 M2 hw2 => ?_)
  obtain ⟨rfl, inv2⟩ := hw2
  exact px_same 1287 rfl (by decide) (kk M2 inv2)
set_option maxRecDepth 100000 in
set_option maxHeartbeats 4000000 in
theorem lc_report (hg : pj_ph g = true) (inv : INV M) (hL : L < 2147483648) (h0 : 0 ≤ i) (h1 : i + 4 < L) (hc : c0 ≤ 601024 ∧ s0 ≤ 7293034) (kk : ∀ M', INV M' → pj_R l g mdL_law (px_XL t g L xs) Z pj_NK c0 s0 1287 (px_LS i) [] M') : pj_R l g mdL_law (px_XL t g L xs) Z pj_NK c0 s0 717 (px_LS i) [] M := by
  refine pj_aload_n 718 1 rfl rfl rfl rfl ?_
  refine px_call 721 11 [] [] px_o0 (s_X11_report hg px_o0 (p_report inv)) plL_95 rfl rfl rfl rfl (Nat.zero_le _) ⟨by decide, by decide⟩ ⟨rfl, rfl⟩ hc (fun r M1 hw => ?_)
  refine pj_aload_n 722 2 rfl rfl rfl rfl ?_
  refine px_call 725 12 [] [.int (pj_I r)] px_o203 (s_X12_report hg px_o203 hw) plL_98 rfl rfl rfl rfl (Nat.le_of_ble_eq_true rfl) ⟨by decide, by decide⟩ ⟨rfl, rfl⟩ hc (fun r2 M2 hw2 => ?_)
  obtain ⟨rfl, inv2⟩ := hw2
  exact px_same 1287 rfl (by decide) (kk M2 inv2)
set_option maxRecDepth 100000 in
set_option maxHeartbeats 4000000 in
theorem lc_backwards (hg : pj_ph g = true) (inv : INV M) (hL : L < 2147483648) (h0 : 0 ≤ i) (h1 : i + 4 < L) (hc : c0 ≤ 601024 ∧ s0 ≤ 7293034) (kk : ∀ M', INV M' → pj_R l g mdL_law (px_XL t g L xs) Z pj_NK c0 s0 1287 (px_LS i) [] M') : pj_R l g mdL_law (px_XL t g L xs) Z pj_NK c0 s0 730 (px_LS i) [] M := by
  refine pj_aload_n 731 1 rfl rfl rfl rfl ?_
  refine px_call 734 11 [] [] px_o0 (s_X11_backwards hg px_o0 (p_backwards inv)) plL_99 rfl rfl rfl rfl (Nat.zero_le _) ⟨by decide, by decide⟩ ⟨rfl, rfl⟩ hc (fun r M1 hw => ?_)
  refine pj_aload_n 735 2 rfl rfl rfl rfl ?_
  refine px_call 738 12 [] [.int (pj_I r)] px_o203 (s_X12_backwards hg px_o203 hw) plL_102 rfl rfl rfl rfl (Nat.le_of_ble_eq_true rfl) ⟨by decide, by decide⟩ ⟨rfl, rfl⟩ hc (fun r2 M2 hw2 => ?_)
  obtain ⟨rfl, inv2⟩ := hw2
  exact px_same 1287 rfl (by decide) (kk M2 inv2)
set_option maxRecDepth 100000 in
set_option maxHeartbeats 4000000 in
theorem lc_led (hg : pj_ph g = true) (inv : INV M) (hL : L < 2147483648) (h0 : 0 ≤ i) (h1 : i + 4 < L) (hc : c0 ≤ 601024 ∧ s0 ≤ 7293034) (kk : ∀ M', INV M' → pj_R l g mdL_law (px_XL t g L xs) Z pj_NK c0 s0 1287 (px_LS i) [] M') : pj_R l g mdL_law (px_XL t g L xs) Z pj_NK c0 s0 743 (px_LS i) [] M := by
  refine pj_aload_n 744 1 rfl rfl rfl rfl ?_
  refine px_call 747 11 [] [] px_o0 (s_X11_led hg px_o0 (p_led inv)) plL_103 rfl rfl rfl rfl (Nat.zero_le _) ⟨by decide, by decide⟩ ⟨rfl, rfl⟩ hc (fun r M1 hw => ?_)
  refine pj_aload_n 748 2 rfl rfl rfl rfl ?_
  refine px_call 751 12 [] [.int (pj_I r)] px_o203 (s_X12_led hg px_o203 hw) plL_106 rfl rfl rfl rfl (Nat.le_of_ble_eq_true rfl) ⟨by decide, by decide⟩ ⟨rfl, rfl⟩ hc (fun r2 M2 hw2 => ?_)
  obtain ⟨rfl, inv2⟩ := hw2
  exact px_same 1287 rfl (by decide) (kk M2 inv2)
set_option maxRecDepth 100000 in
set_option maxHeartbeats 4000000 in
theorem lc_least (hg : pj_ph g = true) (inv : INV M) (hL : L < 2147483648) (h0 : 0 ≤ i) (h1 : i + 4 < L) (hc : c0 ≤ 601024 ∧ s0 ≤ 7293034) (kk : ∀ M', INV M' → pj_R l g mdL_law (px_XL t g L xs) Z pj_NK c0 s0 1287 (px_LS i) [] M') : pj_R l g mdL_law (px_XL t g L xs) Z pj_NK c0 s0 756 (px_LS i) [] M := by
  refine pj_aload_n 757 1 rfl rfl rfl rfl ?_
  refine px_call 760 11 [] [] px_o0 (s_X11_least hg px_o0 (p_least inv)) plL_107 rfl rfl rfl rfl (Nat.zero_le _) ⟨by decide, by decide⟩ ⟨rfl, rfl⟩ hc (fun r M1 hw => ?_)
  refine pj_aload_n 761 2 rfl rfl rfl rfl ?_
  refine px_call 764 12 [] [.int (pj_I r)] px_o203 (s_X12_least hg px_o203 hw) plL_110 rfl rfl rfl rfl (Nat.le_of_ble_eq_true rfl) ⟨by decide, by decide⟩ ⟨rfl, rfl⟩ hc (fun r2 M2 hw2 => ?_)
  obtain ⟨rfl, inv2⟩ := hw2
  exact px_same 1287 rfl (by decide) (kk M2 inv2)
set_option maxRecDepth 100000 in
set_option maxHeartbeats 4000000 in
theorem lc_mate (hg : pj_ph g = true) (inv : INV M) (hL : L < 2147483648) (h0 : 0 ≤ i) (h1 : i + 4 < L) (hc : c0 ≤ 601024 ∧ s0 ≤ 7293034) (kk : ∀ M', INV M' → pj_R l g mdL_law (px_XL t g L xs) Z pj_NK c0 s0 1287 (px_LS i) [] M') : pj_R l g mdL_law (px_XL t g L xs) Z pj_NK c0 s0 769 (px_LS i) [] M := by
  refine pj_aload_n 770 1 rfl rfl rfl rfl ?_
  refine px_arg (ex := []) 776 1 hL (by omega) (by omega) rfl rfl rfl rfl rfl rfl ?_
  refine px_call 779 11 [.int (pj_I (px_x xs (i + 1)))] [] px_o0 (s_X11_mate hg px_o0 (p_mate inv px_x_in)) plL_111 rfl rfl rfl rfl (Nat.zero_le _) ⟨by decide, by decide⟩ ⟨rfl, rfl⟩ hc (fun r M1 hw => ?_)
  refine pj_aload_n 780 2 rfl rfl rfl rfl ?_
  refine px_arg (ex := []) 786 1 hL (by omega) (by omega) rfl rfl rfl rfl rfl rfl ?_
  refine px_call 789 12 [.int (pj_I (px_x xs (i + 1)))] [.int (pj_I r)] px_o203 (s_X12_mate hg px_o203 hw) plL_114 rfl rfl rfl rfl (Nat.le_of_ble_eq_true rfl) ⟨by decide, by decide⟩ ⟨rfl, rfl⟩ hc (fun r2 M2 hw2 => ?_)
  obtain ⟨rfl, inv2⟩ := hw2
  exact px_same 1287 rfl (by decide) (kk M2 inv2)
set_option maxRecDepth 100000 in
set_option maxHeartbeats 4000000 in
theorem lc_needed (hg : pj_ph g = true) (inv : INV M) (hL : L < 2147483648) (h0 : 0 ≤ i) (h1 : i + 4 < L) (hc : c0 ≤ 601024 ∧ s0 ≤ 7293034) (kk : ∀ M', INV M' → pj_R l g mdL_law (px_XL t g L xs) Z pj_NK c0 s0 1287 (px_LS i) [] M') : pj_R l g mdL_law (px_XL t g L xs) Z pj_NK c0 s0 794 (px_LS i) [] M := by
  refine pj_aload_n 795 1 rfl rfl rfl rfl ?_
  refine px_call 798 11 [] [] px_o0 (s_X11_needed hg px_o0 (p_needed inv)) plL_115 rfl rfl rfl rfl (Nat.zero_le _) ⟨by decide, by decide⟩ ⟨rfl, rfl⟩ hc (fun r M1 hw => ?_)
  refine pj_aload_n 799 2 rfl rfl rfl rfl ?_
  refine px_call 802 12 [] [.int (pj_I r)] px_o203 (s_X12_needed hg px_o203 hw) plL_118 rfl rfl rfl rfl (Nat.le_of_ble_eq_true rfl) ⟨by decide, by decide⟩ ⟨rfl, rfl⟩ hc (fun r2 M2 hw2 => ?_)
  obtain ⟨rfl, inv2⟩ := hw2
  exact px_same 1287 rfl (by decide) (kk M2 inv2)
set_option maxRecDepth 100000 in
set_option maxHeartbeats 4000000 in
theorem lc_without (hg : pj_ph g = true) (inv : INV M) (hL : L < 2147483648) (h0 : 0 ≤ i) (h1 : i + 4 < L) (hc : c0 ≤ 601024 ∧ s0 ≤ 7293034) (kk : ∀ M', INV M' → pj_R l g mdL_law (px_XL t g L xs) Z pj_NK c0 s0 1287 (px_LS i) [] M') : pj_R l g mdL_law (px_XL t g L xs) Z pj_NK c0 s0 807 (px_LS i) [] M := by
  refine pj_aload_n 808 1 rfl rfl rfl rfl ?_
  refine px_arg (ex := []) 814 1 hL (by omega) (by omega) rfl rfl rfl rfl rfl rfl ?_
  refine px_call 817 11 [.int (pj_I (px_x xs (i + 1)))] [] px_o0 (s_X11_without hg px_o0 (p_without inv px_x_in)) plL_119 rfl rfl rfl rfl (Nat.zero_le _) ⟨by decide, by decide⟩ ⟨rfl, rfl⟩ hc (fun r M1 hw => ?_)
  refine pj_aload_n 818 2 rfl rfl rfl rfl ?_
  refine px_arg (ex := []) 824 1 hL (by omega) (by omega) rfl rfl rfl rfl rfl rfl ?_
  refine px_call 827 12 [.int (pj_I (px_x xs (i + 1)))] [.int (pj_I r)] px_o203 (s_X12_without hg px_o203 hw) plL_122 rfl rfl rfl rfl (Nat.le_of_ble_eq_true rfl) ⟨by decide, by decide⟩ ⟨rfl, rfl⟩ hc (fun r2 M2 hw2 => ?_)
  obtain ⟨rfl, inv2⟩ := hw2
  exact px_same 1287 rfl (by decide) (kk M2 inv2)
set_option maxRecDepth 100000 in
set_option maxHeartbeats 4000000 in
theorem lc_blames (hg : pj_ph g = true) (inv : INV M) (hL : L < 2147483648) (h0 : 0 ≤ i) (h1 : i + 4 < L) (hc : c0 ≤ 601024 ∧ s0 ≤ 7293034) (kk : ∀ M', INV M' → pj_R l g mdL_law (px_XL t g L xs) Z pj_NK c0 s0 1287 (px_LS i) [] M') : pj_R l g mdL_law (px_XL t g L xs) Z pj_NK c0 s0 832 (px_LS i) [] M := by
  refine pj_aload_n 833 1 rfl rfl rfl rfl ?_
  refine px_call 836 11 [] [] px_o0 (s_X11_blames hg px_o0 (p_blames inv)) plL_123 rfl rfl rfl rfl (Nat.zero_le _) ⟨by decide, by decide⟩ ⟨rfl, rfl⟩ hc (fun r M1 hw => ?_)
  refine pj_aload_n 837 2 rfl rfl rfl rfl ?_
  refine px_call 840 12 [] [.int (pj_I r)] px_o203 (s_X12_blames hg px_o203 hw) plL_126 rfl rfl rfl rfl (Nat.le_of_ble_eq_true rfl) ⟨by decide, by decide⟩ ⟨rfl, rfl⟩ hc (fun r2 M2 hw2 => ?_)
  obtain ⟨rfl, inv2⟩ := hw2
  exact px_same 1287 rfl (by decide) (kk M2 inv2)
set_option maxRecDepth 100000 in
set_option maxHeartbeats 4000000 in
theorem lc_longest (hg : pj_ph g = true) (inv : INV M) (hL : L < 2147483648) (h0 : 0 ≤ i) (h1 : i + 4 < L) (hc : c0 ≤ 601024 ∧ s0 ≤ 7293034) (kk : ∀ M', INV M' → pj_R l g mdL_law (px_XL t g L xs) Z pj_NK c0 s0 1287 (px_LS i) [] M') : pj_R l g mdL_law (px_XL t g L xs) Z pj_NK c0 s0 845 (px_LS i) [] M := by
  refine pj_aload_n 846 1 rfl rfl rfl rfl ?_
  refine px_call 849 11 [] [] px_o0 (s_X11_longest hg px_o0 (p_longest inv)) plL_127 rfl rfl rfl rfl (Nat.zero_le _) ⟨by decide, by decide⟩ ⟨rfl, rfl⟩ hc (fun r M1 hw => ?_)
  refine pj_aload_n 850 2 rfl rfl rfl rfl ?_
  refine px_call 853 12 [] [.int (pj_I r)] px_o203 (s_X12_longest hg px_o203 hw) plL_130 rfl rfl rfl rfl (Nat.le_of_ble_eq_true rfl) ⟨by decide, by decide⟩ ⟨rfl, rfl⟩ hc (fun r2 M2 hw2 => ?_)
  obtain ⟨rfl, inv2⟩ := hw2
  exact px_same 1287 rfl (by decide) (kk M2 inv2)
set_option maxRecDepth 100000 in
set_option maxHeartbeats 4000000 in
theorem lc_weakest (hg : pj_ph g = true) (inv : INV M) (hL : L < 2147483648) (h0 : 0 ≤ i) (h1 : i + 4 < L) (hc : c0 ≤ 601024 ∧ s0 ≤ 7293034) (kk : ∀ M', INV M' → pj_R l g mdL_law (px_XL t g L xs) Z pj_NK c0 s0 1287 (px_LS i) [] M') : pj_R l g mdL_law (px_XL t g L xs) Z pj_NK c0 s0 858 (px_LS i) [] M := by
  refine pj_aload_n 859 1 rfl rfl rfl rfl ?_
  refine px_call 862 11 [] [] px_o0 (s_X11_weakest hg px_o0 (p_weakest inv)) plL_131 rfl rfl rfl rfl (Nat.zero_le _) ⟨by decide, by decide⟩ ⟨rfl, rfl⟩ hc (fun r M1 hw => ?_)
  refine pj_aload_n 863 2 rfl rfl rfl rfl ?_
  refine px_call 866 12 [] [.int (pj_I r)] px_o203 (s_X12_weakest hg px_o203 hw) plL_134 rfl rfl rfl rfl (Nat.le_of_ble_eq_true rfl) ⟨by decide, by decide⟩ ⟨rfl, rfl⟩ hc (fun r2 M2 hw2 => ?_)
  obtain ⟨rfl, inv2⟩ := hw2
  exact px_same 1287 rfl (by decide) (kk M2 inv2)
set_option maxRecDepth 100000 in
set_option maxHeartbeats 4000000 in
theorem lc_wide (hg : pj_ph g = true) (inv : INV M) (hL : L < 2147483648) (h0 : 0 ≤ i) (h1 : i + 4 < L) (hc : c0 ≤ 601024 ∧ s0 ≤ 7293034) (kk : ∀ M', INV M' → pj_R l g mdL_law (px_XL t g L xs) Z pj_NK c0 s0 1287 (px_LS i) [] M') : pj_R l g mdL_law (px_XL t g L xs) Z pj_NK c0 s0 871 (px_LS i) [] M := by
  refine pj_aload_n 872 1 rfl rfl rfl rfl ?_
  refine px_arg (ex := []) 878 1 hL (by omega) (by omega) rfl rfl rfl rfl rfl rfl ?_
  refine px_call 881 11 [.int (pj_I (px_x xs (i + 1)))] [] px_o0 (s_X11_wide hg px_o0 (p_wide inv px_x_in)) plL_135 rfl rfl rfl rfl (Nat.zero_le _) ⟨by decide, by decide⟩ ⟨rfl, rfl⟩ hc (fun r M1 hw => ?_)
  refine pj_aload_n 882 2 rfl rfl rfl rfl ?_
  refine px_arg (ex := []) 888 1 hL (by omega) (by omega) rfl rfl rfl rfl rfl rfl ?_
  refine px_call 891 12 [.int (pj_I (px_x xs (i + 1)))] [.int (pj_I r)] px_o203 (s_X12_wide hg px_o203 hw) plL_138 rfl rfl rfl rfl (Nat.le_of_ble_eq_true rfl) ⟨by decide, by decide⟩ ⟨rfl, rfl⟩ hc (fun r2 M2 hw2 => ?_)
  obtain ⟨rfl, inv2⟩ := hw2
  exact px_same 1287 rfl (by decide) (kk M2 inv2)
set_option maxRecDepth 100000 in
set_option maxHeartbeats 4000000 in
theorem lc_capital (hg : pj_ph g = true) (inv : INV M) (hL : L < 2147483648) (h0 : 0 ≤ i) (h1 : i + 4 < L) (hc : c0 ≤ 601024 ∧ s0 ≤ 7293034) (kk : ∀ M', INV M' → pj_R l g mdL_law (px_XL t g L xs) Z pj_NK c0 s0 1287 (px_LS i) [] M') : pj_R l g mdL_law (px_XL t g L xs) Z pj_NK c0 s0 896 (px_LS i) [] M := by
  refine pj_aload_n 897 1 rfl rfl rfl rfl ?_
  refine px_arg (ex := []) 903 1 hL (by omega) (by omega) rfl rfl rfl rfl rfl rfl ?_
  refine px_arg (ex := []) 909 2 hL (by omega) (by omega) rfl rfl rfl rfl rfl rfl ?_
  refine px_call 912 11 [.int (pj_I (px_x xs (i + 1))), .int (pj_I (px_x xs (i + 2)))] [] px_o0 (s_X11_capital hg px_o0 (p_capital inv px_x_in px_x_in)) plL_139 rfl rfl rfl rfl (Nat.zero_le _) ⟨by decide, by decide⟩ ⟨rfl, rfl⟩ hc (fun r M1 hw => ?_)
  refine pj_aload_n 913 2 rfl rfl rfl rfl ?_
  refine px_arg (ex := []) 919 1 hL (by omega) (by omega) rfl rfl rfl rfl rfl rfl ?_
  refine px_arg (ex := []) 925 2 hL (by omega) (by omega) rfl rfl rfl rfl rfl rfl ?_
  refine px_call 928 12 [.int (pj_I (px_x xs (i + 1))), .int (pj_I (px_x xs (i + 2)))] [.int (pj_I r)] px_o203 (s_X12_capital hg px_o203 hw) plL_142 rfl rfl rfl rfl (Nat.le_of_ble_eq_true rfl) ⟨by decide, by decide⟩ ⟨rfl, rfl⟩ hc (fun r2 M2 hw2 => ?_)
  obtain ⟨rfl, inv2⟩ := hw2
  exact px_same 1287 rfl (by decide) (kk M2 inv2)
set_option maxRecDepth 100000 in
set_option maxHeartbeats 4000000 in
theorem lc_sentences (hg : pj_ph g = true) (inv : INV M) (hL : L < 2147483648) (h0 : 0 ≤ i) (h1 : i + 4 < L) (hc : c0 ≤ 601024 ∧ s0 ≤ 7293034) (kk : ∀ M', INV M' → pj_R l g mdL_law (px_XL t g L xs) Z pj_NK c0 s0 1287 (px_LS i) [] M') : pj_R l g mdL_law (px_XL t g L xs) Z pj_NK c0 s0 933 (px_LS i) [] M := by
  refine pj_aload_n 934 1 rfl rfl rfl rfl ?_
  refine px_arg (ex := []) 940 1 hL (by omega) (by omega) rfl rfl rfl rfl rfl rfl ?_
  refine px_call 943 11 [.int (pj_I (px_x xs (i + 1)))] [] px_o0 (s_X11_sentences hg px_o0 (p_sentences inv px_x_in)) plL_143 rfl rfl rfl rfl (Nat.zero_le _) ⟨by decide, by decide⟩ ⟨rfl, rfl⟩ hc (fun r M1 hw => ?_)
  refine pj_aload_n 944 2 rfl rfl rfl rfl ?_
  refine px_arg (ex := []) 950 1 hL (by omega) (by omega) rfl rfl rfl rfl rfl rfl ?_
  refine px_call 953 12 [.int (pj_I (px_x xs (i + 1)))] [.int (pj_I r)] px_o203 (s_X12_sentences hg px_o203 hw) plL_146 rfl rfl rfl rfl (Nat.le_of_ble_eq_true rfl) ⟨by decide, by decide⟩ ⟨rfl, rfl⟩ hc (fun r2 M2 hw2 => ?_)
  obtain ⟨rfl, inv2⟩ := hw2
  exact px_same 1287 rfl (by decide) (kk M2 inv2)
set_option maxRecDepth 100000 in
set_option maxHeartbeats 4000000 in
theorem lc_apart (hg : pj_ph g = true) (inv : INV M) (hL : L < 2147483648) (h0 : 0 ≤ i) (h1 : i + 4 < L) (hc : c0 ≤ 601024 ∧ s0 ≤ 7293034) (kk : ∀ M', INV M' → pj_R l g mdL_law (px_XL t g L xs) Z pj_NK c0 s0 1287 (px_LS i) [] M') : pj_R l g mdL_law (px_XL t g L xs) Z pj_NK c0 s0 958 (px_LS i) [] M := by
  refine pj_aload_n 959 1 rfl rfl rfl rfl ?_
  refine px_arg (ex := []) 965 1 hL (by omega) (by omega) rfl rfl rfl rfl rfl rfl ?_
  refine px_arg (ex := []) 971 2 hL (by omega) (by omega) rfl rfl rfl rfl rfl rfl ?_
  refine px_call 974 11 [.int (pj_I (px_x xs (i + 1))), .int (pj_I (px_x xs (i + 2)))] [] px_o0 (s_X11_apart hg px_o0 (p_apart inv px_x_in px_x_in)) plL_147 rfl rfl rfl rfl (Nat.zero_le _) ⟨by decide, by decide⟩ ⟨rfl, rfl⟩ hc (fun r M1 hw => ?_)
  refine pj_aload_n 975 2 rfl rfl rfl rfl ?_
  refine px_arg (ex := []) 981 1 hL (by omega) (by omega) rfl rfl rfl rfl rfl rfl ?_
  refine px_arg (ex := []) 987 2 hL (by omega) (by omega) rfl rfl rfl rfl rfl rfl ?_
  refine px_call 990 12 [.int (pj_I (px_x xs (i + 1))), .int (pj_I (px_x xs (i + 2)))] [.int (pj_I r)] px_o203 (s_X12_apart hg px_o203 hw) plL_150 rfl rfl rfl rfl (Nat.le_of_ble_eq_true rfl) ⟨by decide, by decide⟩ ⟨rfl, rfl⟩ hc (fun r2 M2 hw2 => ?_)
  obtain ⟨rfl, inv2⟩ := hw2
  exact px_same 1287 rfl (by decide) (kk M2 inv2)
set_option maxRecDepth 100000 in
set_option maxHeartbeats 4000000 in
theorem lc_becomes (hg : pj_ph g = true) (inv : INV M) (hL : L < 2147483648) (h0 : 0 ≤ i) (h1 : i + 4 < L) (hc : c0 ≤ 601024 ∧ s0 ≤ 7293034) (kk : ∀ M', INV M' → pj_R l g mdL_law (px_XL t g L xs) Z pj_NK c0 s0 1287 (px_LS i) [] M') : pj_R l g mdL_law (px_XL t g L xs) Z pj_NK c0 s0 995 (px_LS i) [] M := by
  refine pj_aload_n 996 1 rfl rfl rfl rfl ?_
  refine px_arg (ex := []) 1002 1 hL (by omega) (by omega) rfl rfl rfl rfl rfl rfl ?_
  refine px_arg (ex := []) 1008 2 hL (by omega) (by omega) rfl rfl rfl rfl rfl rfl ?_
  refine px_call 1011 11 [.int (pj_I (px_x xs (i + 1))), .int (pj_I (px_x xs (i + 2)))] [] px_o0 (s_X11_becomes hg px_o0 (p_becomes inv px_x_in px_x_in)) plL_151 rfl rfl rfl rfl (Nat.zero_le _) ⟨by decide, by decide⟩ ⟨rfl, rfl⟩ hc (fun r M1 hw => ?_)
  refine pj_aload_n 1012 2 rfl rfl rfl rfl ?_
  refine px_arg (ex := []) 1018 1 hL (by omega) (by omega) rfl rfl rfl rfl rfl rfl ?_
  refine px_arg (ex := []) 1024 2 hL (by omega) (by omega) rfl rfl rfl rfl rfl rfl ?_
  refine px_call 1027 12 [.int (pj_I (px_x xs (i + 1))), .int (pj_I (px_x xs (i + 2)))] [.int (pj_I r)] px_o203 (s_X12_becomes hg px_o203 hw) plL_154 rfl rfl rfl rfl (Nat.le_of_ble_eq_true rfl) ⟨by decide, by decide⟩ ⟨rfl, rfl⟩ hc (fun r2 M2 hw2 => ?_)
  obtain ⟨rfl, inv2⟩ := hw2
  exact px_same 1287 rfl (by decide) (kk M2 inv2)
set_option maxRecDepth 100000 in
set_option maxHeartbeats 4000000 in
theorem lc_comes (hg : pj_ph g = true) (inv : INV M) (hL : L < 2147483648) (h0 : 0 ≤ i) (h1 : i + 4 < L) (hc : c0 ≤ 601024 ∧ s0 ≤ 7293034) (kk : ∀ M', INV M' → pj_R l g mdL_law (px_XL t g L xs) Z pj_NK c0 s0 1287 (px_LS i) [] M') : pj_R l g mdL_law (px_XL t g L xs) Z pj_NK c0 s0 1032 (px_LS i) [] M := by
  refine pj_aload_n 1033 1 rfl rfl rfl rfl ?_
  refine px_arg (ex := []) 1039 1 hL (by omega) (by omega) rfl rfl rfl rfl rfl rfl ?_
  refine px_arg (ex := []) 1045 2 hL (by omega) (by omega) rfl rfl rfl rfl rfl rfl ?_
  refine px_call 1048 11 [.int (pj_I (px_x xs (i + 1))), .int (pj_I (px_x xs (i + 2)))] [] px_o0 (s_X11_comes hg px_o0 (p_comes inv px_x_in px_x_in)) plL_155 rfl rfl rfl rfl (Nat.zero_le _) ⟨by decide, by decide⟩ ⟨rfl, rfl⟩ hc (fun r M1 hw => ?_)
  refine pj_aload_n 1049 2 rfl rfl rfl rfl ?_
  refine px_arg (ex := []) 1055 1 hL (by omega) (by omega) rfl rfl rfl rfl rfl rfl ?_
  refine px_arg (ex := []) 1061 2 hL (by omega) (by omega) rfl rfl rfl rfl rfl rfl ?_
  refine px_call 1064 12 [.int (pj_I (px_x xs (i + 1))), .int (pj_I (px_x xs (i + 2)))] [.int (pj_I r)] px_o203 (s_X12_comes hg px_o203 hw) plL_158 rfl rfl rfl rfl (Nat.le_of_ble_eq_true rfl) ⟨by decide, by decide⟩ ⟨rfl, rfl⟩ hc (fun r2 M2 hw2 => ?_)
  obtain ⟨rfl, inv2⟩ := hw2
  exact px_same 1287 rfl (by decide) (kk M2 inv2)
set_option maxRecDepth 100000 in
set_option maxHeartbeats 4000000 in
theorem lc_goes (hg : pj_ph g = true) (inv : INV M) (hL : L < 2147483648) (h0 : 0 ≤ i) (h1 : i + 4 < L) (hc : c0 ≤ 601024 ∧ s0 ≤ 7293034) (kk : ∀ M', INV M' → pj_R l g mdL_law (px_XL t g L xs) Z pj_NK c0 s0 1287 (px_LS i) [] M') : pj_R l g mdL_law (px_XL t g L xs) Z pj_NK c0 s0 1069 (px_LS i) [] M := by
  refine pj_aload_n 1070 1 rfl rfl rfl rfl ?_
  refine px_arg (ex := []) 1076 1 hL (by omega) (by omega) rfl rfl rfl rfl rfl rfl ?_
  refine px_call 1079 11 [.int (pj_I (px_x xs (i + 1)))] [] px_o0 (s_X11_goes hg px_o0 (p_goes inv px_x_in)) plL_159 rfl rfl rfl rfl (Nat.zero_le _) ⟨by decide, by decide⟩ ⟨rfl, rfl⟩ hc (fun r M1 hw => ?_)
  refine pj_aload_n 1080 2 rfl rfl rfl rfl ?_
  refine px_arg (ex := []) 1086 1 hL (by omega) (by omega) rfl rfl rfl rfl rfl rfl ?_
  refine px_call 1089 12 [.int (pj_I (px_x xs (i + 1)))] [.int (pj_I r)] px_o203 (s_X12_goes hg px_o203 hw) plL_162 rfl rfl rfl rfl (Nat.le_of_ble_eq_true rfl) ⟨by decide, by decide⟩ ⟨rfl, rfl⟩ hc (fun r2 M2 hw2 => ?_)
  obtain ⟨rfl, inv2⟩ := hw2
  exact px_same 1287 rfl (by decide) (kk M2 inv2)
set_option maxRecDepth 100000 in
set_option maxHeartbeats 4000000 in
theorem lc_day (hg : pj_ph g = true) (inv : INV M) (hL : L < 2147483648) (h0 : 0 ≤ i) (h1 : i + 4 < L) (hc : c0 ≤ 601024 ∧ s0 ≤ 7293034) (kk : ∀ M', INV M' → pj_R l g mdL_law (px_XL t g L xs) Z pj_NK c0 s0 1287 (px_LS i) [] M') : pj_R l g mdL_law (px_XL t g L xs) Z pj_NK c0 s0 1094 (px_LS i) [] M := by
  refine pj_aload_n 1095 1 rfl rfl rfl rfl ?_
  refine px_call 1098 11 [] [] px_o0 (s_X11_day hg px_o0 (p_day inv)) plL_163 rfl rfl rfl rfl (Nat.zero_le _) ⟨by decide, by decide⟩ ⟨rfl, rfl⟩ hc (fun r M1 hw => ?_)
  refine pj_aload_n 1099 2 rfl rfl rfl rfl ?_
  refine px_call 1102 12 [] [.int (pj_I r)] px_o203 (s_X12_day hg px_o203 hw) plL_166 rfl rfl rfl rfl (Nat.le_of_ble_eq_true rfl) ⟨by decide, by decide⟩ ⟨rfl, rfl⟩ hc (fun r2 M2 hw2 => ?_)
  obtain ⟨rfl, inv2⟩ := hw2
  exact px_same 1287 rfl (by decide) (kk M2 inv2)
set_option maxRecDepth 100000 in
set_option maxHeartbeats 4000000 in
theorem lc_undo (hg : pj_ph g = true) (inv : INV M) (hL : L < 2147483648) (h0 : 0 ≤ i) (h1 : i + 4 < L) (hc : c0 ≤ 601024 ∧ s0 ≤ 7293034) (kk : ∀ M', INV M' → pj_R l g mdL_law (px_XL t g L xs) Z pj_NK c0 s0 1287 (px_LS i) [] M') : pj_R l g mdL_law (px_XL t g L xs) Z pj_NK c0 s0 1107 (px_LS i) [] M := by
  refine pj_aload_n 1108 1 rfl rfl rfl rfl ?_
  refine px_call 1111 11 [] [] px_o0 (s_X11_undo hg px_o0 (p_undo inv)) plL_167 rfl rfl rfl rfl (Nat.zero_le _) ⟨by decide, by decide⟩ ⟨rfl, rfl⟩ hc (fun r M1 hw => ?_)
  refine pj_aload_n 1112 2 rfl rfl rfl rfl ?_
  refine px_call 1115 12 [] [.int (pj_I r)] px_o203 (s_X12_undo hg px_o203 hw) plL_170 rfl rfl rfl rfl (Nat.le_of_ble_eq_true rfl) ⟨by decide, by decide⟩ ⟨rfl, rfl⟩ hc (fun r2 M2 hw2 => ?_)
  obtain ⟨rfl, inv2⟩ := hw2
  exact px_same 1287 rfl (by decide) (kk M2 inv2)
set_option maxRecDepth 100000 in
set_option maxHeartbeats 4000000 in
theorem lc_years (hg : pj_ph g = true) (inv : INV M) (hL : L < 2147483648) (h0 : 0 ≤ i) (h1 : i + 4 < L) (hc : c0 ≤ 601024 ∧ s0 ≤ 7293034) (kk : ∀ M', INV M' → pj_R l g mdL_law (px_XL t g L xs) Z pj_NK c0 s0 1287 (px_LS i) [] M') : pj_R l g mdL_law (px_XL t g L xs) Z pj_NK c0 s0 1120 (px_LS i) [] M := by
  refine pj_aload_n 1121 1 rfl rfl rfl rfl ?_
  refine px_arg (ex := []) 1127 1 hL (by omega) (by omega) rfl rfl rfl rfl rfl rfl ?_
  refine px_arg (ex := []) 1133 2 hL (by omega) (by omega) rfl rfl rfl rfl rfl rfl ?_
  refine px_call 1136 11 [.int (pj_I (px_x xs (i + 1))), .int (pj_I (px_x xs (i + 2)))] [] px_o0 (s_X11_years hg px_o0 (p_years inv px_x_in)) plL_171 rfl rfl rfl rfl (Nat.zero_le _) ⟨by decide, by decide⟩ ⟨rfl, rfl⟩ hc (fun r M1 hw => ?_)
  refine pj_aload_n 1137 2 rfl rfl rfl rfl ?_
  refine px_arg (ex := []) 1143 1 hL (by omega) (by omega) rfl rfl rfl rfl rfl rfl ?_
  refine px_arg (ex := []) 1149 2 hL (by omega) (by omega) rfl rfl rfl rfl rfl rfl ?_
  refine px_call 1152 12 [.int (pj_I (px_x xs (i + 1))), .int (pj_I (px_x xs (i + 2)))] [.int (pj_I r)] px_o203 (s_X12_years hg px_o203 hw) plL_174 rfl rfl rfl rfl (Nat.le_of_ble_eq_true rfl) ⟨by decide, by decide⟩ ⟨rfl, rfl⟩ hc (fun r2 M2 hw2 => ?_)
  obtain ⟨rfl, inv2⟩ := hw2
  exact px_same 1287 rfl (by decide) (kk M2 inv2)
set_option maxRecDepth 100000 in
set_option maxHeartbeats 4000000 in
theorem lc_keep (hg : pj_ph g = true) (inv : INV M) (hL : L < 2147483648) (h0 : 0 ≤ i) (h1 : i + 4 < L) (hc : c0 ≤ 601024 ∧ s0 ≤ 7293034) (kk : ∀ M', INV M' → pj_R l g mdL_law (px_XL t g L xs) Z pj_NK c0 s0 1287 (px_LS i) [] M') : pj_R l g mdL_law (px_XL t g L xs) Z pj_NK c0 s0 1157 (px_LS i) [] M := by
  refine pj_aload_n 1158 1 rfl rfl rfl rfl ?_
  refine px_arg (ex := []) 1164 1 hL (by omega) (by omega) rfl rfl rfl rfl rfl rfl ?_
  refine px_call 1167 11 [.int (pj_I (px_x xs (i + 1)))] [] px_o0 (s_X11_keep hg px_o0 (p_keep inv px_x_in)) plL_175 rfl rfl rfl rfl (Nat.zero_le _) ⟨by decide, by decide⟩ ⟨rfl, rfl⟩ hc (fun r M1 hw => ?_)
  refine pj_aload_n 1168 2 rfl rfl rfl rfl ?_
  refine px_arg (ex := []) 1174 1 hL (by omega) (by omega) rfl rfl rfl rfl rfl rfl ?_
  refine px_call 1177 12 [.int (pj_I (px_x xs (i + 1)))] [.int (pj_I r)] px_o203 (s_X12_keep hg px_o203 hw) plL_178 rfl rfl rfl rfl (Nat.le_of_ble_eq_true rfl) ⟨by decide, by decide⟩ ⟨rfl, rfl⟩ hc (fun r2 M2 hw2 => ?_)
  obtain ⟨rfl, inv2⟩ := hw2
  exact px_same 1287 rfl (by decide) (kk M2 inv2)
set_option maxRecDepth 100000 in
set_option maxHeartbeats 4000000 in
theorem lc_again (hg : pj_ph g = true) (inv : INV M) (hL : L < 2147483648) (h0 : 0 ≤ i) (h1 : i + 4 < L) (hc : c0 ≤ 601024 ∧ s0 ≤ 7293034) (kk : ∀ M', INV M' → pj_R l g mdL_law (px_XL t g L xs) Z pj_NK c0 s0 1287 (px_LS i) [] M') : pj_R l g mdL_law (px_XL t g L xs) Z pj_NK c0 s0 1182 (px_LS i) [] M := by
  refine pj_aload_n 1183 1 rfl rfl rfl rfl ?_
  refine px_arg (ex := []) 1189 1 hL (by omega) (by omega) rfl rfl rfl rfl rfl rfl ?_
  refine px_call 1192 11 [.int (pj_I (px_x xs (i + 1)))] [] px_o0 (s_X11_again hg px_o0 (p_again inv px_x_in)) plL_179 rfl rfl rfl rfl (Nat.zero_le _) ⟨by decide, by decide⟩ ⟨rfl, rfl⟩ hc (fun r M1 hw => ?_)
  refine pj_aload_n 1193 2 rfl rfl rfl rfl ?_
  refine px_arg (ex := []) 1199 1 hL (by omega) (by omega) rfl rfl rfl rfl rfl rfl ?_
  refine px_call 1202 12 [.int (pj_I (px_x xs (i + 1)))] [.int (pj_I r)] px_o203 (s_X12_again hg px_o203 hw) plL_182 rfl rfl rfl rfl (Nat.le_of_ble_eq_true rfl) ⟨by decide, by decide⟩ ⟨rfl, rfl⟩ hc (fun r2 M2 hw2 => ?_)
  obtain ⟨rfl, inv2⟩ := hw2
  exact px_same 1287 rfl (by decide) (kk M2 inv2)
set_option maxRecDepth 100000 in
set_option maxHeartbeats 4000000 in
theorem lc_count (hg : pj_ph g = true) (inv : INV M) (hL : L < 2147483648) (h0 : 0 ≤ i) (h1 : i + 4 < L) (hc : c0 ≤ 601024 ∧ s0 ≤ 7293034) (kk : ∀ M', INV M' → pj_R l g mdL_law (px_XL t g L xs) Z pj_NK c0 s0 1287 (px_LS i) [] M') : pj_R l g mdL_law (px_XL t g L xs) Z pj_NK c0 s0 1207 (px_LS i) [] M := by
  refine pj_aload_n 1208 1 rfl rfl rfl rfl ?_
  refine px_arg (ex := []) 1214 1 hL (by omega) (by omega) rfl rfl rfl rfl rfl rfl ?_
  refine px_call 1217 11 [.int (pj_I (px_x xs (i + 1)))] [] px_o0 (s_X11_count hg px_o0 (p_count inv px_x_in)) plL_183 rfl rfl rfl rfl (Nat.zero_le _) ⟨by decide, by decide⟩ ⟨rfl, rfl⟩ hc (fun r M1 hw => ?_)
  refine pj_aload_n 1218 2 rfl rfl rfl rfl ?_
  refine px_arg (ex := []) 1224 1 hL (by omega) (by omega) rfl rfl rfl rfl rfl rfl ?_
  refine px_call 1227 12 [.int (pj_I (px_x xs (i + 1)))] [.int (pj_I r)] px_o203 (s_X12_count hg px_o203 hw) plL_186 rfl rfl rfl rfl (Nat.le_of_ble_eq_true rfl) ⟨by decide, by decide⟩ ⟨rfl, rfl⟩ hc (fun r2 M2 hw2 => ?_)
  obtain ⟨rfl, inv2⟩ := hw2
  exact px_same 1287 rfl (by decide) (kk M2 inv2)
end PXC
