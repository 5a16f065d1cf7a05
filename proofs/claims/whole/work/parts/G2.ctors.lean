theorem pj_ow2 : Cond.instanceMethod objectInit ∈ pj_TB := pj_tb 129 (by decide +kernel) (by decide +kernel)
theorem pj_ow3 : Cond.code objectInit ⟨#[0xb1]⟩ 1 none ∈ pj_TB := pj_tb 130 (by decide +kernel) (by decide +kernel)
theorem pj_ac_int : Cond.arrayClass .int ∈ pj_TB := pj_tb 148 (by decide +kernel) (by decide +kernel)
theorem pj_ac_boolean : Cond.arrayClass .boolean ∈ pj_TB := pj_tb 380 (by decide +kernel) (by decide +kernel)
theorem pj_ac_long : Cond.arrayClass .long ∈ pj_TB := pj_tb 487 (by decide +kernel) (by decide +kernel)
theorem pj_ac_byte : Cond.arrayClass .byte ∈ pj_TB := pj_tb 1154 (by decide +kernel) (by decide +kernel)
theorem powX7_3 : Cond.methodLink RX7 3 objectInit ∈ pj_TB := (pj_tb 249 (by decide +kernel) (by decide +kernel))
def mdX7_init : pj_MD := (yX7_init, cX7_init, 1, none, RX7, { frames := 1, cells := 1, slots := 14, locals := 20 }, cdX7_init)
set_option maxRecDepth 100000 in
theorem gcX7_init : pj_gc mdX7_init := pj_gc_of (by decide +kernel)
def mk_X7_init (M : pj_M) (a n : Nat) : pj_M := (pj_up (pj_nw M n pj_dz) a ((0 : Nat) : Int) ((n : Nat) : Int))
set_option maxRecDepth 100000 in
theorem mf_X7_init {M : pj_M} {a n b : Nat} {j : Int} (hba : b ≠ a) (hbn : b < n) : mk_X7_init M a n b j = M b j := by
  unfold mk_X7_init
  rw [pj_up_ne hba, pj_nw_ne (by omega)]
set_option maxRecDepth 100000 in
set_option maxHeartbeats 8000000 in
theorem sm_X7_init {l : Launch} {g : pj_G} {a n : Nat} {M : pj_M} (hph : pj_ph g = false) (hs0 : pj_sh a = (0, 7)) (han : a < n) (h0 : pj_sh n = (1, 14)) (hb0 : n < pj_NK) : pj_S l g mdX7_init [.ref a] n M (fun v n' M' => v = none ∧ n' = (n + 1) ∧ M' = mk_X7_init M a n) := by
  have hNK : pj_NK = 229 := rfl
  refine pj_ofR (ls := [(0, .ref a)]) gcX7_init (by decide) rfl (Nat.le_of_ble_eq_true rfl) rfl ?_
  refine pj_aload_n 1 0 rfl rfl rfl rfl ?_
  refine pj_oinit 4 rfl powX7_3 pj_ow2 pj_ow3 rfl ⟨by decide, Nat.le_of_ble_eq_true rfl⟩ ?_
  refine pj_aload_n 5 0 rfl rfl rfl rfl ?_
  refine pj_bipush 7 rfl (by decide) rfl ?_
  refine pj_newa 9 1 rfl rfl pj_ac_int rfl (by decide) h0 hb0 (by decide) ⟨by decide, by decide⟩ ?_
  refine pj_putr 12 7 0 rfl pfX7_9 (by first | exact Or.inl rfl | exact Or.inr ⟨rfl, hph, rfl, _, _, _, rfl, rfl⟩) rfl hs0 (by omega) (by omega) (by omega) ?_
  exact pj_vret rfl rfl ⟨by decide, by decide⟩ ⟨rfl, rfl, rfl⟩
theorem powX4_3 : Cond.methodLink RX4 3 objectInit ∈ pj_TB := (pj_tb 160 (by decide +kernel) (by decide +kernel))
def mdX4_init : pj_MD := (yX4_init, cX4_init, 1, none, RX4, { frames := 1, cells := 3, slots := 72, locals := 20 }, cdX4_init)
set_option maxRecDepth 100000 in
theorem gcX4_init : pj_gc mdX4_init := pj_gc_of (by decide +kernel)
def mk_X4_init (M : pj_M) (a n : Nat) : pj_M := (pj_up (pj_up (pj_up (pj_nw (pj_up (pj_nw (pj_up (pj_nw M n pj_dz) a ((0 : Nat) : Int) ((n : Nat) : Int)) (n + 1) pj_dz) a ((1 : Nat) : Int) (((n + 1) : Nat) : Int)) (n + 2) pj_dz) a ((2 : Nat) : Int) (((n + 2) : Nat) : Int)) a ((3 : Nat) : Int) 1) a ((5 : Nat) : Int) 1)
set_option maxRecDepth 100000 in
theorem mf_X4_init {M : pj_M} {a n b : Nat} {j : Int} (hba : b ≠ a) (hbn : b < n) : mk_X4_init M a n b j = M b j := by
  unfold mk_X4_init
  rw [pj_up_ne hba, pj_up_ne hba, pj_up_ne hba, pj_nw_ne (by omega), pj_up_ne hba, pj_nw_ne (by omega), pj_up_ne hba, pj_nw_ne (by omega)]
set_option maxRecDepth 100000 in
set_option maxHeartbeats 8000000 in
theorem sm_X4_init {l : Launch} {g : pj_G} {a n : Nat} {M : pj_M} (hph : pj_ph g = false) (hs0 : pj_sh a = (0, 4)) (han : a < n) (h0 : pj_sh n = (1, 12)) (h1 : pj_sh (n + 1) = (1, 12)) (h2 : pj_sh (n + 2) = (1, 48)) (hb0 : n < pj_NK) (hb1 : (n + 1) < pj_NK) (hb2 : (n + 2) < pj_NK) : pj_S l g mdX4_init [.ref a] n M (fun v n' M' => v = none ∧ n' = (n + 3) ∧ M' = mk_X4_init M a n) := by
  have hNK : pj_NK = 229 := rfl
  refine pj_ofR (ls := [(0, .ref a)]) gcX4_init (by decide) rfl (Nat.le_of_ble_eq_true rfl) rfl ?_
  refine pj_aload_n 1 0 rfl rfl rfl rfl ?_
  refine pj_oinit 4 rfl powX4_3 pj_ow2 pj_ow3 rfl ⟨by decide, Nat.le_of_ble_eq_true rfl⟩ ?_
  refine pj_aload_n 5 0 rfl rfl rfl rfl ?_
  refine pj_bipush 7 rfl (by decide) rfl ?_
  refine pj_newa 9 1 rfl rfl pj_ac_int rfl (by decide) h0 hb0 (by decide) ⟨by decide, by decide⟩ ?_
  refine pj_putr 12 4 0 rfl pfX4_9 (by first | exact Or.inl rfl | exact Or.inr ⟨rfl, hph, rfl, _, _, _, rfl, rfl⟩) rfl hs0 (by omega) (by omega) (by omega) ?_
  refine pj_aload_n 13 0 rfl rfl rfl rfl ?_
  refine pj_bipush 15 rfl (by decide) rfl ?_
  refine pj_newa 17 1 rfl rfl pj_ac_int rfl (by decide) h1 hb1 (by decide) ⟨by decide, by decide⟩ ?_
  refine pj_putr 20 4 1 rfl pfX4_15 (by first | exact Or.inl rfl | exact Or.inr ⟨rfl, hph, rfl, _, _, _, rfl, rfl⟩) rfl hs0 (by omega) (by omega) (by omega) ?_
  refine pj_aload_n 21 0 rfl rfl rfl rfl ?_
  refine pj_bipush 23 rfl (by decide) rfl ?_
  refine pj_newa 25 1 rfl rfl pj_ac_int rfl (by decide) h2 hb2 (by decide) ⟨by decide, by decide⟩ ?_
  refine pj_putr 28 4 2 rfl pfX4_18 (by first | exact Or.inl rfl | exact Or.inr ⟨rfl, hph, rfl, _, _, _, rfl, rfl⟩) rfl hs0 (by omega) (by omega) (by omega) ?_
  refine pj_aload_n 29 0 rfl rfl rfl rfl ?_
  refine pj_iconst 30 rfl rfl ?_
  refine pj_puti 33 4 3 rfl pfX4_21 rfl rfl hs0 (by omega) (by omega) ?_
  refine pj_aload_n 34 0 rfl rfl rfl rfl ?_
  refine pj_iconst 35 rfl rfl ?_
  refine pj_puti 38 4 5 rfl pfX4_25 rfl rfl hs0 (by omega) (by omega) ?_
  exact pj_vret rfl rfl ⟨by decide, by decide⟩ ⟨rfl, rfl, rfl⟩
theorem powX3_3 : Cond.methodLink RX3 3 objectInit ∈ pj_TB := (pj_tb 203 (by decide +kernel) (by decide +kernel))
def mdX3_init : pj_MD := (yX3_init, cX3_init, 1, none, RX3, { frames := 1, cells := 4, slots := 24, locals := 20 }, cdX3_init)
set_option maxRecDepth 100000 in
theorem gcX3_init : pj_gc mdX3_init := pj_gc_of (by decide +kernel)
def mk_X3_init (M : pj_M) (a n : Nat) : pj_M := (pj_up (pj_nw (pj_up (pj_nw (pj_up (pj_nw (pj_up (pj_nw M n pj_dz) a ((0 : Nat) : Int) ((n : Nat) : Int)) (n + 1) pj_dz) a ((1 : Nat) : Int) (((n + 1) : Nat) : Int)) (n + 2) pj_dz) a ((2 : Nat) : Int) (((n + 2) : Nat) : Int)) (n + 3) pj_dz) a ((3 : Nat) : Int) (((n + 3) : Nat) : Int))
set_option maxRecDepth 100000 in
theorem mf_X3_init {M : pj_M} {a n b : Nat} {j : Int} (hba : b ≠ a) (hbn : b < n) : mk_X3_init M a n b j = M b j := by
  unfold mk_X3_init
  rw [pj_up_ne hba, pj_nw_ne (by omega), pj_up_ne hba, pj_nw_ne (by omega), pj_up_ne hba, pj_nw_ne (by omega), pj_up_ne hba, pj_nw_ne (by omega)]
set_option maxRecDepth 100000 in
set_option maxHeartbeats 8000000 in
theorem sm_X3_init {l : Launch} {g : pj_G} {a n : Nat} {M : pj_M} (hph : pj_ph g = false) (hs0 : pj_sh a = (0, 3)) (han : a < n) (h0 : pj_sh n = (1, 6)) (h1 : pj_sh (n + 1) = (1, 6)) (h2 : pj_sh (n + 2) = (1, 6)) (h3 : pj_sh (n + 3) = (1, 6)) (hb0 : n < pj_NK) (hb1 : (n + 1) < pj_NK) (hb2 : (n + 2) < pj_NK) (hb3 : (n + 3) < pj_NK) : pj_S l g mdX3_init [.ref a] n M (fun v n' M' => v = none ∧ n' = (n + 4) ∧ M' = mk_X3_init M a n) := by
  have hNK : pj_NK = 229 := rfl
  refine pj_ofR (ls := [(0, .ref a)]) gcX3_init (by decide) rfl (Nat.le_of_ble_eq_true rfl) rfl ?_
  refine pj_aload_n 1 0 rfl rfl rfl rfl ?_
  refine pj_oinit 4 rfl powX3_3 pj_ow2 pj_ow3 rfl ⟨by decide, Nat.le_of_ble_eq_true rfl⟩ ?_
  refine pj_aload_n 5 0 rfl rfl rfl rfl ?_
  refine pj_bipush 7 rfl (by decide) rfl ?_
  refine pj_newa 9 1 rfl rfl pj_ac_int rfl (by decide) h0 hb0 (by decide) ⟨by decide, by decide⟩ ?_
  refine pj_putr 12 3 0 rfl pfX3_9 (by first | exact Or.inl rfl | exact Or.inr ⟨rfl, hph, rfl, _, _, _, rfl, rfl⟩) rfl hs0 (by omega) (by omega) (by omega) ?_
  refine pj_aload_n 13 0 rfl rfl rfl rfl ?_
  refine pj_bipush 15 rfl (by decide) rfl ?_
  refine pj_newa 17 1 rfl rfl pj_ac_int rfl (by decide) h1 hb1 (by decide) ⟨by decide, by decide⟩ ?_
  refine pj_putr 20 3 1 rfl pfX3_15 (by first | exact Or.inl rfl | exact Or.inr ⟨rfl, hph, rfl, _, _, _, rfl, rfl⟩) rfl hs0 (by omega) (by omega) (by omega) ?_
  refine pj_aload_n 21 0 rfl rfl rfl rfl ?_
  refine pj_bipush 23 rfl (by decide) rfl ?_
  refine pj_newa 25 1 rfl rfl pj_ac_int rfl (by decide) h2 hb2 (by decide) ⟨by decide, by decide⟩ ?_
  refine pj_putr 28 3 2 rfl pfX3_18 (by first | exact Or.inl rfl | exact Or.inr ⟨rfl, hph, rfl, _, _, _, rfl, rfl⟩) rfl hs0 (by omega) (by omega) (by omega) ?_
  refine pj_aload_n 29 0 rfl rfl rfl rfl ?_
  refine pj_bipush 31 rfl (by decide) rfl ?_
  refine pj_newa 33 1 rfl rfl pj_ac_int rfl (by decide) h3 hb3 (by decide) ⟨by decide, by decide⟩ ?_
  refine pj_putr 36 3 3 rfl pfX3_21 (by first | exact Or.inl rfl | exact Or.inr ⟨rfl, hph, rfl, _, _, _, rfl, rfl⟩) rfl hs0 (by omega) (by omega) (by omega) ?_
  exact pj_vret rfl rfl ⟨by decide, by decide⟩ ⟨rfl, rfl, rfl⟩
theorem powX1_3 : Cond.methodLink RX1 3 objectInit ∈ pj_TB := (pj_tb 241 (by decide +kernel) (by decide +kernel))
theorem poX1_9 : pj_O RX1 9 4 := ⟨_, _, _, tyX4, rfl, pj_in4, tyX4_ok, rfl, (pj_tb 242 (by decide +kernel) (by decide +kernel)), (pj_tb 156 (by decide +kernel) (by decide +kernel)), (pj_tb 106 (by decide +kernel) (by decide +kernel)), by decide⟩
theorem pliX1_11 : pj_LI RX1 11 mdX4_init := ⟨Or.inr ⟨"PiecesThatFit", List.mem_filter.mpr ⟨List.mem_of_getElem? (i := 243) (by decide +kernel), rfl⟩⟩, (pj_tb 158 (by decide +kernel) (by decide +kernel)), (pj_tb 106 (by decide +kernel) (by decide +kernel)), (pj_tb 159 (by decide +kernel) (by decide +kernel)), rfl, rfl, by decide, by decide, by decide +kernel⟩
theorem poX1_18 : pj_O RX1 18 7 := ⟨_, _, _, tyX7, rfl, pj_in7, tyX7_ok, rfl, (pj_tb 244 (by decide +kernel) (by decide +kernel)), (pj_tb 245 (by decide +kernel) (by decide +kernel)), (pj_tb 109 (by decide +kernel) (by decide +kernel)), by decide⟩
theorem pliX1_20 : pj_LI RX1 20 mdX7_init := ⟨Or.inr ⟨"PiecesThatFit", List.mem_filter.mpr ⟨List.mem_of_getElem? (i := 246) (by decide +kernel), rfl⟩⟩, (pj_tb 247 (by decide +kernel) (by decide +kernel)), (pj_tb 109 (by decide +kernel) (by decide +kernel)), (pj_tb 248 (by decide +kernel) (by decide +kernel)), rfl, rfl, by decide, by decide, by decide +kernel⟩
def mdX1_init : pj_MD := (yX1_init, cX1_init, 1, none, RX1, { frames := 2, cells := 7, slots := 100, locals := 40 }, cdX1_init)
set_option maxRecDepth 100000 in
theorem gcX1_init : pj_gc mdX1_init := pj_gc_of (by decide +kernel)
def mk_X1_init (M : pj_M) (a n : Nat) : pj_M := (pj_up (pj_nw (pj_up (mk_X7_init (pj_nw (pj_up (mk_X4_init (pj_nw M n (pj_do 4)) n (n + 1)) a ((0 : Nat) : Int) ((n : Nat) : Int)) (n + 4) (pj_do 7)) (n + 4) (n + 5)) a ((1 : Nat) : Int) (((n + 4) : Nat) : Int)) (n + 6) pj_dz) a ((2 : Nat) : Int) (((n + 6) : Nat) : Int))
set_option maxRecDepth 100000 in
theorem mf_X1_init {M : pj_M} {a n b : Nat} {j : Int} (hba : b ≠ a) (hbn : b < n) : mk_X1_init M a n b j = M b j := by
  unfold mk_X1_init
  rw [pj_up_ne hba, pj_nw_ne (by omega), pj_up_ne hba, mf_X7_init (by omega) (by omega), pj_nw_ne (by omega), pj_up_ne hba, mf_X4_init (by omega) (by omega), pj_nw_ne (by omega)]
set_option maxRecDepth 100000 in
set_option maxHeartbeats 8000000 in
theorem sm_X1_init {l : Launch} {g : pj_G} {a n : Nat} {M : pj_M} (hph : pj_ph g = false) (hs0 : pj_sh a = (0, 1)) (han : a < n) (h0 : pj_sh n = (0, 4)) (h1 : pj_sh (n + 1) = (1, 12)) (h2 : pj_sh (n + 2) = (1, 12)) (h3 : pj_sh (n + 3) = (1, 48)) (h4 : pj_sh (n + 4) = (0, 7)) (h5 : pj_sh (n + 5) = (1, 14)) (h6 : pj_sh (n + 6) = (1, 6)) (hb0 : n < pj_NK) (hb1 : (n + 1) < pj_NK) (hb2 : (n + 2) < pj_NK) (hb3 : (n + 3) < pj_NK) (hb4 : (n + 4) < pj_NK) (hb5 : (n + 5) < pj_NK) (hb6 : (n + 6) < pj_NK) : pj_S l g mdX1_init [.ref a] n M (fun v n' M' => v = none ∧ n' = (n + 7) ∧ M' = mk_X1_init M a n) := by
  have hNK : pj_NK = 229 := rfl
  refine pj_ofR (ls := [(0, .ref a)]) gcX1_init (by decide) rfl (Nat.le_of_ble_eq_true rfl) rfl ?_
  refine pj_aload_n 1 0 rfl rfl rfl rfl ?_
  refine pj_oinit 4 rfl powX1_3 pj_ow2 pj_ow3 rfl ⟨by decide, Nat.le_of_ble_eq_true rfl⟩ ?_
  refine pj_aload_n 5 0 rfl rfl rfl rfl ?_
  refine pj_newo 8 4 rfl poX1_9 rfl hph h0 hb0 ⟨by decide, by decide⟩ ?_
  refine pj_dup 9 rfl rfl rfl ?_
  refine pj_callI 12 rfl pliX1_11 rfl (Nat.le_of_ble_eq_true rfl) ⟨⟨by decide, by decide⟩, by decide, by decide⟩ (by omega) (sm_X4_init hph h0 (by omega) h1 h2 h3 hb1 hb2 hb3) ?_
  rintro _ _ _ ⟨rfl, rfl, rfl⟩
  refine pj_putr 15 1 0 rfl pfX1_12 (by first | exact Or.inl rfl | exact Or.inr ⟨rfl, hph, rfl, _, _, _, rfl, rfl⟩) rfl hs0 (by omega) (by omega) (by omega) ?_
  refine pj_aload_n 16 0 rfl rfl rfl rfl ?_
  refine pj_newo 19 7 rfl poX1_18 rfl hph h4 hb4 ⟨by decide, by decide⟩ ?_
  refine pj_dup 20 rfl rfl rfl ?_
  refine pj_callI 23 rfl pliX1_20 rfl (Nat.le_of_ble_eq_true rfl) ⟨⟨by decide, by decide⟩, by decide, by decide⟩ (by omega) (sm_X7_init hph h4 (by omega) h5 hb5) ?_
  rintro _ _ _ ⟨rfl, rfl, rfl⟩
  refine pj_putr 26 1 1 rfl pfX1_21 (by first | exact Or.inl rfl | exact Or.inr ⟨rfl, hph, rfl, _, _, _, rfl, rfl⟩) rfl hs0 (by omega) (by omega) (by omega) ?_
  refine pj_aload_n 27 0 rfl rfl rfl rfl ?_
  refine pj_bipush 29 rfl (by decide) rfl ?_
  refine pj_newa 31 1 rfl rfl pj_ac_int rfl (by decide) h6 hb6 (by decide) ⟨by decide, by decide⟩ ?_
  refine pj_putr 34 1 2 rfl pfX1_25 (by first | exact Or.inl rfl | exact Or.inr ⟨rfl, hph, rfl, _, _, _, rfl, rfl⟩) rfl hs0 (by omega) (by omega) (by omega) ?_
  exact pj_vret rfl rfl ⟨by decide, by decide⟩ ⟨rfl, rfl, rfl⟩
theorem powX9_3 : Cond.methodLink RX9 3 objectInit ∈ pj_TB := (pj_tb 136 (by decide +kernel) (by decide +kernel))
def mdX9_init : pj_MD := (yX9_init, cX9_init, 1, none, RX9, { frames := 1, cells := 1, slots := 80, locals := 20 }, cdX9_init)
set_option maxRecDepth 100000 in
theorem gcX9_init : pj_gc mdX9_init := pj_gc_of (by decide +kernel)
def mk_X9_init (M : pj_M) (a n : Nat) : pj_M := (pj_up (pj_nw M n pj_dz) a ((0 : Nat) : Int) ((n : Nat) : Int))
set_option maxRecDepth 100000 in
theorem mf_X9_init {M : pj_M} {a n b : Nat} {j : Int} (hba : b ≠ a) (hbn : b < n) : mk_X9_init M a n b j = M b j := by
  unfold mk_X9_init
  rw [pj_up_ne hba, pj_nw_ne (by omega)]
set_option maxRecDepth 100000 in
set_option maxHeartbeats 8000000 in
theorem sm_X9_init {l : Launch} {g : pj_G} {a n : Nat} {M : pj_M} (hph : pj_ph g = false) (hs0 : pj_sh a = (0, 9)) (han : a < n) (h0 : pj_sh n = (1, 80)) (hb0 : n < pj_NK) : pj_S l g mdX9_init [.ref a] n M (fun v n' M' => v = none ∧ n' = (n + 1) ∧ M' = mk_X9_init M a n) := by
  have hNK : pj_NK = 229 := rfl
  refine pj_ofR (ls := [(0, .ref a)]) gcX9_init (by decide) rfl (Nat.le_of_ble_eq_true rfl) rfl ?_
  refine pj_aload_n 1 0 rfl rfl rfl rfl ?_
  refine pj_oinit 4 rfl powX9_3 pj_ow2 pj_ow3 rfl ⟨by decide, Nat.le_of_ble_eq_true rfl⟩ ?_
  refine pj_aload_n 5 0 rfl rfl rfl rfl ?_
  refine pj_bipush 7 rfl (by decide) rfl ?_
  refine pj_newa 9 1 rfl rfl pj_ac_int rfl (by decide) h0 hb0 (by decide) ⟨by decide, by decide⟩ ?_
  refine pj_putr 12 9 0 rfl pfX9_9 (by first | exact Or.inl rfl | exact Or.inr ⟨rfl, hph, rfl, _, _, _, rfl, rfl⟩) rfl hs0 (by omega) (by omega) (by omega) ?_
  exact pj_vret rfl rfl ⟨by decide, by decide⟩ ⟨rfl, rfl, rfl⟩
theorem powX5_3 : Cond.methodLink RX5 3 objectInit ∈ pj_TB := (pj_tb 154 (by decide +kernel) (by decide +kernel))
theorem poX5_9 : pj_O RX5 9 4 := ⟨_, _, _, tyX4, rfl, pj_in4, tyX4_ok, rfl, (pj_tb 155 (by decide +kernel) (by decide +kernel)), (pj_tb 156 (by decide +kernel) (by decide +kernel)), (pj_tb 106 (by decide +kernel) (by decide +kernel)), by decide⟩
theorem pliX5_11 : pj_LI RX5 11 mdX4_init := ⟨Or.inr ⟨"PiecesThatFit", List.mem_filter.mpr ⟨List.mem_of_getElem? (i := 157) (by decide +kernel), rfl⟩⟩, (pj_tb 158 (by decide +kernel) (by decide +kernel)), (pj_tb 106 (by decide +kernel) (by decide +kernel)), (pj_tb 159 (by decide +kernel) (by decide +kernel)), rfl, rfl, by decide, by decide, by decide +kernel⟩
theorem poX5_18 : pj_O RX5 18 3 := ⟨_, _, _, tyX3, rfl, pj_in3, tyX3_ok, rfl, (pj_tb 198 (by decide +kernel) (by decide +kernel)), (pj_tb 199 (by decide +kernel) (by decide +kernel)), (pj_tb 107 (by decide +kernel) (by decide +kernel)), by decide⟩
theorem pliX5_20 : pj_LI RX5 20 mdX3_init := ⟨Or.inr ⟨"PiecesThatFit", List.mem_filter.mpr ⟨List.mem_of_getElem? (i := 200) (by decide +kernel), rfl⟩⟩, (pj_tb 201 (by decide +kernel) (by decide +kernel)), (pj_tb 107 (by decide +kernel) (by decide +kernel)), (pj_tb 202 (by decide +kernel) (by decide +kernel)), rfl, rfl, by decide, by decide, by decide +kernel⟩
def mdX5_init : pj_MD := (yX5_init, cX5_init, 1, none, RX5, { frames := 2, cells := 9, slots := 107, locals := 40 }, cdX5_init)
set_option maxRecDepth 100000 in
theorem gcX5_init : pj_gc mdX5_init := pj_gc_of (by decide +kernel)
def mk_X5_init (M : pj_M) (a n : Nat) : pj_M := (pj_up (mk_X3_init (pj_nw (pj_up (mk_X4_init (pj_nw M n (pj_do 4)) n (n + 1)) a ((0 : Nat) : Int) ((n : Nat) : Int)) (n + 4) (pj_do 3)) (n + 4) (n + 5)) a ((1 : Nat) : Int) (((n + 4) : Nat) : Int))
set_option maxRecDepth 100000 in
theorem mf_X5_init {M : pj_M} {a n b : Nat} {j : Int} (hba : b ≠ a) (hbn : b < n) : mk_X5_init M a n b j = M b j := by
  unfold mk_X5_init
  rw [pj_up_ne hba, mf_X3_init (by omega) (by omega), pj_nw_ne (by omega), pj_up_ne hba, mf_X4_init (by omega) (by omega), pj_nw_ne (by omega)]
set_option maxRecDepth 100000 in
set_option maxHeartbeats 8000000 in
theorem sm_X5_init {l : Launch} {g : pj_G} {a n : Nat} {M : pj_M} (hph : pj_ph g = false) (hs0 : pj_sh a = (0, 5)) (han : a < n) (h0 : pj_sh n = (0, 4)) (h1 : pj_sh (n + 1) = (1, 12)) (h2 : pj_sh (n + 2) = (1, 12)) (h3 : pj_sh (n + 3) = (1, 48)) (h4 : pj_sh (n + 4) = (0, 3)) (h5 : pj_sh (n + 5) = (1, 6)) (h6 : pj_sh (n + 6) = (1, 6)) (h7 : pj_sh (n + 7) = (1, 6)) (h8 : pj_sh (n + 8) = (1, 6)) (hb0 : n < pj_NK) (hb1 : (n + 1) < pj_NK) (hb2 : (n + 2) < pj_NK) (hb3 : (n + 3) < pj_NK) (hb4 : (n + 4) < pj_NK) (hb5 : (n + 5) < pj_NK) (hb6 : (n + 6) < pj_NK) (hb7 : (n + 7) < pj_NK) (hb8 : (n + 8) < pj_NK) : pj_S l g mdX5_init [.ref a] n M (fun v n' M' => v = none ∧ n' = (n + 9) ∧ M' = mk_X5_init M a n) := by
  have hNK : pj_NK = 229 := rfl
  refine pj_ofR (ls := [(0, .ref a)]) gcX5_init (by decide) rfl (Nat.le_of_ble_eq_true rfl) rfl ?_
  refine pj_aload_n 1 0 rfl rfl rfl rfl ?_
  refine pj_oinit 4 rfl powX5_3 pj_ow2 pj_ow3 rfl ⟨by decide, Nat.le_of_ble_eq_true rfl⟩ ?_
  refine pj_aload_n 5 0 rfl rfl rfl rfl ?_
  refine pj_newo 8 4 rfl poX5_9 rfl hph h0 hb0 ⟨by decide, by decide⟩ ?_
  refine pj_dup 9 rfl rfl rfl ?_
  refine pj_callI 12 rfl pliX5_11 rfl (Nat.le_of_ble_eq_true rfl) ⟨⟨by decide, by decide⟩, by decide, by decide⟩ (by omega) (sm_X4_init hph h0 (by omega) h1 h2 h3 hb1 hb2 hb3) ?_
  rintro _ _ _ ⟨rfl, rfl, rfl⟩
  refine pj_putr 15 5 0 rfl pfX5_12 (by first | exact Or.inl rfl | exact Or.inr ⟨rfl, hph, rfl, _, _, _, rfl, rfl⟩) rfl hs0 (by omega) (by omega) (by omega) ?_
  refine pj_aload_n 16 0 rfl rfl rfl rfl ?_
  refine pj_newo 19 3 rfl poX5_18 rfl hph h4 hb4 ⟨by decide, by decide⟩ ?_
  refine pj_dup 20 rfl rfl rfl ?_
  refine pj_callI 23 rfl pliX5_20 rfl (Nat.le_of_ble_eq_true rfl) ⟨⟨by decide, by decide⟩, by decide, by decide⟩ (by omega) (sm_X3_init hph h4 (by omega) h5 h6 h7 h8 hb5 hb6 hb7 hb8) ?_
  rintro _ _ _ ⟨rfl, rfl, rfl⟩
  refine pj_putr 26 5 1 rfl pfX5_21 (by first | exact Or.inl rfl | exact Or.inr ⟨rfl, hph, rfl, _, _, _, rfl, rfl⟩) rfl hs0 (by omega) (by omega) (by omega) ?_
  exact pj_vret rfl rfl ⟨by decide, by decide⟩ ⟨rfl, rfl, rfl⟩
theorem powX6_3 : Cond.methodLink RX6 3 objectInit ∈ pj_TB := (pj_tb 295 (by decide +kernel) (by decide +kernel))
theorem pdkX6_9 : Cond.classLink RX6 9 "PiecesThatFit$Desk" ∈ pj_TB := (pj_tb 296 (by decide +kernel) (by decide +kernel))
theorem poX6_9 : pj_O RX6 9 1 := ⟨_, _, _, tyX1, rfl, pj_in1, tyX1_ok, rfl, (pj_tb 296 (by decide +kernel) (by decide +kernel)), (pj_tb 237 (by decide +kernel) (by decide +kernel)), (pj_tb 108 (by decide +kernel) (by decide +kernel)), by decide⟩
theorem pliX6_17 : pj_LI RX6 17 mdX1_init := ⟨Or.inr ⟨"PiecesThatFit", List.mem_filter.mpr ⟨List.mem_of_getElem? (i := 298) (by decide +kernel), rfl⟩⟩, (pj_tb 239 (by decide +kernel) (by decide +kernel)), (pj_tb 108 (by decide +kernel) (by decide +kernel)), (pj_tb 240 (by decide +kernel) (by decide +kernel)), rfl, rfl, by decide, by decide, by decide +kernel⟩
def mdX6_init : pj_MD := (yX6_init, cX6_init, 2, none, RX6, { frames := 3, cells := 81, slots := 1050, locals := 60 }, cdX6_init)
set_option maxRecDepth 100000 in
theorem gcX6_init : pj_gc mdX6_init := pj_gc_of (by decide +kernel)
def mk_X6_init (M : pj_M) (a n : Nat) : pj_M := (pj_up (mk_X1_init (pj_nw (pj_up (mk_X1_init (pj_nw (pj_up (mk_X1_init (pj_nw (pj_up (mk_X1_init (pj_nw (pj_up (mk_X1_init (pj_nw (pj_up (mk_X1_init (pj_nw (pj_up (mk_X1_init (pj_nw (pj_up (mk_X1_init (pj_nw (pj_up (mk_X1_init (pj_nw (pj_up (mk_X1_init (pj_nw (pj_up (pj_nw M n pj_dm) a ((0 : Nat) : Int) ((n : Nat) : Int)) (n + 1) (pj_do 1)) (n + 1) (n + 2)) n 0 (((n + 1) : Nat) : Int)) (n + 9) (pj_do 1)) (n + 9) (n + 10)) n 1 (((n + 9) : Nat) : Int)) (n + 17) (pj_do 1)) (n + 17) (n + 18)) n 2 (((n + 17) : Nat) : Int)) (n + 25) (pj_do 1)) (n + 25) (n + 26)) n 3 (((n + 25) : Nat) : Int)) (n + 33) (pj_do 1)) (n + 33) (n + 34)) n 4 (((n + 33) : Nat) : Int)) (n + 41) (pj_do 1)) (n + 41) (n + 42)) n 5 (((n + 41) : Nat) : Int)) (n + 49) (pj_do 1)) (n + 49) (n + 50)) n 6 (((n + 49) : Nat) : Int)) (n + 57) (pj_do 1)) (n + 57) (n + 58)) n 7 (((n + 57) : Nat) : Int)) (n + 65) (pj_do 1)) (n + 65) (n + 66)) n 8 (((n + 65) : Nat) : Int)) (n + 73) (pj_do 1)) (n + 73) (n + 74)) n 9 (((n + 73) : Nat) : Int))
set_option maxRecDepth 100000 in
theorem mf_X6_init {M : pj_M} {a n b : Nat} {j : Int} (hba : b ≠ a) (hbn : b < n) : mk_X6_init M a n b j = M b j := by
  unfold mk_X6_init
  rw [pj_up_ne (by omega), mf_X1_init (by omega) (by omega), pj_nw_ne (by omega), pj_up_ne (by omega), mf_X1_init (by omega) (by omega), pj_nw_ne (by omega), pj_up_ne (by omega), mf_X1_init (by omega) (by omega), pj_nw_ne (by omega), pj_up_ne (by omega), mf_X1_init (by omega) (by omega), pj_nw_ne (by omega), pj_up_ne (by omega), mf_X1_init (by omega) (by omega), pj_nw_ne (by omega), pj_up_ne (by omega), mf_X1_init (by omega) (by omega), pj_nw_ne (by omega), pj_up_ne (by omega), mf_X1_init (by omega) (by omega), pj_nw_ne (by omega), pj_up_ne (by omega), mf_X1_init (by omega) (by omega), pj_nw_ne (by omega), pj_up_ne (by omega), mf_X1_init (by omega) (by omega), pj_nw_ne (by omega), pj_up_ne (by omega), mf_X1_init (by omega) (by omega), pj_nw_ne (by omega), pj_up_ne hba, pj_nw_ne (by omega)]
set_option maxRecDepth 100000 in
set_option maxHeartbeats 8000000 in
theorem sm_X6_init {l : Launch} {g : pj_G} {a n : Nat} {M : pj_M} (hph : pj_ph g = false) (hs0 : pj_sh a = (0, 6)) (han : a < n) (h0 : pj_sh n = (5, 10)) (h1 : pj_sh (n + 1) = (0, 1)) (h2 : pj_sh (n + 2) = (0, 4)) (h3 : pj_sh (n + 3) = (1, 12)) (h4 : pj_sh (n + 4) = (1, 12)) (h5 : pj_sh (n + 5) = (1, 48)) (h6 : pj_sh (n + 6) = (0, 7)) (h7 : pj_sh (n + 7) = (1, 14)) (h8 : pj_sh (n + 8) = (1, 6)) (h9 : pj_sh (n + 9) = (0, 1)) (h10 : pj_sh (n + 10) = (0, 4)) (h11 : pj_sh (n + 11) = (1, 12)) (h12 : pj_sh (n + 12) = (1, 12)) (h13 : pj_sh (n + 13) = (1, 48)) (h14 : pj_sh (n + 14) = (0, 7)) (h15 : pj_sh (n + 15) = (1, 14)) (h16 : pj_sh (n + 16) = (1, 6)) (h17 : pj_sh (n + 17) = (0, 1)) (h18 : pj_sh (n + 18) = (0, 4)) (h19 : pj_sh (n + 19) = (1, 12)) (h20 : pj_sh (n + 20) = (1, 12)) (h21 : pj_sh (n + 21) = (1, 48)) (h22 : pj_sh (n + 22) = (0, 7)) (h23 : pj_sh (n + 23) = (1, 14)) (h24 : pj_sh (n + 24) = (1, 6)) (h25 : pj_sh (n + 25) = (0, 1)) (h26 : pj_sh (n + 26) = (0, 4)) (h27 : pj_sh (n + 27) = (1, 12)) (h28 : pj_sh (n + 28) = (1, 12)) (h29 : pj_sh (n + 29) = (1, 48)) (h30 : pj_sh (n + 30) = (0, 7)) (h31 : pj_sh (n + 31) = (1, 14)) (h32 : pj_sh (n + 32) = (1, 6)) (h33 : pj_sh (n + 33) = (0, 1)) (h34 : pj_sh (n + 34) = (0, 4)) (h35 : pj_sh (n + 35) = (1, 12)) (h36 : pj_sh (n + 36) = (1, 12)) (h37 : pj_sh (n + 37) = (1, 48)) (h38 : pj_sh (n + 38) = (0, 7)) (h39 : pj_sh (n + 39) = (1, 14)) (h40 : pj_sh (n + 40) = (1, 6)) (h41 : pj_sh (n + 41) = (0, 1)) (h42 : pj_sh (n + 42) = (0, 4)) (h43 : pj_sh (n + 43) = (1, 12)) (h44 : pj_sh (n + 44) = (1, 12)) (h45 : pj_sh (n + 45) = (1, 48)) (h46 : pj_sh (n + 46) = (0, 7)) (h47 : pj_sh (n + 47) = (1, 14)) (h48 : pj_sh (n + 48) = (1, 6)) (h49 : pj_sh (n + 49) = (0, 1)) (h50 : pj_sh (n + 50) = (0, 4)) (h51 : pj_sh (n + 51) = (1, 12)) (h52 : pj_sh (n + 52) = (1, 12)) (h53 : pj_sh (n + 53) = (1, 48)) (h54 : pj_sh (n + 54) = (0, 7)) (h55 : pj_sh (n + 55) = (1, 14)) (h56 : pj_sh (n + 56) = (1, 6)) (h57 : pj_sh (n + 57) = (0, 1)) (h58 : pj_sh (n + 58) = (0, 4)) (h59 : pj_sh (n + 59) = (1, 12)) (h60 : pj_sh (n + 60) = (1, 12)) (h61 : pj_sh (n + 61) = (1, 48)) (h62 : pj_sh (n + 62) = (0, 7)) (h63 : pj_sh (n + 63) = (1, 14)) (h64 : pj_sh (n + 64) = (1, 6)) (h65 : pj_sh (n + 65) = (0, 1)) (h66 : pj_sh (n + 66) = (0, 4)) (h67 : pj_sh (n + 67) = (1, 12)) (h68 : pj_sh (n + 68) = (1, 12)) (h69 : pj_sh (n + 69) = (1, 48)) (h70 : pj_sh (n + 70) = (0, 7)) (h71 : pj_sh (n + 71) = (1, 14)) (h72 : pj_sh (n + 72) = (1, 6)) (h73 : pj_sh (n + 73) = (0, 1)) (h74 : pj_sh (n + 74) = (0, 4)) (h75 : pj_sh (n + 75) = (1, 12)) (h76 : pj_sh (n + 76) = (1, 12)) (h77 : pj_sh (n + 77) = (1, 48)) (h78 : pj_sh (n + 78) = (0, 7)) (h79 : pj_sh (n + 79) = (1, 14)) (h80 : pj_sh (n + 80) = (1, 6)) (hb0 : n < pj_NK) (hb1 : (n + 1) < pj_NK) (hb2 : (n + 2) < pj_NK) (hb3 : (n + 3) < pj_NK) (hb4 : (n + 4) < pj_NK) (hb5 : (n + 5) < pj_NK) (hb6 : (n + 6) < pj_NK) (hb7 : (n + 7) < pj_NK) (hb8 : (n + 8) < pj_NK) (hb9 : (n + 9) < pj_NK) (hb10 : (n + 10) < pj_NK) (hb11 : (n + 11) < pj_NK) (hb12 : (n + 12) < pj_NK) (hb13 : (n + 13) < pj_NK) (hb14 : (n + 14) < pj_NK) (hb15 : (n + 15) < pj_NK) (hb16 : (n + 16) < pj_NK) (hb17 : (n + 17) < pj_NK) (hb18 : (n + 18) < pj_NK) (hb19 : (n + 19) < pj_NK) (hb20 : (n + 20) < pj_NK) (hb21 : (n + 21) < pj_NK) (hb22 : (n + 22) < pj_NK) (hb23 : (n + 23) < pj_NK) (hb24 : (n + 24) < pj_NK) (hb25 : (n + 25) < pj_NK) (hb26 : (n + 26) < pj_NK) (hb27 : (n + 27) < pj_NK) (hb28 : (n + 28) < pj_NK) (hb29 : (n + 29) < pj_NK) (hb30 : (n + 30) < pj_NK) (hb31 : (n + 31) < pj_NK) (hb32 : (n + 32) < pj_NK) (hb33 : (n + 33) < pj_NK) (hb34 : (n + 34) < pj_NK) (hb35 : (n + 35) < pj_NK) (hb36 : (n + 36) < pj_NK) (hb37 : (n + 37) < pj_NK) (hb38 : (n + 38) < pj_NK) (hb39 : (n + 39) < pj_NK) (hb40 : (n + 40) < pj_NK) (hb41 : (n + 41) < pj_NK) (hb42 : (n + 42) < pj_NK) (hb43 : (n + 43) < pj_NK) (hb44 : (n + 44) < pj_NK) (hb45 : (n + 45) < pj_NK) (hb46 : (n + 46) < pj_NK) (hb47 : (n + 47) < pj_NK) (hb48 : (n + 48) < pj_NK) (hb49 : (n + 49) < pj_NK) (hb50 : (n + 50) < pj_NK) (hb51 : (n + 51) < pj_NK) (hb52 : (n + 52) < pj_NK) (hb53 : (n + 53) < pj_NK) (hb54 : (n + 54) < pj_NK) (hb55 : (n + 55) < pj_NK) (hb56 : (n + 56) < pj_NK) (hb57 : (n + 57) < pj_NK) (hb58 : (n + 58) < pj_NK) (hb59 : (n + 59) < pj_NK) (hb60 : (n + 60) < pj_NK) (hb61 : (n + 61) < pj_NK) (hb62 : (n + 62) < pj_NK) (hb63 : (n + 63) < pj_NK) (hb64 : (n + 64) < pj_NK) (hb65 : (n + 65) < pj_NK) (hb66 : (n + 66) < pj_NK) (hb67 : (n + 67) < pj_NK) (hb68 : (n + 68) < pj_NK) (hb69 : (n + 69) < pj_NK) (hb70 : (n + 70) < pj_NK) (hb71 : (n + 71) < pj_NK) (hb72 : (n + 72) < pj_NK) (hb73 : (n + 73) < pj_NK) (hb74 : (n + 74) < pj_NK) (hb75 : (n + 75) < pj_NK) (hb76 : (n + 76) < pj_NK) (hb77 : (n + 77) < pj_NK) (hb78 : (n + 78) < pj_NK) (hb79 : (n + 79) < pj_NK) (hb80 : (n + 80) < pj_NK) : pj_S l g mdX6_init [.ref a] n M (fun v n' M' => v = none ∧ n' = (n + 81) ∧ M' = mk_X6_init M a n) := by
  have hNK : pj_NK = 229 := rfl
  refine pj_ofR (ls := [(0, .ref a)]) gcX6_init (by decide) rfl (Nat.le_of_ble_eq_true rfl) rfl ?_
  refine pj_aload_n 1 0 rfl rfl rfl rfl ?_
  refine pj_oinit 4 rfl powX6_3 pj_ow2 pj_ow3 rfl ⟨by decide, Nat.le_of_ble_eq_true rfl⟩ ?_
  refine pj_aload_n 5 0 rfl rfl rfl rfl ?_
  refine pj_bipush 7 rfl (by decide) rfl ?_
  refine pj_newq 10 rfl pdkX6_9 rfl hph h0 hb0 (by decide) ⟨by decide, by decide⟩ ?_
  refine pj_putr 13 6 0 rfl pfX6_11 (by first | exact Or.inl rfl | exact Or.inr ⟨rfl, hph, rfl, _, _, _, rfl, rfl⟩) rfl hs0 (by omega) (by omega) (by omega) ?_
  refine pj_iconst 14 rfl rfl ?_
  refine pj_istore_n 15 (ls' := [(0, .ref a), (1, .int (pj_I 0))]) rfl rfl (by decide) rfl rfl ?_
  refine pj_iload_n 16 1 rfl rfl rfl rfl ?_
  refine pj_bipush 18 rfl (by decide) rfl ?_
  refine pj_icmp_ge 40 21 rfl (by decide) rfl (by decide) (by decide) (fun hc => absurd hc (by decide)) (fun _ => ?_)
  refine pj_aload_n 22 0 rfl rfl rfl rfl ?_
  refine pj_getd (b := n) 25 6 0 rfl pfX6_11 (Or.inr ⟨rfl, hph⟩) rfl hs0 (by omega) (by omega) (by rw [pj_up_eq]) (by omega) ?_
  refine pj_iload_n 26 1 rfl rfl rfl rfl ?_
  refine pj_newo 29 1 rfl poX6_9 rfl hph h1 hb1 ⟨by decide, by decide⟩ ?_
  refine pj_dup 30 rfl rfl rfl ?_
  refine pj_callI 33 rfl pliX6_17 rfl (Nat.le_of_ble_eq_true rfl) ⟨⟨by decide, by decide⟩, by decide, by decide⟩ (by omega) (sm_X1_init hph h1 (by omega) h2 h3 h4 h5 h6 h7 h8 hb2 hb3 hb4 hb5 hb6 hb7 hb8) ?_
  rintro _ _ _ ⟨rfl, rfl, rfl⟩
  refine pj_aast 34 (k := 10) rfl rfl hph h0 (by omega) h1 (by omega) (by omega) (by decide) (by decide) (by decide) ?_
  refine pj_iinc 37 1 (ls' := [(0, .ref a), (1, .int (pj_I 1))]) rfl rfl (by decide) rfl rfl ?_
  refine pj_goto 15 rfl (by decide) ?_
  refine pj_iload_n 16 1 rfl rfl rfl rfl ?_
  refine pj_bipush 18 rfl (by decide) rfl ?_
  refine pj_icmp_ge 40 21 rfl (by decide) rfl (by decide) (by decide) (fun hc => absurd hc (by decide)) (fun _ => ?_)
  refine pj_aload_n 22 0 rfl rfl rfl rfl ?_
  refine pj_getd (b := n) 25 6 0 rfl pfX6_11 (Or.inr ⟨rfl, hph⟩) rfl hs0 (by omega) (by omega) (by rw [pj_up_ne (by omega), mf_X1_init (by omega) (by omega), pj_nw_ne (by omega), pj_up_eq]) (by omega) ?_
  refine pj_iload_n 26 1 rfl rfl rfl rfl ?_
  refine pj_newo 29 1 rfl poX6_9 rfl hph h9 hb9 ⟨by decide, by decide⟩ ?_
  refine pj_dup 30 rfl rfl rfl ?_
  refine pj_callI 33 rfl pliX6_17 rfl (Nat.le_of_ble_eq_true rfl) ⟨⟨by decide, by decide⟩, by decide, by decide⟩ (by omega) (sm_X1_init hph h9 (by omega) h10 h11 h12 h13 h14 h15 h16 hb10 hb11 hb12 hb13 hb14 hb15 hb16) ?_
  rintro _ _ _ ⟨rfl, rfl, rfl⟩
  refine pj_aast 34 (k := 10) rfl rfl hph h0 (by omega) h9 (by omega) (by omega) (by decide) (by decide) (by decide) ?_
  refine pj_iinc 37 1 (ls' := [(0, .ref a), (1, .int (pj_I 2))]) rfl rfl (by decide) rfl rfl ?_
  refine pj_goto 15 rfl (by decide) ?_
  refine pj_iload_n 16 1 rfl rfl rfl rfl ?_
  refine pj_bipush 18 rfl (by decide) rfl ?_
  refine pj_icmp_ge 40 21 rfl (by decide) rfl (by decide) (by decide) (fun hc => absurd hc (by decide)) (fun _ => ?_)
  refine pj_aload_n 22 0 rfl rfl rfl rfl ?_
  refine pj_getd (b := n) 25 6 0 rfl pfX6_11 (Or.inr ⟨rfl, hph⟩) rfl hs0 (by omega) (by omega) (by rw [pj_up_ne (by omega), mf_X1_init (by omega) (by omega), pj_nw_ne (by omega), pj_up_ne (by omega), mf_X1_init (by omega) (by omega), pj_nw_ne (by omega), pj_up_eq]) (by omega) ?_
  refine pj_iload_n 26 1 rfl rfl rfl rfl ?_
  refine pj_newo 29 1 rfl poX6_9 rfl hph h17 hb17 ⟨by decide, by decide⟩ ?_
  refine pj_dup 30 rfl rfl rfl ?_
  refine pj_callI 33 rfl pliX6_17 rfl (Nat.le_of_ble_eq_true rfl) ⟨⟨by decide, by decide⟩, by decide, by decide⟩ (by omega) (sm_X1_init hph h17 (by omega) h18 h19 h20 h21 h22 h23 h24 hb18 hb19 hb20 hb21 hb22 hb23 hb24) ?_
  rintro _ _ _ ⟨rfl, rfl, rfl⟩
  refine pj_aast 34 (k := 10) rfl rfl hph h0 (by omega) h17 (by omega) (by omega) (by decide) (by decide) (by decide) ?_
  refine pj_iinc 37 1 (ls' := [(0, .ref a), (1, .int (pj_I 3))]) rfl rfl (by decide) rfl rfl ?_
  refine pj_goto 15 rfl (by decide) ?_
  refine pj_iload_n 16 1 rfl rfl rfl rfl ?_
  refine pj_bipush 18 rfl (by decide) rfl ?_
  refine pj_icmp_ge 40 21 rfl (by decide) rfl (by decide) (by decide) (fun hc => absurd hc (by decide)) (fun _ => ?_)
  refine pj_aload_n 22 0 rfl rfl rfl rfl ?_
  refine pj_getd (b := n) 25 6 0 rfl pfX6_11 (Or.inr ⟨rfl, hph⟩) rfl hs0 (by omega) (by omega) (by rw [pj_up_ne (by omega), mf_X1_init (by omega) (by omega), pj_nw_ne (by omega), pj_up_ne (by omega), mf_X1_init (by omega) (by omega), pj_nw_ne (by omega), pj_up_ne (by omega), mf_X1_init (by omega) (by omega), pj_nw_ne (by omega), pj_up_eq]) (by omega) ?_
  refine pj_iload_n 26 1 rfl rfl rfl rfl ?_
  refine pj_newo 29 1 rfl poX6_9 rfl hph h25 hb25 ⟨by decide, by decide⟩ ?_
  refine pj_dup 30 rfl rfl rfl ?_
  refine pj_callI 33 rfl pliX6_17 rfl (Nat.le_of_ble_eq_true rfl) ⟨⟨by decide, by decide⟩, by decide, by decide⟩ (by omega) (sm_X1_init hph h25 (by omega) h26 h27 h28 h29 h30 h31 h32 hb26 hb27 hb28 hb29 hb30 hb31 hb32) ?_
  rintro _ _ _ ⟨rfl, rfl, rfl⟩
  refine pj_aast 34 (k := 10) rfl rfl hph h0 (by omega) h25 (by omega) (by omega) (by decide) (by decide) (by decide) ?_
  refine pj_iinc 37 1 (ls' := [(0, .ref a), (1, .int (pj_I 4))]) rfl rfl (by decide) rfl rfl ?_
  refine pj_goto 15 rfl (by decide) ?_
  refine pj_iload_n 16 1 rfl rfl rfl rfl ?_
  refine pj_bipush 18 rfl (by decide) rfl ?_
  refine pj_icmp_ge 40 21 rfl (by decide) rfl (by decide) (by decide) (fun hc => absurd hc (by decide)) (fun _ => ?_)
  refine pj_aload_n 22 0 rfl rfl rfl rfl ?_
  refine pj_getd (b := n) 25 6 0 rfl pfX6_11 (Or.inr ⟨rfl, hph⟩) rfl hs0 (by omega) (by omega) (by rw [pj_up_ne (by omega), mf_X1_init (by omega) (by omega), pj_nw_ne (by omega), pj_up_ne (by omega), mf_X1_init (by omega) (by omega), pj_nw_ne (by omega), pj_up_ne (by omega), mf_X1_init (by omega) (by omega), pj_nw_ne (by omega), pj_up_ne (by omega), mf_X1_init (by omega) (by omega), pj_nw_ne (by omega), pj_up_eq]) (by omega) ?_
  refine pj_iload_n 26 1 rfl rfl rfl rfl ?_
  refine pj_newo 29 1 rfl poX6_9 rfl hph h33 hb33 ⟨by decide, by decide⟩ ?_
  refine pj_dup 30 rfl rfl rfl ?_
  refine pj_callI 33 rfl pliX6_17 rfl (Nat.le_of_ble_eq_true rfl) ⟨⟨by decide, by decide⟩, by decide, by decide⟩ (by omega) (sm_X1_init hph h33 (by omega) h34 h35 h36 h37 h38 h39 h40 hb34 hb35 hb36 hb37 hb38 hb39 hb40) ?_
  rintro _ _ _ ⟨rfl, rfl, rfl⟩
  refine pj_aast 34 (k := 10) rfl rfl hph h0 (by omega) h33 (by omega) (by omega) (by decide) (by decide) (by decide) ?_
  refine pj_iinc 37 1 (ls' := [(0, .ref a), (1, .int (pj_I 5))]) rfl rfl (by decide) rfl rfl ?_
  refine pj_goto 15 rfl (by decide) ?_
  refine pj_iload_n 16 1 rfl rfl rfl rfl ?_
  refine pj_bipush 18 rfl (by decide) rfl ?_
  refine pj_icmp_ge 40 21 rfl (by decide) rfl (by decide) (by decide) (fun hc => absurd hc (by decide)) (fun _ => ?_)
  refine pj_aload_n 22 0 rfl rfl rfl rfl ?_
  refine pj_getd (b := n) 25 6 0 rfl pfX6_11 (Or.inr ⟨rfl, hph⟩) rfl hs0 (by omega) (by omega) (by rw [pj_up_ne (by omega), mf_X1_init (by omega) (by omega), pj_nw_ne (by omega), pj_up_ne (by omega), mf_X1_init (by omega) (by omega), pj_nw_ne (by omega), pj_up_ne (by omega), mf_X1_init (by omega) (by omega), pj_nw_ne (by omega), pj_up_ne (by omega), mf_X1_init (by omega) (by omega), pj_nw_ne (by omega), pj_up_ne (by omega), mf_X1_init (by omega) (by omega), pj_nw_ne (by omega), pj_up_eq]) (by omega) ?_
  refine pj_iload_n 26 1 rfl rfl rfl rfl ?_
  refine pj_newo 29 1 rfl poX6_9 rfl hph h41 hb41 ⟨by decide, by decide⟩ ?_
  refine pj_dup 30 rfl rfl rfl ?_
  refine pj_callI 33 rfl pliX6_17 rfl (Nat.le_of_ble_eq_true rfl) ⟨⟨by decide, by decide⟩, by decide, by decide⟩ (by omega) (sm_X1_init hph h41 (by omega) h42 h43 h44 h45 h46 h47 h48 hb42 hb43 hb44 hb45 hb46 hb47 hb48) ?_
  rintro _ _ _ ⟨rfl, rfl, rfl⟩
  refine pj_aast 34 (k := 10) rfl rfl hph h0 (by omega) h41 (by omega) (by omega) (by decide) (by decide) (by decide) ?_
  refine pj_iinc 37 1 (ls' := [(0, .ref a), (1, .int (pj_I 6))]) rfl rfl (by decide) rfl rfl ?_
  refine pj_goto 15 rfl (by decide) ?_
  refine pj_iload_n 16 1 rfl rfl rfl rfl ?_
  refine pj_bipush 18 rfl (by decide) rfl ?_
  refine pj_icmp_ge 40 21 rfl (by decide) rfl (by decide) (by decide) (fun hc => absurd hc (by decide)) (fun _ => ?_)
  refine pj_aload_n 22 0 rfl rfl rfl rfl ?_
  refine pj_getd (b := n) 25 6 0 rfl pfX6_11 (Or.inr ⟨rfl, hph⟩) rfl hs0 (by omega) (by omega) (by rw [pj_up_ne (by omega), mf_X1_init (by omega) (by omega), pj_nw_ne (by omega), pj_up_ne (by omega), mf_X1_init (by omega) (by omega), pj_nw_ne (by omega), pj_up_ne (by omega), mf_X1_init (by omega) (by omega), pj_nw_ne (by omega), pj_up_ne (by omega), mf_X1_init (by omega) (by omega), pj_nw_ne (by omega), pj_up_ne (by omega), mf_X1_init (by omega) (by omega), pj_nw_ne (by omega), pj_up_ne (by omega), mf_X1_init (by omega) (by omega), pj_nw_ne (by omega), pj_up_eq]) (by omega) ?_
  refine pj_iload_n 26 1 rfl rfl rfl rfl ?_
  refine pj_newo 29 1 rfl poX6_9 rfl hph h49 hb49 ⟨by decide, by decide⟩ ?_
  refine pj_dup 30 rfl rfl rfl ?_
  refine pj_callI 33 rfl pliX6_17 rfl (Nat.le_of_ble_eq_true rfl) ⟨⟨by decide, by decide⟩, by decide, by decide⟩ (by omega) (sm_X1_init hph h49 (by omega) h50 h51 h52 h53 h54 h55 h56 hb50 hb51 hb52 hb53 hb54 hb55 hb56) ?_
  rintro _ _ _ ⟨rfl, rfl, rfl⟩
  refine pj_aast 34 (k := 10) rfl rfl hph h0 (by omega) h49 (by omega) (by omega) (by decide) (by decide) (by decide) ?_
  refine pj_iinc 37 1 (ls' := [(0, .ref a), (1, .int (pj_I 7))]) rfl rfl (by decide) rfl rfl ?_
  refine pj_goto 15 rfl (by decide) ?_
  refine pj_iload_n 16 1 rfl rfl rfl rfl ?_
  refine pj_bipush 18 rfl (by decide) rfl ?_
  refine pj_icmp_ge 40 21 rfl (by decide) rfl (by decide) (by decide) (fun hc => absurd hc (by decide)) (fun _ => ?_)
  refine pj_aload_n 22 0 rfl rfl rfl rfl ?_
  refine pj_getd (b := n) 25 6 0 rfl pfX6_11 (Or.inr ⟨rfl, hph⟩) rfl hs0 (by omega) (by omega) (by rw [pj_up_ne (by omega), mf_X1_init (by omega) (by omega), pj_nw_ne (by omega), pj_up_ne (by omega), mf_X1_init (by omega) (by omega), pj_nw_ne (by omega), pj_up_ne (by omega), mf_X1_init (by omega) (by omega), pj_nw_ne (by omega), pj_up_ne (by omega), mf_X1_init (by omega) (by omega), pj_nw_ne (by omega), pj_up_ne (by omega), mf_X1_init (by omega) (by omega), pj_nw_ne (by omega), pj_up_ne (by omega), mf_X1_init (by omega) (by omega), pj_nw_ne (by omega), pj_up_ne (by omega), mf_X1_init (by omega) (by omega), pj_nw_ne (by omega), pj_up_eq]) (by omega) ?_
  refine pj_iload_n 26 1 rfl rfl rfl rfl ?_
  refine pj_newo 29 1 rfl poX6_9 rfl hph h57 hb57 ⟨by decide, by decide⟩ ?_
  refine pj_dup 30 rfl rfl rfl ?_
  refine pj_callI 33 rfl pliX6_17 rfl (Nat.le_of_ble_eq_true rfl) ⟨⟨by decide, by decide⟩, by decide, by decide⟩ (by omega) (sm_X1_init hph h57 (by omega) h58 h59 h60 h61 h62 h63 h64 hb58 hb59 hb60 hb61 hb62 hb63 hb64) ?_
  rintro _ _ _ ⟨rfl, rfl, rfl⟩
  refine pj_aast 34 (k := 10) rfl rfl hph h0 (by omega) h57 (by omega) (by omega) (by decide) (by decide) (by decide) ?_
  refine pj_iinc 37 1 (ls' := [(0, .ref a), (1, .int (pj_I 8))]) rfl rfl (by decide) rfl rfl ?_
  refine pj_goto 15 rfl (by decide) ?_
  refine pj_iload_n 16 1 rfl rfl rfl rfl ?_
  refine pj_bipush 18 rfl (by decide) rfl ?_
  refine pj_icmp_ge 40 21 rfl (by decide) rfl (by decide) (by decide) (fun hc => absurd hc (by decide)) (fun _ => ?_)
  refine pj_aload_n 22 0 rfl rfl rfl rfl ?_
  refine pj_getd (b := n) 25 6 0 rfl pfX6_11 (Or.inr ⟨rfl, hph⟩) rfl hs0 (by omega) (by omega) (by rw [pj_up_ne (by omega), mf_X1_init (by omega) (by omega), pj_nw_ne (by omega), pj_up_ne (by omega), mf_X1_init (by omega) (by omega), pj_nw_ne (by omega), pj_up_ne (by omega), mf_X1_init (by omega) (by omega), pj_nw_ne (by omega), pj_up_ne (by omega), mf_X1_init (by omega) (by omega), pj_nw_ne (by omega), pj_up_ne (by omega), mf_X1_init (by omega) (by omega), pj_nw_ne (by omega), pj_up_ne (by omega), mf_X1_init (by omega) (by omega), pj_nw_ne (by omega), pj_up_ne (by omega), mf_X1_init (by omega) (by omega), pj_nw_ne (by omega), pj_up_ne (by omega), mf_X1_init (by omega) (by omega), pj_nw_ne (by omega), pj_up_eq]) (by omega) ?_
  refine pj_iload_n 26 1 rfl rfl rfl rfl ?_
  refine pj_newo 29 1 rfl poX6_9 rfl hph h65 hb65 ⟨by decide, by decide⟩ ?_
  refine pj_dup 30 rfl rfl rfl ?_
  refine pj_callI 33 rfl pliX6_17 rfl (Nat.le_of_ble_eq_true rfl) ⟨⟨by decide, by decide⟩, by decide, by decide⟩ (by omega) (sm_X1_init hph h65 (by omega) h66 h67 h68 h69 h70 h71 h72 hb66 hb67 hb68 hb69 hb70 hb71 hb72) ?_
  rintro _ _ _ ⟨rfl, rfl, rfl⟩
  refine pj_aast 34 (k := 10) rfl rfl hph h0 (by omega) h65 (by omega) (by omega) (by decide) (by decide) (by decide) ?_
  refine pj_iinc 37 1 (ls' := [(0, .ref a), (1, .int (pj_I 9))]) rfl rfl (by decide) rfl rfl ?_
  refine pj_goto 15 rfl (by decide) ?_
  refine pj_iload_n 16 1 rfl rfl rfl rfl ?_
  refine pj_bipush 18 rfl (by decide) rfl ?_
  refine pj_icmp_ge 40 21 rfl (by decide) rfl (by decide) (by decide) (fun hc => absurd hc (by decide)) (fun _ => ?_)
  refine pj_aload_n 22 0 rfl rfl rfl rfl ?_
  refine pj_getd (b := n) 25 6 0 rfl pfX6_11 (Or.inr ⟨rfl, hph⟩) rfl hs0 (by omega) (by omega) (by rw [pj_up_ne (by omega), mf_X1_init (by omega) (by omega), pj_nw_ne (by omega), pj_up_ne (by omega), mf_X1_init (by omega) (by omega), pj_nw_ne (by omega), pj_up_ne (by omega), mf_X1_init (by omega) (by omega), pj_nw_ne (by omega), pj_up_ne (by omega), mf_X1_init (by omega) (by omega), pj_nw_ne (by omega), pj_up_ne (by omega), mf_X1_init (by omega) (by omega), pj_nw_ne (by omega), pj_up_ne (by omega), mf_X1_init (by omega) (by omega), pj_nw_ne (by omega), pj_up_ne (by omega), mf_X1_init (by omega) (by omega), pj_nw_ne (by omega), pj_up_ne (by omega), mf_X1_init (by omega) (by omega), pj_nw_ne (by omega), pj_up_ne (by omega), mf_X1_init (by omega) (by omega), pj_nw_ne (by omega), pj_up_eq]) (by omega) ?_
  refine pj_iload_n 26 1 rfl rfl rfl rfl ?_
  refine pj_newo 29 1 rfl poX6_9 rfl hph h73 hb73 ⟨by decide, by decide⟩ ?_
  refine pj_dup 30 rfl rfl rfl ?_
  refine pj_callI 33 rfl pliX6_17 rfl (Nat.le_of_ble_eq_true rfl) ⟨⟨by decide, by decide⟩, by decide, by decide⟩ (by omega) (sm_X1_init hph h73 (by omega) h74 h75 h76 h77 h78 h79 h80 hb74 hb75 hb76 hb77 hb78 hb79 hb80) ?_
  rintro _ _ _ ⟨rfl, rfl, rfl⟩
  refine pj_aast 34 (k := 10) rfl rfl hph h0 (by omega) h73 (by omega) (by omega) (by decide) (by decide) (by decide) ?_
  refine pj_iinc 37 1 (ls' := [(0, .ref a), (1, .int (pj_I 10))]) rfl rfl (by decide) rfl rfl ?_
  refine pj_goto 15 rfl (by decide) ?_
  refine pj_iload_n 16 1 rfl rfl rfl rfl ?_
  refine pj_bipush 18 rfl (by decide) rfl ?_
  refine pj_icmp_ge 40 21 rfl (by decide) rfl (by decide) (by decide) (fun _ => ?_) (fun hc => absurd (by decide) hc)
  exact pj_vret rfl rfl ⟨by decide, by decide⟩ ⟨rfl, rfl, rfl⟩
theorem powX0_5 : Cond.methodLink RX0 5 objectInit ∈ pj_TB := (pj_tb 315 (by decide +kernel) (by decide +kernel))
theorem poX0_11 : pj_O RX0 11 4 := ⟨_, _, _, tyX4, rfl, pj_in4, tyX4_ok, rfl, (pj_tb 316 (by decide +kernel) (by decide +kernel)), (pj_tb 156 (by decide +kernel) (by decide +kernel)), (pj_tb 106 (by decide +kernel) (by decide +kernel)), by decide⟩
theorem pliX0_13 : pj_LI RX0 13 mdX4_init := ⟨Or.inr ⟨"PiecesThatFit", List.mem_filter.mpr ⟨List.mem_of_getElem? (i := 317) (by decide +kernel), rfl⟩⟩, (pj_tb 158 (by decide +kernel) (by decide +kernel)), (pj_tb 106 (by decide +kernel) (by decide +kernel)), (pj_tb 159 (by decide +kernel) (by decide +kernel)), rfl, rfl, by decide, by decide, by decide +kernel⟩
theorem poX0_18 : pj_O RX0 18 3 := ⟨_, _, _, tyX3, rfl, pj_in3, tyX3_ok, rfl, (pj_tb 318 (by decide +kernel) (by decide +kernel)), (pj_tb 199 (by decide +kernel) (by decide +kernel)), (pj_tb 107 (by decide +kernel) (by decide +kernel)), by decide⟩
theorem pliX0_20 : pj_LI RX0 20 mdX3_init := ⟨Or.inr ⟨"PiecesThatFit", List.mem_filter.mpr ⟨List.mem_of_getElem? (i := 319) (by decide +kernel), rfl⟩⟩, (pj_tb 201 (by decide +kernel) (by decide +kernel)), (pj_tb 107 (by decide +kernel) (by decide +kernel)), (pj_tb 202 (by decide +kernel) (by decide +kernel)), rfl, rfl, by decide, by decide, by decide +kernel⟩
def mdX0_init : pj_MD := (yX0_init, cX0_init, 1, none, RX0, { frames := 2, cells := 19, slots := 729, locals := 40 }, cdX0_init)
set_option maxRecDepth 100000 in
theorem gcX0_init : pj_gc mdX0_init := pj_gc_of (by decide +kernel)
def mk_X0_init (M : pj_M) (a n : Nat) : pj_M := (pj_up (pj_nw (pj_up (pj_nw (pj_up (pj_nw (pj_up (pj_nw (pj_up (pj_nw (pj_up (pj_nw (pj_up (pj_nw (pj_up (pj_nw (pj_up (pj_nw (pj_up (pj_nw (pj_up (mk_X3_init (pj_nw (pj_up (mk_X4_init (pj_nw M n (pj_do 4)) n (n + 1)) a ((0 : Nat) : Int) ((n : Nat) : Int)) (n + 4) (pj_do 3)) (n + 4) (n + 5)) a ((1 : Nat) : Int) (((n + 4) : Nat) : Int)) (n + 9) pj_dz) a ((2 : Nat) : Int) (((n + 9) : Nat) : Int)) (n + 10) pj_dz) a ((3 : Nat) : Int) (((n + 10) : Nat) : Int)) (n + 11) pj_dz) a ((4 : Nat) : Int) (((n + 11) : Nat) : Int)) (n + 12) pj_dz) a ((5 : Nat) : Int) (((n + 12) : Nat) : Int)) (n + 13) pj_dz) a ((9 : Nat) : Int) (((n + 13) : Nat) : Int)) (n + 14) pj_dz) a ((10 : Nat) : Int) (((n + 14) : Nat) : Int)) (n + 15) pj_dz) a ((13 : Nat) : Int) (((n + 15) : Nat) : Int)) (n + 16) pj_dz) a ((14 : Nat) : Int) (((n + 16) : Nat) : Int)) (n + 17) pj_dz) a ((15 : Nat) : Int) (((n + 17) : Nat) : Int)) (n + 18) pj_dz) a ((16 : Nat) : Int) (((n + 18) : Nat) : Int))
set_option maxRecDepth 100000 in
theorem mf_X0_init {M : pj_M} {a n b : Nat} {j : Int} (hba : b ≠ a) (hbn : b < n) : mk_X0_init M a n b j = M b j := by
  unfold mk_X0_init
  rw [pj_up_ne hba, pj_nw_ne (by omega), pj_up_ne hba, pj_nw_ne (by omega), pj_up_ne hba, pj_nw_ne (by omega), pj_up_ne hba, pj_nw_ne (by omega), pj_up_ne hba, pj_nw_ne (by omega), pj_up_ne hba, pj_nw_ne (by omega), pj_up_ne hba, pj_nw_ne (by omega), pj_up_ne hba, pj_nw_ne (by omega), pj_up_ne hba, pj_nw_ne (by omega), pj_up_ne hba, pj_nw_ne (by omega), pj_up_ne hba, mf_X3_init (by omega) (by omega), pj_nw_ne (by omega), pj_up_ne hba, mf_X4_init (by omega) (by omega), pj_nw_ne (by omega)]
set_option maxRecDepth 100000 in
set_option maxHeartbeats 8000000 in
theorem sm_X0_init {l : Launch} {g : pj_G} {a n : Nat} {M : pj_M} (hph : pj_ph g = false) (hs0 : pj_sh a = (0, 0)) (han : a < n) (h0 : pj_sh n = (0, 4)) (h1 : pj_sh (n + 1) = (1, 12)) (h2 : pj_sh (n + 2) = (1, 12)) (h3 : pj_sh (n + 3) = (1, 48)) (h4 : pj_sh (n + 4) = (0, 3)) (h5 : pj_sh (n + 5) = (1, 6)) (h6 : pj_sh (n + 6) = (1, 6)) (h7 : pj_sh (n + 7) = (1, 6)) (h8 : pj_sh (n + 8) = (1, 6)) (h9 : pj_sh (n + 9) = (1, 13)) (h10 : pj_sh (n + 10) = (1, 13)) (h11 : pj_sh (n + 11) = (1, 52)) (h12 : pj_sh (n + 12) = (1, 13)) (h13 : pj_sh (n + 13) = (1, 17)) (h14 : pj_sh (n + 14) = (1, 10)) (h15 : pj_sh (n + 15) = (1, 126)) (h16 : pj_sh (n + 16) = (1, 126)) (h17 : pj_sh (n + 17) = (1, 126)) (h18 : pj_sh (n + 18) = (1, 126)) (hb0 : n < pj_NK) (hb1 : (n + 1) < pj_NK) (hb2 : (n + 2) < pj_NK) (hb3 : (n + 3) < pj_NK) (hb4 : (n + 4) < pj_NK) (hb5 : (n + 5) < pj_NK) (hb6 : (n + 6) < pj_NK) (hb7 : (n + 7) < pj_NK) (hb8 : (n + 8) < pj_NK) (hb9 : (n + 9) < pj_NK) (hb10 : (n + 10) < pj_NK) (hb11 : (n + 11) < pj_NK) (hb12 : (n + 12) < pj_NK) (hb13 : (n + 13) < pj_NK) (hb14 : (n + 14) < pj_NK) (hb15 : (n + 15) < pj_NK) (hb16 : (n + 16) < pj_NK) (hb17 : (n + 17) < pj_NK) (hb18 : (n + 18) < pj_NK) : pj_S l g mdX0_init [.ref a] n M (fun v n' M' => v = none ∧ n' = (n + 19) ∧ M' = mk_X0_init M a n) := by
  have hNK : pj_NK = 229 := rfl
  refine pj_ofR (ls := [(0, .ref a)]) gcX0_init (by decide) rfl (Nat.le_of_ble_eq_true rfl) rfl ?_
  refine pj_aload_n 1 0 rfl rfl rfl rfl ?_
  refine pj_oinit 4 rfl powX0_5 pj_ow2 pj_ow3 rfl ⟨by decide, Nat.le_of_ble_eq_true rfl⟩ ?_
  refine pj_aload_n 5 0 rfl rfl rfl rfl ?_
  refine pj_newo 8 4 rfl poX0_11 rfl hph h0 hb0 ⟨by decide, by decide⟩ ?_
  refine pj_dup 9 rfl rfl rfl ?_
  refine pj_callI 12 rfl pliX0_13 rfl (Nat.le_of_ble_eq_true rfl) ⟨⟨by decide, by decide⟩, by decide, by decide⟩ (by omega) (sm_X4_init hph h0 (by omega) h1 h2 h3 hb1 hb2 hb3) ?_
  rintro _ _ _ ⟨rfl, rfl, rfl⟩
  refine pj_putr 15 0 0 rfl pfX0_14 (by first | exact Or.inl rfl | exact Or.inr ⟨rfl, hph, rfl, _, _, _, rfl, rfl⟩) rfl hs0 (by omega) (by omega) (by omega) ?_
  refine pj_aload_n 16 0 rfl rfl rfl rfl ?_
  refine pj_newo 19 3 rfl poX0_18 rfl hph h4 hb4 ⟨by decide, by decide⟩ ?_
  refine pj_dup 20 rfl rfl rfl ?_
  refine pj_callI 23 rfl pliX0_20 rfl (Nat.le_of_ble_eq_true rfl) ⟨⟨by decide, by decide⟩, by decide, by decide⟩ (by omega) (sm_X3_init hph h4 (by omega) h5 h6 h7 h8 hb5 hb6 hb7 hb8) ?_
  rintro _ _ _ ⟨rfl, rfl, rfl⟩
  refine pj_putr 26 0 1 rfl pfX0_21 (by first | exact Or.inl rfl | exact Or.inr ⟨rfl, hph, rfl, _, _, _, rfl, rfl⟩) rfl hs0 (by omega) (by omega) (by omega) ?_
  refine pj_aload_n 27 0 rfl rfl rfl rfl ?_
  refine pj_bipush 29 rfl (by decide) rfl ?_
  refine pj_newa 31 1 rfl rfl pj_ac_int rfl (by decide) h9 hb9 (by decide) ⟨by decide, by decide⟩ ?_
  refine pj_putr 34 0 2 rfl pfX0_25 (by first | exact Or.inl rfl | exact Or.inr ⟨rfl, hph, rfl, _, _, _, rfl, rfl⟩) rfl hs0 (by omega) (by omega) (by omega) ?_
  refine pj_aload_n 35 0 rfl rfl rfl rfl ?_
  refine pj_bipush 37 rfl (by decide) rfl ?_
  refine pj_newa 39 1 rfl rfl pj_ac_int rfl (by decide) h10 hb10 (by decide) ⟨by decide, by decide⟩ ?_
  refine pj_putr 42 0 3 rfl pfX0_29 (by first | exact Or.inl rfl | exact Or.inr ⟨rfl, hph, rfl, _, _, _, rfl, rfl⟩) rfl hs0 (by omega) (by omega) (by omega) ?_
  refine pj_aload_n 43 0 rfl rfl rfl rfl ?_
  refine pj_bipush 45 rfl (by decide) rfl ?_
  refine pj_newa 47 1 rfl rfl pj_ac_int rfl (by decide) h11 hb11 (by decide) ⟨by decide, by decide⟩ ?_
  refine pj_putr 50 0 4 rfl pfX0_32 (by first | exact Or.inl rfl | exact Or.inr ⟨rfl, hph, rfl, _, _, _, rfl, rfl⟩) rfl hs0 (by omega) (by omega) (by omega) ?_
  refine pj_aload_n 51 0 rfl rfl rfl rfl ?_
  refine pj_bipush 53 rfl (by decide) rfl ?_
  refine pj_newa 55 1 rfl rfl pj_ac_int rfl (by decide) h12 hb12 (by decide) ⟨by decide, by decide⟩ ?_
  refine pj_putr 58 0 5 rfl pfX0_35 (by first | exact Or.inl rfl | exact Or.inr ⟨rfl, hph, rfl, _, _, _, rfl, rfl⟩) rfl hs0 (by omega) (by omega) (by omega) ?_
  refine pj_aload_n 59 0 rfl rfl rfl rfl ?_
  refine pj_bipush 61 rfl (by decide) rfl ?_
  refine pj_newa 63 1 rfl rfl pj_ac_int rfl (by decide) h13 hb13 (by decide) ⟨by decide, by decide⟩ ?_
  refine pj_putr 66 0 9 rfl pfX0_38 (by first | exact Or.inl rfl | exact Or.inr ⟨rfl, hph, rfl, _, _, _, rfl, rfl⟩) rfl hs0 (by omega) (by omega) (by omega) ?_
  refine pj_aload_n 67 0 rfl rfl rfl rfl ?_
  refine pj_bipush 69 rfl (by decide) rfl ?_
  refine pj_newa 71 1 rfl rfl pj_ac_int rfl (by decide) h14 hb14 (by decide) ⟨by decide, by decide⟩ ?_
  refine pj_putr 74 0 10 rfl pfX0_41 (by first | exact Or.inl rfl | exact Or.inr ⟨rfl, hph, rfl, _, _, _, rfl, rfl⟩) rfl hs0 (by omega) (by omega) (by omega) ?_
  refine pj_aload_n 75 0 rfl rfl rfl rfl ?_
  refine pj_bipush 77 rfl (by decide) rfl ?_
  refine pj_newa 79 1 rfl rfl pj_ac_int rfl (by decide) h15 hb15 (by decide) ⟨by decide, by decide⟩ ?_
  refine pj_putr 82 0 13 rfl pfX0_44 (by first | exact Or.inl rfl | exact Or.inr ⟨rfl, hph, rfl, _, _, _, rfl, rfl⟩) rfl hs0 (by omega) (by omega) (by omega) ?_
  refine pj_aload_n 83 0 rfl rfl rfl rfl ?_
  refine pj_bipush 85 rfl (by decide) rfl ?_
  refine pj_newa 87 1 rfl rfl pj_ac_int rfl (by decide) h16 hb16 (by decide) ⟨by decide, by decide⟩ ?_
  refine pj_putr 90 0 14 rfl pfX0_47 (by first | exact Or.inl rfl | exact Or.inr ⟨rfl, hph, rfl, _, _, _, rfl, rfl⟩) rfl hs0 (by omega) (by omega) (by omega) ?_
  refine pj_aload_n 91 0 rfl rfl rfl rfl ?_
  refine pj_bipush 93 rfl (by decide) rfl ?_
  refine pj_newa 95 1 rfl rfl pj_ac_int rfl (by decide) h17 hb17 (by decide) ⟨by decide, by decide⟩ ?_
  refine pj_putr 98 0 15 rfl pfX0_50 (by first | exact Or.inl rfl | exact Or.inr ⟨rfl, hph, rfl, _, _, _, rfl, rfl⟩) rfl hs0 (by omega) (by omega) (by omega) ?_
  refine pj_aload_n 99 0 rfl rfl rfl rfl ?_
  refine pj_bipush 101 rfl (by decide) rfl ?_
  refine pj_newa 103 1 rfl rfl pj_ac_int rfl (by decide) h18 hb18 (by decide) ⟨by decide, by decide⟩ ?_
  refine pj_putr 106 0 16 rfl pfX0_53 (by first | exact Or.inl rfl | exact Or.inr ⟨rfl, hph, rfl, _, _, _, rfl, rfl⟩) rfl hs0 (by omega) (by omega) (by omega) ?_
  exact pj_vret rfl rfl ⟨by decide, by decide⟩ ⟨rfl, rfl, rfl⟩
theorem powX2_3 : Cond.methodLink RX2 3 objectInit ∈ pj_TB := (pj_tb 386 (by decide +kernel) (by decide +kernel))
def mdX2_init : pj_MD := (yX2_init, cX2_init, 1, none, RX2, { frames := 1, cells := 2, slots := 1365, locals := 20 }, cdX2_init)
set_option maxRecDepth 100000 in
theorem gcX2_init : pj_gc mdX2_init := pj_gc_of (by decide +kernel)
def mk_X2_init (M : pj_M) (a n : Nat) : pj_M := (pj_up (pj_nw (pj_up (pj_nw M n pj_dz) a ((0 : Nat) : Int) ((n : Nat) : Int)) (n + 1) pj_dz) a ((1 : Nat) : Int) (((n + 1) : Nat) : Int))
set_option maxRecDepth 100000 in
theorem mf_X2_init {M : pj_M} {a n b : Nat} {j : Int} (hba : b ≠ a) (hbn : b < n) : mk_X2_init M a n b j = M b j := by
  unfold mk_X2_init
  rw [pj_up_ne hba, pj_nw_ne (by omega), pj_up_ne hba, pj_nw_ne (by omega)]
set_option maxRecDepth 100000 in
set_option maxHeartbeats 8000000 in
theorem sm_X2_init {l : Launch} {g : pj_G} {a n : Nat} {M : pj_M} (hph : pj_ph g = false) (hs0 : pj_sh a = (0, 2)) (han : a < n) (h0 : pj_sh n = (1, 1350)) (h1 : pj_sh (n + 1) = (1, 15)) (hb0 : n < pj_NK) (hb1 : (n + 1) < pj_NK) : pj_S l g mdX2_init [.ref a] n M (fun v n' M' => v = none ∧ n' = (n + 2) ∧ M' = mk_X2_init M a n) := by
  have hNK : pj_NK = 229 := rfl
  refine pj_ofR (ls := [(0, .ref a)]) gcX2_init (by decide) rfl (Nat.le_of_ble_eq_true rfl) rfl ?_
  refine pj_aload_n 1 0 rfl rfl rfl rfl ?_
  refine pj_oinit 4 rfl powX2_3 pj_ow2 pj_ow3 rfl ⟨by decide, Nat.le_of_ble_eq_true rfl⟩ ?_
  refine pj_aload_n 5 0 rfl rfl rfl rfl ?_
  refine pj_sipush 8 rfl (by decide) rfl ?_
  refine pj_newa 10 1 rfl rfl pj_ac_int rfl (by decide) h0 hb0 (by decide) ⟨by decide, by decide⟩ ?_
  refine pj_putr 13 2 0 rfl pfX2_11 (by first | exact Or.inl rfl | exact Or.inr ⟨rfl, hph, rfl, _, _, _, rfl, rfl⟩) rfl hs0 (by omega) (by omega) (by omega) ?_
  refine pj_aload_n 14 0 rfl rfl rfl rfl ?_
  refine pj_bipush 16 rfl (by decide) rfl ?_
  refine pj_newa 18 1 rfl rfl pj_ac_int rfl (by decide) h1 hb1 (by decide) ⟨by decide, by decide⟩ ?_
  refine pj_putr 21 2 1 rfl pfX2_15 (by first | exact Or.inl rfl | exact Or.inr ⟨rfl, hph, rfl, _, _, _, rfl, rfl⟩) rfl hs0 (by omega) (by omega) (by omega) ?_
  exact pj_vret rfl rfl ⟨by decide, by decide⟩ ⟨rfl, rfl, rfl⟩
theorem powX8_3 : Cond.methodLink RX8 3 objectInit ∈ pj_TB := (pj_tb 399 (by decide +kernel) (by decide +kernel))
def mdX8_init : pj_MD := (yX8_init, cX8_init, 1, none, RX8, { frames := 1, cells := 4, slots := 62, locals := 20 }, cdX8_init)
set_option maxRecDepth 100000 in
theorem gcX8_init : pj_gc mdX8_init := pj_gc_of (by decide +kernel)
def mk_X8_init (M : pj_M) (a n : Nat) : pj_M := (pj_up (pj_nw (pj_up (pj_nw (pj_up (pj_nw (pj_up (pj_nw M n pj_dz) a ((0 : Nat) : Int) ((n : Nat) : Int)) (n + 1) pj_dz) a ((1 : Nat) : Int) (((n + 1) : Nat) : Int)) (n + 2) pj_dz) a ((3 : Nat) : Int) (((n + 2) : Nat) : Int)) (n + 3) pj_dz) a ((4 : Nat) : Int) (((n + 3) : Nat) : Int))
set_option maxRecDepth 100000 in
theorem mf_X8_init {M : pj_M} {a n b : Nat} {j : Int} (hba : b ≠ a) (hbn : b < n) : mk_X8_init M a n b j = M b j := by
  unfold mk_X8_init
  rw [pj_up_ne hba, pj_nw_ne (by omega), pj_up_ne hba, pj_nw_ne (by omega), pj_up_ne hba, pj_nw_ne (by omega), pj_up_ne hba, pj_nw_ne (by omega)]
set_option maxRecDepth 100000 in
set_option maxHeartbeats 8000000 in
theorem sm_X8_init {l : Launch} {g : pj_G} {a n : Nat} {M : pj_M} (hph : pj_ph g = false) (hs0 : pj_sh a = (0, 8)) (han : a < n) (h0 : pj_sh n = (1, 16)) (h1 : pj_sh (n + 1) = (1, 16)) (h2 : pj_sh (n + 2) = (1, 16)) (h3 : pj_sh (n + 3) = (1, 14)) (hb0 : n < pj_NK) (hb1 : (n + 1) < pj_NK) (hb2 : (n + 2) < pj_NK) (hb3 : (n + 3) < pj_NK) : pj_S l g mdX8_init [.ref a] n M (fun v n' M' => v = none ∧ n' = (n + 4) ∧ M' = mk_X8_init M a n) := by
  have hNK : pj_NK = 229 := rfl
  refine pj_ofR (ls := [(0, .ref a)]) gcX8_init (by decide) rfl (Nat.le_of_ble_eq_true rfl) rfl ?_
  refine pj_aload_n 1 0 rfl rfl rfl rfl ?_
  refine pj_oinit 4 rfl powX8_3 pj_ow2 pj_ow3 rfl ⟨by decide, Nat.le_of_ble_eq_true rfl⟩ ?_
  refine pj_aload_n 5 0 rfl rfl rfl rfl ?_
  refine pj_bipush 7 rfl (by decide) rfl ?_
  refine pj_newa 9 1 rfl rfl pj_ac_int rfl (by decide) h0 hb0 (by decide) ⟨by decide, by decide⟩ ?_
  refine pj_putr 12 8 0 rfl pfX8_9 (by first | exact Or.inl rfl | exact Or.inr ⟨rfl, hph, rfl, _, _, _, rfl, rfl⟩) rfl hs0 (by omega) (by omega) (by omega) ?_
  refine pj_aload_n 13 0 rfl rfl rfl rfl ?_
  refine pj_bipush 15 rfl (by decide) rfl ?_
  refine pj_newa 17 1 rfl rfl pj_ac_int rfl (by decide) h1 hb1 (by decide) ⟨by decide, by decide⟩ ?_
  refine pj_putr 20 8 1 rfl pfX8_15 (by first | exact Or.inl rfl | exact Or.inr ⟨rfl, hph, rfl, _, _, _, rfl, rfl⟩) rfl hs0 (by omega) (by omega) (by omega) ?_
  refine pj_aload_n 21 0 rfl rfl rfl rfl ?_
  refine pj_bipush 23 rfl (by decide) rfl ?_
  refine pj_newa 25 1 rfl rfl pj_ac_int rfl (by decide) h2 hb2 (by decide) ⟨by decide, by decide⟩ ?_
  refine pj_putr 28 8 3 rfl pfX8_18 (by first | exact Or.inl rfl | exact Or.inr ⟨rfl, hph, rfl, _, _, _, rfl, rfl⟩) rfl hs0 (by omega) (by omega) (by omega) ?_
  refine pj_aload_n 29 0 rfl rfl rfl rfl ?_
  refine pj_bipush 31 rfl (by decide) rfl ?_
  refine pj_newa 33 1 rfl rfl pj_ac_int rfl (by decide) h3 hb3 (by decide) ⟨by decide, by decide⟩ ?_
  refine pj_putr 36 8 4 rfl pfX8_21 (by first | exact Or.inl rfl | exact Or.inr ⟨rfl, hph, rfl, _, _, _, rfl, rfl⟩) rfl hs0 (by omega) (by omega) (by omega) ?_
  exact pj_vret rfl rfl ⟨by decide, by decide⟩ ⟨rfl, rfl, rfl⟩
theorem powX10_3 : Cond.methodLink RX10 3 objectInit ∈ pj_TB := (pj_tb 425 (by decide +kernel) (by decide +kernel))
def mdX10_init : pj_MD := (yX10_init, cX10_init, 1, none, RX10, { frames := 1, cells := 2, slots := 13, locals := 20 }, cdX10_init)
set_option maxRecDepth 100000 in
theorem gcX10_init : pj_gc mdX10_init := pj_gc_of (by decide +kernel)
def mk_X10_init (M : pj_M) (a n : Nat) : pj_M := (pj_up (pj_nw (pj_up (pj_nw M n pj_dz) a ((0 : Nat) : Int) ((n : Nat) : Int)) (n + 1) pj_dz) a ((2 : Nat) : Int) (((n + 1) : Nat) : Int))
set_option maxRecDepth 100000 in
theorem mf_X10_init {M : pj_M} {a n b : Nat} {j : Int} (hba : b ≠ a) (hbn : b < n) : mk_X10_init M a n b j = M b j := by
  unfold mk_X10_init
  rw [pj_up_ne hba, pj_nw_ne (by omega), pj_up_ne hba, pj_nw_ne (by omega)]
set_option maxRecDepth 100000 in
set_option maxHeartbeats 8000000 in
theorem sm_X10_init {l : Launch} {g : pj_G} {a n : Nat} {M : pj_M} (hph : pj_ph g = false) (hs0 : pj_sh a = (0, 10)) (han : a < n) (h0 : pj_sh n = (1, 8)) (h1 : pj_sh (n + 1) = (1, 5)) (hb0 : n < pj_NK) (hb1 : (n + 1) < pj_NK) : pj_S l g mdX10_init [.ref a] n M (fun v n' M' => v = none ∧ n' = (n + 2) ∧ M' = mk_X10_init M a n) := by
  have hNK : pj_NK = 229 := rfl
  refine pj_ofR (ls := [(0, .ref a)]) gcX10_init (by decide) rfl (Nat.le_of_ble_eq_true rfl) rfl ?_
  refine pj_aload_n 1 0 rfl rfl rfl rfl ?_
  refine pj_oinit 4 rfl powX10_3 pj_ow2 pj_ow3 rfl ⟨by decide, Nat.le_of_ble_eq_true rfl⟩ ?_
  refine pj_aload_n 5 0 rfl rfl rfl rfl ?_
  refine pj_bipush 7 rfl (by decide) rfl ?_
  refine pj_newa 9 1 rfl rfl pj_ac_int rfl (by decide) h0 hb0 (by decide) ⟨by decide, by decide⟩ ?_
  refine pj_putr 12 10 0 rfl pfX10_9 (by first | exact Or.inl rfl | exact Or.inr ⟨rfl, hph, rfl, _, _, _, rfl, rfl⟩) rfl hs0 (by omega) (by omega) (by omega) ?_
  refine pj_aload_n 13 0 rfl rfl rfl rfl ?_
  refine pj_iconst 14 rfl rfl ?_
  refine pj_newa 16 1 rfl rfl pj_ac_int rfl (by decide) h1 hb1 (by decide) ⟨by decide, by decide⟩ ?_
  refine pj_putr 19 10 2 rfl pfX10_15 (by first | exact Or.inl rfl | exact Or.inr ⟨rfl, hph, rfl, _, _, _, rfl, rfl⟩) rfl hs0 (by omega) (by omega) (by omega) ?_
  exact pj_vret rfl rfl ⟨by decide, by decide⟩ ⟨rfl, rfl, rfl⟩
theorem powX11_3 : Cond.methodLink RX11 3 objectInit ∈ pj_TB := (pj_tb 128 (by decide +kernel) (by decide +kernel))
theorem poX11_9 : pj_O RX11 9 9 := ⟨_, _, _, tyX9, rfl, pj_in9, tyX9_ok, rfl, (pj_tb 131 (by decide +kernel) (by decide +kernel)), (pj_tb 132 (by decide +kernel) (by decide +kernel)), (pj_tb 104 (by decide +kernel) (by decide +kernel)), by decide⟩
theorem pliX11_11 : pj_LI RX11 11 mdX9_init := ⟨Or.inr ⟨"PiecesThatFit", List.mem_filter.mpr ⟨List.mem_of_getElem? (i := 133) (by decide +kernel), rfl⟩⟩, (pj_tb 134 (by decide +kernel) (by decide +kernel)), (pj_tb 104 (by decide +kernel) (by decide +kernel)), (pj_tb 135 (by decide +kernel) (by decide +kernel)), rfl, rfl, by decide, by decide, by decide +kernel⟩
theorem poX11_16 : pj_O RX11 16 5 := ⟨_, _, _, tyX5, rfl, pj_in5, tyX5_ok, rfl, (pj_tb 149 (by decide +kernel) (by decide +kernel)), (pj_tb 150 (by decide +kernel) (by decide +kernel)), (pj_tb 105 (by decide +kernel) (by decide +kernel)), by decide⟩
theorem pliX11_18 : pj_LI RX11 18 mdX5_init := ⟨Or.inr ⟨"PiecesThatFit", List.mem_filter.mpr ⟨List.mem_of_getElem? (i := 151) (by decide +kernel), rfl⟩⟩, (pj_tb 152 (by decide +kernel) (by decide +kernel)), (pj_tb 105 (by decide +kernel) (by decide +kernel)), (pj_tb 153 (by decide +kernel) (by decide +kernel)), rfl, rfl, by decide, by decide, by decide +kernel⟩
theorem poX11_23 : pj_O RX11 23 1 := ⟨_, _, _, tyX1, rfl, pj_in1, tyX1_ok, rfl, (pj_tb 236 (by decide +kernel) (by decide +kernel)), (pj_tb 237 (by decide +kernel) (by decide +kernel)), (pj_tb 108 (by decide +kernel) (by decide +kernel)), by decide⟩
theorem pliX11_25 : pj_LI RX11 25 mdX1_init := ⟨Or.inr ⟨"PiecesThatFit", List.mem_filter.mpr ⟨List.mem_of_getElem? (i := 238) (by decide +kernel), rfl⟩⟩, (pj_tb 239 (by decide +kernel) (by decide +kernel)), (pj_tb 108 (by decide +kernel) (by decide +kernel)), (pj_tb 240 (by decide +kernel) (by decide +kernel)), rfl, rfl, by decide, by decide, by decide +kernel⟩
theorem poX11_33 : pj_O RX11 33 7 := ⟨_, _, _, tyX7, rfl, pj_in7, tyX7_ok, rfl, (pj_tb 288 (by decide +kernel) (by decide +kernel)), (pj_tb 245 (by decide +kernel) (by decide +kernel)), (pj_tb 109 (by decide +kernel) (by decide +kernel)), by decide⟩
theorem pliX11_35 : pj_LI RX11 35 mdX7_init := ⟨Or.inr ⟨"PiecesThatFit", List.mem_filter.mpr ⟨List.mem_of_getElem? (i := 289) (by decide +kernel), rfl⟩⟩, (pj_tb 247 (by decide +kernel) (by decide +kernel)), (pj_tb 109 (by decide +kernel) (by decide +kernel)), (pj_tb 248 (by decide +kernel) (by decide +kernel)), rfl, rfl, by decide, by decide, by decide +kernel⟩
theorem poX11_40 : pj_O RX11 40 6 := ⟨_, _, _, tyX6, rfl, pj_in6, tyX6_ok, rfl, (pj_tb 290 (by decide +kernel) (by decide +kernel)), (pj_tb 291 (by decide +kernel) (by decide +kernel)), (pj_tb 110 (by decide +kernel) (by decide +kernel)), by decide⟩
theorem pliX11_42 : pj_LI RX11 42 mdX6_init := ⟨Or.inl (pj_tb 292 (by decide +kernel) (by decide +kernel)), (pj_tb 293 (by decide +kernel) (by decide +kernel)), (pj_tb 110 (by decide +kernel) (by decide +kernel)), (pj_tb 294 (by decide +kernel) (by decide +kernel)), rfl, rfl, by decide, by decide, by decide +kernel⟩
theorem pdkX11_23 : Cond.classLink RX11 23 "PiecesThatFit$Desk" ∈ pj_TB := (pj_tb 236 (by decide +kernel) (by decide +kernel))
theorem poX11_55 : pj_O RX11 55 0 := ⟨_, _, _, tyX0, rfl, pj_in0, tyX0_ok, rfl, (pj_tb 310 (by decide +kernel) (by decide +kernel)), (pj_tb 311 (by decide +kernel) (by decide +kernel)), (pj_tb 111 (by decide +kernel) (by decide +kernel)), by decide⟩
theorem pliX11_57 : pj_LI RX11 57 mdX0_init := ⟨Or.inr ⟨"PiecesThatFit", List.mem_filter.mpr ⟨List.mem_of_getElem? (i := 312) (by decide +kernel), rfl⟩⟩, (pj_tb 313 (by decide +kernel) (by decide +kernel)), (pj_tb 111 (by decide +kernel) (by decide +kernel)), (pj_tb 314 (by decide +kernel) (by decide +kernel)), rfl, rfl, by decide, by decide, by decide +kernel⟩
theorem poX11_68 : pj_O RX11 68 2 := ⟨_, _, _, tyX2, rfl, pj_in2, tyX2_ok, rfl, (pj_tb 381 (by decide +kernel) (by decide +kernel)), (pj_tb 382 (by decide +kernel) (by decide +kernel)), (pj_tb 112 (by decide +kernel) (by decide +kernel)), by decide⟩
theorem pliX11_70 : pj_LI RX11 70 mdX2_init := ⟨Or.inr ⟨"PiecesThatFit", List.mem_filter.mpr ⟨List.mem_of_getElem? (i := 383) (by decide +kernel), rfl⟩⟩, (pj_tb 384 (by decide +kernel) (by decide +kernel)), (pj_tb 112 (by decide +kernel) (by decide +kernel)), (pj_tb 385 (by decide +kernel) (by decide +kernel)), rfl, rfl, by decide, by decide, by decide +kernel⟩
theorem poX11_75 : pj_O RX11 75 8 := ⟨_, _, _, tyX8, rfl, pj_in8, tyX8_ok, rfl, (pj_tb 394 (by decide +kernel) (by decide +kernel)), (pj_tb 395 (by decide +kernel) (by decide +kernel)), (pj_tb 113 (by decide +kernel) (by decide +kernel)), by decide⟩
theorem pliX11_77 : pj_LI RX11 77 mdX8_init := ⟨Or.inr ⟨"PiecesThatFit", List.mem_filter.mpr ⟨List.mem_of_getElem? (i := 396) (by decide +kernel), rfl⟩⟩, (pj_tb 397 (by decide +kernel) (by decide +kernel)), (pj_tb 113 (by decide +kernel) (by decide +kernel)), (pj_tb 398 (by decide +kernel) (by decide +kernel)), rfl, rfl, by decide, by decide, by decide +kernel⟩
theorem poX11_82 : pj_O RX11 82 10 := ⟨_, _, _, tyX10, rfl, pj_in10, tyX10_ok, rfl, (pj_tb 420 (by decide +kernel) (by decide +kernel)), (pj_tb 421 (by decide +kernel) (by decide +kernel)), (pj_tb 114 (by decide +kernel) (by decide +kernel)), by decide⟩
theorem pliX11_84 : pj_LI RX11 84 mdX10_init := ⟨Or.inr ⟨"PiecesThatFit", List.mem_filter.mpr ⟨List.mem_of_getElem? (i := 422) (by decide +kernel), rfl⟩⟩, (pj_tb 423 (by decide +kernel) (by decide +kernel)), (pj_tb 114 (by decide +kernel) (by decide +kernel)), (pj_tb 424 (by decide +kernel) (by decide +kernel)), rfl, rfl, by decide, by decide, by decide +kernel⟩
def mdX11_init : pj_MD := (yX11_init, cX11_init, 2, none, RX11, { frames := 4, cells := 202, slots := 5410, locals := 81 }, cdX11_init)
set_option maxRecDepth 100000 in
theorem gcX11_init : pj_gc mdX11_init := pj_gc_of (by decide +kernel)
def mk_X11_init (M : pj_M) (a n : Nat) : pj_M := (pj_up (mk_X1_init (pj_nw (pj_up (mk_X1_init (pj_nw (pj_up (pj_nw (pj_up (mk_X10_init (pj_nw (pj_up (mk_X8_init (pj_nw (pj_up (mk_X2_init (pj_nw (pj_up (mk_X0_init (pj_nw (pj_up (mk_X0_init (pj_nw (pj_up (mk_X0_init (pj_nw (pj_up (pj_nw (pj_up (pj_nw (pj_up (mk_X6_init (pj_nw (pj_up (mk_X7_init (pj_nw (pj_up (mk_X1_init (pj_nw (pj_up (mk_X1_init (pj_nw (pj_up (mk_X5_init (pj_nw (pj_up (mk_X9_init (pj_nw M n (pj_do 9)) n (n + 1)) a ((0 : Nat) : Int) ((n : Nat) : Int)) (n + 2) (pj_do 5)) (n + 2) (n + 3)) a ((1 : Nat) : Int) (((n + 2) : Nat) : Int)) (n + 12) (pj_do 1)) (n + 12) (n + 13)) a ((2 : Nat) : Int) (((n + 12) : Nat) : Int)) (n + 20) (pj_do 1)) (n + 20) (n + 21)) a ((3 : Nat) : Int) (((n + 20) : Nat) : Int)) (n + 28) (pj_do 7)) (n + 28) (n + 29)) a ((4 : Nat) : Int) (((n + 28) : Nat) : Int)) (n + 30) (pj_do 6)) (n + 30) (n + 31)) a ((5 : Nat) : Int) (((n + 30) : Nat) : Int)) (n + 112) pj_dm) a ((6 : Nat) : Int) (((n + 112) : Nat) : Int)) (n + 113) pj_dz) a ((7 : Nat) : Int) (((n + 113) : Nat) : Int)) (n + 114) (pj_do 0)) (n + 114) (n + 115)) a ((8 : Nat) : Int) (((n + 114) : Nat) : Int)) (n + 134) (pj_do 0)) (n + 134) (n + 135)) a ((9 : Nat) : Int) (((n + 134) : Nat) : Int)) (n + 154) (pj_do 0)) (n + 154) (n + 155)) a ((10 : Nat) : Int) (((n + 154) : Nat) : Int)) (n + 174) (pj_do 2)) (n + 174) (n + 175)) a ((11 : Nat) : Int) (((n + 174) : Nat) : Int)) (n + 177) (pj_do 8)) (n + 177) (n + 178)) a ((12 : Nat) : Int) (((n + 177) : Nat) : Int)) (n + 182) (pj_do 10)) (n + 182) (n + 183)) a ((13 : Nat) : Int) (((n + 182) : Nat) : Int)) (n + 185) pj_dz) a ((14 : Nat) : Int) (((n + 185) : Nat) : Int)) (n + 186) (pj_do 1)) (n + 186) (n + 187)) (n + 112) 0 (((n + 186) : Nat) : Int)) (n + 194) (pj_do 1)) (n + 194) (n + 195)) (n + 112) 1 (((n + 194) : Nat) : Int))
set_option maxRecDepth 100000 in
theorem mf_X11_init {M : pj_M} {a n b : Nat} {j : Int} (hba : b ≠ a) (hbn : b < n) : mk_X11_init M a n b j = M b j := by
  unfold mk_X11_init
  rw [pj_up_ne (by omega), mf_X1_init (by omega) (by omega), pj_nw_ne (by omega), pj_up_ne (by omega), mf_X1_init (by omega) (by omega), pj_nw_ne (by omega), pj_up_ne hba, pj_nw_ne (by omega), pj_up_ne hba, mf_X10_init (by omega) (by omega), pj_nw_ne (by omega), pj_up_ne hba, mf_X8_init (by omega) (by omega), pj_nw_ne (by omega), pj_up_ne hba, mf_X2_init (by omega) (by omega), pj_nw_ne (by omega), pj_up_ne hba, mf_X0_init (by omega) (by omega), pj_nw_ne (by omega), pj_up_ne hba, mf_X0_init (by omega) (by omega), pj_nw_ne (by omega), pj_up_ne hba, mf_X0_init (by omega) (by omega), pj_nw_ne (by omega), pj_up_ne hba, pj_nw_ne (by omega), pj_up_ne hba, pj_nw_ne (by omega), pj_up_ne hba, mf_X6_init (by omega) (by omega), pj_nw_ne (by omega), pj_up_ne hba, mf_X7_init (by omega) (by omega), pj_nw_ne (by omega), pj_up_ne hba, mf_X1_init (by omega) (by omega), pj_nw_ne (by omega), pj_up_ne hba, mf_X1_init (by omega) (by omega), pj_nw_ne (by omega), pj_up_ne hba, mf_X5_init (by omega) (by omega), pj_nw_ne (by omega), pj_up_ne hba, mf_X9_init (by omega) (by omega), pj_nw_ne (by omega)]
set_option maxRecDepth 100000 in
set_option maxHeartbeats 8000000 in
theorem sm_X11_init {l : Launch} {g : pj_G} {a n : Nat} {M : pj_M} (hph : pj_ph g = false) (hs0 : pj_sh a = (0, 11)) (han : a < n) (h0 : pj_sh n = (0, 9)) (h1 : pj_sh (n + 1) = (1, 80)) (h2 : pj_sh (n + 2) = (0, 5)) (h3 : pj_sh (n + 3) = (0, 4)) (h4 : pj_sh (n + 4) = (1, 12)) (h5 : pj_sh (n + 5) = (1, 12)) (h6 : pj_sh (n + 6) = (1, 48)) (h7 : pj_sh (n + 7) = (0, 3)) (h8 : pj_sh (n + 8) = (1, 6)) (h9 : pj_sh (n + 9) = (1, 6)) (h10 : pj_sh (n + 10) = (1, 6)) (h11 : pj_sh (n + 11) = (1, 6)) (h12 : pj_sh (n + 12) = (0, 1)) (h13 : pj_sh (n + 13) = (0, 4)) (h14 : pj_sh (n + 14) = (1, 12)) (h15 : pj_sh (n + 15) = (1, 12)) (h16 : pj_sh (n + 16) = (1, 48)) (h17 : pj_sh (n + 17) = (0, 7)) (h18 : pj_sh (n + 18) = (1, 14)) (h19 : pj_sh (n + 19) = (1, 6)) (h20 : pj_sh (n + 20) = (0, 1)) (h21 : pj_sh (n + 21) = (0, 4)) (h22 : pj_sh (n + 22) = (1, 12)) (h23 : pj_sh (n + 23) = (1, 12)) (h24 : pj_sh (n + 24) = (1, 48)) (h25 : pj_sh (n + 25) = (0, 7)) (h26 : pj_sh (n + 26) = (1, 14)) (h27 : pj_sh (n + 27) = (1, 6)) (h28 : pj_sh (n + 28) = (0, 7)) (h29 : pj_sh (n + 29) = (1, 14)) (h30 : pj_sh (n + 30) = (0, 6)) (h31 : pj_sh (n + 31) = (5, 10)) (h32 : pj_sh (n + 32) = (0, 1)) (h33 : pj_sh (n + 33) = (0, 4)) (h34 : pj_sh (n + 34) = (1, 12)) (h35 : pj_sh (n + 35) = (1, 12)) (h36 : pj_sh (n + 36) = (1, 48)) (h37 : pj_sh (n + 37) = (0, 7)) (h38 : pj_sh (n + 38) = (1, 14)) (h39 : pj_sh (n + 39) = (1, 6)) (h40 : pj_sh (n + 40) = (0, 1)) (h41 : pj_sh (n + 41) = (0, 4)) (h42 : pj_sh (n + 42) = (1, 12)) (h43 : pj_sh (n + 43) = (1, 12)) (h44 : pj_sh (n + 44) = (1, 48)) (h45 : pj_sh (n + 45) = (0, 7)) (h46 : pj_sh (n + 46) = (1, 14)) (h47 : pj_sh (n + 47) = (1, 6)) (h48 : pj_sh (n + 48) = (0, 1)) (h49 : pj_sh (n + 49) = (0, 4)) (h50 : pj_sh (n + 50) = (1, 12)) (h51 : pj_sh (n + 51) = (1, 12)) (h52 : pj_sh (n + 52) = (1, 48)) (h53 : pj_sh (n + 53) = (0, 7)) (h54 : pj_sh (n + 54) = (1, 14)) (h55 : pj_sh (n + 55) = (1, 6)) (h56 : pj_sh (n + 56) = (0, 1)) (h57 : pj_sh (n + 57) = (0, 4)) (h58 : pj_sh (n + 58) = (1, 12)) (h59 : pj_sh (n + 59) = (1, 12)) (h60 : pj_sh (n + 60) = (1, 48)) (h61 : pj_sh (n + 61) = (0, 7)) (h62 : pj_sh (n + 62) = (1, 14)) (h63 : pj_sh (n + 63) = (1, 6)) (h64 : pj_sh (n + 64) = (0, 1)) (h65 : pj_sh (n + 65) = (0, 4)) (h66 : pj_sh (n + 66) = (1, 12)) (h67 : pj_sh (n + 67) = (1, 12)) (h68 : pj_sh (n + 68) = (1, 48)) (h69 : pj_sh (n + 69) = (0, 7)) (h70 : pj_sh (n + 70) = (1, 14)) (h71 : pj_sh (n + 71) = (1, 6)) (h72 : pj_sh (n + 72) = (0, 1)) (h73 : pj_sh (n + 73) = (0, 4)) (h74 : pj_sh (n + 74) = (1, 12)) (h75 : pj_sh (n + 75) = (1, 12)) (h76 : pj_sh (n + 76) = (1, 48)) (h77 : pj_sh (n + 77) = (0, 7)) (h78 : pj_sh (n + 78) = (1, 14)) (h79 : pj_sh (n + 79) = (1, 6)) (h80 : pj_sh (n + 80) = (0, 1)) (h81 : pj_sh (n + 81) = (0, 4)) (h82 : pj_sh (n + 82) = (1, 12)) (h83 : pj_sh (n + 83) = (1, 12)) (h84 : pj_sh (n + 84) = (1, 48)) (h85 : pj_sh (n + 85) = (0, 7)) (h86 : pj_sh (n + 86) = (1, 14)) (h87 : pj_sh (n + 87) = (1, 6)) (h88 : pj_sh (n + 88) = (0, 1)) (h89 : pj_sh (n + 89) = (0, 4)) (h90 : pj_sh (n + 90) = (1, 12)) (h91 : pj_sh (n + 91) = (1, 12)) (h92 : pj_sh (n + 92) = (1, 48)) (h93 : pj_sh (n + 93) = (0, 7)) (h94 : pj_sh (n + 94) = (1, 14)) (h95 : pj_sh (n + 95) = (1, 6)) (h96 : pj_sh (n + 96) = (0, 1)) (h97 : pj_sh (n + 97) = (0, 4)) (h98 : pj_sh (n + 98) = (1, 12)) (h99 : pj_sh (n + 99) = (1, 12)) (h100 : pj_sh (n + 100) = (1, 48)) (h101 : pj_sh (n + 101) = (0, 7)) (h102 : pj_sh (n + 102) = (1, 14)) (h103 : pj_sh (n + 103) = (1, 6)) (h104 : pj_sh (n + 104) = (0, 1)) (h105 : pj_sh (n + 105) = (0, 4)) (h106 : pj_sh (n + 106) = (1, 12)) (h107 : pj_sh (n + 107) = (1, 12)) (h108 : pj_sh (n + 108) = (1, 48)) (h109 : pj_sh (n + 109) = (0, 7)) (h110 : pj_sh (n + 110) = (1, 14)) (h111 : pj_sh (n + 111) = (1, 6)) (h112 : pj_sh (n + 112) = (5, 2)) (h113 : pj_sh (n + 113) = (2, 2)) (h114 : pj_sh (n + 114) = (0, 0)) (h115 : pj_sh (n + 115) = (0, 4)) (h116 : pj_sh (n + 116) = (1, 12)) (h117 : pj_sh (n + 117) = (1, 12)) (h118 : pj_sh (n + 118) = (1, 48)) (h119 : pj_sh (n + 119) = (0, 3)) (h120 : pj_sh (n + 120) = (1, 6)) (h121 : pj_sh (n + 121) = (1, 6)) (h122 : pj_sh (n + 122) = (1, 6)) (h123 : pj_sh (n + 123) = (1, 6)) (h124 : pj_sh (n + 124) = (1, 13)) (h125 : pj_sh (n + 125) = (1, 13)) (h126 : pj_sh (n + 126) = (1, 52)) (h127 : pj_sh (n + 127) = (1, 13)) (h128 : pj_sh (n + 128) = (1, 17)) (h129 : pj_sh (n + 129) = (1, 10)) (h130 : pj_sh (n + 130) = (1, 126)) (h131 : pj_sh (n + 131) = (1, 126)) (h132 : pj_sh (n + 132) = (1, 126)) (h133 : pj_sh (n + 133) = (1, 126)) (h134 : pj_sh (n + 134) = (0, 0)) (h135 : pj_sh (n + 135) = (0, 4)) (h136 : pj_sh (n + 136) = (1, 12)) (h137 : pj_sh (n + 137) = (1, 12)) (h138 : pj_sh (n + 138) = (1, 48)) (h139 : pj_sh (n + 139) = (0, 3)) (h140 : pj_sh (n + 140) = (1, 6)) (h141 : pj_sh (n + 141) = (1, 6)) (h142 : pj_sh (n + 142) = (1, 6)) (h143 : pj_sh (n + 143) = (1, 6)) (h144 : pj_sh (n + 144) = (1, 13)) (h145 : pj_sh (n + 145) = (1, 13)) (h146 : pj_sh (n + 146) = (1, 52)) (h147 : pj_sh (n + 147) = (1, 13)) (h148 : pj_sh (n + 148) = (1, 17)) (h149 : pj_sh (n + 149) = (1, 10)) (h150 : pj_sh (n + 150) = (1, 126)) (h151 : pj_sh (n + 151) = (1, 126)) (h152 : pj_sh (n + 152) = (1, 126)) (h153 : pj_sh (n + 153) = (1, 126)) (h154 : pj_sh (n + 154) = (0, 0)) (h155 : pj_sh (n + 155) = (0, 4)) (h156 : pj_sh (n + 156) = (1, 12)) (h157 : pj_sh (n + 157) = (1, 12)) (h158 : pj_sh (n + 158) = (1, 48)) (h159 : pj_sh (n + 159) = (0, 3)) (h160 : pj_sh (n + 160) = (1, 6)) (h161 : pj_sh (n + 161) = (1, 6)) (h162 : pj_sh (n + 162) = (1, 6)) (h163 : pj_sh (n + 163) = (1, 6)) (h164 : pj_sh (n + 164) = (1, 13)) (h165 : pj_sh (n + 165) = (1, 13)) (h166 : pj_sh (n + 166) = (1, 52)) (h167 : pj_sh (n + 167) = (1, 13)) (h168 : pj_sh (n + 168) = (1, 17)) (h169 : pj_sh (n + 169) = (1, 10)) (h170 : pj_sh (n + 170) = (1, 126)) (h171 : pj_sh (n + 171) = (1, 126)) (h172 : pj_sh (n + 172) = (1, 126)) (h173 : pj_sh (n + 173) = (1, 126)) (h174 : pj_sh (n + 174) = (0, 2)) (h175 : pj_sh (n + 175) = (1, 1350)) (h176 : pj_sh (n + 176) = (1, 15)) (h177 : pj_sh (n + 177) = (0, 8)) (h178 : pj_sh (n + 178) = (1, 16)) (h179 : pj_sh (n + 179) = (1, 16)) (h180 : pj_sh (n + 180) = (1, 16)) (h181 : pj_sh (n + 181) = (1, 14)) (h182 : pj_sh (n + 182) = (0, 10)) (h183 : pj_sh (n + 183) = (1, 8)) (h184 : pj_sh (n + 184) = (1, 5)) (h185 : pj_sh (n + 185) = (4, 40)) (h186 : pj_sh (n + 186) = (0, 1)) (h187 : pj_sh (n + 187) = (0, 4)) (h188 : pj_sh (n + 188) = (1, 12)) (h189 : pj_sh (n + 189) = (1, 12)) (h190 : pj_sh (n + 190) = (1, 48)) (h191 : pj_sh (n + 191) = (0, 7)) (h192 : pj_sh (n + 192) = (1, 14)) (h193 : pj_sh (n + 193) = (1, 6)) (h194 : pj_sh (n + 194) = (0, 1)) (h195 : pj_sh (n + 195) = (0, 4)) (h196 : pj_sh (n + 196) = (1, 12)) (h197 : pj_sh (n + 197) = (1, 12)) (h198 : pj_sh (n + 198) = (1, 48)) (h199 : pj_sh (n + 199) = (0, 7)) (h200 : pj_sh (n + 200) = (1, 14)) (h201 : pj_sh (n + 201) = (1, 6)) (hb0 : n < pj_NK) (hb1 : (n + 1) < pj_NK) (hb2 : (n + 2) < pj_NK) (hb3 : (n + 3) < pj_NK) (hb4 : (n + 4) < pj_NK) (hb5 : (n + 5) < pj_NK) (hb6 : (n + 6) < pj_NK) (hb7 : (n + 7) < pj_NK) (hb8 : (n + 8) < pj_NK) (hb9 : (n + 9) < pj_NK) (hb10 : (n + 10) < pj_NK) (hb11 : (n + 11) < pj_NK) (hb12 : (n + 12) < pj_NK) (hb13 : (n + 13) < pj_NK) (hb14 : (n + 14) < pj_NK) (hb15 : (n + 15) < pj_NK) (hb16 : (n + 16) < pj_NK) (hb17 : (n + 17) < pj_NK) (hb18 : (n + 18) < pj_NK) (hb19 : (n + 19) < pj_NK) (hb20 : (n + 20) < pj_NK) (hb21 : (n + 21) < pj_NK) (hb22 : (n + 22) < pj_NK) (hb23 : (n + 23) < pj_NK) (hb24 : (n + 24) < pj_NK) (hb25 : (n + 25) < pj_NK) (hb26 : (n + 26) < pj_NK) (hb27 : (n + 27) < pj_NK) (hb28 : (n + 28) < pj_NK) (hb29 : (n + 29) < pj_NK) (hb30 : (n + 30) < pj_NK) (hb31 : (n + 31) < pj_NK) (hb32 : (n + 32) < pj_NK) (hb33 : (n + 33) < pj_NK) (hb34 : (n + 34) < pj_NK) (hb35 : (n + 35) < pj_NK) (hb36 : (n + 36) < pj_NK) (hb37 : (n + 37) < pj_NK) (hb38 : (n + 38) < pj_NK) (hb39 : (n + 39) < pj_NK) (hb40 : (n + 40) < pj_NK) (hb41 : (n + 41) < pj_NK) (hb42 : (n + 42) < pj_NK) (hb43 : (n + 43) < pj_NK) (hb44 : (n + 44) < pj_NK) (hb45 : (n + 45) < pj_NK) (hb46 : (n + 46) < pj_NK) (hb47 : (n + 47) < pj_NK) (hb48 : (n + 48) < pj_NK) (hb49 : (n + 49) < pj_NK) (hb50 : (n + 50) < pj_NK) (hb51 : (n + 51) < pj_NK) (hb52 : (n + 52) < pj_NK) (hb53 : (n + 53) < pj_NK) (hb54 : (n + 54) < pj_NK) (hb55 : (n + 55) < pj_NK) (hb56 : (n + 56) < pj_NK) (hb57 : (n + 57) < pj_NK) (hb58 : (n + 58) < pj_NK) (hb59 : (n + 59) < pj_NK) (hb60 : (n + 60) < pj_NK) (hb61 : (n + 61) < pj_NK) (hb62 : (n + 62) < pj_NK) (hb63 : (n + 63) < pj_NK) (hb64 : (n + 64) < pj_NK) (hb65 : (n + 65) < pj_NK) (hb66 : (n + 66) < pj_NK) (hb67 : (n + 67) < pj_NK) (hb68 : (n + 68) < pj_NK) (hb69 : (n + 69) < pj_NK) (hb70 : (n + 70) < pj_NK) (hb71 : (n + 71) < pj_NK) (hb72 : (n + 72) < pj_NK) (hb73 : (n + 73) < pj_NK) (hb74 : (n + 74) < pj_NK) (hb75 : (n + 75) < pj_NK) (hb76 : (n + 76) < pj_NK) (hb77 : (n + 77) < pj_NK) (hb78 : (n + 78) < pj_NK) (hb79 : (n + 79) < pj_NK) (hb80 : (n + 80) < pj_NK) (hb81 : (n + 81) < pj_NK) (hb82 : (n + 82) < pj_NK) (hb83 : (n + 83) < pj_NK) (hb84 : (n + 84) < pj_NK) (hb85 : (n + 85) < pj_NK) (hb86 : (n + 86) < pj_NK) (hb87 : (n + 87) < pj_NK) (hb88 : (n + 88) < pj_NK) (hb89 : (n + 89) < pj_NK) (hb90 : (n + 90) < pj_NK) (hb91 : (n + 91) < pj_NK) (hb92 : (n + 92) < pj_NK) (hb93 : (n + 93) < pj_NK) (hb94 : (n + 94) < pj_NK) (hb95 : (n + 95) < pj_NK) (hb96 : (n + 96) < pj_NK) (hb97 : (n + 97) < pj_NK) (hb98 : (n + 98) < pj_NK) (hb99 : (n + 99) < pj_NK) (hb100 : (n + 100) < pj_NK) (hb101 : (n + 101) < pj_NK) (hb102 : (n + 102) < pj_NK) (hb103 : (n + 103) < pj_NK) (hb104 : (n + 104) < pj_NK) (hb105 : (n + 105) < pj_NK) (hb106 : (n + 106) < pj_NK) (hb107 : (n + 107) < pj_NK) (hb108 : (n + 108) < pj_NK) (hb109 : (n + 109) < pj_NK) (hb110 : (n + 110) < pj_NK) (hb111 : (n + 111) < pj_NK) (hb112 : (n + 112) < pj_NK) (hb113 : (n + 113) < pj_NK) (hb114 : (n + 114) < pj_NK) (hb115 : (n + 115) < pj_NK) (hb116 : (n + 116) < pj_NK) (hb117 : (n + 117) < pj_NK) (hb118 : (n + 118) < pj_NK) (hb119 : (n + 119) < pj_NK) (hb120 : (n + 120) < pj_NK) (hb121 : (n + 121) < pj_NK) (hb122 : (n + 122) < pj_NK) (hb123 : (n + 123) < pj_NK) (hb124 : (n + 124) < pj_NK) (hb125 : (n + 125) < pj_NK) (hb126 : (n + 126) < pj_NK) (hb127 : (n + 127) < pj_NK) (hb128 : (n + 128) < pj_NK) (hb129 : (n + 129) < pj_NK) (hb130 : (n + 130) < pj_NK) (hb131 : (n + 131) < pj_NK) (hb132 : (n + 132) < pj_NK) (hb133 : (n + 133) < pj_NK) (hb134 : (n + 134) < pj_NK) (hb135 : (n + 135) < pj_NK) (hb136 : (n + 136) < pj_NK) (hb137 : (n + 137) < pj_NK) (hb138 : (n + 138) < pj_NK) (hb139 : (n + 139) < pj_NK) (hb140 : (n + 140) < pj_NK) (hb141 : (n + 141) < pj_NK) (hb142 : (n + 142) < pj_NK) (hb143 : (n + 143) < pj_NK) (hb144 : (n + 144) < pj_NK) (hb145 : (n + 145) < pj_NK) (hb146 : (n + 146) < pj_NK) (hb147 : (n + 147) < pj_NK) (hb148 : (n + 148) < pj_NK) (hb149 : (n + 149) < pj_NK) (hb150 : (n + 150) < pj_NK) (hb151 : (n + 151) < pj_NK) (hb152 : (n + 152) < pj_NK) (hb153 : (n + 153) < pj_NK) (hb154 : (n + 154) < pj_NK) (hb155 : (n + 155) < pj_NK) (hb156 : (n + 156) < pj_NK) (hb157 : (n + 157) < pj_NK) (hb158 : (n + 158) < pj_NK) (hb159 : (n + 159) < pj_NK) (hb160 : (n + 160) < pj_NK) (hb161 : (n + 161) < pj_NK) (hb162 : (n + 162) < pj_NK) (hb163 : (n + 163) < pj_NK) (hb164 : (n + 164) < pj_NK) (hb165 : (n + 165) < pj_NK) (hb166 : (n + 166) < pj_NK) (hb167 : (n + 167) < pj_NK) (hb168 : (n + 168) < pj_NK) (hb169 : (n + 169) < pj_NK) (hb170 : (n + 170) < pj_NK) (hb171 : (n + 171) < pj_NK) (hb172 : (n + 172) < pj_NK) (hb173 : (n + 173) < pj_NK) (hb174 : (n + 174) < pj_NK) (hb175 : (n + 175) < pj_NK) (hb176 : (n + 176) < pj_NK) (hb177 : (n + 177) < pj_NK) (hb178 : (n + 178) < pj_NK) (hb179 : (n + 179) < pj_NK) (hb180 : (n + 180) < pj_NK) (hb181 : (n + 181) < pj_NK) (hb182 : (n + 182) < pj_NK) (hb183 : (n + 183) < pj_NK) (hb184 : (n + 184) < pj_NK) (hb185 : (n + 185) < pj_NK) (hb186 : (n + 186) < pj_NK) (hb187 : (n + 187) < pj_NK) (hb188 : (n + 188) < pj_NK) (hb189 : (n + 189) < pj_NK) (hb190 : (n + 190) < pj_NK) (hb191 : (n + 191) < pj_NK) (hb192 : (n + 192) < pj_NK) (hb193 : (n + 193) < pj_NK) (hb194 : (n + 194) < pj_NK) (hb195 : (n + 195) < pj_NK) (hb196 : (n + 196) < pj_NK) (hb197 : (n + 197) < pj_NK) (hb198 : (n + 198) < pj_NK) (hb199 : (n + 199) < pj_NK) (hb200 : (n + 200) < pj_NK) (hb201 : (n + 201) < pj_NK) : pj_S l g mdX11_init [.ref a] n M (fun v n' M' => v = none ∧ n' = (n + 202) ∧ M' = mk_X11_init M a n) := by
  have hNK : pj_NK = 229 := rfl
  refine pj_ofR (ls := [(0, .ref a)]) gcX11_init (by decide) rfl (Nat.le_of_ble_eq_true rfl) rfl ?_
  refine pj_aload_n 1 0 rfl rfl rfl rfl ?_
  refine pj_oinit 4 rfl powX11_3 pj_ow2 pj_ow3 rfl ⟨by decide, Nat.le_of_ble_eq_true rfl⟩ ?_
  refine pj_aload_n 5 0 rfl rfl rfl rfl ?_
  refine pj_newo 8 9 rfl poX11_9 rfl hph h0 hb0 ⟨by decide, by decide⟩ ?_
  refine pj_dup 9 rfl rfl rfl ?_
  refine pj_callI 12 rfl pliX11_11 rfl (Nat.le_of_ble_eq_true rfl) ⟨⟨by decide, by decide⟩, by decide, by decide⟩ (by omega) (sm_X9_init hph h0 (by omega) h1 hb1) ?_
  rintro _ _ _ ⟨rfl, rfl, rfl⟩
  refine pj_putr 15 11 0 rfl pfX11_12 (by first | exact Or.inl rfl | exact Or.inr ⟨rfl, hph, rfl, _, _, _, rfl, rfl⟩) rfl hs0 (by omega) (by omega) (by omega) ?_
  refine pj_aload_n 16 0 rfl rfl rfl rfl ?_
  refine pj_newo 19 5 rfl poX11_16 rfl hph h2 hb2 ⟨by decide, by decide⟩ ?_
  refine pj_dup 20 rfl rfl rfl ?_
  refine pj_callI 23 rfl pliX11_18 rfl (Nat.le_of_ble_eq_true rfl) ⟨⟨by decide, by decide⟩, by decide, by decide⟩ (by omega) (sm_X5_init hph h2 (by omega) h3 h4 h5 h6 h7 h8 h9 h10 h11 hb3 hb4 hb5 hb6 hb7 hb8 hb9 hb10 hb11) ?_
  rintro _ _ _ ⟨rfl, rfl, rfl⟩
  refine pj_putr 26 11 1 rfl pfX11_19 (by first | exact Or.inl rfl | exact Or.inr ⟨rfl, hph, rfl, _, _, _, rfl, rfl⟩) rfl hs0 (by omega) (by omega) (by omega) ?_
  refine pj_aload_n 27 0 rfl rfl rfl rfl ?_
  refine pj_newo 30 1 rfl poX11_23 rfl hph h12 hb12 ⟨by decide, by decide⟩ ?_
  refine pj_dup 31 rfl rfl rfl ?_
  refine pj_callI 34 rfl pliX11_25 rfl (Nat.le_of_ble_eq_true rfl) ⟨⟨by decide, by decide⟩, by decide, by decide⟩ (by omega) (sm_X1_init hph h12 (by omega) h13 h14 h15 h16 h17 h18 h19 hb13 hb14 hb15 hb16 hb17 hb18 hb19) ?_
  rintro _ _ _ ⟨rfl, rfl, rfl⟩
  refine pj_putr 37 11 2 rfl pfX11_26 (by first | exact Or.inl rfl | exact Or.inr ⟨rfl, hph, rfl, _, _, _, rfl, rfl⟩) rfl hs0 (by omega) (by omega) (by omega) ?_
  refine pj_aload_n 38 0 rfl rfl rfl rfl ?_
  refine pj_newo 41 1 rfl poX11_23 rfl hph h20 hb20 ⟨by decide, by decide⟩ ?_
  refine pj_dup 42 rfl rfl rfl ?_
  refine pj_callI 45 rfl pliX11_25 rfl (Nat.le_of_ble_eq_true rfl) ⟨⟨by decide, by decide⟩, by decide, by decide⟩ (by omega) (sm_X1_init hph h20 (by omega) h21 h22 h23 h24 h25 h26 h27 hb21 hb22 hb23 hb24 hb25 hb26 hb27) ?_
  rintro _ _ _ ⟨rfl, rfl, rfl⟩
  refine pj_putr 48 11 3 rfl pfX11_30 (by first | exact Or.inl rfl | exact Or.inr ⟨rfl, hph, rfl, _, _, _, rfl, rfl⟩) rfl hs0 (by omega) (by omega) (by omega) ?_
  refine pj_aload_n 49 0 rfl rfl rfl rfl ?_
  refine pj_newo 52 7 rfl poX11_33 rfl hph h28 hb28 ⟨by decide, by decide⟩ ?_
  refine pj_dup 53 rfl rfl rfl ?_
  refine pj_callI 56 rfl pliX11_35 rfl (Nat.le_of_ble_eq_true rfl) ⟨⟨by decide, by decide⟩, by decide, by decide⟩ (by omega) (sm_X7_init hph h28 (by omega) h29 hb29) ?_
  rintro _ _ _ ⟨rfl, rfl, rfl⟩
  refine pj_putr 59 11 4 rfl pfX11_36 (by first | exact Or.inl rfl | exact Or.inr ⟨rfl, hph, rfl, _, _, _, rfl, rfl⟩) rfl hs0 (by omega) (by omega) (by omega) ?_
  refine pj_aload_n 60 0 rfl rfl rfl rfl ?_
  refine pj_newo 63 6 rfl poX11_40 rfl hph h30 hb30 ⟨by decide, by decide⟩ ?_
  refine pj_dup 64 rfl rfl rfl ?_
  refine pj_callI 67 rfl pliX11_42 rfl (Nat.le_of_ble_eq_true rfl) ⟨⟨by decide, by decide⟩, by decide, by decide⟩ (by omega) (sm_X6_init hph h30 (by omega) h31 h32 h33 h34 h35 h36 h37 h38 h39 h40 h41 h42 h43 h44 h45 h46 h47 h48 h49 h50 h51 h52 h53 h54 h55 h56 h57 h58 h59 h60 h61 h62 h63 h64 h65 h66 h67 h68 h69 h70 h71 h72 h73 h74 h75 h76 h77 h78 h79 h80 h81 h82 h83 h84 h85 h86 h87 h88 h89 h90 h91 h92 h93 h94 h95 h96 h97 h98 h99 h100 h101 h102 h103 h104 h105 h106 h107 h108 h109 h110 h111 hb31 hb32 hb33 hb34 hb35 hb36 hb37 hb38 hb39 hb40 hb41 hb42 hb43 hb44 hb45 hb46 hb47 hb48 hb49 hb50 hb51 hb52 hb53 hb54 hb55 hb56 hb57 hb58 hb59 hb60 hb61 hb62 hb63 hb64 hb65 hb66 hb67 hb68 hb69 hb70 hb71 hb72 hb73 hb74 hb75 hb76 hb77 hb78 hb79 hb80 hb81 hb82 hb83 hb84 hb85 hb86 hb87 hb88 hb89 hb90 hb91 hb92 hb93 hb94 hb95 hb96 hb97 hb98 hb99 hb100 hb101 hb102 hb103 hb104 hb105 hb106 hb107 hb108 hb109 hb110 hb111) ?_
  rintro _ _ _ ⟨rfl, rfl, rfl⟩
  refine pj_putr 70 11 5 rfl pfX11_43 (by first | exact Or.inl rfl | exact Or.inr ⟨rfl, hph, rfl, _, _, _, rfl, rfl⟩) rfl hs0 (by omega) (by omega) (by omega) ?_
  refine pj_aload_n 71 0 rfl rfl rfl rfl ?_
  refine pj_iconst 72 rfl rfl ?_
  refine pj_newq 75 rfl pdkX11_23 rfl hph h112 hb112 (by decide) ⟨by decide, by decide⟩ ?_
  refine pj_putr 78 11 6 rfl pfX11_47 (by first | exact Or.inl rfl | exact Or.inr ⟨rfl, hph, rfl, _, _, _, rfl, rfl⟩) rfl hs0 (by omega) (by omega) (by omega) ?_
  refine pj_aload_n 79 0 rfl rfl rfl rfl ?_
  refine pj_iconst 80 rfl rfl ?_
  refine pj_newa 82 2 rfl rfl pj_ac_boolean rfl (by decide) h113 hb113 (by decide) ⟨by decide, by decide⟩ ?_
  refine pj_putr 85 11 7 rfl pfX11_51 (by first | exact Or.inl rfl | exact Or.inr ⟨rfl, hph, rfl, _, _, _, rfl, rfl⟩) rfl hs0 (by omega) (by omega) (by omega) ?_
  refine pj_aload_n 86 0 rfl rfl rfl rfl ?_
  refine pj_newo 89 0 rfl poX11_55 rfl hph h114 hb114 ⟨by decide, by decide⟩ ?_
  refine pj_dup 90 rfl rfl rfl ?_
  refine pj_callI 93 rfl pliX11_57 rfl (Nat.le_of_ble_eq_true rfl) ⟨⟨by decide, by decide⟩, by decide, by decide⟩ (by omega) (sm_X0_init hph h114 (by omega) h115 h116 h117 h118 h119 h120 h121 h122 h123 h124 h125 h126 h127 h128 h129 h130 h131 h132 h133 hb115 hb116 hb117 hb118 hb119 hb120 hb121 hb122 hb123 hb124 hb125 hb126 hb127 hb128 hb129 hb130 hb131 hb132 hb133) ?_
  rintro _ _ _ ⟨rfl, rfl, rfl⟩
  refine pj_putr 96 11 8 rfl pfX11_58 (by first | exact Or.inl rfl | exact Or.inr ⟨rfl, hph, rfl, _, _, _, rfl, rfl⟩) rfl hs0 (by omega) (by omega) (by omega) ?_
  refine pj_aload_n 97 0 rfl rfl rfl rfl ?_
  refine pj_newo 100 0 rfl poX11_55 rfl hph h134 hb134 ⟨by decide, by decide⟩ ?_
  refine pj_dup 101 rfl rfl rfl ?_
  refine pj_callI 104 rfl pliX11_57 rfl (Nat.le_of_ble_eq_true rfl) ⟨⟨by decide, by decide⟩, by decide, by decide⟩ (by omega) (sm_X0_init hph h134 (by omega) h135 h136 h137 h138 h139 h140 h141 h142 h143 h144 h145 h146 h147 h148 h149 h150 h151 h152 h153 hb135 hb136 hb137 hb138 hb139 hb140 hb141 hb142 hb143 hb144 hb145 hb146 hb147 hb148 hb149 hb150 hb151 hb152 hb153) ?_
  rintro _ _ _ ⟨rfl, rfl, rfl⟩
  refine pj_putr 107 11 9 rfl pfX11_62 (by first | exact Or.inl rfl | exact Or.inr ⟨rfl, hph, rfl, _, _, _, rfl, rfl⟩) rfl hs0 (by omega) (by omega) (by omega) ?_
  refine pj_aload_n 108 0 rfl rfl rfl rfl ?_
  refine pj_newo 111 0 rfl poX11_55 rfl hph h154 hb154 ⟨by decide, by decide⟩ ?_
  refine pj_dup 112 rfl rfl rfl ?_
  refine pj_callI 115 rfl pliX11_57 rfl (Nat.le_of_ble_eq_true rfl) ⟨⟨by decide, by decide⟩, by decide, by decide⟩ (by omega) (sm_X0_init hph h154 (by omega) h155 h156 h157 h158 h159 h160 h161 h162 h163 h164 h165 h166 h167 h168 h169 h170 h171 h172 h173 hb155 hb156 hb157 hb158 hb159 hb160 hb161 hb162 hb163 hb164 hb165 hb166 hb167 hb168 hb169 hb170 hb171 hb172 hb173) ?_
  rintro _ _ _ ⟨rfl, rfl, rfl⟩
  refine pj_putr 118 11 10 rfl pfX11_65 (by first | exact Or.inl rfl | exact Or.inr ⟨rfl, hph, rfl, _, _, _, rfl, rfl⟩) rfl hs0 (by omega) (by omega) (by omega) ?_
  refine pj_aload_n 119 0 rfl rfl rfl rfl ?_
  refine pj_newo 122 2 rfl poX11_68 rfl hph h174 hb174 ⟨by decide, by decide⟩ ?_
  refine pj_dup 123 rfl rfl rfl ?_
  refine pj_callI 126 rfl pliX11_70 rfl (Nat.le_of_ble_eq_true rfl) ⟨⟨by decide, by decide⟩, by decide, by decide⟩ (by omega) (sm_X2_init hph h174 (by omega) h175 h176 hb175 hb176) ?_
  rintro _ _ _ ⟨rfl, rfl, rfl⟩
  refine pj_putr 129 11 11 rfl pfX11_71 (by first | exact Or.inl rfl | exact Or.inr ⟨rfl, hph, rfl, _, _, _, rfl, rfl⟩) rfl hs0 (by omega) (by omega) (by omega) ?_
  refine pj_aload_n 130 0 rfl rfl rfl rfl ?_
  refine pj_newo 133 8 rfl poX11_75 rfl hph h177 hb177 ⟨by decide, by decide⟩ ?_
  refine pj_dup 134 rfl rfl rfl ?_
  refine pj_callI 137 rfl pliX11_77 rfl (Nat.le_of_ble_eq_true rfl) ⟨⟨by decide, by decide⟩, by decide, by decide⟩ (by omega) (sm_X8_init hph h177 (by omega) h178 h179 h180 h181 hb178 hb179 hb180 hb181) ?_
  rintro _ _ _ ⟨rfl, rfl, rfl⟩
  refine pj_putr 140 11 12 rfl pfX11_78 (by first | exact Or.inl rfl | exact Or.inr ⟨rfl, hph, rfl, _, _, _, rfl, rfl⟩) rfl hs0 (by omega) (by omega) (by omega) ?_
  refine pj_aload_n 141 0 rfl rfl rfl rfl ?_
  refine pj_newo 144 10 rfl poX11_82 rfl hph h182 hb182 ⟨by decide, by decide⟩ ?_
  refine pj_dup 145 rfl rfl rfl ?_
  refine pj_callI 148 rfl pliX11_84 rfl (Nat.le_of_ble_eq_true rfl) ⟨⟨by decide, by decide⟩, by decide, by decide⟩ (by omega) (sm_X10_init hph h182 (by omega) h183 h184 hb183 hb184) ?_
  rintro _ _ _ ⟨rfl, rfl, rfl⟩
  refine pj_putr 151 11 13 rfl pfX11_85 (by first | exact Or.inl rfl | exact Or.inr ⟨rfl, hph, rfl, _, _, _, rfl, rfl⟩) rfl hs0 (by omega) (by omega) (by omega) ?_
  refine pj_aload_n 152 0 rfl rfl rfl rfl ?_
  refine pj_bipush 154 rfl (by decide) rfl ?_
  refine pj_newa 156 4 rfl rfl pj_ac_long rfl (by decide) h185 hb185 (by decide) ⟨by decide, by decide⟩ ?_
  refine pj_putr 159 11 14 rfl pfX11_89 (by first | exact Or.inl rfl | exact Or.inr ⟨rfl, hph, rfl, _, _, _, rfl, rfl⟩) rfl hs0 (by omega) (by omega) (by omega) ?_
  refine pj_iconst 160 rfl rfl ?_
  refine pj_istore_n 161 (ls' := [(0, .ref a), (1, .int (pj_I 0))]) rfl rfl (by decide) rfl rfl ?_
  refine pj_iload_n 162 1 rfl rfl rfl rfl ?_
  refine pj_iconst 163 rfl rfl ?_
  refine pj_icmp_ge 185 166 rfl (by decide) rfl (by decide) (by decide) (fun hc => absurd hc (by decide)) (fun _ => ?_)
  refine pj_aload_n 167 0 rfl rfl rfl rfl ?_
  refine pj_getd (b := (n + 112)) 170 11 6 rfl pfX11_47 (Or.inr ⟨rfl, hph⟩) rfl hs0 (by omega) (by omega) (by rw [pj_up_nk (by decide), pj_nw_ne (by omega), pj_up_nk (by decide), mf_X10_init (by omega) (by omega), pj_nw_ne (by omega), pj_up_nk (by decide), mf_X8_init (by omega) (by omega), pj_nw_ne (by omega), pj_up_nk (by decide), mf_X2_init (by omega) (by omega), pj_nw_ne (by omega), pj_up_nk (by decide), mf_X0_init (by omega) (by omega), pj_nw_ne (by omega), pj_up_nk (by decide), mf_X0_init (by omega) (by omega), pj_nw_ne (by omega), pj_up_nk (by decide), mf_X0_init (by omega) (by omega), pj_nw_ne (by omega), pj_up_nk (by decide), pj_nw_ne (by omega), pj_up_eq]) (by omega) ?_
  refine pj_iload_n 171 1 rfl rfl rfl rfl ?_
  refine pj_newo 174 1 rfl poX11_23 rfl hph h186 hb186 ⟨by decide, by decide⟩ ?_
  refine pj_dup 175 rfl rfl rfl ?_
  refine pj_callI 178 rfl pliX11_25 rfl (Nat.le_of_ble_eq_true rfl) ⟨⟨by decide, by decide⟩, by decide, by decide⟩ (by omega) (sm_X1_init hph h186 (by omega) h187 h188 h189 h190 h191 h192 h193 hb187 hb188 hb189 hb190 hb191 hb192 hb193) ?_
  rintro _ _ _ ⟨rfl, rfl, rfl⟩
  refine pj_aast 179 (k := 2) rfl rfl hph h112 (by omega) h186 (by omega) (by omega) (by decide) (by decide) (by decide) ?_
  refine pj_iinc 182 1 (ls' := [(0, .ref a), (1, .int (pj_I 1))]) rfl rfl (by decide) rfl rfl ?_
  refine pj_goto 161 rfl (by decide) ?_
  refine pj_iload_n 162 1 rfl rfl rfl rfl ?_
  refine pj_iconst 163 rfl rfl ?_
  refine pj_icmp_ge 185 166 rfl (by decide) rfl (by decide) (by decide) (fun hc => absurd hc (by decide)) (fun _ => ?_)
  refine pj_aload_n 167 0 rfl rfl rfl rfl ?_
  refine pj_getd (b := (n + 112)) 170 11 6 rfl pfX11_47 (Or.inr ⟨rfl, hph⟩) rfl hs0 (by omega) (by omega) (by rw [pj_up_ne (by omega), mf_X1_init (by omega) (by omega), pj_nw_ne (by omega), pj_up_nk (by decide), pj_nw_ne (by omega), pj_up_nk (by decide), mf_X10_init (by omega) (by omega), pj_nw_ne (by omega), pj_up_nk (by decide), mf_X8_init (by omega) (by omega), pj_nw_ne (by omega), pj_up_nk (by decide), mf_X2_init (by omega) (by omega), pj_nw_ne (by omega), pj_up_nk (by decide), mf_X0_init (by omega) (by omega), pj_nw_ne (by omega), pj_up_nk (by decide), mf_X0_init (by omega) (by omega), pj_nw_ne (by omega), pj_up_nk (by decide), mf_X0_init (by omega) (by omega), pj_nw_ne (by omega), pj_up_nk (by decide), pj_nw_ne (by omega), pj_up_eq]) (by omega) ?_
  refine pj_iload_n 171 1 rfl rfl rfl rfl ?_
  refine pj_newo 174 1 rfl poX11_23 rfl hph h194 hb194 ⟨by decide, by decide⟩ ?_
  refine pj_dup 175 rfl rfl rfl ?_
  refine pj_callI 178 rfl pliX11_25 rfl (Nat.le_of_ble_eq_true rfl) ⟨⟨by decide, by decide⟩, by decide, by decide⟩ (by omega) (sm_X1_init hph h194 (by omega) h195 h196 h197 h198 h199 h200 h201 hb195 hb196 hb197 hb198 hb199 hb200 hb201) ?_
  rintro _ _ _ ⟨rfl, rfl, rfl⟩
  refine pj_aast 179 (k := 2) rfl rfl hph h112 (by omega) h194 (by omega) (by omega) (by decide) (by decide) (by decide) ?_
  refine pj_iinc 182 1 (ls' := [(0, .ref a), (1, .int (pj_I 2))]) rfl rfl (by decide) rfl rfl ?_
  refine pj_goto 161 rfl (by decide) ?_
  refine pj_iload_n 162 1 rfl rfl rfl rfl ?_
  refine pj_iconst 163 rfl rfl ?_
  refine pj_icmp_ge 185 166 rfl (by decide) rfl (by decide) (by decide) (fun _ => ?_) (fun hc => absurd (by decide) hc)
  exact pj_vret rfl rfl ⟨by decide, by decide⟩ ⟨rfl, rfl, rfl⟩
theorem powX12_3 : Cond.methodLink RX12 3 objectInit ∈ pj_TB := (pj_tb 1176 (by decide +kernel) (by decide +kernel))
def mdX12_init : pj_MD := (yX12_init, cX12_init, 1, none, RX12, { frames := 1, cells := 24, slots := 9818, locals := 20 }, cdX12_init)
set_option maxRecDepth 100000 in
theorem gcX12_init : pj_gc mdX12_init := pj_gc_of (by decide +kernel)
def mk_X12_init (M : pj_M) (a n : Nat) : pj_M := (pj_up (pj_up (pj_nw (pj_up (pj_nw (pj_up (pj_nw (pj_up (pj_nw (pj_up (pj_nw (pj_up (pj_nw (pj_up (pj_nw (pj_up (pj_nw (pj_up (pj_nw (pj_up (pj_nw (pj_up (pj_nw (pj_up (pj_nw (pj_up (pj_nw (pj_up (pj_nw (pj_up (pj_nw (pj_up (pj_nw (pj_up (pj_nw (pj_up (pj_nw (pj_up (pj_nw (pj_up (pj_up (pj_nw (pj_up (pj_nw (pj_up (pj_nw (pj_up (pj_nw (pj_up (pj_nw M n pj_dz) a ((0 : Nat) : Int) ((n : Nat) : Int)) (n + 1) pj_dz) a ((1 : Nat) : Int) (((n + 1) : Nat) : Int)) (n + 2) pj_dz) a ((3 : Nat) : Int) (((n + 2) : Nat) : Int)) (n + 3) pj_dz) a ((9 : Nat) : Int) (((n + 3) : Nat) : Int)) (n + 4) pj_dz) a ((10 : Nat) : Int) (((n + 4) : Nat) : Int)) a ((11 : Nat) : Int) ((n : Nat) : Int)) (n + 5) pj_dz) a ((13 : Nat) : Int) (((n + 5) : Nat) : Int)) (n + 6) pj_dz) a ((15 : Nat) : Int) (((n + 6) : Nat) : Int)) (n + 7) pj_dz) a ((16 : Nat) : Int) (((n + 7) : Nat) : Int)) (n + 8) pj_dz) a ((17 : Nat) : Int) (((n + 8) : Nat) : Int)) (n + 9) pj_dz) a ((18 : Nat) : Int) (((n + 9) : Nat) : Int)) (n + 10) pj_dz) a ((19 : Nat) : Int) (((n + 10) : Nat) : Int)) (n + 11) pj_dz) a ((20 : Nat) : Int) (((n + 11) : Nat) : Int)) (n + 12) pj_dz) a ((21 : Nat) : Int) (((n + 12) : Nat) : Int)) (n + 13) pj_dz) a ((23 : Nat) : Int) (((n + 13) : Nat) : Int)) (n + 14) pj_dz) a ((24 : Nat) : Int) (((n + 14) : Nat) : Int)) (n + 15) pj_dz) a ((25 : Nat) : Int) (((n + 15) : Nat) : Int)) (n + 16) pj_dz) a ((26 : Nat) : Int) (((n + 16) : Nat) : Int)) (n + 17) pj_dz) a ((27 : Nat) : Int) (((n + 17) : Nat) : Int)) (n + 18) pj_dz) a ((30 : Nat) : Int) (((n + 18) : Nat) : Int)) (n + 19) pj_dz) a ((31 : Nat) : Int) (((n + 19) : Nat) : Int)) (n + 20) pj_dz) a ((32 : Nat) : Int) (((n + 20) : Nat) : Int)) (n + 21) pj_dz) a ((33 : Nat) : Int) (((n + 21) : Nat) : Int)) (n + 22) pj_dz) a ((35 : Nat) : Int) (((n + 22) : Nat) : Int)) (n + 23) pj_dz) a ((36 : Nat) : Int) (((n + 23) : Nat) : Int)) n 0 1)
set_option maxRecDepth 100000 in
theorem mf_X12_init {M : pj_M} {a n b : Nat} {j : Int} (hba : b ≠ a) (hbn : b < n) : mk_X12_init M a n b j = M b j := by
  unfold mk_X12_init
  rw [pj_up_ne (by omega), pj_up_ne hba, pj_nw_ne (by omega), pj_up_ne hba, pj_nw_ne (by omega), pj_up_ne hba, pj_nw_ne (by omega), pj_up_ne hba, pj_nw_ne (by omega), pj_up_ne hba, pj_nw_ne (by omega), pj_up_ne hba, pj_nw_ne (by omega), pj_up_ne hba, pj_nw_ne (by omega), pj_up_ne hba, pj_nw_ne (by omega), pj_up_ne hba, pj_nw_ne (by omega), pj_up_ne hba, pj_nw_ne (by omega), pj_up_ne hba, pj_nw_ne (by omega), pj_up_ne hba, pj_nw_ne (by omega), pj_up_ne hba, pj_nw_ne (by omega), pj_up_ne hba, pj_nw_ne (by omega), pj_up_ne hba, pj_nw_ne (by omega), pj_up_ne hba, pj_nw_ne (by omega), pj_up_ne hba, pj_nw_ne (by omega), pj_up_ne hba, pj_nw_ne (by omega), pj_up_ne hba, pj_nw_ne (by omega), pj_up_ne hba, pj_up_ne hba, pj_nw_ne (by omega), pj_up_ne hba, pj_nw_ne (by omega), pj_up_ne hba, pj_nw_ne (by omega), pj_up_ne hba, pj_nw_ne (by omega), pj_up_ne hba, pj_nw_ne (by omega)]
set_option maxRecDepth 100000 in
set_option maxHeartbeats 8000000 in
theorem sm_X12_init {l : Launch} {g : pj_G} {a n : Nat} {M : pj_M} (hph : pj_ph g = false) (hs0 : pj_sh a = (0, 12)) (han : a < n) (h0 : pj_sh n = (1, 95)) (h1 : pj_sh (n + 1) = (3, 80)) (h2 : pj_sh (n + 2) = (4, 64)) (h3 : pj_sh (n + 3) = (1, 73)) (h4 : pj_sh (n + 4) = (1, 80)) (h5 : pj_sh (n + 5) = (1, 16)) (h6 : pj_sh (n + 6) = (2, 1536)) (h7 : pj_sh (n + 7) = (2, 1536)) (h8 : pj_sh (n + 8) = (2, 1536)) (h9 : pj_sh (n + 9) = (2, 1536)) (h10 : pj_sh (n + 10) = (2, 16)) (h11 : pj_sh (n + 11) = (2, 16)) (h12 : pj_sh (n + 12) = (1, 64)) (h13 : pj_sh (n + 13) = (1, 16)) (h14 : pj_sh (n + 14) = (1, 14)) (h15 : pj_sh (n + 15) = (1, 1536)) (h16 : pj_sh (n + 16) = (1, 16)) (h17 : pj_sh (n + 17) = (1, 16)) (h18 : pj_sh (n + 18) = (1, 190)) (h19 : pj_sh (n + 19) = (2, 2)) (h20 : pj_sh (n + 20) = (1, 95)) (h21 : pj_sh (n + 21) = (1, 950)) (h22 : pj_sh (n + 22) = (1, 95)) (h23 : pj_sh (n + 23) = (1, 240)) (hb0 : n < pj_NK) (hb1 : (n + 1) < pj_NK) (hb2 : (n + 2) < pj_NK) (hb3 : (n + 3) < pj_NK) (hb4 : (n + 4) < pj_NK) (hb5 : (n + 5) < pj_NK) (hb6 : (n + 6) < pj_NK) (hb7 : (n + 7) < pj_NK) (hb8 : (n + 8) < pj_NK) (hb9 : (n + 9) < pj_NK) (hb10 : (n + 10) < pj_NK) (hb11 : (n + 11) < pj_NK) (hb12 : (n + 12) < pj_NK) (hb13 : (n + 13) < pj_NK) (hb14 : (n + 14) < pj_NK) (hb15 : (n + 15) < pj_NK) (hb16 : (n + 16) < pj_NK) (hb17 : (n + 17) < pj_NK) (hb18 : (n + 18) < pj_NK) (hb19 : (n + 19) < pj_NK) (hb20 : (n + 20) < pj_NK) (hb21 : (n + 21) < pj_NK) (hb22 : (n + 22) < pj_NK) (hb23 : (n + 23) < pj_NK) : pj_S l g mdX12_init [.ref a] n M (fun v n' M' => v = none ∧ n' = (n + 24) ∧ M' = mk_X12_init M a n) := by
  have hNK : pj_NK = 229 := rfl
  refine pj_ofR (ls := [(0, .ref a)]) gcX12_init (by decide) rfl (Nat.le_of_ble_eq_true rfl) rfl ?_
  refine pj_aload_n 1 0 rfl rfl rfl rfl ?_
  refine pj_oinit 4 rfl powX12_3 pj_ow2 pj_ow3 rfl ⟨by decide, Nat.le_of_ble_eq_true rfl⟩ ?_
  refine pj_aload_n 5 0 rfl rfl rfl rfl ?_
  refine pj_bipush 7 rfl (by decide) rfl ?_
  refine pj_newa 9 1 rfl rfl pj_ac_int rfl (by decide) h0 hb0 (by decide) ⟨by decide, by decide⟩ ?_
  refine pj_putr 12 12 0 rfl pfX12_9 (by first | exact Or.inl rfl | exact Or.inr ⟨rfl, hph, rfl, _, _, _, rfl, rfl⟩) rfl hs0 (by omega) (by omega) (by omega) ?_
  refine pj_aload_n 13 0 rfl rfl rfl rfl ?_
  refine pj_bipush 15 rfl (by decide) rfl ?_
  refine pj_newa 17 3 rfl rfl pj_ac_byte rfl (by decide) h1 hb1 (by decide) ⟨by decide, by decide⟩ ?_
  refine pj_putr 20 12 1 rfl pfX12_13 (by first | exact Or.inl rfl | exact Or.inr ⟨rfl, hph, rfl, _, _, _, rfl, rfl⟩) rfl hs0 (by omega) (by omega) (by omega) ?_
  refine pj_aload_n 21 0 rfl rfl rfl rfl ?_
  refine pj_bipush 23 rfl (by decide) rfl ?_
  refine pj_newa 25 4 rfl rfl pj_ac_long rfl (by decide) h2 hb2 (by decide) ⟨by decide, by decide⟩ ?_
  refine pj_putr 28 12 3 rfl pfX12_17 (by first | exact Or.inl rfl | exact Or.inr ⟨rfl, hph, rfl, _, _, _, rfl, rfl⟩) rfl hs0 (by omega) (by omega) (by omega) ?_
  refine pj_aload_n 29 0 rfl rfl rfl rfl ?_
  refine pj_bipush 31 rfl (by decide) rfl ?_
  refine pj_newa 33 1 rfl rfl pj_ac_int rfl (by decide) h3 hb3 (by decide) ⟨by decide, by decide⟩ ?_
  refine pj_putr 36 12 9 rfl pfX12_21 (by first | exact Or.inl rfl | exact Or.inr ⟨rfl, hph, rfl, _, _, _, rfl, rfl⟩) rfl hs0 (by omega) (by omega) (by omega) ?_
  refine pj_aload_n 37 0 rfl rfl rfl rfl ?_
  refine pj_bipush 39 rfl (by decide) rfl ?_
  refine pj_newa 41 1 rfl rfl pj_ac_int rfl (by decide) h4 hb4 (by decide) ⟨by decide, by decide⟩ ?_
  refine pj_putr 44 12 10 rfl pfX12_24 (by first | exact Or.inl rfl | exact Or.inr ⟨rfl, hph, rfl, _, _, _, rfl, rfl⟩) rfl hs0 (by omega) (by omega) (by omega) ?_
  refine pj_aload_n 45 0 rfl rfl rfl rfl ?_
  refine pj_aload_n 46 0 rfl rfl rfl rfl ?_
  refine pj_getd (b := n) 49 12 0 rfl pfX12_9 (Or.inr ⟨rfl, hph⟩) rfl hs0 (by omega) (by omega) (by rw [pj_up_nk (by decide), pj_nw_ne (by omega), pj_up_nk (by decide), pj_nw_ne (by omega), pj_up_nk (by decide), pj_nw_ne (by omega), pj_up_nk (by decide), pj_nw_ne (by omega), pj_up_eq]) (by omega) ?_
  refine pj_putr 52 12 11 rfl pfX12_27 (by first | exact Or.inl rfl | exact Or.inr ⟨rfl, hph, rfl, _, _, _, rfl, rfl⟩) rfl hs0 (by omega) (by omega) (by omega) ?_
  refine pj_aload_n 53 0 rfl rfl rfl rfl ?_
  refine pj_bipush 55 rfl (by decide) rfl ?_
  refine pj_newa 57 1 rfl rfl pj_ac_int rfl (by decide) h5 hb5 (by decide) ⟨by decide, by decide⟩ ?_
  refine pj_putr 60 12 13 rfl pfX12_30 (by first | exact Or.inl rfl | exact Or.inr ⟨rfl, hph, rfl, _, _, _, rfl, rfl⟩) rfl hs0 (by omega) (by omega) (by omega) ?_
  refine pj_aload_n 61 0 rfl rfl rfl rfl ?_
  refine pj_sipush 64 rfl (by decide) rfl ?_
  refine pj_newa 66 2 rfl rfl pj_ac_boolean rfl (by decide) h6 hb6 (by decide) ⟨by decide, by decide⟩ ?_
  refine pj_putr 69 12 15 rfl pfX12_33 (by first | exact Or.inl rfl | exact Or.inr ⟨rfl, hph, rfl, _, _, _, rfl, rfl⟩) rfl hs0 (by omega) (by omega) (by omega) ?_
  refine pj_aload_n 70 0 rfl rfl rfl rfl ?_
  refine pj_sipush 73 rfl (by decide) rfl ?_
  refine pj_newa 75 2 rfl rfl pj_ac_boolean rfl (by decide) h7 hb7 (by decide) ⟨by decide, by decide⟩ ?_
  refine pj_putr 78 12 16 rfl pfX12_37 (by first | exact Or.inl rfl | exact Or.inr ⟨rfl, hph, rfl, _, _, _, rfl, rfl⟩) rfl hs0 (by omega) (by omega) (by omega) ?_
  refine pj_aload_n 79 0 rfl rfl rfl rfl ?_
  refine pj_sipush 82 rfl (by decide) rfl ?_
  refine pj_newa 84 2 rfl rfl pj_ac_boolean rfl (by decide) h8 hb8 (by decide) ⟨by decide, by decide⟩ ?_
  refine pj_putr 87 12 17 rfl pfX12_40 (by first | exact Or.inl rfl | exact Or.inr ⟨rfl, hph, rfl, _, _, _, rfl, rfl⟩) rfl hs0 (by omega) (by omega) (by omega) ?_
  refine pj_aload_n 88 0 rfl rfl rfl rfl ?_
  refine pj_sipush 91 rfl (by decide) rfl ?_
  refine pj_newa 93 2 rfl rfl pj_ac_boolean rfl (by decide) h9 hb9 (by decide) ⟨by decide, by decide⟩ ?_
  refine pj_putr 96 12 18 rfl pfX12_43 (by first | exact Or.inl rfl | exact Or.inr ⟨rfl, hph, rfl, _, _, _, rfl, rfl⟩) rfl hs0 (by omega) (by omega) (by omega) ?_
  refine pj_aload_n 97 0 rfl rfl rfl rfl ?_
  refine pj_bipush 99 rfl (by decide) rfl ?_
  refine pj_newa 101 2 rfl rfl pj_ac_boolean rfl (by decide) h10 hb10 (by decide) ⟨by decide, by decide⟩ ?_
  refine pj_putr 104 12 19 rfl pfX12_46 (by first | exact Or.inl rfl | exact Or.inr ⟨rfl, hph, rfl, _, _, _, rfl, rfl⟩) rfl hs0 (by omega) (by omega) (by omega) ?_
  refine pj_aload_n 105 0 rfl rfl rfl rfl ?_
  refine pj_bipush 107 rfl (by decide) rfl ?_
  refine pj_newa 109 2 rfl rfl pj_ac_boolean rfl (by decide) h11 hb11 (by decide) ⟨by decide, by decide⟩ ?_
  refine pj_putr 112 12 20 rfl pfX12_49 (by first | exact Or.inl rfl | exact Or.inr ⟨rfl, hph, rfl, _, _, _, rfl, rfl⟩) rfl hs0 (by omega) (by omega) (by omega) ?_
  refine pj_aload_n 113 0 rfl rfl rfl rfl ?_
  refine pj_bipush 115 rfl (by decide) rfl ?_
  refine pj_newa 117 1 rfl rfl pj_ac_int rfl (by decide) h12 hb12 (by decide) ⟨by decide, by decide⟩ ?_
  refine pj_putr 120 12 21 rfl pfX12_52 (by first | exact Or.inl rfl | exact Or.inr ⟨rfl, hph, rfl, _, _, _, rfl, rfl⟩) rfl hs0 (by omega) (by omega) (by omega) ?_
  refine pj_aload_n 121 0 rfl rfl rfl rfl ?_
  refine pj_bipush 123 rfl (by decide) rfl ?_
  refine pj_newa 125 1 rfl rfl pj_ac_int rfl (by decide) h13 hb13 (by decide) ⟨by decide, by decide⟩ ?_
  refine pj_putr 128 12 23 rfl pfX12_55 (by first | exact Or.inl rfl | exact Or.inr ⟨rfl, hph, rfl, _, _, _, rfl, rfl⟩) rfl hs0 (by omega) (by omega) (by omega) ?_
  refine pj_aload_n 129 0 rfl rfl rfl rfl ?_
  refine pj_bipush 131 rfl (by decide) rfl ?_
  refine pj_newa 133 1 rfl rfl pj_ac_int rfl (by decide) h14 hb14 (by decide) ⟨by decide, by decide⟩ ?_
  refine pj_putr 136 12 24 rfl pfX12_58 (by first | exact Or.inl rfl | exact Or.inr ⟨rfl, hph, rfl, _, _, _, rfl, rfl⟩) rfl hs0 (by omega) (by omega) (by omega) ?_
  refine pj_aload_n 137 0 rfl rfl rfl rfl ?_
  refine pj_sipush 140 rfl (by decide) rfl ?_
  refine pj_newa 142 1 rfl rfl pj_ac_int rfl (by decide) h15 hb15 (by decide) ⟨by decide, by decide⟩ ?_
  refine pj_putr 145 12 25 rfl pfX12_61 (by first | exact Or.inl rfl | exact Or.inr ⟨rfl, hph, rfl, _, _, _, rfl, rfl⟩) rfl hs0 (by omega) (by omega) (by omega) ?_
  refine pj_aload_n 146 0 rfl rfl rfl rfl ?_
  refine pj_bipush 148 rfl (by decide) rfl ?_
  refine pj_newa 150 1 rfl rfl pj_ac_int rfl (by decide) h16 hb16 (by decide) ⟨by decide, by decide⟩ ?_
  refine pj_putr 153 12 26 rfl pfX12_64 (by first | exact Or.inl rfl | exact Or.inr ⟨rfl, hph, rfl, _, _, _, rfl, rfl⟩) rfl hs0 (by omega) (by omega) (by omega) ?_
  refine pj_aload_n 154 0 rfl rfl rfl rfl ?_
  refine pj_bipush 156 rfl (by decide) rfl ?_
  refine pj_newa 158 1 rfl rfl pj_ac_int rfl (by decide) h17 hb17 (by decide) ⟨by decide, by decide⟩ ?_
  refine pj_putr 161 12 27 rfl pfX12_67 (by first | exact Or.inl rfl | exact Or.inr ⟨rfl, hph, rfl, _, _, _, rfl, rfl⟩) rfl hs0 (by omega) (by omega) (by omega) ?_
  refine pj_aload_n 162 0 rfl rfl rfl rfl ?_
  refine pj_sipush 165 rfl (by decide) rfl ?_
  refine pj_newa 167 1 rfl rfl pj_ac_int rfl (by decide) h18 hb18 (by decide) ⟨by decide, by decide⟩ ?_
  refine pj_putr 170 12 30 rfl pfX12_70 (by first | exact Or.inl rfl | exact Or.inr ⟨rfl, hph, rfl, _, _, _, rfl, rfl⟩) rfl hs0 (by omega) (by omega) (by omega) ?_
  refine pj_aload_n 171 0 rfl rfl rfl rfl ?_
  refine pj_iconst 172 rfl rfl ?_
  refine pj_newa 174 2 rfl rfl pj_ac_boolean rfl (by decide) h19 hb19 (by decide) ⟨by decide, by decide⟩ ?_
  refine pj_putr 177 12 31 rfl pfX12_73 (by first | exact Or.inl rfl | exact Or.inr ⟨rfl, hph, rfl, _, _, _, rfl, rfl⟩) rfl hs0 (by omega) (by omega) (by omega) ?_
  refine pj_aload_n 178 0 rfl rfl rfl rfl ?_
  refine pj_bipush 180 rfl (by decide) rfl ?_
  refine pj_newa 182 1 rfl rfl pj_ac_int rfl (by decide) h20 hb20 (by decide) ⟨by decide, by decide⟩ ?_
  refine pj_putr 185 12 32 rfl pfX12_76 (by first | exact Or.inl rfl | exact Or.inr ⟨rfl, hph, rfl, _, _, _, rfl, rfl⟩) rfl hs0 (by omega) (by omega) (by omega) ?_
  refine pj_aload_n 186 0 rfl rfl rfl rfl ?_
  refine pj_sipush 189 rfl (by decide) rfl ?_
  refine pj_newa 191 1 rfl rfl pj_ac_int rfl (by decide) h21 hb21 (by decide) ⟨by decide, by decide⟩ ?_
  refine pj_putr 194 12 33 rfl pfX12_79 (by first | exact Or.inl rfl | exact Or.inr ⟨rfl, hph, rfl, _, _, _, rfl, rfl⟩) rfl hs0 (by omega) (by omega) (by omega) ?_
  refine pj_aload_n 195 0 rfl rfl rfl rfl ?_
  refine pj_bipush 197 rfl (by decide) rfl ?_
  refine pj_newa 199 1 rfl rfl pj_ac_int rfl (by decide) h22 hb22 (by decide) ⟨by decide, by decide⟩ ?_
  refine pj_putr 202 12 35 rfl pfX12_82 (by first | exact Or.inl rfl | exact Or.inr ⟨rfl, hph, rfl, _, _, _, rfl, rfl⟩) rfl hs0 (by omega) (by omega) (by omega) ?_
  refine pj_aload_n 203 0 rfl rfl rfl rfl ?_
  refine pj_sipush 206 rfl (by decide) rfl ?_
  refine pj_newa 208 1 rfl rfl pj_ac_int rfl (by decide) h23 hb23 (by decide) ⟨by decide, by decide⟩ ?_
  refine pj_putr 211 12 36 rfl pfX12_85 (by first | exact Or.inl rfl | exact Or.inr ⟨rfl, hph, rfl, _, _, _, rfl, rfl⟩) rfl hs0 (by omega) (by omega) (by omega) ?_
  refine pj_aload_n 212 0 rfl rfl rfl rfl ?_
  refine pj_getd (b := n) 215 12 0 rfl pfX12_9 (Or.inr ⟨rfl, hph⟩) rfl hs0 (by omega) (by omega) (by rw [pj_up_nk (by decide), pj_nw_ne (by omega), pj_up_nk (by decide), pj_nw_ne (by omega), pj_up_nk (by decide), pj_nw_ne (by omega), pj_up_nk (by decide), pj_nw_ne (by omega), pj_up_nk (by decide), pj_nw_ne (by omega), pj_up_nk (by decide), pj_nw_ne (by omega), pj_up_nk (by decide), pj_nw_ne (by omega), pj_up_nk (by decide), pj_nw_ne (by omega), pj_up_nk (by decide), pj_nw_ne (by omega), pj_up_nk (by decide), pj_nw_ne (by omega), pj_up_nk (by decide), pj_nw_ne (by omega), pj_up_nk (by decide), pj_nw_ne (by omega), pj_up_nk (by decide), pj_nw_ne (by omega), pj_up_nk (by decide), pj_nw_ne (by omega), pj_up_nk (by decide), pj_nw_ne (by omega), pj_up_nk (by decide), pj_nw_ne (by omega), pj_up_nk (by decide), pj_nw_ne (by omega), pj_up_nk (by decide), pj_nw_ne (by omega), pj_up_nk (by decide), pj_nw_ne (by omega), pj_up_nk (by decide), pj_up_nk (by decide), pj_nw_ne (by omega), pj_up_nk (by decide), pj_nw_ne (by omega), pj_up_nk (by decide), pj_nw_ne (by omega), pj_up_nk (by decide), pj_nw_ne (by omega), pj_up_eq]) (by omega) ?_
  refine pj_iconst 216 rfl rfl ?_
  refine pj_iconst 217 rfl rfl ?_
  refine pj_iast 218 (k := 95) rfl rfl h0 (by omega) (by omega) (by decide) (by decide) (by decide) ?_
  exact pj_vret rfl rfl ⟨by decide, by decide⟩ ⟨rfl, rfl, rfl⟩
