theorem pr_0_0 {a : Nat} (h : pj_ob a 0) : pj_ob (pj_rf a 0) 4 := by
  have q : ∀ b, b < pj_NK → pj_sh b = (0, 0) → pj_ob (pj_rf b 0) 4 := by decide +kernel
  exact q a h.2 h.1
theorem pr_0_1 {a : Nat} (h : pj_ob a 0) : pj_ob (pj_rf a 1) 3 := by
  have q : ∀ b, b < pj_NK → pj_sh b = (0, 0) → pj_ob (pj_rf b 1) 3 := by decide +kernel
  exact q a h.2 h.1
theorem pr_0_2 {a : Nat} (h : pj_ob a 0) : pj_ol (pj_rf a 2) 1 13 := by
  have q : ∀ b, b < pj_NK → pj_sh b = (0, 0) → pj_ol (pj_rf b 2) 1 13 := by decide +kernel
  exact q a h.2 h.1
theorem pr_0_3 {a : Nat} (h : pj_ob a 0) : pj_ol (pj_rf a 3) 1 13 := by
  have q : ∀ b, b < pj_NK → pj_sh b = (0, 0) → pj_ol (pj_rf b 3) 1 13 := by decide +kernel
  exact q a h.2 h.1
theorem pr_0_4 {a : Nat} (h : pj_ob a 0) : pj_ol (pj_rf a 4) 1 52 := by
  have q : ∀ b, b < pj_NK → pj_sh b = (0, 0) → pj_ol (pj_rf b 4) 1 52 := by decide +kernel
  exact q a h.2 h.1
theorem pr_0_5 {a : Nat} (h : pj_ob a 0) : pj_ol (pj_rf a 5) 1 13 := by
  have q : ∀ b, b < pj_NK → pj_sh b = (0, 0) → pj_ol (pj_rf b 5) 1 13 := by decide +kernel
  exact q a h.2 h.1
theorem pr_0_9 {a : Nat} (h : pj_ob a 0) : pj_ol (pj_rf a 9) 1 17 := by
  have q : ∀ b, b < pj_NK → pj_sh b = (0, 0) → pj_ol (pj_rf b 9) 1 17 := by decide +kernel
  exact q a h.2 h.1
theorem pr_0_10 {a : Nat} (h : pj_ob a 0) : pj_ol (pj_rf a 10) 1 10 := by
  have q : ∀ b, b < pj_NK → pj_sh b = (0, 0) → pj_ol (pj_rf b 10) 1 10 := by decide +kernel
  exact q a h.2 h.1
theorem pr_0_13 {a : Nat} (h : pj_ob a 0) : pj_ol (pj_rf a 13) 1 126 := by
  have q : ∀ b, b < pj_NK → pj_sh b = (0, 0) → pj_ol (pj_rf b 13) 1 126 := by decide +kernel
  exact q a h.2 h.1
theorem pr_0_14 {a : Nat} (h : pj_ob a 0) : pj_ol (pj_rf a 14) 1 126 := by
  have q : ∀ b, b < pj_NK → pj_sh b = (0, 0) → pj_ol (pj_rf b 14) 1 126 := by decide +kernel
  exact q a h.2 h.1
theorem pr_0_15 {a : Nat} (h : pj_ob a 0) : pj_ol (pj_rf a 15) 1 126 := by
  have q : ∀ b, b < pj_NK → pj_sh b = (0, 0) → pj_ol (pj_rf b 15) 1 126 := by decide +kernel
  exact q a h.2 h.1
theorem pr_0_16 {a : Nat} (h : pj_ob a 0) : pj_ol (pj_rf a 16) 1 126 := by
  have q : ∀ b, b < pj_NK → pj_sh b = (0, 0) → pj_ol (pj_rf b 16) 1 126 := by decide +kernel
  exact q a h.2 h.1
theorem pr_1_0 {a : Nat} (h : pj_ob a 1) : pj_ob (pj_rf a 0) 4 := by
  have q : ∀ b, b < pj_NK → pj_sh b = (0, 1) → pj_ob (pj_rf b 0) 4 := by decide +kernel
  exact q a h.2 h.1
theorem pr_1_1 {a : Nat} (h : pj_ob a 1) : pj_ob (pj_rf a 1) 7 := by
  have q : ∀ b, b < pj_NK → pj_sh b = (0, 1) → pj_ob (pj_rf b 1) 7 := by decide +kernel
  exact q a h.2 h.1
theorem pr_1_2 {a : Nat} (h : pj_ob a 1) : pj_ol (pj_rf a 2) 1 6 := by
  have q : ∀ b, b < pj_NK → pj_sh b = (0, 1) → pj_ol (pj_rf b 2) 1 6 := by decide +kernel
  exact q a h.2 h.1
theorem pr_2_0 {a : Nat} (h : pj_ob a 2) : pj_ol (pj_rf a 0) 1 1350 := by
  have q : ∀ b, b < pj_NK → pj_sh b = (0, 2) → pj_ol (pj_rf b 0) 1 1350 := by decide +kernel
  exact q a h.2 h.1
theorem pr_2_1 {a : Nat} (h : pj_ob a 2) : pj_ol (pj_rf a 1) 1 15 := by
  have q : ∀ b, b < pj_NK → pj_sh b = (0, 2) → pj_ol (pj_rf b 1) 1 15 := by decide +kernel
  exact q a h.2 h.1
theorem pr_3_0 {a : Nat} (h : pj_ob a 3) : pj_ol (pj_rf a 0) 1 6 := by
  have q : ∀ b, b < pj_NK → pj_sh b = (0, 3) → pj_ol (pj_rf b 0) 1 6 := by decide +kernel
  exact q a h.2 h.1
theorem pr_3_1 {a : Nat} (h : pj_ob a 3) : pj_ol (pj_rf a 1) 1 6 := by
  have q : ∀ b, b < pj_NK → pj_sh b = (0, 3) → pj_ol (pj_rf b 1) 1 6 := by decide +kernel
  exact q a h.2 h.1
theorem pr_3_2 {a : Nat} (h : pj_ob a 3) : pj_ol (pj_rf a 2) 1 6 := by
  have q : ∀ b, b < pj_NK → pj_sh b = (0, 3) → pj_ol (pj_rf b 2) 1 6 := by decide +kernel
  exact q a h.2 h.1
theorem pr_3_3 {a : Nat} (h : pj_ob a 3) : pj_ol (pj_rf a 3) 1 6 := by
  have q : ∀ b, b < pj_NK → pj_sh b = (0, 3) → pj_ol (pj_rf b 3) 1 6 := by decide +kernel
  exact q a h.2 h.1
theorem pr_4_0 {a : Nat} (h : pj_ob a 4) : pj_ol (pj_rf a 0) 1 12 := by
  have q : ∀ b, b < pj_NK → pj_sh b = (0, 4) → pj_ol (pj_rf b 0) 1 12 := by decide +kernel
  exact q a h.2 h.1
theorem pr_4_1 {a : Nat} (h : pj_ob a 4) : pj_ol (pj_rf a 1) 1 12 := by
  have q : ∀ b, b < pj_NK → pj_sh b = (0, 4) → pj_ol (pj_rf b 1) 1 12 := by decide +kernel
  exact q a h.2 h.1
theorem pr_4_2 {a : Nat} (h : pj_ob a 4) : pj_ol (pj_rf a 2) 1 48 := by
  have q : ∀ b, b < pj_NK → pj_sh b = (0, 4) → pj_ol (pj_rf b 2) 1 48 := by decide +kernel
  exact q a h.2 h.1
theorem pr_5_0 {a : Nat} (h : pj_ob a 5) : pj_ob (pj_rf a 0) 4 := by
  have q : ∀ b, b < pj_NK → pj_sh b = (0, 5) → pj_ob (pj_rf b 0) 4 := by decide +kernel
  exact q a h.2 h.1
theorem pr_5_1 {a : Nat} (h : pj_ob a 5) : pj_ob (pj_rf a 1) 3 := by
  have q : ∀ b, b < pj_NK → pj_sh b = (0, 5) → pj_ob (pj_rf b 1) 3 := by decide +kernel
  exact q a h.2 h.1
theorem pr_6_0 {a : Nat} (h : pj_ob a 6) : pj_ol (pj_rf a 0) 5 10 := by
  have q : ∀ b, b < pj_NK → pj_sh b = (0, 6) → pj_ol (pj_rf b 0) 5 10 := by decide +kernel
  exact q a h.2 h.1
theorem pr_7_0 {a : Nat} (h : pj_ob a 7) : pj_ol (pj_rf a 0) 1 14 := by
  have q : ∀ b, b < pj_NK → pj_sh b = (0, 7) → pj_ol (pj_rf b 0) 1 14 := by decide +kernel
  exact q a h.2 h.1
theorem pr_8_0 {a : Nat} (h : pj_ob a 8) : pj_ol (pj_rf a 0) 1 16 := by
  have q : ∀ b, b < pj_NK → pj_sh b = (0, 8) → pj_ol (pj_rf b 0) 1 16 := by decide +kernel
  exact q a h.2 h.1
theorem pr_8_1 {a : Nat} (h : pj_ob a 8) : pj_ol (pj_rf a 1) 1 16 := by
  have q : ∀ b, b < pj_NK → pj_sh b = (0, 8) → pj_ol (pj_rf b 1) 1 16 := by decide +kernel
  exact q a h.2 h.1
theorem pr_8_3 {a : Nat} (h : pj_ob a 8) : pj_ol (pj_rf a 3) 1 16 := by
  have q : ∀ b, b < pj_NK → pj_sh b = (0, 8) → pj_ol (pj_rf b 3) 1 16 := by decide +kernel
  exact q a h.2 h.1
theorem pr_8_4 {a : Nat} (h : pj_ob a 8) : pj_ol (pj_rf a 4) 1 14 := by
  have q : ∀ b, b < pj_NK → pj_sh b = (0, 8) → pj_ol (pj_rf b 4) 1 14 := by decide +kernel
  exact q a h.2 h.1
theorem pr_9_0 {a : Nat} (h : pj_ob a 9) : pj_ol (pj_rf a 0) 1 80 := by
  have q : ∀ b, b < pj_NK → pj_sh b = (0, 9) → pj_ol (pj_rf b 0) 1 80 := by decide +kernel
  exact q a h.2 h.1
theorem pr_10_0 {a : Nat} (h : pj_ob a 10) : pj_ol (pj_rf a 0) 1 8 := by
  have q : ∀ b, b < pj_NK → pj_sh b = (0, 10) → pj_ol (pj_rf b 0) 1 8 := by decide +kernel
  exact q a h.2 h.1
theorem pr_10_2 {a : Nat} (h : pj_ob a 10) : pj_ol (pj_rf a 2) 1 5 := by
  have q : ∀ b, b < pj_NK → pj_sh b = (0, 10) → pj_ol (pj_rf b 2) 1 5 := by decide +kernel
  exact q a h.2 h.1
theorem pr_11_0 {a : Nat} (h : pj_ob a 11) : pj_ob (pj_rf a 0) 9 := by
  have q : ∀ b, b < pj_NK → pj_sh b = (0, 11) → pj_ob (pj_rf b 0) 9 := by decide +kernel
  exact q a h.2 h.1
theorem pr_11_1 {a : Nat} (h : pj_ob a 11) : pj_ob (pj_rf a 1) 5 := by
  have q : ∀ b, b < pj_NK → pj_sh b = (0, 11) → pj_ob (pj_rf b 1) 5 := by decide +kernel
  exact q a h.2 h.1
theorem pr_11_2 {a : Nat} (h : pj_ob a 11) : pj_ob (pj_rf a 2) 1 := by
  have q : ∀ b, b < pj_NK → pj_sh b = (0, 11) → pj_ob (pj_rf b 2) 1 := by decide +kernel
  exact q a h.2 h.1
theorem pr_11_3 {a : Nat} (h : pj_ob a 11) : pj_ob (pj_rf a 3) 1 := by
  have q : ∀ b, b < pj_NK → pj_sh b = (0, 11) → pj_ob (pj_rf b 3) 1 := by decide +kernel
  exact q a h.2 h.1
theorem pr_11_4 {a : Nat} (h : pj_ob a 11) : pj_ob (pj_rf a 4) 7 := by
  have q : ∀ b, b < pj_NK → pj_sh b = (0, 11) → pj_ob (pj_rf b 4) 7 := by decide +kernel
  exact q a h.2 h.1
theorem pr_11_5 {a : Nat} (h : pj_ob a 11) : pj_ob (pj_rf a 5) 6 := by
  have q : ∀ b, b < pj_NK → pj_sh b = (0, 11) → pj_ob (pj_rf b 5) 6 := by decide +kernel
  exact q a h.2 h.1
theorem pr_11_6 {a : Nat} (h : pj_ob a 11) : pj_ol (pj_rf a 6) 5 2 := by
  have q : ∀ b, b < pj_NK → pj_sh b = (0, 11) → pj_ol (pj_rf b 6) 5 2 := by decide +kernel
  exact q a h.2 h.1
theorem pr_11_7 {a : Nat} (h : pj_ob a 11) : pj_ol (pj_rf a 7) 2 2 := by
  have q : ∀ b, b < pj_NK → pj_sh b = (0, 11) → pj_ol (pj_rf b 7) 2 2 := by decide +kernel
  exact q a h.2 h.1
theorem pr_11_8 {a : Nat} (h : pj_ob a 11) : pj_ob (pj_rf a 8) 0 := by
  have q : ∀ b, b < pj_NK → pj_sh b = (0, 11) → pj_ob (pj_rf b 8) 0 := by decide +kernel
  exact q a h.2 h.1
theorem pr_11_9 {a : Nat} (h : pj_ob a 11) : pj_ob (pj_rf a 9) 0 := by
  have q : ∀ b, b < pj_NK → pj_sh b = (0, 11) → pj_ob (pj_rf b 9) 0 := by decide +kernel
  exact q a h.2 h.1
theorem pr_11_10 {a : Nat} (h : pj_ob a 11) : pj_ob (pj_rf a 10) 0 := by
  have q : ∀ b, b < pj_NK → pj_sh b = (0, 11) → pj_ob (pj_rf b 10) 0 := by decide +kernel
  exact q a h.2 h.1
theorem pr_11_11 {a : Nat} (h : pj_ob a 11) : pj_ob (pj_rf a 11) 2 := by
  have q : ∀ b, b < pj_NK → pj_sh b = (0, 11) → pj_ob (pj_rf b 11) 2 := by decide +kernel
  exact q a h.2 h.1
theorem pr_11_12 {a : Nat} (h : pj_ob a 11) : pj_ob (pj_rf a 12) 8 := by
  have q : ∀ b, b < pj_NK → pj_sh b = (0, 11) → pj_ob (pj_rf b 12) 8 := by decide +kernel
  exact q a h.2 h.1
theorem pr_11_13 {a : Nat} (h : pj_ob a 11) : pj_ob (pj_rf a 13) 10 := by
  have q : ∀ b, b < pj_NK → pj_sh b = (0, 11) → pj_ob (pj_rf b 13) 10 := by decide +kernel
  exact q a h.2 h.1
theorem pr_11_14 {a : Nat} (h : pj_ob a 11) : pj_ol (pj_rf a 14) 4 40 := by
  have q : ∀ b, b < pj_NK → pj_sh b = (0, 11) → pj_ol (pj_rf b 14) 4 40 := by decide +kernel
  exact q a h.2 h.1
theorem pr_12_0 {a : Nat} (h : pj_ob a 12) : pj_ol (pj_rf a 0) 1 95 := by
  have q : ∀ b, b < pj_NK → pj_sh b = (0, 12) → pj_ol (pj_rf b 0) 1 95 := by decide +kernel
  exact q a h.2 h.1
theorem pr_12_1 {a : Nat} (h : pj_ob a 12) : pj_ol (pj_rf a 1) 3 80 := by
  have q : ∀ b, b < pj_NK → pj_sh b = (0, 12) → pj_ol (pj_rf b 1) 3 80 := by decide +kernel
  exact q a h.2 h.1
theorem pr_12_3 {a : Nat} (h : pj_ob a 12) : pj_ol (pj_rf a 3) 4 64 := by
  have q : ∀ b, b < pj_NK → pj_sh b = (0, 12) → pj_ol (pj_rf b 3) 4 64 := by decide +kernel
  exact q a h.2 h.1
theorem pr_12_9 {a : Nat} (h : pj_ob a 12) : pj_ol (pj_rf a 9) 1 73 := by
  have q : ∀ b, b < pj_NK → pj_sh b = (0, 12) → pj_ol (pj_rf b 9) 1 73 := by decide +kernel
  exact q a h.2 h.1
theorem pr_12_10 {a : Nat} (h : pj_ob a 12) : pj_ol (pj_rf a 10) 1 80 := by
  have q : ∀ b, b < pj_NK → pj_sh b = (0, 12) → pj_ol (pj_rf b 10) 1 80 := by decide +kernel
  exact q a h.2 h.1
theorem pr_12_13 {a : Nat} (h : pj_ob a 12) : pj_ol (pj_rf a 13) 1 16 := by
  have q : ∀ b, b < pj_NK → pj_sh b = (0, 12) → pj_ol (pj_rf b 13) 1 16 := by decide +kernel
  exact q a h.2 h.1
theorem pr_12_15 {a : Nat} (h : pj_ob a 12) : pj_ol (pj_rf a 15) 2 1536 := by
  have q : ∀ b, b < pj_NK → pj_sh b = (0, 12) → pj_ol (pj_rf b 15) 2 1536 := by decide +kernel
  exact q a h.2 h.1
theorem pr_12_16 {a : Nat} (h : pj_ob a 12) : pj_ol (pj_rf a 16) 2 1536 := by
  have q : ∀ b, b < pj_NK → pj_sh b = (0, 12) → pj_ol (pj_rf b 16) 2 1536 := by decide +kernel
  exact q a h.2 h.1
theorem pr_12_17 {a : Nat} (h : pj_ob a 12) : pj_ol (pj_rf a 17) 2 1536 := by
  have q : ∀ b, b < pj_NK → pj_sh b = (0, 12) → pj_ol (pj_rf b 17) 2 1536 := by decide +kernel
  exact q a h.2 h.1
theorem pr_12_18 {a : Nat} (h : pj_ob a 12) : pj_ol (pj_rf a 18) 2 1536 := by
  have q : ∀ b, b < pj_NK → pj_sh b = (0, 12) → pj_ol (pj_rf b 18) 2 1536 := by decide +kernel
  exact q a h.2 h.1
theorem pr_12_19 {a : Nat} (h : pj_ob a 12) : pj_ol (pj_rf a 19) 2 16 := by
  have q : ∀ b, b < pj_NK → pj_sh b = (0, 12) → pj_ol (pj_rf b 19) 2 16 := by decide +kernel
  exact q a h.2 h.1
theorem pr_12_20 {a : Nat} (h : pj_ob a 12) : pj_ol (pj_rf a 20) 2 16 := by
  have q : ∀ b, b < pj_NK → pj_sh b = (0, 12) → pj_ol (pj_rf b 20) 2 16 := by decide +kernel
  exact q a h.2 h.1
theorem pr_12_21 {a : Nat} (h : pj_ob a 12) : pj_ol (pj_rf a 21) 1 64 := by
  have q : ∀ b, b < pj_NK → pj_sh b = (0, 12) → pj_ol (pj_rf b 21) 1 64 := by decide +kernel
  exact q a h.2 h.1
theorem pr_12_23 {a : Nat} (h : pj_ob a 12) : pj_ol (pj_rf a 23) 1 16 := by
  have q : ∀ b, b < pj_NK → pj_sh b = (0, 12) → pj_ol (pj_rf b 23) 1 16 := by decide +kernel
  exact q a h.2 h.1
theorem pr_12_24 {a : Nat} (h : pj_ob a 12) : pj_ol (pj_rf a 24) 1 14 := by
  have q : ∀ b, b < pj_NK → pj_sh b = (0, 12) → pj_ol (pj_rf b 24) 1 14 := by decide +kernel
  exact q a h.2 h.1
theorem pr_12_25 {a : Nat} (h : pj_ob a 12) : pj_ol (pj_rf a 25) 1 1536 := by
  have q : ∀ b, b < pj_NK → pj_sh b = (0, 12) → pj_ol (pj_rf b 25) 1 1536 := by decide +kernel
  exact q a h.2 h.1
theorem pr_12_26 {a : Nat} (h : pj_ob a 12) : pj_ol (pj_rf a 26) 1 16 := by
  have q : ∀ b, b < pj_NK → pj_sh b = (0, 12) → pj_ol (pj_rf b 26) 1 16 := by decide +kernel
  exact q a h.2 h.1
theorem pr_12_27 {a : Nat} (h : pj_ob a 12) : pj_ol (pj_rf a 27) 1 16 := by
  have q : ∀ b, b < pj_NK → pj_sh b = (0, 12) → pj_ol (pj_rf b 27) 1 16 := by decide +kernel
  exact q a h.2 h.1
theorem pr_12_30 {a : Nat} (h : pj_ob a 12) : pj_ol (pj_rf a 30) 1 190 := by
  have q : ∀ b, b < pj_NK → pj_sh b = (0, 12) → pj_ol (pj_rf b 30) 1 190 := by decide +kernel
  exact q a h.2 h.1
theorem pr_12_31 {a : Nat} (h : pj_ob a 12) : pj_ol (pj_rf a 31) 2 2 := by
  have q : ∀ b, b < pj_NK → pj_sh b = (0, 12) → pj_ol (pj_rf b 31) 2 2 := by decide +kernel
  exact q a h.2 h.1
theorem pr_12_32 {a : Nat} (h : pj_ob a 12) : pj_ol (pj_rf a 32) 1 95 := by
  have q : ∀ b, b < pj_NK → pj_sh b = (0, 12) → pj_ol (pj_rf b 32) 1 95 := by decide +kernel
  exact q a h.2 h.1
theorem pr_12_33 {a : Nat} (h : pj_ob a 12) : pj_ol (pj_rf a 33) 1 950 := by
  have q : ∀ b, b < pj_NK → pj_sh b = (0, 12) → pj_ol (pj_rf b 33) 1 950 := by decide +kernel
  exact q a h.2 h.1
theorem pr_12_35 {a : Nat} (h : pj_ob a 12) : pj_ol (pj_rf a 35) 1 95 := by
  have q : ∀ b, b < pj_NK → pj_sh b = (0, 12) → pj_ol (pj_rf b 35) 1 95 := by decide +kernel
  exact q a h.2 h.1
theorem pr_12_36 {a : Nat} (h : pj_ob a 12) : pj_ol (pj_rf a 36) 1 240 := by
  have q : ∀ b, b < pj_NK → pj_sh b = (0, 12) → pj_ol (pj_rf b 36) 1 240 := by decide +kernel
  exact q a h.2 h.1
theorem pr_desks {a k : Nat} {i : Int} (h : pj_ol a 5 k) (h2 : 0 ≤ i ∧ i < (k : Int)) : pj_ob (pj_rf a i.toNat) 1 := by
  have q : ∀ b, b < pj_NK → (pj_sh b).1 = 5 → ∀ j, j < (pj_sh b).2 → pj_ob (pj_rf b j) 1 := by decide +kernel
  exact q a h.2 (by rw [h.1]) i.toNat (by rw [h.1]; show i.toNat < k; omega)
theorem pr_len {a t : Nat} (h : pj_oa a t) : pj_ol a t (pj_sh a).2 := ⟨by rw [← h.1], h.2⟩
