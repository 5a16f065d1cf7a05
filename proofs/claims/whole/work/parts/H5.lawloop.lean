theorem poL_8 : pj_O RL 8 11 := ⟨_, _, _, tyX11, rfl, pj_in11, tyX11_ok, rfl, List.mem_filter.mpr ⟨by decide +kernel, by decide +kernel⟩, List.mem_filter.mpr ⟨by decide +kernel, by decide +kernel⟩, List.mem_filter.mpr ⟨by decide +kernel, by decide +kernel⟩, by decide⟩
theorem poL_24 : pj_O RL 24 12 := ⟨_, _, _, tyX12, rfl, pj_in12, tyX12_ok, rfl, List.mem_filter.mpr ⟨by decide +kernel, by decide +kernel⟩, List.mem_filter.mpr ⟨by decide +kernel, by decide +kernel⟩, List.mem_filter.mpr ⟨by decide +kernel, by decide +kernel⟩, by decide⟩
theorem pliL_23 : pj_LI RL 23 mdX11_init := ⟨Or.inl (List.mem_filter.mpr ⟨by decide +kernel, by decide +kernel⟩), List.mem_filter.mpr ⟨by decide +kernel, by decide +kernel⟩, List.mem_filter.mpr ⟨by decide +kernel, by decide +kernel⟩, List.mem_filter.mpr ⟨by decide +kernel, by decide +kernel⟩, rfl, rfl, by decide, by decide, by decide +kernel⟩
theorem pliL_26 : pj_LI RL 26 mdX12_init := ⟨Or.inl (List.mem_filter.mpr ⟨by decide +kernel, by decide +kernel⟩), List.mem_filter.mpr ⟨by decide +kernel, by decide +kernel⟩, List.mem_filter.mpr ⟨by decide +kernel, by decide +kernel⟩, List.mem_filter.mpr ⟨by decide +kernel, by decide +kernel⟩, rfl, rfl, by decide, by decide, by decide +kernel⟩
section PXG
variable {l : Launch} {g : pj_G} {L : Nat} {t : Nat × Nat × Nat} {xs : Nat → Int32}
theorem px_and_in (x y : Int) : pj_in (pj_and x y) := ⟨Int32.le_toInt _, by have := Int32.toInt_lt (pj_I x &&& pj_I y); unfold pj_and; omega⟩
set_option maxRecDepth 100000 in
set_option maxHeartbeats 8000000 in
theorem px_loop (hg : pj_ph g = true) (hl : l.stackTraces = false) (hL : L ≤ 2560) : ∀ (f : Nat) (i : Int) (c0 s0 : Nat) (M : pj_M), INV M → 0 ≤ i → i ≤ (L : Int) + 5 → (L : Int) < i + 5 * f → c0 + f ≤ 601024 → s0 + 6 * f ≤ 7293034 →
    pj_R l g mdL_law (px_XL t g L xs) px_ZL pj_NK c0 s0 23 (px_LS i) [] M := by
  intro f
  induction f with
  | zero =>
    intro i c0 s0 M inv h0 h1 h2 hc hs
    refine pj_iload 25 4 rfl rfl rfl ?_
    refine pj_aload_n 26 0 rfl rfl rfl rfl ?_
    refine px_slen 27 rfl rfl ?_
    refine pj_iconst 28 rfl rfl ?_
    refine pj_isub 29 rfl rfl ?_
    refine pj_icmp_gt 1293 32 rfl (by decide) rfl ⟨by omega, by omega⟩ ⟨by omega, by omega⟩ (fun _ => ?_) (fun h => absurd h (by omega))
    refine pj_iconst 1294 rfl rfl ?_
    exact px_ret rfl ⟨by omega, by omega⟩
  | succ f ih =>
    intro i c0 s0 M inv h0 h1 h2 hc hs
    refine pj_iload 25 4 rfl rfl rfl ?_
    refine pj_aload_n 26 0 rfl rfl rfl rfl ?_
    refine px_slen 27 rfl rfl ?_
    refine pj_iconst 28 rfl rfl ?_
    refine pj_isub 29 rfl rfl ?_
    refine pj_icmp_gt 1293 32 rfl (by decide) rfl ⟨by omega, by omega⟩ ⟨by omega, by omega⟩ (fun _ => ?_) (fun h => ?_)
    · refine pj_iconst 1294 rfl rfl ?_
      exact px_ret rfl ⟨by omega, by omega⟩
    have h4 : i + 4 < (L : Int) := by omega
    have hLL : L < 2147483648 := by omega
    have nxt : ∀ M', INV M' → pj_R l g mdL_law (px_XL t g L xs) px_ZL pj_NK (c0 + 1) (s0 + 6) 1287 (px_LS i) [] M' := fun M' inv' => by
      refine pj_iinc (ls' := px_LS (i + 5)) 1290 4 rfl rfl (by decide) rfl rfl ?_
      refine pj_goto 23 rfl (by decide) ?_
      exact ih (i + 5) (c0 + 1) (s0 + 6) M' inv' (by omega) (by omega) (by omega) (by omega) (by omega)
    have hcA : c0 ≤ 601024 ∧ s0 ≤ 7293034 := ⟨by omega, by omega⟩
    have hcB : c0 + 1 ≤ 601024 ∧ s0 + 6 ≤ 7293034 := ⟨by omega, by omega⟩
    refine pj_aload_n 33 0 rfl rfl rfl rfl ?_
    refine pj_iload 35 4 rfl rfl rfl ?_
    refine px_sld 36 rfl rfl hLL h0 (by omega) ?_
    refine pj_bipush 38 rfl (by decide) rfl ?_
    refine pj_iand 39 rfl rfl ?_
    have hin := px_and_in (px_x xs i) 63
    generalize pj_and (px_x xs i) 63 = y at hin
    rcases Classical.em (y < 0 ∨ 38 < y) with hy | hy
    · exact pj_tout 1287 rfl hin hy (by decide) (px_wide (nxt M inv))
    rcases (by omega : y = 0 ∨ y = 1 ∨ y = 2 ∨ y = 3 ∨ y = 4 ∨ y = 5 ∨ y = 6 ∨ y = 7 ∨ y = 8 ∨ y = 9 ∨ y = 10 ∨ y = 11 ∨ y = 12 ∨ y = 13 ∨ y = 14 ∨ y = 15 ∨ y = 16 ∨ y = 17 ∨ y = 18 ∨ y = 19 ∨ y = 20 ∨ y = 21 ∨ y = 22 ∨ y = 23 ∨ y = 24 ∨ y = 25 ∨ y = 26 ∨ y = 27 ∨ y = 28 ∨ y = 29 ∨ y = 30 ∨ y = 31 ∨ y = 32 ∨ y = 33 ∨ y = 34 ∨ y = 35 ∨ y = 36 ∨ y = 37 ∨ y = 38) with rfl | rfl | rfl | rfl | rfl | rfl | rfl | rfl | rfl | rfl | rfl | rfl | rfl | rfl | rfl | rfl | rfl | rfl | rfl | rfl | rfl | rfl | rfl | rfl | rfl | rfl | rfl | rfl | rfl | rfl | rfl | rfl | rfl | rfl | rfl | rfl | rfl | rfl | rfl
    · exact pj_tin 208 rfl hin (by decide) (by decide) rfl (by decide) (lc_sign hg inv hLL h0 h4 hcA (fun M' inv' => px_wide (nxt M' inv')))
    · exact pj_tin 233 rfl hin (by decide) (by decide) rfl (by decide) (lc_end hg inv hLL h0 h4 hcA (fun M' inv' => px_wide (nxt M' inv')))
    · exact pj_tin 258 rfl hin (by decide) (by decide) rfl (by decide) (lc_grammar hg inv hLL h0 h4 hcA (fun M' inv' => px_wide (nxt M' inv')))
    · exact pj_tin 271 rfl hin (by decide) (by decide) rfl (by decide) (lc_line hg inv hLL h0 h4 hcA (fun M' inv' => px_wide (nxt M' inv')))
    · exact pj_tin 284 rfl hin (by decide) (by decide) rfl (by decide) (lc_brackets hg inv hLL h0 h4 hcA (fun M' inv' => px_wide (nxt M' inv')))
    · exact pj_tin 297 rfl hin (by decide) (by decide) rfl (by decide) (lc_symbol hg hl inv hLL h0 h4 hcB nxt)
    · exact pj_tin 365 rfl hin (by decide) (by decide) rfl (by decide) (lc_at hg hl inv hLL h0 h4 hcB nxt)
    · exact pj_tin 421 rfl hin (by decide) (by decide) rfl (by decide) (lc_sheet hg inv hLL h0 h4 hcA (fun M' inv' => px_wide (nxt M' inv')))
    · exact pj_tin 482 rfl hin (by decide) (by decide) rfl (by decide) (lc_fits hg inv hLL h0 h4 hcA (fun M' inv' => px_wide (nxt M' inv')))
    · exact pj_tin 519 rfl hin (by decide) (by decide) rfl (by decide) (lc_onwards hg inv hLL h0 h4 hcA (fun M' inv' => px_wide (nxt M' inv')))
    · exact pj_tin 544 rfl hin (by decide) (by decide) rfl (by decide) (lc_back hg inv hLL h0 h4 hcA (fun M' inv' => px_wide (nxt M' inv')))
    · exact pj_tin 569 rfl hin (by decide) (by decide) rfl (by decide) (lc_sentence hg inv hLL h0 h4 hcA (fun M' inv' => px_wide (nxt M' inv')))
    · exact pj_tin 582 rfl hin (by decide) (by decide) rfl (by decide) (lc_next hg inv hLL h0 h4 hcA (fun M' inv' => px_wide (nxt M' inv')))
    · exact pj_tin 619 rfl hin (by decide) (by decide) rfl (by decide) (lc_ahead hg inv hLL h0 h4 hcA (fun M' inv' => px_wide (nxt M' inv')))
    · exact pj_tin 656 rfl hin (by decide) (by decide) rfl (by decide) (lc_yields hg inv hLL h0 h4 hcA (fun M' inv' => px_wide (nxt M' inv')))
    · exact pj_tin 717 rfl hin (by decide) (by decide) rfl (by decide) (lc_report hg inv hLL h0 h4 hcA (fun M' inv' => px_wide (nxt M' inv')))
    · exact pj_tin 730 rfl hin (by decide) (by decide) rfl (by decide) (lc_backwards hg inv hLL h0 h4 hcA (fun M' inv' => px_wide (nxt M' inv')))
    · exact pj_tin 743 rfl hin (by decide) (by decide) rfl (by decide) (lc_led hg inv hLL h0 h4 hcA (fun M' inv' => px_wide (nxt M' inv')))
    · exact pj_tin 756 rfl hin (by decide) (by decide) rfl (by decide) (lc_least hg inv hLL h0 h4 hcA (fun M' inv' => px_wide (nxt M' inv')))
    · exact pj_tin 769 rfl hin (by decide) (by decide) rfl (by decide) (lc_mate hg inv hLL h0 h4 hcA (fun M' inv' => px_wide (nxt M' inv')))
    · exact pj_tin 794 rfl hin (by decide) (by decide) rfl (by decide) (lc_needed hg inv hLL h0 h4 hcA (fun M' inv' => px_wide (nxt M' inv')))
    · exact pj_tin 807 rfl hin (by decide) (by decide) rfl (by decide) (lc_without hg inv hLL h0 h4 hcA (fun M' inv' => px_wide (nxt M' inv')))
    · exact pj_tin 832 rfl hin (by decide) (by decide) rfl (by decide) (lc_blames hg inv hLL h0 h4 hcA (fun M' inv' => px_wide (nxt M' inv')))
    · exact pj_tin 845 rfl hin (by decide) (by decide) rfl (by decide) (lc_longest hg inv hLL h0 h4 hcA (fun M' inv' => px_wide (nxt M' inv')))
    · exact pj_tin 858 rfl hin (by decide) (by decide) rfl (by decide) (lc_weakest hg inv hLL h0 h4 hcA (fun M' inv' => px_wide (nxt M' inv')))
    · exact pj_tin 871 rfl hin (by decide) (by decide) rfl (by decide) (lc_wide hg inv hLL h0 h4 hcA (fun M' inv' => px_wide (nxt M' inv')))
    · exact pj_tin 896 rfl hin (by decide) (by decide) rfl (by decide) (lc_capital hg inv hLL h0 h4 hcA (fun M' inv' => px_wide (nxt M' inv')))
    · exact pj_tin 933 rfl hin (by decide) (by decide) rfl (by decide) (lc_sentences hg inv hLL h0 h4 hcA (fun M' inv' => px_wide (nxt M' inv')))
    · exact pj_tin 958 rfl hin (by decide) (by decide) rfl (by decide) (lc_apart hg inv hLL h0 h4 hcA (fun M' inv' => px_wide (nxt M' inv')))
    · exact pj_tin 995 rfl hin (by decide) (by decide) rfl (by decide) (lc_becomes hg inv hLL h0 h4 hcA (fun M' inv' => px_wide (nxt M' inv')))
    · exact pj_tin 1032 rfl hin (by decide) (by decide) rfl (by decide) (lc_comes hg inv hLL h0 h4 hcA (fun M' inv' => px_wide (nxt M' inv')))
    · exact pj_tin 1069 rfl hin (by decide) (by decide) rfl (by decide) (lc_goes hg inv hLL h0 h4 hcA (fun M' inv' => px_wide (nxt M' inv')))
    · exact pj_tin 1094 rfl hin (by decide) (by decide) rfl (by decide) (lc_day hg inv hLL h0 h4 hcA (fun M' inv' => px_wide (nxt M' inv')))
    · exact pj_tin 1107 rfl hin (by decide) (by decide) rfl (by decide) (lc_undo hg inv hLL h0 h4 hcA (fun M' inv' => px_wide (nxt M' inv')))
    · exact pj_tin 1120 rfl hin (by decide) (by decide) rfl (by decide) (lc_years hg inv hLL h0 h4 hcA (fun M' inv' => px_wide (nxt M' inv')))
    · exact pj_tin 1157 rfl hin (by decide) (by decide) rfl (by decide) (lc_keep hg inv hLL h0 h4 hcA (fun M' inv' => px_wide (nxt M' inv')))
    · exact pj_tin 1182 rfl hin (by decide) (by decide) rfl (by decide) (lc_again hg inv hLL h0 h4 hcA (fun M' inv' => px_wide (nxt M' inv')))
    · exact pj_tin 1207 rfl hin (by decide) (by decide) rfl (by decide) (lc_count hg inv hLL h0 h4 hcA (fun M' inv' => px_wide (nxt M' inv')))
    · exact pj_tin 1232 rfl hin (by decide) (by decide) rfl (by decide) (lc_row hg hl inv hLL h0 h4 hcB nxt)
set_option maxRecDepth 100000 in
set_option maxHeartbeats 8000000 in
theorem px_begin (hph : pj_ph g = false) (hl : l.stackTraces = false) (hL : L ≤ 2560) : pj_R l g mdL_law (px_XL t g L xs) px_ZL 0 0 0 0 [(0, .ref 1000000)] [] px_M0 := by
  refine pj_newo 3 11 rfl poL_8 rfl hph rfl (by decide) ⟨by decide, by decide⟩ ?_
  refine pj_dup 4 rfl rfl rfl ?_
  refine pj_callI 7 (st := [.ref 0]) (d' := mdX11_init) rfl pliL_23 rfl (by decide) ⟨⟨by decide, by decide⟩, by decide, by decide⟩ (by decide) (sm_X11_init hph rfl (by decide) rfl rfl rfl rfl rfl rfl rfl rfl rfl rfl rfl rfl rfl rfl rfl rfl rfl rfl rfl rfl rfl rfl rfl rfl rfl rfl rfl rfl rfl rfl rfl rfl rfl rfl rfl rfl rfl rfl rfl rfl rfl rfl rfl rfl rfl rfl rfl rfl rfl rfl rfl rfl rfl rfl rfl rfl rfl rfl rfl rfl rfl rfl rfl rfl rfl rfl rfl rfl rfl rfl rfl rfl rfl rfl rfl rfl rfl rfl rfl rfl rfl rfl rfl rfl rfl rfl rfl rfl rfl rfl rfl rfl rfl rfl rfl rfl rfl rfl rfl rfl rfl rfl rfl rfl rfl rfl rfl rfl rfl rfl rfl rfl rfl rfl rfl rfl rfl rfl rfl rfl rfl rfl rfl rfl rfl rfl rfl rfl rfl rfl rfl rfl rfl rfl rfl rfl rfl rfl rfl rfl rfl rfl rfl rfl rfl rfl rfl rfl rfl rfl rfl rfl rfl rfl rfl rfl rfl rfl rfl rfl rfl rfl rfl rfl rfl rfl rfl rfl rfl rfl rfl rfl rfl rfl rfl rfl rfl rfl rfl rfl rfl rfl rfl rfl rfl rfl rfl rfl rfl rfl rfl rfl rfl rfl rfl rfl rfl rfl rfl rfl rfl rfl (by decide) (by decide) (by decide) (by decide) (by decide) (by decide) (by decide) (by decide) (by decide) (by decide) (by decide) (by decide) (by decide) (by decide) (by decide) (by decide) (by decide) (by decide) (by decide) (by decide) (by decide) (by decide) (by decide) (by decide) (by decide) (by decide) (by decide) (by decide) (by decide) (by decide) (by decide) (by decide) (by decide) (by decide) (by decide) (by decide) (by decide) (by decide) (by decide) (by decide) (by decide) (by decide) (by decide) (by decide) (by decide) (by decide) (by decide) (by decide) (by decide) (by decide) (by decide) (by decide) (by decide) (by decide) (by decide) (by decide) (by decide) (by decide) (by decide) (by decide) (by decide) (by decide) (by decide) (by decide) (by decide) (by decide) (by decide) (by decide) (by decide) (by decide) (by decide) (by decide) (by decide) (by decide) (by decide) (by decide) (by decide) (by decide) (by decide) (by decide) (by decide) (by decide) (by decide) (by decide) (by decide) (by decide) (by decide) (by decide) (by decide) (by decide) (by decide) (by decide) (by decide) (by decide) (by decide) (by decide) (by decide) (by decide) (by decide) (by decide) (by decide) (by decide) (by decide) (by decide) (by decide) (by decide) (by decide) (by decide) (by decide) (by decide) (by decide) (by decide) (by decide) (by decide) (by decide) (by decide) (by decide) (by decide) (by decide) (by decide) (by decide) (by decide) (by decide) (by decide) (by decide) (by decide) (by decide) (by decide) (by decide) (by decide) (by decide) (by decide) (by decide) (by decide) (by decide) (by decide) (by decide) (by decide) (by decide) (by decide) (by decide) (by decide) (by decide) (by decide) (by decide) (by decide) (by decide) (by decide) (by decide) (by decide) (by decide) (by decide) (by decide) (by decide) (by decide) (by decide) (by decide) (by decide) (by decide) (by decide) (by decide) (by decide) (by decide) (by decide) (by decide) (by decide) (by decide) (by decide) (by decide) (by decide) (by decide) (by decide) (by decide) (by decide) (by decide) (by decide) (by decide) (by decide) (by decide) (by decide) (by decide) (by decide) (by decide) (by decide) (by decide) (by decide) (by decide) (by decide) (by decide) (by decide) (by decide) (by decide) (by decide) (by decide) (by decide) (by decide) (by decide) (by decide) (by decide) (by decide) (by decide) (by decide)) ?_
  intro v n' M' hq
  obtain ⟨rfl, rfl, rfl⟩ := hq
  refine pj_astore_n (ls' := [(0, .ref 1000000), (1, .ref 0)]) 8 rfl rfl (by decide) rfl rfl ?_
  refine pj_newo 11 12 rfl poL_24 rfl hph rfl (by decide) ⟨by decide, by decide⟩ ?_
  refine pj_dup 12 rfl rfl rfl ?_
  refine pj_callI 15 (st := [.ref 203]) (d' := mdX12_init) rfl pliL_26 rfl (by decide) ⟨⟨by decide, by decide⟩, by decide, by decide⟩ (by decide) (sm_X12_init hph rfl (by decide) rfl rfl rfl rfl rfl rfl rfl rfl rfl rfl rfl rfl rfl rfl rfl rfl rfl rfl rfl rfl rfl rfl rfl rfl (by decide) (by decide) (by decide) (by decide) (by decide) (by decide) (by decide) (by decide) (by decide) (by decide) (by decide) (by decide) (by decide) (by decide) (by decide) (by decide) (by decide) (by decide) (by decide) (by decide) (by decide) (by decide) (by decide) (by decide)) ?_
  intro v n' M' hq
  obtain ⟨rfl, rfl, rfl⟩ := hq
  refine pj_astore_n (ls' := [(0, .ref 1000000), (1, .ref 0), (2, .ref 203)]) 16 rfl rfl (by decide) rfl rfl ?_
  refine pj_iconst 17 rfl rfl ?_
  refine pj_newa (k := 1) 19 4 rfl rfl pj_ac_long rfl (by decide) rfl (by decide) (by decide) ⟨by decide, by decide⟩ ?_
  refine pj_astore_n (ls' := [(0, .ref 1000000), (1, .ref 0), (2, .ref 203), (3, .ref 228)]) 20 rfl rfl (by decide) rfl rfl ?_
  refine pj_iconst 21 rfl rfl ?_
  refine pj_istore (ls' := px_LS 0) 23 rfl (by decide) rfl rfl ?_
  refine px_flip hph ?_
  exact px_loop (g := px_g g) rfl hl hL 513 0 _ _ px_MI px_INV (by decide) (by omega) (by omega) (by decide) (by decide)
end PXG
