theorem px_known {s : State} {args : Array Value} (hts : ∀ w ∈ lw_tbl, w.before args s = true) : ∃ (dC : Nat → ClassId) (dI : Nat → Nat → Nat), ∀ (k : Nat) (q : vw_C), vwCl[k]? = some q → u_Kn s q.1 q.2.1 q.2.2 (dC k) (dI k) := by
  have hTB : ∀ w ∈ pj_TB, w.before args s = true := fun w hw => hts w (List.mem_filter.mp hw).1
  have h : ∀ k : Nat, ∃ r : ClassId × (Nat → Nat), ∀ q : vw_C, vwCl[k]? = some q → u_Kn s q.1 q.2.1 q.2.2 r.1 r.2 := by
    intro k
    by_cases hk : k < 13
    · rcases (by omega : k = 0 ∨ k = 1 ∨ k = 2 ∨ k = 3 ∨ k = 4 ∨ k = 5 ∨ k = 6 ∨ k = 7 ∨ k = 8 ∨ k = 9 ∨ k = 10 ∨ k = 11 ∨ k = 12) with rfl | rfl | rfl | rfl | rfl | rfl | rfl | rfl | rfl | rfl | rfl | rfl | rfl
      · obtain ⟨c, f, h⟩ := u_known (C := RX0) (T := TX0) (N := 17) (n := 17) hTB pj_in0 (hts (.instantiable RX0 17) (by decide +kernel))
        exact ⟨(c, f), fun q hq => by cases hq; exact h⟩
      · obtain ⟨c, f, h⟩ := u_known (C := RX1) (T := TX1) (N := 4) (n := 4) hTB pj_in1 (hts (.instantiable RX1 4) (by decide +kernel))
        exact ⟨(c, f), fun q hq => by cases hq; exact h⟩
      · obtain ⟨c, f, h⟩ := u_known (C := RX2) (T := TX2) (N := 2) (n := 2) hTB pj_in2 (hts (.instantiable RX2 2) (by decide +kernel))
        exact ⟨(c, f), fun q hq => by cases hq; exact h⟩
      · obtain ⟨c, f, h⟩ := u_known (C := RX3) (T := TX3) (N := 5) (n := 5) hTB pj_in3 (hts (.instantiable RX3 5) (by decide +kernel))
        exact ⟨(c, f), fun q hq => by cases hq; exact h⟩
      · obtain ⟨c, f, h⟩ := u_known (C := RX4) (T := TX4) (N := 6) (n := 6) hTB pj_in4 (hts (.instantiable RX4 6) (by decide +kernel))
        exact ⟨(c, f), fun q hq => by cases hq; exact h⟩
      · obtain ⟨c, f, h⟩ := u_known (C := RX5) (T := TX5) (N := 4) (n := 4) hTB pj_in5 (hts (.instantiable RX5 4) (by decide +kernel))
        exact ⟨(c, f), fun q hq => by cases hq; exact h⟩
      · obtain ⟨c, f, h⟩ := u_known (C := RX6) (T := TX6) (N := 3) (n := 3) hTB pj_in6 (hts (.instantiable RX6 3) (by decide +kernel))
        exact ⟨(c, f), fun q hq => by cases hq; exact h⟩
      · obtain ⟨c, f, h⟩ := u_known (C := RX7) (T := TX7) (N := 2) (n := 2) hTB pj_in7 (hts (.instantiable RX7 2) (by decide +kernel))
        exact ⟨(c, f), fun q hq => by cases hq; exact h⟩
      · obtain ⟨c, f, h⟩ := u_known (C := RX8) (T := TX8) (N := 5) (n := 5) hTB pj_in8 (hts (.instantiable RX8 5) (by decide +kernel))
        exact ⟨(c, f), fun q hq => by cases hq; exact h⟩
      · obtain ⟨c, f, h⟩ := u_known (C := RX9) (T := TX9) (N := 2) (n := 2) hTB pj_in9 (hts (.instantiable RX9 2) (by decide +kernel))
        exact ⟨(c, f), fun q hq => by cases hq; exact h⟩
      · obtain ⟨c, f, h⟩ := u_known (C := RX10) (T := TX10) (N := 3) (n := 3) hTB pj_in10 (hts (.instantiable RX10 3) (by decide +kernel))
        exact ⟨(c, f), fun q hq => by cases hq; exact h⟩
      · obtain ⟨c, f, h⟩ := u_known (C := RX11) (T := TX11) (N := 16) (n := 16) hTB pj_in11 (hts (.instantiable RX11 16) (by decide +kernel))
        exact ⟨(c, f), fun q hq => by cases hq; exact h⟩
      · obtain ⟨c, f, h⟩ := u_known (C := RX12) (T := TX12) (N := 38) (n := 38) hTB pj_in12 (hts (.instantiable RX12 38) (by decide +kernel))
        exact ⟨(c, f), fun q hq => by cases hq; exact h⟩
    · exact ⟨(0, fun _ => 0), fun q hq => absurd (List.getElem?_eq_some_iff.mp hq).1 hk⟩
  obtain ⟨r, hr⟩ := Classical.skolem.mp h
  exact ⟨fun k => (r k).1, fun k => (r k).2, fun k q hq => hr k q hq⟩
theorem px_arr1 {s : State} {args : Array Value} {ty : FieldType} (h : (Cond.arrayClass ty).before args s = true) : ∃ cA, ArrOfT s cA ty ∧ s.vm.findClass ("[" ++ ty.toString) = some cA := by
  obtain ⟨c, k, comp, h1, h2, h3⟩ := Cond.arrayClass_spec (show (Cond.arrayClass ty).holds args s none s [] = true from h)
  exact ⟨c, fun n z => ⟨fun k h => (by cases h), k, h2, comp, h3⟩, h1⟩
theorem px_arr2 {s : State} {args : Array Value} {n : String} (h : (Cond.arrayOver (.object n)).before args s = true) : ∃ cA, ArrOfT s cA (.object n) ∧ va_RA s cA (.object n) := by
  obtain ⟨comp, c, k, h1, -, h3, h4, h5⟩ := Cond.arrayOver_spec (show (Cond.arrayOver (.object n)).holds args s none s [] = true from h)
  exact ⟨c, fun n z => ⟨fun k h => (by cases h), k, h3, comp, h4⟩, k, comp, h3, h4, h1, h5⟩
theorem px_arrs {s : State} {args : Array Value} (hts : ∀ w ∈ lw_tbl, w.before args s = true) : ∃ dA : Nat → ClassId, ∀ (k : Nat) (q : ClassId × FieldType), ([(dA 0, .int), (dA 1, .boolean), (dA 2, .byte), (dA 3, .long), (dA 4, .object "PiecesThatFit$Desk")] : List (ClassId × FieldType))[k]? = some q → ArrOfT s q.1 q.2 ∧ va_RA s q.1 q.2 := by
  obtain ⟨a0, e0⟩ := px_arr1 (hts (.arrayClass .int) (by decide +kernel))
  obtain ⟨a1, e1⟩ := px_arr1 (hts (.arrayClass .boolean) (by decide +kernel))
  obtain ⟨a2, e2⟩ := px_arr1 (hts (.arrayClass .byte) (by decide +kernel))
  obtain ⟨a3, e3⟩ := px_arr1 (hts (.arrayClass .long) (by decide +kernel))
  obtain ⟨a4, e4⟩ := px_arr2 (hts (.arrayOver (.object "PiecesThatFit$Desk")) (by decide +kernel))
  refine ⟨fun k => if k = 0 then a0 else if k = 1 then a1 else if k = 2 then a2 else if k = 3 then a3 else a4, ?_⟩
  intro k q hq
  match k, hq with
  | 0, hq => cases hq; exact e0
  | 1, hq => cases hq; exact e1
  | 2, hq => cases hq; exact e2
  | 3, hq => cases hq; exact e3
  | 4, hq => cases hq; exact e4
  | k + 5, hq => simp at hq
theorem px_str {s : State} {args : Array Value} {own text : String} {i k : Nat} (hf : s.vm.findClass own = some k) (h : (Cond.stringRef own i text).before args s = true) : ∃ a, vk_R own i text a s := by
  obtain ⟨-, -, -, a, -, -, -, -, -, h6⟩ := Cond.stringRef_spec hf (show (Cond.stringRef own i text).holds args s none s [] = true from h)
  exact ⟨a, vk_R.of h h6⟩
theorem px_flags {l : Launch} (h : l.flags = flags0) : l.stackTraces = false := by
  unfold Launch.stackTraces
  rw [h]
  decide +kernel
set_option maxHeartbeats 4000000 in
set_option maxRecDepth 100000 in
/-- THE LAW, from its entry -/
theorem whole_start {p : Program} {e : Env} {s : State} {m : MethodId} {below : List Frame} {meth : Method} {c : Code} (l : Launch) (hflags : l.flags = flags0) {b L : Nat} {xs : Nat → Int32} (hL : L ≤ 2560) (hnm : meth.name = "law") (C0 : lw_At p s m meth c b L xs) : W p l e room_1 s m #[Value.ref b] below meth c s.heap [] 0 0 (lw_Z below #[Value.ref b] s) (entryFrame m ([Value.ref b] : List Value).toArray 8) := by
  obtain ⟨hx, hb, hr, hml, hown, hts, hX, hbl, hlocks, hgv⟩ := C0
  have hTB : ∀ w ∈ pj_TB, w.before #[Value.ref b] s = true := fun w hw => hts w (List.mem_filter.mp hw).1
  obtain ⟨dC, dI, hKn⟩ := px_known hts
  obtain ⟨dA, hAr⟩ := px_arrs hts
  have hg := flat_of_before _ hgv
  obtain ⟨g, eg⟩ : ∃ g : pj_G, g = (b, s.heap.size, false, dC, dI, dA) := ⟨_, rfl⟩
  have hK : pj_K g s := by
    subst eg
    refine ⟨⟨hKn, hAr⟩, fun w hw => ?_, va_AO.of (hts (.arrayOver (.object "PiecesThatFit$Desk")) (by decide +kernel))⟩
    have h1 := (List.mem_filter.mp hw).1
    obtain ⟨a, i, y, h, rfl⟩ := pj_nw_form hw
    exact va_Nw.of rfl (hts _ h1)
  have hc11 : s.vm.findClass RX11 = some (dC 11) := (hKn 11 _ rfl).2.1
  obtain ⟨a1, k1⟩ := px_str hc11 (hts (.stringRef RX11 162 "no such symbol") (by decide +kernel))
  obtain ⟨a2, k2⟩ := px_str hc11 (hts (.stringRef RX11 173 "no such place") (by decide +kernel))
  obtain ⟨a3, k3⟩ := px_str hc11 (hts (.stringRef RX11 367 "no such number") (by decide +kernel))
  have hA : ∀ a : Nat, a < s.heap.size → ¬ pj_A g a := fun a ha => by subst eg; exact Nat.not_le.mpr ha
  have hU : vx_Zq Bundle.tN "UNASSIGNED_STACK" Bundle.steD (pj_A g) s s.heap := vx_Zqof (hts (.laysStatic Bundle.tN "UNASSIGNED_STACK" Bundle.steD) (by decide +kernel)) (hts (.initialized Bundle.tN) (by decide +kernel)) (hg (.isRef (.static Bundle.tN "UNASSIGNED_STACK" Bundle.steD)) (by decide +kernel)) hA
  have hN : vx_Zq Bundle.tN "SUPPRESSED_SENTINEL" Bundle.listD (pj_A g) s s.heap := vx_Zqof (hts (.laysStatic Bundle.tN "SUPPRESSED_SENTINEL" Bundle.listD) (by decide +kernel)) (hts (.initialized Bundle.tN) (by decide +kernel)) (hg (.isRef (.static Bundle.tN "SUPPRESSED_SENTINEL" Bundle.listD)) (by decide +kernel)) hA
  have hNG : px_NG s := ⟨va_any rfl (hts px_d1 (by decide +kernel)), va_any rfl (hts px_d2 (by decide +kernel)), va_any rfl (hts px_d3 (by decide +kernel)), va_any rfl (hts px_d4 (by decide +kernel))⟩
  have hXL : px_XL (a1, a2, a3) g L xs s := by
    refine ⟨⟨⟨k1, k2, k3⟩, ⟨hU, hN⟩, hNG⟩, ?_⟩
    subst eg
    exact ⟨hX, hbl, Nat.le_refl _, hbl⟩
  have hl := lv_entry ([.ref b]) (n := 8) (Nat.le_of_ble_eq_true rfl)
  have hl2 : lv_has ((lg_sl ([.ref b]) ++ List.replicate (8 - (lg_sl ([.ref b])).length) Slot.unset).toArray) 8 (([(0, .ref 1000000)] : List (Nat × Value)).map (pj_p g)) := by
    subst eg
    exact hl
  rw [lg_entry_eq]
  exact px_begin (g := g) (t := (a1, a2, a3)) (L := L) (xs := xs) (by subst eg; rfl) (px_flags hflags) hL p e s m #[Value.ref b] below meth c s.heap [] _ ⟨⟨hx, hb, hr, hlocks, hml, hown⟩, hTB, hK, hnm, by subst eg; exact Nat.le_refl _, gcL_law, hXL⟩ ⟨fun k q h => by simp [pj_ws] at h, va_S.rf, fun _ => by subst eg; rfl, Nat.zero_le _⟩ hl2
