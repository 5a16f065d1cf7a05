abbrev px_d1 : Cond := .declares (Bundle.initS "java/lang/RuntimeException")
abbrev px_d2 : Cond := .declares (Bundle.initS "java/lang/Exception")
abbrev px_d3 : Cond := .declares (Bundle.initS Bundle.tN)
abbrev px_d4 : Cond := .castable px_E px_E
theorem px_all : (px_at RX11 164).all (fun w => (decide (w ∈ lw_tbl) && goodWord w) || (decide (w = px_d1) || decide (w = px_d2) || decide (w = px_d3) || decide (w = px_d4))) = true := by decide +kernel
theorem px_k1 : Cond.classLink RX11 160 px_E ∈ pj_TB := List.mem_filter.mpr ⟨by decide +kernel, by decide +kernel⟩
theorem px_k2 : Cond.initialized px_E ∈ pj_TB := List.mem_filter.mpr ⟨by decide +kernel, by decide +kernel⟩
theorem px_ots : ∀ w ∈ Cond.classLink RX11 160 px_E :: Cond.initialized px_E :: px_at RX11 164, vx_ot w = true := List.all_eq_true.mp (by decide +kernel)
def px_NG (s : State) : Prop := px_d1.before #[] s = true ∧ px_d2.before #[] s = true ∧ px_d3.before #[] s = true ∧ px_d4.before #[] s = true
theorem px_NG.warm {s U : State} (hW : s.WarmedH U.vm) (h : px_NG s) : px_NG U := by
  obtain ⟨h1, h2, h3, h4⟩ := h
  exact ⟨va_tabs rfl (rfl : (s.setVm U.vm).vm = U.vm) (by rw [Cond.declares_setVm hW.alike]; exact h1), va_tabs rfl (rfl : (s.setVm U.vm).vm = U.vm) (by rw [Cond.declares_setVm hW.alike]; exact h2), va_tabs rfl (rfl : (s.setVm U.vm).vm = U.vm) (by rw [Cond.declares_setVm hW.alike]; exact h3), va_tabs rfl (rfl : (s.setVm U.vm).vm = U.vm) (by rw [Cond.castable_setVm hW.alike]; exact h4)⟩
theorem px_NG.at {s : State} {args : Array Value} (h : px_NG s) (hts : ∀ w ∈ pj_TB, w.before args s = true) : ∀ w ∈ px_at RX11 164, w.before args s = true := by
  intro w hw
  have h1 := List.all_eq_true.mp px_all w hw
  simp only [Bool.or_eq_true, Bool.and_eq_true, decide_eq_true_eq] at h1
  rcases h1 with ⟨h2, h3⟩ | ((h2 | h2) | h2) | h2
  · exact hts w (List.mem_filter.mpr ⟨h2, h3⟩)
  · rw [h2]; exact va_any rfl h.1
  · rw [h2]; exact va_any rfl h.2.1
  · rw [h2]; exact va_any rfl h.2.2.1
  · rw [h2]; exact va_any rfl h.2.2.2
/-- what the throws rest on: the three texts, the two statics of Throwable, four words -/
def px_Y (t : Nat × Nat × Nat) (g : pj_G) (s : State) : Prop :=
  (vk_R RX11 162 "no such symbol" t.1 s ∧ vk_R RX11 173 "no such place" t.2.1 s ∧ vk_R RX11 367 "no such number" t.2.2 s) ∧
  (vx_Zq Bundle.tN "UNASSIGNED_STACK" Bundle.steD (pj_A g) s s.heap ∧ vx_Zq Bundle.tN "SUPPRESSED_SENTINEL" Bundle.listD (pj_A g) s s.heap) ∧ px_NG s
theorem px_Y.go {t : Nat × Nat × Nat} {g : pj_G} {s U : State} {locs : List Loc} (hW : s.WarmedH U.vm) (hS : va_S (pj_A g) s.heap U.heap locs) (h : px_Y t g s) : px_Y t g U := by
  obtain ⟨⟨h1, h2, h3⟩, ⟨h4, h5⟩, h6⟩ := h
  exact ⟨⟨vk_R.warm hW h1, vk_R.warm hW h2, vk_R.warm hW h3⟩, ⟨vx_Zq.moved hW.alike (h4.kept hS.2.1), vx_Zq.moved hW.alike (h5.kept hS.2.1)⟩, h6.warm hW⟩
theorem px_Y.calling {t : Nat × Nat × Nat} {g : pj_G} {U : State} {gg : JFrame} {mk : MethodId} {a : Array Value} (h : px_Y t g U) : px_Y t g (U.calling gg mk a) :=
  px_Y.go (U := U.calling gg mk a) (locs := []) (State.WarmedH.refl U) (va_S.rf) h
/-- the table of the method that stands on top -/
def px_tab (T : List ExceptionTableEntry) (s : State) : Prop := ∀ (m : MethodId) (args : Array Value) (below : List Frame) (meth : Method) (c : Code), s.frames = .invoking m args :: below → s.vm.method? m = some meth → meth.code = some c → c.exceptionTable.toList = T
theorem px_tab_st {p : Program} {l : Launch} {e : Env} {R : Room} {s : State} {m : MethodId} {args : Array Value} {below : List Frame} {meth : Method} {c : Code} {T : State} {locs : List Loc} {cells slots : Nat} {Tb : List ExceptionTableEntry}
    (X : Stand p l e R s m args below meth c T locs cells slots) (h : px_tab Tb s) : c.exceptionTable.toList = Tb := h m args below meth c X.frames X.method X.code
theorem px_tab_of {p : Program} {l : Launch} {e : Env} {R : Room} {s : State} {m : MethodId} {args : Array Value} {below : List Frame} {meth : Method} {c : Code} {T : State} {locs : List Loc} {cells slots : Nat} {Tb : List ExceptionTableEntry}
    (X : Stand p l e R s m args below meth c T locs cells slots) (h : c.exceptionTable.toList = Tb) : px_tab Tb s := by
  intro m' args' below' meth' c' h1 h2 h3
  have h4 := h1.symm.trans X.frames
  simp only [List.cons.injEq, Frame.invoking.injEq] at h4
  obtain ⟨⟨e1, -⟩, -⟩ := h4
  subst e1
  cases Option.some.inj (h2.symm.trans X.method)
  cases Option.some.inj (h3.symm.trans X.code)
  exact h
def px_XC (g : pj_G) (P : pj_M → Prop) (E : String) (st t : State) : Prop := E = px_E ∧ (∃ M, P M ∧ va_P (pj_D g) vwCl (pj_ws g pj_NK M) t.heap) ∧ va_F (pj_A g) st t
def px_Z (g : pj_G) (d : pj_MD) (Q : Option Value → Nat → pj_M → Prop) (P : pj_M → Prop) : pj_Z := fun s args below => vx_MQ below (pj_Qc g Q) (px_XC g P) args s (pj_rm d).cells (pj_rm d).slots (pj_A g)
abbrev px_Pc (g : pj_G) (as : List Value) (n : Nat) (M : pj_M) (Y : State → Prop) : Array Value → State → Prop :=
  va_Pc (as.map (pj_v g)) (fun U => va_P (pj_D g) vwCl (pj_ws g n M) U.heap ∧ (n < pj_NK → U.heap.size = pj_bs g + n) ∧ n ≤ pj_NK ∧ pj_bs g ≤ U.heap.size ∧ pj_K g U ∧ Y U)
def px_S (l : Launch) (g : pj_G) (d : pj_MD) (as : List Value) (n : Nat) (M : pj_M) (Y : State → Prop) (Q : Option Value → Nat → pj_M → Prop) (P : pj_M → Prop) : Prop :=
  vx_Met l d.1 (.code d.1 d.2.1 d.2.2.1 d.2.2.2.1 :: pj_TB) (pj_rm d) (px_Pc g as n M Y) (pj_Qc g Q) (px_XC g P) (pj_rm d).cells (pj_rm d).slots (pj_A g)
def px_SL (l : Launch) (g : pj_G) (d : pj_MD) (hh : List (Nat × Nat × Nat × Nat)) (as : List Value) (n : Nat) (M : pj_M) (Y : State → Prop) (Q : Option Value → Nat → pj_M → Prop) : Prop :=
  Met l d.1 (.codeWith d.1 d.2.1 d.2.2.1 d.2.2.2.1 hh :: pj_TB) (pj_rm d) (px_Pc g as n M Y) (pj_Qc g Q) (pj_rm d).cells (pj_rm d).slots (pj_A g)
section PXV
variable {l : Launch} {g : pj_G} {d : pj_MD} {X Y : State → Prop} {Z : pj_Z} {n c0 s0 pc : Nat} {ls : List (Nat × Value)} {st : List Value} {M : pj_M} {Q Q1 : Option Value → Nat → pj_M → Prop} {P : pj_M → Prop}
theorem px_iret {x : Int32} (hd : (pj_cd d).lookup pc = some (.ireturn, 1)) (hr : d.2.2.2.1 = some .int) (hc : c0 ≤ (pj_rm d).cells ∧ s0 ≤ (pj_rm d).slots) (hq : Q (some (.int x)) n M) : pj_R l g d X (px_Z g d Q P) n c0 s0 pc ls [.int x] M := by
  intro p e s m args below meth c H locs la C hH hL
  have hlk := C.1.2.2.2.1
  exact vx_ret (W.widen hc.1 hc.2 (W.iret C.1.1 C.1.2.1 (C.1.2.2.1.trans hr) (pj_end (v := some (.int x)) hH hq) hH.2.1.2.2 (C.2.2.2.2.2.1 _ _ _ hd) hlk))
theorem px_lret {x : Int64} (hd : (pj_cd d).lookup pc = some (.lreturn, 1)) (hr : d.2.2.2.1 = some .long) (hc : c0 ≤ (pj_rm d).cells ∧ s0 ≤ (pj_rm d).slots) (hq : Q (some (.long x)) n M) : pj_R l g d X (px_Z g d Q P) n c0 s0 pc ls [.long x] M := by
  intro p e s m args below meth c H locs la C hH hL
  have hlk := C.1.2.2.2.1
  exact vx_ret (W.widen hc.1 hc.2 (W.lret C.1.1 C.1.2.1 (C.1.2.2.1.trans hr) (pj_end (v := some (.long x)) hH hq) hH.2.1.2.2 (C.2.2.2.2.2.1 _ _ _ hd) hlk))
theorem px_iretL {x : Int32} (hd : (pj_cd d).lookup pc = some (.ireturn, 1)) (hr : d.2.2.2.1 = some .int) (hc : c0 ≤ (pj_rm d).cells ∧ s0 ≤ (pj_rm d).slots) (hq : Q (some (.int x)) n M) : pj_R l g d X (pj_Zm g d Q) n c0 s0 pc ls [.int x] M := by
  intro p e s m args below meth c H locs la C hH hL
  have hlk := C.1.2.2.2.1
  exact W.widen hc.1 hc.2 (W.iret C.1.1 C.1.2.1 (C.1.2.2.1.trans hr) (pj_end (v := some (.int x)) hH hq) hH.2.1.2.2 (C.2.2.2.2.2.1 _ _ _ hd) hlk)
theorem px_left {s : State} {H : Heap} {locs : List Loc} (hH : pj_H g pj_NK M s H locs) (hP : P M) : ∀ t : State, s.vm.Alike t.vm → H.size ≤ t.heap.size → (∀ q : Nat, q < H.size → t.heap[q]? = H[q]?) → px_XC g P px_E s t :=
  fun t _ h2 h3 => ⟨rfl, ⟨M, hP, hH.1.kept (fun k q hk => h3 q.1 (vx_lt hH.1 hk))⟩, Nat.le_trans hH.2.1.1 h2, fun q h4 h5 => (h3 q (Nat.lt_of_lt_of_le h4 hH.2.1.1)).trans (hH.2.1.2.1 q h4 h5)⟩
theorem px_thrS (hl : l.stackTraces = false) {is sa : Nat} {text : String} (hY : ∀ s, X s → px_tab [] s ∧ vk_R RX11 is text sa s ∧ vx_Zq Bundle.tN "UNASSIGNED_STACK" Bundle.steD (pj_A g) s s.heap ∧ vx_Zq Bundle.tN "SUPPRESSED_SENTINEL" Bundle.listD (pj_A g) s s.heap ∧ px_NG s) (ho : pj_own d = RX11)
    (d0 : (pj_cd d).lookup pc = some (.new 160, 3)) (d3 : (pj_cd d).lookup (pc + 3) = some (.dup, 1)) (d4 : (pj_cd d).lookup (pc + 4) = some (.ldc is, 2)) (d6 : (pj_cd d).lookup (pc + 6) = some (.invokespecial 164, 3)) (d9 : (pj_cd d).lookup (pc + 9) = some (.athrow, 1))
    (hP : P M) (hr : 5 < (pj_rm d).frames ∧ 82 ≤ (pj_rm d).locals ∧ c0 + 1 ≤ (pj_rm d).cells ∧ s0 + 6 ≤ (pj_rm d).slots) : pj_R l g d X (px_Z g d Q P) pj_NK c0 s0 pc ls [] M := by
  intro p e s m args below meth c H locs la C hH hL T hT X'
  obtain ⟨t1, t2, t3, t4, t5⟩ := hY s C.2.2.2.2.2.2
  have hnt : c.exceptionTable.toList = [] := px_tab_st X' t1
  have hts := C.2.1
  have gc := C.2.2.2.2.2.1
  exact px_throwS C.1.1 C.1.2.1 hl (own := RX11) (ik := 160) (is := is) (ic := 164) (A := pj_A g) (by rw [← ho]; exact C.1.2.2.2.2.2) (hts _ px_k1) (hts _ px_k2) t2 (t5.at hts) px_ots t3 t4 hH.2.1 (hL.1.trans C.1.2.2.2.2.1.symm)
    (gc _ _ _ d0) (gc _ _ _ d3) (gc _ _ _ d4) (gc _ _ _ d6) (gc _ _ _ d9) (fun x hx => by rw [hnt] at hx; cases hx) hr.1 (by simpa using hr.2.1) hr.2.2.1 hr.2.2.2 C.1.2.2.2.1 (px_left hH hP) hH.2.1.2.2 hr.2.2.1 hr.2.2.2 T hT X'
theorem px_thrW (hl : l.stackTraces = false) {is sa : Nat} {text : String} (hY : ∀ s, X s → px_tab [] s ∧ vk_R RX11 is text sa s ∧ vx_Zq Bundle.tN "UNASSIGNED_STACK" Bundle.steD (pj_A g) s s.heap ∧ vx_Zq Bundle.tN "SUPPRESSED_SENTINEL" Bundle.listD (pj_A g) s s.heap ∧ px_NG s) (ho : pj_own d = RX11)
    (d0 : (pj_cd d).lookup pc = some (.new 160, 3)) (d3 : (pj_cd d).lookup (pc + 3) = some (.dup, 1)) (d4 : (pj_cd d).lookup (pc + 4) = some (.ldc_w is, 3)) (d6 : (pj_cd d).lookup (pc + 7) = some (.invokespecial 164, 3)) (d9 : (pj_cd d).lookup (pc + 10) = some (.athrow, 1))
    (hP : P M) (hr : 5 < (pj_rm d).frames ∧ 82 ≤ (pj_rm d).locals ∧ c0 + 1 ≤ (pj_rm d).cells ∧ s0 + 6 ≤ (pj_rm d).slots) : pj_R l g d X (px_Z g d Q P) pj_NK c0 s0 pc ls [] M := by
  intro p e s m args below meth c H locs la C hH hL T hT X'
  obtain ⟨t1, t2, t3, t4, t5⟩ := hY s C.2.2.2.2.2.2
  have hnt : c.exceptionTable.toList = [] := px_tab_st X' t1
  have hts := C.2.1
  have gc := C.2.2.2.2.2.1
  exact px_throwSW C.1.1 C.1.2.1 hl (own := RX11) (ik := 160) (is := is) (ic := 164) (A := pj_A g) (by rw [← ho]; exact C.1.2.2.2.2.2) (hts _ px_k1) (hts _ px_k2) t2 (t5.at hts) px_ots t3 t4 hH.2.1 (hL.1.trans C.1.2.2.2.2.1.symm)
    (gc _ _ _ d0) (gc _ _ _ d3) (gc _ _ _ d4) (gc _ _ _ d6) (gc _ _ _ d9) (fun x hx => by rw [hnt] at hx; cases hx) hr.1 (by simpa using hr.2.1) hr.2.2.1 hr.2.2.2 C.1.2.2.2.1 (px_left hH hP) hH.2.1.2.2 hr.2.2.1 hr.2.2.2 T hT X'
theorem px_ofR {as : List Value} {ls : List (Nat × Value)} (hgc : pj_gc d) (hpl : plainName d.1.cls = true) (hcls : d.1.cls = pj_own d) (hsl : (lg_sl as).length ≤ d.2.2.1) (hls : lv_args 0 as = ls) (hR : pj_R l g d (fun s => px_tab [] s ∧ Y s) (px_Z g d Q P) n 0 0 0 ls [] M) : px_S l g d as n M Y Q P := by
  refine vx_ofW (cc := d.2.1) (maxL := d.2.2.1) (ret := d.2.2.2.1) hpl rfl ?_
  intro p e s m args below meth c s₁ B hml htab hv
  obtain ⟨rfl, hP, hz, hn, hbs, hK, hY⟩ := hv
  have hts := atoms_spec (ws := .code d.1 d.2.1 d.2.2.1 d.2.2.2.1 :: pj_TB) B.pre
  have hown : s.vm.findClass d.1.cls = some m.cls := findClass_of_methodNamed B.named
  have hnm : meth.name = d.1.name := (name_of_methodNamed B.named B.method).1
  have hlen : (lg_sl (as.map (pj_v g))).length ≤ d.2.2.1 := by rw [pj_sl_len]; exact hsl
  have hl := lv_entry (as.map (pj_v g)) hlen
  rw [lg_entry_eq]
  rw [pj_args_map, hls] at hl
  exact hR p e s m _ below meth c s.heap [] _ ⟨⟨B.exec, B.bytes, B.returns, B.notSynchronized, hml, by rw [← hcls]; exact hown⟩, fun w hw => hts w (List.mem_cons_of_mem _ hw), hK, hnm, hbs, hgc, px_tab_of (Stand.of_body B) (List.eq_nil_iff_forall_not_mem.mpr (fun x hx => htab x hx)), hY⟩ ⟨hP, va_S.rf, hz, hn⟩ hl
theorem px_ofRL {as : List Value} {ls : List (Nat × Value)} {hh : List (Nat × Nat × Nat × Nat)} (hgc : pj_gc d) (hpl : plainName d.1.cls = true) (hcls : d.1.cls = pj_own d) (hsl : (lg_sl as).length ≤ d.2.2.1) (hls : lv_args 0 as = ls) (hR : pj_R l g d (fun s => px_tab (tableOf hh) s ∧ Y s) (pj_Zm g d Q) n 0 0 0 ls [] M) : px_SL l g d hh as n M Y Q := by
  unfold px_SL Met
  refine MetFree.of_bodyS (code := d.2.1) (maxLocals := d.2.2.1) (ret := d.2.2.2.1) hpl ?_ ?_
  · intro args s m h hn
    obtain ⟨m9, meth, c, hn9, h1, h2, h3, h4, -, h5, h6, -⟩ := Cond.codeWith_spec (atoms_spec (ws := Cond.codeWith d.1 d.2.1 d.2.2.1 d.2.2.2.1 hh :: pj_TB) h _ List.mem_cons_self)
    cases hn.symm.trans hn9
    exact ⟨meth, c, h1, h2, h3, h4, h5, h6⟩
  · intro p e s m args below meth c s₁ B hml hv _
    have hh0 : s₁.heap = s.heap := by rw [B.state]; rfl
    obtain ⟨rfl, hP, hz, hn, hbs, hK, hY⟩ := hv
    have hts := atoms_spec (ws := .codeWith d.1 d.2.1 d.2.2.1 d.2.2.2.1 hh :: pj_TB) B.pre
    have hown : s.vm.findClass d.1.cls = some m.cls := findClass_of_methodNamed B.named
    have hnm : meth.name = d.1.name := (name_of_methodNamed B.named B.method).1
    have hlen : (lg_sl (as.map (pj_v g))).length ≤ d.2.2.1 := by rw [pj_sl_len]; exact hsl
    have hl := lv_entry (as.map (pj_v g)) hlen
    rw [pj_args_map, hls] at hl
    have K := hR p e s m _ below meth c s.heap [] _ ⟨⟨B.exec, B.bytes, B.returns, B.notSynchronized, hml, by rw [← hcls]; exact hown⟩, fun w hw => hts w (List.mem_cons_of_mem _ hw), hK, hnm, hbs, hgc, px_tab_of (Stand.of_body B) (vx_table (x := d.1) B (hts _ List.mem_cons_self)), hY⟩ ⟨hP, va_S.rf, hz, hn⟩ hl
    obtain ⟨t, a1, o, b1, b2, b3⟩ := K s₁ hh0 (Stand.of_body B)
    rw [List.map_nil, ← lg_entry_eq] at a1
    exact ⟨t, o, a1, b1, b2, b3⟩
theorem px_blind {as : List Value} (hY : ∀ U gg mk a, Y U → Y (U.calling gg mk a)) : FrameBlind (px_Pc g as n M Y) := by
  intro a U gg mk q
  obtain ⟨q0, q1, q2, q3, q4, q5, q6⟩ := q
  exact ⟨q0, q1, q2, q3, q4, pj_K.calling (U := U) (V := U.calling gg mk a) rfl q5, hY _ _ _ _ q6⟩
/-- a call of an object's method that may throw, in a method that catches it -/
theorem px_callC (pc' ci i pa : Nat) (en : ExceptionTableEntry) {idx k b : Nat} {d' : pj_MD} {As : List Value} {stk : List Value} {P1 : pj_M → Prop} (hd : (pj_cd d).lookup pc = some (.invokevirtual idx, 3)) (hw : pj_LV (pj_own d) idx d' ci k) (hp : pc + 3 = pc') (hstk : stk = As.reverse ++ .ref b :: st) (hk : As.length = k) (hcat : (st.map fun v => v.category).sum ≤ 8) (hrm : pj_rooms d d' c0 s0) (hs : pj_sh b = (0, ci)) (hb : b < pj_NK)
    (hcv : covers en pc = true) (hc0 : en.catchType ≠ 0) (hlk : Cond.classLink (pj_own d) en.catchType px_E ∈ pj_TB) (hX : ∀ s, X s → px_tab [en] s ∧ px_NG s ∧ Y s) (hY1 : ∀ (s U : State) (locs : List Loc), s.WarmedH U.vm → va_S (pj_A g) s.heap U.heap locs → Y s → Y U) (hY2 : ∀ U gg mk a, Y U → Y (U.calling gg mk a))
    (hst : ((pj_cd d).lookup en.handlerPc = some (.astore i, 2) ∧ en.handlerPc + 2 = pa) ∨ (∃ j : Fin 4, (j : Nat) = i ∧ (pj_cd d).lookup en.handlerPc = some (.astore_n j, 1) ∧ en.handlerPc + 1 = pa)) (hi : i < d.2.2.1) (hfil : ls.all (fun q => !(q.1 == i) && !(q.1 + 1 == i && q.2.category == 2)) = true)
    (hS : px_S l g d' (.ref b :: As) pj_NK M Y Q1 P1) (kk : ∀ v n' M', Q1 v n' M' → pj_R l g d X Z n' (c0 + (pj_rm d').cells) (s0 + (pj_rm d').slots) pc' ls (v.toList ++ st) M') (kx : ∀ M', P1 M' → pj_R l g d X Z pj_NK (c0 + (pj_rm d').cells) (s0 + (pj_rm d').slots) pa ls [] M') : pj_R l g d X Z pj_NK c0 s0 pc ls stk M := by
  intro p e s m args below meth c H locs la C hH hL T hT X'
  subst hp
  obtain ⟨w1, w2, w3, w4, w5, hdd, T0, N, hcl⟩ := hw
  have hts := C.2.1
  obtain ⟨x1, x2, x3⟩ := hX s C.2.2.2.2.2.2
  have hpv : pj_v g (.ref b) = .ref (pj_bs g + b) := pj_v_ref g (Nat.lt_trans hb (by decide))
  have hr := vx_runV (p := p) (l := l) (e := e) (R := pj_rm d) (s := s) (args := args) (below := below) (meth := meth) (H := H) (locs := locs) (cells := c0) (slots := s0) (g := F0 m pc la (stk.map (pj_v g))) (rest := st.map (pj_v g)) (own := pj_own d) (C := d'.1.cls) (b := pj_bs g + b) (As := As.map (pj_v g)) (nL := d.2.2.1) ⟨C.1.1, C.1.2.1, C.1.2.2.2.2.1, C.1.2.2.2.2.2, hts⟩ hS ⟨callB_of k hts (pj_goodIn w5) rfl rfl rfl (hts _ w4) (hts _ w1) hdd hrm.1, hts _ w2, hts _ w3⟩
    ⟨px_blind hY2, va_recv (q0 := b) (q := (d'.1.cls, T0, N)) C.2.2.1.1 hH.1 hcl (by rw [pj_ws_get hb, pj_ce_ob hs]), fun U hU hW => ⟨by rw [List.map_cons, hpv], by rw [hU]; exact hH.1, by rw [hU]; exact hH.2.2.1, hH.2.2.2, by rw [hU]; exact Nat.le_trans C.2.2.2.2.1 hH.2.1.1, C.2.2.1.warm hW, hY1 s U locs hW (by rw [hU]; exact hH.2.1) x3⟩⟩
    rfl (by rw [List.length_map]; exact hk) hL.1 (by
      show (stk.map (pj_v g)) = _
      rw [hstk, List.map_append, List.map_reverse, List.map_cons, hpv]) (by
      show 2 * (F0 m pc la (stk.map (pj_v g))).monitorRoom + ((st.map (pj_v g)).map fun v => v.category).sum ≤ 8
      exact lv_room (by rw [pj_catsum]; exact hcat)) (C.2.2.2.2.2.1 _ _ _ hd) hrm.2
  have hSS := hH.2.1
  rcases hr T hT X' with ⟨v0, st₀, t, T', L, h0, X2, hL2, e1, e2, ⟨⟨v, n', M', hv, hq, hP, hz, hn⟩, hz1, hk1⟩, stp⟩ | ⟨q, st₀, t, T', L, E, ce, h0, X2, hL2, e1, e2, ⟨rfl, ⟨M', hp, hP⟩, hz1, hk1⟩, hce, hcv2, hcl2, stp⟩
  · cases hv
    rw [h0] at hz1 hk1
    obtain ⟨t2, a1, b1⟩ := kk v n' M' hq p e s m args below meth c T'.heap (locs ++ L) la C ⟨by rw [e1]; exact hP, ⟨Nat.le_trans hSS.1 (by rw [e1]; exact hz1), fun q h1 h2 => by rw [e1, hk1 q (Nat.lt_of_lt_of_le h1 hSS.1) h2]; exact hSS.2.1 q h1 h2, fun q hq => by
        rcases List.mem_append.mp hq with h | h
        · exact hSS.2.2 q h
        · exact hL2 q h⟩, by rw [e1]; exact hz, hn⟩ hL T' rfl X2
    refine ⟨t2, stp t2 ?_, b1⟩
    have e3 : (v.map (pj_v g)).toList ++ st.map (pj_v g) = (v.toList ++ st).map (pj_v g) := by cases v <;> simp
    show Steps p.tables e below (T'.setTop (F0 m (pc + 3) la ((v.map (pj_v g)).toList ++ st.map (pj_v g)))) t2
    rw [e3]
    exact a1
  · rw [h0] at hz1 hk1
    have hH' : pj_H g pj_NK M' s T'.heap (locs ++ L) := ⟨by rw [e1]; exact hP, ⟨Nat.le_trans hSS.1 (by rw [e1]; exact hz1), fun q h1 h2 => by rw [e1, hk1 q (Nat.lt_of_lt_of_le h1 hSS.1) h2]; exact hSS.2.1 q h1 h2, fun q hq => by
        rcases List.mem_append.mp hq with h | h
        · exact hSS.2.2 q h
        · exact hL2 q h⟩, fun h => absurd h (Nat.lt_irrefl _), Nat.le_refl _⟩
    have hfl : (ls.map (pj_p g)).filter (fun q => !(q.1 == i) && !(q.1 + 1 == i && q.2.category == 2)) = ls.map (pj_p g) := by
      rw [List.filter_eq_self]
      intro q hq
      obtain ⟨r, hr, rfl⟩ := List.mem_map.mp hq
      have := List.all_eq_true.mp hfil r hr
      simpa [pj_p, pj_v_cat] using this
    have fin : ∀ la', lv_has la' d.2.2.1 ((i, Value.ref q) :: (ls.map (pj_p g)).filter (fun q => !(q.1 == i) && !(q.1 + 1 == i && q.2.category == 2))) → lv_has la' d.2.2.1 (ls.map (pj_p g)) := fun la' h => ⟨h.1, h.2.1, fun r hr => h.2.2 r (List.mem_cons_of_mem _ (by rw [hfl]; exact hr))⟩
    obtain ⟨t2, a1, b1⟩ := vx_catch (H := T'.heap) (ls := la) (rest := st.map (pj_v g)) (pc := pc) (own := pj_own d) (name := px_E) (q := q) (Q := Z s args below) C.1.2.2.2.2.2 [] en [] (px_tab_st X2 x1) (fun z hz => nomatch hz) hcv hc0 (hts _ hlk) (va_any rfl x2.2.2.2) (by rw [e1]; exact hce) hcv2 hcl2 (by
      rcases hst with ⟨h1, h2⟩ | ⟨j, h1, h2, h3⟩
      · subst h2
        exact lv_astore C.1.1 C.1.2.1 (C.2.2.2.2.2.1 _ _ _ h1) hL hi rfl (fun la' h => kx M' hp p e s m args below meth c T'.heap (locs ++ L) la' C hH' (fin la' h))
      · subst h3
        exact lv_astore_n C.1.1 C.1.2.1 (C.2.2.2.2.2.1 _ _ _ h2) h1 hL hi rfl (fun la' h => kx M' hp p e s m args below meth c T'.heap (locs ++ L) la' C hH' (fin la' h))) T' rfl X2
    exact ⟨t2, stp.trans a1, b1⟩
/-- the words of a static call of a method with a table -/
def px_LL (own : String) (idx : Nat) (d' : pj_MD) (hh : List (Nat × Nat × Nat × Nat)) (k : Nat) : Prop := (Cond.methodLink own idx d'.1 ∈ pj_TB ∧ Cond.static d'.1 ∈ pj_TB ∧ Cond.initialized d'.1.cls ∈ pj_TB ∧ Cond.codeWith d'.1 d'.2.1 d'.2.2.1 d'.2.2.2.1 hh ∈ pj_TB) ∧ (d'.1.cls ≠ "java/lang/invoke/MethodHandle" ∧ d'.1.cls ≠ "java/lang/invoke/VarHandle" ∧ (parseMethodDescriptor d'.1.desc).map (fun d => d.parameters.length) = some k)
theorem px_callL (pc' : Nat) {idx k : Nat} {d' : pj_MD} {hh : List (Nat × Nat × Nat × Nat)} {As : List Value} {stk : List Value} (hd : (pj_cd d).lookup pc = some (.invokestatic idx, 3)) (hw : px_LL (pj_own d) idx d' hh k) (hp : pc + 3 = pc') (hstk : stk = As.reverse ++ st) (hk : As.length = k) (hcat : (st.map fun v => v.category).sum ≤ 8) (hrm : pj_rooms d d' c0 s0)
    (hX : ∀ s, X s → Y s) (hY1 : ∀ (s U : State) (locs : List Loc), s.WarmedH U.vm → va_S (pj_A g) s.heap U.heap locs → Y s → Y U) (hY2 : ∀ U gg mk a, Y U → Y (U.calling gg mk a))
    (hS : px_SL l g d' hh As n M Y Q1) (kk : ∀ v n' M', Q1 v n' M' → pj_R l g d X Z n' (c0 + (pj_rm d').cells) (s0 + (pj_rm d').slots) pc' ls (v.toList ++ st) M') : pj_R l g d X Z n c0 s0 pc ls stk M := by
  intro p e s m args below meth c H locs la C hH hL
  subst hp
  have hts := C.2.1
  have x3 := hX s C.2.2.2.2.2.2
  refine pj_after (d' := d') (a := (As.map (pj_v g)).toArray) ?_ C hH hL kk
  obtain ⟨⟨w1, w2, w4, w5⟩, hdd⟩ := hw
  refine vx_runSW (own := pj_own d) (As := As.map (pj_v g)) (nL := d.2.2.1) ⟨C.1.1, C.1.2.1, C.1.2.2.2.2.1, C.1.2.2.2.2.2, hts⟩ hS (vx_cwSW k hts ?_ rfl rfl rfl hdd hrm.1) ?_ rfl (by rw [List.length_map]; exact hk) hL.1 ?_ ?_ (C.2.2.2.2.2.1 _ _ _ hd) hrm.2
  · intro w hw
    simp only [va_wsS, List.mem_append, List.mem_cons, List.not_mem_nil, or_false] at hw
    rcases hw with (rfl | rfl | rfl) | rfl | hw
    · exact pj_tb_good _ w1
    · exact pj_tb_good _ w2
    · exact pj_tb_good _ w4
    · exact pj_tb_good _ w5
    · exact pj_tb_good _ hw
  · exact ⟨px_blind hY2, fun U hU hW => ⟨rfl, by rw [hU]; exact hH.1, by rw [hU]; exact hH.2.2.1, hH.2.2.2, by rw [hU]; exact Nat.le_trans C.2.2.2.2.1 hH.2.1.1, C.2.2.1.warm hW, hY1 s U locs hW (by rw [hU]; exact hH.2.1) x3⟩⟩
  · show (stk.map (pj_v g)) = _
    rw [hstk, List.map_append, List.map_reverse]
  · exact lv_room (by rw [pj_catsum]; exact hcat)
end PXV
