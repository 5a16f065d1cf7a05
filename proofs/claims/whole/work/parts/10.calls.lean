/-- what a method must give back -/
def pj_Qc (g : pj_G) (Q : Option Value → Nat → pj_M → Prop) : Array Value → State → Outcome → State → Prop := fun _ st oc t =>
  (∃ (v : Option Value) (n : Nat) (M : pj_M), oc = .returned (v.map (pj_v g)) ∧ Q v n M ∧ va_P (pj_D g) vwCl (pj_ws g n M) t.heap ∧ (n < pj_NK → t.heap.size = pj_bs g + n) ∧ n ≤ pj_NK) ∧ va_F (pj_A g) st t
def pj_Zm (g : pj_G) (d : pj_MD) (Q : Option Value → Nat → pj_M → Prop) : pj_Z := fun s args below => MQ below (pj_Qc g Q) args s (pj_rm d).cells (pj_rm d).slots (pj_A g)
def pj_S (l : Launch) (g : pj_G) (d : pj_MD) (as : List Value) (n : Nat) (M : pj_M) (Q : Option Value → Nat → pj_M → Prop) : Prop :=
  Met l d.1 (.code d.1 d.2.1 d.2.2.1 d.2.2.2.1 :: pj_TB) (pj_rm d)
    (va_Pc (as.map (pj_v g)) (fun U => va_P (pj_D g) vwCl (pj_ws g n M) U.heap ∧ (n < pj_NK → U.heap.size = pj_bs g + n) ∧ n ≤ pj_NK ∧ pj_bs g ≤ U.heap.size ∧ pj_K g U))
    (pj_Qc g Q) (pj_rm d).cells (pj_rm d).slots (pj_A g)
section PJV
variable {l : Launch} {g : pj_G} {d : pj_MD} {n c0 s0 pc : Nat} {ls : List (Nat × Value)} {st : List Value} {M : pj_M} {Q : Option Value → Nat → pj_M → Prop}
abbrev pj_T : State → Prop := fun _ => True
theorem pj_end {s : State} {H : Heap} {locs : List Loc} {args : Array Value} {v : Option Value} (hH : pj_H g n M s H locs) (hq : Q v n M) : ∀ t : State, t.heap = H → s.WarmedH t.vm → pj_Qc g Q args s (.returned (v.map (pj_v g))) t := by
  intro t ht _
  exact ⟨⟨v, n, M, rfl, hq, by rw [ht]; exact hH.1, by rw [ht]; exact hH.2.2.1, hH.2.2.2⟩, hH.2.1.F ht⟩
theorem pj_iret {x : Int32} (hd : (pj_cd d).lookup pc = some (.ireturn, 1)) (hr : d.2.2.2.1 = some .int) (hc : c0 ≤ (pj_rm d).cells ∧ s0 ≤ (pj_rm d).slots) (hq : Q (some (.int x)) n M) : pj_R l g d pj_T (pj_Zm g d Q) n c0 s0 pc ls [.int x] M := by
  intro p e s m args below meth c H locs la C hH hL
  have hlk := C.1.2.2.2.1
  exact W.widen hc.1 hc.2 (W.iret C.1.1 C.1.2.1 (C.1.2.2.1.trans hr) (pj_end (v := some (.int x)) hH hq) hH.2.1.2.2 (C.2.2.2.2.2.1 _ _ _ hd) hlk)
theorem pj_zret {x : Int} (hd : (pj_cd d).lookup pc = some (.ireturn, 1)) (hr : d.2.2.2.1 = some .boolean) (hc : c0 ≤ (pj_rm d).cells ∧ s0 ≤ (pj_rm d).slots) (hx : x = 0 ∨ x = 1) (hq : Q (some (.int (pj_I x))) n M) : pj_R l g d pj_T (pj_Zm g d Q) n c0 s0 pc ls [.int (pj_I x)] M := by
  intro p e s m args below meth c H locs la C hH hL
  have hlk := C.1.2.2.2.1
  exact W.widen hc.1 hc.2 (W.zret C.1.1 C.1.2.1 (C.1.2.2.1.trans hr) (by rcases hx with rfl | rfl <;> decide) (pj_end (v := some (.int (pj_I x))) hH hq) hH.2.1.2.2 (C.2.2.2.2.2.1 _ _ _ hd) hlk)
theorem pj_lret {x : Int64} (hd : (pj_cd d).lookup pc = some (.lreturn, 1)) (hr : d.2.2.2.1 = some .long) (hc : c0 ≤ (pj_rm d).cells ∧ s0 ≤ (pj_rm d).slots) (hq : Q (some (.long x)) n M) : pj_R l g d pj_T (pj_Zm g d Q) n c0 s0 pc ls [.long x] M := by
  intro p e s m args below meth c H locs la C hH hL
  have hlk := C.1.2.2.2.1
  exact W.widen hc.1 hc.2 (W.lret C.1.1 C.1.2.1 (C.1.2.2.1.trans hr) (pj_end (v := some (.long x)) hH hq) hH.2.1.2.2 (C.2.2.2.2.2.1 _ _ _ hd) hlk)
theorem pj_aret {x : Nat} {cn : String} (hd : (pj_cd d).lookup pc = some (.areturn, 1)) (hr : d.2.2.2.1 = some (.object cn)) (hc : c0 ≤ (pj_rm d).cells ∧ s0 ≤ (pj_rm d).slots) (hq : Q (some (.ref x)) n M) : pj_R l g d pj_T (pj_Zm g d Q) n c0 s0 pc ls [.ref x] M := by
  intro p e s m args below meth c H locs la C hH hL
  have hlk := C.1.2.2.2.1
  exact W.widen hc.1 hc.2 (W.aret C.1.1 C.1.2.1 (C.1.2.2.1.trans hr) (Or.inl ⟨_, rfl⟩) (Or.inr ⟨_, rfl⟩) (pj_end (v := some (.ref x)) hH hq) hH.2.1.2.2 (C.2.2.2.2.2.1 _ _ _ hd) hlk)
theorem pj_vret (hd : (pj_cd d).lookup pc = some (.return_, 1)) (hr : d.2.2.2.1 = none) (hc : c0 ≤ (pj_rm d).cells ∧ s0 ≤ (pj_rm d).slots) (hq : Q none n M) : pj_R l g d pj_T (pj_Zm g d Q) n c0 s0 pc ls [] M := by
  intro p e s m args below meth c H locs la C hH hL
  have hlk := C.1.2.2.2.1
  exact W.widen hc.1 hc.2 (W.vret C.1.1 C.1.2.1 (C.1.2.2.1.trans hr) (pj_end (v := none) hH hq) hH.2.1.2.2 (C.2.2.2.2.2.1 _ _ _ hd) hlk)
theorem pj_sl_len (as : List Value) : (lg_sl (as.map (pj_v g))).length = (lg_sl as).length := by
  induction as with
  | nil => rfl
  | cons a t ih =>
    show ((if (pj_v g a).category = 2 then [Slot.val (pj_v g a), .second] else [.val (pj_v g a)]) ++ lg_sl (t.map (pj_v g))).length = ((if a.category = 2 then [Slot.val a, .second] else [.val a]) ++ lg_sl t).length
    rw [List.length_append, List.length_append, ih, pj_v_cat]
    by_cases h : a.category = 2 <;> simp [h]
theorem pj_args_map (k : Nat) (as : List Value) : lv_args k (as.map (pj_v g)) = (lv_args k as).map (pj_p g) := by
  induction as generalizing k with
  | nil => rfl
  | cons a t ih =>
    rw [List.map_cons]
    simp only [lv_args, pj_v_cat, ih, List.map_cons]
    rfl
/-- a method's contract, out of the walk of its body -/
theorem pj_ofR {as : List Value} {ls : List (Nat × Value)} (hgc : pj_gc d) (hpl : plainName d.1.cls = true) (hcls : d.1.cls = pj_own d) (hsl : (lg_sl as).length ≤ d.2.2.1) (hls : lv_args 0 as = ls) (hR : pj_R l g d pj_T (pj_Zm g d Q) n 0 0 0 ls [] M) : pj_S l g d as n M Q := by
  refine Met.ofW (cc := d.2.1) (maxL := d.2.2.1) (ret := d.2.2.2.1) hpl rfl ?_
  intro p e s m args below meth c s₁ B hml hv
  obtain ⟨rfl, hP, hz, hn, hbs, hK⟩ := hv
  have hts := atoms_spec (ws := .code d.1 d.2.1 d.2.2.1 d.2.2.2.1 :: pj_TB) B.pre
  have hown : s.vm.findClass d.1.cls = some m.cls := findClass_of_methodNamed B.named
  have hnm : meth.name = d.1.name := (name_of_methodNamed B.named B.method).1
  have hlen : (lg_sl (as.map (pj_v g))).length ≤ d.2.2.1 := by rw [pj_sl_len]; exact hsl
  have hl := lv_entry (as.map (pj_v g)) hlen
  rw [lg_entry_eq]
  rw [pj_args_map, hls] at hl
  exact hR p e s m _ below meth c s.heap [] _ ⟨⟨B.exec, B.bytes, B.returns, B.notSynchronized, hml, by rw [← hcls]; exact hown⟩, fun w hw => hts w (List.mem_cons_of_mem _ hw), hK, hnm, hbs, hgc, trivial⟩ ⟨hP, va_S.rf, hz, hn⟩ hl
end PJV
section PJW
variable {l : Launch} {g : pj_G} {d : pj_MD} {X : State → Prop} {Z : pj_Z} {n c0 s0 pc : Nat} {ls : List (Nat × Value)} {st : List Value} {M : pj_M} {Q1 : Option Value → Nat → pj_M → Prop}
theorem pj_tb_good : ∀ w ∈ pj_TB, w ∈ pj_TB ∧ ((w.onTables && w.keeps) = true ∨ ∃ ty, w = .arrayClass ty) := fun w h => ⟨h, good_of_word (List.mem_filter.mp h).2⟩
theorem pj_goodIn {d' : pj_MD} (h : Cond.code d'.1 d'.2.1 d'.2.2.1 d'.2.2.2.1 ∈ pj_TB) : GoodIn pj_TB (.code d'.1 d'.2.1 d'.2.2.1 d'.2.2.2.1 :: pj_TB) := fun w hw => (List.mem_cons.mp hw).elim (fun e => by rw [e]; exact pj_tb_good _ h) (fun h => pj_tb_good w h)
theorem pj_blind {as : List Value} : FrameBlind (va_Pc (as.map (pj_v g)) (fun U => va_P (pj_D g) vwCl (pj_ws g n M) U.heap ∧ (n < pj_NK → U.heap.size = pj_bs g + n) ∧ n ≤ pj_NK ∧ pj_bs g ≤ U.heap.size ∧ pj_K g U)) := by
  intro a U gg mk q
  obtain ⟨q0, q1, q2, q3, q4, q5⟩ := q
  exact ⟨q0, q1, q2, q3, q4, pj_K.calling (U := U) (V := U.calling gg mk a) rfl q5⟩
/-- behind a call -/
theorem pj_after {d' : pj_MD} {p : Program} {e : Env} {s : State} {m : MethodId} {args : Array Value} {below : List Frame} {meth : Method} {c : Code} {H : Heap} {locs : List Loc} {la : Array Slot} {st0 : List Value} {a : Array Value}
    (hr : va_Run p l e (pj_rm d) s m args below meth c H locs c0 s0 (pj_rm d').cells (pj_rm d').slots (F0 m pc la st0) (st.map (pj_v g)) (pj_Qc g Q1 a) (pj_A g)) (C : pj_C g d X p s m args meth c) (hH : pj_H g n M s H locs) (hL : lv_has la d.2.2.1 (ls.map (pj_p g)))
    (kk : ∀ v n' M', Q1 v n' M' → pj_R l g d X Z n' (c0 + (pj_rm d').cells) (s0 + (pj_rm d').slots) (pc + 3) ls (v.toList ++ st) M') : W p l e (pj_rm d) s m args below meth c H locs c0 s0 (Z s args below) (F0 m pc la st0) := by
  intro T hT X'
  obtain ⟨v0, st₀, t, T', L, h0, X2, hL2, e1, e2, ⟨⟨v, n', M', hv, hq, hP, hz, hn⟩, hz1, hk1⟩, stp⟩ := hr T hT X'
  cases hv
  rw [h0] at hz1 hk1
  have hS := hH.2.1
  obtain ⟨t2, a1, b1⟩ := kk v n' M' hq p e s m args below meth c T'.heap (locs ++ L) la C ⟨by rw [e1]; exact hP, ⟨Nat.le_trans hS.1 (by rw [e1]; exact hz1), fun q h1 h2 => by rw [e1, hk1 q (Nat.lt_of_lt_of_le h1 hS.1) h2]; exact hS.2.1 q h1 h2, fun q hq => by
      rcases List.mem_append.mp hq with h | h
      · exact hS.2.2 q h
      · exact hL2 q h⟩, by rw [e1]; exact hz, hn⟩ hL T' rfl X2
  refine ⟨t2, stp t2 ?_, b1⟩
  have e3 : (v.map (pj_v g)).toList ++ st.map (pj_v g) = (v.toList ++ st).map (pj_v g) := by cases v <;> simp
  show Steps p.tables e below (T'.setTop (F0 m (pc + 3) la ((v.map (pj_v g)).toList ++ st.map (pj_v g)))) t2
  rw [e3]
  exact a1
/-- the words of a call of a method of an object; ci: its class -/
def pj_LV (own : String) (idx : Nat) (d' : pj_MD) (ci k : Nat) : Prop := Cond.methodLink own idx d'.1 ∈ pj_TB ∧ Cond.instanceMethod d'.1 ∈ pj_TB ∧ Cond.selects d'.1.cls d'.1 d'.1 ∈ pj_TB ∧ Cond.initialized d'.1.cls ∈ pj_TB ∧ Cond.code d'.1 d'.2.1 d'.2.2.1 d'.2.2.2.1 ∈ pj_TB ∧ (d'.1.cls ≠ "java/lang/invoke/MethodHandle" ∧ d'.1.cls ≠ "java/lang/invoke/VarHandle" ∧ (parseMethodDescriptor d'.1.desc).map (fun d => d.parameters.length) = some k) ∧ ∃ T N, vwCl[ci]? = some (d'.1.cls, T, N)
def pj_LS (own : String) (idx : Nat) (d' : pj_MD) (k : Nat) : Prop := Cond.methodLink own idx d'.1 ∈ pj_TB ∧ Cond.static d'.1 ∈ pj_TB ∧ Cond.initialized d'.1.cls ∈ pj_TB ∧ Cond.code d'.1 d'.2.1 d'.2.2.1 d'.2.2.2.1 ∈ pj_TB ∧ (d'.1.cls ≠ "java/lang/invoke/MethodHandle" ∧ d'.1.cls ≠ "java/lang/invoke/VarHandle" ∧ (parseMethodDescriptor d'.1.desc).map (fun d => d.parameters.length) = some k)
def pj_LSN (own : String) (idx : Nat) (d' : pj_MD) (k : Nat) : Prop := (∃ host, Cond.methodLinkNest own idx d'.1 host ∈ pj_NW) ∧ Cond.static d'.1 ∈ pj_TB ∧ Cond.initialized d'.1.cls ∈ pj_TB ∧ Cond.code d'.1 d'.2.1 d'.2.2.1 d'.2.2.2.1 ∈ pj_TB ∧ (d'.1.cls ≠ "java/lang/invoke/MethodHandle" ∧ d'.1.cls ≠ "java/lang/invoke/VarHandle" ∧ (parseMethodDescriptor d'.1.desc).map (fun d => d.parameters.length) = some k)
abbrev pj_rooms (d d' : pj_MD) (c0 s0 : Nat) : Prop := ((pj_rm d').frames + 1 ≤ (pj_rm d).frames ∧ 8 + (d'.2.2.1 + 11) + (pj_rm d').locals ≤ (pj_rm d).locals) ∧ c0 + (pj_rm d').cells ≤ (pj_rm d).cells ∧ s0 + (pj_rm d').slots ≤ (pj_rm d).slots
theorem pj_catsum (st : List Value) : ((st.map (pj_v g)).map fun v => v.category).sum = (st.map fun v => v.category).sum := by
  rw [List.map_map]; congr 1; apply List.map_congr_left; intro a _; exact pj_v_cat g a
theorem pj_callV (pc' ci : Nat) {idx k b : Nat} {d' : pj_MD} {As : List Value} {stk : List Value} (hd : (pj_cd d).lookup pc = some (.invokevirtual idx, 3)) (hw : pj_LV (pj_own d) idx d' ci k) (hp : pc + 3 = pc') (hstk : stk = As.reverse ++ .ref b :: st) (hk : As.length = k) (hcat : (st.map fun v => v.category).sum ≤ 8) (hrm : pj_rooms d d' c0 s0) (hs : pj_sh b = (0, ci)) (hb : b < n) (hN : n ≤ 1000000)
    (hS : pj_S l g d' (.ref b :: As) n M Q1) (kk : ∀ v n' M', Q1 v n' M' → pj_R l g d X Z n' (c0 + (pj_rm d').cells) (s0 + (pj_rm d').slots) pc' ls (v.toList ++ st) M') : pj_R l g d X Z n c0 s0 pc ls stk M := by
  intro p e s m args below meth c H locs la C hH hL
  subst hp
  obtain ⟨w1, w2, w3, w4, w5, hdd, T, N, hcl⟩ := hw
  have hts := C.2.1
  have hpv : pj_v g (.ref b) = .ref (pj_bs g + b) := pj_v_ref g (by omega)
  refine pj_after (d' := d') (a := (Value.ref (pj_bs g + b) :: As.map (pj_v g)).toArray) ?_ C hH hL kk
  refine va_runV (own := pj_own d) (C := d'.1.cls) (b := pj_bs g + b) (As := As.map (pj_v g)) (nL := d.2.2.1) ⟨C.1.1, C.1.2.1, C.1.2.2.2.2.1, C.1.2.2.2.2.2, hts⟩ hS ⟨callB_of k hts (pj_goodIn w5) rfl rfl rfl (hts _ w4) (hts _ w1) hdd hrm.1, hts _ w2, hts _ w3⟩ ?_ rfl (by rw [List.length_map]; exact hk) hL.1 ?_ ?_ (C.2.2.2.2.2.1 _ _ _ hd) hrm.2
  · refine ⟨pj_blind, va_recv (q0 := b) (q := (d'.1.cls, T, N)) C.2.2.1.1 hH.1 hcl (by rw [pj_ws_get hb, pj_ce_ob hs]), fun U hU hW => ⟨?_, by rw [hU]; exact hH.1, by rw [hU]; exact hH.2.2.1, hH.2.2.2, by rw [hU]; exact Nat.le_trans C.2.2.2.2.1 hH.2.1.1, C.2.2.1.warm hW⟩⟩
    rw [List.map_cons, hpv]
  · show (stk.map (pj_v g)) = _
    rw [hstk, List.map_append, List.map_reverse, List.map_cons, hpv]
  · show 2 * (F0 m pc la (stk.map (pj_v g))).monitorRoom + ((st.map (pj_v g)).map fun v => v.category).sum ≤ 8
    exact lv_room (by rw [pj_catsum]; exact hcat)
theorem pj_callS (pc' : Nat) {idx k : Nat} {d' : pj_MD} {As : List Value} {stk : List Value} (hd : (pj_cd d).lookup pc = some (.invokestatic idx, 3)) (hw : pj_LS (pj_own d) idx d' k ∨ pj_LSN (pj_own d) idx d' k) (hp : pc + 3 = pc') (hstk : stk = As.reverse ++ st) (hk : As.length = k) (hcat : (st.map fun v => v.category).sum ≤ 8) (hrm : pj_rooms d d' c0 s0)
    (hS : pj_S l g d' As n M Q1) (kk : ∀ v n' M', Q1 v n' M' → pj_R l g d X Z n' (c0 + (pj_rm d').cells) (s0 + (pj_rm d').slots) pc' ls (v.toList ++ st) M') : pj_R l g d X Z n c0 s0 pc ls stk M := by
  intro p e s m args below meth c H locs la C hH hL
  subst hp
  have hts := C.2.1
  refine pj_after (d' := d') (a := (As.map (pj_v g)).toArray) ?_ C hH hL kk
  have hpre : PreS s H (va_Pc (As.map (pj_v g)) (fun U => va_P (pj_D g) vwCl (pj_ws g n M) U.heap ∧ (n < pj_NK → U.heap.size = pj_bs g + n) ∧ n ≤ pj_NK ∧ pj_bs g ≤ U.heap.size ∧ pj_K g U)) (As.map (pj_v g)) :=
    ⟨pj_blind, fun U hU hW => ⟨rfl, by rw [hU]; exact hH.1, by rw [hU]; exact hH.2.2.1, hH.2.2.2, by rw [hU]; exact Nat.le_trans C.2.2.2.2.1 hH.2.1.1, C.2.2.1.warm hW⟩⟩
  have hst : (stk.map (pj_v g)) = (As.map (pj_v g)).reverse ++ st.map (pj_v g) := by rw [hstk, List.map_append, List.map_reverse]
  have hct : 2 * (F0 m pc la (stk.map (pj_v g))).monitorRoom + ((st.map (pj_v g)).map fun v => v.category).sum ≤ 8 := lv_room (by rw [pj_catsum]; exact hcat)
  rcases hw with ⟨w1, w2, w4, w5, hdd⟩ | ⟨⟨host, w1⟩, w2, w4, w5, hdd⟩
  · exact va_runS (own := pj_own d) (As := As.map (pj_v g)) (nL := d.2.2.1) ⟨C.1.1, C.1.2.1, C.1.2.2.2.2.1, C.1.2.2.2.2.2, hts⟩ hS ⟨callB_of k hts (pj_goodIn w5) rfl rfl rfl (hts _ w4) (hts _ w1) hdd hrm.1, hts _ w2⟩ hpre rfl (by rw [List.length_map]; exact hk) hL.1 hst hct (C.2.2.2.2.2.1 _ _ _ hd) hrm.2
  · exact va_runSN (own := pj_own d) (host := host) (As := As.map (pj_v g)) (nL := d.2.2.1) ⟨C.1.1, C.1.2.1, C.1.2.2.2.2.1, C.1.2.2.2.2.2, hts⟩ hS ⟨va_cnB k hts (pj_goodIn w5) rfl rfl rfl (C.2.2.1.2.1 _ w1) (hts _ w4) hdd hrm.1, hts _ w2, trivial⟩ hpre rfl (by rw [List.length_map]; exact hk) hL.1 hst hct (C.2.2.2.2.2.1 _ _ _ hd) hrm.2
end PJW
