theorem pj_MetofWF {l : Launch} {y : MethodName} {ws ws' : List Cond} {rm : Room} {Pc : Array Value → State → Prop} {Qc : Array Value → State → Outcome → State → Prop} {mc ms : Nat} {free : Addr → Prop} {cc : ByteArray} {maxL : Nat} {ret : Option FieldType}
    (hy : plainFor y = true) (hw : ws = Cond.code y cc maxL ret :: ws')
    (body : ∀ p e s m args below meth c s₁, BodyLoose p l y (headSpec ws rm) cc maxL ret e s m args below meth c s₁ → c.maxLocals = maxL → Pc args s →
      W p l e (headSpec ws rm).room s m args below meth c s.heap [] 0 0 (MQ below Qc args s mc ms free) (entryFrame m args maxL)) : Met l y ws rm Pc Qc mc ms free := by
  refine MetFree.of_bodySF (code := cc) (maxLocals := maxL) (ret := ret) hy ?_ ?_
  · intro args s m h hn
    obtain ⟨meth, c, h1, h2, h3, h4, h5, h6, -, -⟩ := Cond.code_spec hn (atoms_spec (ws := ws) h _ (by rw [hw]; exact List.mem_cons_self))
    exact ⟨meth, c, h1, h2, h3, h4, h5, h6⟩
  · intro p e s m args below meth c s₁ B hml hP _
    have hh0 : s₁.heap = s.heap := by rw [B.state]; rfl
    obtain ⟨t, a1, o, b1, b2, b3⟩ := body p e s m args below meth c s₁ B hml hP s₁ hh0 (Stand.of_body B)
    exact ⟨t, o, a1, b1, b2, ⟨b3.1, b3.2⟩⟩
theorem pj_ofRF {l : Launch} {g : pj_G} {d : pj_MD} {n : Nat} {M : pj_M} {Q : Option Value → Nat → pj_M → Prop} {as : List Value} {ls : List (Nat × Value)} (hgc : pj_gc d) (hpl : plainFor d.1 = true) (hcls : d.1.cls = pj_own d) (hsl : (lg_sl as).length ≤ d.2.2.1) (hls : lv_args 0 as = ls) (hR : pj_R l g d pj_T (pj_Zm g d Q) n 0 0 0 ls [] M) : pj_S l g d as n M Q := by
  refine pj_MetofWF (cc := d.2.1) (maxL := d.2.2.1) (ret := d.2.2.2.1) hpl rfl ?_
  intro p e s m args below meth c s₁ B hml hv
  obtain ⟨rfl, hP, hz, hn, hbs, hK⟩ := hv
  have hts := atoms_spec (ws := .code d.1 d.2.1 d.2.2.1 d.2.2.2.1 :: pj_TB) B.pre
  have hown : s.vm.findClass d.1.cls = some m.cls := findClass_of_methodNamed B.named
  have hnm : meth.name = d.1.name := (name_of_methodNamed B.named B.method).1
  have hlen : (lg_sl (as.map (pj_v g))).length ≤ d.2.2.1 := by rw [pj_sl_len]; exact hsl
  have hl := lv_entry (as.map (pj_v g)) hlen
  rw [lg_entry_eq]
  rw [pj_args_map, hls] at hl
  exact hR p e s m _ below meth c s.heap [] _ ⟨⟨B.exec, B.bytes, B.returns, B.notSynchronized, hml, by rw [← hcls]; exact hown⟩, fun w hw => hts w (List.mem_cons_of_mem _ hw), hK, hnm, hbs, hgc, trivial⟩ ⟨hP, va_S.rf, hz, hn⟩ hl
theorem pj_pJmin : plainFor yJmin = true := by decide +kernel
theorem pj_pJmax : plainFor yJmax = true := by decide +kernel
theorem pj_pJfmod : plainFor yJfmod = true := by decide +kernel
