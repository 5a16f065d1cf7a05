def pj_NW : List Cond := lw_tbl.filter (fun w => match w with | .methodLinkNest _ _ _ _ => true | _ => false)
theorem pj_nw_form {w : Cond} (h : w ∈ pj_NW) : ∃ a i y h, w = .methodLinkNest a i y h := by
  have h1 := (List.mem_filter.mp h).2
  cases w <;> simp at h1
  exact ⟨_, _, _, _, rfl⟩
def pj_K (g : pj_G) (U : State) : Prop := va_K (pj_D g) vwCl (pj_tys g) U ∧ (∀ w ∈ pj_NW, va_Nw w U) ∧ va_AO "PiecesThatFit$Desk" U
theorem pj_K.warm {g : pj_G} {s U : State} (hW : s.WarmedH U.vm) (h : pj_K g s) : pj_K g U := by
  obtain ⟨h1, h2, h3⟩ := h
  refine ⟨va_K.moved hW.alike h1, fun w hw => ?_, va_AO.moved hW.alike h3⟩
  obtain ⟨a, i, y, h, rfl⟩ := pj_nw_form hw
  exact va_Nw.warmM hW (h2 _ hw)
theorem pj_K.calling {g : pj_G} {U V : State} (hv : U.vm = V.vm) (h : pj_K g U) : pj_K g V := by
  obtain ⟨h1, h2, h3⟩ := h
  have ha : U.vm.Alike V.vm := by rw [hv]; exact Vm.Alike.refl _
  refine ⟨va_K.moved ha h1, fun w hw => ?_, va_AO.moved ha h3⟩
  obtain ⟨a, i, y, h, rfl⟩ := pj_nw_form hw
  exact va_Nw.same rfl hv (h2 _ hw)
abbrev pj_cd (d : pj_MD) : List (Nat × Instr × Nat) := d.2.2.2.2.2.2
abbrev pj_rm (d : pj_MD) : Room := d.2.2.2.2.2.1
abbrev pj_own (d : pj_MD) : String := d.2.2.2.2.1
def pj_C (g : pj_G) (d : pj_MD) (X : State → Prop) (p : Program) (s : State) (m : MethodId) (args : Array Value) (meth : Method) (c : Code) : Prop :=
  (p.tables.exec = Jvm.exec ∧ c.code = d.2.1 ∧ meth.sig.returnType = d.2.2.2.1 ∧ meth.locks = false ∧ c.maxLocals = d.2.2.1 ∧ s.vm.findClass (pj_own d) = some m.cls) ∧ (∀ w ∈ pj_TB, w.before args s = true) ∧ pj_K g s ∧ meth.name = d.1.name ∧ pj_bs g ≤ s.heap.size ∧ pj_gc d ∧ X s
def pj_H (g : pj_G) (n : Nat) (M : pj_M) (s : State) (H : Heap) (locs : List Loc) : Prop := va_P (pj_D g) vwCl (pj_ws g n M) H ∧ va_S (pj_A g) s.heap H locs ∧ (n < pj_NK → H.size = pj_bs g + n) ∧ n ≤ pj_NK
abbrev pj_Z : Type := State → Array Value → List Frame → State → Prop
def pj_R (l : Launch) (g : pj_G) (d : pj_MD) (X : State → Prop) (Z : pj_Z) (n c0 s0 pc : Nat) (ls : List (Nat × Value)) (st : List Value) (M : pj_M) : Prop :=
  ∀ (p : Program) (e : Env) (s : State) (m : MethodId) (args : Array Value) (below : List Frame) (meth : Method) (c : Code) (H : Heap) (locs : List Loc) (la : Array Slot),
    pj_C g d X p s m args meth c → pj_H g n M s H locs → lv_has la d.2.2.1 (ls.map (pj_p g)) →
    W p l e (pj_rm d) s m args below meth c H locs c0 s0 (Z s args below) (F0 m pc la (st.map (pj_v g)))
section PJR
variable {l : Launch} {g : pj_G} {d : pj_MD} {X : State → Prop} {Z : pj_Z} {n c0 s0 pc : Nat} {ls : List (Nat × Value)} {st : List Value} {M : pj_M}
theorem pj_lat {la : Array Slot} {nL j i : Nat} {v : Value} (hL : lv_has la nL (ls.map (pj_p g))) (hj : ls[j]? = some (i, v)) : la[i]? = some (.val (pj_v g v)) :=
  hL.2.2 (i, pj_v g v) (List.mem_map.mpr ⟨(i, v), List.mem_of_getElem? hj, rfl⟩)
theorem pj_iload_n (pc' j : Nat) {k : Fin 4} {i : Nat} {x : Int32} (hd : (pj_cd d).lookup pc = some (.iload_n k, 1)) (hi : (k : Nat) = i) (hj : ls[j]? = some (i, .int x)) (hp : pc + 1 = pc') (kk : pj_R l g d X Z n c0 s0 pc' ls (.int x :: st) M) : pj_R l g d X Z n c0 s0 pc ls st M := by
  intro p e s m args below meth c H locs la C hH hL
  subst hp
  exact lv_iload_n C.1.1 C.1.2.1 (C.2.2.2.2.2.1 _ _ _ hd) hi (pj_lat hL hj) (kk p e s m args below meth c H locs la C hH hL)
theorem pj_iload (pc' j : Nat) {i : Nat} {x : Int32} (hd : (pj_cd d).lookup pc = some (.iload i, 2)) (hj : ls[j]? = some (i, .int x)) (hp : pc + 2 = pc') (kk : pj_R l g d X Z n c0 s0 pc' ls (.int x :: st) M) : pj_R l g d X Z n c0 s0 pc ls st M := by
  intro p e s m args below meth c H locs la C hH hL
  subst hp
  exact lv_iload C.1.1 C.1.2.1 (C.2.2.2.2.2.1 _ _ _ hd) (pj_lat hL hj) (kk p e s m args below meth c H locs la C hH hL)
theorem pj_lload_n (pc' j : Nat) {k : Fin 4} {i : Nat} {x : Int64} (hd : (pj_cd d).lookup pc = some (.lload_n k, 1)) (hi : (k : Nat) = i) (hj : ls[j]? = some (i, .long x)) (hp : pc + 1 = pc') (kk : pj_R l g d X Z n c0 s0 pc' ls (.long x :: st) M) : pj_R l g d X Z n c0 s0 pc ls st M := by
  intro p e s m args below meth c H locs la C hH hL
  subst hp
  exact lv_lload_n C.1.1 C.1.2.1 (C.2.2.2.2.2.1 _ _ _ hd) hi (pj_lat hL hj) (kk p e s m args below meth c H locs la C hH hL)
theorem pj_lload (pc' j : Nat) {i : Nat} {x : Int64} (hd : (pj_cd d).lookup pc = some (.lload i, 2)) (hj : ls[j]? = some (i, .long x)) (hp : pc + 2 = pc') (kk : pj_R l g d X Z n c0 s0 pc' ls (.long x :: st) M) : pj_R l g d X Z n c0 s0 pc ls st M := by
  intro p e s m args below meth c H locs la C hH hL
  subst hp
  exact lv_lload C.1.1 C.1.2.1 (C.2.2.2.2.2.1 _ _ _ hd) (pj_lat hL hj) (kk p e s m args below meth c H locs la C hH hL)
theorem pj_aload_n (pc' j : Nat) {k : Fin 4} {i : Nat} {x : Nat} (hd : (pj_cd d).lookup pc = some (.aload_n k, 1)) (hi : (k : Nat) = i) (hj : ls[j]? = some (i, .ref x)) (hp : pc + 1 = pc') (kk : pj_R l g d X Z n c0 s0 pc' ls (.ref x :: st) M) : pj_R l g d X Z n c0 s0 pc ls st M := by
  intro p e s m args below meth c H locs la C hH hL
  subst hp
  exact lv_aload_n C.1.1 C.1.2.1 (C.2.2.2.2.2.1 _ _ _ hd) hi (pj_lat hL hj) (kk p e s m args below meth c H locs la C hH hL)
theorem pj_aload (pc' j : Nat) {i : Nat} {x : Nat} (hd : (pj_cd d).lookup pc = some (.aload i, 2)) (hj : ls[j]? = some (i, .ref x)) (hp : pc + 2 = pc') (kk : pj_R l g d X Z n c0 s0 pc' ls (.ref x :: st) M) : pj_R l g d X Z n c0 s0 pc ls st M := by
  intro p e s m args below meth c H locs la C hH hL
  subst hp
  exact lv_aload C.1.1 C.1.2.1 (C.2.2.2.2.2.1 _ _ _ hd) (pj_lat hL hj) (kk p e s m args below meth c H locs la C hH hL)
def pj_ins (q : Nat × Value) : List (Nat × Value) → List (Nat × Value)
  | [] => [q]
  | r :: t => if q.1 < r.1 then q :: r :: t else r :: pj_ins q t
theorem pj_ins_mem {q r : Nat × Value} : ∀ {L : List (Nat × Value)}, r ∈ pj_ins q L → r = q ∨ r ∈ L
  | [], h => Or.inl (List.mem_singleton.mp h)
  | a :: t, h => by
    unfold pj_ins at h
    split at h
    · rcases List.mem_cons.mp h with h | h
      · exact Or.inl h
      · exact Or.inr h
    · rcases List.mem_cons.mp h with h | h
      · exact Or.inr (List.mem_cons.mpr (Or.inl h))
      · rcases pj_ins_mem h with h | h
        · exact Or.inl h
        · exact Or.inr (List.mem_cons.mpr (Or.inr h))
/-- locals with one more, or another one, at a place -/
def pj_st1 (i : Nat) (v : Value) (L : List (Nat × Value)) : List (Nat × Value) := pj_ins (i, v) (L.filter (fun q => !(q.1 == i) && !(q.1 + 1 == i && q.2.category == 2)))
def pj_st2 (i : Nat) (v : Value) (L : List (Nat × Value)) : List (Nat × Value) := pj_ins (i, v) (L.filter (fun q => !(q.1 == i) && (!(q.1 == i + 1) && !(q.1 + 1 == i && q.2.category == 2))))
theorem pj_st1_ok {la : Array Slot} {nL i : Nat} {v : Value} (h : lv_has la nL ((i, pj_v g v) :: (ls.map (pj_p g)).filter (fun q => !(q.1 == i) && !(q.1 + 1 == i && q.2.category == 2)))) : lv_has la nL ((pj_st1 i v ls).map (pj_p g)) := by
  refine ⟨h.1, h.2.1, fun q hq => ?_⟩
  obtain ⟨r, hr, rfl⟩ := List.mem_map.mp hq
  rcases pj_ins_mem hr with rfl | hr
  · exact h.2.2 _ List.mem_cons_self
  · obtain ⟨h1, h2⟩ := List.mem_filter.mp hr
    exact h.2.2 _ (List.mem_cons_of_mem _ (List.mem_filter.mpr ⟨List.mem_map.mpr ⟨r, h1, rfl⟩, by simpa [pj_p, pj_v_cat] using h2⟩))
theorem pj_st2_ok {la : Array Slot} {nL i : Nat} {v : Value} (h : lv_has la nL ((i, pj_v g v) :: (ls.map (pj_p g)).filter (fun q => !(q.1 == i) && (!(q.1 == i + 1) && !(q.1 + 1 == i && q.2.category == 2))))) : lv_has la nL ((pj_st2 i v ls).map (pj_p g)) := by
  refine ⟨h.1, h.2.1, fun q hq => ?_⟩
  obtain ⟨r, hr, rfl⟩ := List.mem_map.mp hq
  rcases pj_ins_mem hr with rfl | hr
  · exact h.2.2 _ List.mem_cons_self
  · obtain ⟨h1, h2⟩ := List.mem_filter.mp hr
    exact h.2.2 _ (List.mem_cons_of_mem _ (List.mem_filter.mpr ⟨List.mem_map.mpr ⟨r, h1, rfl⟩, by simpa [pj_p, pj_v_cat] using h2⟩))
theorem pj_istore_n (pc' : Nat) {k : Fin 4} {i : Nat} {x : Int32} {ls' : List (Nat × Value)} (hd : (pj_cd d).lookup pc = some (.istore_n k, 1)) (hi : (k : Nat) = i) (hn : i < d.2.2.1) (hl : pj_st1 i (.int x) ls = ls') (hp : pc + 1 = pc') (kk : pj_R l g d X Z n c0 s0 pc' ls' st M) : pj_R l g d X Z n c0 s0 pc ls (.int x :: st) M := by
  intro p e s m args below meth c H locs la C hH hL
  subst hp; subst hl
  exact lv_istore_n C.1.1 C.1.2.1 (C.2.2.2.2.2.1 _ _ _ hd) hi hL hn rfl (fun la' h => kk p e s m args below meth c H locs la' C hH (pj_st1_ok h))
end PJR
