/-! THE CLAIM OUT OF ONE WALK OF THE LAW'S BODY. Your part is whole_start (and what it stands on); all else here is the same for every law, but numbers. -/
def R_law : String := "PiecesThatFitLaw"
def lw_P (b : Addr) (xs : List Int32) (args : Array Value) (s : State) : Prop := args = #[.ref b] ∧ s.IntsAt b xs ∧ xs.length ≤ 2560 ∧ (Jvm.Cond.and given_1 narrow_1).before args s = true
def lw_Q (_ : Array Value) (s : State) (o : Outcome) (t : State) : Prop := o = .returned (some (.int 1)) ∧ Framed s o t [] 601024 7293034
def lw_Z (below : List Frame) (a : Array Value) (s : State) : State → Prop := fun t => ∃ o, t.status = .running ∧ Ended t below o ∧ lw_Q a s o t
/-- the law's own end, with 1 on the stack, nothing written that was there before, its room as the claim has it -/
theorem lw_ret {p : Program} {l : Launch} {e : Env} {s : State} {m : MethodId} {below : List Frame} {meth : Method} {c : Code} {b : Nat} (hx : p.tables.exec = Jvm.exec) (hb : c.code = code) (hr : meth.sig.returnType = ret) (hlocks : meth.locks = false) {pc : Nat} {H : Heap} {ls : Array Slot} (hdg : decode code pc = .ok (.ireturn, 1)) : W p l e room_1 s m #[Value.ref b] below meth c H [] 601024 7293034 (lw_Z below #[Value.ref b] s) (F0 m pc ls [.int 1]) := by
  intro T hT X
  obtain ⟨fs, hret, hrun, hended, hW, hframe⟩ := X.leave (v := some (.int 1)) (hlocks := hlocks) (fun h => by rw [hr] at h; cases h)
  have hmeth' : T.vm.method? m = some meth := X.method'
  refine ⟨T.setFrames fs, ?_, .returned (some (.int 1)), hrun, hended, rfl, ⟨_, rfl⟩, hW, hframe⟩
  jvm_step X.here [X.here.top, hx, hb, hdg, hmeth', hr, ret, narrow_b1]
  (try refine ⟨rfl, ?_⟩); (try refine ⟨rfl, ?_⟩)
  first | (intro acts; rw [hret _ acts rfl rfl rfl]) | rw [hret _ _ rfl rfl rfl]
  exact Steps.refl _
/-- what holds at the law's entry: the machine, the code, the tables' words (any of lw_tbl by 'hts w (by decide +kernel)'), the script of L ints xs at the cell b, what the Statement gives of the start (any of its parts by flat_of_before) -/
def lw_At (p : Program) (s : State) (m : MethodId) (meth : Method) (c : Code) (b L : Nat) (xs : Nat → Int32) : Prop :=
  p.tables.exec = Jvm.exec ∧ c.code = code ∧ meth.sig.returnType = ret ∧ c.maxLocals = 8 ∧ s.vm.findClass R_law = some m.cls ∧ (∀ w ∈ lw_tbl, w.before #[Value.ref b] s = true) ∧ va_X b L xs s s.heap ∧ b < s.heap.size ∧ meth.locks = false ∧ (Jvm.Cond.and given_1 narrow_1).before #[Value.ref b] s = true
def px_x (xs : Nat → Int32) (i : Int) : Int := (xs i.toNat).toInt
theorem px_x_in {xs : Nat → Int32} {i : Int} : pj_in (px_x xs i) := ⟨Int32.le_toInt _, by have := Int32.toInt_lt (xs i.toNat); unfold px_x; omega⟩
/-- what the law rests on, besides the tables: the throws, the script -/
def px_XL (t : Nat × Nat × Nat) (g : pj_G) (L : Nat) (xs : Nat → Int32) (s : State) : Prop := px_Y t g s ∧ va_X g.1 L xs s s.heap ∧ g.1 < s.heap.size ∧ s.heap.size ≤ pj_bs g ∧ g.1 < pj_bs g
def px_ZL : pj_Z := fun s args below => lw_Z below args s
theorem px_len (L : Nat) : Int32.ofNat L = pj_I (L : Int) := by
  unfold pj_I
  first | exact (Int32.ofInt_natCast L).symm | rfl | simp
section PXL
variable {l : Launch} {g : pj_G} {d : pj_MD} {Z : pj_Z} {n c0 s0 pc L : Nat} {ls : List (Nat × Value)} {st : List Value} {M : pj_M} {t : Nat × Nat × Nat} {xs : Nat → Int32}
theorem px_sv (g : pj_G) : pj_v g (.ref 1000000) = .ref g.1 := rfl
theorem px_sld (pc' : Nat) {i : Int} (hd : (pj_cd d).lookup pc = some (.iaload, 1)) (hp : pc + 1 = pc') (hL : L < 2147483648) (h0 : 0 ≤ i) (h1 : i < L) (kk : pj_R l g d (px_XL t g L xs) Z n c0 s0 pc' ls (.int (pj_I (px_x xs i)) :: st) M) : pj_R l g d (px_XL t g L xs) Z n c0 s0 pc ls (.int (pj_I i) :: .ref 1000000 :: st) M := by
  intro p e s m args below meth c H locs la C hH hL1
  subst hp
  obtain ⟨x1, x2, x3, x4, x5⟩ := C.2.2.2.2.2.2
  obtain ⟨hi1, hi2⟩ := pj_idx h0 h1 hL
  have k := kk p e s m args below meth c H locs la C hH hL1
  refine va_sld C.1.1 C.1.2.1 x2 x3 (A := pj_A g) (Nat.not_le.mpr x5) hH.2.1 hi1 (C.2.2.2.2.2.1 _ _ _ hd) ?_
  rw [hi2]
  have e1 : pj_I (px_x xs i) = xs i.toNat := pj_of _
  rw [List.map_cons, show pj_v g (.int (pj_I (px_x xs i))) = .int (pj_I (px_x xs i)) from rfl, e1] at k
  exact k
theorem px_slen (pc' : Nat) (hd : (pj_cd d).lookup pc = some (.arraylength, 1)) (hp : pc + 1 = pc') (kk : pj_R l g d (px_XL t g L xs) Z n c0 s0 pc' ls (.int (pj_I (L : Int)) :: st) M) : pj_R l g d (px_XL t g L xs) Z n c0 s0 pc ls (.ref 1000000 :: st) M := by
  intro p e s m args below meth c H locs la C hH hL1
  subst hp
  obtain ⟨x1, x2, x3, x4, x5⟩ := C.2.2.2.2.2.2
  have k := kk p e s m args below meth c H locs la C hH hL1
  refine va_slen C.1.1 C.1.2.1 x2 x3 (A := pj_A g) (Nat.not_le.mpr x5) hH.2.1 (C.2.2.2.2.2.1 _ _ _ hd) ?_
  rw [px_len]
  exact k
theorem px_same {X : State → Prop} (pt : Nat) {x : Int32} {off : Int} (hd : (pj_cd d).lookup pc = some (.if_icmp .eq off, 3)) (ht : (pc : Int) + off = (pt : Int)) (kt : pj_R l g d X Z n c0 s0 pt ls st M) : pj_R l g d X Z n c0 s0 pc ls (.int x :: .int x :: st) M := by
  intro p e s m args below meth c H locs la C hH hL
  exact lv_icmp_eq C.1.1 C.1.2.1 (C.2.2.2.2.2.1 _ _ _ hd) ht (fun _ => kt p e s m args below meth c H locs la C hH hL) (fun h => absurd rfl h)
theorem px_lsame {X : State → Prop} (pc' : Nat) {x : Int64} (hd : (pj_cd d).lookup pc = some (.lcmp, 1)) (hp : pc + 1 = pc') (kk : pj_R l g d X Z n c0 s0 pc' ls (.int (pj_I 0) :: st) M) : pj_R l g d X Z n c0 s0 pc ls (.long x :: .long x :: st) M := by
  intro p e s m args below meth c H locs la C hH hL
  subst hp
  refine W.lcmp C.1.1 C.1.2.1 (C.2.2.2.2.2.1 _ _ _ hd) ?_
  have h := kk p e s m args below meth c H locs la C hH hL
  have e1 : lg_cmp x x = pj_I 0 := by
    unfold lg_cmp
    simp
    rfl
  rw [e1]
  exact h
theorem px_ret (hd : (pj_cd mdL_law).lookup pc = some (.ireturn, 1)) (hc : c0 ≤ 601024 ∧ s0 ≤ 7293034) : pj_R l g mdL_law (px_XL t g L xs) px_ZL n c0 s0 pc ls [.int (pj_I 1)] M := by
  intro p e s m args below meth c H locs la C hH hL1
  obtain ⟨x1, x2, x3, x4, x5⟩ := C.2.2.2.2.2.2
  refine va_forget (fun q hq => Nat.le_trans x4 (hH.2.1.2.2 q hq)) ?_
  refine W.widen (k := 601024) (n := 7293034) hc.1 hc.2 ?_
  intro T hT X
  have hlocks : meth.locks = false := C.1.2.2.2.1
  have hr : meth.sig.returnType = ret := C.1.2.2.1
  have hb : c.code = code := C.1.2.1
  have hx := C.1.1
  have hdg : decode code pc = .ok (.ireturn, 1) := C.2.2.2.2.2.1 _ _ _ hd
  obtain ⟨fs, hret, hrun, hended, hW, hframe⟩ := X.leave (v := some (.int 1)) (hlocks := hlocks) (fun h => by rw [hr] at h; cases h)
  have hmeth' : T.vm.method? m = some meth := X.method'
  refine ⟨T.setFrames fs, ?_, .returned (some (.int 1)), hrun, hended, rfl, ⟨_, rfl⟩, hW, hframe⟩
  show Steps p.tables e below (T.setTop (F0 m pc la [.int 1])) _
  jvm_step X.here [X.here.top, hx, hb, hdg, hmeth', hr, ret, narrow_b1]
  (try refine ⟨rfl, ?_⟩); (try refine ⟨rfl, ?_⟩)
  first | (intro acts; rw [hret _ acts rfl rfl rfl]) | rw [hret _ _ rfl rfl rfl]
  exact Steps.refl _
theorem px_call {X : State → Prop} (pc' ci : Nat) (As st : List Value) {idx k b : Nat} {d' : pj_MD} {stk : List Value} {Q : Int → pj_M → Prop} (o : pj_ob b ci) (hS : pj_S l g d' (.ref b :: As) pj_NK M (pj_qi Q)) (hw : pj_LV (pj_own d) idx d' ci k) (hd : (pj_cd d).lookup pc = some (.invokevirtual idx, 3)) (hp : pc + 3 = pc') (hstk : stk = As.reverse ++ .ref b :: st) (hk : As.length = k) (hcat : (st.map fun v => v.category).sum ≤ 8)
    (hrm : (pj_rm d').frames + 1 ≤ (pj_rm d).frames ∧ 8 + (d'.2.2.1 + 11) + (pj_rm d').locals ≤ (pj_rm d).locals) (hz : (pj_rm d').cells = 0 ∧ (pj_rm d').slots = 0) (hc : c0 ≤ (pj_rm d).cells ∧ s0 ≤ (pj_rm d).slots)
    (kk : ∀ r M', Q r M' → pj_R l g d X Z pj_NK c0 s0 pc' ls (.int (pj_I r) :: st) M') : pj_R l g d X Z pj_NK c0 s0 pc ls stk M := by
  refine pj_callV pc' ci hd hw hp hstk hk hcat ⟨hrm, by rw [hz.1]; exact hc.1, by rw [hz.2]; exact hc.2⟩ o.1 o.2 (by decide) hS ?_
  intro v n' M' hq
  obtain ⟨rfl, r, rfl, hq⟩ := hq
  rw [hz.1, hz.2]
  exact kk r M' hq
theorem px_callJ {X : State → Prop} (pc' ci : Nat) (As st : List Value) {idx k b : Nat} {d' : pj_MD} {stk : List Value} {Q : Int → pj_M → Prop} (o : pj_ob b ci) (hS : pj_S l g d' (.ref b :: As) pj_NK M (pj_ql Q)) (hw : pj_LV (pj_own d) idx d' ci k) (hd : (pj_cd d).lookup pc = some (.invokevirtual idx, 3)) (hp : pc + 3 = pc') (hstk : stk = As.reverse ++ .ref b :: st) (hk : As.length = k) (hcat : (st.map fun v => v.category).sum ≤ 8)
    (hrm : (pj_rm d').frames + 1 ≤ (pj_rm d).frames ∧ 8 + (d'.2.2.1 + 11) + (pj_rm d').locals ≤ (pj_rm d).locals) (hz : (pj_rm d').cells = 0 ∧ (pj_rm d').slots = 0) (hc : c0 ≤ (pj_rm d).cells ∧ s0 ≤ (pj_rm d).slots)
    (kk : ∀ r M', Q r M' → pj_R l g d X Z pj_NK c0 s0 pc' ls (.long (pj_L r) :: st) M') : pj_R l g d X Z pj_NK c0 s0 pc ls stk M := by
  refine pj_callV pc' ci hd hw hp hstk hk hcat ⟨hrm, by rw [hz.1]; exact hc.1, by rw [hz.2]; exact hc.2⟩ o.1 o.2 (by decide) hS ?_
  intro v n' M' hq
  obtain ⟨rfl, r, rfl, hq⟩ := hq
  rw [hz.1, hz.2]
  exact kk r M' hq
/-- the law's locals -/
abbrev px_LS (i : Int) : List (Nat × Value) := [(0, .ref 1000000), (1, .ref 0), (2, .ref 203), (3, .ref 228), (4, .int (pj_I i))]
/-- one argument out of the script -/
theorem px_arg (pc' : Nat) (a : Int) {i : Int} {ex : List (Nat × Value)} (hL : L < 2147483648) (h0 : 0 ≤ i + a) (h1 : i + a < L) (d0 : (pj_cd mdL_law).lookup pc = some (.aload_n 0, 1)) (d1 : (pj_cd mdL_law).lookup (pc + 1) = some (.iload 4, 2)) (d3 : (pj_cd mdL_law).lookup (pc + 3) = some (.iconst a, 1)) (d4 : (pj_cd mdL_law).lookup (pc + 4) = some (.iadd, 1)) (d5 : (pj_cd mdL_law).lookup (pc + 5) = some (.iaload, 1)) (hp : pc + 6 = pc')
    (kk : pj_R l g mdL_law (px_XL t g L xs) Z n c0 s0 pc' (px_LS i ++ ex) (.int (pj_I (px_x xs (i + a))) :: st) M) : pj_R l g mdL_law (px_XL t g L xs) Z n c0 s0 pc (px_LS i ++ ex) st M := by
  refine pj_aload_n (pc + 1) 0 d0 rfl rfl rfl ?_
  refine pj_iload (pc + 3) 4 d1 rfl rfl ?_
  refine pj_iconst (pc + 4) d3 rfl ?_
  refine pj_iadd (pc + 5) d4 rfl ?_
  exact px_sld pc' d5 hp hL h0 h1 kk
theorem px_o203 : pj_ob 203 12 := ⟨rfl, by decide⟩
theorem px_up {M : pj_M} {v : Int} {a : Nat} (h : a ≠ 228) : pj_up M 228 0 v a = M a := by
  funext x
  simp [pj_up, h]
theorem px_inv_up {M : pj_M} {v : Int} (h : INV M) : INV (pj_up M 228 0 v) := by
  obtain ⟨h1, h2, ⟨h3, h3a, h3b⟩, h4, h5, l, h6, h7⟩ := h
  have u : ∀ a, a ≠ 228 → pj_up M 228 0 v a = M a := fun a h => px_up h
  refine ⟨?_, h2.eq (fun a a1 a2 => u a (by omega)), ⟨by rw [u 203 (by decide), u 1 (by decide)]; exact h3, by rw [u 205 (by decide)]; exact h3a, by rw [u 1 (by decide), u 2 (by decide), u 205 (by decide)]; exact h3b⟩, by rw [u 203 (by decide), u 31 (by decide)]; exact h4, by rw [u 223 (by decide), u 114 (by decide)]; exact h5, l, ?_, ?_⟩
  · rw [u 204 (by decide), u 225 (by decide), u 222 (by decide)]
    exact h1.lo (fun a ha => u a (by omega))
  · unfold rws at *
    rw [u 0 (by decide), u 186 (by decide)]
    exact h6
  · unfold rwsm at *
    rw [u 203 (by decide), u 206 (by decide)]
    exact h7
end PXL
