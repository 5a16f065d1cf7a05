section PJS
variable {l : Launch} {g : pj_G} {d : pj_MD} {X : State → Prop} {Z : pj_Z} {n c0 s0 pc : Nat} {ls : List (Nat × Value)} {st : List Value} {M : pj_M}
theorem pj_istore (pc' : Nat) {i : Nat} {x : Int32} {ls' : List (Nat × Value)} (hd : (pj_cd d).lookup pc = some (.istore i, 2)) (hn : i < d.2.2.1) (hl : pj_st1 i (.int x) ls = ls') (hp : pc + 2 = pc') (kk : pj_R l g d X Z n c0 s0 pc' ls' st M) : pj_R l g d X Z n c0 s0 pc ls (.int x :: st) M := by
  intro p e s m args below meth c H locs la C hH hL
  subst hp; subst hl
  exact lv_istore C.1.1 C.1.2.1 (C.2.2.2.2.2.1 _ _ _ hd) hL hn rfl (fun la' h => kk p e s m args below meth c H locs la' C hH (pj_st1_ok h))
theorem pj_astore_n (pc' : Nat) {k : Fin 4} {i : Nat} {x : Nat} {ls' : List (Nat × Value)} (hd : (pj_cd d).lookup pc = some (.astore_n k, 1)) (hi : (k : Nat) = i) (hn : i < d.2.2.1) (hl : pj_st1 i (.ref x) ls = ls') (hp : pc + 1 = pc') (kk : pj_R l g d X Z n c0 s0 pc' ls' st M) : pj_R l g d X Z n c0 s0 pc ls (.ref x :: st) M := by
  intro p e s m args below meth c H locs la C hH hL
  subst hp; subst hl
  exact lv_astore_n C.1.1 C.1.2.1 (C.2.2.2.2.2.1 _ _ _ hd) hi hL hn rfl (fun la' h => kk p e s m args below meth c H locs la' C hH (pj_st1_ok h))
theorem pj_astore (pc' : Nat) {i : Nat} {x : Nat} {ls' : List (Nat × Value)} (hd : (pj_cd d).lookup pc = some (.astore i, 2)) (hn : i < d.2.2.1) (hl : pj_st1 i (.ref x) ls = ls') (hp : pc + 2 = pc') (kk : pj_R l g d X Z n c0 s0 pc' ls' st M) : pj_R l g d X Z n c0 s0 pc ls (.ref x :: st) M := by
  intro p e s m args below meth c H locs la C hH hL
  subst hp; subst hl
  exact lv_astore C.1.1 C.1.2.1 (C.2.2.2.2.2.1 _ _ _ hd) hL hn rfl (fun la' h => kk p e s m args below meth c H locs la' C hH (pj_st1_ok h))
theorem pj_lstore_n (pc' : Nat) {k : Fin 4} {i : Nat} {x : Int64} {ls' : List (Nat × Value)} (hd : (pj_cd d).lookup pc = some (.lstore_n k, 1)) (hi : (k : Nat) = i) (hn : i + 1 < d.2.2.1) (hl : pj_st2 i (.long x) ls = ls') (hp : pc + 1 = pc') (kk : pj_R l g d X Z n c0 s0 pc' ls' st M) : pj_R l g d X Z n c0 s0 pc ls (.long x :: st) M := by
  intro p e s m args below meth c H locs la C hH hL
  subst hp; subst hl
  exact lv_lstore_n C.1.1 C.1.2.1 (C.2.2.2.2.2.1 _ _ _ hd) hi hL hn rfl (fun la' h => kk p e s m args below meth c H locs la' C hH (pj_st2_ok h))
theorem pj_lstore (pc' : Nat) {i : Nat} {x : Int64} {ls' : List (Nat × Value)} (hd : (pj_cd d).lookup pc = some (.lstore i, 2)) (hn : i + 1 < d.2.2.1) (hl : pj_st2 i (.long x) ls = ls') (hp : pc + 2 = pc') (kk : pj_R l g d X Z n c0 s0 pc' ls' st M) : pj_R l g d X Z n c0 s0 pc ls (.long x :: st) M := by
  intro p e s m args below meth c H locs la C hH hL
  subst hp; subst hl
  exact lv_lstore C.1.1 C.1.2.1 (C.2.2.2.2.2.1 _ _ _ hd) hL hn rfl (fun la' h => kk p e s m args below meth c H locs la' C hH (pj_st2_ok h))
theorem pj_iinc (pc' j : Nat) {i : Nat} {k : Int} {x : Int} {ls' : List (Nat × Value)} (hd : (pj_cd d).lookup pc = some (.iinc i k, 3)) (hj : ls[j]? = some (i, .int (pj_I x))) (hn : i < d.2.2.1) (hl : pj_st1 i (.int (pj_I (x + k))) ls = ls') (hp : pc + 3 = pc') (kk : pj_R l g d X Z n c0 s0 pc' ls' st M) : pj_R l g d X Z n c0 s0 pc ls st M := by
  intro p e s m args below meth c H locs la C hH hL
  subst hp; subst hl
  exact lv_iinc (k := j) (v := pj_I (x + k)) C.1.1 C.1.2.1 (C.2.2.2.2.2.1 _ _ _ hd) hL (by rw [List.getElem?_map, hj]; rfl) (pj_add x k) hn rfl (fun la' h => kk p e s m args below meth c H locs la' C hH (pj_st1_ok h))
theorem pj_iconst (pc' : Nat) {k : Int} (hd : (pj_cd d).lookup pc = some (.iconst k, 1)) (hp : pc + 1 = pc') (kk : pj_R l g d X Z n c0 s0 pc' ls (.int (pj_I k) :: st) M) : pj_R l g d X Z n c0 s0 pc ls st M := by
  intro p e s m args below meth c H locs la C hH hL
  subst hp
  exact lv_iconst C.1.1 C.1.2.1 (C.2.2.2.2.2.1 _ _ _ hd) rfl (kk p e s m args below meth c H locs la C hH hL)
theorem pj_bipush (pc' : Nat) {k : Int} (hd : (pj_cd d).lookup pc = some (.bipush k, 2)) (hv : (Int8.ofInt k).toInt32 = pj_I k) (hp : pc + 2 = pc') (kk : pj_R l g d X Z n c0 s0 pc' ls (.int (pj_I k) :: st) M) : pj_R l g d X Z n c0 s0 pc ls st M := by
  intro p e s m args below meth c H locs la C hH hL
  subst hp
  exact lv_bipush C.1.1 C.1.2.1 (C.2.2.2.2.2.1 _ _ _ hd) hv (kk p e s m args below meth c H locs la C hH hL)
theorem pj_sipush (pc' : Nat) {k : Int} (hd : (pj_cd d).lookup pc = some (.sipush k, 3)) (hv : (Int16.ofInt k).toInt32 = pj_I k) (hp : pc + 3 = pc') (kk : pj_R l g d X Z n c0 s0 pc' ls (.int (pj_I k) :: st) M) : pj_R l g d X Z n c0 s0 pc ls st M := by
  intro p e s m args below meth c H locs la C hH hL
  subst hp
  exact lv_sipush C.1.1 C.1.2.1 (C.2.2.2.2.2.1 _ _ _ hd) hv (kk p e s m args below meth c H locs la C hH hL)
theorem pj_ldc (pc' : Nat) (k : Int) {i : Nat} (hd : (pj_cd d).lookup pc = some (.ldc i, 2)) (hc : Cond.constant (pj_own d) i (pj_I k) ∈ pj_TB) (hp : pc + 2 = pc') (kk : pj_R l g d X Z n c0 s0 pc' ls (.int (pj_I k) :: st) M) : pj_R l g d X Z n c0 s0 pc ls st M := by
  intro p e s m args below meth c H locs la C hH hL
  subst hp
  exact lv_ldc C.1.1 C.1.2.1 C.1.2.2.2.2.2 (C.2.1 _ hc) (C.2.2.2.2.2.1 _ _ _ hd) (kk p e s m args below meth c H locs la C hH hL)
theorem pj_ldc_w (pc' : Nat) (k : Int) {i : Nat} (hd : (pj_cd d).lookup pc = some (.ldc_w i, 3)) (hc : Cond.constant (pj_own d) i (pj_I k) ∈ pj_TB) (hp : pc + 3 = pc') (kk : pj_R l g d X Z n c0 s0 pc' ls (.int (pj_I k) :: st) M) : pj_R l g d X Z n c0 s0 pc ls st M := by
  intro p e s m args below meth c H locs la C hH hL
  subst hp
  exact lv_ldcw C.1.1 C.1.2.1 C.1.2.2.2.2.2 (C.2.1 _ hc) (C.2.2.2.2.2.1 _ _ _ hd) (kk p e s m args below meth c H locs la C hH hL)
theorem pj_lconst (pc' : Nat) (x : Int) {k : Fin 2} (hd : (pj_cd d).lookup pc = some (.lconst k, 1)) (hx : Int64.ofNat (k : Nat) = pj_L x) (hp : pc + 1 = pc') (kk : pj_R l g d X Z n c0 s0 pc' ls (.long (pj_L x) :: st) M) : pj_R l g d X Z n c0 s0 pc ls st M := by
  intro p e s m args below meth c H locs la C hH hL
  subst hp
  exact lv_lconst C.1.1 C.1.2.1 (C.2.2.2.2.2.1 _ _ _ hd) hx (kk p e s m args below meth c H locs la C hH hL)
theorem pj_iadd (pc' : Nat) {x y : Int} (hd : (pj_cd d).lookup pc = some (.iadd, 1)) (hp : pc + 1 = pc') (kk : pj_R l g d X Z n c0 s0 pc' ls (.int (pj_I (x + y)) :: st) M) : pj_R l g d X Z n c0 s0 pc ls (.int (pj_I y) :: .int (pj_I x) :: st) M := by
  intro p e s m args below meth c H locs la C hH hL
  subst hp
  refine lv_iadd C.1.1 C.1.2.1 (C.2.2.2.2.2.1 _ _ _ hd) ?_
  rw [pj_add]
  exact kk p e s m args below meth c H locs la C hH hL
theorem pj_isub (pc' : Nat) {x y : Int} (hd : (pj_cd d).lookup pc = some (.isub, 1)) (hp : pc + 1 = pc') (kk : pj_R l g d X Z n c0 s0 pc' ls (.int (pj_I (x - y)) :: st) M) : pj_R l g d X Z n c0 s0 pc ls (.int (pj_I y) :: .int (pj_I x) :: st) M := by
  intro p e s m args below meth c H locs la C hH hL
  subst hp
  refine lv_isub C.1.1 C.1.2.1 (C.2.2.2.2.2.1 _ _ _ hd) ?_
  rw [pj_sub]
  exact kk p e s m args below meth c H locs la C hH hL
theorem pj_imul (pc' : Nat) {x y : Int} (hd : (pj_cd d).lookup pc = some (.imul, 1)) (hp : pc + 1 = pc') (kk : pj_R l g d X Z n c0 s0 pc' ls (.int (pj_I (x * y)) :: st) M) : pj_R l g d X Z n c0 s0 pc ls (.int (pj_I y) :: .int (pj_I x) :: st) M := by
  intro p e s m args below meth c H locs la C hH hL
  subst hp
  refine lv_imul C.1.1 C.1.2.1 (C.2.2.2.2.2.1 _ _ _ hd) ?_
  rw [pj_mul]
  exact kk p e s m args below meth c H locs la C hH hL
def pj_and (x y : Int) : Int := (pj_I x &&& pj_I y).toInt
def pj_or (x y : Int) : Int := (pj_I x ||| pj_I y).toInt
def pj_xor (x y : Int) : Int := (pj_I x ^^^ pj_I y).toInt
def pj_shl (x y : Int) : Int := (pj_I x <<< (pj_I y &&& 31)).toInt
def pj_shr (x y : Int) : Int := (pj_I x >>> (pj_I y &&& 31)).toInt
def pj_ushr (x y : Int) : Int := (((pj_I x).toUInt32 >>> ((pj_I y).toUInt32 &&& Int32.toUInt32 31)).toInt32).toInt
def pj_div (x y : Int) : Int := (pj_I x / pj_I y).toInt
def pj_rem (x y : Int) : Int := (pj_I x - pj_I x / pj_I y * pj_I y).toInt
def pj_neg (x : Int) : Int := -x
def pj_i2b (x : Int) : Int := ((pj_I x).toInt8.toInt32).toInt
def pj_i2s (x : Int) : Int := ((pj_I x).toInt16.toInt32).toInt
theorem pj_of (z : Int32) : pj_I z.toInt = z := Int32.ofInt_toInt z
theorem pj_iand (pc' : Nat) {x y : Int} (hd : (pj_cd d).lookup pc = some (.iand, 1)) (hp : pc + 1 = pc') (kk : pj_R l g d X Z n c0 s0 pc' ls (.int (pj_I (pj_and x y)) :: st) M) : pj_R l g d X Z n c0 s0 pc ls (.int (pj_I y) :: .int (pj_I x) :: st) M := by
  intro p e s m args below meth c H locs la C hH hL
  subst hp
  refine lv_iand C.1.1 C.1.2.1 (C.2.2.2.2.2.1 _ _ _ hd) ?_
  have h := kk p e s m args below meth c H locs la C hH hL
  rw [pj_and, pj_of] at h
  exact h
theorem pj_ior (pc' : Nat) {x y : Int} (hd : (pj_cd d).lookup pc = some (.ior, 1)) (hp : pc + 1 = pc') (kk : pj_R l g d X Z n c0 s0 pc' ls (.int (pj_I (pj_or x y)) :: st) M) : pj_R l g d X Z n c0 s0 pc ls (.int (pj_I y) :: .int (pj_I x) :: st) M := by
  intro p e s m args below meth c H locs la C hH hL
  subst hp
  refine lv_ior C.1.1 C.1.2.1 (C.2.2.2.2.2.1 _ _ _ hd) ?_
  have h := kk p e s m args below meth c H locs la C hH hL
  rw [pj_or, pj_of] at h
  exact h
theorem pj_ixor (pc' : Nat) {x y : Int} (hd : (pj_cd d).lookup pc = some (.ixor, 1)) (hp : pc + 1 = pc') (kk : pj_R l g d X Z n c0 s0 pc' ls (.int (pj_I (pj_xor x y)) :: st) M) : pj_R l g d X Z n c0 s0 pc ls (.int (pj_I y) :: .int (pj_I x) :: st) M := by
  intro p e s m args below meth c H locs la C hH hL
  subst hp
  refine lv_ixor C.1.1 C.1.2.1 (C.2.2.2.2.2.1 _ _ _ hd) ?_
  have h := kk p e s m args below meth c H locs la C hH hL
  rw [pj_xor, pj_of] at h
  exact h
theorem pj_ishl (pc' : Nat) {x y : Int} (hd : (pj_cd d).lookup pc = some (.ishl, 1)) (hp : pc + 1 = pc') (kk : pj_R l g d X Z n c0 s0 pc' ls (.int (pj_I (pj_shl x y)) :: st) M) : pj_R l g d X Z n c0 s0 pc ls (.int (pj_I y) :: .int (pj_I x) :: st) M := by
  intro p e s m args below meth c H locs la C hH hL
  subst hp
  refine lv_ishl C.1.1 C.1.2.1 (C.2.2.2.2.2.1 _ _ _ hd) ?_
  have h := kk p e s m args below meth c H locs la C hH hL
  rw [pj_shl, pj_of] at h
  exact h
theorem pj_ishr (pc' : Nat) {x y : Int} (hd : (pj_cd d).lookup pc = some (.ishr, 1)) (hp : pc + 1 = pc') (kk : pj_R l g d X Z n c0 s0 pc' ls (.int (pj_I (pj_shr x y)) :: st) M) : pj_R l g d X Z n c0 s0 pc ls (.int (pj_I y) :: .int (pj_I x) :: st) M := by
  intro p e s m args below meth c H locs la C hH hL
  subst hp
  refine lv_ishr C.1.1 C.1.2.1 (C.2.2.2.2.2.1 _ _ _ hd) ?_
  have h := kk p e s m args below meth c H locs la C hH hL
  rw [pj_shr, pj_of] at h
  exact h
theorem pj_iushr (pc' : Nat) {x y : Int} (hd : (pj_cd d).lookup pc = some (.iushr, 1)) (hp : pc + 1 = pc') (kk : pj_R l g d X Z n c0 s0 pc' ls (.int (pj_I (pj_ushr x y)) :: st) M) : pj_R l g d X Z n c0 s0 pc ls (.int (pj_I y) :: .int (pj_I x) :: st) M := by
  intro p e s m args below meth c H locs la C hH hL
  subst hp
  exact lv_iushr C.1.1 C.1.2.1 (C.2.2.2.2.2.1 _ _ _ hd) (by rw [pj_ushr, pj_of]) (kk p e s m args below meth c H locs la C hH hL)
theorem pj_idiv (pc' : Nat) {x y : Int} (hd : (pj_cd d).lookup pc = some (.idiv, 1)) (hp : pc + 1 = pc') (hy : pj_in y) (hne : ¬ y = 0) (kk : pj_R l g d X Z n c0 s0 pc' ls (.int (pj_I (pj_div x y)) :: st) M) : pj_R l g d X Z n c0 s0 pc ls (.int (pj_I y) :: .int (pj_I x) :: st) M := by
  intro p e s m args below meth c H locs la C hH hL
  subst hp
  refine lv_idiv C.1.1 C.1.2.1 (C.2.2.2.2.2.1 _ _ _ hd) (fun h => hne ((pj_eq hy pj_inz).mp h)) ?_
  have h := kk p e s m args below meth c H locs la C hH hL
  rw [pj_div, pj_of] at h
  exact h
theorem pj_irem (pc' : Nat) {x y : Int} (hd : (pj_cd d).lookup pc = some (.irem, 1)) (hp : pc + 1 = pc') (hy : pj_in y) (hne : ¬ y = 0) (kk : pj_R l g d X Z n c0 s0 pc' ls (.int (pj_I (pj_rem x y)) :: st) M) : pj_R l g d X Z n c0 s0 pc ls (.int (pj_I y) :: .int (pj_I x) :: st) M := by
  intro p e s m args below meth c H locs la C hH hL
  subst hp
  refine lv_irem C.1.1 C.1.2.1 (C.2.2.2.2.2.1 _ _ _ hd) (fun h => hne ((pj_eq hy pj_inz).mp h)) ?_
  have h := kk p e s m args below meth c H locs la C hH hL
  rw [pj_rem, pj_of] at h
  exact h
theorem pj_ineg (pc' : Nat) {x : Int} (hd : (pj_cd d).lookup pc = some (.ineg, 1)) (hp : pc + 1 = pc') (kk : pj_R l g d X Z n c0 s0 pc' ls (.int (pj_I (pj_neg x)) :: st) M) : pj_R l g d X Z n c0 s0 pc ls (.int (pj_I x) :: st) M := by
  intro p e s m args below meth c H locs la C hH hL
  subst hp
  refine lv_ineg C.1.1 C.1.2.1 (C.2.2.2.2.2.1 _ _ _ hd) ?_
  have h := kk p e s m args below meth c H locs la C hH hL
  rw [pj_neg, pj_I, Int32.ofInt_neg] at h
  exact h
theorem pj_i2l_v {x : Int} (h : pj_in x) : (pj_I x).toInt64 = pj_L x := by
  apply Int64.toInt_inj.mp
  rw [Int32.toInt_toInt64, pj_toInt h, pj_L, Int64.toInt_ofInt_of_le (by omega) (by omega)]
theorem pj_i2l (pc' : Nat) {x : Int} (hd : (pj_cd d).lookup pc = some (.i2l, 1)) (hp : pc + 1 = pc') (hx : pj_in x) (kk : pj_R l g d X Z n c0 s0 pc' ls (.long (pj_L x) :: st) M) : pj_R l g d X Z n c0 s0 pc ls (.int (pj_I x) :: st) M := by
  intro p e s m args below meth c H locs la C hH hL
  subst hp
  exact lv_i2l C.1.1 C.1.2.1 (C.2.2.2.2.2.1 _ _ _ hd) (pj_i2l_v hx) (kk p e s m args below meth c H locs la C hH hL)
theorem pj_i2b_r (pc' : Nat) {x : Int} (hd : (pj_cd d).lookup pc = some (.i2b, 1)) (hp : pc + 1 = pc') (kk : pj_R l g d X Z n c0 s0 pc' ls (.int (pj_I (pj_i2b x)) :: st) M) : pj_R l g d X Z n c0 s0 pc ls (.int (pj_I x) :: st) M := by
  intro p e s m args below meth c H locs la C hH hL
  subst hp
  exact lv_i2b C.1.1 C.1.2.1 (C.2.2.2.2.2.1 _ _ _ hd) (by rw [pj_i2b, pj_of]) (kk p e s m args below meth c H locs la C hH hL)
theorem pj_i2s_r (pc' : Nat) {x : Int} (hd : (pj_cd d).lookup pc = some (.i2s, 1)) (hp : pc + 1 = pc') (kk : pj_R l g d X Z n c0 s0 pc' ls (.int (pj_I (pj_i2s x)) :: st) M) : pj_R l g d X Z n c0 s0 pc ls (.int (pj_I x) :: st) M := by
  intro p e s m args below meth c H locs la C hH hL
  subst hp
  exact lv_i2s C.1.1 C.1.2.1 (C.2.2.2.2.2.1 _ _ _ hd) (by rw [pj_i2s, pj_of]) (kk p e s m args below meth c H locs la C hH hL)
abbrev pj_ln (x : Int) : Prop := -9223372036854775808 ≤ x ∧ x ≤ 9223372036854775807
theorem pj_toInt6 {x : Int} (h : pj_ln x) : (pj_L x).toInt = x := Int64.toInt_ofInt_of_le h.1 (by omega)
def pj_lcmp_v (x y : Int) : Int := if y < x then 1 else if x = y then 0 else -1
theorem pj_lcmp (pc' : Nat) {x y : Int} (hd : (pj_cd d).lookup pc = some (.lcmp, 1)) (hp : pc + 1 = pc') (hx : pj_ln x) (hy : pj_ln y) (kk : pj_R l g d X Z n c0 s0 pc' ls (.int (pj_I (pj_lcmp_v x y)) :: st) M) : pj_R l g d X Z n c0 s0 pc ls (.long (pj_L y) :: .long (pj_L x) :: st) M := by
  intro p e s m args below meth c H locs la C hH hL
  subst hp
  refine W.lcmp C.1.1 C.1.2.1 (C.2.2.2.2.2.1 _ _ _ hd) ?_
  have h := kk p e s m args below meth c H locs la C hH hL
  have e1 : lg_cmp (pj_L x) (pj_L y) = pj_I (pj_lcmp_v x y) := by
    have h1 : pj_L y < pj_L x ↔ y < x := by rw [Int64.lt_iff_toInt_lt, pj_toInt6 hx, pj_toInt6 hy]
    have h2 : pj_L x = pj_L y ↔ x = y := by rw [← Int64.toInt_inj, pj_toInt6 hx, pj_toInt6 hy]
    unfold lg_cmp pj_lcmp_v
    simp only [h1, h2]
    split
    · rfl
    · split <;> rfl
  rw [e1]
  exact h
theorem pj_dup (pc' : Nat) {v : Value} (hd : (pj_cd d).lookup pc = some (.dup, 1)) (hv : v.category = 1) (hp : pc + 1 = pc') (kk : pj_R l g d X Z n c0 s0 pc' ls (v :: v :: st) M) : pj_R l g d X Z n c0 s0 pc ls (v :: st) M := by
  intro p e s m args below meth c H locs la C hH hL
  subst hp
  exact lv_dup C.1.1 C.1.2.1 (C.2.2.2.2.2.1 _ _ _ hd) (by rw [pj_v_cat]; exact hv) (kk p e s m args below meth c H locs la C hH hL)
theorem pj_pop (pc' : Nat) {v : Value} (hd : (pj_cd d).lookup pc = some (.pop, 1)) (hv : v.category = 1) (hp : pc + 1 = pc') (kk : pj_R l g d X Z n c0 s0 pc' ls st M) : pj_R l g d X Z n c0 s0 pc ls (v :: st) M := by
  intro p e s m args below meth c H locs la C hH hL
  subst hp
  exact lv_pop C.1.1 C.1.2.1 (C.2.2.2.2.2.1 _ _ _ hd) (by rw [pj_v_cat]; exact hv) (kk p e s m args below meth c H locs la C hH hL)
theorem pj_dup_x1 (pc' : Nat) {v w : Value} (hd : (pj_cd d).lookup pc = some (.dup_x1, 1)) (hv : v.category = 1) (hw : w.category = 1) (hp : pc + 1 = pc') (kk : pj_R l g d X Z n c0 s0 pc' ls (v :: w :: v :: st) M) : pj_R l g d X Z n c0 s0 pc ls (v :: w :: st) M := by
  intro p e s m args below meth c H locs la C hH hL
  subst hp
  exact lv_dup_x1 C.1.1 C.1.2.1 (C.2.2.2.2.2.1 _ _ _ hd) (by rw [pj_v_cat]; exact hv) (by rw [pj_v_cat]; exact hw) (kk p e s m args below meth c H locs la C hH hL)
theorem pj_dup2 (pc' : Nat) {v w : Value} (hd : (pj_cd d).lookup pc = some (.dup2, 1)) (hv : v.category = 1) (hw : w.category = 1) (hp : pc + 1 = pc') (kk : pj_R l g d X Z n c0 s0 pc' ls (v :: w :: v :: w :: st) M) : pj_R l g d X Z n c0 s0 pc ls (v :: w :: st) M := by
  intro p e s m args below meth c H locs la C hH hL
  subst hp
  exact lv_dup2_11 C.1.1 C.1.2.1 (C.2.2.2.2.2.1 _ _ _ hd) (by rw [pj_v_cat]; exact hv) (by rw [pj_v_cat]; exact hw) (kk p e s m args below meth c H locs la C hH hL)
theorem pj_if_eq (pt pf : Nat) {x : Int} {off : Int} (hd : (pj_cd d).lookup pc = some (.ifCond .eq off, 3)) (ht : (pc : Int) + off = (pt : Int)) (hf : pc + 3 = pf) (hx : pj_in x) (kt : x = 0 → pj_R l g d X Z n c0 s0 pt ls st M) (kf : ¬ (x = 0) → pj_R l g d X Z n c0 s0 pf ls st M) : pj_R l g d X Z n c0 s0 pc ls (.int (pj_I x) :: st) M := by
  intro p e s m args below meth c H locs la C hH hL
  subst hf
  exact lv_if_eq C.1.1 C.1.2.1 (C.2.2.2.2.2.1 _ _ _ hd) ht (fun h => kt ((pj_eq hx pj_inz).mp h) p e s m args below meth c H locs la C hH hL) (fun h => kf (fun q => h ((pj_eq hx pj_inz).mpr q)) p e s m args below meth c H locs la C hH hL)
theorem pj_icmp_eq (pt pf : Nat) {x y : Int} {off : Int} (hd : (pj_cd d).lookup pc = some (.if_icmp .eq off, 3)) (ht : (pc : Int) + off = (pt : Int)) (hf : pc + 3 = pf) (hx : pj_in x) (hy : pj_in y) (kt : x = y → pj_R l g d X Z n c0 s0 pt ls st M) (kf : ¬ (x = y) → pj_R l g d X Z n c0 s0 pf ls st M) : pj_R l g d X Z n c0 s0 pc ls (.int (pj_I y) :: .int (pj_I x) :: st) M := by
  intro p e s m args below meth c H locs la C hH hL
  subst hf
  exact lv_icmp_eq C.1.1 C.1.2.1 (C.2.2.2.2.2.1 _ _ _ hd) ht (fun h => kt ((pj_eq hx hy).mp h) p e s m args below meth c H locs la C hH hL) (fun h => kf (fun q => h ((pj_eq hx hy).mpr q)) p e s m args below meth c H locs la C hH hL)
theorem pj_if_ne (pt pf : Nat) {x : Int} {off : Int} (hd : (pj_cd d).lookup pc = some (.ifCond .ne off, 3)) (ht : (pc : Int) + off = (pt : Int)) (hf : pc + 3 = pf) (hx : pj_in x) (kt : ¬ x = 0 → pj_R l g d X Z n c0 s0 pt ls st M) (kf : ¬ (¬ x = 0) → pj_R l g d X Z n c0 s0 pf ls st M) : pj_R l g d X Z n c0 s0 pc ls (.int (pj_I x) :: st) M := by
  intro p e s m args below meth c H locs la C hH hL
  subst hf
  exact lv_if_ne C.1.1 C.1.2.1 (C.2.2.2.2.2.1 _ _ _ hd) ht (fun h => kt (fun q => h ((pj_eq hx pj_inz).mpr q)) p e s m args below meth c H locs la C hH hL) (fun h => kf (fun q => q ((pj_eq hx pj_inz).mp h)) p e s m args below meth c H locs la C hH hL)
theorem pj_icmp_ne (pt pf : Nat) {x y : Int} {off : Int} (hd : (pj_cd d).lookup pc = some (.if_icmp .ne off, 3)) (ht : (pc : Int) + off = (pt : Int)) (hf : pc + 3 = pf) (hx : pj_in x) (hy : pj_in y) (kt : ¬ x = y → pj_R l g d X Z n c0 s0 pt ls st M) (kf : ¬ (¬ x = y) → pj_R l g d X Z n c0 s0 pf ls st M) : pj_R l g d X Z n c0 s0 pc ls (.int (pj_I y) :: .int (pj_I x) :: st) M := by
  intro p e s m args below meth c H locs la C hH hL
  subst hf
  exact lv_icmp_ne C.1.1 C.1.2.1 (C.2.2.2.2.2.1 _ _ _ hd) ht (fun h => kt (fun q => h ((pj_eq hx hy).mpr q)) p e s m args below meth c H locs la C hH hL) (fun h => kf (fun q => q ((pj_eq hx hy).mp h)) p e s m args below meth c H locs la C hH hL)
theorem pj_if_lt (pt pf : Nat) {x : Int} {off : Int} (hd : (pj_cd d).lookup pc = some (.ifCond .lt off, 3)) (ht : (pc : Int) + off = (pt : Int)) (hf : pc + 3 = pf) (hx : pj_in x) (kt : x < 0 → pj_R l g d X Z n c0 s0 pt ls st M) (kf : ¬ (x < 0) → pj_R l g d X Z n c0 s0 pf ls st M) : pj_R l g d X Z n c0 s0 pc ls (.int (pj_I x) :: st) M := by
  intro p e s m args below meth c H locs la C hH hL
  subst hf
  exact lv_if_lt C.1.1 C.1.2.1 (C.2.2.2.2.2.1 _ _ _ hd) ht (fun h => kt ((pj_lt hx pj_inz).mp h) p e s m args below meth c H locs la C hH hL) (fun h => kf (fun q => h ((pj_lt hx pj_inz).mpr q)) p e s m args below meth c H locs la C hH hL)
theorem pj_icmp_lt (pt pf : Nat) {x y : Int} {off : Int} (hd : (pj_cd d).lookup pc = some (.if_icmp .lt off, 3)) (ht : (pc : Int) + off = (pt : Int)) (hf : pc + 3 = pf) (hx : pj_in x) (hy : pj_in y) (kt : x < y → pj_R l g d X Z n c0 s0 pt ls st M) (kf : ¬ (x < y) → pj_R l g d X Z n c0 s0 pf ls st M) : pj_R l g d X Z n c0 s0 pc ls (.int (pj_I y) :: .int (pj_I x) :: st) M := by
  intro p e s m args below meth c H locs la C hH hL
  subst hf
  exact lv_icmp_lt C.1.1 C.1.2.1 (C.2.2.2.2.2.1 _ _ _ hd) ht (fun h => kt ((pj_lt hx hy).mp h) p e s m args below meth c H locs la C hH hL) (fun h => kf (fun q => h ((pj_lt hx hy).mpr q)) p e s m args below meth c H locs la C hH hL)
theorem pj_if_ge (pt pf : Nat) {x : Int} {off : Int} (hd : (pj_cd d).lookup pc = some (.ifCond .ge off, 3)) (ht : (pc : Int) + off = (pt : Int)) (hf : pc + 3 = pf) (hx : pj_in x) (kt : 0 ≤ x → pj_R l g d X Z n c0 s0 pt ls st M) (kf : ¬ (0 ≤ x) → pj_R l g d X Z n c0 s0 pf ls st M) : pj_R l g d X Z n c0 s0 pc ls (.int (pj_I x) :: st) M := by
  intro p e s m args below meth c H locs la C hH hL
  subst hf
  exact lv_if_ge C.1.1 C.1.2.1 (C.2.2.2.2.2.1 _ _ _ hd) ht (fun h => kt ((pj_le pj_inz hx).mp h) p e s m args below meth c H locs la C hH hL) (fun h => kf (fun q => h ((pj_le pj_inz hx).mpr q)) p e s m args below meth c H locs la C hH hL)
theorem pj_icmp_ge (pt pf : Nat) {x y : Int} {off : Int} (hd : (pj_cd d).lookup pc = some (.if_icmp .ge off, 3)) (ht : (pc : Int) + off = (pt : Int)) (hf : pc + 3 = pf) (hx : pj_in x) (hy : pj_in y) (kt : y ≤ x → pj_R l g d X Z n c0 s0 pt ls st M) (kf : ¬ (y ≤ x) → pj_R l g d X Z n c0 s0 pf ls st M) : pj_R l g d X Z n c0 s0 pc ls (.int (pj_I y) :: .int (pj_I x) :: st) M := by
  intro p e s m args below meth c H locs la C hH hL
  subst hf
  exact lv_icmp_ge C.1.1 C.1.2.1 (C.2.2.2.2.2.1 _ _ _ hd) ht (fun h => kt ((pj_le hy hx).mp h) p e s m args below meth c H locs la C hH hL) (fun h => kf (fun q => h ((pj_le hy hx).mpr q)) p e s m args below meth c H locs la C hH hL)
theorem pj_if_gt (pt pf : Nat) {x : Int} {off : Int} (hd : (pj_cd d).lookup pc = some (.ifCond .gt off, 3)) (ht : (pc : Int) + off = (pt : Int)) (hf : pc + 3 = pf) (hx : pj_in x) (kt : 0 < x → pj_R l g d X Z n c0 s0 pt ls st M) (kf : ¬ (0 < x) → pj_R l g d X Z n c0 s0 pf ls st M) : pj_R l g d X Z n c0 s0 pc ls (.int (pj_I x) :: st) M := by
  intro p e s m args below meth c H locs la C hH hL
  subst hf
  exact lv_if_gt C.1.1 C.1.2.1 (C.2.2.2.2.2.1 _ _ _ hd) ht (fun h => kt ((pj_lt pj_inz hx).mp h) p e s m args below meth c H locs la C hH hL) (fun h => kf (fun q => h ((pj_lt pj_inz hx).mpr q)) p e s m args below meth c H locs la C hH hL)
theorem pj_icmp_gt (pt pf : Nat) {x y : Int} {off : Int} (hd : (pj_cd d).lookup pc = some (.if_icmp .gt off, 3)) (ht : (pc : Int) + off = (pt : Int)) (hf : pc + 3 = pf) (hx : pj_in x) (hy : pj_in y) (kt : y < x → pj_R l g d X Z n c0 s0 pt ls st M) (kf : ¬ (y < x) → pj_R l g d X Z n c0 s0 pf ls st M) : pj_R l g d X Z n c0 s0 pc ls (.int (pj_I y) :: .int (pj_I x) :: st) M := by
  intro p e s m args below meth c H locs la C hH hL
  subst hf
  exact lv_icmp_gt C.1.1 C.1.2.1 (C.2.2.2.2.2.1 _ _ _ hd) ht (fun h => kt ((pj_lt hy hx).mp h) p e s m args below meth c H locs la C hH hL) (fun h => kf (fun q => h ((pj_lt hy hx).mpr q)) p e s m args below meth c H locs la C hH hL)
theorem pj_if_le (pt pf : Nat) {x : Int} {off : Int} (hd : (pj_cd d).lookup pc = some (.ifCond .le off, 3)) (ht : (pc : Int) + off = (pt : Int)) (hf : pc + 3 = pf) (hx : pj_in x) (kt : x ≤ 0 → pj_R l g d X Z n c0 s0 pt ls st M) (kf : ¬ (x ≤ 0) → pj_R l g d X Z n c0 s0 pf ls st M) : pj_R l g d X Z n c0 s0 pc ls (.int (pj_I x) :: st) M := by
  intro p e s m args below meth c H locs la C hH hL
  subst hf
  exact lv_if_le C.1.1 C.1.2.1 (C.2.2.2.2.2.1 _ _ _ hd) ht (fun h => kt ((pj_le hx pj_inz).mp h) p e s m args below meth c H locs la C hH hL) (fun h => kf (fun q => h ((pj_le hx pj_inz).mpr q)) p e s m args below meth c H locs la C hH hL)
theorem pj_icmp_le (pt pf : Nat) {x y : Int} {off : Int} (hd : (pj_cd d).lookup pc = some (.if_icmp .le off, 3)) (ht : (pc : Int) + off = (pt : Int)) (hf : pc + 3 = pf) (hx : pj_in x) (hy : pj_in y) (kt : x ≤ y → pj_R l g d X Z n c0 s0 pt ls st M) (kf : ¬ (x ≤ y) → pj_R l g d X Z n c0 s0 pf ls st M) : pj_R l g d X Z n c0 s0 pc ls (.int (pj_I y) :: .int (pj_I x) :: st) M := by
  intro p e s m args below meth c H locs la C hH hL
  subst hf
  exact lv_icmp_le C.1.1 C.1.2.1 (C.2.2.2.2.2.1 _ _ _ hd) ht (fun h => kt ((pj_le hx hy).mp h) p e s m args below meth c H locs la C hH hL) (fun h => kf (fun q => h ((pj_le hx hy).mpr q)) p e s m args below meth c H locs la C hH hL)
theorem pj_goto (pt : Nat) {off : Int} (hd : (pj_cd d).lookup pc = some (.goto off, 3)) (ht : (pc : Int) + off = (pt : Int)) (kk : pj_R l g d X Z n c0 s0 pt ls st M) : pj_R l g d X Z n c0 s0 pc ls st M := by
  intro p e s m args below meth c H locs la C hH hL
  exact lv_goto C.1.1 C.1.2.1 (C.2.2.2.2.2.1 _ _ _ hd) ht (kk p e s m args below meth c H locs la C hH hL)
theorem pj_tin (pt : Nat) {x dflt lo hi off : Int} {offs : Array Int} {len : Nat} (hd : (pj_cd d).lookup pc = some (.tableswitch dflt lo hi offs, len)) (hx : pj_in x) (h1 : ¬ x < lo) (h2 : ¬ hi < x) (ho : offs[(x - lo).toNat]? = some off) (ht : (pc : Int) + off = (pt : Int)) (kk : pj_R l g d X Z n c0 s0 pt ls st M) : pj_R l g d X Z n c0 s0 pc ls (.int (pj_I x) :: st) M := by
  intro p e s m args below meth c H locs la C hH hL
  exact lv_tableIn C.1.1 C.1.2.1 (C.2.2.2.2.2.1 _ _ _ hd) (by rw [pj_toInt hx]; exact h1) (by rw [pj_toInt hx]; exact h2) (by rw [pj_toInt hx]; exact ho) ht (kk p e s m args below meth c H locs la C hH hL)
theorem pj_tout (pt : Nat) {x dflt lo hi : Int} {offs : Array Int} {len : Nat} (hd : (pj_cd d).lookup pc = some (.tableswitch dflt lo hi offs, len)) (hx : pj_in x) (h1 : x < lo ∨ hi < x) (ht : (pc : Int) + dflt = (pt : Int)) (kk : pj_R l g d X Z n c0 s0 pt ls st M) : pj_R l g d X Z n c0 s0 pc ls (.int (pj_I x) :: st) M := by
  intro p e s m args below meth c H locs la C hH hL
  exact lv_tableOut C.1.1 C.1.2.1 (C.2.2.2.2.2.1 _ _ _ hd) (by rw [pj_toInt hx]; exact h1) ht (kk p e s m args below meth c H locs la C hH hL)
theorem pj_sub_ls {ls' : List (Nat × Value)} (h : ∀ q ∈ ls', q ∈ ls) (kk : pj_R l g d X Z n c0 s0 pc ls' st M) : pj_R l g d X Z n c0 s0 pc ls st M := by
  intro p e s m args below meth c H locs la C hH hL
  exact kk p e s m args below meth c H locs la C hH ⟨hL.1, hL.2.1, fun q hq => by
    obtain ⟨r, hr, rfl⟩ := List.mem_map.mp hq
    exact hL.2.2 _ (List.mem_map.mpr ⟨r, h r hr, rfl⟩)⟩
end PJS
