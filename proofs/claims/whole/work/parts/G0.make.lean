def pj_nw (M : pj_M) (n : Nat) (f : Int → Int) : pj_M := fun b j => if b = n then f j else M b j
def pj_dz : Int → Int := fun _ => 0
def pj_dm : Int → Int := fun _ => -1
def pj_do (ci : Nat) : Int → Int := fun j => if pj_kd ci j.toNat = 1 ∨ pj_kd ci j.toNat = 2 then -1 else 0
def pj_O (own : String) (idx ci : Nat) : Prop := ∃ (C : String) (T : u_T) (N : Nat) (ty : Nat → FieldType), vwCl[ci]? = some (C, T, N) ∧ (∀ w ∈ u_ws C T N, w ∈ pj_TB) ∧ (∀ k, k < N → parseFieldDescriptor (T k).2.2.1 = some (ty k)) ∧ N = pj_N ci ∧ Cond.classLink own idx C ∈ pj_TB ∧ Cond.instantiable C N ∈ pj_TB ∧ Cond.initialized C ∈ pj_TB ∧ ∀ j, j < N → defaultValue (ty j) = (if pj_kd ci j = 1 ∨ pj_kd ci j = 2 then .null else .int 0)
theorem pj_nw_other {g : pj_G} {M : pj_M} {n : Nat} {f : Int → Int} : ∀ j, j ≠ n → pj_ce g (pj_nw M n f) j = pj_ce g M j := by
  intro j hj
  have h : ∀ x : Int, pj_nw M n f j x = M j x := fun x => by simp [pj_nw, hj]
  have h1 : pj_ia (pj_nw M n f) j = pj_ia M j := by funext x; simp only [pj_ia, h]
  have h2 : pj_la (pj_nw M n f) j = pj_la M j := by funext x; simp only [pj_la, h]
  have h3 : pj_qa g (pj_nw M n f) j = pj_qa g M j := by funext x; simp only [pj_qa, h]
  have h4 : ∀ ci, pj_fs g (pj_nw M n f) j ci = pj_fs g M j ci := fun ci => by simp only [pj_fs, pj_fv, h]
  simp only [pj_ce, h1, h2, h3, h4]
theorem pj_ws_push {g : pj_G} {n : Nat} {M : pj_M} {f : Int → Int} : pj_ws g (n + 1) (pj_nw M n f) = pj_ws g n M ++ [(pj_bs g + n, pj_ce g (pj_nw M n f) n)] := by
  unfold pj_ws
  rw [List.range_succ, List.map_append]
  congr 1
  apply List.map_congr_left
  intro i hi
  have : i < n := List.mem_range.mp hi
  rw [pj_nw_other i (by omega)]
section PJM
variable {l : Launch} {g : pj_G} {d : pj_MD} {X : State → Prop} {Z : pj_Z} {n c0 s0 pc : Nat} {ls : List (Nat × Value)} {st : List Value} {M : pj_M}
theorem pj_H_push {s : State} {H H1 : Heap} {locs : List Loc} {f : Int → Int} (hH : pj_H g n M s H locs) (hn : n < pj_NK) (z1 : H1.size = H.size + 1) (o1 : ∀ q, q < H.size → H1[q]? = H[q]?) (hc : va_at (pj_D g) vwCl (pj_bs g + n, pj_ce g (pj_nw M n f) n) H1) : pj_H g (n + 1) (pj_nw M n f) s H1 locs := by
  have hk : ∀ (k : Nat) (x : Nat × va_E), (pj_ws g n M)[k]? = some x → H1[x.1]? = H[x.1]? := fun k x hx => o1 x.1 ((hH.1 k x hx).lt)
  have hS := hH.2.1
  have hz := hH.2.2.1 hn
  refine ⟨?_, ⟨Nat.le_trans hS.1 (by omega), fun x h1 h2 => (o1 x (Nat.lt_of_lt_of_le h1 hS.1)).trans (hS.2.1 x h1 h2), hS.2.2⟩, fun _ => by omega, by omega⟩
  rw [pj_ws_push]
  refine (hH.1.kept hk).app (fun k x hx => ?_)
  have hz2 : k < 1 := (List.getElem?_eq_some_iff.mp hx).1
  rw [show k = 0 by omega] at hx
  cases hx
  exact hc
theorem pj_newo (pc' ci : Nat) {idx : Nat} (hd : (pj_cd d).lookup pc = some (.new idx, 3)) (hO : pj_O (pj_own d) idx ci) (hp : pc + 3 = pc') (hph : pj_ph g = false) (hs : pj_sh n = (0, ci)) (hn : n < pj_NK) (hcs : c0 + 1 ≤ (pj_rm d).cells ∧ s0 + pj_N ci ≤ (pj_rm d).slots) (kk : pj_R l g d X Z (n + 1) (c0 + 1) (s0 + pj_N ci) pc' ls (.ref n :: st) (pj_nw M n (pj_do ci))) : pj_R l g d X Z n c0 s0 pc ls st M := by
  intro p e s m args below meth c H locs la C hH hL
  subst hp
  obtain ⟨Cn, T, N, ty, hcl, hin, hty, hN, w1, w2, w3, hdf⟩ := hO
  subst hN
  have hts := C.2.1
  have hKn := C.2.2.1.1.1 ci _ hcl
  have hz := hH.2.2.1 hn
  refine W.newcK C.1.1 C.1.2.1 C.1.2.2.2.2.2 (hts _ w1) (hts _ w2) (hts _ w3) rfl (C.2.2.2.2.2.1 _ _ _ hd) hcs.1 hcs.2 hKn.2.1 hz fun H1 kC hkC e1 z1 o1 => ?_
  have hk := kk p e s m args below meth c H1 locs la C (pj_H_push hH hn (by omega) (fun q hq => o1 q (by omega)) (by
    rw [pj_ce_ob hs]
    refine ⟨_, hcl, (u_born ty hts hin hKn hkC e1 hty).to (fun j hj => ?_)⟩
    rw [hdf j hj]
    unfold vp_V pj_fs
    rw [List.getD_eq_getElem?_getD]
    have hj' : j < pj_N ci := hj
    simp only [List.getElem?_map, List.getElem?_range hj', Option.map_some, Option.getD_some]
    have hkd : pj_kd ci j = 0 ∨ pj_kd ci j = 1 ∨ pj_kd ci j = 2 ∨ ¬ (pj_kd ci j = 1 ∨ pj_kd ci j = 2) := by omega
    unfold pj_fv pj_nw pj_do
    simp only [if_true, Int.toNat_natCast]
    by_cases h1 : pj_kd ci j = 1
    · simp [h1, hph, pj_rv]
    · by_cases h2 : pj_kd ci j = 2
      · simp [h2, pj_rv]
      · simp [h1, h2]; rfl)) hL
  have e5 : pj_v g (.ref n) = .ref (pj_bs g + n) := pj_v_ref g (Nat.lt_trans hn (by decide))
  rw [List.map_cons, e5] at hk
  exact hk
theorem pj_newa (pc' t : Nat) {k : Nat} {atype : ArrayType} {ty : FieldType} (hd : (pj_cd d).lookup pc = some (.newarray atype, 2)) (hty : newarray.typeOf atype = ty) (hw : Cond.arrayClass (newarray.typeOf atype) ∈ pj_TB) (hp : pc + 2 = pc') (ht : (t = 1 ∧ ty = .int) ∨ (t = 2 ∧ ty = .boolean) ∨ (t = 3 ∧ ty = .byte) ∨ (t = 4 ∧ ty = .long)) (hs : pj_sh n = (t, k)) (hn : n < pj_NK) (hk : k ≤ 10000) (hcs : c0 + 1 ≤ (pj_rm d).cells ∧ s0 + k ≤ (pj_rm d).slots) (kk : pj_R l g d X Z (n + 1) (c0 + 1) (s0 + k) pc' ls (.ref n :: st) (pj_nw M n pj_dz)) : pj_R l g d X Z n c0 s0 pc ls (.int (pj_I (k : Int)) :: st) M := by
  intro p e s m args below meth c H locs la C hH hL
  subst hp; subst hty
  have hts := C.2.1
  have hz := hH.2.2.1 hn
  have hin : pj_in (k : Int) := ⟨by omega, by omega⟩
  refine va_newaK C.1.1 C.1.2.1 (hts _ hw) (g := F0 m pc la (.int (pj_I (k : Int)) :: st.map (pj_v g))) rfl (C.2.2.2.2.2.1 _ _ _ hd) rfl (n := pj_I (k : Int)) (N := k) ?_ ?_ ?_ hcs.1 hcs.2 hz fun H1 cA e1 z1 o1 hAr hNm => ?_
  · rw [show (0 : Int32) = pj_I 0 from rfl, pj_lt hin pj_inz]; omega
  · unfold Int32.toNatClampNeg; rw [pj_toInt hin]; simp
  · have : componentBytes (newarray.typeOf atype) ≤ 8 := by cases atype <;> decide
    calc k * componentBytes (newarray.typeOf atype) ≤ 10000 * 8 := Nat.mul_le_mul hk this
      _ ≤ 536870912 := by decide
  · have hcA : ∀ q ty, (pj_tys g)[q]? = some (pj_dA g q, ty) → newarray.typeOf atype = ty → cA = pj_dA g q := by
      intro q ty hq he
      have h2 := (C.2.2.1.1.2 q _ hq).2
      subst he
      have h3 : s.vm.findClass ("[" ++ (newarray.typeOf atype).toString) = some (pj_dA g q) := by
        cases atype <;> exact h2
      exact Option.some.inj (hNm.symm.trans h3)
    have hkk := kk p e s m args below meth c H1 locs la C (pj_H_push hH hn (by omega) (fun q hq => o1 q (by omega)) (by
      rcases ht with ⟨rfl, h⟩ | ⟨rfl, h⟩ | ⟨rfl, h⟩ | ⟨rfl, h⟩
      · rw [pj_ce_ar hs (Or.inl rfl)]
        show H1[pj_bs g + n]? = some (vp_cell _ _)
        rw [vp_cell_i, e1, hcA 0 .int rfl h, h]
        congr 2
        funext x; simp [pj_ia, pj_nw, pj_dz]; rfl
      · rw [pj_ce_ar hs (Or.inr (Or.inl rfl))]
        show H1[pj_bs g + n]? = some (vp_cell _ _)
        rw [vp_cell_i, e1, hcA 1 .boolean rfl h, h]
        congr 2
        funext x; simp [pj_ia, pj_nw, pj_dz]; rfl
      · rw [pj_ce_ar hs (Or.inr (Or.inr rfl))]
        show H1[pj_bs g + n]? = some (vp_cell _ _)
        rw [vp_cell_i, e1, hcA 2 .byte rfl h, h]
        congr 2
        funext x; simp [pj_ia, pj_nw, pj_dz]; rfl
      · rw [pj_ce_lo hs]
        show H1[pj_bs g + n]? = some (vp_cell _ _)
        rw [vp_cell_l, e1, hcA 3 .long rfl h, h]
        congr 2
        funext x; simp [pj_la, pj_nw, pj_dz]; rfl)) hL
    have e5 : pj_v g (.ref n) = .ref (pj_bs g + n) := pj_v_ref g (Nat.lt_trans hn (by decide))
    rw [List.map_cons, e5] at hkk
    exact hkk
theorem pj_oinit (pc' : Nat) {idx a : Nat} (hd : (pj_cd d).lookup pc = some (.invokespecial idx, 3)) (w1 : Cond.methodLink (pj_own d) idx objectInit ∈ pj_TB) (w2 : Cond.instanceMethod objectInit ∈ pj_TB) (w3 : Cond.code objectInit ⟨#[0xb1]⟩ 1 none ∈ pj_TB) (hp : pc + 3 = pc') (hr : 1 ≤ (pj_rm d).frames ∧ (st.map fun v => v.category).sum + 12 ≤ (pj_rm d).locals) (kk : pj_R l g d X Z n c0 s0 pc' ls st M) : pj_R l g d X Z n c0 s0 pc ls (.ref a :: st) M := by
  intro p e s m args below meth c H locs la C hH hL
  subst hp
  have hts := C.2.1
  refine W.objInit C.1.1 C.1.2.1 C.1.2.2.2.2.2 (hts _ w1) (hts _ w2) (hts _ w3) (g := F0 m pc la (pj_v g (.ref a) :: st.map (pj_v g))) rfl (by rw [C.1.2.2.2.2.1]; exact hL.1) (a := if a < 1000000 then pj_bs g + a else g.1) rfl (C.2.2.2.2.2.1 _ _ _ hd) hr.1 ?_ (kk p e s m args below meth c H locs la C hH hL)
  have : (F0 m pc la (pj_v g (.ref a) :: st.map (pj_v g))).monitorRoom = 0 := rfl
  rw [this, pj_catsum]
  omega
end PJM
