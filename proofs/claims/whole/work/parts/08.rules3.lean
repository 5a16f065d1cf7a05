/-- a field by its place in the pool -/
def pj_F (own : String) (idx ci k : Nat) : Prop := ∃ (C : String) (T : u_T) (N : Nat) (ty0 : Nat → FieldType), vwCl[ci]? = some (C, T, N) ∧ (∀ w ∈ u_ws C T N, w ∈ pj_TB) ∧ (∀ k, k < N → parseFieldDescriptor (T k).2.2.1 = some (ty0 k)) ∧ (∀ a, a < N → ∀ b, b < N → a ≠ b → (T a).2.1 ≠ (T b).2.1) ∧ k < N ∧ N = pj_N ci ∧ Cond.fieldLink own idx (T k).1 (T k).2.1 (T k).2.2.1 ∈ pj_TB ∧ (pj_kd ci k = 0 → ty0 k = .int ∧ (T k).2.2.2 = false) ∧ (pj_kd ci k = 3 → ty0 k = .boolean ∧ (T k).2.2.2 = false) ∧ (pj_kd ci k = 1 ∨ pj_kd ci k = 2 → (∃ z, ty0 k = .object z) ∨ ∃ z, ty0 k = .array z) ∧ (pj_kd ci k = 2 → (T k).2.2.2 = false)
section PJT
variable {l : Launch} {g : pj_G} {d : pj_MD} {X : State → Prop} {Z : pj_Z} {n c0 s0 pc : Nat} {ls : List (Nat × Value)} {st : List Value} {M : pj_M}
theorem pj_ce_ob {M : pj_M} {a ci : Nat} (h : pj_sh a = (0, ci)) : pj_ce g M a = .inr (ci, pj_fs g M a ci) := by simp [pj_ce, h]
theorem pj_ce_ar {M : pj_M} {a t k : Nat} (h : pj_sh a = (t, k)) (ht : t = 1 ∨ t = 2 ∨ t = 3) : pj_ce g M a = .inl (pj_dA g (t - 1), k, .inl (pj_ia M a)) := by
  rcases ht with rfl | rfl | rfl <;> simp [pj_ce, h]
theorem pj_ce_lo {M : pj_M} {a k : Nat} (h : pj_sh a = (4, k)) : pj_ce g M a = .inl (pj_dA g 3, k, .inr (.inl (pj_la M a))) := by simp [pj_ce, h]
theorem pj_ce_qa {M : pj_M} {a k : Nat} (h : pj_sh a = (5, k)) : pj_ce g M a = .inl (pj_dA g 4, k, .inr (.inr (.inr (.inr (pj_qa g M a))))) := by simp [pj_ce, h]
theorem pj_get0 {idx a ci k : Nat} {v : Value} (hd : (pj_cd d).lookup pc = some (.getfield idx, 3)) (hF : pj_F (pj_own d) idx ci k) (hs : pj_sh a = (0, ci)) (ha : a < n) (hN : n ≤ 1000000) (hv : pj_v g v = pj_fv g M a ci k) (kk : pj_R l g d X Z n c0 s0 (pc + 3) ls (v :: st) M) : pj_R l g d X Z n c0 s0 pc ls (.ref a :: st) M := by
  intro p e s m args below meth c H locs la C hH hL
  obtain ⟨Cn, T, N, ty0, hcl, hin, -, -, hk, hNe, hli, -⟩ := hF
  show W p l e (pj_rm d) s m args below meth c H locs c0 s0 (Z s args below) (F0 m pc la (pj_v g (.ref a) :: st.map (pj_v g)))
  rw [pj_v_ref g (by omega)]
  refine va_get (D := pj_D g) (cl := vwCl) (ws := pj_ws g n M) (v := pj_v g v) C.1.1 C.1.2.1 C.2.1 hin C.1.2.2.2.2.2 C.2.2.1.1 hH.1 a (fs := pj_fs g M a ci) (by rw [pj_ws_get ha, pj_ce_ob hs]) hcl k hk (C.2.1 _ hli) (fun _ h => h) (by rw [pj_fs_get (hNe ▸ hk), hv]) (C.2.2.2.2.2.1 _ _ _ hd) ?_
  exact kk p e s m args below meth c H locs la C hH hL
/-- an int field, or a boolean one -/
theorem pj_geti (pc' ci k : Nat) {idx a : Nat} (hd : (pj_cd d).lookup pc = some (.getfield idx, 3)) (hF : pj_F (pj_own d) idx ci k) (hkd : pj_kd ci k = 0 ∨ pj_kd ci k = 3) (hp : pc + 3 = pc') (hs : pj_sh a = (0, ci)) (ha : a < n) (hN : n ≤ 1000000) (kk : pj_R l g d X Z n c0 s0 pc' ls (.int (pj_I (M a (k : Nat))) :: st) M) : pj_R l g d X Z n c0 s0 pc ls (.ref a :: st) M := by
  subst hp
  refine pj_get0 hd hF hs ha hN (v := .int (pj_I (M a (k : Nat)))) ?_ kk
  rcases hkd with h | h <;> simp [pj_fv, h, pj_v]
/-- a reference that stays -/
theorem pj_getr (pc' ci k : Nat) {idx a b : Nat} (hd : (pj_cd d).lookup pc = some (.getfield idx, 3)) (hF : pj_F (pj_own d) idx ci k) (hkd : pj_kd ci k = 1) (hp : pc + 3 = pc') (hg : pj_ph g = true) (hs : pj_sh a = (0, ci)) (ha : a < n) (hN : n ≤ 1000000) (hb : pj_rf a k = b) (hb2 : b < 1000000) (kk : pj_R l g d X Z n c0 s0 pc' ls (.ref b :: st) M) : pj_R l g d X Z n c0 s0 pc ls (.ref a :: st) M := by
  subst hp; subst hb
  refine pj_get0 hd hF hs ha hN (v := .ref (pj_rf a k)) ?_ kk
  rw [pj_v_ref g hb2]
  simp [pj_fv, hkd, hg]
/-- a reference by what is kept of it -/
theorem pj_getd (pc' ci k : Nat) {idx a b : Nat} (hd : (pj_cd d).lookup pc = some (.getfield idx, 3)) (hF : pj_F (pj_own d) idx ci k) (hkd : pj_kd ci k = 2 ∨ (pj_kd ci k = 1 ∧ pj_ph g = false)) (hp : pc + 3 = pc') (hs : pj_sh a = (0, ci)) (ha : a < n) (hN : n ≤ 1000000) (hb : M a (k : Nat) = (b : Int)) (hb2 : b < 1000000) (kk : pj_R l g d X Z n c0 s0 pc' ls (.ref b :: st) M) : pj_R l g d X Z n c0 s0 pc ls (.ref a :: st) M := by
  subst hp
  refine pj_get0 hd hF hs ha hN (v := .ref b) ?_ kk
  rw [pj_v_ref g hb2]
  have h0 : ¬ ((b : Int) < 0) := by omega
  rcases hkd with h | ⟨h, h2⟩
  · simp [pj_fv, h, pj_rv, hb, h0]
  · simp [pj_fv, h, h2, pj_rv, hb, h0]
theorem pj_put0 {idx a ci k : Nat} {x : Int} {v : Value} (hd : (pj_cd d).lookup pc = some (.putfield idx, 3)) (hF : pj_F (pj_own d) idx ci k) (hs : pj_sh a = (0, ci)) (ha : a < n) (hN : n ≤ 1000000) (hv : pj_fv g (pj_up M a k x) a ci k = v) (hnf : ∀ ty0 : FieldType, (pj_kd ci k = 0 → ty0 = .int) → (pj_kd ci k = 3 → ty0 = .boolean) → (pj_kd ci k = 1 ∨ pj_kd ci k = 2 → (∃ z, ty0 = .object z) ∨ ∃ z, ty0 = .array z) → narrow ty0 v = v ∧ fits ty0 v = true)
    (hin : pj_kd ci k = 1 → d.1.name = "<init>" ∧ ∃ C T N, vwCl[ci]? = some (C, T, N) ∧ (T k).1 = pj_own d) (hm : pj_kd ci k ≤ 3) (kk : pj_R l g d X Z n c0 s0 (pc + 3) ls st (pj_up M a k x)) (p : Program) (e : Env) (s : State) (m : MethodId) (args : Array Value) (below : List Frame) (meth : Method) (c : Code) (H : Heap) (locs : List Loc) (la : Array Slot)
    (C : pj_C g d X p s m args meth c) (hH : pj_H g n M s H locs) (hL : lv_has la d.2.2.1 (ls.map (pj_p g))) : W p l e (pj_rm d) s m args below meth c H locs c0 s0 (Z s args below) (F0 m pc la (v :: .ref (pj_bs g + a) :: st.map (pj_v g))) := by
  obtain ⟨Cn, T, N, ty0, hcl, hint, hty, hnm, hk, hNe, hli, q0, q3, q12, qk2⟩ := hF
  obtain ⟨hn1, hn2⟩ := hnf (ty0 k) (fun h => (q0 h).1) (fun h => (q3 h).1) q12
  have hset : (pj_ws g n M).set a (pj_bs g + a, .inr (ci, (pj_fs g M a ci).set k v)) = pj_ws g n (pj_up M a k x) := by
    refine pj_ws_set ?_ pj_up_other
    rw [pj_ce_ob hs, pj_up_fs g M a ci k x (hNe ▸ hk), hv]
  have hlen : k < (pj_fs g M a ci).length := by simp [pj_fs]; omega
  have fin : ∀ (H1 : Heap) (locs1 : List Loc), va_P (pj_D g) vwCl ((pj_ws g n M).set a (pj_bs g + a, .inr (ci, (pj_fs g M a ci).set k v))) H1 → va_D (pj_A g) ((pj_ws g n M).set a (pj_bs g + a, .inr (ci, (pj_fs g M a ci).set k v))) → va_S (pj_A g) s.heap H1 locs1 → H1.size = H.size → W p l e (pj_rm d) s m args below meth c H1 locs1 c0 s0 (Z s args below) (F0 m (pc + 3) la (st.map (pj_v g))) := by
    intro H1 locs1 hP1 _ hS1 hz
    rw [hset] at hP1
    exact kk p e s m args below meth c H1 locs1 la C ⟨hP1, hS1, fun h => by rw [hz]; exact hH.2.2.1 h, hH.2.2.2⟩ hL
  have hK := C.2.2.1.1
  have hap := va_apart (own := pj_own d) C.2.1 hint ty0 hty hnm hK hcl
  have he : (pj_ws g n M)[a]? = some (pj_bs g + a, .inr (ci, pj_fs g M a ci)) := by rw [pj_ws_get ha, pj_ce_ob hs]
  have hDD := pj_ws_D g n M
  obtain ⟨r, h1, cell, q1, q2, qq3, q4⟩ := hH.1 a _ he
  have hr : r = (Cn, T, N) := Option.some.inj (h1.symm.trans hcl)
  subst hr
  obtain ⟨hS, hfc, kC, hkC, hkind⟩ := hK.1 ci _ hcl
  obtain ⟨cf, kf, fi, f, hi, hsl⟩ := hS k hk
  have hlay := C.2.1 _ (hint _ (u_in_lay hk))
  unfold u_lay at hlay
  have hst := (u_facts hfc hkC (u_lays C.2.1 hint hk) hi).1
  have hend : ∀ H' : Heap, H'[pj_bs g + a]? = some (cell.setSlot f.slot v) → H'.size = H.size → (∀ q : Nat, q ≠ pj_bs g + a → H'[q]? = H[q]?) → W p l e (pj_rm d) s m args below meth c H' (locs ++ [⟨pj_bs g + a, f.slot⟩]) c0 s0 (Z s args below) (F0 m (pc + 3) la (st.map (pj_v g))) := by
    intro H' e1 e2 e3
    rw [hsl] at e1 ⊢
    exact fin H' _ (hH.1.set hDD he ⟨_, hcl, t_OB.to (V := updV (vp_V (pj_fs g M a ci)) k v) ⟨_, e1, q2, qq3, t_set q4 hap hk v⟩ (fun j _ => vp_updV_set hlen v j)⟩ e3) (hDD.set he) (hH.2.1.put e2 e3 (hDD.2 a _ he)) e2
  by_cases hfb : (T k).2.2.2 = true
  · have hkd1 : pj_kd ci k = 1 ∨ pj_kd ci k = 2 := by
      have z0 : ¬ pj_kd ci k = 0 := fun h => by rw [(q0 h).2] at hfb; cases hfb
      have z3 : ¬ pj_kd ci k = 3 := fun h => by rw [(q3 h).2] at hfb; cases hfb
      omega
    have hinn := hin (by
        rcases hkd1 with h | h
        · exact h
        · rw [qk2 h] at hfb; cases hfb)
    have hinit : meth.name = "<init>" := by rw [C.2.2.2.1]; exact hinn.1
    rw [if_pos hfb] at hlay
    have hcf : m.cls = cf := by
      obtain ⟨_, _, c', _, _, _, -, -, hf', -, -, -, hown2, -⟩ := Cond.laysFinal_spec hlay
      have e1 : c' = cf := by have := hi.symm.trans hf'; simp at this; exact this.1.symm
      have hdecl : (T k).1 = pj_own d := by
        obtain ⟨-, C2, T2, N2, h2, h3⟩ := hinn
        cases h2.symm.trans hcl
        exact h3
      rw [hdecl] at hown2
      rw [← e1]; exact Option.some.inj (C.1.2.2.2.2.2.symm.trans hown2)
    have h6 := u_fits hfc hkC hkind (Or.inr hlay) hi (hty k hk) hn1 hn2
    exact W.putFinK C.1.1 C.1.2.1 C.1.2.2.2.2.2 (C.2.1 _ hli) hi hst hcf hinit (by rw [q2]; exact h6) q1 qq3 (by rw [hsl]; exact k2_hasslot (q4 k hk)) rfl rfl (C.2.2.2.2.2.1 _ _ _ hd) hend
  · rw [if_neg hfb] at hlay
    have h6 := u_store hfc hkC hkind hlay hi (hty k hk) hn1 hn2
    exact W.putK C.1.1 C.1.2.1 (f := f) ⟨C.1.2.2.2.2.2, C.2.1 _ hli, ⟨_, _, _, hi⟩, hst⟩ (by rw [q2]; exact h6) q1 qq3 (by rw [hsl]; exact k2_hasslot (q4 k hk)) rfl rfl (C.2.2.2.2.2.1 _ _ _ hd) hend
end PJT
