section PJM2
variable {l : Launch} {g : pj_G} {d : pj_MD} {X : State → Prop} {Z : pj_Z} {n c0 s0 pc : Nat} {ls : List (Nat × Value)} {st : List Value} {M : pj_M}
theorem pj_newq (pc' : Nat) {k idx : Nat} (hd : (pj_cd d).lookup pc = some (.anewarray idx, 3)) (hw : Cond.classLink (pj_own d) idx "PiecesThatFit$Desk" ∈ pj_TB) (hp : pc + 3 = pc') (hph : pj_ph g = false) (hs : pj_sh n = (5, k)) (hn : n < pj_NK) (hk : k ≤ 10000) (hcs : c0 + 1 ≤ (pj_rm d).cells ∧ s0 + k ≤ (pj_rm d).slots) (kk : pj_R l g d X Z (n + 1) (c0 + 1) (s0 + k) pc' ls (.ref n :: st) (pj_nw M n pj_dm)) : pj_R l g d X Z n c0 s0 pc ls (.int (pj_I (k : Int)) :: st) M := by
  intro p e s m args below meth c H locs la C hH hL
  subst hp
  have hts := C.2.1
  have hz := hH.2.2.1 hn
  have hin : pj_in (k : Int) := ⟨by omega, by omega⟩
  have hkk2 : (pj_I (k : Int)).toNatClampNeg = k := by unfold Int32.toNatClampNeg; rw [pj_toInt hin]; simp
  refine W.anew C.1.1 C.1.2.1 C.1.2.2.2.2.2 (hts _ hw) (va_AO.use C.2.2.1.2.2) (g := F0 m pc la (.int (pj_I (k : Int)) :: st.map (pj_v g))) rfl (C.2.2.2.2.2.1 _ _ _ hd) rfl ?_ (by rw [hkk2]; omega) hcs.1 (by rw [hkk2]; exact hcs.2) fun cA kA comp f1 f2 f3 f4 => ?_
  · rw [show (0 : Int32) = pj_I 0 from rfl, pj_lt hin pj_inz]; omega
  · rw [hkk2]
    have hcA : cA = pj_dA g 4 := by
      obtain ⟨-, -, -, -, -, h2⟩ := (C.2.2.1.1.2 4 _ rfl).2
      exact Option.some.inj (f1.symm.trans h2)
    have hkk := kk p e s m args below meth c (H.push ({ cls := cA, slots := Array.replicate k .null, vm := .none } : Cell)) locs la C (pj_H_push hH hn (by rw [Array.size_push]) (fun q hq => by rw [Array.getElem?_push, if_neg (Nat.ne_of_lt hq)]) (by
      rw [pj_ce_qa hs]
      show (H.push _)[pj_bs g + n]? = some (vp_cell _ _)
      have hf : (fun j => va_rf (pj_qa g (pj_nw M n pj_dm) n j)) = fun _ => Value.null := by funext x; simp [pj_qa, pj_nw, pj_dm, hph, va_rf]
      rw [← hz, Array.getElem?_push_size, vp_cell_q]
      show _ = some (arrV (pj_dA g 4) k (fun j => va_rf (pj_qa g (pj_nw M n pj_dm) n j)))
      rw [hf, ← arrV_new, hcA])) hL
    have e5 : pj_v g (.ref n) = .ref (pj_bs g + n) := pj_v_ref g (Nat.lt_trans hn (by decide))
    rw [List.map_cons, e5, ← hz] at hkk
    exact hkk
theorem pj_aast (pc' : Nat) {a k b : Nat} {i : Int} (hd : (pj_cd d).lookup pc = some (.aastore, 1)) (hp : pc + 1 = pc') (hph : pj_ph g = false) (hs : pj_sh a = (5, k)) (ha : a < n) (hsb : pj_sh b = (0, 1)) (hb : b < n) (hN : n ≤ 1000000) (h0 : 0 ≤ i) (h1 : i < k) (hk : k < 2147483648) (kk : pj_R l g d X Z n c0 s0 pc' ls st (pj_up M a i (b : Int))) : pj_R l g d X Z n c0 s0 pc ls (.ref b :: .int (pj_I i) :: .ref a :: st) M := by
  intro p e s m args below meth c H locs la C hH hL
  subst hp
  show W p l e (pj_rm d) s m args below meth c H locs c0 s0 (Z s args below) (F0 m pc la (pj_v g (.ref b) :: .int (pj_I i) :: pj_v g (.ref a) :: st.map (pj_v g)))
  rw [pj_v_ref g (by omega : a < 1000000), pj_v_ref g (by omega : b < 1000000)]
  obtain ⟨hi1, hi2⟩ := pj_idx h0 h1 hk
  have hDD := pj_ws_D g n M
  have he : (pj_ws g n M)[a]? = some (pj_bs g + a, .inl (pj_dA g 4, k, .inr (.inr (.inr (.inr (pj_qa g M a)))))) := by rw [pj_ws_get ha, pj_ce_qa hs]
  have hv : (pj_ws g n M)[b]? = some (pj_bs g + b, .inr (1, pj_fs g M b 1)) := by rw [pj_ws_get hb, pj_ce_ob hsb]
  have hset : (pj_ws g n M).set a (pj_bs g + a, .inl (pj_dA g 4, k, .inr (.inr (.inr (.inr (va_up (pj_qa g M a) i.toNat (some (pj_bs g + b)))))))) = pj_ws g n (pj_up M a i (b : Int)) := by
    refine pj_ws_set ?_ pj_up_other
    rw [pj_ce_qa hs]
    congr 7
    funext x
    unfold pj_qa pj_up va_up
    rw [hph]
    by_cases e : x = i.toNat
    · have : (x : Int) = i := by omega
      rw [if_pos e]
      have h3 : ¬ ((b : Int) < 0) := by omega
      simp [this, h3]
    · have : ¬ (x : Int) = i := by omega
      simp [e, this]
  have hlt : (pj_I i).toNatClampNeg < k := Nat.not_le.mp fun q => hi1 (Or.inr q)
  have hK := C.2.2.1.1
  obtain ⟨r', hr', cellV, g1, g2, g3, -⟩ := hH.1 b _ hv
  have hcl : vwCl[1]? = some (RX1, TX1, 4) := rfl
  have hcls := (hK.1 1 _ hcl).2
  have ht : (pj_tys g)[4]? = some (pj_dA g 4, .object "PiecesThatFit$Desk") := rfl
  obtain ⟨kA, comp, k1, k2, k3, -⟩ := (hK.2 4 _ ht).2
  have hcomp : comp = (pj_D g).1 1 := Option.some.inj (k3.symm.trans hcls.1)
  subst hcomp
  obtain ⟨kC, hkC, -⟩ := hcls.2
  refine W.aast C.1.1 C.1.2.1 (hH.1 a _ he) (fun q h => by cases h) (fun h => by cases h) k1 k2 rfl hkC ⟨fun q => hi1 (Or.inl q), by show _ < (arrV _ _ _).slots.size; rw [arrV_size]; exact hlt⟩ g1 (fun q h => by rw [g3] at h; cases h) (by rw [g2]; exact hkC) (by rw [g2]; exact va_assign hcls) rfl rfl (C.2.2.2.2.2.1 _ _ _ hd) fun H1 e5 z oq => ?_
  have hP1 := hH.1.set hDD he (e := .inl (pj_dA g 4, k, .inr (.inr (.inr (.inr (va_up (pj_qa g M a) i.toNat (some (pj_bs g + b)))))))) (H1 := H1) (by
    show H1[pj_bs g + a]? = some (vp_cell _ _)
    rw [e5]
    rw [vp_cell_q, vp_cell_q, arrV_store, hi2]
    congr 2
    funext q
    by_cases hq : q = i.toNat
    · subst hq
      simp [updV, va_up, va_rf]
    · simp [updV, va_up, hq]) oq
  rw [hset] at hP1
  exact kk p e s m args below meth c H1 _ la C ⟨hP1, hH.2.1.put z oq (hDD.2 a _ he), fun h => by rw [z]; exact hH.2.2.1 h, hH.2.2.2⟩ hL
def pj_LI (own : String) (idx : Nat) (d' : pj_MD) : Prop := (Cond.methodLink own idx d'.1 ∈ pj_TB ∨ ∃ host, Cond.methodLinkNest own idx d'.1 host ∈ pj_NW) ∧ Cond.instanceMethod d'.1 ∈ pj_TB ∧ Cond.initialized d'.1.cls ∈ pj_TB ∧ Cond.code d'.1 d'.2.1 d'.2.2.1 none ∈ pj_TB ∧ d'.2.2.2.1 = none ∧ d'.1.name = "<init>" ∧ (d'.1.cls ≠ "java/lang/invoke/MethodHandle" ∧ d'.1.cls ≠ "java/lang/invoke/VarHandle" ∧ (parseMethodDescriptor d'.1.desc).map (fun d => d.parameters.length) = some 0)
theorem pj_callI (pc' : Nat) {idx b : Nat} {d' : pj_MD} {Q1 : Option Value → Nat → pj_M → Prop} (hd : (pj_cd d).lookup pc = some (.invokespecial idx, 3)) (hw : pj_LI (pj_own d) idx d') (hp : pc + 3 = pc') (hcat : (st.map fun v => v.category).sum ≤ 8) (hrm : pj_rooms d d' c0 s0) (hb : b < 1000000)
    (hS : pj_S l g d' [.ref b] n M Q1) (kk : ∀ v n' M', Q1 v n' M' → pj_R l g d X Z n' (c0 + (pj_rm d').cells) (s0 + (pj_rm d').slots) pc' ls (v.toList ++ st) M') : pj_R l g d X Z n c0 s0 pc ls (.ref b :: st) M := by
  intro p e s m args below meth c H locs la C hH hL
  subst hp
  have hts := C.2.1
  obtain ⟨w1, w2, w4, w5, hret, hini, hdd⟩ := hw
  have hpv : pj_v g (.ref b) = .ref (pj_bs g + b) := pj_v_ref g hb
  obtain ⟨y', cc', mL', ret', own', rm', cd'⟩ := d'
  dsimp only at hret w1 w2 w4 w5 hini hdd hS hrm kk ⊢
  subst hret
  refine pj_after (d' := (y', cc', mL', none, own', rm', cd')) (a := (Value.ref (pj_bs g + b) :: ([] : List Value)).toArray) ?_ C hH hL kk
  have hpre : PreS s H (va_Pc ([Value.ref b].map (pj_v g)) (fun U => va_P (pj_D g) vwCl (pj_ws g n M) U.heap ∧ (n < pj_NK → U.heap.size = pj_bs g + n) ∧ n ≤ pj_NK ∧ pj_bs g ≤ U.heap.size ∧ pj_K g U)) (.ref (pj_bs g + b) :: []) :=
    ⟨pj_blind, fun U hU hW => ⟨by rw [List.map_cons, hpv]; rfl, by rw [hU]; exact hH.1, by rw [hU]; exact hH.2.2.1, hH.2.2.2, by rw [hU]; exact Nat.le_trans C.2.2.2.2.1 hH.2.1.1, C.2.2.1.warm hW⟩⟩
  have hst : ((Value.ref b :: st).map (pj_v g)) = ([] : List Value).reverse ++ .ref (pj_bs g + b) :: st.map (pj_v g) := by rw [List.map_cons, hpv]; rfl
  have hct : 2 * (F0 m pc la ((Value.ref b :: st).map (pj_v g))).monitorRoom + ((st.map (pj_v g)).map fun v => v.category).sum ≤ 8 := lv_room (by rw [pj_catsum]; exact hcat)
  rcases w1 with w1 | ⟨host, w1⟩
  · exact va_runI (own := pj_own d) (As := []) (nL := d.2.2.1) ⟨C.1.1, C.1.2.1, C.1.2.2.2.2.1, C.1.2.2.2.2.2, hts⟩ hS ⟨callB_of 0 hts (pj_goodIn (d' := (y', cc', mL', none, own', rm', cd')) w5) rfl rfl rfl (hts _ w4) (hts _ w1) hdd hrm.1, hini, hts _ w2⟩ hpre rfl rfl hL.1 hst hct (C.2.2.2.2.2.1 _ _ _ hd) hrm.2
  · exact va_runIN (own := pj_own d) (host := host) (As := []) (nL := d.2.2.1) ⟨C.1.1, C.1.2.1, C.1.2.2.2.2.1, C.1.2.2.2.2.2, hts⟩ hS ⟨va_cnB 0 hts (pj_goodIn (d' := (y', cc', mL', none, own', rm', cd')) w5) rfl rfl rfl (C.2.2.1.2.1 _ w1) (hts _ w4) hdd hrm.1, hini, hts _ w2⟩ hpre rfl rfl hL.1 hst hct (C.2.2.2.2.2.1 _ _ _ hd) hrm.2
end PJM2
theorem pj_up_ne {M : pj_M} {a b : Nat} {k v j : Int} (h : b ≠ a) : pj_up M a k v b j = M b j := by simp [pj_up, h]
theorem pj_up_nk {M : pj_M} {a b : Nat} {k v j : Int} (h : j ≠ k) : pj_up M a k v b j = M b j := by simp [pj_up, h]
theorem pj_up_eq {M : pj_M} {a : Nat} {k v : Int} : pj_up M a k v a k = v := by simp [pj_up]
theorem pj_nw_ne {M : pj_M} {n b : Nat} {f : Int → Int} {j : Int} (h : b ≠ n) : pj_nw M n f b j = M b j := by simp [pj_nw, h]
