section PJU
variable {l : Launch} {g : pj_G} {d : pj_MD} {X : State → Prop} {Z : pj_Z} {n c0 s0 pc : Nat} {ls : List (Nat × Value)} {st : List Value} {M : pj_M}
theorem pj_puti (pc' ci k : Nat) {idx a : Nat} {x : Int} (hd : (pj_cd d).lookup pc = some (.putfield idx, 3)) (hF : pj_F (pj_own d) idx ci k) (hkd : pj_kd ci k = 0) (hp : pc + 3 = pc') (hs : pj_sh a = (0, ci)) (ha : a < n) (hN : n ≤ 1000000) (kk : pj_R l g d X Z n c0 s0 pc' ls st (pj_up M a (k : Nat) x)) : pj_R l g d X Z n c0 s0 pc ls (.int (pj_I x) :: .ref a :: st) M := by
  intro p e s m args below meth c H locs la C hH hL
  subst hp
  show W p l e (pj_rm d) s m args below meth c H locs c0 s0 (Z s args below) (F0 m pc la (.int (pj_I x) :: pj_v g (.ref a) :: st.map (pj_v g)))
  rw [pj_v_ref g (by omega)]
  refine pj_put0 (x := x) hd hF hs ha hN ?_ ?_ (fun h => by rw [hkd] at h; cases h) (by omega) kk p e s m args below meth c H locs la C hH hL
  · simp [pj_fv, hkd, pj_up]
  · intro ty h0 _ _
    rw [h0 hkd]
    exact ⟨rfl, rfl⟩
theorem pj_putz (pc' ci k : Nat) {idx a : Nat} {x : Int} (hd : (pj_cd d).lookup pc = some (.putfield idx, 3)) (hF : pj_F (pj_own d) idx ci k) (hkd : pj_kd ci k = 3) (hp : pc + 3 = pc') (hs : pj_sh a = (0, ci)) (ha : a < n) (hN : n ≤ 1000000) (hx : x = 0 ∨ x = 1) (kk : pj_R l g d X Z n c0 s0 pc' ls st (pj_up M a (k : Nat) x)) : pj_R l g d X Z n c0 s0 pc ls (.int (pj_I x) :: .ref a :: st) M := by
  intro p e s m args below meth c H locs la C hH hL
  subst hp
  show W p l e (pj_rm d) s m args below meth c H locs c0 s0 (Z s args below) (F0 m pc la (.int (pj_I x) :: pj_v g (.ref a) :: st.map (pj_v g)))
  rw [pj_v_ref g (by omega)]
  refine pj_put0 (x := x) hd hF hs ha hN ?_ ?_ (fun h => by rw [hkd] at h; cases h) (by omega) kk p e s m args below meth c H locs la C hH hL
  · simp [pj_fv, hkd, pj_up]
  · intro ty _ h3 _
    rw [h3 hkd]
    rcases hx with rfl | rfl <;> exact ⟨by decide, by decide⟩
/-- a reference is put: one that may change, or, while all is being made, one that stays -/
theorem pj_putr (pc' ci k : Nat) {idx a b : Nat} (hd : (pj_cd d).lookup pc = some (.putfield idx, 3)) (hF : pj_F (pj_own d) idx ci k) (hkd : pj_kd ci k = 2 ∨ (pj_kd ci k = 1 ∧ pj_ph g = false ∧ d.1.name = "<init>" ∧ ∃ C T N, vwCl[ci]? = some (C, T, N) ∧ (T k).1 = pj_own d)) (hp : pc + 3 = pc') (hs : pj_sh a = (0, ci)) (ha : a < n) (hN : n ≤ 1000000) (hb : b < 1000000) (kk : pj_R l g d X Z n c0 s0 pc' ls st (pj_up M a (k : Nat) (b : Int))) : pj_R l g d X Z n c0 s0 pc ls (.ref b :: .ref a :: st) M := by
  intro p e s m args below meth c H locs la C hH hL
  subst hp
  show W p l e (pj_rm d) s m args below meth c H locs c0 s0 (Z s args below) (F0 m pc la (pj_v g (.ref b) :: pj_v g (.ref a) :: st.map (pj_v g)))
  rw [pj_v_ref g (by omega : a < 1000000), pj_v_ref g hb]
  have h0 : ¬ ((b : Int) < 0) := by omega
  refine pj_put0 (x := (b : Int)) hd hF hs ha hN ?_ ?_ (fun h => ?_) ?_ kk p e s m args below meth c H locs la C hH hL
  · rcases hkd with h | ⟨h, h2, _⟩
    · simp [pj_fv, h, pj_up, pj_rv, h0]
    · simp [pj_fv, h, h2, pj_up, pj_rv, h0]
  · intro ty _ _ h12
    rcases h12 (by omega) with ⟨z, rfl⟩ | ⟨z, rfl⟩ <;> exact ⟨rfl, rfl⟩
  · rcases hkd with h2 | h2
    · omega
    · exact h2.2.2
  · omega
theorem pj_iald (pc' : Nat) {a k : Nat} {i : Int} (hd : (pj_cd d).lookup pc = some (.iaload, 1)) (hp : pc + 1 = pc') (hs : pj_sh a = (1, k)) (ha : a < n) (hN : n ≤ 1000000) (h0 : 0 ≤ i) (h1 : i < k) (hk : k < 2147483648) (kk : pj_R l g d X Z n c0 s0 pc' ls (.int (pj_I (M a i)) :: st) M) : pj_R l g d X Z n c0 s0 pc ls (.int (pj_I i) :: .ref a :: st) M := by
  intro p e s m args below meth c H locs la C hH hL
  subst hp
  show W p l e (pj_rm d) s m args below meth c H locs c0 s0 (Z s args below) (F0 m pc la (.int (pj_I i) :: pj_v g (.ref a) :: st.map (pj_v g)))
  rw [pj_v_ref g (by omega)]
  obtain ⟨hi1, hi2⟩ := pj_idx h0 h1 hk
  refine va_iald C.1.1 C.1.2.1 C.2.2.1.1 hH.1 a 0 (by rw [pj_ws_get ha, pj_ce_ar hs (Or.inl rfl)]) rfl hi1 (C.2.2.2.2.2.1 _ _ _ hd) ?_
  rw [hi2, show pj_ia M a i.toNat = pj_I (M a i) by unfold pj_ia; rw [show ((i.toNat : Nat) : Int) = i by omega]]
  exact kk p e s m args below meth c H locs la C hH hL
theorem pj_bald (pc' : Nat) {a t k : Nat} {i : Int} (hd : (pj_cd d).lookup pc = some (.baload, 1)) (hp : pc + 1 = pc') (hs : pj_sh a = (t, k)) (ht : t = 2 ∨ t = 3) (ha : a < n) (hN : n ≤ 1000000) (h0 : 0 ≤ i) (h1 : i < k) (hk : k < 2147483648) (kk : pj_R l g d X Z n c0 s0 pc' ls (.int (pj_I (M a i)) :: st) M) : pj_R l g d X Z n c0 s0 pc ls (.int (pj_I i) :: .ref a :: st) M := by
  intro p e s m args below meth c H locs la C hH hL
  subst hp
  show W p l e (pj_rm d) s m args below meth c H locs c0 s0 (Z s args below) (F0 m pc la (.int (pj_I i) :: pj_v g (.ref a) :: st.map (pj_v g)))
  rw [pj_v_ref g (by omega)]
  obtain ⟨hi1, hi2⟩ := pj_idx h0 h1 hk
  have hv : pj_ia M a i.toNat = pj_I (M a i) := by unfold pj_ia; rw [show ((i.toNat : Nat) : Int) = i by omega]
  have hkk := kk p e s m args below meth c H locs la C hH hL
  rw [← hv, ← hi2] at hkk
  rcases ht with rfl | rfl
  · exact va_zald C.1.1 C.1.2.1 C.2.2.1.1 hH.1 a 1 (by rw [pj_ws_get ha, pj_ce_ar hs (Or.inr (Or.inl rfl))]) rfl hi1 (C.2.2.2.2.2.1 _ _ _ hd) hkk
  · exact va_bald C.1.1 C.1.2.1 C.2.2.1.1 hH.1 a 2 (by rw [pj_ws_get ha, pj_ce_ar hs (Or.inr (Or.inr rfl))]) rfl hi1 (C.2.2.2.2.2.1 _ _ _ hd) hkk
theorem pj_lald (pc' : Nat) {a k : Nat} {i : Int} (hd : (pj_cd d).lookup pc = some (.laload, 1)) (hp : pc + 1 = pc') (hs : pj_sh a = (4, k)) (ha : a < n) (hN : n ≤ 1000000) (h0 : 0 ≤ i) (h1 : i < k) (hk : k < 2147483648) (kk : pj_R l g d X Z n c0 s0 pc' ls (.long (pj_L (M a i)) :: st) M) : pj_R l g d X Z n c0 s0 pc ls (.int (pj_I i) :: .ref a :: st) M := by
  intro p e s m args below meth c H locs la C hH hL
  subst hp
  show W p l e (pj_rm d) s m args below meth c H locs c0 s0 (Z s args below) (F0 m pc la (.int (pj_I i) :: pj_v g (.ref a) :: st.map (pj_v g)))
  rw [pj_v_ref g (by omega)]
  obtain ⟨hi1, hi2⟩ := pj_idx h0 h1 hk
  refine va_lald C.1.1 C.1.2.1 C.2.2.1.1 hH.1 a 3 (by rw [pj_ws_get ha, pj_ce_lo hs]) rfl hi1 (C.2.2.2.2.2.1 _ _ _ hd) ?_
  rw [hi2, show pj_la M a i.toNat = pj_L (M a i) by unfold pj_la; rw [show ((i.toNat : Nat) : Int) = i by omega]]
  exact kk p e s m args below meth c H locs la C hH hL
theorem pj_aald (pc' : Nat) {a k b : Nat} {i : Int} (hd : (pj_cd d).lookup pc = some (.aaload, 1)) (hp : pc + 1 = pc') (hg : pj_ph g = true) (hs : pj_sh a = (5, k)) (ha : a < n) (hN : n ≤ 1000000) (h0 : 0 ≤ i) (h1 : i < k) (hk : k < 2147483648) (hb : pj_rf a i.toNat = b) (hb2 : b < 1000000) (kk : pj_R l g d X Z n c0 s0 pc' ls (.ref b :: st) M) : pj_R l g d X Z n c0 s0 pc ls (.int (pj_I i) :: .ref a :: st) M := by
  intro p e s m args below meth c H locs la C hH hL
  subst hp; subst hb
  show W p l e (pj_rm d) s m args below meth c H locs c0 s0 (Z s args below) (F0 m pc la (.int (pj_I i) :: pj_v g (.ref a) :: st.map (pj_v g)))
  rw [pj_v_ref g (by omega)]
  obtain ⟨hi1, hi2⟩ := pj_idx h0 h1 hk
  refine va_aldq C.1.1 C.1.2.1 C.2.2.1.1 hH.1 a 4 (by rw [pj_ws_get ha, pj_ce_qa hs]) rfl hi1 (C.2.2.2.2.2.1 _ _ _ hd) ?_
  have hkk := kk p e s m args below meth c H locs la C hH hL
  have e1 : va_rf (pj_qa g M a (pj_I i).toNatClampNeg) = pj_v g (.ref (pj_rf a i.toNat)) := by
    rw [hi2, pj_v_ref g hb2]; simp [pj_qa, hg, va_rf]
  rw [e1]
  exact hkk
theorem pj_iast (pc' : Nat) {a k : Nat} {i x : Int} (hd : (pj_cd d).lookup pc = some (.iastore, 1)) (hp : pc + 1 = pc') (hs : pj_sh a = (1, k)) (ha : a < n) (hN : n ≤ 1000000) (h0 : 0 ≤ i) (h1 : i < k) (hk : k < 2147483648) (kk : pj_R l g d X Z n c0 s0 pc' ls st (pj_up M a i x)) : pj_R l g d X Z n c0 s0 pc ls (.int (pj_I x) :: .int (pj_I i) :: .ref a :: st) M := by
  intro p e s m args below meth c H locs la C hH hL
  subst hp
  show W p l e (pj_rm d) s m args below meth c H locs c0 s0 (Z s args below) (F0 m pc la (.int (pj_I x) :: .int (pj_I i) :: pj_v g (.ref a) :: st.map (pj_v g)))
  rw [pj_v_ref g (by omega)]
  obtain ⟨hi1, hi2⟩ := pj_idx h0 h1 hk
  have he : (pj_ws g n M)[a]? = some (pj_bs g + a, .inl (pj_dA g 0, k, .inl (pj_ia M a))) := by rw [pj_ws_get ha, pj_ce_ar hs (Or.inl rfl)]
  have hDD := pj_ws_D g n M
  have hset : (pj_ws g n M).set a (pj_bs g + a, .inl (pj_dA g 0, k, .inl (upd (pj_ia M a) i.toNat (pj_I x)))) = pj_ws g n (pj_up M a i x) := by
    refine pj_ws_set ?_ pj_up_other
    rw [pj_ce_ar hs (Or.inl rfl), pj_up_ia M a h0 x]
  have ht : (pj_tys g)[0]? = some (pj_dA g 0, .int) := rfl
  refine W.iast C.1.1 C.1.2.1 (hH.1 a _ he) ((C.2.2.1.1.2 0 _ ht).1 k (fun j => .int (pj_ia M a j))) (fun q => by cases q) (by show ¬ (pj_I i < 0 ∨ (arrV _ _ _).slots.size ≤ _); rw [arrV_size]; exact hi1) rfl rfl (C.2.2.2.2.2.1 _ _ _ hd) fun H1 e5 z oq => ?_
  have hP1 := hH.1.set hDD he (e := .inl (pj_dA g 0, k, .inl (upd (pj_ia M a) i.toNat (pj_I x)))) (H1 := H1) (by
    show H1[pj_bs g + a]? = some (vp_cell _ _)
    rw [e5]
    rw [vp_cell_i, vp_cell_i, arrV_store, hi2]
    congr 2
    funext q
    by_cases hq : q = i.toNat
    · subst hq
      simp [updV, upd]
    · simp [updV, upd, hq]) oq
  rw [hset] at hP1
  exact kk p e s m args below meth c H1 _ la C ⟨hP1, hH.2.1.put z oq (hDD.2 a _ he), fun h => by rw [z]; exact hH.2.2.1 h, hH.2.2.2⟩ hL
theorem pj_bast (pc' : Nat) {a t k : Nat} {i x : Int} (hd : (pj_cd d).lookup pc = some (.bastore, 1)) (hp : pc + 1 = pc') (hn : n = pj_NK) (hs : pj_sh a = (t, k)) (ht : (t = 2 ∧ (x = 0 ∨ x = 1)) ∨ (t = 3 ∧ -128 ≤ x ∧ x ≤ 127)) (ha : a < n) (h0 : 0 ≤ i) (h1 : i < k) (hk : k < 2147483648) (kk : pj_R l g d X Z n c0 s0 pc' ls st (pj_up M a i x)) : pj_R l g d X Z n c0 s0 pc ls (.int (pj_I x) :: .int (pj_I i) :: .ref a :: st) M := by
  intro p e s m args below meth c H locs la C hH hL
  subst hp
  show W p l e (pj_rm d) s m args below meth c H locs c0 s0 (Z s args below) (F0 m pc la (.int (pj_I x) :: .int (pj_I i) :: pj_v g (.ref a) :: st.map (pj_v g)))
  rw [pj_v_ref g (by rw [hn] at ha; exact Nat.lt_trans ha (by decide))]
  obtain ⟨hi1, hi2⟩ := pj_idx h0 h1 hk
  have ht1 : t = 1 ∨ t = 2 ∨ t = 3 := by omega
  have he : (pj_ws g n M)[a]? = some (pj_bs g + a, .inl (pj_dA g (t - 1), k, .inl (pj_ia M a))) := by rw [pj_ws_get ha, pj_ce_ar hs ht1]
  have hset : (pj_ws g n M).set a (pj_bs g + a, .inl (pj_dA g (t - 1), k, .inl (upd (pj_ia M a) i.toNat (pj_I x)))) = pj_ws g n (pj_up M a i x) := by
    refine pj_ws_set ?_ pj_up_other
    rw [pj_ce_ar hs ht1, pj_up_ia M a h0 x]
  have fin : ∀ (H1 : Heap) (locs1 : List Loc), va_P (pj_D g) vwCl ((pj_ws g n M).set a (pj_bs g + a, .inl (pj_dA g (t - 1), k, .inl (upd (pj_ia M a) i.toNat (pj_I x))))) H1 → va_S (pj_A g) s.heap H1 locs1 → W p l e (pj_rm d) s m args below meth c H1 locs1 c0 s0 (Z s args below) (F0 m (pc + 1) la (st.map (pj_v g))) := by
    intro H1 locs1 hP1 hS1
    rw [hset] at hP1
    exact kk p e s m args below meth c H1 locs1 la C ⟨hP1, hS1, fun h => by omega, hH.2.2.2⟩ hL
  rcases ht with ⟨rfl, hx⟩ | ⟨rfl, hx1, hx2⟩
  · refine va_zast C.1.1 C.1.2.1 C.2.2.1.1 hH.1 (pj_ws_D g n M) hH.2.1 a 1 he rfl hi1 (C.2.2.2.2.2.1 _ _ _ hd) fun H1 locs1 q1 _ q3 => fin H1 locs1 ?_ q3
    rw [hi2, show vp_nar .boolean (pj_I x) = pj_I x by rcases hx with rfl | rfl <;> decide] at q1
    exact q1
  · refine va_bast C.1.1 C.1.2.1 C.2.2.1.1 hH.1 (pj_ws_D g n M) hH.2.1 a 2 he rfl hi1 (C.2.2.2.2.2.1 _ _ _ hd) fun H1 locs1 q1 _ q3 => fin H1 locs1 ?_ q3
    rw [hi2, show vp_nar .byte (pj_I x) = pj_I x by
      rw [vp_nar_byte]
      apply Int32.toInt_inj.mp
      rw [Int8.toInt_toInt32, Int32.toInt_toInt8, pj_toInt ⟨by omega, by omega⟩]
      exact Int.bmod_eq_of_le (by omega) (by omega)] at q1
    exact q1
theorem pj_last (pc' : Nat) {a k : Nat} {i x : Int} (hd : (pj_cd d).lookup pc = some (.lastore, 1)) (hp : pc + 1 = pc') (hn : n = pj_NK) (hs : pj_sh a = (4, k)) (ha : a < n) (h0 : 0 ≤ i) (h1 : i < k) (hk : k < 2147483648) (kk : pj_R l g d X Z n c0 s0 pc' ls st (pj_up M a i x)) : pj_R l g d X Z n c0 s0 pc ls (.long (pj_L x) :: .int (pj_I i) :: .ref a :: st) M := by
  intro p e s m args below meth c H locs la C hH hL
  subst hp
  show W p l e (pj_rm d) s m args below meth c H locs c0 s0 (Z s args below) (F0 m pc la (.long (pj_L x) :: .int (pj_I i) :: pj_v g (.ref a) :: st.map (pj_v g)))
  rw [pj_v_ref g (by rw [hn] at ha; exact Nat.lt_trans ha (by decide))]
  obtain ⟨hi1, hi2⟩ := pj_idx h0 h1 hk
  have hset : (pj_ws g n M).set a (pj_bs g + a, .inl (pj_dA g 3, k, .inr (.inl (vp_updL (pj_la M a) i.toNat (pj_L x))))) = pj_ws g n (pj_up M a i x) := by
    refine pj_ws_set ?_ pj_up_other
    rw [pj_ce_lo hs, pj_up_la M a h0 x]
  refine va_last C.1.1 C.1.2.1 C.2.2.1.1 hH.1 (pj_ws_D g n M) hH.2.1 a 3 (by rw [pj_ws_get ha, pj_ce_lo hs]) rfl hi1 (C.2.2.2.2.2.1 _ _ _ hd) fun H1 locs1 q1 _ q3 => ?_
  rw [hi2, hset] at q1
  exact kk p e s m args below meth c H1 locs1 la C ⟨q1, q3, fun h => by omega, hH.2.2.2⟩ hL
end PJU
