abbrev pj_ob (a ci : Nat) : Prop := pj_sh a = (0, ci) ∧ a < pj_NK
abbrev pj_oa (a t : Nat) : Prop := (pj_sh a).1 = t ∧ a < pj_NK
abbrev pj_ol (a t k : Nat) : Prop := pj_sh a = (t, k) ∧ a < pj_NK
theorem pj_NKle : pj_NK ≤ 1000000 := by decide
theorem pj_len_small (a : Nat) : (pj_sh a).2 < 2147483648 := by
  by_cases h : a < pj_NK
  · have : ∀ b, b < pj_NK → (pj_sh b).2 < 2147483648 := by decide +kernel
    exact this a h
  · have h1 : pj_sh a = (9, 0) := by
      have hl : pj_lay.length = pj_NK := by decide +kernel
      unfold pj_sh
      rw [List.getD_eq_getElem?_getD, List.getElem?_eq_none (by omega)]
      rfl
    rw [h1]; decide
abbrev pj_qi (Q : Int → pj_M → Prop) : Option Value → Nat → pj_M → Prop := fun v n M => n = pj_NK ∧ ∃ r : Int, v = some (.int (pj_I r)) ∧ Q r M
abbrev pj_ql (Q : Int → pj_M → Prop) : Option Value → Nat → pj_M → Prop := fun v n M => n = pj_NK ∧ ∃ r : Int, v = some (.long (pj_L r)) ∧ Q r M
abbrev pj_qv (Q : pj_M → Prop) : Option Value → Nat → pj_M → Prop := fun v n M => n = pj_NK ∧ v = none ∧ Q M
abbrev pj_qr (ci : Nat) (Q : Nat → pj_M → Prop) : Option Value → Nat → pj_M → Prop := fun v n M => n = pj_NK ∧ ∃ r : Nat, v = some (.ref r) ∧ pj_ob r ci ∧ Q r M
/-- the least that a loop needs -/
def pj_lp {S : Type} (F : (S → Prop) → S → Prop) (s : S) : Prop := ∀ P : S → Prop, (∀ s, F P s → P s) → P s
theorem pj_lp_inv {S : Type} {F : (S → Prop) → S → Prop} (I : S → Prop) (μ : S → Nat) (h : ∀ s, I s → ∀ P : S → Prop, (∀ s', I s' → μ s' < μ s → P s') → F P s) (s : S) (hs : I s) : pj_lp F s := by
  intro P hP
  have key : ∀ (k : Nat) (s : S), μ s < k → I s → P s := by
    intro k
    induction k with
    | zero => intro s h1 _; omega
    | succ k ih => intro s h1 hI; exact hP s (h s hI P (fun s' h2 h3 => ih s' (by omega) h2))
  exact key (μ s + 1) s (by omega) hs
section PJN
variable {l : Launch} {g : pj_G} {d : pj_MD} {X : State → Prop} {Z : pj_Z} {pc : Nat} {ls : List (Nat × Value)} {st : List Value} {M : pj_M}
theorem pn_nm {x : Int} (h : ∀ y : Int, y = x → pj_R l g d X Z pj_NK 0 0 pc ls (.int (pj_I y) :: st) M) : pj_R l g d X Z pj_NK 0 0 pc ls (.int (pj_I x) :: st) M := h x rfl
theorem pn_nml {x : Int} (h : ∀ y : Int, y = x → pj_R l g d X Z pj_NK 0 0 pc ls (.long (pj_L y) :: st) M) : pj_R l g d X Z pj_NK 0 0 pc ls (.long (pj_L x) :: st) M := h x rfl
theorem pn_nmM (h : ∀ M' : pj_M, M' = M → pj_R l g d X Z pj_NK 0 0 pc ls st M') : pj_R l g d X Z pj_NK 0 0 pc ls st M := h M rfl
theorem pn_sub {ls' : List (Nat × Value)} (is : List Nat) (h : is.filterMap (fun i => ls[i]?) = ls') (kk : pj_R l g d X Z pj_NK 0 0 pc ls' st M) : pj_R l g d X Z pj_NK 0 0 pc ls st M := by
  refine pj_sub_ls (fun q hq => ?_) kk
  rw [← h] at hq
  obtain ⟨i, -, hi⟩ := List.mem_filterMap.mp hq
  exact List.mem_of_getElem? hi
theorem pn_geti (pc' ci k : Nat) (kx : Int) {idx a : Nat} (o : pj_ob a ci) (hd : (pj_cd d).lookup pc = some (.getfield idx, 3)) (hF : pj_F (pj_own d) idx ci k) (hkd : pj_kd ci k = 0 ∨ pj_kd ci k = 3) (hp : pc + 3 = pc') (hk : ((k : Nat) : Int) = kx) (kk : pj_R l g d X Z pj_NK 0 0 pc' ls (.int (pj_I (M a kx)) :: st) M) : pj_R l g d X Z pj_NK 0 0 pc ls (.ref a :: st) M := by
  subst hk
  exact pj_geti pc' ci k hd hF hkd hp o.1 o.2 pj_NKle kk
theorem pn_getr (pc' ci k : Nat) {idx a : Nat} (hg : pj_ph g = true) (o : pj_ob a ci) (ob : pj_rf a k < pj_NK) (hd : (pj_cd d).lookup pc = some (.getfield idx, 3)) (hF : pj_F (pj_own d) idx ci k) (hkd : pj_kd ci k = 1) (hp : pc + 3 = pc') (kk : pj_R l g d X Z pj_NK 0 0 pc' ls (.ref (pj_rf a k) :: st) M) : pj_R l g d X Z pj_NK 0 0 pc ls (.ref a :: st) M :=
  pj_getr pc' ci k hd hF hkd hp hg o.1 o.2 pj_NKle rfl (Nat.lt_of_lt_of_le ob pj_NKle) kk
theorem pn_getd (pc' ci k : Nat) (kx : Int) {idx a b : Nat} (o : pj_ob a ci) (hb : M a kx = (b : Int)) (hb2 : b < pj_NK) (hd : (pj_cd d).lookup pc = some (.getfield idx, 3)) (hF : pj_F (pj_own d) idx ci k) (hkd : pj_kd ci k = 2) (hp : pc + 3 = pc') (hk : ((k : Nat) : Int) = kx) (kk : pj_R l g d X Z pj_NK 0 0 pc' ls (.ref b :: st) M) : pj_R l g d X Z pj_NK 0 0 pc ls (.ref a :: st) M := by
  subst hk
  exact pj_getd pc' ci k hd hF (Or.inl hkd) hp o.1 o.2 pj_NKle hb (Nat.lt_of_lt_of_le hb2 pj_NKle) kk
theorem pn_puti (pc' ci k : Nat) (kx : Int) {idx a : Nat} {x : Int} (o : pj_ob a ci) (hd : (pj_cd d).lookup pc = some (.putfield idx, 3)) (hF : pj_F (pj_own d) idx ci k) (hkd : pj_kd ci k = 0) (hp : pc + 3 = pc') (hk : ((k : Nat) : Int) = kx) (kk : ∀ M', M' = pj_up M a kx x → pj_R l g d X Z pj_NK 0 0 pc' ls st M') : pj_R l g d X Z pj_NK 0 0 pc ls (.int (pj_I x) :: .ref a :: st) M := by
  subst hk
  exact pj_puti pc' ci k hd hF hkd hp o.1 o.2 pj_NKle (kk _ rfl)
theorem pn_putz (pc' ci k : Nat) (kx : Int) {idx a : Nat} {x : Int} (o : pj_ob a ci) (hx : x = 0 ∨ x = 1) (hd : (pj_cd d).lookup pc = some (.putfield idx, 3)) (hF : pj_F (pj_own d) idx ci k) (hkd : pj_kd ci k = 3) (hp : pc + 3 = pc') (hk : ((k : Nat) : Int) = kx) (kk : ∀ M', M' = pj_up M a kx x → pj_R l g d X Z pj_NK 0 0 pc' ls st M') : pj_R l g d X Z pj_NK 0 0 pc ls (.int (pj_I x) :: .ref a :: st) M := by
  subst hk
  exact pj_putz pc' ci k hd hF hkd hp o.1 o.2 pj_NKle hx (kk _ rfl)
theorem pn_putr (pc' ci k : Nat) (kx : Int) {idx a b : Nat} (o : pj_ob a ci) (hb : b < pj_NK) (hd : (pj_cd d).lookup pc = some (.putfield idx, 3)) (hF : pj_F (pj_own d) idx ci k) (hkd : pj_kd ci k = 2) (hp : pc + 3 = pc') (hk : ((k : Nat) : Int) = kx) (kk : ∀ M', M' = pj_up M a kx (b : Int) → pj_R l g d X Z pj_NK 0 0 pc' ls st M') : pj_R l g d X Z pj_NK 0 0 pc ls (.ref b :: .ref a :: st) M := by
  subst hk
  exact pj_putr pc' ci k hd hF (Or.inl hkd) hp o.1 o.2 pj_NKle (Nat.lt_of_lt_of_le hb pj_NKle) (kk _ rfl)
theorem pn_iald (pc' k : Nat) {a : Nat} {i : Int} (o : pj_ol a 1 k) (h : 0 ≤ i ∧ i < (k : Int)) (hd : (pj_cd d).lookup pc = some (.iaload, 1)) (hp : pc + 1 = pc') (kk : pj_R l g d X Z pj_NK 0 0 pc' ls (.int (pj_I (M a i)) :: st) M) : pj_R l g d X Z pj_NK 0 0 pc ls (.int (pj_I i) :: .ref a :: st) M :=
  pj_iald pc' hd hp o.1 o.2 pj_NKle h.1 h.2 (by have := pj_len_small a; rw [o.1] at this; exact this) kk
theorem pn_bald (pc' t k : Nat) {a : Nat} {i : Int} (o : pj_ol a t k) (ht : t = 2 ∨ t = 3) (h : 0 ≤ i ∧ i < (k : Int)) (hd : (pj_cd d).lookup pc = some (.baload, 1)) (hp : pc + 1 = pc') (kk : pj_R l g d X Z pj_NK 0 0 pc' ls (.int (pj_I (M a i)) :: st) M) : pj_R l g d X Z pj_NK 0 0 pc ls (.int (pj_I i) :: .ref a :: st) M :=
  pj_bald pc' hd hp o.1 ht o.2 pj_NKle h.1 h.2 (by have := pj_len_small a; rw [o.1] at this; exact this) kk
theorem pn_lald (pc' k : Nat) {a : Nat} {i : Int} (o : pj_ol a 4 k) (h : 0 ≤ i ∧ i < (k : Int)) (hd : (pj_cd d).lookup pc = some (.laload, 1)) (hp : pc + 1 = pc') (kk : pj_R l g d X Z pj_NK 0 0 pc' ls (.long (pj_L (M a i)) :: st) M) : pj_R l g d X Z pj_NK 0 0 pc ls (.int (pj_I i) :: .ref a :: st) M :=
  pj_lald pc' hd hp o.1 o.2 pj_NKle h.1 h.2 (by have := pj_len_small a; rw [o.1] at this; exact this) kk
theorem pn_aald (pc' k : Nat) {a : Nat} {i : Int} (hg : pj_ph g = true) (o : pj_ol a 5 k) (ob : pj_rf a i.toNat < pj_NK) (h : 0 ≤ i ∧ i < (k : Int)) (hd : (pj_cd d).lookup pc = some (.aaload, 1)) (hp : pc + 1 = pc') (kk : pj_R l g d X Z pj_NK 0 0 pc' ls (.ref (pj_rf a i.toNat) :: st) M) : pj_R l g d X Z pj_NK 0 0 pc ls (.int (pj_I i) :: .ref a :: st) M :=
  pj_aald pc' hd hp hg o.1 o.2 pj_NKle h.1 h.2 (by have := pj_len_small a; rw [o.1] at this; exact this) rfl (Nat.lt_of_lt_of_le ob pj_NKle) kk
theorem pn_iast (pc' k : Nat) {a : Nat} {i x : Int} (o : pj_ol a 1 k) (h : 0 ≤ i ∧ i < (k : Int)) (hd : (pj_cd d).lookup pc = some (.iastore, 1)) (hp : pc + 1 = pc') (kk : ∀ M', M' = pj_up M a i x → pj_R l g d X Z pj_NK 0 0 pc' ls st M') : pj_R l g d X Z pj_NK 0 0 pc ls (.int (pj_I x) :: .int (pj_I i) :: .ref a :: st) M :=
  pj_iast pc' hd hp o.1 o.2 pj_NKle h.1 h.2 (by have := pj_len_small a; rw [o.1] at this; exact this) (kk _ rfl)
theorem pn_zast (pc' k : Nat) {a : Nat} {i x : Int} (o : pj_ol a 2 k) (hx : x = 0 ∨ x = 1) (h : 0 ≤ i ∧ i < (k : Int)) (hd : (pj_cd d).lookup pc = some (.bastore, 1)) (hp : pc + 1 = pc') (kk : ∀ M', M' = pj_up M a i x → pj_R l g d X Z pj_NK 0 0 pc' ls st M') : pj_R l g d X Z pj_NK 0 0 pc ls (.int (pj_I x) :: .int (pj_I i) :: .ref a :: st) M :=
  pj_bast pc' hd hp rfl o.1 (Or.inl ⟨rfl, hx⟩) o.2 h.1 h.2 (by have := pj_len_small a; rw [o.1] at this; exact this) (kk _ rfl)
theorem pn_bast (pc' k : Nat) {a : Nat} {i x : Int} (o : pj_ol a 3 k) (hx : -128 ≤ x ∧ x ≤ 127) (h : 0 ≤ i ∧ i < (k : Int)) (hd : (pj_cd d).lookup pc = some (.bastore, 1)) (hp : pc + 1 = pc') (kk : ∀ M', M' = pj_up M a i x → pj_R l g d X Z pj_NK 0 0 pc' ls st M') : pj_R l g d X Z pj_NK 0 0 pc ls (.int (pj_I x) :: .int (pj_I i) :: .ref a :: st) M :=
  pj_bast pc' hd hp rfl o.1 (Or.inr ⟨rfl, hx⟩) o.2 h.1 h.2 (by have := pj_len_small a; rw [o.1] at this; exact this) (kk _ rfl)
theorem pn_last (pc' k : Nat) {a : Nat} {i x : Int} (o : pj_ol a 4 k) (h : 0 ≤ i ∧ i < (k : Int)) (hd : (pj_cd d).lookup pc = some (.lastore, 1)) (hp : pc + 1 = pc') (kk : ∀ M', M' = pj_up M a i x → pj_R l g d X Z pj_NK 0 0 pc' ls st M') : pj_R l g d X Z pj_NK 0 0 pc ls (.long (pj_L x) :: .int (pj_I i) :: .ref a :: st) M :=
  pj_last pc' hd hp rfl o.1 o.2 h.1 h.2 (by have := pj_len_small a; rw [o.1] at this; exact this) (kk _ rfl)
abbrev pn_rooms (d d' : pj_MD) : Prop := ((pj_rm d').frames + 1 ≤ (pj_rm d).frames ∧ 8 + (d'.2.2.1 + 11) + (pj_rm d').locals ≤ (pj_rm d).locals) ∧ (pj_rm d').cells = 0 ∧ (pj_rm d').slots = 0
theorem pn_rooms_of {d d' : pj_MD} (h : pn_rooms d d') : pj_rooms d d' 0 0 := ⟨h.1, by rw [h.2.1]; exact Nat.zero_le _, by rw [h.2.2]; exact Nat.zero_le _⟩
theorem pn_callV (pc' ci : Nat) (As st : List Value) {idx k b : Nat} {d' : pj_MD} {stk : List Value} {Q1 : Option Value → Nat → pj_M → Prop} (o : pj_ob b ci) (hS : pj_S l g d' (.ref b :: As) pj_NK M Q1) (hw : pj_LV (pj_own d) idx d' ci k) (hd : (pj_cd d).lookup pc = some (.invokevirtual idx, 3)) (hp : pc + 3 = pc') (hstk : stk = As.reverse ++ .ref b :: st) (hk : As.length = k) (hcat : (st.map fun v => v.category).sum ≤ 8) (hrm : pn_rooms d d')
    (kk : ∀ v n' M', Q1 v n' M' → pj_R l g d X Z n' 0 0 pc' ls (v.toList ++ st) M') : pj_R l g d X Z pj_NK 0 0 pc ls stk M := by
  refine pj_callV pc' ci hd hw hp hstk hk hcat (pn_rooms_of hrm) o.1 o.2 pj_NKle hS (fun v n' M' h => ?_)
  rw [hrm.2.1, hrm.2.2]
  exact kk v n' M' h
theorem pn_callS (pc' : Nat) (As st : List Value) {idx k : Nat} {d' : pj_MD} {stk : List Value} {Q1 : Option Value → Nat → pj_M → Prop} (hS : pj_S l g d' As pj_NK M Q1) (hw : pj_LS (pj_own d) idx d' k ∨ pj_LSN (pj_own d) idx d' k) (hd : (pj_cd d).lookup pc = some (.invokestatic idx, 3)) (hp : pc + 3 = pc') (hstk : stk = As.reverse ++ st) (hk : As.length = k) (hcat : (st.map fun v => v.category).sum ≤ 8) (hrm : pn_rooms d d')
    (kk : ∀ v n' M', Q1 v n' M' → pj_R l g d X Z n' 0 0 pc' ls (v.toList ++ st) M') : pj_R l g d X Z pj_NK 0 0 pc ls stk M := by
  refine pj_callS pc' hd hw hp hstk hk hcat (pn_rooms_of hrm) hS (fun v n' M' h => ?_)
  rw [hrm.2.1, hrm.2.2]
  exact kk v n' M' h
end PJN
theorem pn_iret {l : Launch} {g : pj_G} {d : pj_MD} {pc : Nat} {ls : List (Nat × Value)} {M : pj_M} {x : Int} {Q : Int → pj_M → Prop} (hq : Q x M) (hd : (pj_cd d).lookup pc = some (.ireturn, 1)) (hr : d.2.2.2.1 = some .int) : pj_R l g d pj_T (pj_Zm g d (pj_qi Q)) pj_NK 0 0 pc ls [.int (pj_I x)] M := pj_iret hd hr ⟨Nat.zero_le _, Nat.zero_le _⟩ ⟨rfl, x, rfl, hq⟩
theorem pn_zret {l : Launch} {g : pj_G} {d : pj_MD} {pc : Nat} {ls : List (Nat × Value)} {M : pj_M} {x : Int} {Q : Int → pj_M → Prop} (hx : x = 0 ∨ x = 1) (hq : Q x M) (hd : (pj_cd d).lookup pc = some (.ireturn, 1)) (hr : d.2.2.2.1 = some .boolean) : pj_R l g d pj_T (pj_Zm g d (pj_qi Q)) pj_NK 0 0 pc ls [.int (pj_I x)] M := pj_zret hd hr ⟨Nat.zero_le _, Nat.zero_le _⟩ hx ⟨rfl, x, rfl, hq⟩
theorem pn_lret {l : Launch} {g : pj_G} {d : pj_MD} {pc : Nat} {ls : List (Nat × Value)} {M : pj_M} {x : Int} {Q : Int → pj_M → Prop} (hq : Q x M) (hd : (pj_cd d).lookup pc = some (.lreturn, 1)) (hr : d.2.2.2.1 = some .long) : pj_R l g d pj_T (pj_Zm g d (pj_ql Q)) pj_NK 0 0 pc ls [.long (pj_L x)] M := pj_lret hd hr ⟨Nat.zero_le _, Nat.zero_le _⟩ ⟨rfl, x, rfl, hq⟩
theorem pn_aret {l : Launch} {g : pj_G} {d : pj_MD} {pc : Nat} {ls : List (Nat × Value)} {M : pj_M} {x ci : Nat} {cn : String} {Q : Nat → pj_M → Prop} (o : pj_ob x ci) (hq : Q x M) (hd : (pj_cd d).lookup pc = some (.areturn, 1)) (hr : d.2.2.2.1 = some (.object cn)) : pj_R l g d pj_T (pj_Zm g d (pj_qr ci Q)) pj_NK 0 0 pc ls [.ref x] M := pj_aret hd hr ⟨Nat.zero_le _, Nat.zero_le _⟩ ⟨rfl, x, rfl, o, hq⟩
theorem pn_vret {l : Launch} {g : pj_G} {d : pj_MD} {pc : Nat} {ls : List (Nat × Value)} {M : pj_M} {Q : pj_M → Prop} (hq : Q M) (hd : (pj_cd d).lookup pc = some (.return_, 1)) (hr : d.2.2.2.1 = none) : pj_R l g d pj_T (pj_Zm g d (pj_qv Q)) pj_NK 0 0 pc ls [] M := pj_vret hd hr ⟨Nat.zero_le _, Nat.zero_le _⟩ ⟨rfl, rfl, hq⟩
section PJO
variable {l : Launch} {g : pj_G} {d : pj_MD} {X : State → Prop} {Z : pj_Z} {pc : Nat} {ls : List (Nat × Value)} {M : pj_M}
theorem pn_callVi (pc' ci : Nat) (As st : List Value) {idx k b : Nat} {d' : pj_MD} {stk : List Value} {Q : Int → pj_M → Prop} (o : pj_ob b ci) (hS : pj_S l g d' (.ref b :: As) pj_NK M (pj_qi Q)) (hw : pj_LV (pj_own d) idx d' ci k) (hd : (pj_cd d).lookup pc = some (.invokevirtual idx, 3)) (hp : pc + 3 = pc') (hstk : stk = As.reverse ++ .ref b :: st) (hk : As.length = k) (hcat : (st.map fun v => v.category).sum ≤ 8) (hrm : pn_rooms d d')
    (kk : ∀ r M', Q r M' → pj_R l g d X Z pj_NK 0 0 pc' ls (.int (pj_I r) :: st) M') : pj_R l g d X Z pj_NK 0 0 pc ls stk M :=
  pn_callV pc' ci As st o hS hw hd hp hstk hk hcat hrm (by rintro _ _ M' ⟨rfl, r, rfl, h⟩; exact kk r M' h)
theorem pn_callVl (pc' ci : Nat) (As st : List Value) {idx k b : Nat} {d' : pj_MD} {stk : List Value} {Q : Int → pj_M → Prop} (o : pj_ob b ci) (hS : pj_S l g d' (.ref b :: As) pj_NK M (pj_ql Q)) (hw : pj_LV (pj_own d) idx d' ci k) (hd : (pj_cd d).lookup pc = some (.invokevirtual idx, 3)) (hp : pc + 3 = pc') (hstk : stk = As.reverse ++ .ref b :: st) (hk : As.length = k) (hcat : (st.map fun v => v.category).sum ≤ 8) (hrm : pn_rooms d d')
    (kk : ∀ r M', Q r M' → pj_R l g d X Z pj_NK 0 0 pc' ls (.long (pj_L r) :: st) M') : pj_R l g d X Z pj_NK 0 0 pc ls stk M :=
  pn_callV pc' ci As st o hS hw hd hp hstk hk hcat hrm (by rintro _ _ M' ⟨rfl, r, rfl, h⟩; exact kk r M' h)
theorem pn_callVv (pc' ci : Nat) (As st : List Value) {idx k b : Nat} {d' : pj_MD} {stk : List Value} {Q : pj_M → Prop} (o : pj_ob b ci) (hS : pj_S l g d' (.ref b :: As) pj_NK M (pj_qv Q)) (hw : pj_LV (pj_own d) idx d' ci k) (hd : (pj_cd d).lookup pc = some (.invokevirtual idx, 3)) (hp : pc + 3 = pc') (hstk : stk = As.reverse ++ .ref b :: st) (hk : As.length = k) (hcat : (st.map fun v => v.category).sum ≤ 8) (hrm : pn_rooms d d')
    (kk : ∀ M', Q M' → pj_R l g d X Z pj_NK 0 0 pc' ls st M') : pj_R l g d X Z pj_NK 0 0 pc ls stk M :=
  pn_callV pc' ci As st o hS hw hd hp hstk hk hcat hrm (by rintro _ _ M' ⟨rfl, rfl, h⟩; exact kk M' h)
theorem pn_callVr (pc' ci : Nat) (As st : List Value) {cj : Nat} {idx k b : Nat} {d' : pj_MD} {stk : List Value} {Q : Nat → pj_M → Prop} (o : pj_ob b ci) (hS : pj_S l g d' (.ref b :: As) pj_NK M (pj_qr cj Q)) (hw : pj_LV (pj_own d) idx d' ci k) (hd : (pj_cd d).lookup pc = some (.invokevirtual idx, 3)) (hp : pc + 3 = pc') (hstk : stk = As.reverse ++ .ref b :: st) (hk : As.length = k) (hcat : (st.map fun v => v.category).sum ≤ 8) (hrm : pn_rooms d d')
    (kk : ∀ r M', pj_ob r cj → Q r M' → pj_R l g d X Z pj_NK 0 0 pc' ls (.ref r :: st) M') : pj_R l g d X Z pj_NK 0 0 pc ls stk M :=
  pn_callV pc' ci As st o hS hw hd hp hstk hk hcat hrm (by rintro _ _ M' ⟨rfl, r, rfl, h1, h⟩; exact kk r M' h1 h)
theorem pn_callSi (pc' : Nat) (As st : List Value) {idx k : Nat} {d' : pj_MD} {stk : List Value} {Q : Int → pj_M → Prop} (hS : pj_S l g d' As pj_NK M (pj_qi Q)) (hw : pj_LS (pj_own d) idx d' k ∨ pj_LSN (pj_own d) idx d' k) (hd : (pj_cd d).lookup pc = some (.invokestatic idx, 3)) (hp : pc + 3 = pc') (hstk : stk = As.reverse ++ st) (hk : As.length = k) (hcat : (st.map fun v => v.category).sum ≤ 8) (hrm : pn_rooms d d')
    (kk : ∀ r M', Q r M' → pj_R l g d X Z pj_NK 0 0 pc' ls (.int (pj_I r) :: st) M') : pj_R l g d X Z pj_NK 0 0 pc ls stk M :=
  pn_callS pc' As st hS hw hd hp hstk hk hcat hrm (by rintro _ _ M' ⟨rfl, r, rfl, h⟩; exact kk r M' h)
def pj_cp (M : pj_M) (a b : Nat) (n : Int) : pj_M := fun c j => if c = b ∧ 0 ≤ j ∧ j < n then M a j else M c j
def pj_LC (own : String) (idx : Nat) : Prop := Cond.methodLink own idx arraycopyName ∈ pj_TB ∧ Cond.native arraycopyName ∈ pj_TB ∧ Cond.static arraycopyName ∈ pj_TB ∧ Cond.initialized "java/lang/System" ∈ pj_TB
theorem pn_copy (pc' k : Nat) (st : List Value) {idx a b : Nat} {nn : Int} (oa : pj_ol a 1 k) (ob : pj_ol b 1 k) (hn : 0 ≤ nn ∧ nn ≤ (k : Int)) (hw : pj_LC (pj_own d) idx) (hd : (pj_cd d).lookup pc = some (.invokestatic idx, 3)) (hp : pc + 3 = pc') (hrm : 1 ≤ (pj_rm d).frames ∧ (st.map fun v => v.category).sum + (nativeFrameWords "java/lang/System" "arraycopy" 5 + 11) ≤ (pj_rm d).locals) (kk : ∀ M', M' = pj_cp M a b nn → pj_R l g d X Z pj_NK 0 0 pc' ls st M') : pj_R l g d X Z pj_NK 0 0 pc ls (.int (pj_I nn) :: .int (pj_I 0) :: .ref b :: .int (pj_I 0) :: .ref a :: st) M := by
  intro p e s m args below meth c H locs la C hH hL
  subst hp
  have hts := C.2.1
  show W p l e (pj_rm d) s m args below meth c H locs 0 0 (Z s args below) (F0 m pc la (.int (pj_I nn) :: .int (pj_I 0) :: pj_v g (.ref b) :: .int (pj_I 0) :: pj_v g (.ref a) :: st.map (pj_v g)))
  rw [pj_v_ref g (Nat.lt_of_lt_of_le oa.2 pj_NKle), pj_v_ref g (Nat.lt_of_lt_of_le ob.2 pj_NKle)]
  have hk2 : k < 2147483648 := by have := pj_len_small a; rw [oa.1] at this; exact this
  have hin : pj_in nn := ⟨by omega, by omega⟩
  have hc1 : (pj_I nn).toNatClampNeg = nn.toNat := by unfold Int32.toNatClampNeg; rw [pj_toInt hin]
  have hc0 : (pj_I 0).toNatClampNeg = 0 := by decide
  have hset : (pj_ws g pj_NK M).set b (pj_bs g + b, .inl (pj_dA g 0, k, .inl (va_cpy (pj_ia M a) (pj_ia M b) 0 0 nn.toNat))) = pj_ws g pj_NK (pj_cp M a b nn) := by
    refine pj_ws_set ?_ ?_
    · rw [pj_ce_ar ob.1 (Or.inl rfl)]
      congr 4
      funext x
      unfold pj_ia pj_cp
      by_cases hx : x < nn.toNat
      · rw [pk_cpy_in (Nat.zero_le _) (by omega), if_pos ⟨rfl, by omega, by omega⟩]
        simp
      · rw [pk_cpy_out (Or.inr (by omega)), if_neg (by intro h; omega)]
    · intro j hj
      have h : ∀ x : Int, pj_cp M a b nn j x = M j x := fun x => by simp [pj_cp, hj]
      have h1 : pj_ia (pj_cp M a b nn) j = pj_ia M j := by funext x; simp only [pj_ia, h]
      have h2 : pj_la (pj_cp M a b nn) j = pj_la M j := by funext x; simp only [pj_la, h]
      have h3 : pj_qa g (pj_cp M a b nn) j = pj_qa g M j := by funext x; simp only [pj_qa, h]
      have h4 : ∀ ci, pj_fs g (pj_cp M a b nn) j ci = pj_fs g M j ci := fun ci => by simp only [pj_fs, pj_fv, h]
      simp only [pj_ce, h1, h2, h3, h4]
  refine va_copyi C.1.1 C.1.2.1 (C.1.2.2.2.2.1.trans hL.1.symm) C.1.2.2.2.2.2 (hts _ hw.1) (hts _ hw.2.1) (hts _ hw.2.2.1) (hts _ hw.2.2.2) C.2.2.1.1 hH.1 (pj_ws_D g pj_NK M) hH.2.1 a b 0 0 (ty := .int) (by rw [pj_ws_get oa.2, pj_ce_ar oa.1 (Or.inl rfl)]) (by rw [pj_ws_get ob.2, pj_ce_ar ob.1 (Or.inl rfl)]) rfl rfl rfl (by decide) (by decide) ?_ ?_ ?_ (fun _ _ => rfl) hrm.1 (by rw [pj_catsum]; exact hrm.2) (C.2.2.2.2.2.1 _ _ _ hd) fun H1 locs1 q1 _ q3 => ?_
  · rw [show (0 : Int32) = pj_I 0 from rfl, pj_lt hin pj_inz]; omega
  · rw [hc0, hc1]; show 0 + nn.toNat ≤ k; omega
  · rw [hc0, hc1]; show 0 + nn.toNat ≤ k; omega
  · rw [hc0, hc1, hset] at q1
    exact kk _ rfl p e s m args below meth c H1 locs1 la C ⟨q1, q3, fun h => absurd h (Nat.lt_irrefl _), Nat.le_refl _⟩ hL
end PJO
