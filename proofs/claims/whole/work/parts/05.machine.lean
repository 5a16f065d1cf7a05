abbrev pj_M : Type := Nat → Int → Int
/-- the script's cell, the first cell of ours, whether all is made, classes, slots, array classes -/
abbrev pj_G : Type := Nat × Nat × Bool × (Nat → ClassId) × (Nat → Nat → Nat) × (Nat → ClassId)
abbrev pj_bs (g : pj_G) : Nat := g.2.1
abbrev pj_ph (g : pj_G) : Bool := g.2.2.1
abbrev pj_D (g : pj_G) : va_G := (g.2.2.2.1, g.2.2.2.2.1)
abbrev pj_dA (g : pj_G) : Nat → ClassId := g.2.2.2.2.2
def pj_I (x : Int) : Int32 := Int32.ofInt x
def pj_L (x : Int) : Int64 := Int64.ofInt x
abbrev pj_in (x : Int) : Prop := -2147483648 ≤ x ∧ x ≤ 2147483647
def pj_v (g : pj_G) : Value → Value
  | .ref a => .ref (if a < 1000000 then pj_bs g + a else g.1)
  | v => v
def pj_p (g : pj_G) (q : Nat × Value) : Nat × Value := (q.1, pj_v g q.2)
def pj_rv (g : pj_G) (x : Int) : Value := if x < 0 then .null else .ref (pj_bs g + x.toNat)
def pj_fv (g : pj_G) (M : pj_M) (a ci k : Nat) : Value :=
  if pj_kd ci k = 1 then (if pj_ph g = true then .ref (pj_bs g + pj_rf a k) else pj_rv g (M a k))
  else if pj_kd ci k = 2 then pj_rv g (M a k) else .int (pj_I (M a k))
def pj_fs (g : pj_G) (M : pj_M) (a ci : Nat) : List Value := (List.range (pj_N ci)).map (fun k => pj_fv g M a ci k)
def pj_ia (M : pj_M) (a : Nat) : Nat → Int32 := fun k => pj_I (M a (k : Int))
def pj_la (M : pj_M) (a : Nat) : Nat → Int64 := fun k => pj_L (M a (k : Int))
def pj_qa (g : pj_G) (M : pj_M) (a : Nat) : Nat → Option Nat := fun k => if pj_ph g = true then some (pj_bs g + pj_rf a k) else if M a (k : Int) < 0 then none else some (pj_bs g + (M a (k : Int)).toNat)
def pj_ce (g : pj_G) (M : pj_M) (a : Nat) : va_E :=
  if (pj_sh a).1 = 0 then .inr ((pj_sh a).2, pj_fs g M a (pj_sh a).2)
  else if (pj_sh a).1 = 4 then .inl (pj_dA g 3, (pj_sh a).2, .inr (.inl (pj_la M a)))
  else if (pj_sh a).1 = 5 then .inl (pj_dA g 4, (pj_sh a).2, .inr (.inr (.inr (.inr (pj_qa g M a)))))
  else .inl (pj_dA g ((pj_sh a).1 - 1), (pj_sh a).2, .inl (pj_ia M a))
def pj_ws (g : pj_G) (n : Nat) (M : pj_M) : va_W := (List.range n).map (fun i => (pj_bs g + i, pj_ce g M i))
def pj_up (M : pj_M) (a : Nat) (k v : Int) : pj_M := fun b j => if b = a ∧ j = k then v else M b j
abbrev pj_tys (g : pj_G) : List (ClassId × FieldType) := [(pj_dA g 0, .int), (pj_dA g 1, .boolean), (pj_dA g 2, .byte), (pj_dA g 3, .long), (pj_dA g 4, .object "PiecesThatFit$Desk")]
abbrev pj_A (g : pj_G) : Nat → Prop := fun q => pj_bs g ≤ q
theorem pj_v_cat (g : pj_G) (v : Value) : (pj_v g v).category = v.category := by cases v <;> rfl
theorem pj_v_ref (g : pj_G) {a : Nat} (h : a < 1000000) : pj_v g (.ref a) = .ref (pj_bs g + a) := by simp [pj_v, h]
theorem pj_toInt {x : Int} (h : pj_in x) : (pj_I x).toInt = x := by
  obtain ⟨h1, h2⟩ := h
  exact Int32.toInt_ofInt_of_le h1 (by omega)
theorem pj_add (x y : Int) : pj_I x + pj_I y = pj_I (x + y) := (Int32.ofInt_add x y).symm
theorem pj_sub (x y : Int) : pj_I x - pj_I y = pj_I (x - y) := (Int32.ofInt_sub x y).symm
theorem pj_mul (x y : Int) : pj_I x * pj_I y = pj_I (x * y) := (Int32.ofInt_mul x y).symm
theorem pj_lt {x y : Int} (hx : pj_in x) (hy : pj_in y) : pj_I x < pj_I y ↔ x < y := by rw [Int32.lt_iff_toInt_lt, pj_toInt hx, pj_toInt hy]
theorem pj_le {x y : Int} (hx : pj_in x) (hy : pj_in y) : pj_I x ≤ pj_I y ↔ x ≤ y := by rw [Int32.le_iff_toInt_le, pj_toInt hx, pj_toInt hy]
theorem pj_eq {x y : Int} (hx : pj_in x) (hy : pj_in y) : pj_I x = pj_I y ↔ x = y := by rw [← Int32.toInt_inj, pj_toInt hx, pj_toInt hy]
theorem pj_0 : (0 : Int32) = pj_I 0 := rfl
theorem pj_inz : pj_in 0 := by constructor <;> decide
theorem pj_idx {i : Int} {n : Nat} (h0 : 0 ≤ i) (h1 : i < n) (hn : n < 2147483648) : vp_in (pj_I i) n ∧ (pj_I i).toNatClampNeg = i.toNat := by
  have h : pj_in i := ⟨by omega, by omega⟩
  constructor
  · rw [vp_in_iff, pj_toInt h]; omega
  · unfold Int32.toNatClampNeg; rw [pj_toInt h]
theorem pj_ws_get {g : pj_G} {n i : Nat} {M : pj_M} (h : i < n) : (pj_ws g n M)[i]? = some (pj_bs g + i, pj_ce g M i) := by simp [pj_ws, h]
theorem pj_ws_set {g : pj_G} {n i : Nat} {M M' : pj_M} {e : va_E} (he : pj_ce g M' i = e) (ho : ∀ j, j ≠ i → pj_ce g M' j = pj_ce g M j) : (pj_ws g n M).set i (pj_bs g + i, e) = pj_ws g n M' := by
  apply List.ext_getElem?
  intro j
  by_cases hj : j < n
  · rw [pj_ws_get hj]
    by_cases e1 : i = j
    · subst e1
      rw [List.getElem?_set_self (by simp [pj_ws, hj]), he]
    · rw [List.getElem?_set_ne e1, pj_ws_get hj, ho j (fun q => e1 q.symm)]
  · rw [List.getElem?_eq_none (by simp [pj_ws]; omega), List.getElem?_eq_none (by simp [pj_ws]; omega)]
theorem pj_ws_D (g : pj_G) (n : Nat) (M : pj_M) : va_D (pj_A g) (pj_ws g n M) := by
  constructor
  · intro i j p q hi hj e
    have h1 : i < n := by have := (List.getElem?_eq_some_iff.mp hi).1; simpa [pj_ws] using this
    have h2 : j < n := by have := (List.getElem?_eq_some_iff.mp hj).1; simpa [pj_ws] using this
    rw [pj_ws_get h1] at hi
    rw [pj_ws_get h2] at hj
    cases hi; cases hj
    have : pj_bs g + i = pj_bs g + j := e
    omega
  · intro k q hk
    have h1 : k < n := by have := (List.getElem?_eq_some_iff.mp hk).1; simpa [pj_ws] using this
    rw [pj_ws_get h1] at hk
    cases hk
    show pj_bs g ≤ pj_bs g + k
    omega
theorem pj_up_other {g : pj_G} {M : pj_M} {a : Nat} {k v : Int} : ∀ j, j ≠ a → pj_ce g (pj_up M a k v) j = pj_ce g M j := by
  intro j hj
  have h : ∀ x : Int, pj_up M a k v j x = M j x := fun x => by simp [pj_up, hj]
  have h1 : pj_ia (pj_up M a k v) j = pj_ia M j := by funext x; simp only [pj_ia, h]
  have h2 : pj_la (pj_up M a k v) j = pj_la M j := by funext x; simp only [pj_la, h]
  have h3 : pj_qa g (pj_up M a k v) j = pj_qa g M j := by funext x; simp only [pj_qa, h]
  have h4 : ∀ ci, pj_fs g (pj_up M a k v) j ci = pj_fs g M j ci := fun ci => by simp only [pj_fs, pj_fv, h]
  simp only [pj_ce, h1, h2, h3, h4]
theorem pj_up_ia (M : pj_M) (a : Nat) {i : Int} (h0 : 0 ≤ i) (v : Int) : pj_ia (pj_up M a i v) a = upd (pj_ia M a) i.toNat (pj_I v) := by
  funext x
  unfold pj_ia pj_up upd
  by_cases e : x = i.toNat
  · have : (x : Int) = i := by omega
    rw [if_pos ⟨rfl, this⟩, if_pos e]
  · have : ¬ (x : Int) = i := by omega
    simp [e, this]
theorem pj_up_la (M : pj_M) (a : Nat) {i : Int} (h0 : 0 ≤ i) (v : Int) : pj_la (pj_up M a i v) a = vp_updL (pj_la M a) i.toNat (pj_L v) := by
  funext x
  unfold pj_la pj_up vp_updL
  by_cases e : x = i.toNat
  · have : (x : Int) = i := by omega
    rw [if_pos ⟨rfl, this⟩, if_pos e]
  · have : ¬ (x : Int) = i := by omega
    simp [e, this]
theorem pj_up_fs (g : pj_G) (M : pj_M) (a ci k : Nat) (v : Int) (hk : k < pj_N ci) : pj_fs g (pj_up M a k v) a ci = (pj_fs g M a ci).set k (pj_fv g (pj_up M a k v) a ci k) := by
  apply List.ext_getElem?
  intro j
  by_cases hj : j < pj_N ci
  · by_cases e : k = j
    · subst e
      rw [List.getElem?_set_self (by simp [pj_fs, hj])]
      simp [pj_fs, hj]
    · rw [List.getElem?_set_ne e]
      have h : ∀ x : Int, x = (j : Int) → pj_up M a k v a x = M a x := fun x hx => by
        have : ¬ x = (k : Int) := by omega
        simp [pj_up, this]
      simp [pj_fs, hj, pj_fv, h]
  · rw [List.getElem?_eq_none (by simp [pj_fs]; omega), List.getElem?_eq_none (by simp [pj_fs]; omega)]
theorem pj_fs_get {g : pj_G} {M : pj_M} {a ci k : Nat} (hk : k < pj_N ci) : (pj_fs g M a ci)[k]? = some (pj_fv g M a ci k) := by simp [pj_fs, hk]
