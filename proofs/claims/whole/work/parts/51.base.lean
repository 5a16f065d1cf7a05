theorem rm_0 : pj_rf 203 0 = 204 := by decide
theorem rm_1 : pj_rf 203 1 = 205 := by decide
theorem rm_3 : pj_rf 203 3 = 206 := by decide
theorem rm_9 : pj_rf 203 9 = 207 := by decide
theorem rm_10 : pj_rf 203 10 = 208 := by decide
theorem rm_13 : pj_rf 203 13 = 209 := by decide
theorem rm_15 : pj_rf 203 15 = 210 := by decide
theorem rm_16 : pj_rf 203 16 = 211 := by decide
theorem rm_17 : pj_rf 203 17 = 212 := by decide
theorem rm_18 : pj_rf 203 18 = 213 := by decide
theorem rm_19 : pj_rf 203 19 = 214 := by decide
theorem rm_20 : pj_rf 203 20 = 215 := by decide
theorem rm_21 : pj_rf 203 21 = 216 := by decide
theorem rm_23 : pj_rf 203 23 = 217 := by decide
theorem rm_24 : pj_rf 203 24 = 218 := by decide
theorem rm_25 : pj_rf 203 25 = 219 := by decide
theorem rm_26 : pj_rf 203 26 = 220 := by decide
theorem rm_27 : pj_rf 203 27 = 221 := by decide
theorem rm_30 : pj_rf 203 30 = 222 := by decide
theorem rm_31 : pj_rf 203 31 = 223 := by decide
theorem rm_32 : pj_rf 203 32 = 224 := by decide
theorem rm_33 : pj_rf 203 33 = 225 := by decide
theorem rm_35 : pj_rf 203 35 = 226 := by decide
theorem rm_36 : pj_rf 203 36 = 227 := by decide
theorem rc_0 : pj_rf 0 0 = 1 := by decide
theorem rc_1 : pj_rf 0 1 = 3 := by decide
theorem rc_2 : pj_rf 0 2 = 13 := by decide
theorem rc_3 : pj_rf 0 3 = 21 := by decide
theorem rc_4 : pj_rf 0 4 = 29 := by decide
theorem rc_5 : pj_rf 0 5 = 31 := by decide
theorem rc_6 : pj_rf 0 6 = 113 := by decide
theorem rc_7 : pj_rf 0 7 = 114 := by decide
theorem rc_8 : pj_rf 0 8 = 115 := by decide
theorem rc_9 : pj_rf 0 9 = 135 := by decide
theorem rc_10 : pj_rf 0 10 = 155 := by decide
theorem rc_11 : pj_rf 0 11 = 175 := by decide
theorem rc_12 : pj_rf 0 12 = 178 := by decide
theorem rc_13 : pj_rf 0 13 = 183 := by decide
theorem rc_14 : pj_rf 0 14 = 186 := by decide
theorem pu_ne {M : pj_M} {a b : Nat} {k v j : Int} (h : b ≠ a) : pj_up M a k v b j = M b j := by simp [pj_up, h]
theorem pu_nk {M : pj_M} {a b : Nat} {k v j : Int} (h : j ≠ k) : pj_up M a k v b j = M b j := by simp [pj_up, h]
theorem pu_eq {M : pj_M} {a : Nat} {k v : Int} : pj_up M a k v a k = v := by simp [pj_up]
theorem pu_if {M : pj_M} {a b : Nat} {k v j : Int} : pj_up M a k v b j = if b = a ∧ j = k then v else M b j := rfl
/-- all of a row are 0 or 1 -/
def bz (M : pj_M) (a : Nat) : Prop := ∀ x, M a x = 0 ∨ M a x = 1
theorem bz_up {M : pj_M} {a b : Nat} {k v : Int} (h : bz M b) (hv : v = 0 ∨ v = 1) : bz (pj_up M a k v) b := by
  intro x
  rw [pu_if]
  split
  · exact hv
  · exact h x
theorem bz_in {M : pj_M} {a : Nat} (h : bz M a) (x : Int) : pj_in (M a x) := by rcases h x with h | h <;> rw [h] <;> exact ⟨by decide, by decide⟩
theorem bz_ne {M : pj_M} {a : Nat} (h : bz M a) {x : Int} (h0 : ¬ M a x = 0) : M a x = 1 := (h x).resolve_left h0
