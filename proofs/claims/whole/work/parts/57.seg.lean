/-- a stretch of a row, as a list -/
def sg (w : Int → Int) (i j : Int) : List Nat := (List.range (j - i).toNat).map (fun (t : Nat) => (w (i + (t : Int))).toNat)
theorem sg_len (w : Int → Int) (i j : Int) : (sg w i j).length = (j - i).toNat := by simp [sg]
theorem sg_nil (w : Int → Int) (i : Int) : sg w i i = [] := by simp [sg]
theorem sg_get {w : Int → Int} {i j : Int} {t : Nat} (h : t < (j - i).toNat) : (sg w i j)[t]? = some (w (i + (t : Int))).toNat := by simp [sg, h]
theorem sg_app {w : Int → Int} {i m j : Int} (h1 : i ≤ m) (h2 : m ≤ j) : sg w i m ++ sg w m j = sg w i j := by
  apply List.ext_getElem?
  intro t
  by_cases ht : t < (m - i).toNat
  · rw [List.getElem?_append_left (by rw [sg_len]; exact ht), sg_get ht, sg_get (by omega)]
  · rw [List.getElem?_append_right (by rw [sg_len]; omega), sg_len]
    by_cases h3 : t < (j - i).toNat
    · rw [sg_get (by omega), sg_get h3, show m + ((t - (m - i).toNat : Nat) : Int) = i + (t : Int) by omega]
    · rw [List.getElem?_eq_none (by rw [sg_len]; omega), List.getElem?_eq_none (by rw [sg_len]; omega)]
theorem sg_one (w : Int → Int) (i : Int) : sg w i (i + 1) = [(w i).toNat] := by
  simp [sg, show (i + 1 - i).toNat = 1 by omega]
theorem sg_cons {w : Int → Int} {i j : Int} (h : i < j) : sg w i j = (w i).toNat :: sg w (i + 1) j := by
  rw [← sg_app (w := w) (i := i) (m := i + 1) (j := j) (by omega) (by omega), sg_one]; rfl
theorem sg_ne {w : Int → Int} {i j : Int} (h : i < j) : sg w i j ≠ [] := by rw [sg_cons h]; exact List.cons_ne_nil _ _
theorem sg_split {w : Int → Int} {i j : Int} (hij : i ≤ j) {u v : List Nat} (h : sg w i j = u ++ v) : ∃ m, i ≤ m ∧ m ≤ j ∧ u = sg w i m ∧ v = sg w m j := by
  have hl := congrArg List.length h
  rw [List.length_append, sg_len] at hl
  refine ⟨i + (u.length : Int), by omega, by omega, ?_⟩
  have h2 := sg_app (w := w) (i := i) (m := i + (u.length : Int)) (j := j) (by omega) (by omega)
  rw [h] at h2
  have h3 := List.append_inj h2.symm (by rw [sg_len]; omega)
  exact ⟨h3.1, h3.2⟩
theorem sg_congr {w w' : Int → Int} {i j : Int} (h : ∀ x, i ≤ x → x < j → w x = w' x) : sg w i j = sg w' i j := by
  apply List.ext_getElem?
  intro t
  by_cases ht : t < (j - i).toNat
  · rw [sg_get ht, sg_get ht, h _ (by omega) (by omega)]
  · rw [List.getElem?_eq_none (by rw [sg_len]; omega), List.getElem?_eq_none (by rw [sg_len]; omega)]
theorem sg_single {w : Int → Int} {i j : Int} (hij : i ≤ j) {s : Nat} : sg w i j = [s] ↔ j = i + 1 ∧ (w i).toNat = s := by
  constructor
  · intro h
    have hl := congrArg List.length h
    rw [sg_len] at hl
    have : j = i + 1 := by simp at hl; omega
    subst this
    rw [sg_one] at h
    exact ⟨rfl, by simpa using h⟩
  · rintro ⟨rfl, rfl⟩
    exact sg_one w i
theorem gr_of_sg (D : Int → Int) (k : Nat) : (gr_of D).2.2 k = sg (fun s => D (((1 + (6 * (k : Int))) + 2) + s)) 0 (D ((1 + (6 * (k : Int))) + 1)) := by
  show List.map _ _ = List.map _ _
  rw [show (D ((1 + (6 * (k : Int))) + 1) - 0).toNat = (D ((1 + (6 * (k : Int))) + 1)).toNat by omega]
  apply List.map_congr_left
  intro t _
  rw [Int.zero_add]
abbrev mt_f (M : pj_M) (b : Nat) (k : Int) : Int → Int := fun s => mt_sm M b k s
/-- the signs of the word -/
abbrev mt_w (M : pj_M) (i j : Int) : List Nat := sg (M 209) i j
def mt_tb (M : pj_M) (T c : Nat) (i j : Int) : Prop := M T (16 * (16 * (c : Int) + i) + j) = 1
