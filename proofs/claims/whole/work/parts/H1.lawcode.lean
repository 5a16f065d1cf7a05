theorem px_chunks {α : Type} (f : α → Bool) (L : List α) (k n : Nat) (hk : 0 < k) (hn : L.length ≤ k * n) (h : ∀ j, j < n → ((L.drop (k * j)).take k).all f = true) : L.all f = true := by
  rw [List.all_eq_true]
  intro x hx
  obtain ⟨i, hi, e⟩ := List.getElem_of_mem hx
  have hj : i / k < n := by
    rw [Nat.div_lt_iff_lt_mul hk, Nat.mul_comm]
    omega
  have h1 := List.all_eq_true.mp (h (i / k) hj)
  apply h1
  have hm := Nat.mod_lt i hk
  have hd := Nat.div_add_mod i k
  have : ((L.drop (k * (i / k))).take k)[i % k]? = some x := by
    rw [List.getElem?_take, if_pos hm, List.getElem?_drop, hd, List.getElem?_eq_getElem hi, e]
  exact List.mem_of_getElem? this
set_option maxRecDepth 100000 in
theorem px_ck0 : ((cdL_law.drop (40 * 0)).take 40).all (fun q => decide (decode cL_law q.1 = .ok (q.2.1, q.2.2))) = true := by decide +kernel
set_option maxRecDepth 100000 in
theorem px_ck1 : ((cdL_law.drop (40 * 1)).take 40).all (fun q => decide (decode cL_law q.1 = .ok (q.2.1, q.2.2))) = true := by decide +kernel
set_option maxRecDepth 100000 in
theorem px_ck2 : ((cdL_law.drop (40 * 2)).take 40).all (fun q => decide (decode cL_law q.1 = .ok (q.2.1, q.2.2))) = true := by decide +kernel
set_option maxRecDepth 100000 in
theorem px_ck3 : ((cdL_law.drop (40 * 3)).take 40).all (fun q => decide (decode cL_law q.1 = .ok (q.2.1, q.2.2))) = true := by decide +kernel
set_option maxRecDepth 100000 in
theorem px_ck4 : ((cdL_law.drop (40 * 4)).take 40).all (fun q => decide (decode cL_law q.1 = .ok (q.2.1, q.2.2))) = true := by decide +kernel
set_option maxRecDepth 100000 in
theorem px_ck5 : ((cdL_law.drop (40 * 5)).take 40).all (fun q => decide (decode cL_law q.1 = .ok (q.2.1, q.2.2))) = true := by decide +kernel
set_option maxRecDepth 100000 in
theorem px_ck6 : ((cdL_law.drop (40 * 6)).take 40).all (fun q => decide (decode cL_law q.1 = .ok (q.2.1, q.2.2))) = true := by decide +kernel
set_option maxRecDepth 100000 in
theorem px_ck7 : ((cdL_law.drop (40 * 7)).take 40).all (fun q => decide (decode cL_law q.1 = .ok (q.2.1, q.2.2))) = true := by decide +kernel
set_option maxRecDepth 100000 in
theorem px_ck8 : ((cdL_law.drop (40 * 8)).take 40).all (fun q => decide (decode cL_law q.1 = .ok (q.2.1, q.2.2))) = true := by decide +kernel
set_option maxRecDepth 100000 in
theorem px_ck9 : ((cdL_law.drop (40 * 9)).take 40).all (fun q => decide (decode cL_law q.1 = .ok (q.2.1, q.2.2))) = true := by decide +kernel
set_option maxRecDepth 100000 in
theorem px_ck10 : ((cdL_law.drop (40 * 10)).take 40).all (fun q => decide (decode cL_law q.1 = .ok (q.2.1, q.2.2))) = true := by decide +kernel
set_option maxRecDepth 100000 in
theorem px_ck11 : ((cdL_law.drop (40 * 11)).take 40).all (fun q => decide (decode cL_law q.1 = .ok (q.2.1, q.2.2))) = true := by decide +kernel
set_option maxRecDepth 100000 in
theorem px_ck12 : ((cdL_law.drop (40 * 12)).take 40).all (fun q => decide (decode cL_law q.1 = .ok (q.2.1, q.2.2))) = true := by decide +kernel
set_option maxRecDepth 100000 in
theorem px_ck13 : ((cdL_law.drop (40 * 13)).take 40).all (fun q => decide (decode cL_law q.1 = .ok (q.2.1, q.2.2))) = true := by decide +kernel
set_option maxRecDepth 100000 in
theorem px_ck14 : ((cdL_law.drop (40 * 14)).take 40).all (fun q => decide (decode cL_law q.1 = .ok (q.2.1, q.2.2))) = true := by decide +kernel
set_option maxRecDepth 100000 in
theorem px_ck15 : ((cdL_law.drop (40 * 15)).take 40).all (fun q => decide (decode cL_law q.1 = .ok (q.2.1, q.2.2))) = true := by decide +kernel
set_option maxRecDepth 100000 in
theorem px_ck16 : ((cdL_law.drop (40 * 16)).take 40).all (fun q => decide (decode cL_law q.1 = .ok (q.2.1, q.2.2))) = true := by decide +kernel
set_option maxRecDepth 100000 in
theorem px_ck17 : ((cdL_law.drop (40 * 17)).take 40).all (fun q => decide (decode cL_law q.1 = .ok (q.2.1, q.2.2))) = true := by decide +kernel
set_option maxRecDepth 100000 in
theorem px_ck18 : ((cdL_law.drop (40 * 18)).take 40).all (fun q => decide (decode cL_law q.1 = .ok (q.2.1, q.2.2))) = true := by decide +kernel
def mdL_law : pj_MD := (yL_law, cL_law, 8, (some FieldType.boolean), RL, room_1, cdL_law)
set_option maxRecDepth 100000 in
theorem px_lawlen : cdL_law.length = 755 := by decide +kernel
theorem gcL_law : pj_gc mdL_law := by
  refine pj_gc_of (px_chunks _ cdL_law 40 19 (by decide) (by rw [px_lawlen]; decide) (fun j hj => ?_))
  rcases (by omega : j = 0 ∨ j = 1 ∨ j = 2 ∨ j = 3 ∨ j = 4 ∨ j = 5 ∨ j = 6 ∨ j = 7 ∨ j = 8 ∨ j = 9 ∨ j = 10 ∨ j = 11 ∨ j = 12 ∨ j = 13 ∨ j = 14 ∨ j = 15 ∨ j = 16 ∨ j = 17 ∨ j = 18) with rfl | rfl | rfl | rfl | rfl | rfl | rfl | rfl | rfl | rfl | rfl | rfl | rfl | rfl | rfl | rfl | rfl | rfl | rfl
  · exact px_ck0
  · exact px_ck1
  · exact px_ck2
  · exact px_ck3
  · exact px_ck4
  · exact px_ck5
  · exact px_ck6
  · exact px_ck7
  · exact px_ck8
  · exact px_ck9
  · exact px_ck10
  · exact px_ck11
  · exact px_ck12
  · exact px_ck13
  · exact px_ck14
  · exact px_ck15
  · exact px_ck16
  · exact px_ck17
  · exact px_ck18
