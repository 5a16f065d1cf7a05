theorem bt_n (x : Int) : ((pj_I x).toBitVec.toNat : Int) = x % 4294967296 := by
  show (((Int32.ofInt x).toBitVec.toNat : Nat) : Int) = _
  rw [show (Int32.ofInt x).toBitVec = BitVec.ofInt 32 x from rfl, BitVec.toNat_ofInt]
  show (((x % ((2 ^ 32 : Nat) : Int)).toNat : Nat) : Int) = _
  have : ((2 ^ 32 : Nat) : Int) = 4294967296 := by decide
  rw [this]
  omega
theorem bt_and (x : Int) (m : Nat) (hm : m < 31) : pj_and x ((2 ^ m - 1 : Nat) : Int) = x % ((2 ^ m : Nat) : Int) := by
  have hp : 2 ^ m ≤ 2 ^ 30 := Nat.pow_le_pow_right (by decide) (by omega)
  have hpos : 0 < 2 ^ m := Nat.pow_pos (by decide)
  unfold pj_and
  have h1 : (pj_I x &&& pj_I ((2 ^ m - 1 : Nat) : Int)).toBitVec.toNat = (pj_I x).toBitVec.toNat % 2 ^ m := by
    rw [Int32.toBitVec_and, BitVec.toNat_and, pb_tn (n := 2 ^ m - 1) (by omega), Nat.and_two_pow_sub_one_eq_mod]
  have hlt := Nat.mod_lt (pj_I x).toBitVec.toNat hpos
  rw [pb_int h1 (by omega)]
  have h2 := bt_n x
  have h3 : (((pj_I x).toBitVec.toNat % 2 ^ m : Nat) : Int) = ((pj_I x).toBitVec.toNat : Int) % ((2 ^ m : Nat) : Int) := by norm_cast
  rw [h3, h2]
  have h4 : (4294967296 : Int) = ((2 ^ m : Nat) : Int) * ((2 ^ (32 - m) : Nat) : Int) := by
    have : (2 ^ m * 2 ^ (32 - m) : Nat) = 4294967296 := by rw [← Nat.pow_add, show m + (32 - m) = 32 by omega]
    rw [← Int.natCast_mul, this]; rfl
  rw [h4]
  exact Int.emod_emod_of_dvd x ⟨_, rfl⟩
theorem an7 (x : Int) : pj_and x 7 = x % 8 := bt_and x 3 (by decide)
theorem an255 (x : Int) : pj_and x 255 = x % 256 := bt_and x 8 (by decide)
theorem bt_i (x : Int) : (pj_I x).toInt = x.bmod 4294967296 := Int32.toInt_ofInt ..
theorem bm_mod (x : Int) (n m : Nat) (h : (m : Int) ∣ (n : Int)) : x.bmod n % (m : Int) = x % (m : Int) := by
  have h1 := Int.bmod_emod (x := x) (m := n)
  have h2 : (x.bmod n % (n : Int)) % (m : Int) = (x % (n : Int)) % (m : Int) := by rw [h1]
  rw [Int.emod_emod_of_dvd _ h, Int.emod_emod_of_dvd _ h] at h2
  exact h2
theorem i2b_mod (x : Int) : pj_i2b x % 256 = x % 256 ∧ -128 ≤ pj_i2b x ∧ pj_i2b x ≤ 127 := by
  have h : pj_i2b x = (pj_I x).toInt8.toInt := by unfold pj_i2b; exact Int8.toInt_toInt32 _
  have h2 : (pj_I x).toInt8.toInt = (pj_I x).toInt.bmod 256 := Int32.toInt_toInt8 _
  rw [h, h2, bt_i]
  have h3 := bm_mod (x.bmod 4294967296) 256 256 ⟨1, rfl⟩
  have h4 := bm_mod x 4294967296 256 ⟨16777216, rfl⟩
  have h5 := Int.le_bmod (x := x.bmod 4294967296) (m := 256) (by decide)
  have h6 := Int.bmod_lt (x := x.bmod 4294967296) (m := 256) (by decide)
  exact ⟨h3.trans h4, by omega, by omega⟩
theorem i2s_mod (x : Int) : pj_i2s x % 8 = x % 8 := by
  have h : pj_i2s x = (pj_I x).toInt16.toInt := by unfold pj_i2s; exact Int16.toInt_toInt32 _
  have h2 : (pj_I x).toInt16.toInt = (pj_I x).toInt.bmod 65536 := Int32.toInt_toInt16 _
  rw [h, h2, bt_i]
  have h3 := bm_mod (x.bmod 4294967296) 65536 8 ⟨8192, rfl⟩
  have h4 := bm_mod x 4294967296 8 ⟨536870912, rfl⟩
  exact h3.trans h4
theorem us_val (x : Int) (s : Nat) (hs : s < 32) : pj_ushr x (s : Int) = (((x % 4294967296).toNat / 2 ^ s : Nat) : Int).bmod 4294967296 := by
  unfold pj_ushr
  have e : (((pj_I x).toUInt32 >>> ((pj_I (s : Int)).toUInt32 &&& Int32.toUInt32 31)).toInt32).toInt = ((pj_I x).toBitVec >>> (((pj_I (s : Int)).toUInt32 &&& Int32.toUInt32 31).toBitVec % 32)).toInt := rfl
  rw [e, BitVec.toInt_eq_toNat_bmod, BitVec.ushiftRight_eq', BitVec.toNat_ushiftRight, pb_31u s hs, Nat.shiftRight_eq_div_pow]
  have h := bt_n x
  rw [show (pj_I x).toBitVec.toNat = (x % 4294967296).toNat by omega]
theorem us16 (x : Int) : 0 ≤ pj_ushr x 16 ∧ pj_ushr x 16 ≤ 65535 := by
  have h := us_val x 16 (by decide)
  have h1 : (x % 4294967296).toNat / 2 ^ 16 ≤ 65535 := by
    have : (x % 4294967296).toNat < 4294967296 := by omega
    omega
  rw [show ((16 : Nat) : Int) = 16 from rfl] at h
  rw [h, pd_bmod ⟨by omega, by omega⟩]
  omega
theorem sh_val (x : Int) (s : Nat) (hs : s < 32) : pj_shr x (s : Int) = x.bmod 4294967296 / ((2 ^ s : Nat) : Int) := by
  unfold pj_shr
  have e : (pj_I x >>> (pj_I (s : Int) &&& 31)).toInt = ((pj_I x).toBitVec.sshiftRight ((pj_I (s : Int) &&& 31).toBitVec.smod 32).toNat).toInt := rfl
  rw [e, pb_31 s hs, BitVec.toInt_sshiftRight, Int.shiftRight_eq_div_pow]
  have : (pj_I x).toBitVec.toInt = x.bmod 4294967296 := bt_i x
  rw [this]
/-- a byte of four -/
def byt (x : Int) (k : Int) : Int := pj_and (pj_ushr x k) 255
theorem byt_b (x k : Int) : 0 ≤ byt x k ∧ byt x k ≤ 255 := by unfold byt; rw [an255]; omega
theorem byt_m {x k : Int} (hk : k = 0 ∨ k = 8 ∨ k = 16 ∨ k = 24) : pj_and (pj_i2b (pj_shr x k)) 255 = byt x k := by
  unfold byt
  rw [an255, an255, (i2b_mod _).1]
  have hb : ∃ t : Int, x.bmod 4294967296 = x % 4294967296 + 4294967296 * t := by
    have h1 := Int.bmod_emod (x := x) (m := 4294967296)
    exact ⟨(x.bmod 4294967296 - x % 4294967296) / 4294967296, by omega⟩
  obtain ⟨t, ht⟩ := hb
  have hx : 0 ≤ x % 4294967296 ∧ x % 4294967296 < 4294967296 := ⟨by omega, by omega⟩
  generalize hu : x % 4294967296 = u at *
  have key : ∀ s : Nat, s = 0 ∨ s = 8 ∨ s = 16 ∨ s = 24 → pj_shr x (s : Int) % 256 = pj_ushr x (s : Int) % 256 := by
    intro s hs
    rw [sh_val x s (by omega), us_val x s (by omega), ht, hu]
    have h2 := bm_mod ((u.toNat / 2 ^ s : Nat) : Int) 4294967296 256 ⟨16777216, rfl⟩
    rw [show ((256 : Nat) : Int) = 256 from rfl] at h2
    rw [h2]
    rcases hs with h | h | h | h <;> subst h
    · show (u + 4294967296 * t) / 1 % 256 = ((u.toNat / 1 : Nat) : Int) % 256
      omega
    · show (u + 4294967296 * t) / 256 % 256 = ((u.toNat / 256 : Nat) : Int) % 256
      omega
    · show (u + 4294967296 * t) / 65536 % 256 = ((u.toNat / 65536 : Nat) : Int) % 256
      omega
    · show (u + 4294967296 * t) / 16777216 % 256 = ((u.toNat / 16777216 : Nat) : Int) % 256
      omega
  rcases hk with h | h | h | h <;> subst h
  · exact key 0 (by decide)
  · exact key 8 (by decide)
  · exact key 16 (by decide)
  · exact key 24 (by decide)
/-- floorMod by 8 -/
theorem t_fmod8 {M : pj_M} {x : Int} {Q : Int → pj_M → Prop} (q : Q (x % 8) M) : w_Jfmod x 8 M Q := by
  unfold w_Jfmod
  refine ⟨⟨by decide, by decide⟩, by decide, ?_⟩
  rintro z hz
  have hy : ∃ t : Int, x.bmod 4294967296 = x + 4294967296 * t := by
    have h1 := Int.bmod_emod (x := x) (m := 4294967296)
    exact ⟨(x.bmod 4294967296 - x) / 4294967296, by omega⟩
  have hyb : -2147483648 ≤ x.bmod 4294967296 ∧ x.bmod 4294967296 ≤ 2147483647 := by
    have h1 := Int.le_bmod (x := x) (m := 4294967296) (by decide)
    have h2 := Int.bmod_lt (x := x) (m := 4294967296) (by decide)
    omega
  obtain ⟨t, ht⟩ := hy
  generalize hyy : x.bmod 4294967296 = y at *
  have hI : (pj_I x).toInt = y := by rw [bt_i, hyy]
  have h8 : (pj_I 8).toInt = 8 := by decide
  have hrem : z = y.tmod 8 := by
    rw [hz]
    unfold pj_rem
    rw [Int32.toInt_sub, Int32.toInt_mul, Int32.toInt_div, hI, h8]
    have h1 : y.tdiv 8 * 8 + y.tmod 8 = y := by have := Int.mul_tdiv_add_tmod y 8; omega
    have h2 : -7 ≤ y.tmod 8 ∧ y.tmod 8 ≤ 7 ∧ (0 ≤ y → 0 ≤ y.tmod 8) ∧ (y < 0 → y.tmod 8 ≤ 0) := by
      rcases Int.lt_or_le y 0 with h | h
      rotate_left
      · have a := Int.tmod_nonneg 8 h; have b := Int.tmod_lt_of_pos y (show (0 : Int) < 8 by decide); omega
      · have e : y = -(-y) := by omega
        rw [e, Int.neg_tmod]
        have a := Int.tmod_nonneg 8 (show 0 ≤ -y by omega); have b := Int.tmod_lt_of_pos (-y) (show (0 : Int) < 8 by decide); omega
    have bm : ∀ v : Int, -2147483648 ≤ v ∧ v ≤ 2147483647 → v.bmod (2 ^ 32) = v := fun v hv => Int.bmod_eq_of_le (by show -(4294967296 : Int) / 2 ≤ v; omega) (by show v < (4294967296 + 1 : Int) / 2; omega)
    have hd : -268435456 ≤ y.tdiv 8 ∧ y.tdiv 8 ≤ 268435455 ∧ -2147483648 ≤ y.tdiv 8 * 8 ∧ y.tdiv 8 * 8 ≤ 2147483647 := by omega
    rw [bm (y.tdiv 8) (by omega), bm (y.tdiv 8 * 8) (by omega), bm _ (by omega)]
    omega
  have hxor : (0 ≤ pj_xor x 8) ↔ 0 ≤ y := by
    unfold pj_xor
    have e : (pj_I x ^^^ pj_I 8).toInt = ((pj_I x).toBitVec ^^^ (pj_I 8).toBitVec).toInt := rfl
    rw [e]
    have hy2 : (pj_I x).toBitVec.toInt = y := hI
    rw [← hy2]
    constructor
    · intro h
      have h1 := BitVec.msb_eq_toInt (x := (pj_I x).toBitVec ^^^ (pj_I 8).toBitVec)
      rw [BitVec.msb_xor] at h1
      have h2 : (pj_I 8).toBitVec.msb = false := by decide
      rw [h2, Bool.xor_false] at h1
      have h3 := BitVec.msb_eq_toInt (x := (pj_I x).toBitVec)
      have h4 : decide (((pj_I x).toBitVec ^^^ (pj_I 8).toBitVec).toInt < 0) = false := by rw [decide_eq_false_iff_not]; omega
      rw [h4] at h1
      rw [h1] at h3
      have := decide_eq_false_iff_not.mp h3.symm
      omega
    · intro h
      have h1 := BitVec.msb_eq_toInt (x := (pj_I x).toBitVec ^^^ (pj_I 8).toBitVec)
      rw [BitVec.msb_xor] at h1
      have h2 : (pj_I 8).toBitVec.msb = false := by decide
      rw [h2, Bool.xor_false, BitVec.msb_eq_toInt] at h1
      have h4 : decide ((pj_I x).toBitVec.toInt < 0) = false := by rw [decide_eq_false_iff_not]; omega
      rw [h4] at h1
      have := decide_eq_false_iff_not.mp h1.symm
      omega
  have hin : pj_in (pj_xor x 8) := by
    unfold pj_xor
    have h1 := Int32.le_toInt (pj_I x ^^^ pj_I 8)
    have h2 := Int32.toInt_lt (pj_I x ^^^ pj_I 8)
    exact ⟨by omega, by omega⟩
  have hm : y.tmod 8 = if 0 ≤ y then y % 8 else -((-y) % 8) := by
    split
    · rename_i h; exact Int.tmod_eq_emod_of_nonneg h
    · rename_i h
      rw [show y = -(-y) by omega, Int.neg_tmod, Int.tmod_eq_emod_of_nonneg (by omega), Int.neg_neg]
  refine ⟨hin, fun h => ?_, fun h => ⟨?_, fun h0 => ?_, fun h0 => ?_⟩⟩
  · rw [hrem, hm, if_pos (hxor.mp h)]
    rw [show y % 8 = x % 8 by omega]; exact q
  · rw [hrem, hm]; split <;> exact ⟨by omega, by omega⟩
  · have hneg : ¬ 0 ≤ y := fun h' => h (hxor.mpr h')
    rw [hrem, hm, if_neg hneg] at h0 ⊢
    rw [show -(-y % 8) = x % 8 by omega]; exact q
  · have hneg : ¬ 0 ≤ y := fun h' => h (hxor.mpr h')
    rw [hrem, hm, if_neg hneg] at h0 ⊢
    rw [show -(-y % 8) + 8 = x % 8 by omega]; exact q
