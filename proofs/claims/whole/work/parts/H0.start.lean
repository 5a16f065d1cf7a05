def px_M0 : pj_M := fun _ _ => 0
def px_M1 : pj_M := pj_nw px_M0 0 (pj_do 11)
def px_M2 : pj_M := mk_X11_init px_M1 0 1
def px_M3 : pj_M := pj_nw px_M2 203 (pj_do 12)
def px_M4 : pj_M := mk_X12_init px_M3 203 204
def px_MI : pj_M := pj_nw px_M4 228 pj_dz
set_option maxRecDepth 100000 in
theorem px_rf_ok : ∀ a, a < 229 → (pj_sh a).1 = 0 → ∀ k, k < pj_N (pj_sh a).2 → pj_kd (pj_sh a).2 k = 1 → px_MI a (k : Int) = ((pj_rf a k : Nat) : Int) := by decide +kernel
set_option maxRecDepth 100000 in
theorem px_qf_ok : ∀ a, a < 229 → (pj_sh a).1 = 5 → ∀ k, k < (pj_sh a).2 → px_MI a (k : Int) = ((pj_rf a k : Nat) : Int) := by decide +kernel
def px_D : Int → Int := fun j => if j = 0 then 1 else 0
set_option maxRecDepth 100000 in
theorem pz_204 : px_MI 204 = px_D := by
  funext j
  by_cases h : j = 0
  · subst h; rfl
  · show (if (204 : Nat) = 204 ∧ j = 0 then (1 : Int) else pj_dz j) = px_D j
    simp [h, pj_dz, px_D]
set_option maxRecDepth 100000 in
theorem pz_2 : px_MI 2 = pj_dz := by rfl
set_option maxRecDepth 100000 in
theorem pz_5 : px_MI 5 = pj_dz := by rfl
set_option maxRecDepth 100000 in
theorem pz_6 : px_MI 6 = pj_dz := by rfl
set_option maxRecDepth 100000 in
theorem pz_7 : px_MI 7 = pj_dz := by rfl
set_option maxRecDepth 100000 in
theorem pz_15 : px_MI 15 = pj_dz := by rfl
set_option maxRecDepth 100000 in
theorem pz_16 : px_MI 16 = pj_dz := by rfl
set_option maxRecDepth 100000 in
theorem pz_17 : px_MI 17 = pj_dz := by rfl
set_option maxRecDepth 100000 in
theorem pz_19 : px_MI 19 = pj_dz := by rfl
set_option maxRecDepth 100000 in
theorem pz_20 : px_MI 20 = pj_dz := by rfl
set_option maxRecDepth 100000 in
theorem pz_23 : px_MI 23 = pj_dz := by rfl
set_option maxRecDepth 100000 in
theorem pz_24 : px_MI 24 = pj_dz := by rfl
set_option maxRecDepth 100000 in
theorem pz_25 : px_MI 25 = pj_dz := by rfl
set_option maxRecDepth 100000 in
theorem pz_27 : px_MI 27 = pj_dz := by rfl
set_option maxRecDepth 100000 in
theorem pz_28 : px_MI 28 = pj_dz := by rfl
set_option maxRecDepth 100000 in
theorem pz_30 : px_MI 30 = pj_dz := by rfl
set_option maxRecDepth 100000 in
theorem pz_35 : px_MI 35 = pj_dz := by rfl
set_option maxRecDepth 100000 in
theorem pz_36 : px_MI 36 = pj_dz := by rfl
set_option maxRecDepth 100000 in
theorem pz_37 : px_MI 37 = pj_dz := by rfl
set_option maxRecDepth 100000 in
theorem pz_39 : px_MI 39 = pj_dz := by rfl
set_option maxRecDepth 100000 in
theorem pz_40 : px_MI 40 = pj_dz := by rfl
set_option maxRecDepth 100000 in
theorem pz_43 : px_MI 43 = pj_dz := by rfl
set_option maxRecDepth 100000 in
theorem pz_44 : px_MI 44 = pj_dz := by rfl
set_option maxRecDepth 100000 in
theorem pz_45 : px_MI 45 = pj_dz := by rfl
set_option maxRecDepth 100000 in
theorem pz_47 : px_MI 47 = pj_dz := by rfl
set_option maxRecDepth 100000 in
theorem pz_48 : px_MI 48 = pj_dz := by rfl
set_option maxRecDepth 100000 in
theorem pz_51 : px_MI 51 = pj_dz := by rfl
set_option maxRecDepth 100000 in
theorem pz_52 : px_MI 52 = pj_dz := by rfl
set_option maxRecDepth 100000 in
theorem pz_53 : px_MI 53 = pj_dz := by rfl
set_option maxRecDepth 100000 in
theorem pz_55 : px_MI 55 = pj_dz := by rfl
set_option maxRecDepth 100000 in
theorem pz_56 : px_MI 56 = pj_dz := by rfl
set_option maxRecDepth 100000 in
theorem pz_59 : px_MI 59 = pj_dz := by rfl
set_option maxRecDepth 100000 in
theorem pz_60 : px_MI 60 = pj_dz := by rfl
set_option maxRecDepth 100000 in
theorem pz_61 : px_MI 61 = pj_dz := by rfl
set_option maxRecDepth 100000 in
theorem pz_63 : px_MI 63 = pj_dz := by rfl
set_option maxRecDepth 100000 in
theorem pz_64 : px_MI 64 = pj_dz := by rfl
set_option maxRecDepth 100000 in
theorem pz_67 : px_MI 67 = pj_dz := by rfl
set_option maxRecDepth 100000 in
theorem pz_68 : px_MI 68 = pj_dz := by rfl
set_option maxRecDepth 100000 in
theorem pz_69 : px_MI 69 = pj_dz := by rfl
set_option maxRecDepth 100000 in
theorem pz_71 : px_MI 71 = pj_dz := by rfl
set_option maxRecDepth 100000 in
theorem pz_72 : px_MI 72 = pj_dz := by rfl
set_option maxRecDepth 100000 in
theorem pz_75 : px_MI 75 = pj_dz := by rfl
set_option maxRecDepth 100000 in
theorem pz_76 : px_MI 76 = pj_dz := by rfl
set_option maxRecDepth 100000 in
theorem pz_77 : px_MI 77 = pj_dz := by rfl
set_option maxRecDepth 100000 in
theorem pz_79 : px_MI 79 = pj_dz := by rfl
set_option maxRecDepth 100000 in
theorem pz_80 : px_MI 80 = pj_dz := by rfl
set_option maxRecDepth 100000 in
theorem pz_83 : px_MI 83 = pj_dz := by rfl
set_option maxRecDepth 100000 in
theorem pz_84 : px_MI 84 = pj_dz := by rfl
set_option maxRecDepth 100000 in
theorem pz_85 : px_MI 85 = pj_dz := by rfl
set_option maxRecDepth 100000 in
theorem pz_87 : px_MI 87 = pj_dz := by rfl
set_option maxRecDepth 100000 in
theorem pz_88 : px_MI 88 = pj_dz := by rfl
set_option maxRecDepth 100000 in
theorem pz_91 : px_MI 91 = pj_dz := by rfl
set_option maxRecDepth 100000 in
theorem pz_92 : px_MI 92 = pj_dz := by rfl
set_option maxRecDepth 100000 in
theorem pz_93 : px_MI 93 = pj_dz := by rfl
set_option maxRecDepth 100000 in
theorem pz_95 : px_MI 95 = pj_dz := by rfl
set_option maxRecDepth 100000 in
theorem pz_96 : px_MI 96 = pj_dz := by rfl
set_option maxRecDepth 100000 in
theorem pz_99 : px_MI 99 = pj_dz := by rfl
set_option maxRecDepth 100000 in
theorem pz_100 : px_MI 100 = pj_dz := by rfl
set_option maxRecDepth 100000 in
theorem pz_101 : px_MI 101 = pj_dz := by rfl
set_option maxRecDepth 100000 in
theorem pz_103 : px_MI 103 = pj_dz := by rfl
set_option maxRecDepth 100000 in
theorem pz_104 : px_MI 104 = pj_dz := by rfl
set_option maxRecDepth 100000 in
theorem pz_107 : px_MI 107 = pj_dz := by rfl
set_option maxRecDepth 100000 in
theorem pz_108 : px_MI 108 = pj_dz := by rfl
set_option maxRecDepth 100000 in
theorem pz_109 : px_MI 109 = pj_dz := by rfl
set_option maxRecDepth 100000 in
theorem pz_111 : px_MI 111 = pj_dz := by rfl
set_option maxRecDepth 100000 in
theorem pz_112 : px_MI 112 = pj_dz := by rfl
set_option maxRecDepth 100000 in
theorem pz_114 : px_MI 114 = pj_dz := by rfl
set_option maxRecDepth 100000 in
theorem pz_117 : px_MI 117 = pj_dz := by rfl
set_option maxRecDepth 100000 in
theorem pz_118 : px_MI 118 = pj_dz := by rfl
set_option maxRecDepth 100000 in
theorem pz_119 : px_MI 119 = pj_dz := by rfl
set_option maxRecDepth 100000 in
theorem pz_121 : px_MI 121 = pj_dz := by rfl
set_option maxRecDepth 100000 in
theorem pz_122 : px_MI 122 = pj_dz := by rfl
set_option maxRecDepth 100000 in
theorem pz_123 : px_MI 123 = pj_dz := by rfl
set_option maxRecDepth 100000 in
theorem pz_124 : px_MI 124 = pj_dz := by rfl
set_option maxRecDepth 100000 in
theorem pz_125 : px_MI 125 = pj_dz := by rfl
set_option maxRecDepth 100000 in
theorem pz_126 : px_MI 126 = pj_dz := by rfl
set_option maxRecDepth 100000 in
theorem pz_127 : px_MI 127 = pj_dz := by rfl
set_option maxRecDepth 100000 in
theorem pz_128 : px_MI 128 = pj_dz := by rfl
set_option maxRecDepth 100000 in
theorem pz_129 : px_MI 129 = pj_dz := by rfl
set_option maxRecDepth 100000 in
theorem pz_130 : px_MI 130 = pj_dz := by rfl
set_option maxRecDepth 100000 in
theorem pz_131 : px_MI 131 = pj_dz := by rfl
set_option maxRecDepth 100000 in
theorem pz_132 : px_MI 132 = pj_dz := by rfl
set_option maxRecDepth 100000 in
theorem pz_133 : px_MI 133 = pj_dz := by rfl
set_option maxRecDepth 100000 in
theorem pz_134 : px_MI 134 = pj_dz := by rfl
set_option maxRecDepth 100000 in
theorem pz_137 : px_MI 137 = pj_dz := by rfl
set_option maxRecDepth 100000 in
theorem pz_138 : px_MI 138 = pj_dz := by rfl
set_option maxRecDepth 100000 in
theorem pz_139 : px_MI 139 = pj_dz := by rfl
set_option maxRecDepth 100000 in
theorem pz_141 : px_MI 141 = pj_dz := by rfl
set_option maxRecDepth 100000 in
theorem pz_142 : px_MI 142 = pj_dz := by rfl
set_option maxRecDepth 100000 in
theorem pz_143 : px_MI 143 = pj_dz := by rfl
set_option maxRecDepth 100000 in
theorem pz_144 : px_MI 144 = pj_dz := by rfl
set_option maxRecDepth 100000 in
theorem pz_145 : px_MI 145 = pj_dz := by rfl
set_option maxRecDepth 100000 in
theorem pz_146 : px_MI 146 = pj_dz := by rfl
set_option maxRecDepth 100000 in
theorem pz_147 : px_MI 147 = pj_dz := by rfl
set_option maxRecDepth 100000 in
theorem pz_148 : px_MI 148 = pj_dz := by rfl
set_option maxRecDepth 100000 in
theorem pz_149 : px_MI 149 = pj_dz := by rfl
set_option maxRecDepth 100000 in
theorem pz_150 : px_MI 150 = pj_dz := by rfl
set_option maxRecDepth 100000 in
theorem pz_151 : px_MI 151 = pj_dz := by rfl
set_option maxRecDepth 100000 in
theorem pz_152 : px_MI 152 = pj_dz := by rfl
set_option maxRecDepth 100000 in
theorem pz_153 : px_MI 153 = pj_dz := by rfl
set_option maxRecDepth 100000 in
theorem pz_154 : px_MI 154 = pj_dz := by rfl
set_option maxRecDepth 100000 in
theorem pz_157 : px_MI 157 = pj_dz := by rfl
set_option maxRecDepth 100000 in
theorem pz_158 : px_MI 158 = pj_dz := by rfl
set_option maxRecDepth 100000 in
theorem pz_159 : px_MI 159 = pj_dz := by rfl
set_option maxRecDepth 100000 in
theorem pz_161 : px_MI 161 = pj_dz := by rfl
set_option maxRecDepth 100000 in
theorem pz_162 : px_MI 162 = pj_dz := by rfl
set_option maxRecDepth 100000 in
theorem pz_163 : px_MI 163 = pj_dz := by rfl
set_option maxRecDepth 100000 in
theorem pz_164 : px_MI 164 = pj_dz := by rfl
set_option maxRecDepth 100000 in
theorem pz_165 : px_MI 165 = pj_dz := by rfl
set_option maxRecDepth 100000 in
theorem pz_166 : px_MI 166 = pj_dz := by rfl
set_option maxRecDepth 100000 in
theorem pz_167 : px_MI 167 = pj_dz := by rfl
set_option maxRecDepth 100000 in
theorem pz_168 : px_MI 168 = pj_dz := by rfl
set_option maxRecDepth 100000 in
theorem pz_169 : px_MI 169 = pj_dz := by rfl
set_option maxRecDepth 100000 in
theorem pz_170 : px_MI 170 = pj_dz := by rfl
set_option maxRecDepth 100000 in
theorem pz_171 : px_MI 171 = pj_dz := by rfl
set_option maxRecDepth 100000 in
theorem pz_172 : px_MI 172 = pj_dz := by rfl
set_option maxRecDepth 100000 in
theorem pz_173 : px_MI 173 = pj_dz := by rfl
set_option maxRecDepth 100000 in
theorem pz_174 : px_MI 174 = pj_dz := by rfl
set_option maxRecDepth 100000 in
theorem pz_186 : px_MI 186 = pj_dz := by rfl
set_option maxRecDepth 100000 in
theorem pz_189 : px_MI 189 = pj_dz := by rfl
set_option maxRecDepth 100000 in
theorem pz_190 : px_MI 190 = pj_dz := by rfl
set_option maxRecDepth 100000 in
theorem pz_191 : px_MI 191 = pj_dz := by rfl
set_option maxRecDepth 100000 in
theorem pz_193 : px_MI 193 = pj_dz := by rfl
set_option maxRecDepth 100000 in
theorem pz_194 : px_MI 194 = pj_dz := by rfl
set_option maxRecDepth 100000 in
theorem pz_197 : px_MI 197 = pj_dz := by rfl
set_option maxRecDepth 100000 in
theorem pz_198 : px_MI 198 = pj_dz := by rfl
set_option maxRecDepth 100000 in
theorem pz_199 : px_MI 199 = pj_dz := by rfl
set_option maxRecDepth 100000 in
theorem pz_201 : px_MI 201 = pj_dz := by rfl
set_option maxRecDepth 100000 in
theorem pz_202 : px_MI 202 = pj_dz := by rfl
set_option maxRecDepth 100000 in
theorem pz_205 : px_MI 205 = pj_dz := by rfl
set_option maxRecDepth 100000 in
theorem pz_206 : px_MI 206 = pj_dz := by rfl
set_option maxRecDepth 100000 in
theorem pz_209 : px_MI 209 = pj_dz := by rfl
set_option maxRecDepth 100000 in
theorem pz_210 : px_MI 210 = pj_dz := by rfl
set_option maxRecDepth 100000 in
theorem pz_211 : px_MI 211 = pj_dz := by rfl
set_option maxRecDepth 100000 in
theorem pz_212 : px_MI 212 = pj_dz := by rfl
set_option maxRecDepth 100000 in
theorem pz_213 : px_MI 213 = pj_dz := by rfl
set_option maxRecDepth 100000 in
theorem pz_214 : px_MI 214 = pj_dz := by rfl
set_option maxRecDepth 100000 in
theorem pz_222 : px_MI 222 = pj_dz := by rfl
set_option maxRecDepth 100000 in
theorem pz_223 : px_MI 223 = pj_dz := by rfl
set_option maxRecDepth 100000 in
theorem pz_225 : px_MI 225 = pj_dz := by rfl
theorem px_D0 : px_D 0 = 1 := rfl
theorem px_Dn {j : Int} (h : j ≠ 0) : px_D j = 0 := by simp [px_D, h]
theorem px_dvl : dvl px_D := by
  refine ⟨⟨⟨by decide, by decide⟩, fun k k1 k2 => ?_, fun k k1 k2 => ?_, fun k s k1 k2 s1 s2 => ?_⟩, ?_, ⟨by decide, by decide⟩, fun x x1 x2 => ?_, ⟨by decide, by decide⟩, fun i i1 i2 => ?_, fun i j i1 i2 j1 j2 _ => ?_⟩
  · rw [px_Dn (by omega)]; omega
  · rw [px_Dn (by omega)]; omega
  · rw [px_Dn (by omega)]; omega
  · refine gr_gd_iff.mpr ⟨0, by decide, by decide, ?_⟩
    intro s hs
    have e : (gr_of px_D).2.2 0 = [] := by decide
    rw [e] at hs
    cases hs
  · rw [px_Dn (by omega)]; omega
  · rw [px_Dn (by decide)] at i2; omega
  · rw [px_Dn (by decide)] at i2; omega
theorem px_dz (x : Int) : pj_dz x = 0 := rfl
set_option maxRecDepth 100000 in
theorem px_drep : drep px_MI 13 px_D := by
  have a1 : px_MI 14 3 = 1 := by decide +kernel
  have a2 : px_MI 14 4 = 0 := by decide +kernel
  have a3 : px_MI 14 5 = 1 := by decide +kernel
  have a4 : px_MI 18 1 = 0 := by decide +kernel
  have a5 : px_MI 13 3 = 0 := by decide +kernel
  refine ⟨⟨⟨by show 1 ≤ px_MI 14 3 ∧ px_MI 14 3 ≤ 12; omega, fun k => ?_, fun k => ?_, fun k => ?_, ?_⟩, a1, fun k k1 k2 => ?_, ?_, 1, ?_, by decide, fun x => ?_⟩, ⟨⟨by show 0 ≤ px_MI 18 1 ∧ px_MI 18 1 ≤ 14; omega, fun x => ?_⟩, a4, fun x x1 x2 => ?_⟩, a5, fun x x1 x2 => ?_⟩
  · show 0 ≤ px_MI 15 k ∧ px_MI 15 k ≤ 5
    rw [pz_15, px_dz]; omega
  · show 0 ≤ px_MI 16 k ∧ px_MI 16 k ≤ 4
    rw [pz_16, px_dz]; omega
  · show 0 ≤ px_MI 17 k ∧ px_MI 17 k ≤ 13
    rw [pz_17, px_dz]; omega
  · show px_MI 14 4 = px_MI 15 0
    rw [a2, pz_15, px_dz]
  · rw [px_D0] at k2
    have : k = 0 := by omega
    subst this
    refine ⟨?_, ?_, fun s s1 s2 => ?_⟩
    · show px_MI 15 0 = _
      rw [pz_15, px_dz]; rfl
    · show px_MI 16 0 = _
      rw [pz_16, px_dz]; rfl
    · rw [px_Dn (by decide)] at s2; omega
  · show px_MI 14 4 = _
    rw [a2]; rfl
  · show px_MI 14 5 = _
    rw [a3]; rfl
  · constructor
    · intro h
      refine ⟨0, by decide, by decide, ?_⟩
      have : x = 0 := by
        rcases Nat.eq_zero_or_pos x with h0 | h0
        · exact h0
        · obtain ⟨y, rfl⟩ : ∃ y, x = y + 1 := ⟨x - 1, by omega⟩
          rw [Nat.testBit_succ] at h
          simp at h
      subst this
      rfl
    · rintro ⟨k, k1, k2, k3⟩
      rw [px_Dn (by omega)] at k3
      have : x = 0 := by omega
      subst this
      rfl
  · show 0 ≤ px_MI 19 x ∧ px_MI 19 x ≤ 7
    rw [pz_19, px_dz]; omega
  · rw [px_Dn (by decide)] at x2; omega
  · rw [px_Dn (by decide)] at x2; omega
theorem px_dwf {d : Nat} (h1 : px_MI (d + 2) = pj_dz) (h2 : px_MI (d + 3) = pj_dz) (h3 : px_MI (d + 4) = pj_dz) (h4 : px_MI (d + 6) = pj_dz) : dwf px_MI d := by
  refine ⟨⟨fun k => ?_, fun k => ?_, fun k => ?_⟩, fun x => ?_⟩
  · show 0 ≤ px_MI (d + 2) k ∧ px_MI (d + 2) k ≤ 5
    rw [h1, px_dz]; omega
  · show 0 ≤ px_MI (d + 3) k ∧ px_MI (d + 3) k ≤ 4
    rw [h2, px_dz]; omega
  · show 0 ≤ px_MI (d + 4) k ∧ px_MI (d + 4) k ≤ 13
    rw [h3, px_dz]; omega
  · rw [h4, px_dz]; omega
theorem px_gwb {b : Nat} (h1 : px_MI (b + 1) = pj_dz) (h2 : px_MI (b + 2) = pj_dz) (h3 : px_MI (b + 3) = pj_dz) : gwb px_MI b := by
  refine ⟨fun k => ?_, fun k => ?_, fun k => ?_⟩
  · rw [h1, px_dz]; omega
  · rw [h2, px_dz]; omega
  · rw [h3, px_dz]; omega
theorem px_cinv {c : Nat} (hc : isC c) (z10 : px_MI (c + 10) = pj_dz) (z11 : px_MI (c + 11) = pj_dz) (z12 : px_MI (c + 12) = pj_dz) (z13 : px_MI (c + 13) = pj_dz) (z14 : px_MI (c + 14) = pj_dz) (z15 : px_MI (c + 15) = pj_dz) (z16 : px_MI (c + 16) = pj_dz) (z17 : px_MI (c + 17) = pj_dz) (z18 : px_MI (c + 18) = pj_dz) (z19 : px_MI (c + 19) = pj_dz)
    (z2 : px_MI (c + 2) = pj_dz) (z3 : px_MI (c + 3) = pj_dz) (z4 : px_MI (c + 4) = pj_dz) (z7 : px_MI c 7 = 0) : cinv px_MI c := by
  refine ⟨hc, ⟨fun k => ?_, fun k => ?_, fun k => ?_, fun k => ?_, fun k => ?_, ?_, ?_, ?_, ?_, ?_⟩, px_gwb z2 z3 z4, Or.inl z7⟩
  · rw [z10, px_dz]; omega
  · rw [z11, px_dz]; omega
  · rw [z12, px_dz]; omega
  · rw [z13, px_dz]; omega
  · rw [z14, px_dz]; omega
  · intro x; rw [z15, px_dz]; omega
  · intro x; rw [z16, px_dz]; omega
  · intro x; rw [z17, px_dz]; omega
  · intro x; rw [z18, px_dz]; omega
  · intro x; rw [z19, px_dz]; omega
set_option maxRecDepth 100000 in
theorem px_INV : INV px_MI := by
  have b1 : px_MI 1 1 = 0 := by decide +kernel
  have b2 : px_MI 203 2 = 0 := by decide +kernel
  have b3 : px_MI 203 34 = 0 := by decide +kernel
  have b4 : px_MI 31 2 = 0 := by decide +kernel
  have b5 : px_MI 31 1 = 0 := by decide +kernel
  have b6 : px_MI 0 15 = 0 := by decide +kernel
  have b7 : px_MI 203 4 = 0 := by decide +kernel
  have rw0 : rws px_MI [] := ⟨b6, by decide, fun k x h => by simp at h⟩
  have rm0 : rwsm px_MI [] := ⟨b7, by decide, fun k x h => by simp at h⟩
  refine ⟨⟨⟨px_cinv (Or.inl rfl) pz_125 pz_126 pz_127 pz_128 pz_129 pz_130 pz_131 pz_132 pz_133 pz_134 pz_117 pz_118 pz_119 (by decide +kernel), px_cinv (Or.inr (Or.inl rfl)) pz_145 pz_146 pz_147 pz_148 pz_149 pz_150 pz_151 pz_152 pz_153 pz_154 pz_137 pz_138 pz_139 (by decide +kernel), px_cinv (Or.inr (Or.inr rfl)) pz_165 pz_166 pz_167 pz_168 pz_169 pz_170 pz_171 pz_172 pz_173 pz_174 pz_157 pz_158 pz_159 (by decide +kernel), fun x => by rw [pz_30, px_dz]; omega⟩, ⟨by rw [pz_204]; exact px_drep, by rw [pz_204]; exact px_dvl⟩, px_dwf pz_23 pz_24 pz_25 pz_27, ⟨by rw [b5]; decide, by rw [b4]; decide, fun i hi => ?_, fun i i1 i2 => by rw [b4] at i2; omega⟩, ⟨fun x => by rw [pz_114, px_dz]; exact Or.inl rfl, fun i hi => ⟨?_, fun h => by rw [pz_114, px_dz] at h; cases h⟩⟩, ⟨by rw [b1]; decide, fun k => by rw [pz_2, px_dz]; omega⟩, px_gwb pz_5 pz_6 pz_7, [], rw0⟩, ⟨fun x => by rw [pz_210, px_dz]; exact Or.inl rfl, fun x => by rw [pz_211, px_dz]; exact Or.inl rfl, fun x => by rw [pz_212, px_dz]; exact Or.inl rfl, fun x => by rw [pz_213, px_dz]; exact Or.inl rfl, fun x => by rw [pz_214, px_dz]; exact Or.inl rfl, fun x => by rw [pz_209, px_dz]; omega⟩, ⟨by rw [b1, b2], fun x => by rw [pz_205, px_dz]; omega, fun k k1 k2 => by rw [b1] at k2; omega⟩, by rw [b3, b4], fun x => by rw [pz_223, pz_114], [], rw0, rm0⟩
  · rcases (by omega : i = 0 ∨ i = 1 ∨ i = 2 ∨ i = 3 ∨ i = 4 ∨ i = 5 ∨ i = 6 ∨ i = 7 ∨ i = 8 ∨ i = 9) with rfl | rfl | rfl | rfl | rfl | rfl | rfl | rfl | rfl | rfl
    · exact px_dwf pz_35 pz_36 pz_37 pz_39
    · exact px_dwf pz_43 pz_44 pz_45 pz_47
    · exact px_dwf pz_51 pz_52 pz_53 pz_55
    · exact px_dwf pz_59 pz_60 pz_61 pz_63
    · exact px_dwf pz_67 pz_68 pz_69 pz_71
    · exact px_dwf pz_75 pz_76 pz_77 pz_79
    · exact px_dwf pz_83 pz_84 pz_85 pz_87
    · exact px_dwf pz_91 pz_92 pz_93 pz_95
    · exact px_dwf pz_99 pz_100 pz_101 pz_103
    · exact px_dwf pz_107 pz_108 pz_109 pz_111
  · rcases (by omega : i = 0 ∨ i = 1) with rfl | rfl
    · exact px_dwf pz_189 pz_190 pz_191 pz_193
    · exact px_dwf pz_197 pz_198 pz_199 pz_201
def px_g (g : pj_G) : pj_G := (g.1, g.2.1, true, g.2.2.2)
theorem px_arrV {c : ClassId} {n : Nat} {f f' : Nat → Value} (h : ∀ j, j < n → f j = f' j) : arrV c n f = arrV c n f' := by
  unfold arrV
  congr 1
  apply Array.ext
  · simp
  · intro i h1 h2
    simp
    exact h i (by simpa using h1)
theorem px_flipP {g : pj_G} (hph : pj_ph g = false) {H : Heap} (h : va_P (pj_D g) vwCl (pj_ws g pj_NK px_MI) H) : va_P (pj_D (px_g g)) vwCl (pj_ws (px_g g) pj_NK px_MI) H := by
  intro k q hk
  have hkk : k < pj_NK := by
    have := (List.getElem?_eq_some_iff.mp hk).1
    simpa [pj_ws] using this
  rw [pj_ws_get hkk] at hk
  cases hk
  have hp' : pj_ph (px_g g) = true := rfl
  have h0 := h k _ (pj_ws_get hkk)
  by_cases h1 : (pj_sh k).1 = 0
  · have e : pj_fs (px_g g) px_MI k (pj_sh k).2 = pj_fs g px_MI k (pj_sh k).2 := by
      unfold pj_fs
      apply List.map_congr_left
      intro j hj
      have hj := List.mem_range.mp hj
      unfold pj_fv
      by_cases h2 : pj_kd (pj_sh k).2 j = 1
      · have r := px_rf_ok k hkk h1 j hj h2
        rw [if_pos h2, if_pos h2, hp', if_pos rfl, hph, if_neg (by decide), r]
        unfold pj_rv
        rw [if_neg (by omega)]
        rfl
      · rw [if_neg h2, if_neg h2]
        rfl
    have e1 : pj_ce (px_g g) px_MI k = pj_ce g px_MI k := by
      unfold pj_ce
      rw [if_pos h1, if_pos h1, e]
    rw [e1]
    exact h0
  · by_cases h2 : (pj_sh k).1 = 4
    · have e1 : pj_ce (px_g g) px_MI k = pj_ce g px_MI k := by
        unfold pj_ce
        rw [if_neg h1, if_pos h2, if_neg h1, if_pos h2]
        rfl
      rw [e1]
      exact h0
    · by_cases h3 : (pj_sh k).1 = 5
      · unfold pj_ce at h0 ⊢
        rw [if_neg h1, if_neg h2, if_pos h3] at h0 ⊢
        have h0 : H[pj_bs g + k]? = some (arrV (pj_dA g 4) (pj_sh k).2 (fun j => va_rf (pj_qa g px_MI k j))) := h0
        show H[pj_bs g + k]? = some (arrV (pj_dA g 4) (pj_sh k).2 (fun j => va_rf (pj_qa (px_g g) px_MI k j)))
        rw [h0]
        congr 1
        apply px_arrV
        intro j hj
        have r := px_qf_ok k hkk h3 j hj
        congr 1
        unfold pj_qa
        rw [hph, hp', if_neg (by decide), if_pos rfl, r, if_neg (by omega)]
        rfl
      · have e1 : pj_ce (px_g g) px_MI k = pj_ce g px_MI k := by
          unfold pj_ce
          rw [if_neg h1, if_neg h2, if_neg h3, if_neg h1, if_neg h2, if_neg h3]
          rfl
        rw [e1]
        exact h0
theorem px_vg (g : pj_G) (v : Value) : pj_v (px_g g) v = pj_v g v := by cases v <;> rfl
theorem px_flip {l : Launch} {g : pj_G} {d : pj_MD} {X : State → Prop} {Z : pj_Z} {c0 s0 pc : Nat} {ls : List (Nat × Value)} {st : List Value} (hph : pj_ph g = false) (h : pj_R l (px_g g) d X Z pj_NK c0 s0 pc ls st px_MI) : pj_R l g d X Z pj_NK c0 s0 pc ls st px_MI := by
  intro p e s m args below meth c H locs la C hH hL
  have e1 : pj_v (px_g g) = pj_v g := funext (px_vg g)
  have e2 : pj_p (px_g g) = pj_p g := funext (fun q => by unfold pj_p; rw [e1])
  have k := h p e s m args below meth c H locs la C ⟨px_flipP hph hH.1, hH.2.1, hH.2.2.1, hH.2.2.2⟩ (by rw [e2]; exact hL)
  rw [e1] at k
  exact k
