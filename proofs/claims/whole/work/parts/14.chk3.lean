/-! every entry of the table is what the bytes and the tables' words say -/
theorem ck_130 : ∀ (pc : Nat) (q : xI), tb 130 pc = some q → xval 130 pc q = true := xchk_of (N := 50) (by decide +kernel) (fun pc h => by show tb_130 pc = none; unfold tb_130; rw [show Nat.ble 50 pc = true from Nat.ble_eq_true_of_le h]; rfl)
theorem ck_131 : ∀ (pc : Nat) (q : xI), tb 131 pc = some q → xval 131 pc q = true := xchk_of (N := 26) (by decide +kernel) (fun pc h => by show tb_131 pc = none; unfold tb_131; rw [show Nat.ble 26 pc = true from Nat.ble_eq_true_of_le h]; rfl)
theorem ck_132 : ∀ (pc : Nat) (q : xI), tb 132 pc = some q → xval 132 pc q = true := xchk_of (N := 25) (by decide +kernel) (fun pc h => by show tb_132 pc = none; unfold tb_132; rw [show Nat.ble 25 pc = true from Nat.ble_eq_true_of_le h]; rfl)
theorem ck_133 : ∀ (pc : Nat) (q : xI), tb 133 pc = some q → xval 133 pc q = true := xchk_of (N := 126) (by decide +kernel) (fun pc h => by show tb_133 pc = none; unfold tb_133; rw [show Nat.ble 126 pc = true from Nat.ble_eq_true_of_le h]; rfl)
theorem ck_134 : ∀ (pc : Nat) (q : xI), tb 134 pc = some q → xval 134 pc q = true := xchk_of (N := 21) (by decide +kernel) (fun pc h => by show tb_134 pc = none; unfold tb_134; rw [show Nat.ble 21 pc = true from Nat.ble_eq_true_of_le h]; rfl)
theorem ck_135 : ∀ (pc : Nat) (q : xI), tb 135 pc = some q → xval 135 pc q = true := xchk_of (N := 118) (by decide +kernel) (fun pc h => by show tb_135 pc = none; unfold tb_135; rw [show Nat.ble 118 pc = true from Nat.ble_eq_true_of_le h]; rfl)
theorem ck_136 : ∀ (pc : Nat) (q : xI), tb 136 pc = some q → xval 136 pc q = true := xchk_of (N := 24) (by decide +kernel) (fun pc h => by show tb_136 pc = none; unfold tb_136; rw [show Nat.ble 24 pc = true from Nat.ble_eq_true_of_le h]; rfl)
theorem ck_137 : ∀ (pc : Nat) (q : xI), tb 137 pc = some q → xval 137 pc q = true := xchk_of (N := 37) (by decide +kernel) (fun pc h => by show tb_137 pc = none; unfold tb_137; rw [show Nat.ble 37 pc = true from Nat.ble_eq_true_of_le h]; rfl)
theorem ck_138 : ∀ (pc : Nat) (q : xI), tb 138 pc = some q → xval 138 pc q = true := xchk_of (N := 29) (by decide +kernel) (fun pc h => by show tb_138 pc = none; unfold tb_138; rw [show Nat.ble 29 pc = true from Nat.ble_eq_true_of_le h]; rfl)
theorem ck_139 : ∀ (pc : Nat) (q : xI), tb 139 pc = some q → xval 139 pc q = true := xchk_of (N := 22) (by decide +kernel) (fun pc h => by show tb_139 pc = none; unfold tb_139; rw [show Nat.ble 22 pc = true from Nat.ble_eq_true_of_le h]; rfl)
theorem ck_140 : ∀ (pc : Nat) (q : xI), tb 140 pc = some q → xval 140 pc q = true := xchk_of (N := 37) (by decide +kernel) (fun pc h => by show tb_140 pc = none; unfold tb_140; rw [show Nat.ble 37 pc = true from Nat.ble_eq_true_of_le h]; rfl)
theorem ck_141 : ∀ (pc : Nat) (q : xI), tb 141 pc = some q → xval 141 pc q = true := xchk_of (N := 37) (by decide +kernel) (fun pc h => by show tb_141 pc = none; unfold tb_141; rw [show Nat.ble 37 pc = true from Nat.ble_eq_true_of_le h]; rfl)
theorem ck_142 : ∀ (pc : Nat) (q : xI), tb 142 pc = some q → xval 142 pc q = true := xchk_of (N := 48) (by decide +kernel) (fun pc h => by show tb_142 pc = none; unfold tb_142; rw [show Nat.ble 48 pc = true from Nat.ble_eq_true_of_le h]; rfl)
theorem ck_143 : ∀ (pc : Nat) (q : xI), tb 143 pc = some q → xval 143 pc q = true := xchk_of (N := 41) (by decide +kernel) (fun pc h => by show tb_143 pc = none; unfold tb_143; rw [show Nat.ble 41 pc = true from Nat.ble_eq_true_of_le h]; rfl)
theorem ck_144 : ∀ (pc : Nat) (q : xI), tb 144 pc = some q → xval 144 pc q = true := xchk_of (N := 49) (by decide +kernel) (fun pc h => by show tb_144 pc = none; unfold tb_144; rw [show Nat.ble 49 pc = true from Nat.ble_eq_true_of_le h]; rfl)
theorem ck_145 : ∀ (pc : Nat) (q : xI), tb 145 pc = some q → xval 145 pc q = true := xchk_of (N := 81) (by decide +kernel) (fun pc h => by show tb_145 pc = none; unfold tb_145; rw [show Nat.ble 81 pc = true from Nat.ble_eq_true_of_le h]; rfl)
theorem ck_146 : ∀ (pc : Nat) (q : xI), tb 146 pc = some q → xval 146 pc q = true := xchk_of (N := 84) (by decide +kernel) (fun pc h => by show tb_146 pc = none; unfold tb_146; rw [show Nat.ble 84 pc = true from Nat.ble_eq_true_of_le h]; rfl)
theorem ck_147 : ∀ (pc : Nat) (q : xI), tb 147 pc = some q → xval 147 pc q = true := xchk_of (N := 32) (by decide +kernel) (fun pc h => by show tb_147 pc = none; unfold tb_147; rw [show Nat.ble 32 pc = true from Nat.ble_eq_true_of_le h]; rfl)
theorem ck_148 : ∀ (pc : Nat) (q : xI), tb 148 pc = some q → xval 148 pc q = true := xchk_of (N := 45) (by decide +kernel) (fun pc h => by show tb_148 pc = none; unfold tb_148; rw [show Nat.ble 45 pc = true from Nat.ble_eq_true_of_le h]; rfl)
theorem ck_149 : ∀ (pc : Nat) (q : xI), tb 149 pc = some q → xval 149 pc q = true := xchk_of (N := 77) (by decide +kernel) (fun pc h => by show tb_149 pc = none; unfold tb_149; rw [show Nat.ble 77 pc = true from Nat.ble_eq_true_of_le h]; rfl)
theorem ck_150 : ∀ (pc : Nat) (q : xI), tb 150 pc = some q → xval 150 pc q = true := xchk_of (N := 36) (by decide +kernel) (fun pc h => by show tb_150 pc = none; unfold tb_150; rw [show Nat.ble 36 pc = true from Nat.ble_eq_true_of_le h]; rfl)
theorem ck_151 : ∀ (pc : Nat) (q : xI), tb 151 pc = some q → xval 151 pc q = true := xchk_of (N := 81) (by decide +kernel) (fun pc h => by show tb_151 pc = none; unfold tb_151; rw [show Nat.ble 81 pc = true from Nat.ble_eq_true_of_le h]; rfl)
theorem ck_152 : ∀ (pc : Nat) (q : xI), tb 152 pc = some q → xval 152 pc q = true := xchk_of (N := 42) (by decide +kernel) (fun pc h => by show tb_152 pc = none; unfold tb_152; rw [show Nat.ble 42 pc = true from Nat.ble_eq_true_of_le h]; rfl)
theorem ck_153 : ∀ (pc : Nat) (q : xI), tb 153 pc = some q → xval 153 pc q = true := xchk_of (N := 39) (by decide +kernel) (fun pc h => by show tb_153 pc = none; unfold tb_153; rw [show Nat.ble 39 pc = true from Nat.ble_eq_true_of_le h]; rfl)
theorem ck_154 : ∀ (pc : Nat) (q : xI), tb 154 pc = some q → xval 154 pc q = true := xchk_of (N := 25) (by decide +kernel) (fun pc h => by show tb_154 pc = none; unfold tb_154; rw [show Nat.ble 25 pc = true from Nat.ble_eq_true_of_le h]; rfl)
theorem ck_155 : ∀ (pc : Nat) (q : xI), tb 155 pc = some q → xval 155 pc q = true := xchk_of (N := 18) (by decide +kernel) (fun pc h => by show tb_155 pc = none; unfold tb_155; rw [show Nat.ble 18 pc = true from Nat.ble_eq_true_of_le h]; rfl)
theorem ck_156 : ∀ (pc : Nat) (q : xI), tb 156 pc = some q → xval 156 pc q = true := xchk_of (N := 50) (by decide +kernel) (fun pc h => by show tb_156 pc = none; unfold tb_156; rw [show Nat.ble 50 pc = true from Nat.ble_eq_true_of_le h]; rfl)
theorem ck_157 : ∀ (pc : Nat) (q : xI), tb 157 pc = some q → xval 157 pc q = true := xchk_of (N := 19) (by decide +kernel) (fun pc h => by show tb_157 pc = none; unfold tb_157; rw [show Nat.ble 19 pc = true from Nat.ble_eq_true_of_le h]; rfl)
theorem ck_158 : ∀ (pc : Nat) (q : xI), tb 158 pc = some q → xval 158 pc q = true := xchk_of (N := 11) (by decide +kernel) (fun pc h => by show tb_158 pc = none; unfold tb_158; rw [show Nat.ble 11 pc = true from Nat.ble_eq_true_of_le h]; rfl)
theorem ck_159 : ∀ (pc : Nat) (q : xI), tb 159 pc = some q → xval 159 pc q = true := xchk_of (N := 141) (by decide +kernel) (fun pc h => by show tb_159 pc = none; unfold tb_159; rw [show Nat.ble 141 pc = true from Nat.ble_eq_true_of_le h]; rfl)
theorem ck_160 : ∀ (pc : Nat) (q : xI), tb 160 pc = some q → xval 160 pc q = true := xchk_of (N := 30) (by decide +kernel) (fun pc h => by show tb_160 pc = none; unfold tb_160; rw [show Nat.ble 30 pc = true from Nat.ble_eq_true_of_le h]; rfl)
theorem ck_161 : ∀ (pc : Nat) (q : xI), tb 161 pc = some q → xval 161 pc q = true := xchk_of (N := 18) (by decide +kernel) (fun pc h => by show tb_161 pc = none; unfold tb_161; rw [show Nat.ble 18 pc = true from Nat.ble_eq_true_of_le h]; rfl)
theorem ck_162 : ∀ (pc : Nat) (q : xI), tb 162 pc = some q → xval 162 pc q = true := xchk_of (N := 18) (by decide +kernel) (fun pc h => by show tb_162 pc = none; unfold tb_162; rw [show Nat.ble 18 pc = true from Nat.ble_eq_true_of_le h]; rfl)
theorem ck_163 : ∀ (pc : Nat) (q : xI), tb 163 pc = some q → xval 163 pc q = true := xchk_of (N := 62) (by decide +kernel) (fun pc h => by show tb_163 pc = none; unfold tb_163; rw [show Nat.ble 62 pc = true from Nat.ble_eq_true_of_le h]; rfl)
theorem ck_164 : ∀ (pc : Nat) (q : xI), tb 164 pc = some q → xval 164 pc q = true := xchk_of (N := 18) (by decide +kernel) (fun pc h => by show tb_164 pc = none; unfold tb_164; rw [show Nat.ble 18 pc = true from Nat.ble_eq_true_of_le h]; rfl)
theorem ck_165 : ∀ (pc : Nat) (q : xI), tb 165 pc = some q → xval 165 pc q = true := xchk_of (N := 113) (by decide +kernel) (fun pc h => by show tb_165 pc = none; unfold tb_165; rw [show Nat.ble 113 pc = true from Nat.ble_eq_true_of_le h]; rfl)
theorem ck_166 : ∀ (pc : Nat) (q : xI), tb 166 pc = some q → xval 166 pc q = true := xchk_of (N := 19) (by decide +kernel) (fun pc h => by show tb_166 pc = none; unfold tb_166; rw [show Nat.ble 19 pc = true from Nat.ble_eq_true_of_le h]; rfl)
theorem ck_167 : ∀ (pc : Nat) (q : xI), tb 167 pc = some q → xval 167 pc q = true := xchk_of (N := 64) (by decide +kernel) (fun pc h => by show tb_167 pc = none; unfold tb_167; rw [show Nat.ble 64 pc = true from Nat.ble_eq_true_of_le h]; rfl)
theorem ck_168 : ∀ (pc : Nat) (q : xI), tb 168 pc = some q → xval 168 pc q = true := xchk_of (N := 22) (by decide +kernel) (fun pc h => by show tb_168 pc = none; unfold tb_168; rw [show Nat.ble 22 pc = true from Nat.ble_eq_true_of_le h]; rfl)
theorem ck_169 : ∀ (pc : Nat) (q : xI), tb 169 pc = some q → xval 169 pc q = true := xchk_of (N := 12) (by decide +kernel) (fun pc h => by show tb_169 pc = none; unfold tb_169; rw [show Nat.ble 12 pc = true from Nat.ble_eq_true_of_le h]; rfl)
theorem ck_170 : ∀ (pc : Nat) (q : xI), tb 170 pc = some q → xval 170 pc q = true := xchk_of (N := 19) (by decide +kernel) (fun pc h => by show tb_170 pc = none; unfold tb_170; rw [show Nat.ble 19 pc = true from Nat.ble_eq_true_of_le h]; rfl)
theorem ck_171 : ∀ (pc : Nat) (q : xI), tb 171 pc = some q → xval 171 pc q = true := xchk_of (N := 22) (by decide +kernel) (fun pc h => by show tb_171 pc = none; unfold tb_171; rw [show Nat.ble 22 pc = true from Nat.ble_eq_true_of_le h]; rfl)
theorem ck_172 : ∀ (pc : Nat) (q : xI), tb 172 pc = some q → xval 172 pc q = true := xchk_of (N := 104) (by decide +kernel) (fun pc h => by show tb_172 pc = none; unfold tb_172; rw [show Nat.ble 104 pc = true from Nat.ble_eq_true_of_le h]; rfl)
theorem ck_173 : ∀ (pc : Nat) (q : xI), tb 173 pc = some q → xval 173 pc q = true := xchk_of (N := 81) (by decide +kernel) (fun pc h => by show tb_173 pc = none; unfold tb_173; rw [show Nat.ble 81 pc = true from Nat.ble_eq_true_of_le h]; rfl)
theorem ck_174 : ∀ (pc : Nat) (q : xI), tb 174 pc = some q → xval 174 pc q = true := xchk_of (N := 133) (by decide +kernel) (fun pc h => by show tb_174 pc = none; unfold tb_174; rw [show Nat.ble 133 pc = true from Nat.ble_eq_true_of_le h]; rfl)
theorem ck_175 : ∀ (pc : Nat) (q : xI), tb 175 pc = some q → xval 175 pc q = true := xchk_of (N := 6) (by decide +kernel) (fun pc h => by show tb_175 pc = none; unfold tb_175; rw [show Nat.ble 6 pc = true from Nat.ble_eq_true_of_le h]; rfl)
theorem ck_176 : ∀ (pc : Nat) (q : xI), tb 176 pc = some q → xval 176 pc q = true := xchk_of (N := 98) (by decide +kernel) (fun pc h => by show tb_176 pc = none; unfold tb_176; rw [show Nat.ble 98 pc = true from Nat.ble_eq_true_of_le h]; rfl)
theorem ck_177 : ∀ (pc : Nat) (q : xI), tb 177 pc = some q → xval 177 pc q = true := xchk_of (N := 60) (by decide +kernel) (fun pc h => by show tb_177 pc = none; unfold tb_177; rw [show Nat.ble 60 pc = true from Nat.ble_eq_true_of_le h]; rfl)
theorem ck_178 : ∀ (pc : Nat) (q : xI), tb 178 pc = some q → xval 178 pc q = true := xchk_of (N := 42) (by decide +kernel) (fun pc h => by show tb_178 pc = none; unfold tb_178; rw [show Nat.ble 42 pc = true from Nat.ble_eq_true_of_le h]; rfl)
theorem ck_179 : ∀ (pc : Nat) (q : xI), tb 179 pc = some q → xval 179 pc q = true := xchk_of (N := 77) (by decide +kernel) (fun pc h => by show tb_179 pc = none; unfold tb_179; rw [show Nat.ble 77 pc = true from Nat.ble_eq_true_of_le h]; rfl)
theorem ck_180 : ∀ (pc : Nat) (q : xI), tb 180 pc = some q → xval 180 pc q = true := xchk_of (N := 98) (by decide +kernel) (fun pc h => by show tb_180 pc = none; unfold tb_180; rw [show Nat.ble 98 pc = true from Nat.ble_eq_true_of_le h]; rfl)
theorem ck_181 : ∀ (pc : Nat) (q : xI), tb 181 pc = some q → xval 181 pc q = true := xchk_of (N := 164) (by decide +kernel) (fun pc h => by show tb_181 pc = none; unfold tb_181; rw [show Nat.ble 164 pc = true from Nat.ble_eq_true_of_le h]; rfl)
theorem ck_182 : ∀ (pc : Nat) (q : xI), tb 182 pc = some q → xval 182 pc q = true := xchk_of (N := 127) (by decide +kernel) (fun pc h => by show tb_182 pc = none; unfold tb_182; rw [show Nat.ble 127 pc = true from Nat.ble_eq_true_of_le h]; rfl)
theorem ck_183 : ∀ (pc : Nat) (q : xI), tb 183 pc = some q → xval 183 pc q = true := xchk_of (N := 127) (by decide +kernel) (fun pc h => by show tb_183 pc = none; unfold tb_183; rw [show Nat.ble 127 pc = true from Nat.ble_eq_true_of_le h]; rfl)
theorem ck_184 : ∀ (pc : Nat) (q : xI), tb 184 pc = some q → xval 184 pc q = true := xchk_of (N := 24) (by decide +kernel) (fun pc h => by show tb_184 pc = none; unfold tb_184; rw [show Nat.ble 24 pc = true from Nat.ble_eq_true_of_le h]; rfl)
theorem ck_185 : ∀ (pc : Nat) (q : xI), tb 185 pc = some q → xval 185 pc q = true := xchk_of (N := 36) (by decide +kernel) (fun pc h => by show tb_185 pc = none; unfold tb_185; rw [show Nat.ble 36 pc = true from Nat.ble_eq_true_of_le h]; rfl)
theorem ck_186 : ∀ (pc : Nat) (q : xI), tb 186 pc = some q → xval 186 pc q = true := xchk_of (N := 71) (by decide +kernel) (fun pc h => by show tb_186 pc = none; unfold tb_186; rw [show Nat.ble 71 pc = true from Nat.ble_eq_true_of_le h]; rfl)
theorem ck_187 : ∀ (pc : Nat) (q : xI), tb 187 pc = some q → xval 187 pc q = true := xchk_of (N := 34) (by decide +kernel) (fun pc h => by show tb_187 pc = none; unfold tb_187; rw [show Nat.ble 34 pc = true from Nat.ble_eq_true_of_le h]; rfl)
theorem ck_188 : ∀ (pc : Nat) (q : xI), tb 188 pc = some q → xval 188 pc q = true := xchk_of (N := 26) (by decide +kernel) (fun pc h => by show tb_188 pc = none; unfold tb_188; rw [show Nat.ble 26 pc = true from Nat.ble_eq_true_of_le h]; rfl)
theorem ck_189 : ∀ (pc : Nat) (q : xI), tb 189 pc = some q → xval 189 pc q = true := xchk_of (N := 63) (by decide +kernel) (fun pc h => by show tb_189 pc = none; unfold tb_189; rw [show Nat.ble 63 pc = true from Nat.ble_eq_true_of_le h]; rfl)
theorem ck_190 : ∀ (pc : Nat) (q : xI), tb 190 pc = some q → xval 190 pc q = true := xchk_of (N := 70) (by decide +kernel) (fun pc h => by show tb_190 pc = none; unfold tb_190; rw [show Nat.ble 70 pc = true from Nat.ble_eq_true_of_le h]; rfl)
theorem ck_191_0 : xchkR 191 0 50 = true := by decide +kernel
theorem ck_191_50 : xchkR 191 50 50 = true := by decide +kernel
theorem ck_191_100 : xchkR 191 100 50 = true := by decide +kernel
theorem ck_191_150 : xchkR 191 150 50 = true := by decide +kernel
theorem ck_191_200 : xchkR 191 200 50 = true := by decide +kernel
theorem ck_191_250 : xchkR 191 250 50 = true := by decide +kernel
theorem ck_191_300 : xchkR 191 300 50 = true := by decide +kernel
theorem ck_191_350 : xchkR 191 350 50 = true := by decide +kernel
theorem ck_191 : ∀ (pc : Nat) (q : xI), tb 191 pc = some q → xval 191 pc q = true := by
  intro pc q ht
  by_cases hN : 364 ≤ pc
  · have h : tb 191 pc = none := by
      show tb_191 pc = none
      unfold tb_191
      rw [show Nat.ble 364 pc = true from Nat.ble_eq_true_of_le hN]
      rfl
    rw [h] at ht
    cases ht
  · by_cases h0 : pc < 50
    · exact xchkR_of ck_191_0 pc q ht (by omega) (by omega)
    by_cases h50 : pc < 100
    · exact xchkR_of ck_191_50 pc q ht (by omega) (by omega)
    by_cases h100 : pc < 150
    · exact xchkR_of ck_191_100 pc q ht (by omega) (by omega)
    by_cases h150 : pc < 200
    · exact xchkR_of ck_191_150 pc q ht (by omega) (by omega)
    by_cases h200 : pc < 250
    · exact xchkR_of ck_191_200 pc q ht (by omega) (by omega)
    by_cases h250 : pc < 300
    · exact xchkR_of ck_191_250 pc q ht (by omega) (by omega)
    by_cases h300 : pc < 350
    · exact xchkR_of ck_191_300 pc q ht (by omega) (by omega)
    exact xchkR_of ck_191_350 pc q ht (by omega) (by omega)
