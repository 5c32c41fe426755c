theorem xck_169_0 : xchk 169 0 200 xk169 = true := by decide +kernel
theorem xck_169_1 : xchk 169 200 14 xk169 = true := by decide +kernel
theorem xck_169 {pc len : Nat} {ins : Instr} (hf : xk169 pc = some (ins, len)) : ∃ raw, decode (xBy 169) pc = .ok (raw, len) ∧ xlenok raw len = true ∧ xlink 169 pc raw ins = true := by
  have hn := xnone_of hf
  by_cases q0 : pc < 200
  · exact xchk_ok xck_169_0 (by omega) (by omega) hf
  exact xchk_ok xck_169_1 (by omega) (by omega) hf
theorem xck_170 {pc len : Nat} {ins : Instr} (hf : xk170 pc = some (ins, len)) : ∃ raw, decode (xBy 170) pc = .ok (raw, len) ∧ xlenok raw len = true ∧ xlink 170 pc raw ins = true := xchk_ok (a := 0) (n := 29) (by decide +kernel) (Nat.zero_le _) (by rw [Nat.zero_add]; exact xnone_of hf) hf
theorem xck_171 {pc len : Nat} {ins : Instr} (hf : xk171 pc = some (ins, len)) : ∃ raw, decode (xBy 171) pc = .ok (raw, len) ∧ xlenok raw len = true ∧ xlink 171 pc raw ins = true := xchk_ok (a := 0) (n := 10) (by decide +kernel) (Nat.zero_le _) (by rw [Nat.zero_add]; exact xnone_of hf) hf
theorem xck_172 {pc len : Nat} {ins : Instr} (hf : xk172 pc = some (ins, len)) : ∃ raw, decode (xBy 172) pc = .ok (raw, len) ∧ xlenok raw len = true ∧ xlink 172 pc raw ins = true := xchk_ok (a := 0) (n := 86) (by decide +kernel) (Nat.zero_le _) (by rw [Nat.zero_add]; exact xnone_of hf) hf
theorem xck_173 {pc len : Nat} {ins : Instr} (hf : xk173 pc = some (ins, len)) : ∃ raw, decode (xBy 173) pc = .ok (raw, len) ∧ xlenok raw len = true ∧ xlink 173 pc raw ins = true := xchk_ok (a := 0) (n := 81) (by decide +kernel) (Nat.zero_le _) (by rw [Nat.zero_add]; exact xnone_of hf) hf
theorem xck_174 {pc len : Nat} {ins : Instr} (hf : xk174 pc = some (ins, len)) : ∃ raw, decode (xBy 174) pc = .ok (raw, len) ∧ xlenok raw len = true ∧ xlink 174 pc raw ins = true := xchk_ok (a := 0) (n := 195) (by decide +kernel) (Nat.zero_le _) (by rw [Nat.zero_add]; exact xnone_of hf) hf
theorem xck_175 {pc len : Nat} {ins : Instr} (hf : xk175 pc = some (ins, len)) : ∃ raw, decode (xBy 175) pc = .ok (raw, len) ∧ xlenok raw len = true ∧ xlink 175 pc raw ins = true := xchk_ok (a := 0) (n := 110) (by decide +kernel) (Nat.zero_le _) (by rw [Nat.zero_add]; exact xnone_of hf) hf
theorem xck_176 {pc len : Nat} {ins : Instr} (hf : xk176 pc = some (ins, len)) : ∃ raw, decode (xBy 176) pc = .ok (raw, len) ∧ xlenok raw len = true ∧ xlink 176 pc raw ins = true := xchk_ok (a := 0) (n := 109) (by decide +kernel) (Nat.zero_le _) (by rw [Nat.zero_add]; exact xnone_of hf) hf
theorem xck_177 {pc len : Nat} {ins : Instr} (hf : xk177 pc = some (ins, len)) : ∃ raw, decode (xBy 177) pc = .ok (raw, len) ∧ xlenok raw len = true ∧ xlink 177 pc raw ins = true := xchk_ok (a := 0) (n := 11) (by decide +kernel) (Nat.zero_le _) (by rw [Nat.zero_add]; exact xnone_of hf) hf
theorem xck_178 {pc len : Nat} {ins : Instr} (hf : xk178 pc = some (ins, len)) : ∃ raw, decode (xBy 178) pc = .ok (raw, len) ∧ xlenok raw len = true ∧ xlink 178 pc raw ins = true := xchk_ok (a := 0) (n := 37) (by decide +kernel) (Nat.zero_le _) (by rw [Nat.zero_add]; exact xnone_of hf) hf
theorem xck_179 {pc len : Nat} {ins : Instr} (hf : xk179 pc = some (ins, len)) : ∃ raw, decode (xBy 179) pc = .ok (raw, len) ∧ xlenok raw len = true ∧ xlink 179 pc raw ins = true := xchk_ok (a := 0) (n := 46) (by decide +kernel) (Nat.zero_le _) (by rw [Nat.zero_add]; exact xnone_of hf) hf
theorem xck_180 {pc len : Nat} {ins : Instr} (hf : xk180 pc = some (ins, len)) : ∃ raw, decode (xBy 180) pc = .ok (raw, len) ∧ xlenok raw len = true ∧ xlink 180 pc raw ins = true := xchk_ok (a := 0) (n := 49) (by decide +kernel) (Nat.zero_le _) (by rw [Nat.zero_add]; exact xnone_of hf) hf
theorem xck_181 {pc len : Nat} {ins : Instr} (hf : xk181 pc = some (ins, len)) : ∃ raw, decode (xBy 181) pc = .ok (raw, len) ∧ xlenok raw len = true ∧ xlink 181 pc raw ins = true := xchk_ok (a := 0) (n := 47) (by decide +kernel) (Nat.zero_le _) (by rw [Nat.zero_add]; exact xnone_of hf) hf
theorem xck_182_0 : xchk 182 0 200 xk182 = true := by decide +kernel
theorem xck_182_1 : xchk 182 200 78 xk182 = true := by decide +kernel
theorem xck_182 {pc len : Nat} {ins : Instr} (hf : xk182 pc = some (ins, len)) : ∃ raw, decode (xBy 182) pc = .ok (raw, len) ∧ xlenok raw len = true ∧ xlink 182 pc raw ins = true := by
  have hn := xnone_of hf
  by_cases q0 : pc < 200
  · exact xchk_ok xck_182_0 (by omega) (by omega) hf
  exact xchk_ok xck_182_1 (by omega) (by omega) hf
theorem xck_183 {pc len : Nat} {ins : Instr} (hf : xk183 pc = some (ins, len)) : ∃ raw, decode (xBy 183) pc = .ok (raw, len) ∧ xlenok raw len = true ∧ xlink 183 pc raw ins = true := xchk_ok (a := 0) (n := 36) (by decide +kernel) (Nat.zero_le _) (by rw [Nat.zero_add]; exact xnone_of hf) hf
theorem xck_184 {pc len : Nat} {ins : Instr} (hf : xk184 pc = some (ins, len)) : ∃ raw, decode (xBy 184) pc = .ok (raw, len) ∧ xlenok raw len = true ∧ xlink 184 pc raw ins = true := xchk_ok (a := 0) (n := 117) (by decide +kernel) (Nat.zero_le _) (by rw [Nat.zero_add]; exact xnone_of hf) hf
theorem xck_185 {pc len : Nat} {ins : Instr} (hf : xk185 pc = some (ins, len)) : ∃ raw, decode (xBy 185) pc = .ok (raw, len) ∧ xlenok raw len = true ∧ xlink 185 pc raw ins = true := xchk_ok (a := 0) (n := 186) (by decide +kernel) (Nat.zero_le _) (by rw [Nat.zero_add]; exact xnone_of hf) hf
theorem xck_186 {pc len : Nat} {ins : Instr} (hf : xk186 pc = some (ins, len)) : ∃ raw, decode (xBy 186) pc = .ok (raw, len) ∧ xlenok raw len = true ∧ xlink 186 pc raw ins = true := xchk_ok (a := 0) (n := 92) (by decide +kernel) (Nat.zero_le _) (by rw [Nat.zero_add]; exact xnone_of hf) hf
theorem xck_187 {pc len : Nat} {ins : Instr} (hf : xk187 pc = some (ins, len)) : ∃ raw, decode (xBy 187) pc = .ok (raw, len) ∧ xlenok raw len = true ∧ xlink 187 pc raw ins = true := xchk_ok (a := 0) (n := 152) (by decide +kernel) (Nat.zero_le _) (by rw [Nat.zero_add]; exact xnone_of hf) hf
theorem xck_188 {pc len : Nat} {ins : Instr} (hf : xk188 pc = some (ins, len)) : ∃ raw, decode (xBy 188) pc = .ok (raw, len) ∧ xlenok raw len = true ∧ xlink 188 pc raw ins = true := xchk_ok (a := 0) (n := 72) (by decide +kernel) (Nat.zero_le _) (by rw [Nat.zero_add]; exact xnone_of hf) hf
theorem xck_189 {pc len : Nat} {ins : Instr} (hf : xk189 pc = some (ins, len)) : ∃ raw, decode (xBy 189) pc = .ok (raw, len) ∧ xlenok raw len = true ∧ xlink 189 pc raw ins = true := xchk_ok (a := 0) (n := 44) (by decide +kernel) (Nat.zero_le _) (by rw [Nat.zero_add]; exact xnone_of hf) hf
theorem xck_190 {pc len : Nat} {ins : Instr} (hf : xk190 pc = some (ins, len)) : ∃ raw, decode (xBy 190) pc = .ok (raw, len) ∧ xlenok raw len = true ∧ xlink 190 pc raw ins = true := xchk_ok (a := 0) (n := 21) (by decide +kernel) (Nat.zero_le _) (by rw [Nat.zero_add]; exact xnone_of hf) hf
theorem xck_191 {pc len : Nat} {ins : Instr} (hf : xk191 pc = some (ins, len)) : ∃ raw, decode (xBy 191) pc = .ok (raw, len) ∧ xlenok raw len = true ∧ xlink 191 pc raw ins = true := xchk_ok (a := 0) (n := 174) (by decide +kernel) (Nat.zero_le _) (by rw [Nat.zero_add]; exact xnone_of hf) hf
theorem xck_192 {pc len : Nat} {ins : Instr} (hf : xk192 pc = some (ins, len)) : ∃ raw, decode (xBy 192) pc = .ok (raw, len) ∧ xlenok raw len = true ∧ xlink 192 pc raw ins = true := xchk_ok (a := 0) (n := 83) (by decide +kernel) (Nat.zero_le _) (by rw [Nat.zero_add]; exact xnone_of hf) hf
theorem xck_193 {pc len : Nat} {ins : Instr} (hf : xk193 pc = some (ins, len)) : ∃ raw, decode (xBy 193) pc = .ok (raw, len) ∧ xlenok raw len = true ∧ xlink 193 pc raw ins = true := xchk_ok (a := 0) (n := 47) (by decide +kernel) (Nat.zero_le _) (by rw [Nat.zero_add]; exact xnone_of hf) hf
theorem xck_194 {pc len : Nat} {ins : Instr} (hf : xk194 pc = some (ins, len)) : ∃ raw, decode (xBy 194) pc = .ok (raw, len) ∧ xlenok raw len = true ∧ xlink 194 pc raw ins = true := xchk_ok (a := 0) (n := 16) (by decide +kernel) (Nat.zero_le _) (by rw [Nat.zero_add]; exact xnone_of hf) hf
theorem xck_195 {pc len : Nat} {ins : Instr} (hf : xk195 pc = some (ins, len)) : ∃ raw, decode (xBy 195) pc = .ok (raw, len) ∧ xlenok raw len = true ∧ xlink 195 pc raw ins = true := xchk_ok (a := 0) (n := 51) (by decide +kernel) (Nat.zero_le _) (by rw [Nat.zero_add]; exact xnone_of hf) hf
theorem xck_196 {pc len : Nat} {ins : Instr} (hf : xk196 pc = some (ins, len)) : ∃ raw, decode (xBy 196) pc = .ok (raw, len) ∧ xlenok raw len = true ∧ xlink 196 pc raw ins = true := xchk_ok (a := 0) (n := 56) (by decide +kernel) (Nat.zero_le _) (by rw [Nat.zero_add]; exact xnone_of hf) hf
theorem xck_197 {pc len : Nat} {ins : Instr} (hf : xk197 pc = some (ins, len)) : ∃ raw, decode (xBy 197) pc = .ok (raw, len) ∧ xlenok raw len = true ∧ xlink 197 pc raw ins = true := xchk_ok (a := 0) (n := 103) (by decide +kernel) (Nat.zero_le _) (by rw [Nat.zero_add]; exact xnone_of hf) hf
theorem xck_198 {pc len : Nat} {ins : Instr} (hf : xk198 pc = some (ins, len)) : ∃ raw, decode (xBy 198) pc = .ok (raw, len) ∧ xlenok raw len = true ∧ xlink 198 pc raw ins = true := xchk_ok (a := 0) (n := 35) (by decide +kernel) (Nat.zero_le _) (by rw [Nat.zero_add]; exact xnone_of hf) hf
theorem xck_199 {pc len : Nat} {ins : Instr} (hf : xk199 pc = some (ins, len)) : ∃ raw, decode (xBy 199) pc = .ok (raw, len) ∧ xlenok raw len = true ∧ xlink 199 pc raw ins = true := xchk_ok (a := 0) (n := 78) (by decide +kernel) (Nat.zero_le _) (by rw [Nat.zero_add]; exact xnone_of hf) hf
theorem xck_200 {pc len : Nat} {ins : Instr} (hf : xk200 pc = some (ins, len)) : ∃ raw, decode (xBy 200) pc = .ok (raw, len) ∧ xlenok raw len = true ∧ xlink 200 pc raw ins = true := xchk_ok (a := 0) (n := 64) (by decide +kernel) (Nat.zero_le _) (by rw [Nat.zero_add]; exact xnone_of hf) hf
theorem xck_201_0 : xchk 201 0 200 xk201 = true := by decide +kernel
theorem xck_201_1 : xchk 201 200 58 xk201 = true := by decide +kernel
theorem xck_201 {pc len : Nat} {ins : Instr} (hf : xk201 pc = some (ins, len)) : ∃ raw, decode (xBy 201) pc = .ok (raw, len) ∧ xlenok raw len = true ∧ xlink 201 pc raw ins = true := by
  have hn := xnone_of hf
  by_cases q0 : pc < 200
  · exact xchk_ok xck_201_0 (by omega) (by omega) hf
  exact xchk_ok xck_201_1 (by omega) (by omega) hf
theorem xck_202 {pc len : Nat} {ins : Instr} (hf : xk202 pc = some (ins, len)) : ∃ raw, decode (xBy 202) pc = .ok (raw, len) ∧ xlenok raw len = true ∧ xlink 202 pc raw ins = true := xchk_ok (a := 0) (n := 118) (by decide +kernel) (Nat.zero_le _) (by rw [Nat.zero_add]; exact xnone_of hf) hf
theorem xck_203 {pc len : Nat} {ins : Instr} (hf : xk203 pc = some (ins, len)) : ∃ raw, decode (xBy 203) pc = .ok (raw, len) ∧ xlenok raw len = true ∧ xlink 203 pc raw ins = true := xchk_ok (a := 0) (n := 54) (by decide +kernel) (Nat.zero_le _) (by rw [Nat.zero_add]; exact xnone_of hf) hf
theorem xck_204 {pc len : Nat} {ins : Instr} (hf : xk204 pc = some (ins, len)) : ∃ raw, decode (xBy 204) pc = .ok (raw, len) ∧ xlenok raw len = true ∧ xlink 204 pc raw ins = true := xchk_ok (a := 0) (n := 64) (by decide +kernel) (Nat.zero_le _) (by rw [Nat.zero_add]; exact xnone_of hf) hf
theorem xck_205 {pc len : Nat} {ins : Instr} (hf : xk205 pc = some (ins, len)) : ∃ raw, decode (xBy 205) pc = .ok (raw, len) ∧ xlenok raw len = true ∧ xlink 205 pc raw ins = true := xchk_ok (a := 0) (n := 102) (by decide +kernel) (Nat.zero_le _) (by rw [Nat.zero_add]; exact xnone_of hf) hf
theorem xck_206 {pc len : Nat} {ins : Instr} (hf : xk206 pc = some (ins, len)) : ∃ raw, decode (xBy 206) pc = .ok (raw, len) ∧ xlenok raw len = true ∧ xlink 206 pc raw ins = true := xchk_ok (a := 0) (n := 62) (by decide +kernel) (Nat.zero_le _) (by rw [Nat.zero_add]; exact xnone_of hf) hf
theorem xck_207 {pc len : Nat} {ins : Instr} (hf : xk207 pc = some (ins, len)) : ∃ raw, decode (xBy 207) pc = .ok (raw, len) ∧ xlenok raw len = true ∧ xlink 207 pc raw ins = true := xchk_ok (a := 0) (n := 83) (by decide +kernel) (Nat.zero_le _) (by rw [Nat.zero_add]; exact xnone_of hf) hf
theorem xck_208 {pc len : Nat} {ins : Instr} (hf : xk208 pc = some (ins, len)) : ∃ raw, decode (xBy 208) pc = .ok (raw, len) ∧ xlenok raw len = true ∧ xlink 208 pc raw ins = true := xchk_ok (a := 0) (n := 36) (by decide +kernel) (Nat.zero_le _) (by rw [Nat.zero_add]; exact xnone_of hf) hf
theorem xck_209 {pc len : Nat} {ins : Instr} (hf : xk209 pc = some (ins, len)) : ∃ raw, decode (xBy 209) pc = .ok (raw, len) ∧ xlenok raw len = true ∧ xlink 209 pc raw ins = true := xchk_ok (a := 0) (n := 35) (by decide +kernel) (Nat.zero_le _) (by rw [Nat.zero_add]; exact xnone_of hf) hf
theorem xck_210 {pc len : Nat} {ins : Instr} (hf : xk210 pc = some (ins, len)) : ∃ raw, decode (xBy 210) pc = .ok (raw, len) ∧ xlenok raw len = true ∧ xlink 210 pc raw ins = true := xchk_ok (a := 0) (n := 136) (by decide +kernel) (Nat.zero_le _) (by rw [Nat.zero_add]; exact xnone_of hf) hf
theorem xck_211 {pc len : Nat} {ins : Instr} (hf : xk211 pc = some (ins, len)) : ∃ raw, decode (xBy 211) pc = .ok (raw, len) ∧ xlenok raw len = true ∧ xlink 211 pc raw ins = true := xchk_ok (a := 0) (n := 76) (by decide +kernel) (Nat.zero_le _) (by rw [Nat.zero_add]; exact xnone_of hf) hf
theorem xck_212 {pc len : Nat} {ins : Instr} (hf : xk212 pc = some (ins, len)) : ∃ raw, decode (xBy 212) pc = .ok (raw, len) ∧ xlenok raw len = true ∧ xlink 212 pc raw ins = true := xchk_ok (a := 0) (n := 170) (by decide +kernel) (Nat.zero_le _) (by rw [Nat.zero_add]; exact xnone_of hf) hf
theorem xck_213 {pc len : Nat} {ins : Instr} (hf : xk213 pc = some (ins, len)) : ∃ raw, decode (xBy 213) pc = .ok (raw, len) ∧ xlenok raw len = true ∧ xlink 213 pc raw ins = true := xchk_ok (a := 0) (n := 58) (by decide +kernel) (Nat.zero_le _) (by rw [Nat.zero_add]; exact xnone_of hf) hf
theorem xck_214 {pc len : Nat} {ins : Instr} (hf : xk214 pc = some (ins, len)) : ∃ raw, decode (xBy 214) pc = .ok (raw, len) ∧ xlenok raw len = true ∧ xlink 214 pc raw ins = true := xchk_ok (a := 0) (n := 152) (by decide +kernel) (Nat.zero_le _) (by rw [Nat.zero_add]; exact xnone_of hf) hf
theorem xck_215 {pc len : Nat} {ins : Instr} (hf : xk215 pc = some (ins, len)) : ∃ raw, decode (xBy 215) pc = .ok (raw, len) ∧ xlenok raw len = true ∧ xlink 215 pc raw ins = true := xchk_ok (a := 0) (n := 99) (by decide +kernel) (Nat.zero_le _) (by rw [Nat.zero_add]; exact xnone_of hf) hf
theorem xck_216 {pc len : Nat} {ins : Instr} (hf : xk216 pc = some (ins, len)) : ∃ raw, decode (xBy 216) pc = .ok (raw, len) ∧ xlenok raw len = true ∧ xlink 216 pc raw ins = true := xchk_ok (a := 0) (n := 39) (by decide +kernel) (Nat.zero_le _) (by rw [Nat.zero_add]; exact xnone_of hf) hf
theorem xck_217_0 : xchk 217 0 200 xk217 = true := by decide +kernel
theorem xck_217_1 : xchk 217 200 73 xk217 = true := by decide +kernel
theorem xck_217 {pc len : Nat} {ins : Instr} (hf : xk217 pc = some (ins, len)) : ∃ raw, decode (xBy 217) pc = .ok (raw, len) ∧ xlenok raw len = true ∧ xlink 217 pc raw ins = true := by
  have hn := xnone_of hf
  by_cases q0 : pc < 200
  · exact xchk_ok xck_217_0 (by omega) (by omega) hf
  exact xchk_ok xck_217_1 (by omega) (by omega) hf
theorem xck_218 {pc len : Nat} {ins : Instr} (hf : xk218 pc = some (ins, len)) : ∃ raw, decode (xBy 218) pc = .ok (raw, len) ∧ xlenok raw len = true ∧ xlink 218 pc raw ins = true := xchk_ok (a := 0) (n := 19) (by decide +kernel) (Nat.zero_le _) (by rw [Nat.zero_add]; exact xnone_of hf) hf
theorem xck_219 {pc len : Nat} {ins : Instr} (hf : xk219 pc = some (ins, len)) : ∃ raw, decode (xBy 219) pc = .ok (raw, len) ∧ xlenok raw len = true ∧ xlink 219 pc raw ins = true := xchk_ok (a := 0) (n := 33) (by decide +kernel) (Nat.zero_le _) (by rw [Nat.zero_add]; exact xnone_of hf) hf
theorem xck_220 {pc len : Nat} {ins : Instr} (hf : xk220 pc = some (ins, len)) : ∃ raw, decode (xBy 220) pc = .ok (raw, len) ∧ xlenok raw len = true ∧ xlink 220 pc raw ins = true := xchk_ok (a := 0) (n := 196) (by decide +kernel) (Nat.zero_le _) (by rw [Nat.zero_add]; exact xnone_of hf) hf
theorem xck_221 {pc len : Nat} {ins : Instr} (hf : xk221 pc = some (ins, len)) : ∃ raw, decode (xBy 221) pc = .ok (raw, len) ∧ xlenok raw len = true ∧ xlink 221 pc raw ins = true := xchk_ok (a := 0) (n := 53) (by decide +kernel) (Nat.zero_le _) (by rw [Nat.zero_add]; exact xnone_of hf) hf
theorem xck_222 {pc len : Nat} {ins : Instr} (hf : xk222 pc = some (ins, len)) : ∃ raw, decode (xBy 222) pc = .ok (raw, len) ∧ xlenok raw len = true ∧ xlink 222 pc raw ins = true := xchk_ok (a := 0) (n := 61) (by decide +kernel) (Nat.zero_le _) (by rw [Nat.zero_add]; exact xnone_of hf) hf
theorem xck_223 {pc len : Nat} {ins : Instr} (hf : xk223 pc = some (ins, len)) : ∃ raw, decode (xBy 223) pc = .ok (raw, len) ∧ xlenok raw len = true ∧ xlink 223 pc raw ins = true := xchk_ok (a := 0) (n := 11) (by decide +kernel) (Nat.zero_le _) (by rw [Nat.zero_add]; exact xnone_of hf) hf
theorem xck_224 {pc len : Nat} {ins : Instr} (hf : xk224 pc = some (ins, len)) : ∃ raw, decode (xBy 224) pc = .ok (raw, len) ∧ xlenok raw len = true ∧ xlink 224 pc raw ins = true := xchk_ok (a := 0) (n := 11) (by decide +kernel) (Nat.zero_le _) (by rw [Nat.zero_add]; exact xnone_of hf) hf
theorem xck_225 {pc len : Nat} {ins : Instr} (hf : xk225 pc = some (ins, len)) : ∃ raw, decode (xBy 225) pc = .ok (raw, len) ∧ xlenok raw len = true ∧ xlink 225 pc raw ins = true := xchk_ok (a := 0) (n := 23) (by decide +kernel) (Nat.zero_le _) (by rw [Nat.zero_add]; exact xnone_of hf) hf
theorem xck_226_0 : xchk 226 0 200 xk226 = true := by decide +kernel
theorem xck_226_1 : xchk 226 200 200 xk226 = true := by decide +kernel
theorem xck_226_2 : xchk 226 400 200 xk226 = true := by decide +kernel
theorem xck_226_3 : xchk 226 600 200 xk226 = true := by decide +kernel
theorem xck_226_4 : xchk 226 800 200 xk226 = true := by decide +kernel
theorem xck_226_5 : xchk 226 1000 200 xk226 = true := by decide +kernel
theorem xck_226_6 : xchk 226 1200 92 xk226 = true := by decide +kernel
theorem xck_226 {pc len : Nat} {ins : Instr} (hf : xk226 pc = some (ins, len)) : ∃ raw, decode (xBy 226) pc = .ok (raw, len) ∧ xlenok raw len = true ∧ xlink 226 pc raw ins = true := by
  have hn := xnone_of hf
  by_cases q0 : pc < 200
  · exact xchk_ok xck_226_0 (by omega) (by omega) hf
  by_cases q1 : pc < 400
  · exact xchk_ok xck_226_1 (by omega) (by omega) hf
  by_cases q2 : pc < 600
  · exact xchk_ok xck_226_2 (by omega) (by omega) hf
  by_cases q3 : pc < 800
  · exact xchk_ok xck_226_3 (by omega) (by omega) hf
  by_cases q4 : pc < 1000
  · exact xchk_ok xck_226_4 (by omega) (by omega) hf
  by_cases q5 : pc < 1200
  · exact xchk_ok xck_226_5 (by omega) (by omega) hf
  exact xchk_ok xck_226_6 (by omega) (by omega) hf
theorem xPi_ok : ∀ y, y ≤ xnM → xPi y = (xNa y, xMl y, xRc (xRt y), xOw y) := by decide +kernel
theorem PG_ok : xPok PG := by
  refine ⟨xPi_ok, fun y pc ins len hy hf => ?_⟩
  have hy : y ≤ 226 := hy
  by_cases q113 : y < 113
  · by_cases q56 : y < 56
    · by_cases q28 : y < 28
      · by_cases q14 : y < 14
        · by_cases q7 : y < 7
          · by_cases q3 : y < 3
            · by_cases q1 : y < 1
              · have e : y = 0 := by omega
                subst e
                exact xck_0 hf
              · by_cases q2 : y < 2
                · have e : y = 1 := by omega
                  subst e
                  exact xck_1 hf
                · have e : y = 2 := by omega
                  subst e
                  exact xck_2 hf
            · by_cases q5 : y < 5
              · by_cases q4 : y < 4
                · have e : y = 3 := by omega
                  subst e
                  exact xck_3 hf
                · have e : y = 4 := by omega
                  subst e
                  exact xck_4 hf
              · by_cases q6 : y < 6
                · have e : y = 5 := by omega
                  subst e
                  exact xck_5 hf
                · have e : y = 6 := by omega
                  subst e
                  exact xck_6 hf
          · by_cases q10 : y < 10
            · by_cases q8 : y < 8
              · have e : y = 7 := by omega
                subst e
                exact xck_7 hf
              · by_cases q9 : y < 9
                · have e : y = 8 := by omega
                  subst e
                  exact xck_8 hf
                · have e : y = 9 := by omega
                  subst e
                  exact xck_9 hf
            · by_cases q12 : y < 12
              · by_cases q11 : y < 11
                · have e : y = 10 := by omega
                  subst e
                  exact xck_10 hf
                · have e : y = 11 := by omega
                  subst e
                  exact xck_11 hf
              · by_cases q13 : y < 13
                · have e : y = 12 := by omega
                  subst e
                  exact xck_12 hf
                · have e : y = 13 := by omega
                  subst e
                  exact xck_13 hf
        · by_cases q21 : y < 21
          · by_cases q17 : y < 17
            · by_cases q15 : y < 15
              · have e : y = 14 := by omega
                subst e
                exact xck_14 hf
              · by_cases q16 : y < 16
                · have e : y = 15 := by omega
                  subst e
                  exact xck_15 hf
                · have e : y = 16 := by omega
                  subst e
                  exact xck_16 hf
            · by_cases q19 : y < 19
              · by_cases q18 : y < 18
                · have e : y = 17 := by omega
                  subst e
                  exact xck_17 hf
                · have e : y = 18 := by omega
                  subst e
                  exact xck_18 hf
              · by_cases q20 : y < 20
                · have e : y = 19 := by omega
                  subst e
                  exact xck_19 hf
                · have e : y = 20 := by omega
                  subst e
                  exact xck_20 hf
          · by_cases q24 : y < 24
            · by_cases q22 : y < 22
              · have e : y = 21 := by omega
                subst e
                exact xck_21 hf
              · by_cases q23 : y < 23
                · have e : y = 22 := by omega
                  subst e
                  exact xck_22 hf
                · have e : y = 23 := by omega
                  subst e
                  exact xck_23 hf
            · by_cases q26 : y < 26
              · by_cases q25 : y < 25
                · have e : y = 24 := by omega
                  subst e
                  exact xck_24 hf
                · have e : y = 25 := by omega
                  subst e
                  exact xck_25 hf
              · by_cases q27 : y < 27
                · have e : y = 26 := by omega
                  subst e
                  exact xck_26 hf
                · have e : y = 27 := by omega
                  subst e
                  exact xck_27 hf
      · by_cases q42 : y < 42
        · by_cases q35 : y < 35
          · by_cases q31 : y < 31
            · by_cases q29 : y < 29
              · have e : y = 28 := by omega
                subst e
                exact xck_28 hf
              · by_cases q30 : y < 30
                · have e : y = 29 := by omega
                  subst e
                  exact xck_29 hf
                · have e : y = 30 := by omega
                  subst e
                  exact xck_30 hf
            · by_cases q33 : y < 33
              · by_cases q32 : y < 32
                · have e : y = 31 := by omega
                  subst e
                  exact xck_31 hf
                · have e : y = 32 := by omega
                  subst e
                  exact xck_32 hf
              · by_cases q34 : y < 34
                · have e : y = 33 := by omega
                  subst e
                  exact xck_33 hf
                · have e : y = 34 := by omega
                  subst e
                  exact xck_34 hf
          · by_cases q38 : y < 38
            · by_cases q36 : y < 36
              · have e : y = 35 := by omega
                subst e
                exact xck_35 hf
              · by_cases q37 : y < 37
                · have e : y = 36 := by omega
                  subst e
                  exact xck_36 hf
                · have e : y = 37 := by omega
                  subst e
                  exact xck_37 hf
            · by_cases q40 : y < 40
              · by_cases q39 : y < 39
                · have e : y = 38 := by omega
                  subst e
                  exact xck_38 hf
                · have e : y = 39 := by omega
                  subst e
                  exact xck_39 hf
              · by_cases q41 : y < 41
                · have e : y = 40 := by omega
                  subst e
                  exact xck_40 hf
                · have e : y = 41 := by omega
                  subst e
                  exact xck_41 hf
        · by_cases q49 : y < 49
          · by_cases q45 : y < 45
            · by_cases q43 : y < 43
              · have e : y = 42 := by omega
                subst e
                exact xck_42 hf
              · by_cases q44 : y < 44
                · have e : y = 43 := by omega
                  subst e
                  exact xck_43 hf
                · have e : y = 44 := by omega
                  subst e
                  exact xck_44 hf
            · by_cases q47 : y < 47
              · by_cases q46 : y < 46
                · have e : y = 45 := by omega
                  subst e
                  exact xck_45 hf
                · have e : y = 46 := by omega
                  subst e
                  exact xck_46 hf
              · by_cases q48 : y < 48
                · have e : y = 47 := by omega
                  subst e
                  exact xck_47 hf
                · have e : y = 48 := by omega
                  subst e
                  exact xck_48 hf
          · by_cases q52 : y < 52
            · by_cases q50 : y < 50
              · have e : y = 49 := by omega
                subst e
                exact xck_49 hf
              · by_cases q51 : y < 51
                · have e : y = 50 := by omega
                  subst e
                  exact xck_50 hf
                · have e : y = 51 := by omega
                  subst e
                  exact xck_51 hf
            · by_cases q54 : y < 54
              · by_cases q53 : y < 53
                · have e : y = 52 := by omega
                  subst e
                  exact xck_52 hf
                · have e : y = 53 := by omega
                  subst e
                  exact xck_53 hf
              · by_cases q55 : y < 55
                · have e : y = 54 := by omega
                  subst e
                  exact xck_54 hf
                · have e : y = 55 := by omega
                  subst e
                  exact xck_55 hf
    · by_cases q84 : y < 84
      · by_cases q70 : y < 70
        · by_cases q63 : y < 63
          · by_cases q59 : y < 59
            · by_cases q57 : y < 57
              · have e : y = 56 := by omega
                subst e
                exact xck_56 hf
              · by_cases q58 : y < 58
                · have e : y = 57 := by omega
                  subst e
                  exact xck_57 hf
                · have e : y = 58 := by omega
                  subst e
                  exact xck_58 hf
            · by_cases q61 : y < 61
              · by_cases q60 : y < 60
                · have e : y = 59 := by omega
                  subst e
                  exact xck_59 hf
                · have e : y = 60 := by omega
                  subst e
                  exact xck_60 hf
              · by_cases q62 : y < 62
                · have e : y = 61 := by omega
                  subst e
                  exact xck_61 hf
                · have e : y = 62 := by omega
                  subst e
                  exact xck_62 hf
          · by_cases q66 : y < 66
            · by_cases q64 : y < 64
              · have e : y = 63 := by omega
                subst e
                exact xck_63 hf
              · by_cases q65 : y < 65
                · have e : y = 64 := by omega
                  subst e
                  exact xck_64 hf
                · have e : y = 65 := by omega
                  subst e
                  exact xck_65 hf
            · by_cases q68 : y < 68
              · by_cases q67 : y < 67
                · have e : y = 66 := by omega
                  subst e
                  exact xck_66 hf
                · have e : y = 67 := by omega
                  subst e
                  exact xck_67 hf
              · by_cases q69 : y < 69
                · have e : y = 68 := by omega
                  subst e
                  exact xck_68 hf
                · have e : y = 69 := by omega
                  subst e
                  exact xck_69 hf
        · by_cases q77 : y < 77
          · by_cases q73 : y < 73
            · by_cases q71 : y < 71
              · have e : y = 70 := by omega
                subst e
                exact xck_70 hf
              · by_cases q72 : y < 72
                · have e : y = 71 := by omega
                  subst e
                  exact xck_71 hf
                · have e : y = 72 := by omega
                  subst e
                  exact xck_72 hf
            · by_cases q75 : y < 75
              · by_cases q74 : y < 74
                · have e : y = 73 := by omega
                  subst e
                  exact xck_73 hf
                · have e : y = 74 := by omega
                  subst e
                  exact xck_74 hf
              · by_cases q76 : y < 76
                · have e : y = 75 := by omega
                  subst e
                  exact xck_75 hf
                · have e : y = 76 := by omega
                  subst e
                  exact xck_76 hf
          · by_cases q80 : y < 80
            · by_cases q78 : y < 78
              · have e : y = 77 := by omega
                subst e
                exact xck_77 hf
              · by_cases q79 : y < 79
                · have e : y = 78 := by omega
                  subst e
                  exact xck_78 hf
                · have e : y = 79 := by omega
                  subst e
                  exact xck_79 hf
            · by_cases q82 : y < 82
              · by_cases q81 : y < 81
                · have e : y = 80 := by omega
                  subst e
                  exact xck_80 hf
                · have e : y = 81 := by omega
                  subst e
                  exact xck_81 hf
              · by_cases q83 : y < 83
                · have e : y = 82 := by omega
                  subst e
                  exact xck_82 hf
                · have e : y = 83 := by omega
                  subst e
                  exact xck_83 hf
      · by_cases q98 : y < 98
        · by_cases q91 : y < 91
          · by_cases q87 : y < 87
            · by_cases q85 : y < 85
              · have e : y = 84 := by omega
                subst e
                exact xck_84 hf
              · by_cases q86 : y < 86
                · have e : y = 85 := by omega
                  subst e
                  exact xck_85 hf
                · have e : y = 86 := by omega
                  subst e
                  exact xck_86 hf
            · by_cases q89 : y < 89
              · by_cases q88 : y < 88
                · have e : y = 87 := by omega
                  subst e
                  exact xck_87 hf
                · have e : y = 88 := by omega
                  subst e
                  exact xck_88 hf
              · by_cases q90 : y < 90
                · have e : y = 89 := by omega
                  subst e
                  exact xck_89 hf
                · have e : y = 90 := by omega
                  subst e
                  exact xck_90 hf
          · by_cases q94 : y < 94
            · by_cases q92 : y < 92
              · have e : y = 91 := by omega
                subst e
                exact xck_91 hf
              · by_cases q93 : y < 93
                · have e : y = 92 := by omega
                  subst e
                  exact xck_92 hf
                · have e : y = 93 := by omega
                  subst e
                  exact xck_93 hf
            · by_cases q96 : y < 96
              · by_cases q95 : y < 95
                · have e : y = 94 := by omega
                  subst e
                  exact xck_94 hf
                · have e : y = 95 := by omega
                  subst e
                  exact xck_95 hf
              · by_cases q97 : y < 97
                · have e : y = 96 := by omega
                  subst e
                  exact xck_96 hf
                · have e : y = 97 := by omega
                  subst e
                  exact xck_97 hf
        · by_cases q105 : y < 105
          · by_cases q101 : y < 101
            · by_cases q99 : y < 99
              · have e : y = 98 := by omega
                subst e
                exact xck_98 hf
              · by_cases q100 : y < 100
                · have e : y = 99 := by omega
                  subst e
                  exact xck_99 hf
                · have e : y = 100 := by omega
                  subst e
                  exact xck_100 hf
            · by_cases q103 : y < 103
              · by_cases q102 : y < 102
                · have e : y = 101 := by omega
                  subst e
                  exact xck_101 hf
                · have e : y = 102 := by omega
                  subst e
                  exact xck_102 hf
              · by_cases q104 : y < 104
                · have e : y = 103 := by omega
                  subst e
                  exact xck_103 hf
                · have e : y = 104 := by omega
                  subst e
                  exact xck_104 hf
          · by_cases q109 : y < 109
            · by_cases q107 : y < 107
              · by_cases q106 : y < 106
                · have e : y = 105 := by omega
                  subst e
                  exact xck_105 hf
                · have e : y = 106 := by omega
                  subst e
                  exact xck_106 hf
              · by_cases q108 : y < 108
                · have e : y = 107 := by omega
                  subst e
                  exact xck_107 hf
                · have e : y = 108 := by omega
                  subst e
                  exact xck_108 hf
            · by_cases q111 : y < 111
              · by_cases q110 : y < 110
                · have e : y = 109 := by omega
                  subst e
                  exact xck_109 hf
                · have e : y = 110 := by omega
                  subst e
                  exact xck_110 hf
              · by_cases q112 : y < 112
                · have e : y = 111 := by omega
                  subst e
                  exact xck_111 hf
                · have e : y = 112 := by omega
                  subst e
                  exact xck_112 hf
  · by_cases q170 : y < 170
    · by_cases q141 : y < 141
      · by_cases q127 : y < 127
        · by_cases q120 : y < 120
          · by_cases q116 : y < 116
            · by_cases q114 : y < 114
              · have e : y = 113 := by omega
                subst e
                exact xck_113 hf
              · by_cases q115 : y < 115
                · have e : y = 114 := by omega
                  subst e
                  exact xck_114 hf
                · have e : y = 115 := by omega
                  subst e
                  exact xck_115 hf
            · by_cases q118 : y < 118
              · by_cases q117 : y < 117
                · have e : y = 116 := by omega
                  subst e
                  exact xck_116 hf
                · have e : y = 117 := by omega
                  subst e
                  exact xck_117 hf
              · by_cases q119 : y < 119
                · have e : y = 118 := by omega
                  subst e
                  exact xck_118 hf
                · have e : y = 119 := by omega
                  subst e
                  exact xck_119 hf
          · by_cases q123 : y < 123
            · by_cases q121 : y < 121
              · have e : y = 120 := by omega
                subst e
                exact xck_120 hf
              · by_cases q122 : y < 122
                · have e : y = 121 := by omega
                  subst e
                  exact xck_121 hf
                · have e : y = 122 := by omega
                  subst e
                  exact xck_122 hf
            · by_cases q125 : y < 125
              · by_cases q124 : y < 124
                · have e : y = 123 := by omega
                  subst e
                  exact xck_123 hf
                · have e : y = 124 := by omega
                  subst e
                  exact xck_124 hf
              · by_cases q126 : y < 126
                · have e : y = 125 := by omega
                  subst e
                  exact xck_125 hf
                · have e : y = 126 := by omega
                  subst e
                  exact xck_126 hf
        · by_cases q134 : y < 134
          · by_cases q130 : y < 130
            · by_cases q128 : y < 128
              · have e : y = 127 := by omega
                subst e
                exact xck_127 hf
              · by_cases q129 : y < 129
                · have e : y = 128 := by omega
                  subst e
                  exact xck_128 hf
                · have e : y = 129 := by omega
                  subst e
                  exact xck_129 hf
            · by_cases q132 : y < 132
              · by_cases q131 : y < 131
                · have e : y = 130 := by omega
                  subst e
                  exact xck_130 hf
                · have e : y = 131 := by omega
                  subst e
                  exact xck_131 hf
              · by_cases q133 : y < 133
                · have e : y = 132 := by omega
                  subst e
                  exact xck_132 hf
                · have e : y = 133 := by omega
                  subst e
                  exact xck_133 hf
          · by_cases q137 : y < 137
            · by_cases q135 : y < 135
              · have e : y = 134 := by omega
                subst e
                exact xck_134 hf
              · by_cases q136 : y < 136
                · have e : y = 135 := by omega
                  subst e
                  exact xck_135 hf
                · have e : y = 136 := by omega
                  subst e
                  exact xck_136 hf
            · by_cases q139 : y < 139
              · by_cases q138 : y < 138
                · have e : y = 137 := by omega
                  subst e
                  exact xck_137 hf
                · have e : y = 138 := by omega
                  subst e
                  exact xck_138 hf
              · by_cases q140 : y < 140
                · have e : y = 139 := by omega
                  subst e
                  exact xck_139 hf
                · have e : y = 140 := by omega
                  subst e
                  exact xck_140 hf
      · by_cases q155 : y < 155
        · by_cases q148 : y < 148
          · by_cases q144 : y < 144
            · by_cases q142 : y < 142
              · have e : y = 141 := by omega
                subst e
                exact xck_141 hf
              · by_cases q143 : y < 143
                · have e : y = 142 := by omega
                  subst e
                  exact xck_142 hf
                · have e : y = 143 := by omega
                  subst e
                  exact xck_143 hf
            · by_cases q146 : y < 146
              · by_cases q145 : y < 145
                · have e : y = 144 := by omega
                  subst e
                  exact xck_144 hf
                · have e : y = 145 := by omega
                  subst e
                  exact xck_145 hf
              · by_cases q147 : y < 147
                · have e : y = 146 := by omega
                  subst e
                  exact xck_146 hf
                · have e : y = 147 := by omega
                  subst e
                  exact xck_147 hf
          · by_cases q151 : y < 151
            · by_cases q149 : y < 149
              · have e : y = 148 := by omega
                subst e
                exact xck_148 hf
              · by_cases q150 : y < 150
                · have e : y = 149 := by omega
                  subst e
                  exact xck_149 hf
                · have e : y = 150 := by omega
                  subst e
                  exact xck_150 hf
            · by_cases q153 : y < 153
              · by_cases q152 : y < 152
                · have e : y = 151 := by omega
                  subst e
                  exact xck_151 hf
                · have e : y = 152 := by omega
                  subst e
                  exact xck_152 hf
              · by_cases q154 : y < 154
                · have e : y = 153 := by omega
                  subst e
                  exact xck_153 hf
                · have e : y = 154 := by omega
                  subst e
                  exact xck_154 hf
        · by_cases q162 : y < 162
          · by_cases q158 : y < 158
            · by_cases q156 : y < 156
              · have e : y = 155 := by omega
                subst e
                exact xck_155 hf
              · by_cases q157 : y < 157
                · have e : y = 156 := by omega
                  subst e
                  exact xck_156 hf
                · have e : y = 157 := by omega
                  subst e
                  exact xck_157 hf
            · by_cases q160 : y < 160
              · by_cases q159 : y < 159
                · have e : y = 158 := by omega
                  subst e
                  exact xck_158 hf
                · have e : y = 159 := by omega
                  subst e
                  exact xck_159 hf
              · by_cases q161 : y < 161
                · have e : y = 160 := by omega
                  subst e
                  exact xck_160 hf
                · have e : y = 161 := by omega
                  subst e
                  exact xck_161 hf
          · by_cases q166 : y < 166
            · by_cases q164 : y < 164
              · by_cases q163 : y < 163
                · have e : y = 162 := by omega
                  subst e
                  exact xck_162 hf
                · have e : y = 163 := by omega
                  subst e
                  exact xck_163 hf
              · by_cases q165 : y < 165
                · have e : y = 164 := by omega
                  subst e
                  exact xck_164 hf
                · have e : y = 165 := by omega
                  subst e
                  exact xck_165 hf
            · by_cases q168 : y < 168
              · by_cases q167 : y < 167
                · have e : y = 166 := by omega
                  subst e
                  exact xck_166 hf
                · have e : y = 167 := by omega
                  subst e
                  exact xck_167 hf
              · by_cases q169 : y < 169
                · have e : y = 168 := by omega
                  subst e
                  exact xck_168 hf
                · have e : y = 169 := by omega
                  subst e
                  exact xck_169 hf
    · by_cases q198 : y < 198
      · by_cases q184 : y < 184
        · by_cases q177 : y < 177
          · by_cases q173 : y < 173
            · by_cases q171 : y < 171
              · have e : y = 170 := by omega
                subst e
                exact xck_170 hf
              · by_cases q172 : y < 172
                · have e : y = 171 := by omega
                  subst e
                  exact xck_171 hf
                · have e : y = 172 := by omega
                  subst e
                  exact xck_172 hf
            · by_cases q175 : y < 175
              · by_cases q174 : y < 174
                · have e : y = 173 := by omega
                  subst e
                  exact xck_173 hf
                · have e : y = 174 := by omega
                  subst e
                  exact xck_174 hf
              · by_cases q176 : y < 176
                · have e : y = 175 := by omega
                  subst e
                  exact xck_175 hf
                · have e : y = 176 := by omega
                  subst e
                  exact xck_176 hf
          · by_cases q180 : y < 180
            · by_cases q178 : y < 178
              · have e : y = 177 := by omega
                subst e
                exact xck_177 hf
              · by_cases q179 : y < 179
                · have e : y = 178 := by omega
                  subst e
                  exact xck_178 hf
                · have e : y = 179 := by omega
                  subst e
                  exact xck_179 hf
            · by_cases q182 : y < 182
              · by_cases q181 : y < 181
                · have e : y = 180 := by omega
                  subst e
                  exact xck_180 hf
                · have e : y = 181 := by omega
                  subst e
                  exact xck_181 hf
              · by_cases q183 : y < 183
                · have e : y = 182 := by omega
                  subst e
                  exact xck_182 hf
                · have e : y = 183 := by omega
                  subst e
                  exact xck_183 hf
        · by_cases q191 : y < 191
          · by_cases q187 : y < 187
            · by_cases q185 : y < 185
              · have e : y = 184 := by omega
                subst e
                exact xck_184 hf
              · by_cases q186 : y < 186
                · have e : y = 185 := by omega
                  subst e
                  exact xck_185 hf
                · have e : y = 186 := by omega
                  subst e
                  exact xck_186 hf
            · by_cases q189 : y < 189
              · by_cases q188 : y < 188
                · have e : y = 187 := by omega
                  subst e
                  exact xck_187 hf
                · have e : y = 188 := by omega
                  subst e
                  exact xck_188 hf
              · by_cases q190 : y < 190
                · have e : y = 189 := by omega
                  subst e
                  exact xck_189 hf
                · have e : y = 190 := by omega
                  subst e
                  exact xck_190 hf
          · by_cases q194 : y < 194
            · by_cases q192 : y < 192
              · have e : y = 191 := by omega
                subst e
                exact xck_191 hf
              · by_cases q193 : y < 193
                · have e : y = 192 := by omega
                  subst e
                  exact xck_192 hf
                · have e : y = 193 := by omega
                  subst e
                  exact xck_193 hf
            · by_cases q196 : y < 196
              · by_cases q195 : y < 195
                · have e : y = 194 := by omega
                  subst e
                  exact xck_194 hf
                · have e : y = 195 := by omega
                  subst e
                  exact xck_195 hf
              · by_cases q197 : y < 197
                · have e : y = 196 := by omega
                  subst e
                  exact xck_196 hf
                · have e : y = 197 := by omega
                  subst e
                  exact xck_197 hf
      · by_cases q212 : y < 212
        · by_cases q205 : y < 205
          · by_cases q201 : y < 201
            · by_cases q199 : y < 199
              · have e : y = 198 := by omega
                subst e
                exact xck_198 hf
              · by_cases q200 : y < 200
                · have e : y = 199 := by omega
                  subst e
                  exact xck_199 hf
                · have e : y = 200 := by omega
                  subst e
                  exact xck_200 hf
            · by_cases q203 : y < 203
              · by_cases q202 : y < 202
                · have e : y = 201 := by omega
                  subst e
                  exact xck_201 hf
                · have e : y = 202 := by omega
                  subst e
                  exact xck_202 hf
              · by_cases q204 : y < 204
                · have e : y = 203 := by omega
                  subst e
                  exact xck_203 hf
                · have e : y = 204 := by omega
                  subst e
                  exact xck_204 hf
          · by_cases q208 : y < 208
            · by_cases q206 : y < 206
              · have e : y = 205 := by omega
                subst e
                exact xck_205 hf
              · by_cases q207 : y < 207
                · have e : y = 206 := by omega
                  subst e
                  exact xck_206 hf
                · have e : y = 207 := by omega
                  subst e
                  exact xck_207 hf
            · by_cases q210 : y < 210
              · by_cases q209 : y < 209
                · have e : y = 208 := by omega
                  subst e
                  exact xck_208 hf
                · have e : y = 209 := by omega
                  subst e
                  exact xck_209 hf
              · by_cases q211 : y < 211
                · have e : y = 210 := by omega
                  subst e
                  exact xck_210 hf
                · have e : y = 211 := by omega
                  subst e
                  exact xck_211 hf
        · by_cases q219 : y < 219
          · by_cases q215 : y < 215
            · by_cases q213 : y < 213
              · have e : y = 212 := by omega
                subst e
                exact xck_212 hf
              · by_cases q214 : y < 214
                · have e : y = 213 := by omega
                  subst e
                  exact xck_213 hf
                · have e : y = 214 := by omega
                  subst e
                  exact xck_214 hf
            · by_cases q217 : y < 217
              · by_cases q216 : y < 216
                · have e : y = 215 := by omega
                  subst e
                  exact xck_215 hf
                · have e : y = 216 := by omega
                  subst e
                  exact xck_216 hf
              · by_cases q218 : y < 218
                · have e : y = 217 := by omega
                  subst e
                  exact xck_217 hf
                · have e : y = 218 := by omega
                  subst e
                  exact xck_218 hf
          · by_cases q223 : y < 223
            · by_cases q221 : y < 221
              · by_cases q220 : y < 220
                · have e : y = 219 := by omega
                  subst e
                  exact xck_219 hf
                · have e : y = 220 := by omega
                  subst e
                  exact xck_220 hf
              · by_cases q222 : y < 222
                · have e : y = 221 := by omega
                  subst e
                  exact xck_221 hf
                · have e : y = 222 := by omega
                  subst e
                  exact xck_222 hf
            · by_cases q225 : y < 225
              · by_cases q224 : y < 224
                · have e : y = 223 := by omega
                  subst e
                  exact xck_223 hf
                · have e : y = 224 := by omega
                  subst e
                  exact xck_224 hf
              · by_cases q226 : y < 226
                · have e : y = 225 := by omega
                  subst e
                  exact xck_225 hf
                · have e : y = 226 := by omega
                  subst e
                  exact xck_226 hf
