theorem d_L_office_0 : nx Y_L_office 0 (.iconst 0) 1 1 := ⟨by decide +kernel, rfl⟩
theorem d_L_office_1 : nx Y_L_office 1 (.istore_n 3) 1 2 := ⟨by decide +kernel, rfl⟩
theorem d_L_office_2 : nx Y_L_office 2 (.iload_n 3) 1 3 := ⟨by decide +kernel, rfl⟩
theorem d_L_office_3 : nx Y_L_office 3 (.iconst 4) 1 4 := ⟨by decide +kernel, rfl⟩
theorem d_L_office_4 : nb Y_L_office 4 (Instr.if_icmp .ge) 7 118 := ⟨114, by decide +kernel, rfl, by decide⟩
theorem d_L_office_7 : nx Y_L_office 7 (.aload_n 0) 1 8 := ⟨by decide +kernel, rfl⟩
theorem d_L_office_8 : nx Y_L_office 8 (.iload_n 3) 1 9 := ⟨by decide +kernel, rfl⟩
theorem d_L_office_9 : nx Y_L_office 9 (.iconst 0) 1 10 := ⟨by decide +kernel, rfl⟩
theorem d_L_office_10 : nx Y_L_office 10 (.iconst 1) 1 11 := ⟨by decide +kernel, rfl⟩
theorem d_L_office_11 : nx Y_L_office 11 (.aload_n 1) 1 12 := ⟨by decide +kernel, rfl⟩
theorem d_L_office_12 : nx Y_L_office 12 (.bipush 10) 2 14 := ⟨by decide +kernel, rfl⟩
theorem d_L_office_14 : nx Y_L_office 14 (.iload_n 3) 1 15 := ⟨by decide +kernel, rfl⟩
theorem d_L_office_15 : nx Y_L_office 15 (.iadd) 1 16 := ⟨by decide +kernel, rfl⟩
theorem d_L_office_16 : nx Y_L_office 16 (.invokestatic 24) 3 19 := ⟨by decide +kernel, rfl⟩
theorem d_L_office_19 : nx Y_L_office 19 (.aload_n 1) 1 20 := ⟨by decide +kernel, rfl⟩
theorem d_L_office_20 : nx Y_L_office 20 (.bipush 10) 2 22 := ⟨by decide +kernel, rfl⟩
theorem d_L_office_22 : nx Y_L_office 22 (.iload_n 3) 1 23 := ⟨by decide +kernel, rfl⟩
theorem d_L_office_23 : nx Y_L_office 23 (.iadd) 1 24 := ⟨by decide +kernel, rfl⟩
theorem d_L_office_24 : nx Y_L_office 24 (.invokestatic 24) 3 27 := ⟨by decide +kernel, rfl⟩
theorem d_L_office_27 : nx Y_L_office 27 (.iconst 3) 1 28 := ⟨by decide +kernel, rfl⟩
theorem d_L_office_28 : nx Y_L_office 28 (.ishr) 1 29 := ⟨by decide +kernel, rfl⟩
theorem d_L_office_29 : nx Y_L_office 29 (.iconst 2) 1 30 := ⟨by decide +kernel, rfl⟩
theorem d_L_office_30 : nx Y_L_office 30 (.invokestatic 28) 3 33 := ⟨by decide +kernel, rfl⟩
theorem d_L_office_33 : nb Y_L_office 33 (Instr.ifCond .ne) 36 40 := ⟨7, by decide +kernel, rfl, by decide⟩
theorem d_L_office_36 : nx Y_L_office 36 (.iconst 2) 1 37 := ⟨by decide +kernel, rfl⟩
theorem d_L_office_37 : nb Y_L_office 37 Instr.goto 40 41 := ⟨4, by decide +kernel, rfl, by decide⟩
theorem d_L_office_40 : nx Y_L_office 40 (.iconst 5) 1 41 := ⟨by decide +kernel, rfl⟩
theorem d_L_office_41 : nx Y_L_office 41 (.invokestatic 28) 3 44 := ⟨by decide +kernel, rfl⟩
theorem d_L_office_44 : nx Y_L_office 44 (.iadd) 1 45 := ⟨by decide +kernel, rfl⟩
theorem d_L_office_45 : nx Y_L_office 45 (.invokevirtual 32) 3 48 := ⟨by decide +kernel, rfl⟩
theorem d_L_office_48 : nx Y_L_office 48 (.pop) 1 49 := ⟨by decide +kernel, rfl⟩
theorem d_L_office_49 : nx Y_L_office 49 (.aload_n 0) 1 50 := ⟨by decide +kernel, rfl⟩
theorem d_L_office_50 : nx Y_L_office 50 (.iload_n 3) 1 51 := ⟨by decide +kernel, rfl⟩
theorem d_L_office_51 : nx Y_L_office 51 (.iconst 1) 1 52 := ⟨by decide +kernel, rfl⟩
theorem d_L_office_52 : nx Y_L_office 52 (.aload_n 1) 1 53 := ⟨by decide +kernel, rfl⟩
theorem d_L_office_53 : nx Y_L_office 53 (.bipush 10) 2 55 := ⟨by decide +kernel, rfl⟩
theorem d_L_office_55 : nx Y_L_office 55 (.iload_n 3) 1 56 := ⟨by decide +kernel, rfl⟩
theorem d_L_office_56 : nx Y_L_office 56 (.iadd) 1 57 := ⟨by decide +kernel, rfl⟩
theorem d_L_office_57 : nx Y_L_office 57 (.invokestatic 24) 3 60 := ⟨by decide +kernel, rfl⟩
theorem d_L_office_60 : nx Y_L_office 60 (.iconst 5) 1 61 := ⟨by decide +kernel, rfl⟩
theorem d_L_office_61 : nx Y_L_office 61 (.ishr) 1 62 := ⟨by decide +kernel, rfl⟩
theorem d_L_office_62 : nx Y_L_office 62 (.aload_n 1) 1 63 := ⟨by decide +kernel, rfl⟩
theorem d_L_office_63 : nx Y_L_office 63 (.bipush 9) 2 65 := ⟨by decide +kernel, rfl⟩
theorem d_L_office_65 : nx Y_L_office 65 (.invokestatic 24) 3 68 := ⟨by decide +kernel, rfl⟩
theorem d_L_office_68 : nx Y_L_office 68 (.iconst 2) 1 69 := ⟨by decide +kernel, rfl⟩
theorem d_L_office_69 : nx Y_L_office 69 (.invokestatic 28) 3 72 := ⟨by decide +kernel, rfl⟩
theorem d_L_office_72 : nb Y_L_office 72 (Instr.ifCond .ne) 75 80 := ⟨8, by decide +kernel, rfl, by decide⟩
theorem d_L_office_75 : nx Y_L_office 75 (.bipush 8) 2 77 := ⟨by decide +kernel, rfl⟩
theorem d_L_office_77 : nb Y_L_office 77 Instr.goto 80 82 := ⟨5, by decide +kernel, rfl, by decide⟩
theorem d_L_office_80 : nx Y_L_office 80 (.bipush 31) 2 82 := ⟨by decide +kernel, rfl⟩
theorem d_L_office_82 : nx Y_L_office 82 (.invokestatic 28) 3 85 := ⟨by decide +kernel, rfl⟩
theorem d_L_office_85 : nx Y_L_office 85 (.invokevirtual 32) 3 88 := ⟨by decide +kernel, rfl⟩
theorem d_L_office_88 : nx Y_L_office 88 (.pop) 1 89 := ⟨by decide +kernel, rfl⟩
theorem d_L_office_89 : nx Y_L_office 89 (.aload_n 0) 1 90 := ⟨by decide +kernel, rfl⟩
theorem d_L_office_90 : nx Y_L_office 90 (.iload_n 3) 1 91 := ⟨by decide +kernel, rfl⟩
theorem d_L_office_91 : nx Y_L_office 91 (.iconst 2) 1 92 := ⟨by decide +kernel, rfl⟩
theorem d_L_office_92 : nx Y_L_office 92 (.aload_n 1) 1 93 := ⟨by decide +kernel, rfl⟩
theorem d_L_office_93 : nx Y_L_office 93 (.bipush 10) 2 95 := ⟨by decide +kernel, rfl⟩
theorem d_L_office_95 : nx Y_L_office 95 (.iload_n 3) 1 96 := ⟨by decide +kernel, rfl⟩
theorem d_L_office_96 : nx Y_L_office 96 (.iadd) 1 97 := ⟨by decide +kernel, rfl⟩
theorem d_L_office_97 : nx Y_L_office 97 (.invokestatic 24) 3 100 := ⟨by decide +kernel, rfl⟩
theorem d_L_office_100 : nx Y_L_office 100 (.bipush 11) 2 102 := ⟨by decide +kernel, rfl⟩
theorem d_L_office_102 : nx Y_L_office 102 (.ishr) 1 103 := ⟨by decide +kernel, rfl⟩
theorem d_L_office_103 : nx Y_L_office 103 (.bipush 10) 2 105 := ⟨by decide +kernel, rfl⟩
theorem d_L_office_105 : nx Y_L_office 105 (.invokestatic 28) 3 108 := ⟨by decide +kernel, rfl⟩
theorem d_L_office_108 : nx Y_L_office 108 (.invokevirtual 32) 3 111 := ⟨by decide +kernel, rfl⟩
theorem d_L_office_111 : nx Y_L_office 111 (.pop) 1 112 := ⟨by decide +kernel, rfl⟩
theorem d_L_office_112 : nx Y_L_office 112 (.iinc 3 1) 3 115 := ⟨by decide +kernel, rfl⟩
theorem d_L_office_115 : nb Y_L_office 115 Instr.goto 118 2 := ⟨-113, by decide +kernel, rfl, by decide⟩
theorem d_L_office_118 : nx Y_L_office 118 (.aload_n 1) 1 119 := ⟨by decide +kernel, rfl⟩
theorem d_L_office_119 : nx Y_L_office 119 (.iconst 0) 1 120 := ⟨by decide +kernel, rfl⟩
theorem d_L_office_120 : nx Y_L_office 120 (.invokestatic 24) 3 123 := ⟨by decide +kernel, rfl⟩
theorem d_L_office_123 : nx Y_L_office 123 (.bipush 12) 2 125 := ⟨by decide +kernel, rfl⟩
theorem d_L_office_125 : nx Y_L_office 125 (.invokestatic 28) 3 128 := ⟨by decide +kernel, rfl⟩
theorem d_L_office_128 : nb Y_L_office 128 (Instr.ifCond .ne) 131 135 := ⟨7, by decide +kernel, rfl, by decide⟩
theorem d_L_office_131 : nx Y_L_office 131 (.iconst 0) 1 132 := ⟨by decide +kernel, rfl⟩
theorem d_L_office_132 : nb Y_L_office 132 Instr.goto 135 148 := ⟨16, by decide +kernel, rfl, by decide⟩
theorem d_L_office_135 : nx Y_L_office 135 (.iconst 1) 1 136 := ⟨by decide +kernel, rfl⟩
theorem d_L_office_136 : nx Y_L_office 136 (.aload_n 1) 1 137 := ⟨by decide +kernel, rfl⟩
theorem d_L_office_137 : nx Y_L_office 137 (.iconst 0) 1 138 := ⟨by decide +kernel, rfl⟩
theorem d_L_office_138 : nx Y_L_office 138 (.invokestatic 24) 3 141 := ⟨by decide +kernel, rfl⟩
theorem d_L_office_141 : nx Y_L_office 141 (.iconst 4) 1 142 := ⟨by decide +kernel, rfl⟩
theorem d_L_office_142 : nx Y_L_office 142 (.ishr) 1 143 := ⟨by decide +kernel, rfl⟩
theorem d_L_office_143 : nx Y_L_office 143 (.iload_n 2) 1 144 := ⟨by decide +kernel, rfl⟩
theorem d_L_office_144 : nx Y_L_office 144 (.invokestatic 28) 3 147 := ⟨by decide +kernel, rfl⟩
theorem d_L_office_147 : nx Y_L_office 147 (.iadd) 1 148 := ⟨by decide +kernel, rfl⟩
theorem d_L_office_148 : nx Y_L_office 148 (.istore_n 3) 1 149 := ⟨by decide +kernel, rfl⟩
theorem d_L_office_149 : nx Y_L_office 149 (.iconst 0) 1 150 := ⟨by decide +kernel, rfl⟩
theorem d_L_office_150 : nx Y_L_office 150 (.istore 4) 2 152 := ⟨by decide +kernel, rfl⟩
theorem d_L_office_152 : nx Y_L_office 152 (.iload 4) 2 154 := ⟨by decide +kernel, rfl⟩
theorem d_L_office_154 : nx Y_L_office 154 (.iload_n 3) 1 155 := ⟨by decide +kernel, rfl⟩
theorem d_L_office_155 : nb Y_L_office 155 (Instr.if_icmp .ge) 158 212 := ⟨57, by decide +kernel, rfl, by decide⟩
theorem d_L_office_158 : nx Y_L_office 158 (.aload_n 0) 1 159 := ⟨by decide +kernel, rfl⟩
theorem d_L_office_159 : nx Y_L_office 159 (.aload_n 1) 1 160 := ⟨by decide +kernel, rfl⟩
theorem d_L_office_160 : nx Y_L_office 160 (.iconst 1) 1 161 := ⟨by decide +kernel, rfl⟩
theorem d_L_office_161 : nx Y_L_office 161 (.iload 4) 2 163 := ⟨by decide +kernel, rfl⟩
theorem d_L_office_163 : nx Y_L_office 163 (.iadd) 1 164 := ⟨by decide +kernel, rfl⟩
theorem d_L_office_164 : nx Y_L_office 164 (.invokestatic 24) 3 167 := ⟨by decide +kernel, rfl⟩
theorem d_L_office_167 : nx Y_L_office 167 (.bipush 6) 2 169 := ⟨by decide +kernel, rfl⟩
theorem d_L_office_169 : nx Y_L_office 169 (.invokestatic 28) 3 172 := ⟨by decide +kernel, rfl⟩
theorem d_L_office_172 : nx Y_L_office 172 (.aload_n 1) 1 173 := ⟨by decide +kernel, rfl⟩
theorem d_L_office_173 : nx Y_L_office 173 (.iconst 1) 1 174 := ⟨by decide +kernel, rfl⟩
theorem d_L_office_174 : nx Y_L_office 174 (.iload 4) 2 176 := ⟨by decide +kernel, rfl⟩
theorem d_L_office_176 : nx Y_L_office 176 (.iadd) 1 177 := ⟨by decide +kernel, rfl⟩
theorem d_L_office_177 : nx Y_L_office 177 (.invokestatic 24) 3 180 := ⟨by decide +kernel, rfl⟩
theorem d_L_office_180 : nx Y_L_office 180 (.iconst 3) 1 181 := ⟨by decide +kernel, rfl⟩
theorem d_L_office_181 : nx Y_L_office 181 (.ishr) 1 182 := ⟨by decide +kernel, rfl⟩
theorem d_L_office_182 : nx Y_L_office 182 (.bipush 10) 2 184 := ⟨by decide +kernel, rfl⟩
theorem d_L_office_184 : nx Y_L_office 184 (.invokestatic 28) 3 187 := ⟨by decide +kernel, rfl⟩
theorem d_L_office_187 : nx Y_L_office 187 (.aload_n 1) 1 188 := ⟨by decide +kernel, rfl⟩
theorem d_L_office_188 : nx Y_L_office 188 (.iconst 1) 1 189 := ⟨by decide +kernel, rfl⟩
theorem d_L_office_189 : nx Y_L_office 189 (.iload 4) 2 191 := ⟨by decide +kernel, rfl⟩
theorem d_L_office_191 : nx Y_L_office 191 (.iadd) 1 192 := ⟨by decide +kernel, rfl⟩
theorem d_L_office_192 : nx Y_L_office 192 (.invokestatic 24) 3 195 := ⟨by decide +kernel, rfl⟩
theorem d_L_office_195 : nx Y_L_office 195 (.bipush 7) 2 197 := ⟨by decide +kernel, rfl⟩
theorem d_L_office_197 : nx Y_L_office 197 (.ishr) 1 198 := ⟨by decide +kernel, rfl⟩
theorem d_L_office_198 : nx Y_L_office 198 (.iconst 4) 1 199 := ⟨by decide +kernel, rfl⟩
theorem d_L_office_199 : nx Y_L_office 199 (.invokestatic 28) 3 202 := ⟨by decide +kernel, rfl⟩
theorem d_L_office_202 : nx Y_L_office 202 (.invokestatic 36) 3 205 := ⟨by decide +kernel, rfl⟩
theorem d_L_office_205 : nx Y_L_office 205 (.pop) 1 206 := ⟨by decide +kernel, rfl⟩
theorem d_L_office_206 : nx Y_L_office 206 (.iinc 4 1) 3 209 := ⟨by decide +kernel, rfl⟩
theorem d_L_office_209 : nb Y_L_office 209 Instr.goto 212 152 := ⟨-57, by decide +kernel, rfl, by decide⟩
theorem d_L_office_212 : nx Y_L_office 212 (.iconst 0) 1 213 := ⟨by decide +kernel, rfl⟩
theorem d_L_office_213 : nx Y_L_office 213 (.istore 4) 2 215 := ⟨by decide +kernel, rfl⟩
theorem d_L_office_215 : nx Y_L_office 215 (.iload 4) 2 217 := ⟨by decide +kernel, rfl⟩
theorem d_L_office_217 : nx Y_L_office 217 (.iload_n 3) 1 218 := ⟨by decide +kernel, rfl⟩
theorem d_L_office_218 : nb Y_L_office 218 (Instr.if_icmp .ge) 221 260 := ⟨42, by decide +kernel, rfl, by decide⟩
theorem d_L_office_221 : nx Y_L_office 221 (.aload_n 1) 1 222 := ⟨by decide +kernel, rfl⟩
theorem d_L_office_222 : nx Y_L_office 222 (.bipush 14) 2 224 := ⟨by decide +kernel, rfl⟩
theorem d_L_office_224 : nx Y_L_office 224 (.iload 4) 2 226 := ⟨by decide +kernel, rfl⟩
theorem d_L_office_226 : nx Y_L_office 226 (.iconst 4) 1 227 := ⟨by decide +kernel, rfl⟩
theorem d_L_office_227 : nx Y_L_office 227 (.irem) 1 228 := ⟨by decide +kernel, rfl⟩
theorem d_L_office_228 : nx Y_L_office 228 (.iadd) 1 229 := ⟨by decide +kernel, rfl⟩
theorem d_L_office_229 : nx Y_L_office 229 (.invokestatic 24) 3 232 := ⟨by decide +kernel, rfl⟩
theorem d_L_office_232 : nx Y_L_office 232 (.iconst 3) 1 233 := ⟨by decide +kernel, rfl⟩
theorem d_L_office_233 : nx Y_L_office 233 (.iload 4) 2 235 := ⟨by decide +kernel, rfl⟩
theorem d_L_office_235 : nx Y_L_office 235 (.iconst 4) 1 236 := ⟨by decide +kernel, rfl⟩
theorem d_L_office_236 : nx Y_L_office 236 (.idiv) 1 237 := ⟨by decide +kernel, rfl⟩
theorem d_L_office_237 : nx Y_L_office 237 (.imul) 1 238 := ⟨by decide +kernel, rfl⟩
theorem d_L_office_238 : nx Y_L_office 238 (.ishr) 1 239 := ⟨by decide +kernel, rfl⟩
theorem d_L_office_239 : nx Y_L_office 239 (.bipush 9) 2 241 := ⟨by decide +kernel, rfl⟩
theorem d_L_office_241 : nx Y_L_office 241 (.invokestatic 28) 3 244 := ⟨by decide +kernel, rfl⟩
theorem d_L_office_244 : nb Y_L_office 244 (Instr.ifCond .ne) 247 254 := ⟨10, by decide +kernel, rfl, by decide⟩
theorem d_L_office_247 : nx Y_L_office 247 (.aload_n 0) 1 248 := ⟨by decide +kernel, rfl⟩
theorem d_L_office_248 : nx Y_L_office 248 (.iload 4) 2 250 := ⟨by decide +kernel, rfl⟩
theorem d_L_office_250 : nx Y_L_office 250 (.invokevirtual 40) 3 253 := ⟨by decide +kernel, rfl⟩
theorem d_L_office_253 : nx Y_L_office 253 (.pop) 1 254 := ⟨by decide +kernel, rfl⟩
theorem d_L_office_254 : nx Y_L_office 254 (.iinc 4 1) 3 257 := ⟨by decide +kernel, rfl⟩
theorem d_L_office_257 : nb Y_L_office 257 Instr.goto 260 215 := ⟨-42, by decide +kernel, rfl, by decide⟩
theorem d_L_office_260 : nx Y_L_office 260 (.aload_n 1) 1 261 := ⟨by decide +kernel, rfl⟩
theorem d_L_office_261 : nx Y_L_office 261 (.bipush 18) 2 263 := ⟨by decide +kernel, rfl⟩
theorem d_L_office_263 : nx Y_L_office 263 (.invokestatic 24) 3 266 := ⟨by decide +kernel, rfl⟩
theorem d_L_office_266 : nx Y_L_office 266 (.iconst 2) 1 267 := ⟨by decide +kernel, rfl⟩
theorem d_L_office_267 : nx Y_L_office 267 (.invokestatic 28) 3 270 := ⟨by decide +kernel, rfl⟩
theorem d_L_office_270 : nb Y_L_office 270 (Instr.ifCond .ne) 273 293 := ⟨23, by decide +kernel, rfl, by decide⟩
theorem d_L_office_273 : nx Y_L_office 273 (.aload_n 0) 1 274 := ⟨by decide +kernel, rfl⟩
theorem d_L_office_274 : nx Y_L_office 274 (.iconst 1) 1 275 := ⟨by decide +kernel, rfl⟩
theorem d_L_office_275 : nx Y_L_office 275 (.aload_n 1) 1 276 := ⟨by decide +kernel, rfl⟩
theorem d_L_office_276 : nx Y_L_office 276 (.bipush 18) 2 278 := ⟨by decide +kernel, rfl⟩
theorem d_L_office_278 : nx Y_L_office 278 (.invokestatic 24) 3 281 := ⟨by decide +kernel, rfl⟩
theorem d_L_office_281 : nx Y_L_office 281 (.iconst 2) 1 282 := ⟨by decide +kernel, rfl⟩
theorem d_L_office_282 : nx Y_L_office 282 (.ishr) 1 283 := ⟨by decide +kernel, rfl⟩
theorem d_L_office_283 : nx Y_L_office 283 (.bipush 9) 2 285 := ⟨by decide +kernel, rfl⟩
theorem d_L_office_285 : nx Y_L_office 285 (.invokestatic 28) 3 288 := ⟨by decide +kernel, rfl⟩
theorem d_L_office_288 : nx Y_L_office 288 (.iadd) 1 289 := ⟨by decide +kernel, rfl⟩
theorem d_L_office_289 : nx Y_L_office 289 (.invokevirtual 43) 3 292 := ⟨by decide +kernel, rfl⟩
theorem d_L_office_292 : nx Y_L_office 292 (.pop) 1 293 := ⟨by decide +kernel, rfl⟩
theorem d_L_office_293 : nx Y_L_office 293 (.return_) 1 294 := ⟨by decide +kernel, rfl⟩
theorem dc_L_sheet_0 : decode Y_L_sheet.2.1 0 = .ok (.aload_n 0, 1) := by decide +kernel
theorem dc_L_sheet_1 : decode Y_L_sheet.2.1 1 = .ok (.iconst 5, 1) := by decide +kernel
theorem dc_L_sheet_2 : decode Y_L_sheet.2.1 2 = .ok (.newarray .int, 2) := by decide +kernel
theorem dc_L_sheet_4 : decode Y_L_sheet.2.1 4 = .ok (.dup, 1) := by decide +kernel
theorem dc_L_sheet_5 : decode Y_L_sheet.2.1 5 = .ok (.iconst 0, 1) := by decide +kernel
theorem dc_L_sheet_6 : decode Y_L_sheet.2.1 6 = .ok (.bipush 115, 2) := by decide +kernel
theorem dc_L_sheet_8 : decode Y_L_sheet.2.1 8 = .ok (.iastore, 1) := by decide +kernel
theorem dc_L_sheet_9 : decode Y_L_sheet.2.1 9 = .ok (.dup, 1) := by decide +kernel
theorem dc_L_sheet_10 : decode Y_L_sheet.2.1 10 = .ok (.iconst 1, 1) := by decide +kernel
theorem dc_L_sheet_11 : decode Y_L_sheet.2.1 11 = .ok (.bipush 48, 2) := by decide +kernel
theorem dc_L_sheet_13 : decode Y_L_sheet.2.1 13 = .ok (.iload_n 1, 1) := by decide +kernel
theorem dc_L_sheet_14 : decode Y_L_sheet.2.1 14 = .ok (.iadd, 1) := by decide +kernel
theorem dc_L_sheet_15 : decode Y_L_sheet.2.1 15 = .ok (.iastore, 1) := by decide +kernel
theorem dc_L_sheet_16 : decode Y_L_sheet.2.1 16 = .ok (.dup, 1) := by decide +kernel
theorem dc_L_sheet_17 : decode Y_L_sheet.2.1 17 = .ok (.iconst 2, 1) := by decide +kernel
theorem dc_L_sheet_18 : decode Y_L_sheet.2.1 18 = .ok (.bipush 48, 2) := by decide +kernel
theorem dc_L_sheet_20 : decode Y_L_sheet.2.1 20 = .ok (.iload_n 2, 1) := by decide +kernel
theorem dc_L_sheet_21 : decode Y_L_sheet.2.1 21 = .ok (.iadd, 1) := by decide +kernel
theorem dc_L_sheet_22 : decode Y_L_sheet.2.1 22 = .ok (.iastore, 1) := by decide +kernel
theorem dc_L_sheet_23 : decode Y_L_sheet.2.1 23 = .ok (.dup, 1) := by decide +kernel
theorem dc_L_sheet_24 : decode Y_L_sheet.2.1 24 = .ok (.iconst 3, 1) := by decide +kernel
theorem dc_L_sheet_25 : decode Y_L_sheet.2.1 25 = .ok (.bipush 48, 2) := by decide +kernel
theorem dc_L_sheet_27 : decode Y_L_sheet.2.1 27 = .ok (.iload_n 3, 1) := by decide +kernel
theorem dc_L_sheet_28 : decode Y_L_sheet.2.1 28 = .ok (.iadd, 1) := by decide +kernel
theorem dc_L_sheet_29 : decode Y_L_sheet.2.1 29 = .ok (.iastore, 1) := by decide +kernel
theorem dc_L_sheet_30 : decode Y_L_sheet.2.1 30 = .ok (.dup, 1) := by decide +kernel
theorem dc_L_sheet_31 : decode Y_L_sheet.2.1 31 = .ok (.iconst 4, 1) := by decide +kernel
theorem dc_L_sheet_32 : decode Y_L_sheet.2.1 32 = .ok (.bipush 59, 2) := by decide +kernel
theorem dc_L_sheet_34 : decode Y_L_sheet.2.1 34 = .ok (.iastore, 1) := by decide +kernel
theorem dc_L_sheet_35 : decode Y_L_sheet.2.1 35 = .ok (.invokestatic 18, 3) := by decide +kernel
theorem dc_L_sheet_38 : decode Y_L_sheet.2.1 38 = .ok (.ireturn, 1) := by decide +kernel
