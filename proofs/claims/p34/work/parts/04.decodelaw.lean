theorem dL_law_0 : decode cL_law 0 = .ok (.new 10, 3) := by decide +kernel
theorem dL_law_3 : decode cL_law 3 = .ok (.dup, 1) := by decide +kernel
theorem dL_law_4 : decode cL_law 4 = .ok (.invokespecial 60, 3) := by decide +kernel
theorem dL_law_7 : decode cL_law 7 = .ok (.astore_n 1, 1) := by decide +kernel
theorem dL_law_8 : decode cL_law 8 = .ok (.bipush 9, 2) := by decide +kernel
theorem dL_law_10 : decode cL_law 10 = .ok (.newarray .int, 2) := by decide +kernel
theorem dL_law_12 : decode cL_law 12 = .ok (.astore_n 2, 1) := by decide +kernel
theorem dL_law_13 : decode cL_law 13 = .ok (.bipush 9, 2) := by decide +kernel
theorem dL_law_15 : decode cL_law 15 = .ok (.newarray .int, 2) := by decide +kernel
theorem dL_law_17 : decode cL_law 17 = .ok (.astore_n 3, 1) := by decide +kernel
theorem dL_law_18 : decode cL_law 18 = .ok (.bipush 9, 2) := by decide +kernel
theorem dL_law_20 : decode cL_law 20 = .ok (.newarray .int, 2) := by decide +kernel
theorem dL_law_22 : decode cL_law 22 = .ok (.astore 4, 2) := by decide +kernel
theorem dL_law_24 : decode cL_law 24 = .ok (.aload_n 1, 1) := by decide +kernel
theorem dL_law_25 : decode cL_law 25 = .ok (.aload_n 0, 1) := by decide +kernel
theorem dL_law_26 : decode cL_law 26 = .ok (.aload_n 2, 1) := by decide +kernel
theorem dL_law_27 : decode cL_law 27 = .ok (.aload_n 3, 1) := by decide +kernel
theorem dL_law_28 : decode cL_law 28 = .ok (.aload 4, 2) := by decide +kernel
theorem dL_law_30 : decode cL_law 30 = .ok (.invokestatic 61, 3) := by decide +kernel
theorem dL_law_33 : decode cL_law 33 = .ok (.ifCond .eq 10, 3) := by decide +kernel
theorem dL_law_36 : decode cL_law 36 = .ok (.aload_n 1, 1) := by decide +kernel
theorem dL_law_37 : decode cL_law 37 = .ok (.invokevirtual 65, 3) := by decide +kernel
theorem dL_law_40 : decode cL_law 40 = .ok (.ifCond .ge 5, 3) := by decide +kernel
theorem dL_law_43 : decode cL_law 43 = .ok (.iconst 0, 1) := by decide +kernel
theorem dL_law_44 : decode cL_law 44 = .ok (.ireturn, 1) := by decide +kernel
theorem dL_law_45 : decode cL_law 45 = .ok (.bipush 81, 2) := by decide +kernel
theorem dL_law_47 : decode cL_law 47 = .ok (.newarray .int, 2) := by decide +kernel
theorem dL_law_49 : decode cL_law 49 = .ok (.astore 5, 2) := by decide +kernel
theorem dL_law_51 : decode cL_law 51 = .ok (.bipush 9, 2) := by decide +kernel
theorem dL_law_53 : decode cL_law 53 = .ok (.newarray .boolean, 2) := by decide +kernel
theorem dL_law_55 : decode cL_law 55 = .ok (.astore 6, 2) := by decide +kernel
theorem dL_law_57 : decode cL_law 57 = .ok (.iconst 1, 1) := by decide +kernel
theorem dL_law_58 : decode cL_law 58 = .ok (.newarray .int, 2) := by decide +kernel
theorem dL_law_60 : decode cL_law 60 = .ok (.dup, 1) := by decide +kernel
theorem dL_law_61 : decode cL_law 61 = .ok (.iconst 0, 1) := by decide +kernel
theorem dL_law_62 : decode cL_law 62 = .ok (.bipush 100, 2) := by decide +kernel
theorem dL_law_64 : decode cL_law 64 = .ok (.iastore, 1) := by decide +kernel
theorem dL_law_65 : decode cL_law 65 = .ok (.astore 7, 2) := by decide +kernel
theorem dL_law_67 : decode cL_law 67 = .ok (.bipush 81, 2) := by decide +kernel
theorem dL_law_69 : decode cL_law 69 = .ok (.newarray .int, 2) := by decide +kernel
theorem dL_law_71 : decode cL_law 71 = .ok (.astore 8, 2) := by decide +kernel
theorem dL_law_73 : decode cL_law 73 = .ok (.bipush 81, 2) := by decide +kernel
theorem dL_law_75 : decode cL_law 75 = .ok (.newarray .int, 2) := by decide +kernel
theorem dL_law_77 : decode cL_law 77 = .ok (.astore 9, 2) := by decide +kernel
theorem dL_law_79 : decode cL_law 79 = .ok (.bipush 9, 2) := by decide +kernel
theorem dL_law_81 : decode cL_law 81 = .ok (.newarray .int, 2) := by decide +kernel
theorem dL_law_83 : decode cL_law 83 = .ok (.astore 10, 2) := by decide +kernel
theorem dL_law_85 : decode cL_law 85 = .ok (.iconst 0, 1) := by decide +kernel
theorem dL_law_86 : decode cL_law 86 = .ok (.istore 11, 2) := by decide +kernel
theorem dL_law_88 : decode cL_law 88 = .ok (.iload 11, 2) := by decide +kernel
theorem dL_law_90 : decode cL_law 90 = .ok (.bipush 81, 2) := by decide +kernel
theorem dL_law_92 : decode cL_law 92 = .ok (.if_icmp .ge 16, 3) := by decide +kernel
theorem dL_law_95 : decode cL_law 95 = .ok (.aload 5, 2) := by decide +kernel
theorem dL_law_97 : decode cL_law 97 = .ok (.iload 11, 2) := by decide +kernel
theorem dL_law_99 : decode cL_law 99 = .ok (.bipush (-2), 2) := by decide +kernel
theorem dL_law_101 : decode cL_law 101 = .ok (.iastore, 1) := by decide +kernel
theorem dL_law_102 : decode cL_law 102 = .ok (.iinc 11 1, 3) := by decide +kernel
theorem dL_law_105 : decode cL_law 105 = .ok (.goto (-17), 3) := by decide +kernel
theorem dL_law_108 : decode cL_law 108 = .ok (.iconst 0, 1) := by decide +kernel
theorem dL_law_109 : decode cL_law 109 = .ok (.istore 11, 2) := by decide +kernel
theorem dL_law_111 : decode cL_law 111 = .ok (.iload 11, 2) := by decide +kernel
theorem dL_law_113 : decode cL_law 113 = .ok (.bipush 9, 2) := by decide +kernel
theorem dL_law_115 : decode cL_law 115 = .ok (.if_icmp .ge 15, 3) := by decide +kernel
theorem dL_law_118 : decode cL_law 118 = .ok (.aload 6, 2) := by decide +kernel
theorem dL_law_120 : decode cL_law 120 = .ok (.iload 11, 2) := by decide +kernel
theorem dL_law_122 : decode cL_law 122 = .ok (.iconst 1, 1) := by decide +kernel
theorem dL_law_123 : decode cL_law 123 = .ok (.bastore, 1) := by decide +kernel
theorem dL_law_124 : decode cL_law 124 = .ok (.iinc 11 1, 3) := by decide +kernel
theorem dL_law_127 : decode cL_law 127 = .ok (.goto (-16), 3) := by decide +kernel
theorem dL_law_130 : decode cL_law 130 = .ok (.iconst 0, 1) := by decide +kernel
theorem dL_law_131 : decode cL_law 131 = .ok (.istore 11, 2) := by decide +kernel
theorem dL_law_133 : decode cL_law 133 = .ok (.iload 11, 2) := by decide +kernel
theorem dL_law_135 : decode cL_law 135 = .ok (.bipush 8, 2) := by decide +kernel
theorem dL_law_137 : decode cL_law 137 = .ok (.if_icmp .ge 132, 3) := by decide +kernel
theorem dL_law_140 : decode cL_law 140 = .ok (.aload_n 1, 1) := by decide +kernel
theorem dL_law_141 : decode cL_law 141 = .ok (.aload 8, 2) := by decide +kernel
theorem dL_law_143 : decode cL_law 143 = .ok (.invokestatic 68, 3) := by decide +kernel
theorem dL_law_146 : decode cL_law 146 = .ok (.aload_n 1, 1) := by decide +kernel
theorem dL_law_147 : decode cL_law 147 = .ok (.aload_n 0, 1) := by decide +kernel
theorem dL_law_148 : decode cL_law 148 = .ok (.bipush 9, 2) := by decide +kernel
theorem dL_law_150 : decode cL_law 150 = .ok (.iload 11, 2) := by decide +kernel
theorem dL_law_152 : decode cL_law 152 = .ok (.iadd, 1) := by decide +kernel
theorem dL_law_153 : decode cL_law 153 = .ok (.invokestatic 15, 3) := by decide +kernel
theorem dL_law_156 : decode cL_law 156 = .ok (.aload_n 2, 1) := by decide +kernel
theorem dL_law_157 : decode cL_law 157 = .ok (.aload_n 3, 1) := by decide +kernel
theorem dL_law_158 : decode cL_law 158 = .ok (.aload 4, 2) := by decide +kernel
theorem dL_law_160 : decode cL_law 160 = .ok (.aload 6, 2) := by decide +kernel
theorem dL_law_162 : decode cL_law 162 = .ok (.aload 5, 2) := by decide +kernel
theorem dL_law_164 : decode cL_law 164 = .ok (.aload 7, 2) := by decide +kernel
theorem dL_law_166 : decode cL_law 166 = .ok (.invokestatic 72, 3) := by decide +kernel
theorem dL_law_169 : decode cL_law 169 = .ok (.istore 12, 2) := by decide +kernel
theorem dL_law_171 : decode cL_law 171 = .ok (.aload_n 1, 1) := by decide +kernel
theorem dL_law_172 : decode cL_law 172 = .ok (.aload 9, 2) := by decide +kernel
theorem dL_law_174 : decode cL_law 174 = .ok (.invokestatic 68, 3) := by decide +kernel
theorem dL_law_177 : decode cL_law 177 = .ok (.iload 12, 2) := by decide +kernel
theorem dL_law_179 : decode cL_law 179 = .ok (.aload 8, 2) := by decide +kernel
theorem dL_law_181 : decode cL_law 181 = .ok (.aload 9, 2) := by decide +kernel
theorem dL_law_183 : decode cL_law 183 = .ok (.invokestatic 76, 3) := by decide +kernel
theorem dL_law_186 : decode cL_law 186 = .ok (.if_icmp .eq 5, 3) := by decide +kernel
theorem dL_law_189 : decode cL_law 189 = .ok (.iconst 0, 1) := by decide +kernel
theorem dL_law_190 : decode cL_law 190 = .ok (.ireturn, 1) := by decide +kernel
theorem dL_law_191 : decode cL_law 191 = .ok (.iconst 0, 1) := by decide +kernel
theorem dL_law_192 : decode cL_law 192 = .ok (.istore 13, 2) := by decide +kernel
theorem dL_law_194 : decode cL_law 194 = .ok (.iload 13, 2) := by decide +kernel
theorem dL_law_196 : decode cL_law 196 = .ok (.iconst 5, 1) := by decide +kernel
theorem dL_law_197 : decode cL_law 197 = .ok (.if_icmp .ge 66, 3) := by decide +kernel
theorem dL_law_200 : decode cL_law 200 = .ok (.aload_n 2, 1) := by decide +kernel
theorem dL_law_201 : decode cL_law 201 = .ok (.aload_n 3, 1) := by decide +kernel
theorem dL_law_202 : decode cL_law 202 = .ok (.aload 4, 2) := by decide +kernel
theorem dL_law_204 : decode cL_law 204 = .ok (.aload 6, 2) := by decide +kernel
theorem dL_law_206 : decode cL_law 206 = .ok (.aload 5, 2) := by decide +kernel
theorem dL_law_208 : decode cL_law 208 = .ok (.aload 7, 2) := by decide +kernel
theorem dL_law_210 : decode cL_law 210 = .ok (.iconst 0, 1) := by decide +kernel
theorem dL_law_211 : decode cL_law 211 = .ok (.iaload, 1) := by decide +kernel
theorem dL_law_212 : decode cL_law 212 = .ok (.iload 13, 2) := by decide +kernel
theorem dL_law_214 : decode cL_law 214 = .ok (.aload 10, 2) := by decide +kernel
theorem dL_law_216 : decode cL_law 216 = .ok (.invokestatic 80, 3) := by decide +kernel
theorem dL_law_219 : decode cL_law 219 = .ok (.iconst 0, 1) := by decide +kernel
theorem dL_law_220 : decode cL_law 220 = .ok (.istore 14, 2) := by decide +kernel
theorem dL_law_222 : decode cL_law 222 = .ok (.iload 14, 2) := by decide +kernel
theorem dL_law_224 : decode cL_law 224 = .ok (.iconst 5, 1) := by decide +kernel
theorem dL_law_225 : decode cL_law 225 = .ok (.if_icmp .ge 32, 3) := by decide +kernel
theorem dL_law_228 : decode cL_law 228 = .ok (.aload_n 1, 1) := by decide +kernel
theorem dL_law_229 : decode cL_law 229 = .ok (.iload 14, 2) := by decide +kernel
theorem dL_law_231 : decode cL_law 231 = .ok (.iload 13, 2) := by decide +kernel
theorem dL_law_233 : decode cL_law 233 = .ok (.invokevirtual 84, 3) := by decide +kernel
theorem dL_law_236 : decode cL_law 236 = .ok (.aload_n 2, 1) := by decide +kernel
theorem dL_law_237 : decode cL_law 237 = .ok (.aload 10, 2) := by decide +kernel
theorem dL_law_239 : decode cL_law 239 = .ok (.iload 14, 2) := by decide +kernel
theorem dL_law_241 : decode cL_law 241 = .ok (.iload 13, 2) := by decide +kernel
theorem dL_law_243 : decode cL_law 243 = .ok (.invokestatic 87, 3) := by decide +kernel
theorem dL_law_246 : decode cL_law 246 = .ok (.if_icmp .eq 5, 3) := by decide +kernel
theorem dL_law_249 : decode cL_law 249 = .ok (.iconst 0, 1) := by decide +kernel
theorem dL_law_250 : decode cL_law 250 = .ok (.ireturn, 1) := by decide +kernel
theorem dL_law_251 : decode cL_law 251 = .ok (.iinc 14 1, 3) := by decide +kernel
theorem dL_law_254 : decode cL_law 254 = .ok (.goto (-32), 3) := by decide +kernel
theorem dL_law_257 : decode cL_law 257 = .ok (.iinc 13 1, 3) := by decide +kernel
theorem dL_law_260 : decode cL_law 260 = .ok (.goto (-66), 3) := by decide +kernel
theorem dL_law_263 : decode cL_law 263 = .ok (.iinc 11 1, 3) := by decide +kernel
theorem dL_law_266 : decode cL_law 266 = .ok (.goto (-133), 3) := by decide +kernel
theorem dL_law_269 : decode cL_law 269 = .ok (.iconst 1, 1) := by decide +kernel
theorem dL_law_270 : decode cL_law 270 = .ok (.ireturn, 1) := by decide +kernel
