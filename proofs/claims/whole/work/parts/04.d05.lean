theorem dX12_ask_2 : decode cX12_ask 2 = .ok (.putfield 178, 3) := by decide +kernel
theorem dX12_ask_5 : decode cX12_ask 5 = .ok (.aload_n 0, 1) := by decide +kernel
theorem dX12_ask_6 : decode cX12_ask 6 = .ok (.aload_n 0, 1) := by decide +kernel
theorem dX12_ask_7 : decode cX12_ask 7 = .ok (.iload_n 1, 1) := by decide +kernel
theorem dX12_ask_8 : decode cX12_ask 8 = .ok (.invokevirtual 385, 3) := by decide +kernel
theorem dX12_ask_11 : decode cX12_ask 11 = .ok (.iconst 1, 1) := by decide +kernel
theorem dX12_ask_12 : decode cX12_ask 12 = .ok (.invokevirtual 321, 3) := by decide +kernel
theorem dX12_ask_15 : decode cX12_ask 15 = .ok (.ifCond .ne 59, 3) := by decide +kernel
theorem dX12_ask_18 : decode cX12_ask 18 = .ok (.aload_n 0, 1) := by decide +kernel
theorem dX12_ask_19 : decode cX12_ask 19 = .ok (.aload_n 0, 1) := by decide +kernel
theorem dX12_ask_20 : decode cX12_ask 20 = .ok (.iload_n 2, 1) := by decide +kernel
theorem dX12_ask_21 : decode cX12_ask 21 = .ok (.iload_n 3, 1) := by decide +kernel
theorem dX12_ask_22 : decode cX12_ask 22 = .ok (.invokevirtual 418, 3) := by decide +kernel
theorem dX12_ask_25 : decode cX12_ask 25 = .ok (.ifCond .ne 15, 3) := by decide +kernel
theorem dX12_ask_28 : decode cX12_ask 28 = .ok (.iload 4, 2) := by decide +kernel
theorem dX12_ask_30 : decode cX12_ask 30 = .ok (.iconst 0, 1) := by decide +kernel
theorem dX12_ask_31 : decode cX12_ask 31 = .ok (.sipush 255, 3) := by decide +kernel
theorem dX12_ask_34 : decode cX12_ask 34 = .ok (.invokestatic 317, 3) := by decide +kernel
theorem dX12_ask_37 : decode cX12_ask 37 = .ok (.ifCond .ne 7, 3) := by decide +kernel
theorem dX12_ask_40 : decode cX12_ask 40 = .ok (.iconst 1, 1) := by decide +kernel
theorem dX12_ask_41 : decode cX12_ask 41 = .ok (.goto 4, 3) := by decide +kernel
theorem dX12_ask_44 : decode cX12_ask 44 = .ok (.iconst 0, 1) := by decide +kernel
theorem dX12_ask_45 : decode cX12_ask 45 = .ok (.iconst 2, 1) := by decide +kernel
theorem dX12_ask_46 : decode cX12_ask 46 = .ok (.invokevirtual 321, 3) := by decide +kernel
theorem dX12_ask_49 : decode cX12_ask 49 = .ok (.ifCond .ne 25, 3) := by decide +kernel
theorem dX12_ask_52 : decode cX12_ask 52 = .ok (.aload_n 0, 1) := by decide +kernel
theorem dX12_ask_53 : decode cX12_ask 53 = .ok (.aload_n 0, 1) := by decide +kernel
theorem dX12_ask_54 : decode cX12_ask 54 = .ok (.getfield 412, 3) := by decide +kernel
theorem dX12_ask_57 : decode cX12_ask 57 = .ok (.bipush 120, 2) := by decide +kernel
theorem dX12_ask_59 : decode cX12_ask 59 = .ok (.if_icmp .ne 7, 3) := by decide +kernel
theorem dX12_ask_62 : decode cX12_ask 62 = .ok (.iconst 1, 1) := by decide +kernel
theorem dX12_ask_63 : decode cX12_ask 63 = .ok (.goto 4, 3) := by decide +kernel
theorem dX12_ask_66 : decode cX12_ask 66 = .ok (.iconst 0, 1) := by decide +kernel
theorem dX12_ask_67 : decode cX12_ask 67 = .ok (.iconst 3, 1) := by decide +kernel
theorem dX12_ask_68 : decode cX12_ask 68 = .ok (.invokevirtual 321, 3) := by decide +kernel
theorem dX12_ask_71 : decode cX12_ask 71 = .ok (.ifCond .eq 5, 3) := by decide +kernel
theorem dX12_ask_74 : decode cX12_ask 74 = .ok (.iconst 0, 1) := by decide +kernel
theorem dX12_ask_75 : decode cX12_ask 75 = .ok (.ireturn, 1) := by decide +kernel
theorem dX12_ask_76 : decode cX12_ask 76 = .ok (.aload_n 0, 1) := by decide +kernel
theorem dX12_ask_77 : decode cX12_ask 77 = .ok (.iload_n 1, 1) := by decide +kernel
theorem dX12_ask_78 : decode cX12_ask 78 = .ok (.iload_n 2, 1) := by decide +kernel
theorem dX12_ask_79 : decode cX12_ask 79 = .ok (.iload_n 3, 1) := by decide +kernel
theorem dX12_ask_80 : decode cX12_ask 80 = .ok (.iload 5, 2) := by decide +kernel
theorem dX12_ask_82 : decode cX12_ask 82 = .ok (.invokevirtual 421, 3) := by decide +kernel
theorem dX12_ask_85 : decode cX12_ask 85 = .ok (.aload_n 0, 1) := by decide +kernel
theorem dX12_ask_86 : decode cX12_ask 86 = .ok (.getfield 412, 3) := by decide +kernel
theorem dX12_ask_89 : decode cX12_ask 89 = .ok (.istore 6, 2) := by decide +kernel
theorem dX12_ask_91 : decode cX12_ask 91 = .ok (.aload_n 0, 1) := by decide +kernel
theorem dX12_ask_92 : decode cX12_ask 92 = .ok (.dup, 1) := by decide +kernel
theorem dX12_ask_93 : decode cX12_ask 93 = .ok (.getfield 412, 3) := by decide +kernel
theorem dX12_ask_96 : decode cX12_ask 96 = .ok (.iconst 1, 1) := by decide +kernel
theorem dX12_ask_97 : decode cX12_ask 97 = .ok (.iadd, 1) := by decide +kernel
theorem dX12_ask_98 : decode cX12_ask 98 = .ok (.putfield 412, 3) := by decide +kernel
theorem dX12_ask_101 : decode cX12_ask 101 = .ok (.aload_n 0, 1) := by decide +kernel
theorem dX12_ask_102 : decode cX12_ask 102 = .ok (.getfield 112, 3) := by decide +kernel
theorem dX12_ask_105 : decode cX12_ask 105 = .ok (.iload 6, 2) := by decide +kernel
theorem dX12_ask_107 : decode cX12_ask 107 = .ok (.iload_n 1, 1) := by decide +kernel
theorem dX12_ask_108 : decode cX12_ask 108 = .ok (.iastore, 1) := by decide +kernel
theorem dX12_ask_109 : decode cX12_ask 109 = .ok (.aload_n 0, 1) := by decide +kernel
theorem dX12_ask_110 : decode cX12_ask 110 = .ok (.getfield 115, 3) := by decide +kernel
theorem dX12_ask_113 : decode cX12_ask 113 = .ok (.iload 6, 2) := by decide +kernel
theorem dX12_ask_115 : decode cX12_ask 115 = .ok (.iload_n 2, 1) := by decide +kernel
theorem dX12_ask_116 : decode cX12_ask 116 = .ok (.iastore, 1) := by decide +kernel
theorem dX12_ask_117 : decode cX12_ask 117 = .ok (.aload_n 0, 1) := by decide +kernel
theorem dX12_ask_118 : decode cX12_ask 118 = .ok (.getfield 118, 3) := by decide +kernel
theorem dX12_ask_121 : decode cX12_ask 121 = .ok (.iload 6, 2) := by decide +kernel
theorem dX12_ask_123 : decode cX12_ask 123 = .ok (.aload_n 0, 1) := by decide +kernel
theorem dX12_ask_124 : decode cX12_ask 124 = .ok (.getfield 314, 3) := by decide +kernel
theorem dX12_ask_127 : decode cX12_ask 127 = .ok (.iastore, 1) := by decide +kernel
theorem dX12_ask_128 : decode cX12_ask 128 = .ok (.aload_n 0, 1) := by decide +kernel
theorem dX12_ask_129 : decode cX12_ask 129 = .ok (.getfield 121, 3) := by decide +kernel
theorem dX12_ask_132 : decode cX12_ask 132 = .ok (.iload 6, 2) := by decide +kernel
theorem dX12_ask_134 : decode cX12_ask 134 = .ok (.iload_n 3, 1) := by decide +kernel
theorem dX12_ask_135 : decode cX12_ask 135 = .ok (.iastore, 1) := by decide +kernel
theorem dX12_ask_136 : decode cX12_ask 136 = .ok (.aload_n 0, 1) := by decide +kernel
theorem dX12_ask_137 : decode cX12_ask 137 = .ok (.getfield 124, 3) := by decide +kernel
theorem dX12_ask_140 : decode cX12_ask 140 = .ok (.iload 6, 2) := by decide +kernel
theorem dX12_ask_142 : decode cX12_ask 142 = .ok (.iload 4, 2) := by decide +kernel
theorem dX12_ask_144 : decode cX12_ask 144 = .ok (.iastore, 1) := by decide +kernel
theorem dX12_ask_145 : decode cX12_ask 145 = .ok (.aload_n 0, 1) := by decide +kernel
theorem dX12_ask_146 : decode cX12_ask 146 = .ok (.getfield 127, 3) := by decide +kernel
theorem dX12_ask_149 : decode cX12_ask 149 = .ok (.iload 6, 2) := by decide +kernel
theorem dX12_ask_151 : decode cX12_ask 151 = .ok (.iload 5, 2) := by decide +kernel
theorem dX12_ask_153 : decode cX12_ask 153 = .ok (.bastore, 1) := by decide +kernel
theorem dX12_ask_154 : decode cX12_ask 154 = .ok (.aload_n 0, 1) := by decide +kernel
theorem dX12_ask_155 : decode cX12_ask 155 = .ok (.getfield 130, 3) := by decide +kernel
theorem dX12_ask_158 : decode cX12_ask 158 = .ok (.iload 6, 2) := by decide +kernel
theorem dX12_ask_160 : decode cX12_ask 160 = .ok (.aload_n 0, 1) := by decide +kernel
theorem dX12_ask_161 : decode cX12_ask 161 = .ok (.getfield 340, 3) := by decide +kernel
theorem dX12_ask_164 : decode cX12_ask 164 = .ok (.iastore, 1) := by decide +kernel
theorem dX12_ask_165 : decode cX12_ask 165 = .ok (.aload_n 0, 1) := by decide +kernel
theorem dX12_ask_166 : decode cX12_ask 166 = .ok (.getfield 133, 3) := by decide +kernel
theorem dX12_ask_169 : decode cX12_ask 169 = .ok (.iload 6, 2) := by decide +kernel
theorem dX12_ask_171 : decode cX12_ask 171 = .ok (.aload_n 0, 1) := by decide +kernel
theorem dX12_ask_172 : decode cX12_ask 172 = .ok (.getfield 343, 3) := by decide +kernel
theorem dX12_ask_175 : decode cX12_ask 175 = .ok (.iastore, 1) := by decide +kernel
theorem dX12_ask_176 : decode cX12_ask 176 = .ok (.aload_n 0, 1) := by decide +kernel
theorem dX12_ask_177 : decode cX12_ask 177 = .ok (.getfield 136, 3) := by decide +kernel
theorem dX12_ask_180 : decode cX12_ask 180 = .ok (.iload 6, 2) := by decide +kernel
theorem dX12_ask_182 : decode cX12_ask 182 = .ok (.aload_n 0, 1) := by decide +kernel
theorem dX12_ask_183 : decode cX12_ask 183 = .ok (.getfield 346, 3) := by decide +kernel
theorem dX12_ask_186 : decode cX12_ask 186 = .ok (.iastore, 1) := by decide +kernel
theorem dX12_ask_187 : decode cX12_ask 187 = .ok (.aload_n 0, 1) := by decide +kernel
theorem dX12_ask_188 : decode cX12_ask 188 = .ok (.getfield 139, 3) := by decide +kernel
theorem dX12_ask_191 : decode cX12_ask 191 = .ok (.iload 6, 2) := by decide +kernel
theorem dX12_ask_193 : decode cX12_ask 193 = .ok (.aload_n 0, 1) := by decide +kernel
theorem dX12_ask_194 : decode cX12_ask 194 = .ok (.getfield 349, 3) := by decide +kernel
theorem dX12_ask_197 : decode cX12_ask 197 = .ok (.iastore, 1) := by decide +kernel
theorem dX12_ask_198 : decode cX12_ask 198 = .ok (.aload_n 0, 1) := by decide +kernel
theorem dX12_ask_199 : decode cX12_ask 199 = .ok (.getfield 142, 3) := by decide +kernel
theorem dX12_ask_202 : decode cX12_ask 202 = .ok (.iload 6, 2) := by decide +kernel
theorem dX12_ask_204 : decode cX12_ask 204 = .ok (.aload_n 0, 1) := by decide +kernel
theorem dX12_ask_205 : decode cX12_ask 205 = .ok (.getfield 355, 3) := by decide +kernel
theorem dX12_ask_208 : decode cX12_ask 208 = .ok (.bastore, 1) := by decide +kernel
theorem dX12_ask_209 : decode cX12_ask 209 = .ok (.aload_n 0, 1) := by decide +kernel
theorem dX12_ask_210 : decode cX12_ask 210 = .ok (.getfield 145, 3) := by decide +kernel
theorem dX12_ask_213 : decode cX12_ask 213 = .ok (.iload 6, 2) := by decide +kernel
theorem dX12_ask_215 : decode cX12_ask 215 = .ok (.aload_n 0, 1) := by decide +kernel
theorem dX12_ask_216 : decode cX12_ask 216 = .ok (.getfield 352, 3) := by decide +kernel
theorem dX12_ask_219 : decode cX12_ask 219 = .ok (.iastore, 1) := by decide +kernel
theorem dX12_ask_220 : decode cX12_ask 220 = .ok (.aload_n 0, 1) := by decide +kernel
theorem dX12_ask_221 : decode cX12_ask 221 = .ok (.iload 6, 2) := by decide +kernel
theorem dX12_ask_223 : decode cX12_ask 223 = .ok (.iconst 0, 1) := by decide +kernel
theorem dX12_ask_224 : decode cX12_ask 224 = .ok (.iconst 0, 1) := by decide +kernel
theorem dX12_ask_225 : decode cX12_ask 225 = .ok (.invokevirtual 425, 3) := by decide +kernel
theorem dX12_ask_228 : decode cX12_ask 228 = .ok (.aload_n 0, 1) := by decide +kernel
theorem dX12_ask_229 : decode cX12_ask 229 = .ok (.iload 6, 2) := by decide +kernel
theorem dX12_ask_231 : decode cX12_ask 231 = .ok (.iconst 1, 1) := by decide +kernel
theorem dX12_ask_232 : decode cX12_ask 232 = .ok (.iconst (-1), 1) := by decide +kernel
theorem dX12_ask_233 : decode cX12_ask 233 = .ok (.invokevirtual 425, 3) := by decide +kernel
theorem dX12_ask_236 : decode cX12_ask 236 = .ok (.aload_n 0, 1) := by decide +kernel
theorem dX12_ask_237 : decode cX12_ask 237 = .ok (.iload 6, 2) := by decide +kernel
theorem dX12_ask_239 : decode cX12_ask 239 = .ok (.iconst 2, 1) := by decide +kernel
theorem dX12_ask_240 : decode cX12_ask 240 = .ok (.iconst (-1), 1) := by decide +kernel
theorem dX12_ask_241 : decode cX12_ask 241 = .ok (.invokevirtual 425, 3) := by decide +kernel
theorem dX12_ask_244 : decode cX12_ask 244 = .ok (.aload_n 0, 1) := by decide +kernel
theorem dX12_ask_245 : decode cX12_ask 245 = .ok (.iload 6, 2) := by decide +kernel
theorem dX12_ask_247 : decode cX12_ask 247 = .ok (.iconst 3, 1) := by decide +kernel
theorem dX12_ask_248 : decode cX12_ask 248 = .ok (.iconst (-1), 1) := by decide +kernel
theorem dX12_ask_249 : decode cX12_ask 249 = .ok (.invokevirtual 425, 3) := by decide +kernel
theorem dX12_ask_252 : decode cX12_ask 252 = .ok (.aload_n 0, 1) := by decide +kernel
theorem dX12_ask_253 : decode cX12_ask 253 = .ok (.iload 6, 2) := by decide +kernel
theorem dX12_ask_255 : decode cX12_ask 255 = .ok (.iconst 4, 1) := by decide +kernel
theorem dX12_ask_256 : decode cX12_ask 256 = .ok (.iconst (-1), 1) := by decide +kernel
theorem dX12_ask_257 : decode cX12_ask 257 = .ok (.invokevirtual 425, 3) := by decide +kernel
theorem dX12_ask_260 : decode cX12_ask 260 = .ok (.aload_n 0, 1) := by decide +kernel
theorem dX12_ask_261 : decode cX12_ask 261 = .ok (.dup, 1) := by decide +kernel
theorem dX12_ask_262 : decode cX12_ask 262 = .ok (.getfield 428, 3) := by decide +kernel
theorem dX12_ask_265 : decode cX12_ask 265 = .ok (.aload_n 0, 1) := by decide +kernel
theorem dX12_ask_266 : decode cX12_ask 266 = .ok (.getfield 343, 3) := by decide +kernel
theorem dX12_ask_269 : decode cX12_ask 269 = .ok (.iadd, 1) := by decide +kernel
theorem dX12_ask_270 : decode cX12_ask 270 = .ok (.putfield 428, 3) := by decide +kernel
theorem dX12_ask_273 : decode cX12_ask 273 = .ok (.iload 6, 2) := by decide +kernel
theorem dX12_ask_275 : decode cX12_ask 275 = .ok (.ireturn, 1) := by decide +kernel
theorem dX12_give_0 : decode cX12_give 0 = .ok (.aload_n 0, 1) := by decide +kernel
theorem dX12_give_1 : decode cX12_give 1 = .ok (.iconst 0, 1) := by decide +kernel
theorem dX12_give_2 : decode cX12_give 2 = .ok (.putfield 178, 3) := by decide +kernel
theorem dX12_give_5 : decode cX12_give 5 = .ok (.aload_n 0, 1) := by decide +kernel
theorem dX12_give_6 : decode cX12_give 6 = .ok (.aload_n 0, 1) := by decide +kernel
theorem dX12_give_7 : decode cX12_give 7 = .ok (.iload_n 1, 1) := by decide +kernel
theorem dX12_give_8 : decode cX12_give 8 = .ok (.invokevirtual 431, 3) := by decide +kernel
theorem dX12_give_11 : decode cX12_give 11 = .ok (.iconst 1, 1) := by decide +kernel
theorem dX12_give_12 : decode cX12_give 12 = .ok (.invokevirtual 321, 3) := by decide +kernel
theorem dX12_give_15 : decode cX12_give 15 = .ok (.ifCond .ne 50, 3) := by decide +kernel
theorem dX12_give_18 : decode cX12_give 18 = .ok (.aload_n 0, 1) := by decide +kernel
theorem dX12_give_19 : decode cX12_give 19 = .ok (.iload_n 2, 1) := by decide +kernel
theorem dX12_give_20 : decode cX12_give 20 = .ok (.iconst 0, 1) := by decide +kernel
theorem dX12_give_21 : decode cX12_give 21 = .ok (.sipush 255, 3) := by decide +kernel
theorem dX12_give_24 : decode cX12_give 24 = .ok (.invokestatic 317, 3) := by decide +kernel
theorem dX12_give_27 : decode cX12_give 27 = .ok (.ifCond .ne 7, 3) := by decide +kernel
theorem dX12_give_30 : decode cX12_give 30 = .ok (.iconst 1, 1) := by decide +kernel
theorem dX12_give_31 : decode cX12_give 31 = .ok (.goto 4, 3) := by decide +kernel
theorem dX12_give_34 : decode cX12_give 34 = .ok (.iconst 0, 1) := by decide +kernel
theorem dX12_give_35 : decode cX12_give 35 = .ok (.iconst 2, 1) := by decide +kernel
theorem dX12_give_36 : decode cX12_give 36 = .ok (.invokevirtual 321, 3) := by decide +kernel
theorem dX12_give_39 : decode cX12_give 39 = .ok (.ifCond .ne 26, 3) := by decide +kernel
theorem dX12_give_42 : decode cX12_give 42 = .ok (.aload_n 0, 1) := by decide +kernel
theorem dX12_give_43 : decode cX12_give 43 = .ok (.aload_n 0, 1) := by decide +kernel
theorem dX12_give_44 : decode cX12_give 44 = .ok (.iload_n 1, 1) := by decide +kernel
theorem dX12_give_45 : decode cX12_give 45 = .ok (.iconst 0, 1) := by decide +kernel
theorem dX12_give_46 : decode cX12_give 46 = .ok (.invokevirtual 434, 3) := by decide +kernel
theorem dX12_give_49 : decode cX12_give 49 = .ok (.iconst 1, 1) := by decide +kernel
theorem dX12_give_50 : decode cX12_give 50 = .ok (.if_icmp .eq 7, 3) := by decide +kernel
theorem dX12_give_53 : decode cX12_give 53 = .ok (.iconst 1, 1) := by decide +kernel
theorem dX12_give_54 : decode cX12_give 54 = .ok (.goto 4, 3) := by decide +kernel
theorem dX12_give_57 : decode cX12_give 57 = .ok (.iconst 0, 1) := by decide +kernel
theorem dX12_give_58 : decode cX12_give 58 = .ok (.iconst 3, 1) := by decide +kernel
theorem dX12_give_59 : decode cX12_give 59 = .ok (.invokevirtual 321, 3) := by decide +kernel
theorem dX12_give_62 : decode cX12_give 62 = .ok (.ifCond .eq 5, 3) := by decide +kernel
theorem dX12_give_65 : decode cX12_give 65 = .ok (.iconst 0, 1) := by decide +kernel
theorem dX12_give_66 : decode cX12_give 66 = .ok (.ireturn, 1) := by decide +kernel
theorem dX12_give_67 : decode cX12_give 67 = .ok (.aload_n 0, 1) := by decide +kernel
theorem dX12_give_68 : decode cX12_give 68 = .ok (.getfield 124, 3) := by decide +kernel
theorem dX12_give_71 : decode cX12_give 71 = .ok (.iload_n 1, 1) := by decide +kernel
theorem dX12_give_72 : decode cX12_give 72 = .ok (.dup2, 1) := by decide +kernel
theorem dX12_give_73 : decode cX12_give 73 = .ok (.iaload, 1) := by decide +kernel
theorem dX12_give_74 : decode cX12_give 74 = .ok (.iload_n 2, 1) := by decide +kernel
theorem dX12_give_75 : decode cX12_give 75 = .ok (.ior, 1) := by decide +kernel
theorem dX12_give_76 : decode cX12_give 76 = .ok (.iastore, 1) := by decide +kernel
theorem dX12_give_77 : decode cX12_give 77 = .ok (.aload_n 0, 1) := by decide +kernel
theorem dX12_give_78 : decode cX12_give 78 = .ok (.iload_n 1, 1) := by decide +kernel
theorem dX12_give_79 : decode cX12_give 79 = .ok (.invokevirtual 437, 3) := by decide +kernel
theorem dX12_give_82 : decode cX12_give 82 = .ok (.ifCond .ne 10, 3) := by decide +kernel
theorem dX12_give_85 : decode cX12_give 85 = .ok (.aload_n 0, 1) := by decide +kernel
theorem dX12_give_86 : decode cX12_give 86 = .ok (.iload_n 1, 1) := by decide +kernel
theorem dX12_give_87 : decode cX12_give 87 = .ok (.iconst 0, 1) := by decide +kernel
theorem dX12_give_88 : decode cX12_give 88 = .ok (.iconst 0, 1) := by decide +kernel
theorem dX12_give_89 : decode cX12_give 89 = .ok (.invokevirtual 425, 3) := by decide +kernel
theorem dX12_give_92 : decode cX12_give 92 = .ok (.aload_n 0, 1) := by decide +kernel
theorem dX12_give_93 : decode cX12_give 93 = .ok (.iload_n 1, 1) := by decide +kernel
theorem dX12_give_94 : decode cX12_give 94 = .ok (.invokevirtual 437, 3) := by decide +kernel
theorem dX12_give_97 : decode cX12_give 97 = .ok (.ireturn, 1) := by decide +kernel
theorem dX12_checks_0 : decode cX12_checks 0 = .ok (.aload_n 0, 1) := by decide +kernel
theorem dX12_checks_1 : decode cX12_checks 1 = .ok (.getfield 112, 3) := by decide +kernel
theorem dX12_checks_4 : decode cX12_checks 4 = .ok (.iload_n 1, 1) := by decide +kernel
theorem dX12_checks_5 : decode cX12_checks 5 = .ok (.iaload, 1) := by decide +kernel
theorem dX12_checks_6 : decode cX12_checks 6 = .ok (.istore_n 2, 1) := by decide +kernel
theorem dX12_checks_7 : decode cX12_checks 7 = .ok (.iconst 0, 1) := by decide +kernel
theorem dX12_checks_8 : decode cX12_checks 8 = .ok (.istore_n 3, 1) := by decide +kernel
theorem dX12_checks_9 : decode cX12_checks 9 = .ok (.iconst 0, 1) := by decide +kernel
theorem dX12_checks_10 : decode cX12_checks 10 = .ok (.istore 4, 2) := by decide +kernel
theorem dX12_checks_12 : decode cX12_checks 12 = .ok (.iconst 0, 1) := by decide +kernel
theorem dX12_checks_13 : decode cX12_checks 13 = .ok (.istore 5, 2) := by decide +kernel
theorem dX12_checks_15 : decode cX12_checks 15 = .ok (.iload 5, 2) := by decide +kernel
theorem dX12_checks_17 : decode cX12_checks 17 = .ok (.aload_n 0, 1) := by decide +kernel
theorem dX12_checks_18 : decode cX12_checks 18 = .ok (.getfield 372, 3) := by decide +kernel
theorem dX12_checks_21 : decode cX12_checks 21 = .ok (.if_icmp .ge 85, 3) := by decide +kernel
theorem dX12_checks_24 : decode cX12_checks 24 = .ok (.iload 5, 2) := by decide +kernel
theorem dX12_checks_26 : decode cX12_checks 26 = .ok (.iload_n 2, 1) := by decide +kernel
theorem dX12_checks_27 : decode cX12_checks 27 = .ok (.if_icmp .eq 73, 3) := by decide +kernel
theorem dX12_checks_30 : decode cX12_checks 30 = .ok (.aload_n 0, 1) := by decide +kernel
theorem dX12_checks_31 : decode cX12_checks 31 = .ok (.iload_n 2, 1) := by decide +kernel
theorem dX12_checks_32 : decode cX12_checks 32 = .ok (.iload 5, 2) := by decide +kernel
theorem dX12_checks_34 : decode cX12_checks 34 = .ok (.invokevirtual 391, 3) := by decide +kernel
theorem dX12_checks_37 : decode cX12_checks 37 = .ok (.aload_n 0, 1) := by decide +kernel
theorem dX12_checks_38 : decode cX12_checks 38 = .ok (.getfield 79, 3) := by decide +kernel
theorem dX12_checks_41 : decode cX12_checks 41 = .ok (.if_icmp .le 6, 3) := by decide +kernel
theorem dX12_checks_44 : decode cX12_checks 44 = .ok (.goto 56, 3) := by decide +kernel
theorem dX12_checks_47 : decode cX12_checks 47 = .ok (.iload_n 3, 1) := by decide +kernel
theorem dX12_checks_48 : decode cX12_checks 48 = .ok (.ifCond .ne 19, 3) := by decide +kernel
theorem dX12_checks_51 : decode cX12_checks 51 = .ok (.aload_n 0, 1) := by decide +kernel
theorem dX12_checks_52 : decode cX12_checks 52 = .ok (.getfield 70, 3) := by decide +kernel
theorem dX12_checks_55 : decode cX12_checks 55 = .ok (.bipush 80, 2) := by decide +kernel
theorem dX12_checks_57 : decode cX12_checks 57 = .ok (.iload_n 2, 1) := by decide +kernel
theorem dX12_checks_58 : decode cX12_checks 58 = .ok (.imul, 1) := by decide +kernel
theorem dX12_checks_59 : decode cX12_checks 59 = .ok (.iload 5, 2) := by decide +kernel
theorem dX12_checks_61 : decode cX12_checks 61 = .ok (.iadd, 1) := by decide +kernel
theorem dX12_checks_62 : decode cX12_checks 62 = .ok (.iaload, 1) := by decide +kernel
theorem dX12_checks_63 : decode cX12_checks 63 = .ok (.iconst 2, 1) := by decide +kernel
theorem dX12_checks_64 : decode cX12_checks 64 = .ok (.if_icmp .ne 7, 3) := by decide +kernel
theorem dX12_checks_67 : decode cX12_checks 67 = .ok (.iconst 1, 1) := by decide +kernel
theorem dX12_checks_68 : decode cX12_checks 68 = .ok (.goto 4, 3) := by decide +kernel
theorem dX12_checks_71 : decode cX12_checks 71 = .ok (.iconst 0, 1) := by decide +kernel
theorem dX12_checks_72 : decode cX12_checks 72 = .ok (.istore_n 3, 1) := by decide +kernel
theorem dX12_checks_73 : decode cX12_checks 73 = .ok (.iload 4, 2) := by decide +kernel
theorem dX12_checks_75 : decode cX12_checks 75 = .ok (.ifCond .ne 18, 3) := by decide +kernel
theorem dX12_checks_78 : decode cX12_checks 78 = .ok (.aload_n 0, 1) := by decide +kernel
theorem dX12_checks_79 : decode cX12_checks 79 = .ok (.getfield 70, 3) := by decide +kernel
theorem dX12_checks_82 : decode cX12_checks 82 = .ok (.bipush 80, 2) := by decide +kernel
theorem dX12_checks_84 : decode cX12_checks 84 = .ok (.iload_n 2, 1) := by decide +kernel
theorem dX12_checks_85 : decode cX12_checks 85 = .ok (.imul, 1) := by decide +kernel
theorem dX12_checks_86 : decode cX12_checks 86 = .ok (.iload 5, 2) := by decide +kernel
theorem dX12_checks_88 : decode cX12_checks 88 = .ok (.iadd, 1) := by decide +kernel
theorem dX12_checks_89 : decode cX12_checks 89 = .ok (.iaload, 1) := by decide +kernel
theorem dX12_checks_90 : decode cX12_checks 90 = .ok (.ifCond .ne 7, 3) := by decide +kernel
theorem dX12_checks_93 : decode cX12_checks 93 = .ok (.iconst 1, 1) := by decide +kernel
theorem dX12_checks_94 : decode cX12_checks 94 = .ok (.goto 4, 3) := by decide +kernel
theorem dX12_checks_97 : decode cX12_checks 97 = .ok (.iconst 0, 1) := by decide +kernel
theorem dX12_checks_98 : decode cX12_checks 98 = .ok (.istore 4, 2) := by decide +kernel
theorem dX12_checks_100 : decode cX12_checks 100 = .ok (.iinc 5 1, 3) := by decide +kernel
theorem dX12_checks_103 : decode cX12_checks 103 = .ok (.goto (-88), 3) := by decide +kernel
theorem dX12_checks_106 : decode cX12_checks 106 = .ok (.aload_n 0, 1) := by decide +kernel
theorem dX12_checks_107 : decode cX12_checks 107 = .ok (.iload_n 1, 1) := by decide +kernel
theorem dX12_checks_108 : decode cX12_checks 108 = .ok (.iconst 0, 1) := by decide +kernel
theorem dX12_checks_109 : decode cX12_checks 109 = .ok (.iload_n 3, 1) := by decide +kernel
theorem dX12_checks_110 : decode cX12_checks 110 = .ok (.ifCond .eq 8, 3) := by decide +kernel
theorem dX12_checks_113 : decode cX12_checks 113 = .ok (.bipush 9, 2) := by decide +kernel
theorem dX12_checks_115 : decode cX12_checks 115 = .ok (.goto 39, 3) := by decide +kernel
theorem dX12_checks_118 : decode cX12_checks 118 = .ok (.iload 4, 2) := by decide +kernel
theorem dX12_checks_120 : decode cX12_checks 120 = .ok (.ifCond .eq 7, 3) := by decide +kernel
theorem dX12_checks_123 : decode cX12_checks 123 = .ok (.iconst 3, 1) := by decide +kernel
theorem dX12_checks_124 : decode cX12_checks 124 = .ok (.goto 30, 3) := by decide +kernel
theorem dX12_checks_127 : decode cX12_checks 127 = .ok (.aload_n 0, 1) := by decide +kernel
theorem dX12_checks_128 : decode cX12_checks 128 = .ok (.getfield 142, 3) := by decide +kernel
theorem dX12_checks_131 : decode cX12_checks 131 = .ok (.iload_n 1, 1) := by decide +kernel
theorem dX12_checks_132 : decode cX12_checks 132 = .ok (.baload, 1) := by decide +kernel
theorem dX12_checks_133 : decode cX12_checks 133 = .ok (.ifCond .ne 16, 3) := by decide +kernel
theorem dX12_checks_136 : decode cX12_checks 136 = .ok (.aload_n 0, 1) := by decide +kernel
theorem dX12_checks_137 : decode cX12_checks 137 = .ok (.getfield 139, 3) := by decide +kernel
theorem dX12_checks_140 : decode cX12_checks 140 = .ok (.iload_n 1, 1) := by decide +kernel
theorem dX12_checks_141 : decode cX12_checks 141 = .ok (.iaload, 1) := by decide +kernel
theorem dX12_checks_142 : decode cX12_checks 142 = .ok (.aload_n 0, 1) := by decide +kernel
theorem dX12_checks_143 : decode cX12_checks 143 = .ok (.getfield 82, 3) := by decide +kernel
theorem dX12_checks_146 : decode cX12_checks 146 = .ok (.if_icmp .le 7, 3) := by decide +kernel
theorem dX12_checks_149 : decode cX12_checks 149 = .ok (.iconst 4, 1) := by decide +kernel
theorem dX12_checks_150 : decode cX12_checks 150 = .ok (.goto 4, 3) := by decide +kernel
theorem dX12_checks_153 : decode cX12_checks 153 = .ok (.iconst 5, 1) := by decide +kernel
theorem dX12_checks_154 : decode cX12_checks 154 = .ok (.invokevirtual 425, 3) := by decide +kernel
theorem dX12_checks_157 : decode cX12_checks 157 = .ok (.return_, 1) := by decide +kernel
theorem dX12_tell_0 : decode cX12_tell 0 = .ok (.aload_n 0, 1) := by decide +kernel
theorem dX12_tell_1 : decode cX12_tell 1 = .ok (.iconst 0, 1) := by decide +kernel
theorem dX12_tell_2 : decode cX12_tell 2 = .ok (.putfield 178, 3) := by decide +kernel
theorem dX12_tell_5 : decode cX12_tell 5 = .ok (.aload_n 0, 1) := by decide +kernel
theorem dX12_tell_6 : decode cX12_tell 6 = .ok (.aload_n 0, 1) := by decide +kernel
theorem dX12_tell_7 : decode cX12_tell 7 = .ok (.iload_n 1, 1) := by decide +kernel
theorem dX12_tell_8 : decode cX12_tell 8 = .ok (.invokevirtual 385, 3) := by decide +kernel
theorem dX12_tell_11 : decode cX12_tell 11 = .ok (.ifCond .ne 11, 3) := by decide +kernel
theorem dX12_tell_14 : decode cX12_tell 14 = .ok (.aload_n 0, 1) := by decide +kernel
theorem dX12_tell_15 : decode cX12_tell 15 = .ok (.iload_n 2, 1) := by decide +kernel
theorem dX12_tell_16 : decode cX12_tell 16 = .ok (.invokevirtual 385, 3) := by decide +kernel
theorem dX12_tell_19 : decode cX12_tell 19 = .ok (.ifCond .eq 7, 3) := by decide +kernel
theorem dX12_tell_22 : decode cX12_tell 22 = .ok (.iconst 1, 1) := by decide +kernel
theorem dX12_tell_23 : decode cX12_tell 23 = .ok (.goto 4, 3) := by decide +kernel
theorem dX12_tell_26 : decode cX12_tell 26 = .ok (.iconst 0, 1) := by decide +kernel
theorem dX12_tell_27 : decode cX12_tell 27 = .ok (.iconst 1, 1) := by decide +kernel
theorem dX12_tell_28 : decode cX12_tell 28 = .ok (.invokevirtual 321, 3) := by decide +kernel
theorem dX12_tell_31 : decode cX12_tell 31 = .ok (.ifCond .ne 21, 3) := by decide +kernel
theorem dX12_tell_34 : decode cX12_tell 34 = .ok (.aload_n 0, 1) := by decide +kernel
theorem dX12_tell_35 : decode cX12_tell 35 = .ok (.iload_n 1, 1) := by decide +kernel
theorem dX12_tell_36 : decode cX12_tell 36 = .ok (.iload_n 2, 1) := by decide +kernel
theorem dX12_tell_37 : decode cX12_tell 37 = .ok (.if_icmp .ne 7, 3) := by decide +kernel
theorem dX12_tell_40 : decode cX12_tell 40 = .ok (.iconst 1, 1) := by decide +kernel
theorem dX12_tell_41 : decode cX12_tell 41 = .ok (.goto 4, 3) := by decide +kernel
theorem dX12_tell_44 : decode cX12_tell 44 = .ok (.iconst 0, 1) := by decide +kernel
theorem dX12_tell_45 : decode cX12_tell 45 = .ok (.iconst 2, 1) := by decide +kernel
theorem dX12_tell_46 : decode cX12_tell 46 = .ok (.invokevirtual 321, 3) := by decide +kernel
theorem dX12_tell_49 : decode cX12_tell 49 = .ok (.ifCond .eq 5, 3) := by decide +kernel
theorem dX12_tell_52 : decode cX12_tell 52 = .ok (.iconst 0, 1) := by decide +kernel
theorem dX12_tell_53 : decode cX12_tell 53 = .ok (.ireturn, 1) := by decide +kernel
theorem dX12_tell_54 : decode cX12_tell 54 = .ok (.aload_n 0, 1) := by decide +kernel
theorem dX12_tell_55 : decode cX12_tell 55 = .ok (.getfield 70, 3) := by decide +kernel
theorem dX12_tell_58 : decode cX12_tell 58 = .ok (.bipush 80, 2) := by decide +kernel
theorem dX12_tell_60 : decode cX12_tell 60 = .ok (.iload_n 1, 1) := by decide +kernel
theorem dX12_tell_61 : decode cX12_tell 61 = .ok (.imul, 1) := by decide +kernel
theorem dX12_tell_62 : decode cX12_tell 62 = .ok (.iload_n 2, 1) := by decide +kernel
theorem dX12_tell_63 : decode cX12_tell 63 = .ok (.iadd, 1) := by decide +kernel
theorem dX12_tell_64 : decode cX12_tell 64 = .ok (.iload_n 3, 1) := by decide +kernel
theorem dX12_tell_65 : decode cX12_tell 65 = .ok (.ifCond .eq 7, 3) := by decide +kernel
theorem dX12_tell_68 : decode cX12_tell 68 = .ok (.iconst 2, 1) := by decide +kernel
theorem dX12_tell_69 : decode cX12_tell 69 = .ok (.goto 4, 3) := by decide +kernel
theorem dX12_tell_72 : decode cX12_tell 72 = .ok (.iconst 1, 1) := by decide +kernel
theorem dX12_tell_73 : decode cX12_tell 73 = .ok (.iastore, 1) := by decide +kernel
theorem dX12_tell_74 : decode cX12_tell 74 = .ok (.aload_n 0, 1) := by decide +kernel
theorem dX12_tell_75 : decode cX12_tell 75 = .ok (.getfield 70, 3) := by decide +kernel
theorem dX12_tell_78 : decode cX12_tell 78 = .ok (.bipush 80, 2) := by decide +kernel
theorem dX12_tell_80 : decode cX12_tell 80 = .ok (.iload_n 2, 1) := by decide +kernel
theorem dX12_tell_81 : decode cX12_tell 81 = .ok (.imul, 1) := by decide +kernel
theorem dX12_tell_82 : decode cX12_tell 82 = .ok (.iload_n 1, 1) := by decide +kernel
theorem dX12_tell_83 : decode cX12_tell 83 = .ok (.iadd, 1) := by decide +kernel
theorem dX12_tell_84 : decode cX12_tell 84 = .ok (.iload_n 3, 1) := by decide +kernel
theorem dX12_tell_85 : decode cX12_tell 85 = .ok (.ifCond .eq 7, 3) := by decide +kernel
theorem dX12_tell_88 : decode cX12_tell 88 = .ok (.iconst 2, 1) := by decide +kernel
theorem dX12_tell_89 : decode cX12_tell 89 = .ok (.goto 4, 3) := by decide +kernel
theorem dX12_tell_92 : decode cX12_tell 92 = .ok (.iconst 1, 1) := by decide +kernel
theorem dX12_tell_93 : decode cX12_tell 93 = .ok (.iastore, 1) := by decide +kernel
theorem dX12_tell_94 : decode cX12_tell 94 = .ok (.iconst 0, 1) := by decide +kernel
theorem dX12_tell_95 : decode cX12_tell 95 = .ok (.istore 4, 2) := by decide +kernel
theorem dX12_tell_97 : decode cX12_tell 97 = .ok (.iconst 0, 1) := by decide +kernel
theorem dX12_tell_98 : decode cX12_tell 98 = .ok (.istore 5, 2) := by decide +kernel
theorem dX12_tell_100 : decode cX12_tell 100 = .ok (.iload 5, 2) := by decide +kernel
theorem dX12_tell_102 : decode cX12_tell 102 = .ok (.aload_n 0, 1) := by decide +kernel
theorem dX12_tell_103 : decode cX12_tell 103 = .ok (.getfield 412, 3) := by decide +kernel
theorem dX12_tell_106 : decode cX12_tell 106 = .ok (.if_icmp .ge 50, 3) := by decide +kernel
theorem dX12_tell_109 : decode cX12_tell 109 = .ok (.aload_n 0, 1) := by decide +kernel
theorem dX12_tell_110 : decode cX12_tell 110 = .ok (.iload 5, 2) := by decide +kernel
theorem dX12_tell_112 : decode cX12_tell 112 = .ok (.iconst 0, 1) := by decide +kernel
theorem dX12_tell_113 : decode cX12_tell 113 = .ok (.invokevirtual 434, 3) := by decide +kernel
theorem dX12_tell_116 : decode cX12_tell 116 = .ok (.iconst 3, 1) := by decide +kernel
theorem dX12_tell_117 : decode cX12_tell 117 = .ok (.if_icmp .eq 6, 3) := by decide +kernel
theorem dX12_tell_120 : decode cX12_tell 120 = .ok (.goto 30, 3) := by decide +kernel
theorem dX12_tell_123 : decode cX12_tell 123 = .ok (.aload_n 0, 1) := by decide +kernel
theorem dX12_tell_124 : decode cX12_tell 124 = .ok (.iload 5, 2) := by decide +kernel
theorem dX12_tell_126 : decode cX12_tell 126 = .ok (.invokevirtual 440, 3) := by decide +kernel
theorem dX12_tell_129 : decode cX12_tell 129 = .ok (.iload 4, 2) := by decide +kernel
theorem dX12_tell_131 : decode cX12_tell 131 = .ok (.aload_n 0, 1) := by decide +kernel
theorem dX12_tell_132 : decode cX12_tell 132 = .ok (.iload 5, 2) := by decide +kernel
theorem dX12_tell_134 : decode cX12_tell 134 = .ok (.iconst 0, 1) := by decide +kernel
theorem dX12_tell_135 : decode cX12_tell 135 = .ok (.invokevirtual 434, 3) := by decide +kernel
theorem dX12_tell_138 : decode cX12_tell 138 = .ok (.iconst 3, 1) := by decide +kernel
theorem dX12_tell_139 : decode cX12_tell 139 = .ok (.if_icmp .eq 7, 3) := by decide +kernel
theorem dX12_tell_142 : decode cX12_tell 142 = .ok (.iconst 1, 1) := by decide +kernel
theorem dX12_tell_143 : decode cX12_tell 143 = .ok (.goto 4, 3) := by decide +kernel
theorem dX12_tell_146 : decode cX12_tell 146 = .ok (.iconst 0, 1) := by decide +kernel
theorem dX12_tell_147 : decode cX12_tell 147 = .ok (.iadd, 1) := by decide +kernel
theorem dX12_tell_148 : decode cX12_tell 148 = .ok (.istore 4, 2) := by decide +kernel
theorem dX12_tell_150 : decode cX12_tell 150 = .ok (.iinc 5 1, 3) := by decide +kernel
theorem dX12_tell_153 : decode cX12_tell 153 = .ok (.goto (-53), 3) := by decide +kernel
theorem dX12_tell_156 : decode cX12_tell 156 = .ok (.iload 4, 2) := by decide +kernel
theorem dX12_tell_158 : decode cX12_tell 158 = .ok (.ireturn, 1) := by decide +kernel
theorem dX12_stateAt_0 : decode cX12_stateAt 0 = .ok (.iload_n 0, 1) := by decide +kernel
theorem dX12_stateAt_1 : decode cX12_stateAt 1 = .ok (.ifCond .ne 7, 3) := by decide +kernel
theorem dX12_stateAt_4 : decode cX12_stateAt 4 = .ok (.iconst 0, 1) := by decide +kernel
theorem dX12_stateAt_5 : decode cX12_stateAt 5 = .ok (.goto 22, 3) := by decide +kernel
theorem dX12_stateAt_8 : decode cX12_stateAt 8 = .ok (.iload_n 0, 1) := by decide +kernel
theorem dX12_stateAt_9 : decode cX12_stateAt 9 = .ok (.iconst 1, 1) := by decide +kernel
theorem dX12_stateAt_10 : decode cX12_stateAt 10 = .ok (.if_icmp .ne 7, 3) := by decide +kernel
theorem dX12_stateAt_13 : decode cX12_stateAt 13 = .ok (.iconst 2, 1) := by decide +kernel
theorem dX12_stateAt_14 : decode cX12_stateAt 14 = .ok (.goto 13, 3) := by decide +kernel
theorem dX12_stateAt_17 : decode cX12_stateAt 17 = .ok (.iload_n 0, 1) := by decide +kernel
theorem dX12_stateAt_18 : decode cX12_stateAt 18 = .ok (.iconst 2, 1) := by decide +kernel
theorem dX12_stateAt_19 : decode cX12_stateAt 19 = .ok (.if_icmp .ne 7, 3) := by decide +kernel
theorem dX12_stateAt_22 : decode cX12_stateAt 22 = .ok (.iconst 4, 1) := by decide +kernel
theorem dX12_stateAt_23 : decode cX12_stateAt 23 = .ok (.goto 4, 3) := by decide +kernel
theorem dX12_stateAt_26 : decode cX12_stateAt 26 = .ok (.iconst 5, 1) := by decide +kernel
theorem dX12_stateAt_27 : decode cX12_stateAt 27 = .ok (.ireturn, 1) := by decide +kernel
theorem dX12_hasTicket_0 : decode cX12_hasTicket 0 = .ok (.aload_n 0, 1) := by decide +kernel
theorem dX12_hasTicket_1 : decode cX12_hasTicket 1 = .ok (.getfield 124, 3) := by decide +kernel
theorem dX12_hasTicket_4 : decode cX12_hasTicket 4 = .ok (.iload_n 1, 1) := by decide +kernel
theorem dX12_hasTicket_5 : decode cX12_hasTicket 5 = .ok (.iaload, 1) := by decide +kernel
theorem dX12_hasTicket_6 : decode cX12_hasTicket 6 = .ok (.bipush 6, 2) := by decide +kernel
theorem dX12_hasTicket_8 : decode cX12_hasTicket 8 = .ok (.ishr, 1) := by decide +kernel
theorem dX12_hasTicket_9 : decode cX12_hasTicket 9 = .ok (.iconst 1, 1) := by decide +kernel
theorem dX12_hasTicket_10 : decode cX12_hasTicket 10 = .ok (.iand, 1) := by decide +kernel
theorem dX12_hasTicket_11 : decode cX12_hasTicket 11 = .ok (.iconst 1, 1) := by decide +kernel
theorem dX12_hasTicket_12 : decode cX12_hasTicket 12 = .ok (.if_icmp .ne 7, 3) := by decide +kernel
theorem dX12_hasTicket_15 : decode cX12_hasTicket 15 = .ok (.iconst 1, 1) := by decide +kernel
theorem dX12_hasTicket_16 : decode cX12_hasTicket 16 = .ok (.goto 4, 3) := by decide +kernel
theorem dX12_hasTicket_19 : decode cX12_hasTicket 19 = .ok (.iconst 0, 1) := by decide +kernel
theorem dX12_hasTicket_20 : decode cX12_hasTicket 20 = .ok (.ireturn, 1) := by decide +kernel
theorem dX12_isAhead_0 : decode cX12_isAhead 0 = .ok (.aload_n 0, 1) := by decide +kernel
theorem dX12_isAhead_1 : decode cX12_isAhead 1 = .ok (.getfield 127, 3) := by decide +kernel
theorem dX12_isAhead_4 : decode cX12_isAhead 4 = .ok (.iload_n 1, 1) := by decide +kernel
theorem dX12_isAhead_5 : decode cX12_isAhead 5 = .ok (.baload, 1) := by decide +kernel
theorem dX12_isAhead_6 : decode cX12_isAhead 6 = .ok (.aload_n 0, 1) := by decide +kernel
theorem dX12_isAhead_7 : decode cX12_isAhead 7 = .ok (.getfield 127, 3) := by decide +kernel
theorem dX12_isAhead_10 : decode cX12_isAhead 10 = .ok (.iload_n 2, 1) := by decide +kernel
theorem dX12_isAhead_11 : decode cX12_isAhead 11 = .ok (.baload, 1) := by decide +kernel
theorem dX12_isAhead_12 : decode cX12_isAhead 12 = .ok (.if_icmp .eq 10, 3) := by decide +kernel
theorem dX12_isAhead_15 : decode cX12_isAhead 15 = .ok (.aload_n 0, 1) := by decide +kernel
theorem dX12_isAhead_16 : decode cX12_isAhead 16 = .ok (.getfield 127, 3) := by decide +kernel
theorem dX12_isAhead_19 : decode cX12_isAhead 19 = .ok (.iload_n 1, 1) := by decide +kernel
theorem dX12_isAhead_20 : decode cX12_isAhead 20 = .ok (.baload, 1) := by decide +kernel
theorem dX12_isAhead_21 : decode cX12_isAhead 21 = .ok (.ireturn, 1) := by decide +kernel
theorem dX12_isAhead_22 : decode cX12_isAhead 22 = .ok (.iload_n 3, 1) := by decide +kernel
theorem dX12_isAhead_23 : decode cX12_isAhead 23 = .ok (.ifCond .ne 39, 3) := by decide +kernel
theorem dX12_isAhead_26 : decode cX12_isAhead 26 = .ok (.aload_n 0, 1) := by decide +kernel
theorem dX12_isAhead_27 : decode cX12_isAhead 27 = .ok (.getfield 118, 3) := by decide +kernel
theorem dX12_isAhead_30 : decode cX12_isAhead 30 = .ok (.iload_n 1, 1) := by decide +kernel
theorem dX12_isAhead_31 : decode cX12_isAhead 31 = .ok (.iaload, 1) := by decide +kernel
theorem dX12_isAhead_32 : decode cX12_isAhead 32 = .ok (.aload_n 0, 1) := by decide +kernel
theorem dX12_isAhead_33 : decode cX12_isAhead 33 = .ok (.getfield 118, 3) := by decide +kernel
theorem dX12_isAhead_36 : decode cX12_isAhead 36 = .ok (.iload_n 2, 1) := by decide +kernel
theorem dX12_isAhead_37 : decode cX12_isAhead 37 = .ok (.iaload, 1) := by decide +kernel
theorem dX12_isAhead_38 : decode cX12_isAhead 38 = .ok (.if_icmp .eq 24, 3) := by decide +kernel
theorem dX12_isAhead_41 : decode cX12_isAhead 41 = .ok (.aload_n 0, 1) := by decide +kernel
theorem dX12_isAhead_42 : decode cX12_isAhead 42 = .ok (.getfield 118, 3) := by decide +kernel
theorem dX12_isAhead_45 : decode cX12_isAhead 45 = .ok (.iload_n 1, 1) := by decide +kernel
theorem dX12_isAhead_46 : decode cX12_isAhead 46 = .ok (.iaload, 1) := by decide +kernel
theorem dX12_isAhead_47 : decode cX12_isAhead 47 = .ok (.aload_n 0, 1) := by decide +kernel
theorem dX12_isAhead_48 : decode cX12_isAhead 48 = .ok (.getfield 118, 3) := by decide +kernel
theorem dX12_isAhead_51 : decode cX12_isAhead 51 = .ok (.iload_n 2, 1) := by decide +kernel
theorem dX12_isAhead_52 : decode cX12_isAhead 52 = .ok (.iaload, 1) := by decide +kernel
theorem dX12_isAhead_53 : decode cX12_isAhead 53 = .ok (.if_icmp .ge 7, 3) := by decide +kernel
theorem dX12_isAhead_56 : decode cX12_isAhead 56 = .ok (.iconst 1, 1) := by decide +kernel
theorem dX12_isAhead_57 : decode cX12_isAhead 57 = .ok (.goto 4, 3) := by decide +kernel
theorem dX12_isAhead_60 : decode cX12_isAhead 60 = .ok (.iconst 0, 1) := by decide +kernel
theorem dX12_isAhead_61 : decode cX12_isAhead 61 = .ok (.ireturn, 1) := by decide +kernel
theorem dX12_isAhead_62 : decode cX12_isAhead 62 = .ok (.iload_n 3, 1) := by decide +kernel
theorem dX12_isAhead_63 : decode cX12_isAhead 63 = .ok (.iconst 2, 1) := by decide +kernel
theorem dX12_isAhead_64 : decode cX12_isAhead 64 = .ok (.if_icmp .ne 22, 3) := by decide +kernel
theorem dX12_isAhead_67 : decode cX12_isAhead 67 = .ok (.aload_n 0, 1) := by decide +kernel
theorem dX12_isAhead_68 : decode cX12_isAhead 68 = .ok (.iload_n 1, 1) := by decide +kernel
theorem dX12_isAhead_69 : decode cX12_isAhead 69 = .ok (.invokevirtual 444, 3) := by decide +kernel
theorem dX12_isAhead_72 : decode cX12_isAhead 72 = .ok (.aload_n 0, 1) := by decide +kernel
theorem dX12_isAhead_73 : decode cX12_isAhead 73 = .ok (.iload_n 2, 1) := by decide +kernel
theorem dX12_isAhead_74 : decode cX12_isAhead 74 = .ok (.invokevirtual 444, 3) := by decide +kernel
theorem dX12_isAhead_77 : decode cX12_isAhead 77 = .ok (.if_icmp .eq 9, 3) := by decide +kernel
theorem dX12_isAhead_80 : decode cX12_isAhead 80 = .ok (.aload_n 0, 1) := by decide +kernel
theorem dX12_isAhead_81 : decode cX12_isAhead 81 = .ok (.iload_n 1, 1) := by decide +kernel
theorem dX12_isAhead_82 : decode cX12_isAhead 82 = .ok (.invokevirtual 444, 3) := by decide +kernel
theorem dX12_isAhead_85 : decode cX12_isAhead 85 = .ok (.ireturn, 1) := by decide +kernel
theorem dX12_isAhead_86 : decode cX12_isAhead 86 = .ok (.iload_n 3, 1) := by decide +kernel
theorem dX12_isAhead_87 : decode cX12_isAhead 87 = .ok (.ifCond .le 39, 3) := by decide +kernel
theorem dX12_isAhead_90 : decode cX12_isAhead 90 = .ok (.aload_n 0, 1) := by decide +kernel
theorem dX12_isAhead_91 : decode cX12_isAhead 91 = .ok (.getfield 121, 3) := by decide +kernel
theorem dX12_isAhead_94 : decode cX12_isAhead 94 = .ok (.iload_n 1, 1) := by decide +kernel
theorem dX12_isAhead_95 : decode cX12_isAhead 95 = .ok (.iaload, 1) := by decide +kernel
theorem dX12_isAhead_96 : decode cX12_isAhead 96 = .ok (.aload_n 0, 1) := by decide +kernel
theorem dX12_isAhead_97 : decode cX12_isAhead 97 = .ok (.getfield 121, 3) := by decide +kernel
theorem dX12_isAhead_100 : decode cX12_isAhead 100 = .ok (.iload_n 2, 1) := by decide +kernel
theorem dX12_isAhead_101 : decode cX12_isAhead 101 = .ok (.iaload, 1) := by decide +kernel
theorem dX12_isAhead_102 : decode cX12_isAhead 102 = .ok (.if_icmp .eq 24, 3) := by decide +kernel
theorem dX12_isAhead_105 : decode cX12_isAhead 105 = .ok (.aload_n 0, 1) := by decide +kernel
theorem dX12_isAhead_106 : decode cX12_isAhead 106 = .ok (.getfield 121, 3) := by decide +kernel
theorem dX12_isAhead_109 : decode cX12_isAhead 109 = .ok (.iload_n 1, 1) := by decide +kernel
theorem dX12_isAhead_110 : decode cX12_isAhead 110 = .ok (.iaload, 1) := by decide +kernel
theorem dX12_isAhead_111 : decode cX12_isAhead 111 = .ok (.aload_n 0, 1) := by decide +kernel
theorem dX12_isAhead_112 : decode cX12_isAhead 112 = .ok (.getfield 121, 3) := by decide +kernel
theorem dX12_isAhead_115 : decode cX12_isAhead 115 = .ok (.iload_n 2, 1) := by decide +kernel
theorem dX12_isAhead_116 : decode cX12_isAhead 116 = .ok (.iaload, 1) := by decide +kernel
theorem dX12_isAhead_117 : decode cX12_isAhead 117 = .ok (.if_icmp .ge 7, 3) := by decide +kernel
theorem dX12_isAhead_120 : decode cX12_isAhead 120 = .ok (.iconst 1, 1) := by decide +kernel
theorem dX12_isAhead_121 : decode cX12_isAhead 121 = .ok (.goto 4, 3) := by decide +kernel
theorem dX12_isAhead_124 : decode cX12_isAhead 124 = .ok (.iconst 0, 1) := by decide +kernel
theorem dX12_isAhead_125 : decode cX12_isAhead 125 = .ok (.ireturn, 1) := by decide +kernel
theorem dX12_isAhead_126 : decode cX12_isAhead 126 = .ok (.iload_n 1, 1) := by decide +kernel
theorem dX12_isAhead_127 : decode cX12_isAhead 127 = .ok (.iload_n 2, 1) := by decide +kernel
theorem dX12_isAhead_128 : decode cX12_isAhead 128 = .ok (.if_icmp .ge 7, 3) := by decide +kernel
theorem dX12_isAhead_131 : decode cX12_isAhead 131 = .ok (.iconst 1, 1) := by decide +kernel
theorem dX12_isAhead_132 : decode cX12_isAhead 132 = .ok (.goto 4, 3) := by decide +kernel
theorem dX12_isAhead_135 : decode cX12_isAhead 135 = .ok (.iconst 0, 1) := by decide +kernel
theorem dX12_isAhead_136 : decode cX12_isAhead 136 = .ok (.ireturn, 1) := by decide +kernel
theorem dX12_lines_0 : decode cX12_lines 0 = .ok (.aload_n 0, 1) := by decide +kernel
theorem dX12_lines_1 : decode cX12_lines 1 = .ok (.iconst 0, 1) := by decide +kernel
theorem dX12_lines_2 : decode cX12_lines 2 = .ok (.putfield 447, 3) := by decide +kernel
theorem dX12_lines_5 : decode cX12_lines 5 = .ok (.iconst 0, 1) := by decide +kernel
theorem dX12_lines_6 : decode cX12_lines 6 = .ok (.istore_n 3, 1) := by decide +kernel
theorem dX12_lines_7 : decode cX12_lines 7 = .ok (.iload_n 3, 1) := by decide +kernel
theorem dX12_lines_8 : decode cX12_lines 8 = .ok (.aload_n 0, 1) := by decide +kernel
theorem dX12_lines_9 : decode cX12_lines 9 = .ok (.getfield 412, 3) := by decide +kernel
theorem dX12_lines_12 : decode cX12_lines 12 = .ok (.if_icmp .ge 94, 3) := by decide +kernel
theorem dX12_lines_15 : decode cX12_lines 15 = .ok (.aload_n 0, 1) := by decide +kernel
theorem dX12_lines_16 : decode cX12_lines 16 = .ok (.iload_n 3, 1) := by decide +kernel
theorem dX12_lines_17 : decode cX12_lines 17 = .ok (.iconst 0, 1) := by decide +kernel
theorem dX12_lines_18 : decode cX12_lines 18 = .ok (.invokevirtual 434, 3) := by decide +kernel
theorem dX12_lines_21 : decode cX12_lines 21 = .ok (.iload_n 1, 1) := by decide +kernel
theorem dX12_lines_22 : decode cX12_lines 22 = .ok (.invokestatic 450, 3) := by decide +kernel
theorem dX12_lines_25 : decode cX12_lines 25 = .ok (.if_icmp .eq 6, 3) := by decide +kernel
theorem dX12_lines_28 : decode cX12_lines 28 = .ok (.goto 72, 3) := by decide +kernel
theorem dX12_lines_31 : decode cX12_lines 31 = .ok (.aload_n 0, 1) := by decide +kernel
theorem dX12_lines_32 : decode cX12_lines 32 = .ok (.getfield 447, 3) := by decide +kernel
theorem dX12_lines_35 : decode cX12_lines 35 = .ok (.istore 4, 2) := by decide +kernel
theorem dX12_lines_37 : decode cX12_lines 37 = .ok (.iload 4, 2) := by decide +kernel
theorem dX12_lines_39 : decode cX12_lines 39 = .ok (.ifCond .le 43, 3) := by decide +kernel
theorem dX12_lines_42 : decode cX12_lines 42 = .ok (.aload_n 0, 1) := by decide +kernel
theorem dX12_lines_43 : decode cX12_lines 43 = .ok (.iload_n 3, 1) := by decide +kernel
theorem dX12_lines_44 : decode cX12_lines 44 = .ok (.aload_n 0, 1) := by decide +kernel
theorem dX12_lines_45 : decode cX12_lines 45 = .ok (.getfield 163, 3) := by decide +kernel
theorem dX12_lines_48 : decode cX12_lines 48 = .ok (.iload 4, 2) := by decide +kernel
theorem dX12_lines_50 : decode cX12_lines 50 = .ok (.iconst 1, 1) := by decide +kernel
theorem dX12_lines_51 : decode cX12_lines 51 = .ok (.isub, 1) := by decide +kernel
theorem dX12_lines_52 : decode cX12_lines 52 = .ok (.iaload, 1) := by decide +kernel
theorem dX12_lines_53 : decode cX12_lines 53 = .ok (.iload_n 2, 1) := by decide +kernel
theorem dX12_lines_54 : decode cX12_lines 54 = .ok (.invokevirtual 453, 3) := by decide +kernel
theorem dX12_lines_57 : decode cX12_lines 57 = .ok (.ifCond .eq 25, 3) := by decide +kernel
theorem dX12_lines_60 : decode cX12_lines 60 = .ok (.aload_n 0, 1) := by decide +kernel
theorem dX12_lines_61 : decode cX12_lines 61 = .ok (.getfield 163, 3) := by decide +kernel
theorem dX12_lines_64 : decode cX12_lines 64 = .ok (.iload 4, 2) := by decide +kernel
theorem dX12_lines_66 : decode cX12_lines 66 = .ok (.aload_n 0, 1) := by decide +kernel
theorem dX12_lines_67 : decode cX12_lines 67 = .ok (.getfield 163, 3) := by decide +kernel
theorem dX12_lines_70 : decode cX12_lines 70 = .ok (.iload 4, 2) := by decide +kernel
theorem dX12_lines_72 : decode cX12_lines 72 = .ok (.iconst 1, 1) := by decide +kernel
theorem dX12_lines_73 : decode cX12_lines 73 = .ok (.isub, 1) := by decide +kernel
theorem dX12_lines_74 : decode cX12_lines 74 = .ok (.iaload, 1) := by decide +kernel
theorem dX12_lines_75 : decode cX12_lines 75 = .ok (.iastore, 1) := by decide +kernel
theorem dX12_lines_76 : decode cX12_lines 76 = .ok (.iinc 4 (-1), 3) := by decide +kernel
theorem dX12_lines_79 : decode cX12_lines 79 = .ok (.goto (-42), 3) := by decide +kernel
theorem dX12_lines_82 : decode cX12_lines 82 = .ok (.aload_n 0, 1) := by decide +kernel
theorem dX12_lines_83 : decode cX12_lines 83 = .ok (.getfield 163, 3) := by decide +kernel
theorem dX12_lines_86 : decode cX12_lines 86 = .ok (.iload 4, 2) := by decide +kernel
theorem dX12_lines_88 : decode cX12_lines 88 = .ok (.iload_n 3, 1) := by decide +kernel
theorem dX12_lines_89 : decode cX12_lines 89 = .ok (.iastore, 1) := by decide +kernel
theorem dX12_lines_90 : decode cX12_lines 90 = .ok (.aload_n 0, 1) := by decide +kernel
theorem dX12_lines_91 : decode cX12_lines 91 = .ok (.dup, 1) := by decide +kernel
theorem dX12_lines_92 : decode cX12_lines 92 = .ok (.getfield 447, 3) := by decide +kernel
theorem dX12_lines_95 : decode cX12_lines 95 = .ok (.iconst 1, 1) := by decide +kernel
theorem dX12_lines_96 : decode cX12_lines 96 = .ok (.iadd, 1) := by decide +kernel
theorem dX12_lines_97 : decode cX12_lines 97 = .ok (.putfield 447, 3) := by decide +kernel
theorem dX12_lines_100 : decode cX12_lines 100 = .ok (.iinc 3 1, 3) := by decide +kernel
theorem dX12_lines_103 : decode cX12_lines 103 = .ok (.goto (-96), 3) := by decide +kernel
theorem dX12_lines_106 : decode cX12_lines 106 = .ok (.return_, 1) := by decide +kernel
theorem dX12_takes_0 : decode cX12_takes 0 = .ok (.iload_n 1, 1) := by decide +kernel
theorem dX12_takes_1 : decode cX12_takes 1 = .ok (.ifCond .ne 20, 3) := by decide +kernel
theorem dX12_takes_4 : decode cX12_takes 4 = .ok (.aload_n 0, 1) := by decide +kernel
theorem dX12_takes_5 : decode cX12_takes 5 = .ok (.iload_n 2, 1) := by decide +kernel
theorem dX12_takes_6 : decode cX12_takes 6 = .ok (.iconst 2, 1) := by decide +kernel
theorem dX12_takes_7 : decode cX12_takes 7 = .ok (.invokevirtual 434, 3) := by decide +kernel
theorem dX12_takes_10 : decode cX12_takes 10 = .ok (.ifCond .ge 7, 3) := by decide +kernel
theorem dX12_takes_13 : decode cX12_takes 13 = .ok (.iconst 2, 1) := by decide +kernel
theorem dX12_takes_14 : decode cX12_takes 14 = .ok (.goto 34, 3) := by decide +kernel
theorem dX12_takes_17 : decode cX12_takes 17 = .ok (.iconst 1, 1) := by decide +kernel
theorem dX12_takes_18 : decode cX12_takes 18 = .ok (.goto 30, 3) := by decide +kernel
theorem dX12_takes_21 : decode cX12_takes 21 = .ok (.iload_n 1, 1) := by decide +kernel
theorem dX12_takes_22 : decode cX12_takes 22 = .ok (.iconst 1, 1) := by decide +kernel
theorem dX12_takes_23 : decode cX12_takes 23 = .ok (.if_icmp .ne 14, 3) := by decide +kernel
theorem dX12_takes_26 : decode cX12_takes 26 = .ok (.iconst 3, 1) := by decide +kernel
theorem dX12_takes_27 : decode cX12_takes 27 = .ok (.aload_n 0, 1) := by decide +kernel
theorem dX12_takes_28 : decode cX12_takes 28 = .ok (.getfield 139, 3) := by decide +kernel
theorem dX12_takes_31 : decode cX12_takes 31 = .ok (.iload_n 2, 1) := by decide +kernel
theorem dX12_takes_32 : decode cX12_takes 32 = .ok (.iaload, 1) := by decide +kernel
theorem dX12_takes_33 : decode cX12_takes 33 = .ok (.iadd, 1) := by decide +kernel
theorem dX12_takes_34 : decode cX12_takes 34 = .ok (.goto 14, 3) := by decide +kernel
theorem dX12_takes_37 : decode cX12_takes 37 = .ok (.iload_n 1, 1) := by decide +kernel
theorem dX12_takes_38 : decode cX12_takes 38 = .ok (.iconst 2, 1) := by decide +kernel
theorem dX12_takes_39 : decode cX12_takes 39 = .ok (.if_icmp .ne 8, 3) := by decide +kernel
theorem dX12_takes_42 : decode cX12_takes 42 = .ok (.bipush 6, 2) := by decide +kernel
theorem dX12_takes_44 : decode cX12_takes 44 = .ok (.goto 4, 3) := by decide +kernel
theorem dX12_takes_47 : decode cX12_takes 47 = .ok (.iconst 1, 1) := by decide +kernel
theorem dX12_takes_48 : decode cX12_takes 48 = .ok (.ireturn, 1) := by decide +kernel
theorem dX12_gets_0 : decode cX12_gets 0 = .ok (.aload_n 0, 1) := by decide +kernel
theorem dX12_gets_1 : decode cX12_gets 1 = .ok (.iload_n 1, 1) := by decide +kernel
theorem dX12_gets_2 : decode cX12_gets 2 = .ok (.iconst 0, 1) := by decide +kernel
theorem dX12_gets_3 : decode cX12_gets 3 = .ok (.bipush 7, 2) := by decide +kernel
theorem dX12_gets_5 : decode cX12_gets 5 = .ok (.invokevirtual 425, 3) := by decide +kernel
theorem dX12_gets_8 : decode cX12_gets 8 = .ok (.aload_n 0, 1) := by decide +kernel
theorem dX12_gets_9 : decode cX12_gets 9 = .ok (.iload_n 1, 1) := by decide +kernel
theorem dX12_gets_10 : decode cX12_gets 10 = .ok (.iconst 3, 1) := by decide +kernel
theorem dX12_gets_11 : decode cX12_gets 11 = .ok (.aload_n 0, 1) := by decide +kernel
theorem dX12_gets_12 : decode cX12_gets 12 = .ok (.getfield 314, 3) := by decide +kernel
theorem dX12_gets_15 : decode cX12_gets 15 = .ok (.invokevirtual 425, 3) := by decide +kernel
theorem dX12_gets_18 : decode cX12_gets 18 = .ok (.aload_n 0, 1) := by decide +kernel
theorem dX12_gets_19 : decode cX12_gets 19 = .ok (.getfield 145, 3) := by decide +kernel
theorem dX12_gets_22 : decode cX12_gets 22 = .ok (.iload_n 1, 1) := by decide +kernel
theorem dX12_gets_23 : decode cX12_gets 23 = .ok (.iaload, 1) := by decide +kernel
theorem dX12_gets_24 : decode cX12_gets 24 = .ok (.ifCond .lt 23, 3) := by decide +kernel
theorem dX12_gets_27 : decode cX12_gets 27 = .ok (.aload_n 0, 1) := by decide +kernel
theorem dX12_gets_28 : decode cX12_gets 28 = .ok (.getfield 314, 3) := by decide +kernel
theorem dX12_gets_31 : decode cX12_gets 31 = .ok (.aload_n 0, 1) := by decide +kernel
theorem dX12_gets_32 : decode cX12_gets 32 = .ok (.getfield 121, 3) := by decide +kernel
theorem dX12_gets_35 : decode cX12_gets 35 = .ok (.iload_n 1, 1) := by decide +kernel
theorem dX12_gets_36 : decode cX12_gets 36 = .ok (.iaload, 1) := by decide +kernel
theorem dX12_gets_37 : decode cX12_gets 37 = .ok (.isub, 1) := by decide +kernel
theorem dX12_gets_38 : decode cX12_gets 38 = .ok (.aload_n 0, 1) := by decide +kernel
theorem dX12_gets_39 : decode cX12_gets 39 = .ok (.getfield 145, 3) := by decide +kernel
theorem dX12_gets_42 : decode cX12_gets 42 = .ok (.iload_n 1, 1) := by decide +kernel
theorem dX12_gets_43 : decode cX12_gets 43 = .ok (.iaload, 1) := by decide +kernel
theorem dX12_gets_44 : decode cX12_gets 44 = .ok (.if_icmp .gt 4, 3) := by decide +kernel
theorem dX12_gets_47 : decode cX12_gets 47 = .ok (.return_, 1) := by decide +kernel
theorem dX12_gets_48 : decode cX12_gets 48 = .ok (.aload_n 0, 1) := by decide +kernel
theorem dX12_gets_49 : decode cX12_gets 49 = .ok (.iload_n 1, 1) := by decide +kernel
theorem dX12_gets_50 : decode cX12_gets 50 = .ok (.bipush 6, 2) := by decide +kernel
theorem dX12_gets_52 : decode cX12_gets 52 = .ok (.iconst 1, 1) := by decide +kernel
theorem dX12_gets_53 : decode cX12_gets 53 = .ok (.invokevirtual 425, 3) := by decide +kernel
theorem dX12_gets_56 : decode cX12_gets 56 = .ok (.aload_n 0, 1) := by decide +kernel
theorem dX12_gets_57 : decode cX12_gets 57 = .ok (.dup, 1) := by decide +kernel
theorem dX12_gets_58 : decode cX12_gets 58 = .ok (.getfield 456, 3) := by decide +kernel
theorem dX12_gets_61 : decode cX12_gets 61 = .ok (.aload_n 0, 1) := by decide +kernel
theorem dX12_gets_62 : decode cX12_gets 62 = .ok (.getfield 133, 3) := by decide +kernel
theorem dX12_gets_65 : decode cX12_gets 65 = .ok (.iload_n 1, 1) := by decide +kernel
theorem dX12_gets_66 : decode cX12_gets 66 = .ok (.iaload, 1) := by decide +kernel
theorem dX12_gets_67 : decode cX12_gets 67 = .ok (.iadd, 1) := by decide +kernel
theorem dX12_gets_68 : decode cX12_gets 68 = .ok (.putfield 456, 3) := by decide +kernel
theorem dX12_gets_71 : decode cX12_gets 71 = .ok (.return_, 1) := by decide +kernel
theorem dX12_prints_0 : decode cX12_prints 0 = .ok (.aload_n 0, 1) := by decide +kernel
theorem dX12_prints_1 : decode cX12_prints 1 = .ok (.getfield 112, 3) := by decide +kernel
theorem dX12_prints_4 : decode cX12_prints 4 = .ok (.iload_n 1, 1) := by decide +kernel
theorem dX12_prints_5 : decode cX12_prints 5 = .ok (.iaload, 1) := by decide +kernel
theorem dX12_prints_6 : decode cX12_prints 6 = .ok (.istore_n 2, 1) := by decide +kernel
theorem dX12_prints_7 : decode cX12_prints 7 = .ok (.iconst 0, 1) := by decide +kernel
theorem dX12_prints_8 : decode cX12_prints 8 = .ok (.istore_n 3, 1) := by decide +kernel
theorem dX12_prints_9 : decode cX12_prints 9 = .ok (.iload_n 3, 1) := by decide +kernel
theorem dX12_prints_10 : decode cX12_prints 10 = .ok (.aload_n 0, 1) := by decide +kernel
theorem dX12_prints_11 : decode cX12_prints 11 = .ok (.getfield 415, 3) := by decide +kernel
theorem dX12_prints_14 : decode cX12_prints 14 = .ok (.if_icmp .ge 65, 3) := by decide +kernel
theorem dX12_prints_17 : decode cX12_prints 17 = .ok (.aload_n 0, 1) := by decide +kernel
theorem dX12_prints_18 : decode cX12_prints 18 = .ok (.getfield 115, 3) := by decide +kernel
theorem dX12_prints_21 : decode cX12_prints 21 = .ok (.iload_n 1, 1) := by decide +kernel
theorem dX12_prints_22 : decode cX12_prints 22 = .ok (.iaload, 1) := by decide +kernel
theorem dX12_prints_23 : decode cX12_prints 23 = .ok (.iconst 3, 1) := by decide +kernel
theorem dX12_prints_24 : decode cX12_prints 24 = .ok (.if_icmp .eq 55, 3) := by decide +kernel
theorem dX12_prints_27 : decode cX12_prints 27 = .ok (.aload_n 0, 1) := by decide +kernel
theorem dX12_prints_28 : decode cX12_prints 28 = .ok (.getfield 151, 3) := by decide +kernel
theorem dX12_prints_31 : decode cX12_prints 31 = .ok (.iload_n 3, 1) := by decide +kernel
theorem dX12_prints_32 : decode cX12_prints 32 = .ok (.iaload, 1) := by decide +kernel
theorem dX12_prints_33 : decode cX12_prints 33 = .ok (.iload_n 2, 1) := by decide +kernel
theorem dX12_prints_34 : decode cX12_prints 34 = .ok (.if_icmp .ne 39, 3) := by decide +kernel
theorem dX12_prints_37 : decode cX12_prints 37 = .ok (.aload_n 0, 1) := by decide +kernel
theorem dX12_prints_38 : decode cX12_prints 38 = .ok (.getfield 154, 3) := by decide +kernel
theorem dX12_prints_41 : decode cX12_prints 41 = .ok (.iload_n 3, 1) := by decide +kernel
theorem dX12_prints_42 : decode cX12_prints 42 = .ok (.iaload, 1) := by decide +kernel
theorem dX12_prints_43 : decode cX12_prints 43 = .ok (.aload_n 0, 1) := by decide +kernel
theorem dX12_prints_44 : decode cX12_prints 44 = .ok (.getfield 314, 3) := by decide +kernel
theorem dX12_prints_47 : decode cX12_prints 47 = .ok (.if_icmp .gt 26, 3) := by decide +kernel
theorem dX12_prints_50 : decode cX12_prints 50 = .ok (.aload_n 0, 1) := by decide +kernel
theorem dX12_prints_51 : decode cX12_prints 51 = .ok (.getfield 314, 3) := by decide +kernel
theorem dX12_prints_54 : decode cX12_prints 54 = .ok (.aload_n 0, 1) := by decide +kernel
theorem dX12_prints_55 : decode cX12_prints 55 = .ok (.getfield 157, 3) := by decide +kernel
theorem dX12_prints_58 : decode cX12_prints 58 = .ok (.iload_n 3, 1) := by decide +kernel
theorem dX12_prints_59 : decode cX12_prints 59 = .ok (.iaload, 1) := by decide +kernel
theorem dX12_prints_60 : decode cX12_prints 60 = .ok (.if_icmp .ge 13, 3) := by decide +kernel
theorem dX12_prints_63 : decode cX12_prints 63 = .ok (.aload_n 0, 1) := by decide +kernel
theorem dX12_prints_64 : decode cX12_prints 64 = .ok (.getfield 157, 3) := by decide +kernel
theorem dX12_prints_67 : decode cX12_prints 67 = .ok (.iload_n 3, 1) := by decide +kernel
theorem dX12_prints_68 : decode cX12_prints 68 = .ok (.aload_n 0, 1) := by decide +kernel
theorem dX12_prints_69 : decode cX12_prints 69 = .ok (.getfield 314, 3) := by decide +kernel
theorem dX12_prints_72 : decode cX12_prints 72 = .ok (.iastore, 1) := by decide +kernel
theorem dX12_prints_73 : decode cX12_prints 73 = .ok (.iinc 3 1, 3) := by decide +kernel
theorem dX12_prints_76 : decode cX12_prints 76 = .ok (.goto (-67), 3) := by decide +kernel
theorem dX12_prints_79 : decode cX12_prints 79 = .ok (.aload_n 0, 1) := by decide +kernel
theorem dX12_prints_80 : decode cX12_prints 80 = .ok (.getfield 151, 3) := by decide +kernel
theorem dX12_prints_83 : decode cX12_prints 83 = .ok (.aload_n 0, 1) := by decide +kernel
theorem dX12_prints_84 : decode cX12_prints 84 = .ok (.getfield 415, 3) := by decide +kernel
theorem dX12_prints_87 : decode cX12_prints 87 = .ok (.iload_n 2, 1) := by decide +kernel
theorem dX12_prints_88 : decode cX12_prints 88 = .ok (.iastore, 1) := by decide +kernel
theorem dX12_prints_89 : decode cX12_prints 89 = .ok (.aload_n 0, 1) := by decide +kernel
theorem dX12_prints_90 : decode cX12_prints 90 = .ok (.getfield 154, 3) := by decide +kernel
theorem dX12_prints_93 : decode cX12_prints 93 = .ok (.aload_n 0, 1) := by decide +kernel
theorem dX12_prints_94 : decode cX12_prints 94 = .ok (.getfield 415, 3) := by decide +kernel
theorem dX12_prints_97 : decode cX12_prints 97 = .ok (.aload_n 0, 1) := by decide +kernel
theorem dX12_prints_98 : decode cX12_prints 98 = .ok (.getfield 314, 3) := by decide +kernel
theorem dX12_prints_101 : decode cX12_prints 101 = .ok (.iastore, 1) := by decide +kernel
theorem dX12_prints_102 : decode cX12_prints 102 = .ok (.aload_n 0, 1) := by decide +kernel
theorem dX12_prints_103 : decode cX12_prints 103 = .ok (.getfield 157, 3) := by decide +kernel
theorem dX12_prints_106 : decode cX12_prints 106 = .ok (.aload_n 0, 1) := by decide +kernel
theorem dX12_prints_107 : decode cX12_prints 107 = .ok (.getfield 415, 3) := by decide +kernel
theorem dX12_prints_110 : decode cX12_prints 110 = .ok (.aload_n 0, 1) := by decide +kernel
theorem dX12_prints_111 : decode cX12_prints 111 = .ok (.getfield 314, 3) := by decide +kernel
theorem dX12_prints_114 : decode cX12_prints 114 = .ok (.sipush 365, 3) := by decide +kernel
theorem dX12_prints_117 : decode cX12_prints 117 = .ok (.aload_n 0, 1) := by decide +kernel
theorem dX12_prints_118 : decode cX12_prints 118 = .ok (.getfield 136, 3) := by decide +kernel
theorem dX12_prints_121 : decode cX12_prints 121 = .ok (.iload_n 1, 1) := by decide +kernel
theorem dX12_prints_122 : decode cX12_prints 122 = .ok (.iaload, 1) := by decide +kernel
theorem dX12_prints_123 : decode cX12_prints 123 = .ok (.imul, 1) := by decide +kernel
theorem dX12_prints_124 : decode cX12_prints 124 = .ok (.iadd, 1) := by decide +kernel
theorem dX12_prints_125 : decode cX12_prints 125 = .ok (.iastore, 1) := by decide +kernel
theorem dX12_prints_126 : decode cX12_prints 126 = .ok (.aload_n 0, 1) := by decide +kernel
theorem dX12_prints_127 : decode cX12_prints 127 = .ok (.getfield 160, 3) := by decide +kernel
theorem dX12_prints_130 : decode cX12_prints 130 = .ok (.aload_n 0, 1) := by decide +kernel
theorem dX12_prints_131 : decode cX12_prints 131 = .ok (.getfield 415, 3) := by decide +kernel
theorem dX12_prints_134 : decode cX12_prints 134 = .ok (.iload_n 1, 1) := by decide +kernel
theorem dX12_prints_135 : decode cX12_prints 135 = .ok (.iastore, 1) := by decide +kernel
theorem dX12_prints_136 : decode cX12_prints 136 = .ok (.aload_n 0, 1) := by decide +kernel
theorem dX12_prints_137 : decode cX12_prints 137 = .ok (.iload_n 1, 1) := by decide +kernel
theorem dX12_prints_138 : decode cX12_prints 138 = .ok (.iconst 1, 1) := by decide +kernel
theorem dX12_prints_139 : decode cX12_prints 139 = .ok (.aload_n 0, 1) := by decide +kernel
theorem dX12_prints_140 : decode cX12_prints 140 = .ok (.getfield 415, 3) := by decide +kernel
theorem dX12_prints_143 : decode cX12_prints 143 = .ok (.invokevirtual 425, 3) := by decide +kernel
theorem dX12_prints_146 : decode cX12_prints 146 = .ok (.aload_n 0, 1) := by decide +kernel
theorem dX12_prints_147 : decode cX12_prints 147 = .ok (.dup, 1) := by decide +kernel
theorem dX12_prints_148 : decode cX12_prints 148 = .ok (.getfield 415, 3) := by decide +kernel
theorem dX12_prints_151 : decode cX12_prints 151 = .ok (.iconst 1, 1) := by decide +kernel
theorem dX12_prints_152 : decode cX12_prints 152 = .ok (.iadd, 1) := by decide +kernel
theorem dX12_prints_153 : decode cX12_prints 153 = .ok (.putfield 415, 3) := by decide +kernel
theorem dX12_prints_156 : decode cX12_prints 156 = .ok (.aload_n 0, 1) := by decide +kernel
theorem dX12_prints_157 : decode cX12_prints 157 = .ok (.dup, 1) := by decide +kernel
theorem dX12_prints_158 : decode cX12_prints 158 = .ok (.getfield 406, 3) := by decide +kernel
theorem dX12_prints_161 : decode cX12_prints 161 = .ok (.iconst 1, 1) := by decide +kernel
theorem dX12_prints_162 : decode cX12_prints 162 = .ok (.isub, 1) := by decide +kernel
theorem dX12_prints_163 : decode cX12_prints 163 = .ok (.putfield 406, 3) := by decide +kernel
theorem dX12_prints_166 : decode cX12_prints 166 = .ok (.aload_n 0, 1) := by decide +kernel
theorem dX12_prints_167 : decode cX12_prints 167 = .ok (.getfield 58, 3) := by decide +kernel
theorem dX12_prints_170 : decode cX12_prints 170 = .ok (.iload_n 2, 1) := by decide +kernel
theorem dX12_prints_171 : decode cX12_prints 171 = .ok (.baload, 1) := by decide +kernel
theorem dX12_prints_172 : decode cX12_prints 172 = .ok (.ifCond .eq 10, 3) := by decide +kernel
theorem dX12_prints_175 : decode cX12_prints 175 = .ok (.aload_n 0, 1) := by decide +kernel
theorem dX12_prints_176 : decode cX12_prints 176 = .ok (.getfield 88, 3) := by decide +kernel
theorem dX12_prints_179 : decode cX12_prints 179 = .ok (.goto 7, 3) := by decide +kernel
theorem dX12_prints_182 : decode cX12_prints 182 = .ok (.aload_n 0, 1) := by decide +kernel
theorem dX12_prints_183 : decode cX12_prints 183 = .ok (.getfield 85, 3) := by decide +kernel
theorem dX12_prints_186 : decode cX12_prints 186 = .ok (.istore_n 3, 1) := by decide +kernel
theorem dX12_prints_187 : decode cX12_prints 187 = .ok (.aload_n 0, 1) := by decide +kernel
theorem dX12_prints_188 : decode cX12_prints 188 = .ok (.iload_n 1, 1) := by decide +kernel
theorem dX12_prints_189 : decode cX12_prints 189 = .ok (.iconst 4, 1) := by decide +kernel
theorem dX12_prints_190 : decode cX12_prints 190 = .ok (.aload_n 0, 1) := by decide +kernel
theorem dX12_prints_191 : decode cX12_prints 191 = .ok (.getfield 314, 3) := by decide +kernel
theorem dX12_prints_194 : decode cX12_prints 194 = .ok (.iload_n 3, 1) := by decide +kernel
theorem dX12_prints_195 : decode cX12_prints 195 = .ok (.iadd, 1) := by decide +kernel
theorem dX12_prints_196 : decode cX12_prints 196 = .ok (.invokevirtual 425, 3) := by decide +kernel
theorem dX12_prints_199 : decode cX12_prints 199 = .ok (.iload_n 3, 1) := by decide +kernel
theorem dX12_prints_200 : decode cX12_prints 200 = .ok (.ifCond .ne 11, 3) := by decide +kernel
theorem dX12_prints_203 : decode cX12_prints 203 = .ok (.aload_n 0, 1) := by decide +kernel
theorem dX12_prints_204 : decode cX12_prints 204 = .ok (.iload_n 1, 1) := by decide +kernel
theorem dX12_prints_205 : decode cX12_prints 205 = .ok (.invokevirtual 459, 3) := by decide +kernel
theorem dX12_prints_208 : decode cX12_prints 208 = .ok (.goto 11, 3) := by decide +kernel
theorem dX12_prints_211 : decode cX12_prints 211 = .ok (.aload_n 0, 1) := by decide +kernel
theorem dX12_prints_212 : decode cX12_prints 212 = .ok (.iload_n 1, 1) := by decide +kernel
theorem dX12_prints_213 : decode cX12_prints 213 = .ok (.iconst 0, 1) := by decide +kernel
theorem dX12_prints_214 : decode cX12_prints 214 = .ok (.bipush 6, 2) := by decide +kernel
theorem dX12_prints_216 : decode cX12_prints 216 = .ok (.invokevirtual 425, 3) := by decide +kernel
theorem dX12_prints_219 : decode cX12_prints 219 = .ok (.return_, 1) := by decide +kernel
theorem dX12_does_0 : decode cX12_does 0 = .ok (.iload_n 1, 1) := by decide +kernel
theorem dX12_does_1 : decode cX12_does 1 = .ok (.tableswitch 103 0 2 #[27, 85, 93], 27) := by decide +kernel
theorem dX12_does_28 : decode cX12_does 28 = .ok (.aload_n 0, 1) := by decide +kernel
theorem dX12_does_29 : decode cX12_does 29 = .ok (.iload_n 2, 1) := by decide +kernel
theorem dX12_does_30 : decode cX12_does 30 = .ok (.iconst 2, 1) := by decide +kernel
theorem dX12_does_31 : decode cX12_does 31 = .ok (.aload_n 0, 1) := by decide +kernel
theorem dX12_does_32 : decode cX12_does 32 = .ok (.getfield 314, 3) := by decide +kernel
theorem dX12_does_35 : decode cX12_does 35 = .ok (.invokevirtual 425, 3) := by decide +kernel
theorem dX12_does_38 : decode cX12_does 38 = .ok (.aload_n 0, 1) := by decide +kernel
theorem dX12_does_39 : decode cX12_does 39 = .ok (.iload_n 2, 1) := by decide +kernel
theorem dX12_does_40 : decode cX12_does 40 = .ok (.iconst 0, 1) := by decide +kernel
theorem dX12_does_41 : decode cX12_does 41 = .ok (.aload_n 0, 1) := by decide +kernel
theorem dX12_does_42 : decode cX12_does 42 = .ok (.iload_n 2, 1) := by decide +kernel
theorem dX12_does_43 : decode cX12_does 43 = .ok (.invokevirtual 437, 3) := by decide +kernel
theorem dX12_does_46 : decode cX12_does 46 = .ok (.ifCond .ne 7, 3) := by decide +kernel
theorem dX12_does_49 : decode cX12_does 49 = .ok (.iconst 2, 1) := by decide +kernel
theorem dX12_does_50 : decode cX12_does 50 = .ok (.goto 4, 3) := by decide +kernel
theorem dX12_does_53 : decode cX12_does 53 = .ok (.iconst 1, 1) := by decide +kernel
theorem dX12_does_54 : decode cX12_does 54 = .ok (.invokevirtual 425, 3) := by decide +kernel
theorem dX12_does_57 : decode cX12_does 57 = .ok (.aload_n 0, 1) := by decide +kernel
theorem dX12_does_58 : decode cX12_does 58 = .ok (.iload_n 2, 1) := by decide +kernel
theorem dX12_does_59 : decode cX12_does 59 = .ok (.iconst 5, 1) := by decide +kernel
theorem dX12_does_60 : decode cX12_does 60 = .ok (.aload_n 0, 1) := by decide +kernel
theorem dX12_does_61 : decode cX12_does 61 = .ok (.iload_n 2, 1) := by decide +kernel
theorem dX12_does_62 : decode cX12_does 62 = .ok (.iconst 5, 1) := by decide +kernel
theorem dX12_does_63 : decode cX12_does 63 = .ok (.invokevirtual 434, 3) := by decide +kernel
theorem dX12_does_66 : decode cX12_does 66 = .ok (.aload_n 0, 1) := by decide +kernel
theorem dX12_does_67 : decode cX12_does 67 = .ok (.iload_n 2, 1) := by decide +kernel
theorem dX12_does_68 : decode cX12_does 68 = .ok (.invokevirtual 437, 3) := by decide +kernel
theorem dX12_does_71 : decode cX12_does 71 = .ok (.ifCond .ne 7, 3) := by decide +kernel
theorem dX12_does_74 : decode cX12_does 74 = .ok (.iconst 0, 1) := by decide +kernel
theorem dX12_does_75 : decode cX12_does 75 = .ok (.goto 4, 3) := by decide +kernel
theorem dX12_does_78 : decode cX12_does 78 = .ok (.iconst 1, 1) := by decide +kernel
theorem dX12_does_79 : decode cX12_does 79 = .ok (.iadd, 1) := by decide +kernel
theorem dX12_does_80 : decode cX12_does 80 = .ok (.invokevirtual 425, 3) := by decide +kernel
theorem dX12_does_83 : decode cX12_does 83 = .ok (.goto 26, 3) := by decide +kernel
theorem dX12_does_86 : decode cX12_does 86 = .ok (.aload_n 0, 1) := by decide +kernel
theorem dX12_does_87 : decode cX12_does 87 = .ok (.iload_n 2, 1) := by decide +kernel
theorem dX12_does_88 : decode cX12_does 88 = .ok (.invokevirtual 440, 3) := by decide +kernel
theorem dX12_does_91 : decode cX12_does 91 = .ok (.goto 18, 3) := by decide +kernel
theorem dX12_does_94 : decode cX12_does 94 = .ok (.aload_n 0, 1) := by decide +kernel
theorem dX12_does_95 : decode cX12_does 95 = .ok (.iload_n 2, 1) := by decide +kernel
theorem dX12_does_96 : decode cX12_does 96 = .ok (.iconst 0, 1) := by decide +kernel
theorem dX12_does_97 : decode cX12_does 97 = .ok (.iconst 5, 1) := by decide +kernel
theorem dX12_does_98 : decode cX12_does 98 = .ok (.invokevirtual 425, 3) := by decide +kernel
theorem dX12_does_101 : decode cX12_does 101 = .ok (.goto 8, 3) := by decide +kernel
theorem dX12_does_104 : decode cX12_does 104 = .ok (.aload_n 0, 1) := by decide +kernel
theorem dX12_does_105 : decode cX12_does 105 = .ok (.iload_n 2, 1) := by decide +kernel
theorem dX12_does_106 : decode cX12_does 106 = .ok (.invokevirtual 462, 3) := by decide +kernel
theorem dX12_does_109 : decode cX12_does 109 = .ok (.return_, 1) := by decide +kernel
theorem dX12_canPrint_0 : decode cX12_canPrint 0 = .ok (.aload_n 0, 1) := by decide +kernel
theorem dX12_canPrint_1 : decode cX12_canPrint 1 = .ok (.getfield 406, 3) := by decide +kernel
theorem dX12_canPrint_4 : decode cX12_canPrint 4 = .ok (.ifCond .le 35, 3) := by decide +kernel
theorem dX12_canPrint_7 : decode cX12_canPrint 7 = .ok (.aload_n 0, 1) := by decide +kernel
theorem dX12_canPrint_8 : decode cX12_canPrint 8 = .ok (.getfield 314, 3) := by decide +kernel
theorem dX12_canPrint_11 : decode cX12_canPrint 11 = .ok (.aload_n 0, 1) := by decide +kernel
theorem dX12_canPrint_12 : decode cX12_canPrint 12 = .ok (.getfield 91, 3) := by decide +kernel
theorem dX12_canPrint_15 : decode cX12_canPrint 15 = .ok (.aload_n 0, 1) := by decide +kernel
theorem dX12_canPrint_16 : decode cX12_canPrint 16 = .ok (.getfield 409, 3) := by decide +kernel
theorem dX12_canPrint_19 : decode cX12_canPrint 19 = .ok (.invokestatic 317, 3) := by decide +kernel
theorem dX12_canPrint_22 : decode cX12_canPrint 22 = .ok (.ifCond .ne 17, 3) := by decide +kernel
theorem dX12_canPrint_25 : decode cX12_canPrint 25 = .ok (.aload_n 0, 1) := by decide +kernel
theorem dX12_canPrint_26 : decode cX12_canPrint 26 = .ok (.getfield 415, 3) := by decide +kernel
theorem dX12_canPrint_29 : decode cX12_canPrint 29 = .ok (.sipush 150, 3) := by decide +kernel
theorem dX12_canPrint_32 : decode cX12_canPrint 32 = .ok (.if_icmp .ge 7, 3) := by decide +kernel
theorem dX12_canPrint_35 : decode cX12_canPrint 35 = .ok (.iconst 1, 1) := by decide +kernel
theorem dX12_canPrint_36 : decode cX12_canPrint 36 = .ok (.goto 4, 3) := by decide +kernel
theorem dX12_canPrint_39 : decode cX12_canPrint 39 = .ok (.iconst 0, 1) := by decide +kernel
theorem dX12_canPrint_40 : decode cX12_canPrint 40 = .ok (.ireturn, 1) := by decide +kernel
theorem dX12_works_0 : decode cX12_works 0 = .ok (.aload_n 0, 1) := by decide +kernel
theorem dX12_works_1 : decode cX12_works 1 = .ok (.iload_n 1, 1) := by decide +kernel
theorem dX12_works_2 : decode cX12_works 2 = .ok (.aload_n 0, 1) := by decide +kernel
theorem dX12_works_3 : decode cX12_works 3 = .ok (.getfield 314, 3) := by decide +kernel
theorem dX12_works_6 : decode cX12_works 6 = .ok (.invokevirtual 400, 3) := by decide +kernel
theorem dX12_works_9 : decode cX12_works 9 = .ok (.istore_n 3, 1) := by decide +kernel
theorem dX12_works_10 : decode cX12_works 10 = .ok (.iload_n 1, 1) := by decide +kernel
theorem dX12_works_11 : decode cX12_works 11 = .ok (.ifCond .ne 14, 3) := by decide +kernel
theorem dX12_works_14 : decode cX12_works 14 = .ok (.iconst 0, 1) := by decide +kernel
theorem dX12_works_15 : decode cX12_works 15 = .ok (.iload_n 3, 1) := by decide +kernel
theorem dX12_works_16 : decode cX12_works 16 = .ok (.aload_n 0, 1) := by decide +kernel
theorem dX12_works_17 : decode cX12_works 17 = .ok (.getfield 465, 3) := by decide +kernel
theorem dX12_works_20 : decode cX12_works 20 = .ok (.isub, 1) := by decide +kernel
theorem dX12_works_21 : decode cX12_works 21 = .ok (.invokestatic 366, 3) := by decide +kernel
theorem dX12_works_24 : decode cX12_works 24 = .ok (.istore_n 3, 1) := by decide +kernel
theorem dX12_works_25 : decode cX12_works 25 = .ok (.aload_n 0, 1) := by decide +kernel
theorem dX12_works_26 : decode cX12_works 26 = .ok (.iload_n 1, 1) := by decide +kernel
theorem dX12_works_27 : decode cX12_works 27 = .ok (.iload_n 2, 1) := by decide +kernel
theorem dX12_works_28 : decode cX12_works 28 = .ok (.invokevirtual 468, 3) := by decide +kernel
theorem dX12_works_31 : decode cX12_works 31 = .ok (.iconst 0, 1) := by decide +kernel
theorem dX12_works_32 : decode cX12_works 32 = .ok (.istore 4, 2) := by decide +kernel
theorem dX12_works_34 : decode cX12_works 34 = .ok (.iload 4, 2) := by decide +kernel
theorem dX12_works_36 : decode cX12_works 36 = .ok (.aload_n 0, 1) := by decide +kernel
theorem dX12_works_37 : decode cX12_works 37 = .ok (.getfield 447, 3) := by decide +kernel
theorem dX12_works_40 : decode cX12_works 40 = .ok (.if_icmp .ge 61, 3) := by decide +kernel
theorem dX12_works_43 : decode cX12_works 43 = .ok (.aload_n 0, 1) := by decide +kernel
theorem dX12_works_44 : decode cX12_works 44 = .ok (.iload_n 1, 1) := by decide +kernel
theorem dX12_works_45 : decode cX12_works 45 = .ok (.aload_n 0, 1) := by decide +kernel
theorem dX12_works_46 : decode cX12_works 46 = .ok (.getfield 163, 3) := by decide +kernel
theorem dX12_works_49 : decode cX12_works 49 = .ok (.iload 4, 2) := by decide +kernel
theorem dX12_works_51 : decode cX12_works 51 = .ok (.iaload, 1) := by decide +kernel
theorem dX12_works_52 : decode cX12_works 52 = .ok (.invokevirtual 472, 3) := by decide +kernel
theorem dX12_works_55 : decode cX12_works 55 = .ok (.istore 5, 2) := by decide +kernel
theorem dX12_works_57 : decode cX12_works 57 = .ok (.iload 5, 2) := by decide +kernel
theorem dX12_works_59 : decode cX12_works 59 = .ok (.iload_n 3, 1) := by decide +kernel
theorem dX12_works_60 : decode cX12_works 60 = .ok (.if_icmp .gt 41, 3) := by decide +kernel
theorem dX12_works_63 : decode cX12_works 63 = .ok (.iload_n 1, 1) := by decide +kernel
theorem dX12_works_64 : decode cX12_works 64 = .ok (.iconst 3, 1) := by decide +kernel
theorem dX12_works_65 : decode cX12_works 65 = .ok (.if_icmp .ne 13, 3) := by decide +kernel
theorem dX12_works_68 : decode cX12_works 68 = .ok (.aload_n 0, 1) := by decide +kernel
theorem dX12_works_69 : decode cX12_works 69 = .ok (.invokevirtual 475, 3) := by decide +kernel
theorem dX12_works_72 : decode cX12_works 72 = .ok (.ifCond .ne 6, 3) := by decide +kernel
theorem dX12_works_75 : decode cX12_works 75 = .ok (.goto 26, 3) := by decide +kernel
theorem dX12_works_78 : decode cX12_works 78 = .ok (.iload_n 3, 1) := by decide +kernel
theorem dX12_works_79 : decode cX12_works 79 = .ok (.iload 5, 2) := by decide +kernel
theorem dX12_works_81 : decode cX12_works 81 = .ok (.isub, 1) := by decide +kernel
theorem dX12_works_82 : decode cX12_works 82 = .ok (.istore_n 3, 1) := by decide +kernel
theorem dX12_works_83 : decode cX12_works 83 = .ok (.aload_n 0, 1) := by decide +kernel
theorem dX12_works_84 : decode cX12_works 84 = .ok (.iload_n 1, 1) := by decide +kernel
theorem dX12_works_85 : decode cX12_works 85 = .ok (.aload_n 0, 1) := by decide +kernel
theorem dX12_works_86 : decode cX12_works 86 = .ok (.getfield 163, 3) := by decide +kernel
theorem dX12_works_89 : decode cX12_works 89 = .ok (.iload 4, 2) := by decide +kernel
theorem dX12_works_91 : decode cX12_works 91 = .ok (.iaload, 1) := by decide +kernel
theorem dX12_works_92 : decode cX12_works 92 = .ok (.invokevirtual 478, 3) := by decide +kernel
theorem dX12_works_95 : decode cX12_works 95 = .ok (.iinc 4 1, 3) := by decide +kernel
theorem dX12_works_98 : decode cX12_works 98 = .ok (.goto (-64), 3) := by decide +kernel
theorem dX12_works_101 : decode cX12_works 101 = .ok (.aload_n 0, 1) := by decide +kernel
theorem dX12_works_102 : decode cX12_works 102 = .ok (.dup, 1) := by decide +kernel
theorem dX12_works_103 : decode cX12_works 103 = .ok (.getfield 481, 3) := by decide +kernel
theorem dX12_works_106 : decode cX12_works 106 = .ok (.iload_n 3, 1) := by decide +kernel
theorem dX12_works_107 : decode cX12_works 107 = .ok (.iadd, 1) := by decide +kernel
theorem dX12_works_108 : decode cX12_works 108 = .ok (.putfield 481, 3) := by decide +kernel
theorem dX12_works_111 : decode cX12_works 111 = .ok (.return_, 1) := by decide +kernel
theorem dX12_day_0 : decode cX12_day 0 = .ok (.aload_n 0, 1) := by decide +kernel
theorem dX12_day_1 : decode cX12_day 1 = .ok (.dup, 1) := by decide +kernel
theorem dX12_day_2 : decode cX12_day 2 = .ok (.getfield 314, 3) := by decide +kernel
theorem dX12_day_5 : decode cX12_day 5 = .ok (.iconst 1, 1) := by decide +kernel
theorem dX12_day_6 : decode cX12_day 6 = .ok (.iadd, 1) := by decide +kernel
theorem dX12_day_7 : decode cX12_day 7 = .ok (.putfield 314, 3) := by decide +kernel
theorem dX12_day_10 : decode cX12_day 10 = .ok (.iconst 0, 1) := by decide +kernel
theorem dX12_day_11 : decode cX12_day 11 = .ok (.istore_n 2, 1) := by decide +kernel
theorem dX12_day_12 : decode cX12_day 12 = .ok (.iload_n 2, 1) := by decide +kernel
theorem dX12_day_13 : decode cX12_day 13 = .ok (.aload_n 0, 1) := by decide +kernel
theorem dX12_day_14 : decode cX12_day 14 = .ok (.getfield 412, 3) := by decide +kernel
theorem dX12_day_17 : decode cX12_day 17 = .ok (.if_icmp .ge 38, 3) := by decide +kernel
theorem dX12_day_20 : decode cX12_day 20 = .ok (.aload_n 0, 1) := by decide +kernel
theorem dX12_day_21 : decode cX12_day 21 = .ok (.iload_n 2, 1) := by decide +kernel
theorem dX12_day_22 : decode cX12_day 22 = .ok (.iconst 0, 1) := by decide +kernel
theorem dX12_day_23 : decode cX12_day 23 = .ok (.invokevirtual 434, 3) := by decide +kernel
theorem dX12_day_26 : decode cX12_day 26 = .ok (.bipush 6, 2) := by decide +kernel
theorem dX12_day_28 : decode cX12_day 28 = .ok (.if_icmp .ne 21, 3) := by decide +kernel
theorem dX12_day_31 : decode cX12_day 31 = .ok (.aload_n 0, 1) := by decide +kernel
theorem dX12_day_32 : decode cX12_day 32 = .ok (.iload_n 2, 1) := by decide +kernel
theorem dX12_day_33 : decode cX12_day 33 = .ok (.iconst 4, 1) := by decide +kernel
theorem dX12_day_34 : decode cX12_day 34 = .ok (.invokevirtual 434, 3) := by decide +kernel
theorem dX12_day_37 : decode cX12_day 37 = .ok (.aload_n 0, 1) := by decide +kernel
theorem dX12_day_38 : decode cX12_day 38 = .ok (.getfield 314, 3) := by decide +kernel
theorem dX12_day_41 : decode cX12_day 41 = .ok (.if_icmp .gt 8, 3) := by decide +kernel
theorem dX12_day_44 : decode cX12_day 44 = .ok (.aload_n 0, 1) := by decide +kernel
theorem dX12_day_45 : decode cX12_day 45 = .ok (.iload_n 2, 1) := by decide +kernel
theorem dX12_day_46 : decode cX12_day 46 = .ok (.invokevirtual 459, 3) := by decide +kernel
theorem dX12_day_49 : decode cX12_day 49 = .ok (.iinc 2 1, 3) := by decide +kernel
theorem dX12_day_52 : decode cX12_day 52 = .ok (.goto (-40), 3) := by decide +kernel
theorem dX12_day_55 : decode cX12_day 55 = .ok (.iconst 0, 1) := by decide +kernel
theorem dX12_day_56 : decode cX12_day 56 = .ok (.istore_n 2, 1) := by decide +kernel
theorem dX12_day_57 : decode cX12_day 57 = .ok (.iconst 0, 1) := by decide +kernel
theorem dX12_day_58 : decode cX12_day 58 = .ok (.istore_n 3, 1) := by decide +kernel
theorem dX12_day_59 : decode cX12_day 59 = .ok (.iload_n 3, 1) := by decide +kernel
theorem dX12_day_60 : decode cX12_day 60 = .ok (.aload_n 0, 1) := by decide +kernel
theorem dX12_day_61 : decode cX12_day 61 = .ok (.getfield 412, 3) := by decide +kernel
theorem dX12_day_64 : decode cX12_day 64 = .ok (.if_icmp .ge 45, 3) := by decide +kernel
theorem dX12_day_67 : decode cX12_day 67 = .ok (.iload_n 2, 1) := by decide +kernel
theorem dX12_day_68 : decode cX12_day 68 = .ok (.aload_n 0, 1) := by decide +kernel
theorem dX12_day_69 : decode cX12_day 69 = .ok (.iload_n 3, 1) := by decide +kernel
theorem dX12_day_70 : decode cX12_day 70 = .ok (.iconst 0, 1) := by decide +kernel
theorem dX12_day_71 : decode cX12_day 71 = .ok (.invokevirtual 434, 3) := by decide +kernel
theorem dX12_day_74 : decode cX12_day 74 = .ok (.iconst 5, 1) := by decide +kernel
theorem dX12_day_75 : decode cX12_day 75 = .ok (.if_icmp .gt 25, 3) := by decide +kernel
theorem dX12_day_78 : decode cX12_day 78 = .ok (.aload_n 0, 1) := by decide +kernel
theorem dX12_day_79 : decode cX12_day 79 = .ok (.getfield 314, 3) := by decide +kernel
theorem dX12_day_82 : decode cX12_day 82 = .ok (.aload_n 0, 1) := by decide +kernel
theorem dX12_day_83 : decode cX12_day 83 = .ok (.getfield 118, 3) := by decide +kernel
theorem dX12_day_86 : decode cX12_day 86 = .ok (.iload_n 3, 1) := by decide +kernel
theorem dX12_day_87 : decode cX12_day 87 = .ok (.iaload, 1) := by decide +kernel
theorem dX12_day_88 : decode cX12_day 88 = .ok (.isub, 1) := by decide +kernel
theorem dX12_day_89 : decode cX12_day 89 = .ok (.aload_n 0, 1) := by decide +kernel
theorem dX12_day_90 : decode cX12_day 90 = .ok (.getfield 76, 3) := by decide +kernel
theorem dX12_day_93 : decode cX12_day 93 = .ok (.if_icmp .le 7, 3) := by decide +kernel
theorem dX12_day_96 : decode cX12_day 96 = .ok (.iconst 1, 1) := by decide +kernel
theorem dX12_day_97 : decode cX12_day 97 = .ok (.goto 4, 3) := by decide +kernel
theorem dX12_day_100 : decode cX12_day 100 = .ok (.iconst 0, 1) := by decide +kernel
theorem dX12_day_101 : decode cX12_day 101 = .ok (.iadd, 1) := by decide +kernel
theorem dX12_day_102 : decode cX12_day 102 = .ok (.istore_n 2, 1) := by decide +kernel
theorem dX12_day_103 : decode cX12_day 103 = .ok (.iinc 3 1, 3) := by decide +kernel
theorem dX12_day_106 : decode cX12_day 106 = .ok (.goto (-47), 3) := by decide +kernel
theorem dX12_day_109 : decode cX12_day 109 = .ok (.aload_n 0, 1) := by decide +kernel
theorem dX12_day_110 : decode cX12_day 110 = .ok (.iload_n 2, 1) := by decide +kernel
theorem dX12_day_111 : decode cX12_day 111 = .ok (.iconst 3, 1) := by decide +kernel
theorem dX12_day_112 : decode cX12_day 112 = .ok (.idiv, 1) := by decide +kernel
theorem dX12_day_113 : decode cX12_day 113 = .ok (.putfield 465, 3) := by decide +kernel
theorem dX12_day_116 : decode cX12_day 116 = .ok (.aload_n 0, 1) := by decide +kernel
theorem dX12_day_117 : decode cX12_day 117 = .ok (.dup, 1) := by decide +kernel
theorem dX12_day_118 : decode cX12_day 118 = .ok (.getfield 484, 3) := by decide +kernel
theorem dX12_day_121 : decode cX12_day 121 = .ok (.aload_n 0, 1) := by decide +kernel
theorem dX12_day_122 : decode cX12_day 122 = .ok (.getfield 465, 3) := by decide +kernel
theorem dX12_day_125 : decode cX12_day 125 = .ok (.iadd, 1) := by decide +kernel
theorem dX12_day_126 : decode cX12_day 126 = .ok (.putfield 484, 3) := by decide +kernel
theorem dX12_day_129 : decode cX12_day 129 = .ok (.aload_n 0, 1) := by decide +kernel
theorem dX12_day_130 : decode cX12_day 130 = .ok (.iconst 0, 1) := by decide +kernel
theorem dX12_day_131 : decode cX12_day 131 = .ok (.putfield 481, 3) := by decide +kernel
theorem dX12_day_134 : decode cX12_day 134 = .ok (.iconst 0, 1) := by decide +kernel
theorem dX12_day_135 : decode cX12_day 135 = .ok (.istore_n 3, 1) := by decide +kernel
theorem dX12_day_136 : decode cX12_day 136 = .ok (.iload_n 3, 1) := by decide +kernel
theorem dX12_day_137 : decode cX12_day 137 = .ok (.iconst 4, 1) := by decide +kernel
theorem dX12_day_138 : decode cX12_day 138 = .ok (.if_icmp .ge 15, 3) := by decide +kernel
theorem dX12_day_141 : decode cX12_day 141 = .ok (.aload_n 0, 1) := by decide +kernel
theorem dX12_day_142 : decode cX12_day 142 = .ok (.iload_n 3, 1) := by decide +kernel
theorem dX12_day_143 : decode cX12_day 143 = .ok (.iload_n 1, 1) := by decide +kernel
theorem dX12_day_144 : decode cX12_day 144 = .ok (.invokevirtual 487, 3) := by decide +kernel
theorem dX12_day_147 : decode cX12_day 147 = .ok (.iinc 3 1, 3) := by decide +kernel
theorem dX12_day_150 : decode cX12_day 150 = .ok (.goto (-14), 3) := by decide +kernel
theorem dX12_day_153 : decode cX12_day 153 = .ok (.return_, 1) := by decide +kernel
theorem dX12_days_0 : decode cX12_days 0 = .ok (.aload_n 0, 1) := by decide +kernel
theorem dX12_days_1 : decode cX12_days 1 = .ok (.iconst 0, 1) := by decide +kernel
theorem dX12_days_2 : decode cX12_days 2 = .ok (.putfield 178, 3) := by decide +kernel
theorem dX12_days_5 : decode cX12_days 5 = .ok (.aload_n 0, 1) := by decide +kernel
theorem dX12_days_6 : decode cX12_days 6 = .ok (.iload_n 1, 1) := by decide +kernel
theorem dX12_days_7 : decode cX12_days 7 = .ok (.iconst 0, 1) := by decide +kernel
theorem dX12_days_8 : decode cX12_days 8 = .ok (.bipush 60, 2) := by decide +kernel
theorem dX12_days_10 : decode cX12_days 10 = .ok (.invokestatic 317, 3) := by decide +kernel
theorem dX12_days_13 : decode cX12_days 13 = .ok (.ifCond .ne 7, 3) := by decide +kernel
theorem dX12_days_16 : decode cX12_days 16 = .ok (.iconst 1, 1) := by decide +kernel
theorem dX12_days_17 : decode cX12_days 17 = .ok (.goto 4, 3) := by decide +kernel
theorem dX12_days_20 : decode cX12_days 20 = .ok (.iconst 0, 1) := by decide +kernel
theorem dX12_days_21 : decode cX12_days 21 = .ok (.iconst 1, 1) := by decide +kernel
theorem dX12_days_22 : decode cX12_days 22 = .ok (.invokevirtual 321, 3) := by decide +kernel
theorem dX12_days_25 : decode cX12_days 25 = .ok (.ifCond .eq 5, 3) := by decide +kernel
theorem dX12_days_28 : decode cX12_days 28 = .ok (.iconst 0, 1) := by decide +kernel
theorem dX12_days_29 : decode cX12_days 29 = .ok (.ireturn, 1) := by decide +kernel
theorem dX12_days_30 : decode cX12_days 30 = .ok (.iconst 0, 1) := by decide +kernel
theorem dX12_days_31 : decode cX12_days 31 = .ok (.istore_n 2, 1) := by decide +kernel
theorem dX12_days_32 : decode cX12_days 32 = .ok (.iload_n 2, 1) := by decide +kernel
theorem dX12_days_33 : decode cX12_days 33 = .ok (.iload_n 1, 1) := by decide +kernel
theorem dX12_days_34 : decode cX12_days 34 = .ok (.if_icmp .ge 27, 3) := by decide +kernel
theorem dX12_days_37 : decode cX12_days 37 = .ok (.aload_n 0, 1) := by decide +kernel
theorem dX12_days_38 : decode cX12_days 38 = .ok (.getfield 314, 3) := by decide +kernel
theorem dX12_days_41 : decode cX12_days 41 = .ok (.sipush 1000, 3) := by decide +kernel
theorem dX12_days_44 : decode cX12_days 44 = .ok (.if_icmp .ge 17, 3) := by decide +kernel
theorem dX12_days_47 : decode cX12_days 47 = .ok (.aload_n 0, 1) := by decide +kernel
theorem dX12_days_48 : decode cX12_days 48 = .ok (.aload_n 0, 1) := by decide +kernel
theorem dX12_days_49 : decode cX12_days 49 = .ok (.getfield 403, 3) := by decide +kernel
theorem dX12_days_52 : decode cX12_days 52 = .ok (.invokevirtual 490, 3) := by decide +kernel
theorem dX12_days_55 : decode cX12_days 55 = .ok (.iinc 2 1, 3) := by decide +kernel
theorem dX12_days_58 : decode cX12_days 58 = .ok (.goto (-26), 3) := by decide +kernel
theorem dX12_days_61 : decode cX12_days 61 = .ok (.aload_n 0, 1) := by decide +kernel
theorem dX12_days_62 : decode cX12_days 62 = .ok (.getfield 314, 3) := by decide +kernel
theorem dX12_days_65 : decode cX12_days 65 = .ok (.ireturn, 1) := by decide +kernel
theorem dX12_refuse_0 : decode cX12_refuse 0 = .ok (.aload_n 0, 1) := by decide +kernel
theorem dX12_refuse_1 : decode cX12_refuse 1 = .ok (.iconst 0, 1) := by decide +kernel
theorem dX12_refuse_2 : decode cX12_refuse 2 = .ok (.putfield 178, 3) := by decide +kernel
theorem dX12_refuse_5 : decode cX12_refuse 5 = .ok (.aload_n 0, 1) := by decide +kernel
theorem dX12_refuse_6 : decode cX12_refuse 6 = .ok (.aload_n 0, 1) := by decide +kernel
theorem dX12_refuse_7 : decode cX12_refuse 7 = .ok (.iload_n 1, 1) := by decide +kernel
theorem dX12_refuse_8 : decode cX12_refuse 8 = .ok (.invokevirtual 431, 3) := by decide +kernel
theorem dX12_refuse_11 : decode cX12_refuse 11 = .ok (.iconst 1, 1) := by decide +kernel
theorem dX12_refuse_12 : decode cX12_refuse 12 = .ok (.invokevirtual 321, 3) := by decide +kernel
theorem dX12_refuse_15 : decode cX12_refuse 15 = .ok (.ifCond .ne 26, 3) := by decide +kernel
theorem dX12_refuse_18 : decode cX12_refuse 18 = .ok (.aload_n 0, 1) := by decide +kernel
theorem dX12_refuse_19 : decode cX12_refuse 19 = .ok (.aload_n 0, 1) := by decide +kernel
theorem dX12_refuse_20 : decode cX12_refuse 20 = .ok (.iload_n 1, 1) := by decide +kernel
theorem dX12_refuse_21 : decode cX12_refuse 21 = .ok (.iconst 0, 1) := by decide +kernel
theorem dX12_refuse_22 : decode cX12_refuse 22 = .ok (.invokevirtual 434, 3) := by decide +kernel
theorem dX12_refuse_25 : decode cX12_refuse 25 = .ok (.iconst 5, 1) := by decide +kernel
theorem dX12_refuse_26 : decode cX12_refuse 26 = .ok (.if_icmp .le 7, 3) := by decide +kernel
theorem dX12_refuse_29 : decode cX12_refuse 29 = .ok (.iconst 1, 1) := by decide +kernel
theorem dX12_refuse_30 : decode cX12_refuse 30 = .ok (.goto 4, 3) := by decide +kernel
theorem dX12_refuse_33 : decode cX12_refuse 33 = .ok (.iconst 0, 1) := by decide +kernel
theorem dX12_refuse_34 : decode cX12_refuse 34 = .ok (.iconst 2, 1) := by decide +kernel
theorem dX12_refuse_35 : decode cX12_refuse 35 = .ok (.invokevirtual 321, 3) := by decide +kernel
theorem dX12_refuse_38 : decode cX12_refuse 38 = .ok (.ifCond .eq 4, 3) := by decide +kernel
theorem dX12_refuse_41 : decode cX12_refuse 41 = .ok (.return_, 1) := by decide +kernel
theorem dX12_refuse_42 : decode cX12_refuse 42 = .ok (.aload_n 0, 1) := by decide +kernel
theorem dX12_refuse_43 : decode cX12_refuse 43 = .ok (.iload_n 1, 1) := by decide +kernel
theorem dX12_refuse_44 : decode cX12_refuse 44 = .ok (.iconst 0, 1) := by decide +kernel
theorem dX12_refuse_45 : decode cX12_refuse 45 = .ok (.bipush 9, 2) := by decide +kernel
theorem dX12_refuse_47 : decode cX12_refuse 47 = .ok (.invokevirtual 425, 3) := by decide +kernel
theorem dX12_refuse_50 : decode cX12_refuse 50 = .ok (.return_, 1) := by decide +kernel
theorem dX12_lose_0 : decode cX12_lose 0 = .ok (.aload_n 0, 1) := by decide +kernel
theorem dX12_lose_1 : decode cX12_lose 1 = .ok (.iconst 0, 1) := by decide +kernel
theorem dX12_lose_2 : decode cX12_lose 2 = .ok (.putfield 178, 3) := by decide +kernel
theorem dX12_lose_5 : decode cX12_lose 5 = .ok (.aload_n 0, 1) := by decide +kernel
theorem dX12_lose_6 : decode cX12_lose 6 = .ok (.aload_n 0, 1) := by decide +kernel
theorem dX12_lose_7 : decode cX12_lose 7 = .ok (.iload_n 1, 1) := by decide +kernel
theorem dX12_lose_8 : decode cX12_lose 8 = .ok (.invokevirtual 431, 3) := by decide +kernel
theorem dX12_lose_11 : decode cX12_lose 11 = .ok (.iconst 1, 1) := by decide +kernel
theorem dX12_lose_12 : decode cX12_lose 12 = .ok (.invokevirtual 321, 3) := by decide +kernel
theorem dX12_lose_15 : decode cX12_lose 15 = .ok (.ifCond .ne 27, 3) := by decide +kernel
theorem dX12_lose_18 : decode cX12_lose 18 = .ok (.aload_n 0, 1) := by decide +kernel
theorem dX12_lose_19 : decode cX12_lose 19 = .ok (.aload_n 0, 1) := by decide +kernel
theorem dX12_lose_20 : decode cX12_lose 20 = .ok (.iload_n 1, 1) := by decide +kernel
theorem dX12_lose_21 : decode cX12_lose 21 = .ok (.iconst 0, 1) := by decide +kernel
theorem dX12_lose_22 : decode cX12_lose 22 = .ok (.invokevirtual 434, 3) := by decide +kernel
theorem dX12_lose_25 : decode cX12_lose 25 = .ok (.bipush 6, 2) := by decide +kernel
theorem dX12_lose_27 : decode cX12_lose 27 = .ok (.if_icmp .eq 7, 3) := by decide +kernel
theorem dX12_lose_30 : decode cX12_lose 30 = .ok (.iconst 1, 1) := by decide +kernel
theorem dX12_lose_31 : decode cX12_lose 31 = .ok (.goto 4, 3) := by decide +kernel
theorem dX12_lose_34 : decode cX12_lose 34 = .ok (.iconst 0, 1) := by decide +kernel
theorem dX12_lose_35 : decode cX12_lose 35 = .ok (.iconst 2, 1) := by decide +kernel
theorem dX12_lose_36 : decode cX12_lose 36 = .ok (.invokevirtual 321, 3) := by decide +kernel
theorem dX12_lose_39 : decode cX12_lose 39 = .ok (.ifCond .eq 4, 3) := by decide +kernel
theorem dX12_lose_42 : decode cX12_lose 42 = .ok (.return_, 1) := by decide +kernel
theorem dX12_lose_43 : decode cX12_lose 43 = .ok (.aload_n 0, 1) := by decide +kernel
theorem dX12_lose_44 : decode cX12_lose 44 = .ok (.iload_n 1, 1) := by decide +kernel
theorem dX12_lose_45 : decode cX12_lose 45 = .ok (.iconst 0, 1) := by decide +kernel
theorem dX12_lose_46 : decode cX12_lose 46 = .ok (.bipush 8, 2) := by decide +kernel
theorem dX12_lose_48 : decode cX12_lose 48 = .ok (.invokevirtual 425, 3) := by decide +kernel
theorem dX12_lose_51 : decode cX12_lose 51 = .ok (.aload_n 0, 1) := by decide +kernel
theorem dX12_lose_52 : decode cX12_lose 52 = .ok (.iload_n 1, 1) := by decide +kernel
theorem dX12_lose_53 : decode cX12_lose 53 = .ok (.iconst 1, 1) := by decide +kernel
theorem dX12_lose_54 : decode cX12_lose 54 = .ok (.invokevirtual 434, 3) := by decide +kernel
theorem dX12_lose_57 : decode cX12_lose 57 = .ok (.istore_n 2, 1) := by decide +kernel
theorem dX12_lose_58 : decode cX12_lose 58 = .ok (.aload_n 0, 1) := by decide +kernel
theorem dX12_lose_59 : decode cX12_lose 59 = .ok (.getfield 157, 3) := by decide +kernel
theorem dX12_lose_62 : decode cX12_lose 62 = .ok (.iload_n 2, 1) := by decide +kernel
theorem dX12_lose_63 : decode cX12_lose 63 = .ok (.aload_n 0, 1) := by decide +kernel
theorem dX12_lose_64 : decode cX12_lose 64 = .ok (.getfield 157, 3) := by decide +kernel
theorem dX12_lose_67 : decode cX12_lose 67 = .ok (.iload_n 2, 1) := by decide +kernel
theorem dX12_lose_68 : decode cX12_lose 68 = .ok (.iaload, 1) := by decide +kernel
theorem dX12_lose_69 : decode cX12_lose 69 = .ok (.aload_n 0, 1) := by decide +kernel
theorem dX12_lose_70 : decode cX12_lose 70 = .ok (.getfield 314, 3) := by decide +kernel
theorem dX12_lose_73 : decode cX12_lose 73 = .ok (.invokestatic 369, 3) := by decide +kernel
theorem dX12_lose_76 : decode cX12_lose 76 = .ok (.iastore, 1) := by decide +kernel
theorem dX12_lose_77 : decode cX12_lose 77 = .ok (.return_, 1) := by decide +kernel
theorem dX12_again_0 : decode cX12_again 0 = .ok (.aload_n 0, 1) := by decide +kernel
theorem dX12_again_1 : decode cX12_again 1 = .ok (.iconst 0, 1) := by decide +kernel
theorem dX12_again_2 : decode cX12_again 2 = .ok (.putfield 178, 3) := by decide +kernel
theorem dX12_again_5 : decode cX12_again 5 = .ok (.aload_n 0, 1) := by decide +kernel
theorem dX12_again_6 : decode cX12_again 6 = .ok (.aload_n 0, 1) := by decide +kernel
theorem dX12_again_7 : decode cX12_again 7 = .ok (.iload_n 1, 1) := by decide +kernel
theorem dX12_again_8 : decode cX12_again 8 = .ok (.invokevirtual 431, 3) := by decide +kernel
theorem dX12_again_11 : decode cX12_again 11 = .ok (.iconst 1, 1) := by decide +kernel
theorem dX12_again_12 : decode cX12_again 12 = .ok (.invokevirtual 321, 3) := by decide +kernel
theorem dX12_again_15 : decode cX12_again 15 = .ok (.ifCond .ne 27, 3) := by decide +kernel
theorem dX12_again_18 : decode cX12_again 18 = .ok (.aload_n 0, 1) := by decide +kernel
theorem dX12_again_19 : decode cX12_again 19 = .ok (.aload_n 0, 1) := by decide +kernel
theorem dX12_again_20 : decode cX12_again 20 = .ok (.iload_n 1, 1) := by decide +kernel
theorem dX12_again_21 : decode cX12_again 21 = .ok (.iconst 0, 1) := by decide +kernel
theorem dX12_again_22 : decode cX12_again 22 = .ok (.invokevirtual 434, 3) := by decide +kernel
theorem dX12_again_25 : decode cX12_again 25 = .ok (.bipush 8, 2) := by decide +kernel
theorem dX12_again_27 : decode cX12_again 27 = .ok (.if_icmp .eq 7, 3) := by decide +kernel
theorem dX12_again_30 : decode cX12_again 30 = .ok (.iconst 1, 1) := by decide +kernel
theorem dX12_again_31 : decode cX12_again 31 = .ok (.goto 4, 3) := by decide +kernel
theorem dX12_again_34 : decode cX12_again 34 = .ok (.iconst 0, 1) := by decide +kernel
theorem dX12_again_35 : decode cX12_again 35 = .ok (.iconst 2, 1) := by decide +kernel
theorem dX12_again_36 : decode cX12_again 36 = .ok (.invokevirtual 321, 3) := by decide +kernel
theorem dX12_again_39 : decode cX12_again 39 = .ok (.ifCond .eq 4, 3) := by decide +kernel
theorem dX12_again_42 : decode cX12_again 42 = .ok (.return_, 1) := by decide +kernel
theorem dX12_again_43 : decode cX12_again 43 = .ok (.aload_n 0, 1) := by decide +kernel
theorem dX12_again_44 : decode cX12_again 44 = .ok (.iload_n 1, 1) := by decide +kernel
theorem dX12_again_45 : decode cX12_again 45 = .ok (.iconst 0, 1) := by decide +kernel
theorem dX12_again_46 : decode cX12_again 46 = .ok (.iconst 5, 1) := by decide +kernel
theorem dX12_again_47 : decode cX12_again 47 = .ok (.invokevirtual 425, 3) := by decide +kernel
theorem dX12_again_50 : decode cX12_again 50 = .ok (.aload_n 0, 1) := by decide +kernel
theorem dX12_again_51 : decode cX12_again 51 = .ok (.iload_n 1, 1) := by decide +kernel
theorem dX12_again_52 : decode cX12_again 52 = .ok (.iconst 4, 1) := by decide +kernel
theorem dX12_again_53 : decode cX12_again 53 = .ok (.iconst (-1), 1) := by decide +kernel
theorem dX12_again_54 : decode cX12_again 54 = .ok (.invokevirtual 425, 3) := by decide +kernel
theorem dX12_again_57 : decode cX12_again 57 = .ok (.return_, 1) := by decide +kernel
theorem dX12_led_0 : decode cX12_led 0 = .ok (.aload_n 0, 1) := by decide +kernel
theorem dX12_led_1 : decode cX12_led 1 = .ok (.iconst 0, 1) := by decide +kernel
theorem dX12_led_2 : decode cX12_led 2 = .ok (.putfield 178, 3) := by decide +kernel
theorem dX12_led_5 : decode cX12_led 5 = .ok (.aload_n 0, 1) := by decide +kernel
theorem dX12_led_6 : decode cX12_led 6 = .ok (.aload_n 0, 1) := by decide +kernel
theorem dX12_led_7 : decode cX12_led 7 = .ok (.iload_n 1, 1) := by decide +kernel
theorem dX12_led_8 : decode cX12_led 8 = .ok (.invokevirtual 431, 3) := by decide +kernel
theorem dX12_led_11 : decode cX12_led 11 = .ok (.iconst 1, 1) := by decide +kernel
theorem dX12_led_12 : decode cX12_led 12 = .ok (.invokevirtual 321, 3) := by decide +kernel
theorem dX12_led_15 : decode cX12_led 15 = .ok (.ifCond .eq 5, 3) := by decide +kernel
theorem dX12_led_18 : decode cX12_led 18 = .ok (.iconst 0, 1) := by decide +kernel
theorem dX12_led_19 : decode cX12_led 19 = .ok (.ireturn, 1) := by decide +kernel
theorem dX12_led_20 : decode cX12_led 20 = .ok (.iload_n 2, 1) := by decide +kernel
theorem dX12_led_21 : decode cX12_led 21 = .ok (.tableswitch 191 0 15 #[79, 86, 93, 100, 107, 114, 121, 127, 134, 142, 149, 156, 163, 170, 177, 184], 79) := by decide +kernel
theorem dX12_led_100 : decode cX12_led 100 = .ok (.aload_n 0, 1) := by decide +kernel
theorem dX12_led_101 : decode cX12_led 101 = .ok (.iload_n 1, 1) := by decide +kernel
theorem dX12_led_102 : decode cX12_led 102 = .ok (.iconst 0, 1) := by decide +kernel
theorem dX12_led_103 : decode cX12_led 103 = .ok (.invokevirtual 434, 3) := by decide +kernel
theorem dX12_led_106 : decode cX12_led 106 = .ok (.ireturn, 1) := by decide +kernel
theorem dX12_led_107 : decode cX12_led 107 = .ok (.aload_n 0, 1) := by decide +kernel
theorem dX12_led_108 : decode cX12_led 108 = .ok (.getfield 112, 3) := by decide +kernel
theorem dX12_led_111 : decode cX12_led 111 = .ok (.iload_n 1, 1) := by decide +kernel
theorem dX12_led_112 : decode cX12_led 112 = .ok (.iaload, 1) := by decide +kernel
theorem dX12_led_113 : decode cX12_led 113 = .ok (.ireturn, 1) := by decide +kernel
theorem dX12_led_114 : decode cX12_led 114 = .ok (.aload_n 0, 1) := by decide +kernel
theorem dX12_led_115 : decode cX12_led 115 = .ok (.getfield 115, 3) := by decide +kernel
theorem dX12_led_118 : decode cX12_led 118 = .ok (.iload_n 1, 1) := by decide +kernel
theorem dX12_led_119 : decode cX12_led 119 = .ok (.iaload, 1) := by decide +kernel
theorem dX12_led_120 : decode cX12_led 120 = .ok (.ireturn, 1) := by decide +kernel
theorem dX12_led_121 : decode cX12_led 121 = .ok (.aload_n 0, 1) := by decide +kernel
theorem dX12_led_122 : decode cX12_led 122 = .ok (.getfield 118, 3) := by decide +kernel
theorem dX12_led_125 : decode cX12_led 125 = .ok (.iload_n 1, 1) := by decide +kernel
theorem dX12_led_126 : decode cX12_led 126 = .ok (.iaload, 1) := by decide +kernel
theorem dX12_led_127 : decode cX12_led 127 = .ok (.ireturn, 1) := by decide +kernel
theorem dX12_led_128 : decode cX12_led 128 = .ok (.aload_n 0, 1) := by decide +kernel
theorem dX12_led_129 : decode cX12_led 129 = .ok (.getfield 121, 3) := by decide +kernel
theorem dX12_led_132 : decode cX12_led 132 = .ok (.iload_n 1, 1) := by decide +kernel
theorem dX12_led_133 : decode cX12_led 133 = .ok (.iaload, 1) := by decide +kernel
theorem dX12_led_134 : decode cX12_led 134 = .ok (.ireturn, 1) := by decide +kernel
theorem dX12_led_135 : decode cX12_led 135 = .ok (.aload_n 0, 1) := by decide +kernel
theorem dX12_led_136 : decode cX12_led 136 = .ok (.getfield 124, 3) := by decide +kernel
theorem dX12_led_139 : decode cX12_led 139 = .ok (.iload_n 1, 1) := by decide +kernel
theorem dX12_led_140 : decode cX12_led 140 = .ok (.iaload, 1) := by decide +kernel
theorem dX12_led_141 : decode cX12_led 141 = .ok (.ireturn, 1) := by decide +kernel
theorem dX12_led_142 : decode cX12_led 142 = .ok (.aload_n 0, 1) := by decide +kernel
theorem dX12_led_143 : decode cX12_led 143 = .ok (.iload_n 1, 1) := by decide +kernel
theorem dX12_led_144 : decode cX12_led 144 = .ok (.invokevirtual 437, 3) := by decide +kernel
theorem dX12_led_147 : decode cX12_led 147 = .ok (.ireturn, 1) := by decide +kernel
theorem dX12_led_148 : decode cX12_led 148 = .ok (.aload_n 0, 1) := by decide +kernel
theorem dX12_led_149 : decode cX12_led 149 = .ok (.getfield 133, 3) := by decide +kernel
theorem dX12_led_152 : decode cX12_led 152 = .ok (.iload_n 1, 1) := by decide +kernel
theorem dX12_led_153 : decode cX12_led 153 = .ok (.iaload, 1) := by decide +kernel
theorem dX12_led_154 : decode cX12_led 154 = .ok (.ireturn, 1) := by decide +kernel
theorem dX12_led_155 : decode cX12_led 155 = .ok (.aload_n 0, 1) := by decide +kernel
theorem dX12_led_156 : decode cX12_led 156 = .ok (.iload_n 1, 1) := by decide +kernel
theorem dX12_led_157 : decode cX12_led 157 = .ok (.bipush 6, 2) := by decide +kernel
theorem dX12_led_159 : decode cX12_led 159 = .ok (.invokevirtual 434, 3) := by decide +kernel
theorem dX12_led_162 : decode cX12_led 162 = .ok (.ireturn, 1) := by decide +kernel
theorem dX12_led_163 : decode cX12_led 163 = .ok (.aload_n 0, 1) := by decide +kernel
theorem dX12_led_164 : decode cX12_led 164 = .ok (.getfield 139, 3) := by decide +kernel
theorem dX12_led_167 : decode cX12_led 167 = .ok (.iload_n 1, 1) := by decide +kernel
theorem dX12_led_168 : decode cX12_led 168 = .ok (.iaload, 1) := by decide +kernel
theorem dX12_led_169 : decode cX12_led 169 = .ok (.ireturn, 1) := by decide +kernel
theorem dX12_led_170 : decode cX12_led 170 = .ok (.aload_n 0, 1) := by decide +kernel
theorem dX12_led_171 : decode cX12_led 171 = .ok (.getfield 136, 3) := by decide +kernel
theorem dX12_led_174 : decode cX12_led 174 = .ok (.iload_n 1, 1) := by decide +kernel
theorem dX12_led_175 : decode cX12_led 175 = .ok (.iaload, 1) := by decide +kernel
theorem dX12_led_176 : decode cX12_led 176 = .ok (.ireturn, 1) := by decide +kernel
theorem dX12_led_177 : decode cX12_led 177 = .ok (.aload_n 0, 1) := by decide +kernel
theorem dX12_led_178 : decode cX12_led 178 = .ok (.iload_n 1, 1) := by decide +kernel
theorem dX12_led_179 : decode cX12_led 179 = .ok (.iconst 1, 1) := by decide +kernel
theorem dX12_led_180 : decode cX12_led 180 = .ok (.invokevirtual 434, 3) := by decide +kernel
theorem dX12_led_183 : decode cX12_led 183 = .ok (.ireturn, 1) := by decide +kernel
theorem dX12_led_184 : decode cX12_led 184 = .ok (.aload_n 0, 1) := by decide +kernel
theorem dX12_led_185 : decode cX12_led 185 = .ok (.iload_n 1, 1) := by decide +kernel
theorem dX12_led_186 : decode cX12_led 186 = .ok (.iconst 2, 1) := by decide +kernel
theorem dX12_led_187 : decode cX12_led 187 = .ok (.invokevirtual 434, 3) := by decide +kernel
theorem dX12_led_190 : decode cX12_led 190 = .ok (.ireturn, 1) := by decide +kernel
theorem dX12_led_191 : decode cX12_led 191 = .ok (.aload_n 0, 1) := by decide +kernel
theorem dX12_led_192 : decode cX12_led 192 = .ok (.iload_n 1, 1) := by decide +kernel
theorem dX12_led_193 : decode cX12_led 193 = .ok (.iconst 3, 1) := by decide +kernel
theorem dX12_led_194 : decode cX12_led 194 = .ok (.invokevirtual 434, 3) := by decide +kernel
theorem dX12_led_197 : decode cX12_led 197 = .ok (.ireturn, 1) := by decide +kernel
theorem dX12_led_198 : decode cX12_led 198 = .ok (.aload_n 0, 1) := by decide +kernel
theorem dX12_led_199 : decode cX12_led 199 = .ok (.iload_n 1, 1) := by decide +kernel
theorem dX12_led_200 : decode cX12_led 200 = .ok (.iconst 4, 1) := by decide +kernel
theorem dX12_led_201 : decode cX12_led 201 = .ok (.invokevirtual 434, 3) := by decide +kernel
theorem dX12_led_204 : decode cX12_led 204 = .ok (.ireturn, 1) := by decide +kernel
theorem dX12_led_205 : decode cX12_led 205 = .ok (.aload_n 0, 1) := by decide +kernel
theorem dX12_led_206 : decode cX12_led 206 = .ok (.iload_n 1, 1) := by decide +kernel
theorem dX12_led_207 : decode cX12_led 207 = .ok (.iconst 5, 1) := by decide +kernel
theorem dX12_led_208 : decode cX12_led 208 = .ok (.invokevirtual 434, 3) := by decide +kernel
theorem dX12_led_211 : decode cX12_led 211 = .ok (.ireturn, 1) := by decide +kernel
theorem dX12_led_212 : decode cX12_led 212 = .ok (.aload_n 0, 1) := by decide +kernel
theorem dX12_led_213 : decode cX12_led 213 = .ok (.iconst 2, 1) := by decide +kernel
theorem dX12_led_214 : decode cX12_led 214 = .ok (.putfield 178, 3) := by decide +kernel
theorem dX12_led_217 : decode cX12_led 217 = .ok (.iconst 0, 1) := by decide +kernel
theorem dX12_led_218 : decode cX12_led 218 = .ok (.ireturn, 1) := by decide +kernel
theorem dX12_queue_0 : decode cX12_queue 0 = .ok (.aload_n 0, 1) := by decide +kernel
theorem dX12_queue_1 : decode cX12_queue 1 = .ok (.iconst 0, 1) := by decide +kernel
theorem dX12_queue_2 : decode cX12_queue 2 = .ok (.putfield 178, 3) := by decide +kernel
theorem dX12_queue_5 : decode cX12_queue 5 = .ok (.aload_n 0, 1) := by decide +kernel
theorem dX12_queue_6 : decode cX12_queue 6 = .ok (.iload_n 1, 1) := by decide +kernel
theorem dX12_queue_7 : decode cX12_queue 7 = .ok (.invokestatic 394, 3) := by decide +kernel
theorem dX12_queue_10 : decode cX12_queue 10 = .ok (.iconst 1, 1) := by decide +kernel
theorem dX12_queue_11 : decode cX12_queue 11 = .ok (.invokevirtual 321, 3) := by decide +kernel
theorem dX12_queue_14 : decode cX12_queue 14 = .ok (.ifCond .eq 5, 3) := by decide +kernel
theorem dX12_queue_17 : decode cX12_queue 17 = .ok (.iconst 0, 1) := by decide +kernel
theorem dX12_queue_18 : decode cX12_queue 18 = .ok (.ireturn, 1) := by decide +kernel
theorem dX12_queue_19 : decode cX12_queue 19 = .ok (.aload_n 0, 1) := by decide +kernel
theorem dX12_queue_20 : decode cX12_queue 20 = .ok (.iload_n 1, 1) := by decide +kernel
theorem dX12_queue_21 : decode cX12_queue 21 = .ok (.aload_n 0, 1) := by decide +kernel
theorem dX12_queue_22 : decode cX12_queue 22 = .ok (.getfield 403, 3) := by decide +kernel
theorem dX12_queue_25 : decode cX12_queue 25 = .ok (.invokevirtual 468, 3) := by decide +kernel
theorem dX12_queue_28 : decode cX12_queue 28 = .ok (.aload_n 0, 1) := by decide +kernel
theorem dX12_queue_29 : decode cX12_queue 29 = .ok (.getfield 447, 3) := by decide +kernel
theorem dX12_queue_32 : decode cX12_queue 32 = .ok (.ireturn, 1) := by decide +kernel
theorem dX12_ahead_0 : decode cX12_ahead 0 = .ok (.aload_n 0, 1) := by decide +kernel
theorem dX12_ahead_1 : decode cX12_ahead 1 = .ok (.iconst 0, 1) := by decide +kernel
theorem dX12_ahead_2 : decode cX12_ahead 2 = .ok (.putfield 178, 3) := by decide +kernel
theorem dX12_ahead_5 : decode cX12_ahead 5 = .ok (.aload_n 0, 1) := by decide +kernel
theorem dX12_ahead_6 : decode cX12_ahead 6 = .ok (.aload_n 0, 1) := by decide +kernel
theorem dX12_ahead_7 : decode cX12_ahead 7 = .ok (.iload_n 1, 1) := by decide +kernel
theorem dX12_ahead_8 : decode cX12_ahead 8 = .ok (.invokevirtual 431, 3) := by decide +kernel
theorem dX12_ahead_11 : decode cX12_ahead 11 = .ok (.iconst 1, 1) := by decide +kernel
theorem dX12_ahead_12 : decode cX12_ahead 12 = .ok (.invokevirtual 321, 3) := by decide +kernel
theorem dX12_ahead_15 : decode cX12_ahead 15 = .ok (.ifCond .eq 5, 3) := by decide +kernel
theorem dX12_ahead_18 : decode cX12_ahead 18 = .ok (.iconst 0, 1) := by decide +kernel
theorem dX12_ahead_19 : decode cX12_ahead 19 = .ok (.ireturn, 1) := by decide +kernel
theorem dX12_ahead_20 : decode cX12_ahead 20 = .ok (.iconst 0, 1) := by decide +kernel
theorem dX12_ahead_21 : decode cX12_ahead 21 = .ok (.istore_n 2, 1) := by decide +kernel
theorem dX12_ahead_22 : decode cX12_ahead 22 = .ok (.iload_n 2, 1) := by decide +kernel
theorem dX12_ahead_23 : decode cX12_ahead 23 = .ok (.iconst 4, 1) := by decide +kernel
theorem dX12_ahead_24 : decode cX12_ahead 24 = .ok (.if_icmp .ge 89, 3) := by decide +kernel
theorem dX12_ahead_27 : decode cX12_ahead 27 = .ok (.aload_n 0, 1) := by decide +kernel
theorem dX12_ahead_28 : decode cX12_ahead 28 = .ok (.iload_n 1, 1) := by decide +kernel
theorem dX12_ahead_29 : decode cX12_ahead 29 = .ok (.iconst 0, 1) := by decide +kernel
theorem dX12_ahead_30 : decode cX12_ahead 30 = .ok (.invokevirtual 434, 3) := by decide +kernel
theorem dX12_ahead_33 : decode cX12_ahead 33 = .ok (.iload_n 2, 1) := by decide +kernel
theorem dX12_ahead_34 : decode cX12_ahead 34 = .ok (.invokestatic 450, 3) := by decide +kernel
theorem dX12_ahead_37 : decode cX12_ahead 37 = .ok (.if_icmp .eq 6, 3) := by decide +kernel
theorem dX12_ahead_40 : decode cX12_ahead 40 = .ok (.goto 67, 3) := by decide +kernel
theorem dX12_ahead_43 : decode cX12_ahead 43 = .ok (.iconst 0, 1) := by decide +kernel
theorem dX12_ahead_44 : decode cX12_ahead 44 = .ok (.istore_n 3, 1) := by decide +kernel
theorem dX12_ahead_45 : decode cX12_ahead 45 = .ok (.iconst 0, 1) := by decide +kernel
theorem dX12_ahead_46 : decode cX12_ahead 46 = .ok (.istore 4, 2) := by decide +kernel
theorem dX12_ahead_48 : decode cX12_ahead 48 = .ok (.iload 4, 2) := by decide +kernel
theorem dX12_ahead_50 : decode cX12_ahead 50 = .ok (.aload_n 0, 1) := by decide +kernel
theorem dX12_ahead_51 : decode cX12_ahead 51 = .ok (.getfield 412, 3) := by decide +kernel
theorem dX12_ahead_54 : decode cX12_ahead 54 = .ok (.if_icmp .ge 51, 3) := by decide +kernel
theorem dX12_ahead_57 : decode cX12_ahead 57 = .ok (.iload_n 3, 1) := by decide +kernel
theorem dX12_ahead_58 : decode cX12_ahead 58 = .ok (.iload 4, 2) := by decide +kernel
theorem dX12_ahead_60 : decode cX12_ahead 60 = .ok (.iload_n 1, 1) := by decide +kernel
theorem dX12_ahead_61 : decode cX12_ahead 61 = .ok (.if_icmp .eq 35, 3) := by decide +kernel
theorem dX12_ahead_64 : decode cX12_ahead 64 = .ok (.aload_n 0, 1) := by decide +kernel
theorem dX12_ahead_65 : decode cX12_ahead 65 = .ok (.iload 4, 2) := by decide +kernel
theorem dX12_ahead_67 : decode cX12_ahead 67 = .ok (.iconst 0, 1) := by decide +kernel
theorem dX12_ahead_68 : decode cX12_ahead 68 = .ok (.invokevirtual 434, 3) := by decide +kernel
theorem dX12_ahead_71 : decode cX12_ahead 71 = .ok (.iload_n 2, 1) := by decide +kernel
theorem dX12_ahead_72 : decode cX12_ahead 72 = .ok (.invokestatic 450, 3) := by decide +kernel
theorem dX12_ahead_75 : decode cX12_ahead 75 = .ok (.if_icmp .ne 21, 3) := by decide +kernel
theorem dX12_ahead_78 : decode cX12_ahead 78 = .ok (.aload_n 0, 1) := by decide +kernel
theorem dX12_ahead_79 : decode cX12_ahead 79 = .ok (.iload 4, 2) := by decide +kernel
theorem dX12_ahead_81 : decode cX12_ahead 81 = .ok (.iload_n 1, 1) := by decide +kernel
theorem dX12_ahead_82 : decode cX12_ahead 82 = .ok (.aload_n 0, 1) := by decide +kernel
theorem dX12_ahead_83 : decode cX12_ahead 83 = .ok (.getfield 403, 3) := by decide +kernel
theorem dX12_ahead_86 : decode cX12_ahead 86 = .ok (.invokevirtual 453, 3) := by decide +kernel
theorem dX12_ahead_89 : decode cX12_ahead 89 = .ok (.ifCond .eq 7, 3) := by decide +kernel
theorem dX12_ahead_92 : decode cX12_ahead 92 = .ok (.iconst 1, 1) := by decide +kernel
theorem dX12_ahead_93 : decode cX12_ahead 93 = .ok (.goto 4, 3) := by decide +kernel
theorem dX12_ahead_96 : decode cX12_ahead 96 = .ok (.iconst 0, 1) := by decide +kernel
theorem dX12_ahead_97 : decode cX12_ahead 97 = .ok (.iadd, 1) := by decide +kernel
theorem dX12_ahead_98 : decode cX12_ahead 98 = .ok (.istore_n 3, 1) := by decide +kernel
theorem dX12_ahead_99 : decode cX12_ahead 99 = .ok (.iinc 4 1, 3) := by decide +kernel
theorem dX12_ahead_102 : decode cX12_ahead 102 = .ok (.goto (-54), 3) := by decide +kernel
theorem dX12_ahead_105 : decode cX12_ahead 105 = .ok (.iload_n 3, 1) := by decide +kernel
theorem dX12_ahead_106 : decode cX12_ahead 106 = .ok (.ireturn, 1) := by decide +kernel
theorem dX12_ahead_107 : decode cX12_ahead 107 = .ok (.iinc 2 1, 3) := by decide +kernel
theorem dX12_ahead_110 : decode cX12_ahead 110 = .ok (.goto (-88), 3) := by decide +kernel
theorem dX12_ahead_113 : decode cX12_ahead 113 = .ok (.iconst (-1), 1) := by decide +kernel
theorem dX12_ahead_114 : decode cX12_ahead 114 = .ok (.ireturn, 1) := by decide +kernel
theorem dX12_booklet_0 : decode cX12_booklet 0 = .ok (.aload_n 0, 1) := by decide +kernel
theorem dX12_booklet_1 : decode cX12_booklet 1 = .ok (.iconst 0, 1) := by decide +kernel
theorem dX12_booklet_2 : decode cX12_booklet 2 = .ok (.putfield 178, 3) := by decide +kernel
theorem dX12_booklet_5 : decode cX12_booklet 5 = .ok (.aload_n 0, 1) := by decide +kernel
theorem dX12_booklet_6 : decode cX12_booklet 6 = .ok (.iload_n 1, 1) := by decide +kernel
theorem dX12_booklet_7 : decode cX12_booklet 7 = .ok (.iconst 0, 1) := by decide +kernel
theorem dX12_booklet_8 : decode cX12_booklet 8 = .ok (.aload_n 0, 1) := by decide +kernel
theorem dX12_booklet_9 : decode cX12_booklet 9 = .ok (.getfield 415, 3) := by decide +kernel
theorem dX12_booklet_12 : decode cX12_booklet 12 = .ok (.iconst 1, 1) := by decide +kernel
theorem dX12_booklet_13 : decode cX12_booklet 13 = .ok (.isub, 1) := by decide +kernel
theorem dX12_booklet_14 : decode cX12_booklet 14 = .ok (.invokestatic 317, 3) := by decide +kernel
theorem dX12_booklet_17 : decode cX12_booklet 17 = .ok (.ifCond .ne 7, 3) := by decide +kernel
theorem dX12_booklet_20 : decode cX12_booklet 20 = .ok (.iconst 1, 1) := by decide +kernel
theorem dX12_booklet_21 : decode cX12_booklet 21 = .ok (.goto 4, 3) := by decide +kernel
theorem dX12_booklet_24 : decode cX12_booklet 24 = .ok (.iconst 0, 1) := by decide +kernel
theorem dX12_booklet_25 : decode cX12_booklet 25 = .ok (.iconst 1, 1) := by decide +kernel
theorem dX12_booklet_26 : decode cX12_booklet 26 = .ok (.invokevirtual 321, 3) := by decide +kernel
theorem dX12_booklet_29 : decode cX12_booklet 29 = .ok (.ifCond .eq 5, 3) := by decide +kernel
theorem dX12_booklet_32 : decode cX12_booklet 32 = .ok (.iconst 0, 1) := by decide +kernel
theorem dX12_booklet_33 : decode cX12_booklet 33 = .ok (.ireturn, 1) := by decide +kernel
theorem dX12_booklet_34 : decode cX12_booklet 34 = .ok (.iload_n 2, 1) := by decide +kernel
theorem dX12_booklet_35 : decode cX12_booklet 35 = .ok (.tableswitch 57 0 3 #[29, 36, 43, 50], 29) := by decide +kernel
theorem dX12_booklet_64 : decode cX12_booklet 64 = .ok (.aload_n 0, 1) := by decide +kernel
theorem dX12_booklet_65 : decode cX12_booklet 65 = .ok (.getfield 151, 3) := by decide +kernel
theorem dX12_booklet_68 : decode cX12_booklet 68 = .ok (.iload_n 1, 1) := by decide +kernel
theorem dX12_booklet_69 : decode cX12_booklet 69 = .ok (.iaload, 1) := by decide +kernel
theorem dX12_booklet_70 : decode cX12_booklet 70 = .ok (.ireturn, 1) := by decide +kernel
theorem dX12_booklet_71 : decode cX12_booklet 71 = .ok (.aload_n 0, 1) := by decide +kernel
theorem dX12_booklet_72 : decode cX12_booklet 72 = .ok (.getfield 154, 3) := by decide +kernel
theorem dX12_booklet_75 : decode cX12_booklet 75 = .ok (.iload_n 1, 1) := by decide +kernel
theorem dX12_booklet_76 : decode cX12_booklet 76 = .ok (.iaload, 1) := by decide +kernel
theorem dX12_booklet_77 : decode cX12_booklet 77 = .ok (.ireturn, 1) := by decide +kernel
theorem dX12_booklet_78 : decode cX12_booklet 78 = .ok (.aload_n 0, 1) := by decide +kernel
theorem dX12_booklet_79 : decode cX12_booklet 79 = .ok (.getfield 157, 3) := by decide +kernel
theorem dX12_booklet_82 : decode cX12_booklet 82 = .ok (.iload_n 1, 1) := by decide +kernel
theorem dX12_booklet_83 : decode cX12_booklet 83 = .ok (.iaload, 1) := by decide +kernel
theorem dX12_booklet_84 : decode cX12_booklet 84 = .ok (.ireturn, 1) := by decide +kernel
theorem dX12_booklet_85 : decode cX12_booklet 85 = .ok (.aload_n 0, 1) := by decide +kernel
theorem dX12_booklet_86 : decode cX12_booklet 86 = .ok (.getfield 160, 3) := by decide +kernel
theorem dX12_booklet_89 : decode cX12_booklet 89 = .ok (.iload_n 1, 1) := by decide +kernel
theorem dX12_booklet_90 : decode cX12_booklet 90 = .ok (.iaload, 1) := by decide +kernel
theorem dX12_booklet_91 : decode cX12_booklet 91 = .ok (.ireturn, 1) := by decide +kernel
theorem dX12_booklet_92 : decode cX12_booklet 92 = .ok (.aload_n 0, 1) := by decide +kernel
theorem dX12_booklet_93 : decode cX12_booklet 93 = .ok (.iconst 2, 1) := by decide +kernel
theorem dX12_booklet_94 : decode cX12_booklet 94 = .ok (.putfield 178, 3) := by decide +kernel
theorem dX12_booklet_97 : decode cX12_booklet 97 = .ok (.iconst 0, 1) := by decide +kernel
theorem dX12_booklet_98 : decode cX12_booklet 98 = .ok (.ireturn, 1) := by decide +kernel
theorem dX12_valid_0 : decode cX12_valid 0 = .ok (.aload_n 0, 1) := by decide +kernel
theorem dX12_valid_1 : decode cX12_valid 1 = .ok (.iconst 0, 1) := by decide +kernel
theorem dX12_valid_2 : decode cX12_valid 2 = .ok (.putfield 178, 3) := by decide +kernel
theorem dX12_valid_5 : decode cX12_valid 5 = .ok (.aload_n 0, 1) := by decide +kernel
theorem dX12_valid_6 : decode cX12_valid 6 = .ok (.aload_n 0, 1) := by decide +kernel
theorem dX12_valid_7 : decode cX12_valid 7 = .ok (.iload_n 1, 1) := by decide +kernel
theorem dX12_valid_8 : decode cX12_valid 8 = .ok (.invokevirtual 385, 3) := by decide +kernel
theorem dX12_valid_11 : decode cX12_valid 11 = .ok (.iconst 1, 1) := by decide +kernel
theorem dX12_valid_12 : decode cX12_valid 12 = .ok (.invokevirtual 321, 3) := by decide +kernel
theorem dX12_valid_15 : decode cX12_valid 15 = .ok (.ifCond .eq 7, 3) := by decide +kernel
theorem dX12_valid_18 : decode cX12_valid 18 = .ok (.iconst 0, 1) := by decide +kernel
theorem dX12_valid_19 : decode cX12_valid 19 = .ok (.goto 9, 3) := by decide +kernel
theorem dX12_valid_22 : decode cX12_valid 22 = .ok (.aload_n 0, 1) := by decide +kernel
theorem dX12_valid_23 : decode cX12_valid 23 = .ok (.iload_n 1, 1) := by decide +kernel
theorem dX12_valid_24 : decode cX12_valid 24 = .ok (.iload_n 2, 1) := by decide +kernel
theorem dX12_valid_25 : decode cX12_valid 25 = .ok (.invokevirtual 337, 3) := by decide +kernel
theorem dX12_valid_28 : decode cX12_valid 28 = .ok (.ireturn, 1) := by decide +kernel
theorem dX12_missed_0 : decode cX12_missed 0 = .ok (.aload_n 0, 1) := by decide +kernel
theorem dX12_missed_1 : decode cX12_missed 1 = .ok (.iconst 0, 1) := by decide +kernel
theorem dX12_missed_2 : decode cX12_missed 2 = .ok (.putfield 178, 3) := by decide +kernel
theorem dX12_missed_5 : decode cX12_missed 5 = .ok (.aload_n 0, 1) := by decide +kernel
theorem dX12_missed_6 : decode cX12_missed 6 = .ok (.iload_n 1, 1) := by decide +kernel
theorem dX12_missed_7 : decode cX12_missed 7 = .ok (.iconst 0, 1) := by decide +kernel
theorem dX12_missed_8 : decode cX12_missed 8 = .ok (.iconst 2, 1) := by decide +kernel
theorem dX12_missed_9 : decode cX12_missed 9 = .ok (.invokestatic 317, 3) := by decide +kernel
theorem dX12_missed_12 : decode cX12_missed 12 = .ok (.ifCond .eq 13, 3) := by decide +kernel
theorem dX12_missed_15 : decode cX12_missed 15 = .ok (.iload_n 2, 1) := by decide +kernel
theorem dX12_missed_16 : decode cX12_missed 16 = .ok (.iconst 0, 1) := by decide +kernel
theorem dX12_missed_17 : decode cX12_missed 17 = .ok (.bipush 60, 2) := by decide +kernel
theorem dX12_missed_19 : decode cX12_missed 19 = .ok (.invokestatic 317, 3) := by decide +kernel
theorem dX12_missed_22 : decode cX12_missed 22 = .ok (.ifCond .ne 7, 3) := by decide +kernel
theorem dX12_missed_25 : decode cX12_missed 25 = .ok (.iconst 1, 1) := by decide +kernel
theorem dX12_missed_26 : decode cX12_missed 26 = .ok (.goto 4, 3) := by decide +kernel
theorem dX12_missed_29 : decode cX12_missed 29 = .ok (.iconst 0, 1) := by decide +kernel
theorem dX12_missed_30 : decode cX12_missed 30 = .ok (.iconst 1, 1) := by decide +kernel
theorem dX12_missed_31 : decode cX12_missed 31 = .ok (.invokevirtual 321, 3) := by decide +kernel
theorem dX12_missed_34 : decode cX12_missed 34 = .ok (.ifCond .eq 5, 3) := by decide +kernel
theorem dX12_missed_37 : decode cX12_missed 37 = .ok (.iconst 0, 1) := by decide +kernel
theorem dX12_missed_38 : decode cX12_missed 38 = .ok (.ireturn, 1) := by decide +kernel
theorem dX12_missed_39 : decode cX12_missed 39 = .ok (.iconst 0, 1) := by decide +kernel
theorem dX12_missed_40 : decode cX12_missed 40 = .ok (.istore_n 3, 1) := by decide +kernel
theorem dX12_missed_41 : decode cX12_missed 41 = .ok (.iload_n 3, 1) := by decide +kernel
theorem dX12_missed_42 : decode cX12_missed 42 = .ok (.bipush 7, 2) := by decide +kernel
theorem dX12_missed_44 : decode cX12_missed 44 = .ok (.aload_n 0, 1) := by decide +kernel
theorem dX12_missed_45 : decode cX12_missed 45 = .ok (.getfield 412, 3) := by decide +kernel
theorem dX12_missed_48 : decode cX12_missed 48 = .ok (.imul, 1) := by decide +kernel
theorem dX12_missed_49 : decode cX12_missed 49 = .ok (.if_icmp .ge 21, 3) := by decide +kernel
theorem dX12_missed_52 : decode cX12_missed 52 = .ok (.aload_n 0, 1) := by decide +kernel
theorem dX12_missed_53 : decode cX12_missed 53 = .ok (.getfield 166, 3) := by decide +kernel
theorem dX12_missed_56 : decode cX12_missed 56 = .ok (.iload_n 3, 1) := by decide +kernel
theorem dX12_missed_57 : decode cX12_missed 57 = .ok (.aload_n 0, 1) := by decide +kernel
theorem dX12_missed_58 : decode cX12_missed 58 = .ok (.getfield 148, 3) := by decide +kernel
theorem dX12_missed_61 : decode cX12_missed 61 = .ok (.iload_n 3, 1) := by decide +kernel
theorem dX12_missed_62 : decode cX12_missed 62 = .ok (.iaload, 1) := by decide +kernel
theorem dX12_missed_63 : decode cX12_missed 63 = .ok (.iastore, 1) := by decide +kernel
theorem dX12_missed_64 : decode cX12_missed 64 = .ok (.iinc 3 1, 3) := by decide +kernel
theorem dX12_missed_67 : decode cX12_missed 67 = .ok (.goto (-26), 3) := by decide +kernel
theorem dX12_missed_70 : decode cX12_missed 70 = .ok (.iconst 0, 1) := by decide +kernel
theorem dX12_missed_71 : decode cX12_missed 71 = .ok (.istore_n 3, 1) := by decide +kernel
theorem dX12_missed_72 : decode cX12_missed 72 = .ok (.iload_n 3, 1) := by decide +kernel
theorem dX12_missed_73 : decode cX12_missed 73 = .ok (.aload_n 0, 1) := by decide +kernel
theorem dX12_missed_74 : decode cX12_missed 74 = .ok (.getfield 415, 3) := by decide +kernel
theorem dX12_missed_77 : decode cX12_missed 77 = .ok (.if_icmp .ge 21, 3) := by decide +kernel
theorem dX12_missed_80 : decode cX12_missed 80 = .ok (.aload_n 0, 1) := by decide +kernel
theorem dX12_missed_81 : decode cX12_missed 81 = .ok (.getfield 169, 3) := by decide +kernel
theorem dX12_missed_84 : decode cX12_missed 84 = .ok (.iload_n 3, 1) := by decide +kernel
theorem dX12_missed_85 : decode cX12_missed 85 = .ok (.aload_n 0, 1) := by decide +kernel
theorem dX12_missed_86 : decode cX12_missed 86 = .ok (.getfield 157, 3) := by decide +kernel
theorem dX12_missed_89 : decode cX12_missed 89 = .ok (.iload_n 3, 1) := by decide +kernel
theorem dX12_missed_90 : decode cX12_missed 90 = .ok (.iaload, 1) := by decide +kernel
theorem dX12_missed_91 : decode cX12_missed 91 = .ok (.iastore, 1) := by decide +kernel
theorem dX12_missed_92 : decode cX12_missed 92 = .ok (.iinc 3 1, 3) := by decide +kernel
theorem dX12_missed_95 : decode cX12_missed 95 = .ok (.goto (-23), 3) := by decide +kernel
theorem dX12_missed_98 : decode cX12_missed 98 = .ok (.aload_n 0, 1) := by decide +kernel
theorem dX12_missed_99 : decode cX12_missed 99 = .ok (.getfield 314, 3) := by decide +kernel
theorem dX12_missed_102 : decode cX12_missed 102 = .ok (.istore_n 3, 1) := by decide +kernel
theorem dX12_missed_103 : decode cX12_missed 103 = .ok (.aload_n 0, 1) := by decide +kernel
theorem dX12_missed_104 : decode cX12_missed 104 = .ok (.getfield 415, 3) := by decide +kernel
theorem dX12_missed_107 : decode cX12_missed 107 = .ok (.istore 4, 2) := by decide +kernel
theorem dX12_missed_109 : decode cX12_missed 109 = .ok (.aload_n 0, 1) := by decide +kernel
theorem dX12_missed_110 : decode cX12_missed 110 = .ok (.getfield 406, 3) := by decide +kernel
theorem dX12_missed_113 : decode cX12_missed 113 = .ok (.istore 5, 2) := by decide +kernel
theorem dX12_missed_115 : decode cX12_missed 115 = .ok (.aload_n 0, 1) := by decide +kernel
theorem dX12_missed_116 : decode cX12_missed 116 = .ok (.getfield 456, 3) := by decide +kernel
theorem dX12_missed_119 : decode cX12_missed 119 = .ok (.istore 6, 2) := by decide +kernel
theorem dX12_missed_121 : decode cX12_missed 121 = .ok (.aload_n 0, 1) := by decide +kernel
theorem dX12_missed_122 : decode cX12_missed 122 = .ok (.getfield 465, 3) := by decide +kernel
theorem dX12_missed_125 : decode cX12_missed 125 = .ok (.istore 7, 2) := by decide +kernel
theorem dX12_missed_127 : decode cX12_missed 127 = .ok (.aload_n 0, 1) := by decide +kernel
theorem dX12_missed_128 : decode cX12_missed 128 = .ok (.getfield 484, 3) := by decide +kernel
theorem dX12_missed_131 : decode cX12_missed 131 = .ok (.istore 8, 2) := by decide +kernel
theorem dX12_missed_133 : decode cX12_missed 133 = .ok (.aload_n 0, 1) := by decide +kernel
theorem dX12_missed_134 : decode cX12_missed 134 = .ok (.getfield 481, 3) := by decide +kernel
theorem dX12_missed_137 : decode cX12_missed 137 = .ok (.istore 9, 2) := by decide +kernel
theorem dX12_missed_139 : decode cX12_missed 139 = .ok (.iconst 0, 1) := by decide +kernel
theorem dX12_missed_140 : decode cX12_missed 140 = .ok (.istore 10, 2) := by decide +kernel
theorem dX12_missed_142 : decode cX12_missed 142 = .ok (.iload 10, 2) := by decide +kernel
theorem dX12_missed_144 : decode cX12_missed 144 = .ok (.iload_n 2, 1) := by decide +kernel
theorem dX12_missed_145 : decode cX12_missed 145 = .ok (.if_icmp .ge 14, 3) := by decide +kernel
theorem dX12_missed_148 : decode cX12_missed 148 = .ok (.aload_n 0, 1) := by decide +kernel
theorem dX12_missed_149 : decode cX12_missed 149 = .ok (.iload_n 1, 1) := by decide +kernel
theorem dX12_missed_150 : decode cX12_missed 150 = .ok (.invokevirtual 490, 3) := by decide +kernel
theorem dX12_missed_153 : decode cX12_missed 153 = .ok (.iinc 10 1, 3) := by decide +kernel
theorem dX12_missed_156 : decode cX12_missed 156 = .ok (.goto (-14), 3) := by decide +kernel
theorem dX12_missed_159 : decode cX12_missed 159 = .ok (.iconst 0, 1) := by decide +kernel
theorem dX12_missed_160 : decode cX12_missed 160 = .ok (.istore 10, 2) := by decide +kernel
theorem dX12_missed_162 : decode cX12_missed 162 = .ok (.iconst 0, 1) := by decide +kernel
theorem dX12_missed_163 : decode cX12_missed 163 = .ok (.istore 11, 2) := by decide +kernel
theorem dX12_missed_165 : decode cX12_missed 165 = .ok (.iload 11, 2) := by decide +kernel
theorem dX12_missed_167 : decode cX12_missed 167 = .ok (.aload_n 0, 1) := by decide +kernel
theorem dX12_missed_168 : decode cX12_missed 168 = .ok (.getfield 412, 3) := by decide +kernel
theorem dX12_missed_171 : decode cX12_missed 171 = .ok (.if_icmp .ge 80, 3) := by decide +kernel
theorem dX12_missed_174 : decode cX12_missed 174 = .ok (.aload_n 0, 1) := by decide +kernel
theorem dX12_missed_175 : decode cX12_missed 175 = .ok (.getfield 166, 3) := by decide +kernel
theorem dX12_missed_178 : decode cX12_missed 178 = .ok (.bipush 7, 2) := by decide +kernel
theorem dX12_missed_180 : decode cX12_missed 180 = .ok (.iload 11, 2) := by decide +kernel
theorem dX12_missed_182 : decode cX12_missed 182 = .ok (.imul, 1) := by decide +kernel
theorem dX12_missed_183 : decode cX12_missed 183 = .ok (.iconst 0, 1) := by decide +kernel
theorem dX12_missed_184 : decode cX12_missed 184 = .ok (.iadd, 1) := by decide +kernel
theorem dX12_missed_185 : decode cX12_missed 185 = .ok (.iaload, 1) := by decide +kernel
theorem dX12_missed_186 : decode cX12_missed 186 = .ok (.bipush 6, 2) := by decide +kernel
theorem dX12_missed_188 : decode cX12_missed 188 = .ok (.if_icmp .gt 57, 3) := by decide +kernel
theorem dX12_missed_191 : decode cX12_missed 191 = .ok (.aload_n 0, 1) := by decide +kernel
theorem dX12_missed_192 : decode cX12_missed 192 = .ok (.getfield 121, 3) := by decide +kernel
theorem dX12_missed_195 : decode cX12_missed 195 = .ok (.iload 11, 2) := by decide +kernel
theorem dX12_missed_197 : decode cX12_missed 197 = .ok (.iaload, 1) := by decide +kernel
theorem dX12_missed_198 : decode cX12_missed 198 = .ok (.aload_n 0, 1) := by decide +kernel
theorem dX12_missed_199 : decode cX12_missed 199 = .ok (.getfield 314, 3) := by decide +kernel
theorem dX12_missed_202 : decode cX12_missed 202 = .ok (.if_icmp .le 6, 3) := by decide +kernel
theorem dX12_missed_205 : decode cX12_missed 205 = .ok (.goto 40, 3) := by decide +kernel
theorem dX12_missed_208 : decode cX12_missed 208 = .ok (.iload 10, 2) := by decide +kernel
theorem dX12_missed_210 : decode cX12_missed 210 = .ok (.aload_n 0, 1) := by decide +kernel
theorem dX12_missed_211 : decode cX12_missed 211 = .ok (.iload 11, 2) := by decide +kernel
theorem dX12_missed_213 : decode cX12_missed 213 = .ok (.iconst 3, 1) := by decide +kernel
theorem dX12_missed_214 : decode cX12_missed 214 = .ok (.invokevirtual 434, 3) := by decide +kernel
theorem dX12_missed_217 : decode cX12_missed 217 = .ok (.ifCond .lt 24, 3) := by decide +kernel
theorem dX12_missed_220 : decode cX12_missed 220 = .ok (.aload_n 0, 1) := by decide +kernel
theorem dX12_missed_221 : decode cX12_missed 221 = .ok (.iload 11, 2) := by decide +kernel
theorem dX12_missed_223 : decode cX12_missed 223 = .ok (.iconst 3, 1) := by decide +kernel
theorem dX12_missed_224 : decode cX12_missed 224 = .ok (.invokevirtual 434, 3) := by decide +kernel
theorem dX12_missed_227 : decode cX12_missed 227 = .ok (.aload_n 0, 1) := by decide +kernel
theorem dX12_missed_228 : decode cX12_missed 228 = .ok (.getfield 121, 3) := by decide +kernel
theorem dX12_missed_231 : decode cX12_missed 231 = .ok (.iload 11, 2) := by decide +kernel
theorem dX12_missed_233 : decode cX12_missed 233 = .ok (.iaload, 1) := by decide +kernel
theorem dX12_missed_234 : decode cX12_missed 234 = .ok (.if_icmp .gt 7, 3) := by decide +kernel
theorem dX12_missed_237 : decode cX12_missed 237 = .ok (.iconst 0, 1) := by decide +kernel
theorem dX12_missed_238 : decode cX12_missed 238 = .ok (.goto 4, 3) := by decide +kernel
theorem dX12_missed_241 : decode cX12_missed 241 = .ok (.iconst 1, 1) := by decide +kernel
theorem dX12_missed_242 : decode cX12_missed 242 = .ok (.iadd, 1) := by decide +kernel
theorem dX12_missed_243 : decode cX12_missed 243 = .ok (.istore 10, 2) := by decide +kernel
theorem dX12_missed_245 : decode cX12_missed 245 = .ok (.iinc 11 1, 3) := by decide +kernel
theorem dX12_missed_248 : decode cX12_missed 248 = .ok (.goto (-83), 3) := by decide +kernel
theorem dX12_missed_251 : decode cX12_missed 251 = .ok (.iconst 0, 1) := by decide +kernel
theorem dX12_missed_252 : decode cX12_missed 252 = .ok (.istore 11, 2) := by decide +kernel
theorem dX12_missed_254 : decode cX12_missed 254 = .ok (.iload 11, 2) := by decide +kernel
theorem dX12_missed_256 : decode cX12_missed 256 = .ok (.bipush 7, 2) := by decide +kernel
theorem dX12_missed_258 : decode cX12_missed 258 = .ok (.aload_n 0, 1) := by decide +kernel
theorem dX12_missed_259 : decode cX12_missed 259 = .ok (.getfield 412, 3) := by decide +kernel
theorem dX12_missed_262 : decode cX12_missed 262 = .ok (.imul, 1) := by decide +kernel
theorem dX12_missed_263 : decode cX12_missed 263 = .ok (.if_icmp .ge 23, 3) := by decide +kernel
theorem dX12_missed_266 : decode cX12_missed 266 = .ok (.aload_n 0, 1) := by decide +kernel
theorem dX12_missed_267 : decode cX12_missed 267 = .ok (.getfield 148, 3) := by decide +kernel
theorem dX12_missed_270 : decode cX12_missed 270 = .ok (.iload 11, 2) := by decide +kernel
theorem dX12_missed_272 : decode cX12_missed 272 = .ok (.aload_n 0, 1) := by decide +kernel
theorem dX12_missed_273 : decode cX12_missed 273 = .ok (.getfield 166, 3) := by decide +kernel
theorem dX12_missed_276 : decode cX12_missed 276 = .ok (.iload 11, 2) := by decide +kernel
theorem dX12_missed_278 : decode cX12_missed 278 = .ok (.iaload, 1) := by decide +kernel
theorem dX12_missed_279 : decode cX12_missed 279 = .ok (.iastore, 1) := by decide +kernel
theorem dX12_missed_280 : decode cX12_missed 280 = .ok (.iinc 11 1, 3) := by decide +kernel
theorem dX12_missed_283 : decode cX12_missed 283 = .ok (.goto (-29), 3) := by decide +kernel
theorem dX12_missed_286 : decode cX12_missed 286 = .ok (.iconst 0, 1) := by decide +kernel
theorem dX12_missed_287 : decode cX12_missed 287 = .ok (.istore 11, 2) := by decide +kernel
theorem dX12_missed_289 : decode cX12_missed 289 = .ok (.iload 11, 2) := by decide +kernel
theorem dX12_missed_291 : decode cX12_missed 291 = .ok (.iload 4, 2) := by decide +kernel
theorem dX12_missed_293 : decode cX12_missed 293 = .ok (.if_icmp .ge 23, 3) := by decide +kernel
theorem dX12_missed_296 : decode cX12_missed 296 = .ok (.aload_n 0, 1) := by decide +kernel
theorem dX12_missed_297 : decode cX12_missed 297 = .ok (.getfield 157, 3) := by decide +kernel
theorem dX12_missed_300 : decode cX12_missed 300 = .ok (.iload 11, 2) := by decide +kernel
theorem dX12_missed_302 : decode cX12_missed 302 = .ok (.aload_n 0, 1) := by decide +kernel
theorem dX12_missed_303 : decode cX12_missed 303 = .ok (.getfield 169, 3) := by decide +kernel
theorem dX12_missed_306 : decode cX12_missed 306 = .ok (.iload 11, 2) := by decide +kernel
theorem dX12_missed_308 : decode cX12_missed 308 = .ok (.iaload, 1) := by decide +kernel
theorem dX12_missed_309 : decode cX12_missed 309 = .ok (.iastore, 1) := by decide +kernel
theorem dX12_missed_310 : decode cX12_missed 310 = .ok (.iinc 11 1, 3) := by decide +kernel
theorem dX12_missed_313 : decode cX12_missed 313 = .ok (.goto (-24), 3) := by decide +kernel
theorem dX12_missed_316 : decode cX12_missed 316 = .ok (.aload_n 0, 1) := by decide +kernel
theorem dX12_missed_317 : decode cX12_missed 317 = .ok (.iload_n 3, 1) := by decide +kernel
theorem dX12_missed_318 : decode cX12_missed 318 = .ok (.putfield 314, 3) := by decide +kernel
theorem dX12_missed_321 : decode cX12_missed 321 = .ok (.aload_n 0, 1) := by decide +kernel
theorem dX12_missed_322 : decode cX12_missed 322 = .ok (.iload 4, 2) := by decide +kernel
theorem dX12_missed_324 : decode cX12_missed 324 = .ok (.putfield 415, 3) := by decide +kernel
theorem dX12_missed_327 : decode cX12_missed 327 = .ok (.aload_n 0, 1) := by decide +kernel
theorem dX12_missed_328 : decode cX12_missed 328 = .ok (.iload 5, 2) := by decide +kernel
theorem dX12_missed_330 : decode cX12_missed 330 = .ok (.putfield 406, 3) := by decide +kernel
theorem dX12_missed_333 : decode cX12_missed 333 = .ok (.aload_n 0, 1) := by decide +kernel
theorem dX12_missed_334 : decode cX12_missed 334 = .ok (.iload 6, 2) := by decide +kernel
theorem dX12_missed_336 : decode cX12_missed 336 = .ok (.putfield 456, 3) := by decide +kernel
theorem dX12_missed_339 : decode cX12_missed 339 = .ok (.aload_n 0, 1) := by decide +kernel
theorem dX12_missed_340 : decode cX12_missed 340 = .ok (.iload 7, 2) := by decide +kernel
theorem dX12_missed_342 : decode cX12_missed 342 = .ok (.putfield 465, 3) := by decide +kernel
theorem dX12_missed_345 : decode cX12_missed 345 = .ok (.aload_n 0, 1) := by decide +kernel
theorem dX12_missed_346 : decode cX12_missed 346 = .ok (.iload 8, 2) := by decide +kernel
theorem dX12_missed_348 : decode cX12_missed 348 = .ok (.putfield 484, 3) := by decide +kernel
theorem dX12_missed_351 : decode cX12_missed 351 = .ok (.aload_n 0, 1) := by decide +kernel
theorem dX12_missed_352 : decode cX12_missed 352 = .ok (.iload 9, 2) := by decide +kernel
theorem dX12_missed_354 : decode cX12_missed 354 = .ok (.putfield 481, 3) := by decide +kernel
theorem dX12_missed_357 : decode cX12_missed 357 = .ok (.iload 10, 2) := by decide +kernel
theorem dX12_missed_359 : decode cX12_missed 359 = .ok (.ireturn, 1) := by decide +kernel
theorem dX12_waits_0 : decode cX12_waits 0 = .ok (.aload_n 0, 1) := by decide +kernel
theorem dX12_waits_1 : decode cX12_waits 1 = .ok (.iconst 0, 1) := by decide +kernel
theorem dX12_waits_2 : decode cX12_waits 2 = .ok (.putfield 178, 3) := by decide +kernel
theorem dX12_waits_5 : decode cX12_waits 5 = .ok (.aload_n 0, 1) := by decide +kernel
theorem dX12_waits_6 : decode cX12_waits 6 = .ok (.iload_n 1, 1) := by decide +kernel
theorem dX12_waits_7 : decode cX12_waits 7 = .ok (.iconst 0, 1) := by decide +kernel
theorem dX12_waits_8 : decode cX12_waits 8 = .ok (.iconst 3, 1) := by decide +kernel
theorem dX12_waits_9 : decode cX12_waits 9 = .ok (.invokestatic 317, 3) := by decide +kernel
theorem dX12_waits_12 : decode cX12_waits 12 = .ok (.ifCond .ne 7, 3) := by decide +kernel
theorem dX12_waits_15 : decode cX12_waits 15 = .ok (.iconst 1, 1) := by decide +kernel
theorem dX12_waits_16 : decode cX12_waits 16 = .ok (.goto 4, 3) := by decide +kernel
theorem dX12_waits_19 : decode cX12_waits 19 = .ok (.iconst 0, 1) := by decide +kernel
theorem dX12_waits_20 : decode cX12_waits 20 = .ok (.iconst 1, 1) := by decide +kernel
theorem dX12_waits_21 : decode cX12_waits 21 = .ok (.invokevirtual 321, 3) := by decide +kernel
theorem dX12_waits_24 : decode cX12_waits 24 = .ok (.ifCond .eq 5, 3) := by decide +kernel
theorem dX12_waits_27 : decode cX12_waits 27 = .ok (.iconst 0, 1) := by decide +kernel
theorem dX12_waits_28 : decode cX12_waits 28 = .ok (.ireturn, 1) := by decide +kernel
theorem dX12_waits_29 : decode cX12_waits 29 = .ok (.iconst 0, 1) := by decide +kernel
theorem dX12_waits_30 : decode cX12_waits 30 = .ok (.istore_n 3, 1) := by decide +kernel
theorem dX12_waits_31 : decode cX12_waits 31 = .ok (.iconst 0, 1) := by decide +kernel
theorem dX12_waits_32 : decode cX12_waits 32 = .ok (.istore 4, 2) := by decide +kernel
theorem dX12_waits_34 : decode cX12_waits 34 = .ok (.iload 4, 2) := by decide +kernel
theorem dX12_waits_36 : decode cX12_waits 36 = .ok (.aload_n 0, 1) := by decide +kernel
theorem dX12_waits_37 : decode cX12_waits 37 = .ok (.getfield 412, 3) := by decide +kernel
theorem dX12_waits_40 : decode cX12_waits 40 = .ok (.if_icmp .ge 101, 3) := by decide +kernel
theorem dX12_waits_43 : decode cX12_waits 43 = .ok (.aload_n 0, 1) := by decide +kernel
theorem dX12_waits_44 : decode cX12_waits 44 = .ok (.getfield 115, 3) := by decide +kernel
theorem dX12_waits_47 : decode cX12_waits 47 = .ok (.iload 4, 2) := by decide +kernel
theorem dX12_waits_49 : decode cX12_waits 49 = .ok (.iaload, 1) := by decide +kernel
theorem dX12_waits_50 : decode cX12_waits 50 = .ok (.iload_n 1, 1) := by decide +kernel
theorem dX12_waits_51 : decode cX12_waits 51 = .ok (.if_icmp .ne 84, 3) := by decide +kernel
theorem dX12_waits_54 : decode cX12_waits 54 = .ok (.aload_n 0, 1) := by decide +kernel
theorem dX12_waits_55 : decode cX12_waits 55 = .ok (.iload 4, 2) := by decide +kernel
theorem dX12_waits_57 : decode cX12_waits 57 = .ok (.iconst 0, 1) := by decide +kernel
theorem dX12_waits_58 : decode cX12_waits 58 = .ok (.invokevirtual 434, 3) := by decide +kernel
theorem dX12_waits_61 : decode cX12_waits 61 = .ok (.bipush 7, 2) := by decide +kernel
theorem dX12_waits_63 : decode cX12_waits 63 = .ok (.if_icmp .eq 6, 3) := by decide +kernel
theorem dX12_waits_66 : decode cX12_waits 66 = .ok (.goto 69, 3) := by decide +kernel
theorem dX12_waits_69 : decode cX12_waits 69 = .ok (.iload_n 3, 1) := by decide +kernel
theorem dX12_waits_70 : decode cX12_waits 70 = .ok (.istore 5, 2) := by decide +kernel
theorem dX12_waits_72 : decode cX12_waits 72 = .ok (.iload 5, 2) := by decide +kernel
theorem dX12_waits_74 : decode cX12_waits 74 = .ok (.ifCond .le 49, 3) := by decide +kernel
theorem dX12_waits_77 : decode cX12_waits 77 = .ok (.aload_n 0, 1) := by decide +kernel
theorem dX12_waits_78 : decode cX12_waits 78 = .ok (.aload_n 0, 1) := by decide +kernel
theorem dX12_waits_79 : decode cX12_waits 79 = .ok (.getfield 175, 3) := by decide +kernel
theorem dX12_waits_82 : decode cX12_waits 82 = .ok (.iload 5, 2) := by decide +kernel
theorem dX12_waits_84 : decode cX12_waits 84 = .ok (.iconst 1, 1) := by decide +kernel
theorem dX12_waits_85 : decode cX12_waits 85 = .ok (.isub, 1) := by decide +kernel
theorem dX12_waits_86 : decode cX12_waits 86 = .ok (.iaload, 1) := by decide +kernel
theorem dX12_waits_87 : decode cX12_waits 87 = .ok (.iconst 3, 1) := by decide +kernel
theorem dX12_waits_88 : decode cX12_waits 88 = .ok (.invokevirtual 434, 3) := by decide +kernel
theorem dX12_waits_91 : decode cX12_waits 91 = .ok (.aload_n 0, 1) := by decide +kernel
theorem dX12_waits_92 : decode cX12_waits 92 = .ok (.iload 4, 2) := by decide +kernel
theorem dX12_waits_94 : decode cX12_waits 94 = .ok (.iconst 3, 1) := by decide +kernel
theorem dX12_waits_95 : decode cX12_waits 95 = .ok (.invokevirtual 434, 3) := by decide +kernel
theorem dX12_waits_98 : decode cX12_waits 98 = .ok (.if_icmp .le 25, 3) := by decide +kernel
theorem dX12_waits_101 : decode cX12_waits 101 = .ok (.aload_n 0, 1) := by decide +kernel
theorem dX12_waits_102 : decode cX12_waits 102 = .ok (.getfield 175, 3) := by decide +kernel
theorem dX12_waits_105 : decode cX12_waits 105 = .ok (.iload 5, 2) := by decide +kernel
theorem dX12_waits_107 : decode cX12_waits 107 = .ok (.aload_n 0, 1) := by decide +kernel
theorem dX12_waits_108 : decode cX12_waits 108 = .ok (.getfield 175, 3) := by decide +kernel
theorem dX12_waits_111 : decode cX12_waits 111 = .ok (.iload 5, 2) := by decide +kernel
theorem dX12_waits_113 : decode cX12_waits 113 = .ok (.iconst 1, 1) := by decide +kernel
theorem dX12_waits_114 : decode cX12_waits 114 = .ok (.isub, 1) := by decide +kernel
theorem dX12_waits_115 : decode cX12_waits 115 = .ok (.iaload, 1) := by decide +kernel
theorem dX12_waits_116 : decode cX12_waits 116 = .ok (.iastore, 1) := by decide +kernel
theorem dX12_waits_117 : decode cX12_waits 117 = .ok (.iinc 5 (-1), 3) := by decide +kernel
theorem dX12_waits_120 : decode cX12_waits 120 = .ok (.goto (-48), 3) := by decide +kernel
theorem dX12_waits_123 : decode cX12_waits 123 = .ok (.aload_n 0, 1) := by decide +kernel
theorem dX12_waits_124 : decode cX12_waits 124 = .ok (.getfield 175, 3) := by decide +kernel
theorem dX12_waits_127 : decode cX12_waits 127 = .ok (.iload 5, 2) := by decide +kernel
theorem dX12_waits_129 : decode cX12_waits 129 = .ok (.iload 4, 2) := by decide +kernel
theorem dX12_waits_131 : decode cX12_waits 131 = .ok (.iastore, 1) := by decide +kernel
theorem dX12_waits_132 : decode cX12_waits 132 = .ok (.iinc 3 1, 3) := by decide +kernel
theorem dX12_waits_135 : decode cX12_waits 135 = .ok (.iinc 4 1, 3) := by decide +kernel
theorem dX12_waits_138 : decode cX12_waits 138 = .ok (.goto (-104), 3) := by decide +kernel
theorem dX12_waits_141 : decode cX12_waits 141 = .ok (.bipush 20, 2) := by decide +kernel
theorem dX12_waits_143 : decode cX12_waits 143 = .ok (.iload_n 3, 1) := by decide +kernel
theorem dX12_waits_144 : decode cX12_waits 144 = .ok (.invokestatic 369, 3) := by decide +kernel
theorem dX12_waits_147 : decode cX12_waits 147 = .ok (.istore 4, 2) := by decide +kernel
theorem dX12_waits_149 : decode cX12_waits 149 = .ok (.iload 4, 2) := by decide +kernel
theorem dX12_waits_151 : decode cX12_waits 151 = .ok (.ifCond .ne 5, 3) := by decide +kernel
theorem dX12_waits_154 : decode cX12_waits 154 = .ok (.iconst (-1), 1) := by decide +kernel
theorem dX12_waits_155 : decode cX12_waits 155 = .ok (.ireturn, 1) := by decide +kernel
theorem dX12_waits_156 : decode cX12_waits 156 = .ok (.iconst 0, 1) := by decide +kernel
theorem dX12_waits_157 : decode cX12_waits 157 = .ok (.istore 5, 2) := by decide +kernel
theorem dX12_waits_159 : decode cX12_waits 159 = .ok (.iload 5, 2) := by decide +kernel
theorem dX12_waits_161 : decode cX12_waits 161 = .ok (.iload 4, 2) := by decide +kernel
theorem dX12_waits_163 : decode cX12_waits 163 = .ok (.if_icmp .ge 94, 3) := by decide +kernel
theorem dX12_waits_166 : decode cX12_waits 166 = .ok (.aload_n 0, 1) := by decide +kernel
theorem dX12_waits_167 : decode cX12_waits 167 = .ok (.getfield 175, 3) := by decide +kernel
theorem dX12_waits_170 : decode cX12_waits 170 = .ok (.iload_n 3, 1) := by decide +kernel
theorem dX12_waits_171 : decode cX12_waits 171 = .ok (.iload 4, 2) := by decide +kernel
theorem dX12_waits_173 : decode cX12_waits 173 = .ok (.isub, 1) := by decide +kernel
theorem dX12_waits_174 : decode cX12_waits 174 = .ok (.iload 5, 2) := by decide +kernel
theorem dX12_waits_176 : decode cX12_waits 176 = .ok (.iadd, 1) := by decide +kernel
theorem dX12_waits_177 : decode cX12_waits 177 = .ok (.iaload, 1) := by decide +kernel
theorem dX12_waits_178 : decode cX12_waits 178 = .ok (.istore 6, 2) := by decide +kernel
theorem dX12_waits_180 : decode cX12_waits 180 = .ok (.aload_n 0, 1) := by decide +kernel
theorem dX12_waits_181 : decode cX12_waits 181 = .ok (.iload 6, 2) := by decide +kernel
theorem dX12_waits_183 : decode cX12_waits 183 = .ok (.iconst 3, 1) := by decide +kernel
theorem dX12_waits_184 : decode cX12_waits 184 = .ok (.invokevirtual 434, 3) := by decide +kernel
theorem dX12_waits_187 : decode cX12_waits 187 = .ok (.aload_n 0, 1) := by decide +kernel
theorem dX12_waits_188 : decode cX12_waits 188 = .ok (.getfield 118, 3) := by decide +kernel
theorem dX12_waits_191 : decode cX12_waits 191 = .ok (.iload 6, 2) := by decide +kernel
theorem dX12_waits_193 : decode cX12_waits 193 = .ok (.iaload, 1) := by decide +kernel
theorem dX12_waits_194 : decode cX12_waits 194 = .ok (.isub, 1) := by decide +kernel
theorem dX12_waits_195 : decode cX12_waits 195 = .ok (.istore 7, 2) := by decide +kernel
theorem dX12_waits_197 : decode cX12_waits 197 = .ok (.iload 5, 2) := by decide +kernel
theorem dX12_waits_199 : decode cX12_waits 199 = .ok (.istore 8, 2) := by decide +kernel
theorem dX12_waits_201 : decode cX12_waits 201 = .ok (.iload 8, 2) := by decide +kernel
theorem dX12_waits_203 : decode cX12_waits 203 = .ok (.ifCond .le 39, 3) := by decide +kernel
theorem dX12_waits_206 : decode cX12_waits 206 = .ok (.aload_n 0, 1) := by decide +kernel
theorem dX12_waits_207 : decode cX12_waits 207 = .ok (.getfield 172, 3) := by decide +kernel
theorem dX12_waits_210 : decode cX12_waits 210 = .ok (.iload 8, 2) := by decide +kernel
theorem dX12_waits_212 : decode cX12_waits 212 = .ok (.iconst 1, 1) := by decide +kernel
theorem dX12_waits_213 : decode cX12_waits 213 = .ok (.isub, 1) := by decide +kernel
theorem dX12_waits_214 : decode cX12_waits 214 = .ok (.iaload, 1) := by decide +kernel
theorem dX12_waits_215 : decode cX12_waits 215 = .ok (.iload 7, 2) := by decide +kernel
theorem dX12_waits_217 : decode cX12_waits 217 = .ok (.if_icmp .le 25, 3) := by decide +kernel
theorem dX12_waits_220 : decode cX12_waits 220 = .ok (.aload_n 0, 1) := by decide +kernel
theorem dX12_waits_221 : decode cX12_waits 221 = .ok (.getfield 172, 3) := by decide +kernel
theorem dX12_waits_224 : decode cX12_waits 224 = .ok (.iload 8, 2) := by decide +kernel
theorem dX12_waits_226 : decode cX12_waits 226 = .ok (.aload_n 0, 1) := by decide +kernel
theorem dX12_waits_227 : decode cX12_waits 227 = .ok (.getfield 172, 3) := by decide +kernel
theorem dX12_waits_230 : decode cX12_waits 230 = .ok (.iload 8, 2) := by decide +kernel
theorem dX12_waits_232 : decode cX12_waits 232 = .ok (.iconst 1, 1) := by decide +kernel
theorem dX12_waits_233 : decode cX12_waits 233 = .ok (.isub, 1) := by decide +kernel
theorem dX12_waits_234 : decode cX12_waits 234 = .ok (.iaload, 1) := by decide +kernel
theorem dX12_waits_235 : decode cX12_waits 235 = .ok (.iastore, 1) := by decide +kernel
theorem dX12_waits_236 : decode cX12_waits 236 = .ok (.iinc 8 (-1), 3) := by decide +kernel
theorem dX12_waits_239 : decode cX12_waits 239 = .ok (.goto (-38), 3) := by decide +kernel
theorem dX12_waits_242 : decode cX12_waits 242 = .ok (.aload_n 0, 1) := by decide +kernel
theorem dX12_waits_243 : decode cX12_waits 243 = .ok (.getfield 172, 3) := by decide +kernel
theorem dX12_waits_246 : decode cX12_waits 246 = .ok (.iload 8, 2) := by decide +kernel
theorem dX12_waits_248 : decode cX12_waits 248 = .ok (.iload 7, 2) := by decide +kernel
theorem dX12_waits_250 : decode cX12_waits 250 = .ok (.iastore, 1) := by decide +kernel
theorem dX12_waits_251 : decode cX12_waits 251 = .ok (.iinc 5 1, 3) := by decide +kernel
theorem dX12_waits_254 : decode cX12_waits 254 = .ok (.goto (-95), 3) := by decide +kernel
theorem dX12_waits_257 : decode cX12_waits 257 = .ok (.iload_n 2, 1) := by decide +kernel
theorem dX12_waits_258 : decode cX12_waits 258 = .ok (.ifCond .eq 21, 3) := by decide +kernel
theorem dX12_waits_261 : decode cX12_waits 261 = .ok (.aload_n 0, 1) := by decide +kernel
theorem dX12_waits_262 : decode cX12_waits 262 = .ok (.getfield 172, 3) := by decide +kernel
theorem dX12_waits_265 : decode cX12_waits 265 = .ok (.iload 4, 2) := by decide +kernel
theorem dX12_waits_267 : decode cX12_waits 267 = .ok (.iconst 1, 1) := by decide +kernel
theorem dX12_waits_268 : decode cX12_waits 268 = .ok (.isub, 1) := by decide +kernel
theorem dX12_waits_269 : decode cX12_waits 269 = .ok (.iload 4, 2) := by decide +kernel
theorem dX12_waits_271 : decode cX12_waits 271 = .ok (.bipush 10, 2) := by decide +kernel
theorem dX12_waits_273 : decode cX12_waits 273 = .ok (.idiv, 1) := by decide +kernel
theorem dX12_waits_274 : decode cX12_waits 274 = .ok (.isub, 1) := by decide +kernel
theorem dX12_waits_275 : decode cX12_waits 275 = .ok (.iaload, 1) := by decide +kernel
theorem dX12_waits_276 : decode cX12_waits 276 = .ok (.goto 13, 3) := by decide +kernel
theorem dX12_waits_279 : decode cX12_waits 279 = .ok (.aload_n 0, 1) := by decide +kernel
theorem dX12_waits_280 : decode cX12_waits 280 = .ok (.getfield 172, 3) := by decide +kernel
theorem dX12_waits_283 : decode cX12_waits 283 = .ok (.iload 4, 2) := by decide +kernel
theorem dX12_waits_285 : decode cX12_waits 285 = .ok (.bipush 10, 2) := by decide +kernel
theorem dX12_waits_287 : decode cX12_waits 287 = .ok (.idiv, 1) := by decide +kernel
theorem dX12_waits_288 : decode cX12_waits 288 = .ok (.iaload, 1) := by decide +kernel
theorem dX12_waits_289 : decode cX12_waits 289 = .ok (.ireturn, 1) := by decide +kernel
theorem dX12_ends_0 : decode cX12_ends 0 = .ok (.aload_n 0, 1) := by decide +kernel
theorem dX12_ends_1 : decode cX12_ends 1 = .ok (.iconst 0, 1) := by decide +kernel
theorem dX12_ends_2 : decode cX12_ends 2 = .ok (.putfield 178, 3) := by decide +kernel
theorem dX12_ends_5 : decode cX12_ends 5 = .ok (.iconst 0, 1) := by decide +kernel
theorem dX12_ends_6 : decode cX12_ends 6 = .ok (.istore_n 3, 1) := by decide +kernel
theorem dX12_ends_7 : decode cX12_ends 7 = .ok (.iconst 0, 1) := by decide +kernel
theorem dX12_ends_8 : decode cX12_ends 8 = .ok (.istore 4, 2) := by decide +kernel
theorem dX12_ends_10 : decode cX12_ends 10 = .ok (.iload 4, 2) := by decide +kernel
theorem dX12_ends_12 : decode cX12_ends 12 = .ok (.aload_n 0, 1) := by decide +kernel
theorem dX12_ends_13 : decode cX12_ends 13 = .ok (.getfield 415, 3) := by decide +kernel
theorem dX12_ends_16 : decode cX12_ends 16 = .ok (.if_icmp .ge 32, 3) := by decide +kernel
theorem dX12_ends_19 : decode cX12_ends 19 = .ok (.iload_n 3, 1) := by decide +kernel
theorem dX12_ends_20 : decode cX12_ends 20 = .ok (.aload_n 0, 1) := by decide +kernel
theorem dX12_ends_21 : decode cX12_ends 21 = .ok (.getfield 157, 3) := by decide +kernel
theorem dX12_ends_24 : decode cX12_ends 24 = .ok (.iload 4, 2) := by decide +kernel
theorem dX12_ends_26 : decode cX12_ends 26 = .ok (.iaload, 1) := by decide +kernel
theorem dX12_ends_27 : decode cX12_ends 27 = .ok (.iload_n 1, 1) := by decide +kernel
theorem dX12_ends_28 : decode cX12_ends 28 = .ok (.iload_n 2, 1) := by decide +kernel
theorem dX12_ends_29 : decode cX12_ends 29 = .ok (.invokestatic 317, 3) := by decide +kernel
theorem dX12_ends_32 : decode cX12_ends 32 = .ok (.ifCond .eq 7, 3) := by decide +kernel
theorem dX12_ends_35 : decode cX12_ends 35 = .ok (.iconst 1, 1) := by decide +kernel
theorem dX12_ends_36 : decode cX12_ends 36 = .ok (.goto 4, 3) := by decide +kernel
theorem dX12_ends_39 : decode cX12_ends 39 = .ok (.iconst 0, 1) := by decide +kernel
theorem dX12_ends_40 : decode cX12_ends 40 = .ok (.iadd, 1) := by decide +kernel
theorem dX12_ends_41 : decode cX12_ends 41 = .ok (.istore_n 3, 1) := by decide +kernel
theorem dX12_ends_42 : decode cX12_ends 42 = .ok (.iinc 4 1, 3) := by decide +kernel
theorem dX12_ends_45 : decode cX12_ends 45 = .ok (.goto (-35), 3) := by decide +kernel
theorem dX12_ends_48 : decode cX12_ends 48 = .ok (.iload_n 3, 1) := by decide +kernel
theorem dX12_ends_49 : decode cX12_ends 49 = .ok (.ireturn, 1) := by decide +kernel
theorem dX12_inState_0 : decode cX12_inState 0 = .ok (.iconst 0, 1) := by decide +kernel
theorem dX12_inState_1 : decode cX12_inState 1 = .ok (.istore_n 3, 1) := by decide +kernel
theorem dX12_inState_2 : decode cX12_inState 2 = .ok (.iconst 0, 1) := by decide +kernel
theorem dX12_inState_3 : decode cX12_inState 3 = .ok (.istore 4, 2) := by decide +kernel
theorem dX12_inState_5 : decode cX12_inState 5 = .ok (.iload 4, 2) := by decide +kernel
theorem dX12_inState_7 : decode cX12_inState 7 = .ok (.aload_n 0, 1) := by decide +kernel
theorem dX12_inState_8 : decode cX12_inState 8 = .ok (.getfield 412, 3) := by decide +kernel
theorem dX12_inState_11 : decode cX12_inState 11 = .ok (.if_icmp .ge 32, 3) := by decide +kernel
theorem dX12_inState_14 : decode cX12_inState 14 = .ok (.iload_n 3, 1) := by decide +kernel
theorem dX12_inState_15 : decode cX12_inState 15 = .ok (.aload_n 0, 1) := by decide +kernel
theorem dX12_inState_16 : decode cX12_inState 16 = .ok (.iload 4, 2) := by decide +kernel
theorem dX12_inState_18 : decode cX12_inState 18 = .ok (.iconst 0, 1) := by decide +kernel
theorem dX12_inState_19 : decode cX12_inState 19 = .ok (.invokevirtual 434, 3) := by decide +kernel
theorem dX12_inState_22 : decode cX12_inState 22 = .ok (.iload_n 1, 1) := by decide +kernel
theorem dX12_inState_23 : decode cX12_inState 23 = .ok (.iload_n 2, 1) := by decide +kernel
theorem dX12_inState_24 : decode cX12_inState 24 = .ok (.invokestatic 317, 3) := by decide +kernel
theorem dX12_inState_27 : decode cX12_inState 27 = .ok (.ifCond .eq 7, 3) := by decide +kernel
theorem dX12_inState_30 : decode cX12_inState 30 = .ok (.iconst 1, 1) := by decide +kernel
theorem dX12_inState_31 : decode cX12_inState 31 = .ok (.goto 4, 3) := by decide +kernel
theorem dX12_inState_34 : decode cX12_inState 34 = .ok (.iconst 0, 1) := by decide +kernel
theorem dX12_inState_35 : decode cX12_inState 35 = .ok (.iadd, 1) := by decide +kernel
theorem dX12_inState_36 : decode cX12_inState 36 = .ok (.istore_n 3, 1) := by decide +kernel
theorem dX12_inState_37 : decode cX12_inState 37 = .ok (.iinc 4 1, 3) := by decide +kernel
theorem dX12_inState_40 : decode cX12_inState 40 = .ok (.goto (-35), 3) := by decide +kernel
theorem dX12_inState_43 : decode cX12_inState 43 = .ok (.iload_n 3, 1) := by decide +kernel
theorem dX12_inState_44 : decode cX12_inState 44 = .ok (.ireturn, 1) := by decide +kernel
theorem dX12_count_0 : decode cX12_count 0 = .ok (.aload_n 0, 1) := by decide +kernel
theorem dX12_count_1 : decode cX12_count 1 = .ok (.iconst 0, 1) := by decide +kernel
theorem dX12_count_2 : decode cX12_count 2 = .ok (.putfield 178, 3) := by decide +kernel
theorem dX12_count_5 : decode cX12_count 5 = .ok (.iload_n 1, 1) := by decide +kernel
theorem dX12_count_6 : decode cX12_count 6 = .ok (.tableswitch 216 0 17 #[86, 91, 96, 101, 106, 113, 122, 129, 134, 139, 144, 149, 154, 159, 164, 169, 198, 207], 86) := by decide +kernel
theorem dX12_count_92 : decode cX12_count 92 = .ok (.aload_n 0, 1) := by decide +kernel
theorem dX12_count_93 : decode cX12_count 93 = .ok (.getfield 314, 3) := by decide +kernel
theorem dX12_count_96 : decode cX12_count 96 = .ok (.ireturn, 1) := by decide +kernel
theorem dX12_count_97 : decode cX12_count 97 = .ok (.aload_n 0, 1) := by decide +kernel
theorem dX12_count_98 : decode cX12_count 98 = .ok (.getfield 372, 3) := by decide +kernel
theorem dX12_count_101 : decode cX12_count 101 = .ok (.ireturn, 1) := by decide +kernel
theorem dX12_count_102 : decode cX12_count 102 = .ok (.aload_n 0, 1) := by decide +kernel
theorem dX12_count_103 : decode cX12_count 103 = .ok (.getfield 328, 3) := by decide +kernel
theorem dX12_count_106 : decode cX12_count 106 = .ok (.ireturn, 1) := by decide +kernel
theorem dX12_count_107 : decode cX12_count 107 = .ok (.aload_n 0, 1) := by decide +kernel
theorem dX12_count_108 : decode cX12_count 108 = .ok (.getfield 412, 3) := by decide +kernel
theorem dX12_count_111 : decode cX12_count 111 = .ok (.ireturn, 1) := by decide +kernel
theorem dX12_count_112 : decode cX12_count 112 = .ok (.aload_n 0, 1) := by decide +kernel
theorem dX12_count_113 : decode cX12_count 113 = .ok (.iconst 0, 1) := by decide +kernel
theorem dX12_count_114 : decode cX12_count 114 = .ok (.iconst 5, 1) := by decide +kernel
theorem dX12_count_115 : decode cX12_count 115 = .ok (.invokevirtual 493, 3) := by decide +kernel
theorem dX12_count_118 : decode cX12_count 118 = .ok (.ireturn, 1) := by decide +kernel
theorem dX12_count_119 : decode cX12_count 119 = .ok (.aload_n 0, 1) := by decide +kernel
theorem dX12_count_120 : decode cX12_count 120 = .ok (.bipush 7, 2) := by decide +kernel
theorem dX12_count_122 : decode cX12_count 122 = .ok (.bipush 7, 2) := by decide +kernel
theorem dX12_count_124 : decode cX12_count 124 = .ok (.invokevirtual 493, 3) := by decide +kernel
theorem dX12_count_127 : decode cX12_count 127 = .ok (.ireturn, 1) := by decide +kernel
theorem dX12_count_128 : decode cX12_count 128 = .ok (.aload_n 0, 1) := by decide +kernel
theorem dX12_count_129 : decode cX12_count 129 = .ok (.iconst 3, 1) := by decide +kernel
theorem dX12_count_130 : decode cX12_count 130 = .ok (.iconst 3, 1) := by decide +kernel
theorem dX12_count_131 : decode cX12_count 131 = .ok (.invokevirtual 493, 3) := by decide +kernel
theorem dX12_count_134 : decode cX12_count 134 = .ok (.ireturn, 1) := by decide +kernel
theorem dX12_count_135 : decode cX12_count 135 = .ok (.aload_n 0, 1) := by decide +kernel
theorem dX12_count_136 : decode cX12_count 136 = .ok (.getfield 415, 3) := by decide +kernel
theorem dX12_count_139 : decode cX12_count 139 = .ok (.ireturn, 1) := by decide +kernel
theorem dX12_count_140 : decode cX12_count 140 = .ok (.aload_n 0, 1) := by decide +kernel
theorem dX12_count_141 : decode cX12_count 141 = .ok (.getfield 406, 3) := by decide +kernel
theorem dX12_count_144 : decode cX12_count 144 = .ok (.ireturn, 1) := by decide +kernel
theorem dX12_count_145 : decode cX12_count 145 = .ok (.aload_n 0, 1) := by decide +kernel
theorem dX12_count_146 : decode cX12_count 146 = .ok (.getfield 428, 3) := by decide +kernel
theorem dX12_count_149 : decode cX12_count 149 = .ok (.ireturn, 1) := by decide +kernel
theorem dX12_count_150 : decode cX12_count 150 = .ok (.aload_n 0, 1) := by decide +kernel
theorem dX12_count_151 : decode cX12_count 151 = .ok (.getfield 456, 3) := by decide +kernel
theorem dX12_count_154 : decode cX12_count 154 = .ok (.ireturn, 1) := by decide +kernel
theorem dX12_count_155 : decode cX12_count 155 = .ok (.aload_n 0, 1) := by decide +kernel
theorem dX12_count_156 : decode cX12_count 156 = .ok (.getfield 465, 3) := by decide +kernel
theorem dX12_count_159 : decode cX12_count 159 = .ok (.ireturn, 1) := by decide +kernel
theorem dX12_count_160 : decode cX12_count 160 = .ok (.aload_n 0, 1) := by decide +kernel
theorem dX12_count_161 : decode cX12_count 161 = .ok (.getfield 484, 3) := by decide +kernel
theorem dX12_count_164 : decode cX12_count 164 = .ok (.ireturn, 1) := by decide +kernel
theorem dX12_count_165 : decode cX12_count 165 = .ok (.aload_n 0, 1) := by decide +kernel
theorem dX12_count_166 : decode cX12_count 166 = .ok (.getfield 397, 3) := by decide +kernel
theorem dX12_count_169 : decode cX12_count 169 = .ok (.ireturn, 1) := by decide +kernel
theorem dX12_count_170 : decode cX12_count 170 = .ok (.aload_n 0, 1) := by decide +kernel
theorem dX12_count_171 : decode cX12_count 171 = .ok (.getfield 481, 3) := by decide +kernel
theorem dX12_count_174 : decode cX12_count 174 = .ok (.ireturn, 1) := by decide +kernel
theorem dX12_count_175 : decode cX12_count 175 = .ok (.aload_n 0, 1) := by decide +kernel
theorem dX12_count_176 : decode cX12_count 176 = .ok (.aload_n 0, 1) := by decide +kernel
theorem dX12_count_177 : decode cX12_count 177 = .ok (.getfield 314, 3) := by decide +kernel
theorem dX12_count_180 : decode cX12_count 180 = .ok (.invokevirtual 359, 3) := by decide +kernel
theorem dX12_count_183 : decode cX12_count 183 = .ok (.ifCond .ge 7, 3) := by decide +kernel
theorem dX12_count_186 : decode cX12_count 186 = .ok (.iconst 0, 1) := by decide +kernel
theorem dX12_count_187 : decode cX12_count 187 = .ok (.goto 16, 3) := by decide +kernel
theorem dX12_count_190 : decode cX12_count 190 = .ok (.aload_n 0, 1) := by decide +kernel
theorem dX12_count_191 : decode cX12_count 191 = .ok (.getfield 24, 3) := by decide +kernel
theorem dX12_count_194 : decode cX12_count 194 = .ok (.aload_n 0, 1) := by decide +kernel
theorem dX12_count_195 : decode cX12_count 195 = .ok (.aload_n 0, 1) := by decide +kernel
theorem dX12_count_196 : decode cX12_count 196 = .ok (.getfield 314, 3) := by decide +kernel
theorem dX12_count_199 : decode cX12_count 199 = .ok (.invokevirtual 359, 3) := by decide +kernel
theorem dX12_count_202 : decode cX12_count 202 = .ok (.iaload, 1) := by decide +kernel
theorem dX12_count_203 : decode cX12_count 203 = .ok (.ireturn, 1) := by decide +kernel
theorem dX12_count_204 : decode cX12_count 204 = .ok (.aload_n 0, 1) := by decide +kernel
theorem dX12_count_205 : decode cX12_count 205 = .ok (.bipush 9, 2) := by decide +kernel
theorem dX12_count_207 : decode cX12_count 207 = .ok (.bipush 9, 2) := by decide +kernel
theorem dX12_count_209 : decode cX12_count 209 = .ok (.invokevirtual 493, 3) := by decide +kernel
theorem dX12_count_212 : decode cX12_count 212 = .ok (.ireturn, 1) := by decide +kernel
theorem dX12_count_213 : decode cX12_count 213 = .ok (.aload_n 0, 1) := by decide +kernel
theorem dX12_count_214 : decode cX12_count 214 = .ok (.bipush 8, 2) := by decide +kernel
theorem dX12_count_216 : decode cX12_count 216 = .ok (.bipush 8, 2) := by decide +kernel
theorem dX12_count_218 : decode cX12_count 218 = .ok (.invokevirtual 493, 3) := by decide +kernel
theorem dX12_count_221 : decode cX12_count 221 = .ok (.ireturn, 1) := by decide +kernel
theorem dX12_count_222 : decode cX12_count 222 = .ok (.iconst (-1), 1) := by decide +kernel
theorem dX12_count_223 : decode cX12_count 223 = .ok (.ireturn, 1) := by decide +kernel
