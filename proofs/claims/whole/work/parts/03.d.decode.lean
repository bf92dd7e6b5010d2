theorem dX12_tolerance_110 : decode cX12_tolerance 110 = .ok (.iconst 0, 1) := by decide +kernel
theorem dX12_tolerance_111 : decode cX12_tolerance 111 = .ok (.if_icmp .ne 7, 3) := by decide +kernel
theorem dX12_tolerance_114 : decode cX12_tolerance 114 = .ok (.iconst 1, 1) := by decide +kernel
theorem dX12_tolerance_115 : decode cX12_tolerance 115 = .ok (.goto 4, 3) := by decide +kernel
theorem dX12_tolerance_118 : decode cX12_tolerance 118 = .ok (.iconst 0, 1) := by decide +kernel
theorem dX12_tolerance_119 : decode cX12_tolerance 119 = .ok (.istore 6, 2) := by decide +kernel
theorem dX12_tolerance_121 : decode cX12_tolerance 121 = .ok (.iload 5, 2) := by decide +kernel
theorem dX12_tolerance_123 : decode cX12_tolerance 123 = .ok (.iload 6, 2) := by decide +kernel
theorem dX12_tolerance_125 : decode cX12_tolerance 125 = .ok (.if_icmp .eq 5, 3) := by decide +kernel
theorem dX12_tolerance_128 : decode cX12_tolerance 128 = .ok (.iconst 0, 1) := by decide +kernel
theorem dX12_tolerance_129 : decode cX12_tolerance 129 = .ok (.ireturn, 1) := by decide +kernel
theorem dX12_tolerance_130 : decode cX12_tolerance 130 = .ok (.ldc2_w 171, 3) := by decide +kernel
theorem dX12_tolerance_133 : decode cX12_tolerance 133 = .ok (.lstore 7, 2) := by decide +kernel
theorem dX12_tolerance_135 : decode cX12_tolerance 135 = .ok (.iconst 0, 1) := by decide +kernel
theorem dX12_tolerance_136 : decode cX12_tolerance 136 = .ok (.istore 9, 2) := by decide +kernel
theorem dX12_tolerance_138 : decode cX12_tolerance 138 = .ok (.iload 9, 2) := by decide +kernel
theorem dX12_tolerance_140 : decode cX12_tolerance 140 = .ok (.aload_n 0, 1) := by decide +kernel
theorem dX12_tolerance_141 : decode cX12_tolerance 141 = .ok (.getfield 113, 3) := by decide +kernel
theorem dX12_tolerance_144 : decode cX12_tolerance 144 = .ok (.if_icmp .ge 96, 3) := by decide +kernel
theorem dX12_tolerance_147 : decode cX12_tolerance 147 = .ok (.aload_n 0, 1) := by decide +kernel
theorem dX12_tolerance_148 : decode cX12_tolerance 148 = .ok (.getfield 36, 3) := by decide +kernel
theorem dX12_tolerance_151 : decode cX12_tolerance 151 = .ok (.iload 9, 2) := by decide +kernel
theorem dX12_tolerance_153 : decode cX12_tolerance 153 = .ok (.iaload, 1) := by decide +kernel
theorem dX12_tolerance_154 : decode cX12_tolerance 154 = .ok (.iload_n 1, 1) := by decide +kernel
theorem dX12_tolerance_155 : decode cX12_tolerance 155 = .ok (.ishr, 1) := by decide +kernel
theorem dX12_tolerance_156 : decode cX12_tolerance 156 = .ok (.iconst 1, 1) := by decide +kernel
theorem dX12_tolerance_157 : decode cX12_tolerance 157 = .ok (.iand, 1) := by decide +kernel
theorem dX12_tolerance_158 : decode cX12_tolerance 158 = .ok (.iconst 1, 1) := by decide +kernel
theorem dX12_tolerance_159 : decode cX12_tolerance 159 = .ok (.if_icmp .ne 7, 3) := by decide +kernel
theorem dX12_tolerance_162 : decode cX12_tolerance 162 = .ok (.iconst 1, 1) := by decide +kernel
theorem dX12_tolerance_163 : decode cX12_tolerance 163 = .ok (.goto 4, 3) := by decide +kernel
theorem dX12_tolerance_166 : decode cX12_tolerance 166 = .ok (.iconst 0, 1) := by decide +kernel
theorem dX12_tolerance_167 : decode cX12_tolerance 167 = .ok (.iload 5, 2) := by decide +kernel
theorem dX12_tolerance_169 : decode cX12_tolerance 169 = .ok (.if_icmp .eq 65, 3) := by decide +kernel
theorem dX12_tolerance_172 : decode cX12_tolerance 172 = .ok (.aload_n 0, 1) := by decide +kernel
theorem dX12_tolerance_173 : decode cX12_tolerance 173 = .ok (.getfield 39, 3) := by decide +kernel
theorem dX12_tolerance_176 : decode cX12_tolerance 176 = .ok (.iload 9, 2) := by decide +kernel
theorem dX12_tolerance_178 : decode cX12_tolerance 178 = .ok (.iaload, 1) := by decide +kernel
theorem dX12_tolerance_179 : decode cX12_tolerance 179 = .ok (.aload_n 0, 1) := by decide +kernel
theorem dX12_tolerance_180 : decode cX12_tolerance 180 = .ok (.getfield 39, 3) := by decide +kernel
theorem dX12_tolerance_183 : decode cX12_tolerance 183 = .ok (.iload 4, 2) := by decide +kernel
theorem dX12_tolerance_185 : decode cX12_tolerance 185 = .ok (.iaload, 1) := by decide +kernel
theorem dX12_tolerance_186 : decode cX12_tolerance 186 = .ok (.isub, 1) := by decide +kernel
theorem dX12_tolerance_187 : decode cX12_tolerance 187 = .ok (.i2l, 1) := by decide +kernel
theorem dX12_tolerance_188 : decode cX12_tolerance 188 = .ok (.aload_n 0, 1) := by decide +kernel
theorem dX12_tolerance_189 : decode cX12_tolerance 189 = .ok (.getfield 42, 3) := by decide +kernel
theorem dX12_tolerance_192 : decode cX12_tolerance 192 = .ok (.iload 9, 2) := by decide +kernel
theorem dX12_tolerance_194 : decode cX12_tolerance 194 = .ok (.iaload, 1) := by decide +kernel
theorem dX12_tolerance_195 : decode cX12_tolerance 195 = .ok (.aload_n 0, 1) := by decide +kernel
theorem dX12_tolerance_196 : decode cX12_tolerance 196 = .ok (.getfield 42, 3) := by decide +kernel
theorem dX12_tolerance_199 : decode cX12_tolerance 199 = .ok (.iload 4, 2) := by decide +kernel
theorem dX12_tolerance_201 : decode cX12_tolerance 201 = .ok (.iaload, 1) := by decide +kernel
theorem dX12_tolerance_202 : decode cX12_tolerance 202 = .ok (.isub, 1) := by decide +kernel
theorem dX12_tolerance_203 : decode cX12_tolerance 203 = .ok (.i2l, 1) := by decide +kernel
theorem dX12_tolerance_204 : decode cX12_tolerance 204 = .ok (.iload_n 2, 1) := by decide +kernel
theorem dX12_tolerance_205 : decode cX12_tolerance 205 = .ok (.i2l, 1) := by decide +kernel
theorem dX12_tolerance_206 : decode cX12_tolerance 206 = .ok (.lmul, 1) := by decide +kernel
theorem dX12_tolerance_207 : decode cX12_tolerance 207 = .ok (.ladd, 1) := by decide +kernel
theorem dX12_tolerance_208 : decode cX12_tolerance 208 = .ok (.lstore 10, 2) := by decide +kernel
theorem dX12_tolerance_210 : decode cX12_tolerance 210 = .ok (.lload 7, 2) := by decide +kernel
theorem dX12_tolerance_212 : decode cX12_tolerance 212 = .ok (.lconst 0, 1) := by decide +kernel
theorem dX12_tolerance_213 : decode cX12_tolerance 213 = .ok (.lcmp, 1) := by decide +kernel
theorem dX12_tolerance_214 : decode cX12_tolerance 214 = .ok (.ifCond .lt 11, 3) := by decide +kernel
theorem dX12_tolerance_217 : decode cX12_tolerance 217 = .ok (.lload 10, 2) := by decide +kernel
theorem dX12_tolerance_219 : decode cX12_tolerance 219 = .ok (.lload 7, 2) := by decide +kernel
theorem dX12_tolerance_221 : decode cX12_tolerance 221 = .ok (.lcmp, 1) := by decide +kernel
theorem dX12_tolerance_222 : decode cX12_tolerance 222 = .ok (.ifCond .ge 8, 3) := by decide +kernel
theorem dX12_tolerance_225 : decode cX12_tolerance 225 = .ok (.lload 10, 2) := by decide +kernel
theorem dX12_tolerance_227 : decode cX12_tolerance 227 = .ok (.goto 5, 3) := by decide +kernel
theorem dX12_tolerance_230 : decode cX12_tolerance 230 = .ok (.lload 7, 2) := by decide +kernel
theorem dX12_tolerance_232 : decode cX12_tolerance 232 = .ok (.lstore 7, 2) := by decide +kernel
theorem dX12_tolerance_234 : decode cX12_tolerance 234 = .ok (.iinc 9 1, 3) := by decide +kernel
theorem dX12_tolerance_237 : decode cX12_tolerance 237 = .ok (.goto (-99), 3) := by decide +kernel
theorem dX12_tolerance_240 : decode cX12_tolerance 240 = .ok (.lload 7, 2) := by decide +kernel
theorem dX12_tolerance_242 : decode cX12_tolerance 242 = .ok (.lconst 0, 1) := by decide +kernel
theorem dX12_tolerance_243 : decode cX12_tolerance 243 = .ok (.lcmp, 1) := by decide +kernel
theorem dX12_tolerance_244 : decode cX12_tolerance 244 = .ok (.ifCond .ge 7, 3) := by decide +kernel
theorem dX12_tolerance_247 : decode cX12_tolerance 247 = .ok (.iconst 0, 1) := by decide +kernel
theorem dX12_tolerance_248 : decode cX12_tolerance 248 = .ok (.goto 10, 3) := by decide +kernel
theorem dX12_tolerance_251 : decode cX12_tolerance 251 = .ok (.aload_n 0, 1) := by decide +kernel
theorem dX12_tolerance_252 : decode cX12_tolerance 252 = .ok (.lload 7, 2) := by decide +kernel
theorem dX12_tolerance_254 : decode cX12_tolerance 254 = .ok (.lconst 1, 1) := by decide +kernel
theorem dX12_tolerance_255 : decode cX12_tolerance 255 = .ok (.invokevirtual 140, 3) := by decide +kernel
theorem dX12_tolerance_258 : decode cX12_tolerance 258 = .ok (.ireturn, 1) := by decide +kernel
theorem dX12_ratio_0 : decode cX12_ratio 0 = .ok (.aload_n 0, 1) := by decide +kernel
theorem dX12_ratio_1 : decode cX12_ratio 1 = .ok (.invokevirtual 133, 3) := by decide +kernel
theorem dX12_ratio_4 : decode cX12_ratio 4 = .ok (.aload_n 0, 1) := by decide +kernel
theorem dX12_ratio_5 : decode cX12_ratio 5 = .ok (.getfield 113, 3) := by decide +kernel
theorem dX12_ratio_8 : decode cX12_ratio 8 = .ok (.ifCond .eq 11, 3) := by decide +kernel
theorem dX12_ratio_11 : decode cX12_ratio 11 = .ok (.aload_n 0, 1) := by decide +kernel
theorem dX12_ratio_12 : decode cX12_ratio 12 = .ok (.getfield 65, 3) := by decide +kernel
theorem dX12_ratio_15 : decode cX12_ratio 15 = .ok (.iconst 3, 1) := by decide +kernel
theorem dX12_ratio_16 : decode cX12_ratio 16 = .ok (.if_icmp .lt 6, 3) := by decide +kernel
theorem dX12_ratio_19 : decode cX12_ratio 19 = .ok (.bipush (-3), 2) := by decide +kernel
theorem dX12_ratio_21 : decode cX12_ratio 21 = .ok (.ireturn, 1) := by decide +kernel
theorem dX12_ratio_22 : decode cX12_ratio 22 = .ok (.iconst 0, 1) := by decide +kernel
theorem dX12_ratio_23 : decode cX12_ratio 23 = .ok (.istore_n 1, 1) := by decide +kernel
theorem dX12_ratio_24 : decode cX12_ratio 24 = .ok (.iconst 0, 1) := by decide +kernel
theorem dX12_ratio_25 : decode cX12_ratio 25 = .ok (.istore_n 2, 1) := by decide +kernel
theorem dX12_ratio_26 : decode cX12_ratio 26 = .ok (.iload_n 2, 1) := by decide +kernel
theorem dX12_ratio_27 : decode cX12_ratio 27 = .ok (.aload_n 0, 1) := by decide +kernel
theorem dX12_ratio_28 : decode cX12_ratio 28 = .ok (.getfield 113, 3) := by decide +kernel
theorem dX12_ratio_31 : decode cX12_ratio 31 = .ok (.if_icmp .ge 61, 3) := by decide +kernel
theorem dX12_ratio_34 : decode cX12_ratio 34 = .ok (.aload_n 0, 1) := by decide +kernel
theorem dX12_ratio_35 : decode cX12_ratio 35 = .ok (.getfield 42, 3) := by decide +kernel
theorem dX12_ratio_38 : decode cX12_ratio 38 = .ok (.iload_n 2, 1) := by decide +kernel
theorem dX12_ratio_39 : decode cX12_ratio 39 = .ok (.iaload, 1) := by decide +kernel
theorem dX12_ratio_40 : decode cX12_ratio 40 = .ok (.ifCond .gt 6, 3) := by decide +kernel
theorem dX12_ratio_43 : decode cX12_ratio 43 = .ok (.bipush (-3), 2) := by decide +kernel
theorem dX12_ratio_45 : decode cX12_ratio 45 = .ok (.ireturn, 1) := by decide +kernel
theorem dX12_ratio_46 : decode cX12_ratio 46 = .ok (.aload_n 0, 1) := by decide +kernel
theorem dX12_ratio_47 : decode cX12_ratio 47 = .ok (.getfield 39, 3) := by decide +kernel
theorem dX12_ratio_50 : decode cX12_ratio 50 = .ok (.iload_n 2, 1) := by decide +kernel
theorem dX12_ratio_51 : decode cX12_ratio 51 = .ok (.iaload, 1) := by decide +kernel
theorem dX12_ratio_52 : decode cX12_ratio 52 = .ok (.i2l, 1) := by decide +kernel
theorem dX12_ratio_53 : decode cX12_ratio 53 = .ok (.aload_n 0, 1) := by decide +kernel
theorem dX12_ratio_54 : decode cX12_ratio 54 = .ok (.getfield 42, 3) := by decide +kernel
theorem dX12_ratio_57 : decode cX12_ratio 57 = .ok (.iload_n 1, 1) := by decide +kernel
theorem dX12_ratio_58 : decode cX12_ratio 58 = .ok (.iaload, 1) := by decide +kernel
theorem dX12_ratio_59 : decode cX12_ratio 59 = .ok (.i2l, 1) := by decide +kernel
theorem dX12_ratio_60 : decode cX12_ratio 60 = .ok (.lmul, 1) := by decide +kernel
theorem dX12_ratio_61 : decode cX12_ratio 61 = .ok (.aload_n 0, 1) := by decide +kernel
theorem dX12_ratio_62 : decode cX12_ratio 62 = .ok (.getfield 39, 3) := by decide +kernel
theorem dX12_ratio_65 : decode cX12_ratio 65 = .ok (.iload_n 1, 1) := by decide +kernel
theorem dX12_ratio_66 : decode cX12_ratio 66 = .ok (.iaload, 1) := by decide +kernel
theorem dX12_ratio_67 : decode cX12_ratio 67 = .ok (.i2l, 1) := by decide +kernel
theorem dX12_ratio_68 : decode cX12_ratio 68 = .ok (.aload_n 0, 1) := by decide +kernel
theorem dX12_ratio_69 : decode cX12_ratio 69 = .ok (.getfield 42, 3) := by decide +kernel
theorem dX12_ratio_72 : decode cX12_ratio 72 = .ok (.iload_n 2, 1) := by decide +kernel
theorem dX12_ratio_73 : decode cX12_ratio 73 = .ok (.iaload, 1) := by decide +kernel
theorem dX12_ratio_74 : decode cX12_ratio 74 = .ok (.i2l, 1) := by decide +kernel
theorem dX12_ratio_75 : decode cX12_ratio 75 = .ok (.lmul, 1) := by decide +kernel
theorem dX12_ratio_76 : decode cX12_ratio 76 = .ok (.lcmp, 1) := by decide +kernel
theorem dX12_ratio_77 : decode cX12_ratio 77 = .ok (.ifCond .ge 7, 3) := by decide +kernel
theorem dX12_ratio_80 : decode cX12_ratio 80 = .ok (.iload_n 2, 1) := by decide +kernel
theorem dX12_ratio_81 : decode cX12_ratio 81 = .ok (.goto 4, 3) := by decide +kernel
theorem dX12_ratio_84 : decode cX12_ratio 84 = .ok (.iload_n 1, 1) := by decide +kernel
theorem dX12_ratio_85 : decode cX12_ratio 85 = .ok (.istore_n 1, 1) := by decide +kernel
theorem dX12_ratio_86 : decode cX12_ratio 86 = .ok (.iinc 2 1, 3) := by decide +kernel
theorem dX12_ratio_89 : decode cX12_ratio 89 = .ok (.goto (-63), 3) := by decide +kernel
theorem dX12_ratio_92 : decode cX12_ratio 92 = .ok (.aload_n 0, 1) := by decide +kernel
theorem dX12_ratio_93 : decode cX12_ratio 93 = .ok (.aload_n 0, 1) := by decide +kernel
theorem dX12_ratio_94 : decode cX12_ratio 94 = .ok (.getfield 39, 3) := by decide +kernel
theorem dX12_ratio_97 : decode cX12_ratio 97 = .ok (.iload_n 1, 1) := by decide +kernel
theorem dX12_ratio_98 : decode cX12_ratio 98 = .ok (.iaload, 1) := by decide +kernel
theorem dX12_ratio_99 : decode cX12_ratio 99 = .ok (.i2l, 1) := by decide +kernel
theorem dX12_ratio_100 : decode cX12_ratio 100 = .ok (.aload_n 0, 1) := by decide +kernel
theorem dX12_ratio_101 : decode cX12_ratio 101 = .ok (.getfield 42, 3) := by decide +kernel
theorem dX12_ratio_104 : decode cX12_ratio 104 = .ok (.iload_n 1, 1) := by decide +kernel
theorem dX12_ratio_105 : decode cX12_ratio 105 = .ok (.iaload, 1) := by decide +kernel
theorem dX12_ratio_106 : decode cX12_ratio 106 = .ok (.i2l, 1) := by decide +kernel
theorem dX12_ratio_107 : decode cX12_ratio 107 = .ok (.invokevirtual 140, 3) := by decide +kernel
theorem dX12_ratio_110 : decode cX12_ratio 110 = .ok (.pop, 1) := by decide +kernel
theorem dX12_ratio_111 : decode cX12_ratio 111 = .ok (.aload_n 0, 1) := by decide +kernel
theorem dX12_ratio_112 : decode cX12_ratio 112 = .ok (.getfield 36, 3) := by decide +kernel
theorem dX12_ratio_115 : decode cX12_ratio 115 = .ok (.iload_n 1, 1) := by decide +kernel
theorem dX12_ratio_116 : decode cX12_ratio 116 = .ok (.iaload, 1) := by decide +kernel
theorem dX12_ratio_117 : decode cX12_ratio 117 = .ok (.ireturn, 1) := by decide +kernel
theorem dX12_rue_0 : decode cX12_rue 0 = .ok (.aload_n 0, 1) := by decide +kernel
theorem dX12_rue_1 : decode cX12_rue 1 = .ok (.invokevirtual 133, 3) := by decide +kernel
theorem dX12_rue_4 : decode cX12_rue 4 = .ok (.aload_n 0, 1) := by decide +kernel
theorem dX12_rue_5 : decode cX12_rue 5 = .ok (.getfield 113, 3) := by decide +kernel
theorem dX12_rue_8 : decode cX12_rue 8 = .ok (.ifCond .ne 6, 3) := by decide +kernel
theorem dX12_rue_11 : decode cX12_rue 11 = .ok (.bipush (-3), 2) := by decide +kernel
theorem dX12_rue_13 : decode cX12_rue 13 = .ok (.ireturn, 1) := by decide +kernel
theorem dX12_rue_14 : decode cX12_rue 14 = .ok (.aload_n 0, 1) := by decide +kernel
theorem dX12_rue_15 : decode cX12_rue 15 = .ok (.lconst 0, 1) := by decide +kernel
theorem dX12_rue_16 : decode cX12_rue 16 = .ok (.lconst 1, 1) := by decide +kernel
theorem dX12_rue_17 : decode cX12_rue 17 = .ok (.invokevirtual 136, 3) := by decide +kernel
theorem dX12_rue_20 : decode cX12_rue 20 = .ok (.istore_n 1, 1) := by decide +kernel
theorem dX12_rue_21 : decode cX12_rue 21 = .ok (.aload_n 0, 1) := by decide +kernel
theorem dX12_rue_22 : decode cX12_rue 22 = .ok (.aload_n 0, 1) := by decide +kernel
theorem dX12_rue_23 : decode cX12_rue 23 = .ok (.getfield 7, 3) := by decide +kernel
theorem dX12_rue_26 : decode cX12_rue 26 = .ok (.i2l, 1) := by decide +kernel
theorem dX12_rue_27 : decode cX12_rue 27 = .ok (.lconst 1, 1) := by decide +kernel
theorem dX12_rue_28 : decode cX12_rue 28 = .ok (.invokevirtual 136, 3) := by decide +kernel
theorem dX12_rue_31 : decode cX12_rue 31 = .ok (.istore_n 2, 1) := by decide +kernel
theorem dX12_rue_32 : decode cX12_rue 32 = .ok (.iconst (-1), 1) := by decide +kernel
theorem dX12_rue_33 : decode cX12_rue 33 = .ok (.istore_n 3, 1) := by decide +kernel
theorem dX12_rue_34 : decode cX12_rue 34 = .ok (.lconst 0, 1) := by decide +kernel
theorem dX12_rue_35 : decode cX12_rue 35 = .ok (.lstore 4, 2) := by decide +kernel
theorem dX12_rue_37 : decode cX12_rue 37 = .ok (.iconst 0, 1) := by decide +kernel
theorem dX12_rue_38 : decode cX12_rue 38 = .ok (.istore 6, 2) := by decide +kernel
theorem dX12_rue_40 : decode cX12_rue 40 = .ok (.iload 6, 2) := by decide +kernel
theorem dX12_rue_42 : decode cX12_rue 42 = .ok (.aload_n 0, 1) := by decide +kernel
theorem dX12_rue_43 : decode cX12_rue 43 = .ok (.getfield 113, 3) := by decide +kernel
theorem dX12_rue_46 : decode cX12_rue 46 = .ok (.if_icmp .ge 110, 3) := by decide +kernel
theorem dX12_rue_49 : decode cX12_rue 49 = .ok (.aload_n 0, 1) := by decide +kernel
theorem dX12_rue_50 : decode cX12_rue 50 = .ok (.getfield 39, 3) := by decide +kernel
theorem dX12_rue_53 : decode cX12_rue 53 = .ok (.iload 6, 2) := by decide +kernel
theorem dX12_rue_55 : decode cX12_rue 55 = .ok (.iaload, 1) := by decide +kernel
theorem dX12_rue_56 : decode cX12_rue 56 = .ok (.aload_n 0, 1) := by decide +kernel
theorem dX12_rue_57 : decode cX12_rue 57 = .ok (.getfield 39, 3) := by decide +kernel
theorem dX12_rue_60 : decode cX12_rue 60 = .ok (.iload_n 1, 1) := by decide +kernel
theorem dX12_rue_61 : decode cX12_rue 61 = .ok (.iaload, 1) := by decide +kernel
theorem dX12_rue_62 : decode cX12_rue 62 = .ok (.isub, 1) := by decide +kernel
theorem dX12_rue_63 : decode cX12_rue 63 = .ok (.i2l, 1) := by decide +kernel
theorem dX12_rue_64 : decode cX12_rue 64 = .ok (.lstore 7, 2) := by decide +kernel
theorem dX12_rue_66 : decode cX12_rue 66 = .ok (.aload_n 0, 1) := by decide +kernel
theorem dX12_rue_67 : decode cX12_rue 67 = .ok (.getfield 39, 3) := by decide +kernel
theorem dX12_rue_70 : decode cX12_rue 70 = .ok (.iload 6, 2) := by decide +kernel
theorem dX12_rue_72 : decode cX12_rue 72 = .ok (.iaload, 1) := by decide +kernel
theorem dX12_rue_73 : decode cX12_rue 73 = .ok (.i2l, 1) := by decide +kernel
theorem dX12_rue_74 : decode cX12_rue 74 = .ok (.aload_n 0, 1) := by decide +kernel
theorem dX12_rue_75 : decode cX12_rue 75 = .ok (.getfield 42, 3) := by decide +kernel
theorem dX12_rue_78 : decode cX12_rue 78 = .ok (.iload 6, 2) := by decide +kernel
theorem dX12_rue_80 : decode cX12_rue 80 = .ok (.iaload, 1) := by decide +kernel
theorem dX12_rue_81 : decode cX12_rue 81 = .ok (.i2l, 1) := by decide +kernel
theorem dX12_rue_82 : decode cX12_rue 82 = .ok (.aload_n 0, 1) := by decide +kernel
theorem dX12_rue_83 : decode cX12_rue 83 = .ok (.getfield 7, 3) := by decide +kernel
theorem dX12_rue_86 : decode cX12_rue 86 = .ok (.i2l, 1) := by decide +kernel
theorem dX12_rue_87 : decode cX12_rue 87 = .ok (.lmul, 1) := by decide +kernel
theorem dX12_rue_88 : decode cX12_rue 88 = .ok (.ladd, 1) := by decide +kernel
theorem dX12_rue_89 : decode cX12_rue 89 = .ok (.aload_n 0, 1) := by decide +kernel
theorem dX12_rue_90 : decode cX12_rue 90 = .ok (.getfield 39, 3) := by decide +kernel
theorem dX12_rue_93 : decode cX12_rue 93 = .ok (.iload_n 2, 1) := by decide +kernel
theorem dX12_rue_94 : decode cX12_rue 94 = .ok (.iaload, 1) := by decide +kernel
theorem dX12_rue_95 : decode cX12_rue 95 = .ok (.i2l, 1) := by decide +kernel
theorem dX12_rue_96 : decode cX12_rue 96 = .ok (.lsub, 1) := by decide +kernel
theorem dX12_rue_97 : decode cX12_rue 97 = .ok (.aload_n 0, 1) := by decide +kernel
theorem dX12_rue_98 : decode cX12_rue 98 = .ok (.getfield 42, 3) := by decide +kernel
theorem dX12_rue_101 : decode cX12_rue 101 = .ok (.iload_n 2, 1) := by decide +kernel
theorem dX12_rue_102 : decode cX12_rue 102 = .ok (.iaload, 1) := by decide +kernel
theorem dX12_rue_103 : decode cX12_rue 103 = .ok (.i2l, 1) := by decide +kernel
theorem dX12_rue_104 : decode cX12_rue 104 = .ok (.aload_n 0, 1) := by decide +kernel
theorem dX12_rue_105 : decode cX12_rue 105 = .ok (.getfield 7, 3) := by decide +kernel
theorem dX12_rue_108 : decode cX12_rue 108 = .ok (.i2l, 1) := by decide +kernel
theorem dX12_rue_109 : decode cX12_rue 109 = .ok (.lmul, 1) := by decide +kernel
theorem dX12_rue_110 : decode cX12_rue 110 = .ok (.lsub, 1) := by decide +kernel
theorem dX12_rue_111 : decode cX12_rue 111 = .ok (.lstore 9, 2) := by decide +kernel
theorem dX12_rue_113 : decode cX12_rue 113 = .ok (.lload 7, 2) := by decide +kernel
theorem dX12_rue_115 : decode cX12_rue 115 = .ok (.lload 9, 2) := by decide +kernel
theorem dX12_rue_117 : decode cX12_rue 117 = .ok (.lcmp, 1) := by decide +kernel
theorem dX12_rue_118 : decode cX12_rue 118 = .ok (.ifCond .le 8, 3) := by decide +kernel
theorem dX12_rue_121 : decode cX12_rue 121 = .ok (.lload 7, 2) := by decide +kernel
theorem dX12_rue_123 : decode cX12_rue 123 = .ok (.goto 5, 3) := by decide +kernel
theorem dX12_rue_126 : decode cX12_rue 126 = .ok (.lload 9, 2) := by decide +kernel
theorem dX12_rue_128 : decode cX12_rue 128 = .ok (.lstore 11, 2) := by decide +kernel
theorem dX12_rue_130 : decode cX12_rue 130 = .ok (.iload_n 3, 1) := by decide +kernel
theorem dX12_rue_131 : decode cX12_rue 131 = .ok (.iconst (-1), 1) := by decide +kernel
theorem dX12_rue_132 : decode cX12_rue 132 = .ok (.if_icmp .eq 11, 3) := by decide +kernel
theorem dX12_rue_135 : decode cX12_rue 135 = .ok (.lload 11, 2) := by decide +kernel
theorem dX12_rue_137 : decode cX12_rue 137 = .ok (.lload 4, 2) := by decide +kernel
theorem dX12_rue_139 : decode cX12_rue 139 = .ok (.lcmp, 1) := by decide +kernel
theorem dX12_rue_140 : decode cX12_rue 140 = .ok (.ifCond .ge 10, 3) := by decide +kernel
theorem dX12_rue_143 : decode cX12_rue 143 = .ok (.iload 6, 2) := by decide +kernel
theorem dX12_rue_145 : decode cX12_rue 145 = .ok (.istore_n 3, 1) := by decide +kernel
theorem dX12_rue_146 : decode cX12_rue 146 = .ok (.lload 11, 2) := by decide +kernel
theorem dX12_rue_148 : decode cX12_rue 148 = .ok (.lstore 4, 2) := by decide +kernel
theorem dX12_rue_150 : decode cX12_rue 150 = .ok (.iinc 6 1, 3) := by decide +kernel
theorem dX12_rue_153 : decode cX12_rue 153 = .ok (.goto (-113), 3) := by decide +kernel
theorem dX12_rue_156 : decode cX12_rue 156 = .ok (.aload_n 0, 1) := by decide +kernel
theorem dX12_rue_157 : decode cX12_rue 157 = .ok (.lload 4, 2) := by decide +kernel
theorem dX12_rue_159 : decode cX12_rue 159 = .ok (.lconst 1, 1) := by decide +kernel
theorem dX12_rue_160 : decode cX12_rue 160 = .ok (.invokevirtual 140, 3) := by decide +kernel
theorem dX12_rue_163 : decode cX12_rue 163 = .ok (.pop, 1) := by decide +kernel
theorem dX12_rue_164 : decode cX12_rue 164 = .ok (.aload_n 0, 1) := by decide +kernel
theorem dX12_rue_165 : decode cX12_rue 165 = .ok (.getfield 36, 3) := by decide +kernel
theorem dX12_rue_168 : decode cX12_rue 168 = .ok (.iload_n 3, 1) := by decide +kernel
theorem dX12_rue_169 : decode cX12_rue 169 = .ok (.iaload, 1) := by decide +kernel
theorem dX12_rue_170 : decode cX12_rue 170 = .ok (.ireturn, 1) := by decide +kernel
theorem dX12_grown_0 : decode cX12_grown 0 = .ok (.aload_n 0, 1) := by decide +kernel
theorem dX12_grown_1 : decode cX12_grown 1 = .ok (.getfield 65, 3) := by decide +kernel
theorem dX12_grown_4 : decode cX12_grown 4 = .ok (.iconst 4, 1) := by decide +kernel
theorem dX12_grown_5 : decode cX12_grown 5 = .ok (.if_icmp .eq 6, 3) := by decide +kernel
theorem dX12_grown_8 : decode cX12_grown 8 = .ok (.bipush (-3), 2) := by decide +kernel
theorem dX12_grown_10 : decode cX12_grown 10 = .ok (.ireturn, 1) := by decide +kernel
theorem dX12_grown_11 : decode cX12_grown 11 = .ok (.aload_n 0, 1) := by decide +kernel
theorem dX12_grown_12 : decode cX12_grown 12 = .ok (.invokevirtual 133, 3) := by decide +kernel
theorem dX12_grown_15 : decode cX12_grown 15 = .ok (.aload_n 0, 1) := by decide +kernel
theorem dX12_grown_16 : decode cX12_grown 16 = .ok (.invokevirtual 146, 3) := by decide +kernel
theorem dX12_grown_19 : decode cX12_grown 19 = .ok (.iconst 1, 1) := by decide +kernel
theorem dX12_grown_20 : decode cX12_grown 20 = .ok (.istore_n 1, 1) := by decide +kernel
theorem dX12_grown_21 : decode cX12_grown 21 = .ok (.iconst 1, 1) := by decide +kernel
theorem dX12_grown_22 : decode cX12_grown 22 = .ok (.istore_n 2, 1) := by decide +kernel
theorem dX12_grown_23 : decode cX12_grown 23 = .ok (.iload_n 2, 1) := by decide +kernel
theorem dX12_grown_24 : decode cX12_grown 24 = .ok (.aload_n 0, 1) := by decide +kernel
theorem dX12_grown_25 : decode cX12_grown 25 = .ok (.getfield 143, 3) := by decide +kernel
theorem dX12_grown_28 : decode cX12_grown 28 = .ok (.if_icmp .ge 49, 3) := by decide +kernel
theorem dX12_grown_31 : decode cX12_grown 31 = .ok (.iload_n 1, 1) := by decide +kernel
theorem dX12_grown_32 : decode cX12_grown 32 = .ok (.ifCond .eq 37, 3) := by decide +kernel
theorem dX12_grown_35 : decode cX12_grown 35 = .ok (.aload_n 0, 1) := by decide +kernel
theorem dX12_grown_36 : decode cX12_grown 36 = .ok (.getfield 36, 3) := by decide +kernel
theorem dX12_grown_39 : decode cX12_grown 39 = .ok (.aload_n 0, 1) := by decide +kernel
theorem dX12_grown_40 : decode cX12_grown 40 = .ok (.getfield 45, 3) := by decide +kernel
theorem dX12_grown_43 : decode cX12_grown 43 = .ok (.iload_n 2, 1) := by decide +kernel
theorem dX12_grown_44 : decode cX12_grown 44 = .ok (.iconst 1, 1) := by decide +kernel
theorem dX12_grown_45 : decode cX12_grown 45 = .ok (.isub, 1) := by decide +kernel
theorem dX12_grown_46 : decode cX12_grown 46 = .ok (.iaload, 1) := by decide +kernel
theorem dX12_grown_47 : decode cX12_grown 47 = .ok (.iaload, 1) := by decide +kernel
theorem dX12_grown_48 : decode cX12_grown 48 = .ok (.aload_n 0, 1) := by decide +kernel
theorem dX12_grown_49 : decode cX12_grown 49 = .ok (.getfield 36, 3) := by decide +kernel
theorem dX12_grown_52 : decode cX12_grown 52 = .ok (.aload_n 0, 1) := by decide +kernel
theorem dX12_grown_53 : decode cX12_grown 53 = .ok (.getfield 45, 3) := by decide +kernel
theorem dX12_grown_56 : decode cX12_grown 56 = .ok (.iload_n 2, 1) := by decide +kernel
theorem dX12_grown_57 : decode cX12_grown 57 = .ok (.iaload, 1) := by decide +kernel
theorem dX12_grown_58 : decode cX12_grown 58 = .ok (.iaload, 1) := by decide +kernel
theorem dX12_grown_59 : decode cX12_grown 59 = .ok (.iconst (-1), 1) := by decide +kernel
theorem dX12_grown_60 : decode cX12_grown 60 = .ok (.ixor, 1) := by decide +kernel
theorem dX12_grown_61 : decode cX12_grown 61 = .ok (.iand, 1) := by decide +kernel
theorem dX12_grown_62 : decode cX12_grown 62 = .ok (.ifCond .ne 7, 3) := by decide +kernel
theorem dX12_grown_65 : decode cX12_grown 65 = .ok (.iconst 1, 1) := by decide +kernel
theorem dX12_grown_66 : decode cX12_grown 66 = .ok (.goto 4, 3) := by decide +kernel
theorem dX12_grown_69 : decode cX12_grown 69 = .ok (.iconst 0, 1) := by decide +kernel
theorem dX12_grown_70 : decode cX12_grown 70 = .ok (.istore_n 1, 1) := by decide +kernel
theorem dX12_grown_71 : decode cX12_grown 71 = .ok (.iinc 2 1, 3) := by decide +kernel
theorem dX12_grown_74 : decode cX12_grown 74 = .ok (.goto (-51), 3) := by decide +kernel
theorem dX12_grown_77 : decode cX12_grown 77 = .ok (.iload_n 1, 1) := by decide +kernel
theorem dX12_grown_78 : decode cX12_grown 78 = .ok (.ifCond .eq 7, 3) := by decide +kernel
theorem dX12_grown_81 : decode cX12_grown 81 = .ok (.iconst 1, 1) := by decide +kernel
theorem dX12_grown_82 : decode cX12_grown 82 = .ok (.goto 4, 3) := by decide +kernel
theorem dX12_grown_85 : decode cX12_grown 85 = .ok (.iconst 0, 1) := by decide +kernel
theorem dX12_grown_86 : decode cX12_grown 86 = .ok (.ireturn, 1) := by decide +kernel
theorem dX12_pace_0 : decode cX12_pace 0 = .ok (.aload_n 0, 1) := by decide +kernel
theorem dX12_pace_1 : decode cX12_pace 1 = .ok (.invokevirtual 133, 3) := by decide +kernel
theorem dX12_pace_4 : decode cX12_pace 4 = .ok (.aload_n 0, 1) := by decide +kernel
theorem dX12_pace_5 : decode cX12_pace 5 = .ok (.getfield 113, 3) := by decide +kernel
theorem dX12_pace_8 : decode cX12_pace 8 = .ok (.ifCond .ne 6, 3) := by decide +kernel
theorem dX12_pace_11 : decode cX12_pace 11 = .ok (.bipush (-3), 2) := by decide +kernel
theorem dX12_pace_13 : decode cX12_pace 13 = .ok (.ireturn, 1) := by decide +kernel
theorem dX12_pace_14 : decode cX12_pace 14 = .ok (.iconst 0, 1) := by decide +kernel
theorem dX12_pace_15 : decode cX12_pace 15 = .ok (.istore_n 1, 1) := by decide +kernel
theorem dX12_pace_16 : decode cX12_pace 16 = .ok (.iconst 1, 1) := by decide +kernel
theorem dX12_pace_17 : decode cX12_pace 17 = .ok (.istore_n 2, 1) := by decide +kernel
theorem dX12_pace_18 : decode cX12_pace 18 = .ok (.iload_n 2, 1) := by decide +kernel
theorem dX12_pace_19 : decode cX12_pace 19 = .ok (.aload_n 0, 1) := by decide +kernel
theorem dX12_pace_20 : decode cX12_pace 20 = .ok (.getfield 7, 3) := by decide +kernel
theorem dX12_pace_23 : decode cX12_pace 23 = .ok (.if_icmp .gt 36, 3) := by decide +kernel
theorem dX12_pace_26 : decode cX12_pace 26 = .ok (.iload_n 1, 1) := by decide +kernel
theorem dX12_pace_27 : decode cX12_pace 27 = .ok (.aload_n 0, 1) := by decide +kernel
theorem dX12_pace_28 : decode cX12_pace 28 = .ok (.iload_n 2, 1) := by decide +kernel
theorem dX12_pace_29 : decode cX12_pace 29 = .ok (.i2l, 1) := by decide +kernel
theorem dX12_pace_30 : decode cX12_pace 30 = .ok (.lconst 1, 1) := by decide +kernel
theorem dX12_pace_31 : decode cX12_pace 31 = .ok (.invokevirtual 136, 3) := by decide +kernel
theorem dX12_pace_34 : decode cX12_pace 34 = .ok (.aload_n 0, 1) := by decide +kernel
theorem dX12_pace_35 : decode cX12_pace 35 = .ok (.iload_n 2, 1) := by decide +kernel
theorem dX12_pace_36 : decode cX12_pace 36 = .ok (.i2l, 1) := by decide +kernel
theorem dX12_pace_37 : decode cX12_pace 37 = .ok (.lconst 1, 1) := by decide +kernel
theorem dX12_pace_38 : decode cX12_pace 38 = .ok (.lsub, 1) := by decide +kernel
theorem dX12_pace_39 : decode cX12_pace 39 = .ok (.lconst 1, 1) := by decide +kernel
theorem dX12_pace_40 : decode cX12_pace 40 = .ok (.invokevirtual 136, 3) := by decide +kernel
theorem dX12_pace_43 : decode cX12_pace 43 = .ok (.if_icmp .ne 7, 3) := by decide +kernel
theorem dX12_pace_46 : decode cX12_pace 46 = .ok (.iconst 0, 1) := by decide +kernel
theorem dX12_pace_47 : decode cX12_pace 47 = .ok (.goto 4, 3) := by decide +kernel
theorem dX12_pace_50 : decode cX12_pace 50 = .ok (.iconst 1, 1) := by decide +kernel
theorem dX12_pace_51 : decode cX12_pace 51 = .ok (.iadd, 1) := by decide +kernel
theorem dX12_pace_52 : decode cX12_pace 52 = .ok (.istore_n 1, 1) := by decide +kernel
theorem dX12_pace_53 : decode cX12_pace 53 = .ok (.iinc 2 1, 3) := by decide +kernel
theorem dX12_pace_56 : decode cX12_pace 56 = .ok (.goto (-38), 3) := by decide +kernel
theorem dX12_pace_59 : decode cX12_pace 59 = .ok (.iload_n 1, 1) := by decide +kernel
theorem dX12_pace_60 : decode cX12_pace 60 = .ok (.ireturn, 1) := by decide +kernel
theorem dX12_part_0 : decode cX12_part 0 = .ok (.iload_n 1, 1) := by decide +kernel
theorem dX12_part_1 : decode cX12_part 1 = .ok (.ifCond .ne 10, 3) := by decide +kernel
theorem dX12_part_4 : decode cX12_part 4 = .ok (.aload_n 0, 1) := by decide +kernel
theorem dX12_part_5 : decode cX12_part 5 = .ok (.getfield 128, 3) := by decide +kernel
theorem dX12_part_8 : decode cX12_part 8 = .ok (.goto 18, 3) := by decide +kernel
theorem dX12_part_11 : decode cX12_part 11 = .ok (.iload_n 1, 1) := by decide +kernel
theorem dX12_part_12 : decode cX12_part 12 = .ok (.iconst 1, 1) := by decide +kernel
theorem dX12_part_13 : decode cX12_part 13 = .ok (.if_icmp .ne 10, 3) := by decide +kernel
theorem dX12_part_16 : decode cX12_part 16 = .ok (.aload_n 0, 1) := by decide +kernel
theorem dX12_part_17 : decode cX12_part 17 = .ok (.getfield 29, 3) := by decide +kernel
theorem dX12_part_20 : decode cX12_part 20 = .ok (.goto 6, 3) := by decide +kernel
theorem dX12_part_23 : decode cX12_part 23 = .ok (.ldc2_w 173, 3) := by decide +kernel
theorem dX12_part_26 : decode cX12_part 26 = .ok (.lreturn, 1) := by decide +kernel
theorem dX12_count_0 : decode cX12_count 0 = .ok (.iload_n 1, 1) := by decide +kernel
theorem dX12_count_1 : decode cX12_count 1 = .ok (.ifCond .ne 10, 3) := by decide +kernel
theorem dX12_count_4 : decode cX12_count 4 = .ok (.aload_n 0, 1) := by decide +kernel
theorem dX12_count_5 : decode cX12_count 5 = .ok (.getfield 74, 3) := by decide +kernel
theorem dX12_count_8 : decode cX12_count 8 = .ok (.goto 41, 3) := by decide +kernel
theorem dX12_count_11 : decode cX12_count 11 = .ok (.iload_n 1, 1) := by decide +kernel
theorem dX12_count_12 : decode cX12_count 12 = .ok (.iconst 1, 1) := by decide +kernel
theorem dX12_count_13 : decode cX12_count 13 = .ok (.if_icmp .ne 10, 3) := by decide +kernel
theorem dX12_count_16 : decode cX12_count 16 = .ok (.aload_n 0, 1) := by decide +kernel
theorem dX12_count_17 : decode cX12_count 17 = .ok (.getfield 81, 3) := by decide +kernel
theorem dX12_count_20 : decode cX12_count 20 = .ok (.goto 29, 3) := by decide +kernel
theorem dX12_count_23 : decode cX12_count 23 = .ok (.iload_n 1, 1) := by decide +kernel
theorem dX12_count_24 : decode cX12_count 24 = .ok (.iconst 2, 1) := by decide +kernel
theorem dX12_count_25 : decode cX12_count 25 = .ok (.if_icmp .ne 10, 3) := by decide +kernel
theorem dX12_count_28 : decode cX12_count 28 = .ok (.aload_n 0, 1) := by decide +kernel
theorem dX12_count_29 : decode cX12_count 29 = .ok (.getfield 86, 3) := by decide +kernel
theorem dX12_count_32 : decode cX12_count 32 = .ok (.goto 17, 3) := by decide +kernel
theorem dX12_count_35 : decode cX12_count 35 = .ok (.iload_n 1, 1) := by decide +kernel
theorem dX12_count_36 : decode cX12_count 36 = .ok (.iconst 3, 1) := by decide +kernel
theorem dX12_count_37 : decode cX12_count 37 = .ok (.if_icmp .ne 10, 3) := by decide +kernel
theorem dX12_count_40 : decode cX12_count 40 = .ok (.aload_n 0, 1) := by decide +kernel
theorem dX12_count_41 : decode cX12_count 41 = .ok (.invokevirtual 89, 3) := by decide +kernel
theorem dX12_count_44 : decode cX12_count 44 = .ok (.goto 5, 3) := by decide +kernel
theorem dX12_count_47 : decode cX12_count 47 = .ok (.bipush (-2), 2) := by decide +kernel
theorem dX12_count_49 : decode cX12_count 49 = .ok (.ireturn, 1) := by decide +kernel
theorem dX12_sums_0 : decode cX12_sums 0 = .ok (.lload_n 0, 1) := by decide +kernel
theorem dX12_sums_1 : decode cX12_sums 1 = .ok (.lstore 4, 2) := by decide +kernel
theorem dX12_sums_3 : decode cX12_sums 3 = .ok (.iconst 0, 1) := by decide +kernel
theorem dX12_sums_4 : decode cX12_sums 4 = .ok (.istore 6, 2) := by decide +kernel
theorem dX12_sums_6 : decode cX12_sums 6 = .ok (.iload 6, 2) := by decide +kernel
theorem dX12_sums_8 : decode cX12_sums 8 = .ok (.iload_n 3, 1) := by decide +kernel
theorem dX12_sums_9 : decode cX12_sums 9 = .ok (.if_icmp .ge 23, 3) := by decide +kernel
theorem dX12_sums_12 : decode cX12_sums 12 = .ok (.ldc2_w 175, 3) := by decide +kernel
theorem dX12_sums_15 : decode cX12_sums 15 = .ok (.lload 4, 2) := by decide +kernel
theorem dX12_sums_17 : decode cX12_sums 17 = .ok (.lmul, 1) := by decide +kernel
theorem dX12_sums_18 : decode cX12_sums 18 = .ok (.aload_n 2, 1) := by decide +kernel
theorem dX12_sums_19 : decode cX12_sums 19 = .ok (.iload 6, 2) := by decide +kernel
theorem dX12_sums_21 : decode cX12_sums 21 = .ok (.iaload, 1) := by decide +kernel
theorem dX12_sums_22 : decode cX12_sums 22 = .ok (.i2l, 1) := by decide +kernel
theorem dX12_sums_23 : decode cX12_sums 23 = .ok (.ladd, 1) := by decide +kernel
theorem dX12_sums_24 : decode cX12_sums 24 = .ok (.lstore 4, 2) := by decide +kernel
theorem dX12_sums_26 : decode cX12_sums 26 = .ok (.iinc 6 1, 3) := by decide +kernel
theorem dX12_sums_29 : decode cX12_sums 29 = .ok (.goto (-23), 3) := by decide +kernel
theorem dX12_sums_32 : decode cX12_sums 32 = .ok (.lload 4, 2) := by decide +kernel
theorem dX12_sums_34 : decode cX12_sums 34 = .ok (.lreturn, 1) := by decide +kernel
theorem dX12_digest_0 : decode cX12_digest 0 = .ok (.ldc2_w 175, 3) := by decide +kernel
theorem dX12_digest_3 : decode cX12_digest 3 = .ok (.ldc2_w 177, 3) := by decide +kernel
theorem dX12_digest_6 : decode cX12_digest 6 = .ok (.aload_n 0, 1) := by decide +kernel
theorem dX12_digest_7 : decode cX12_digest 7 = .ok (.getfield 7, 3) := by decide +kernel
theorem dX12_digest_10 : decode cX12_digest 10 = .ok (.i2l, 1) := by decide +kernel
theorem dX12_digest_11 : decode cX12_digest 11 = .ok (.ladd, 1) := by decide +kernel
theorem dX12_digest_12 : decode cX12_digest 12 = .ok (.lmul, 1) := by decide +kernel
theorem dX12_digest_13 : decode cX12_digest 13 = .ok (.aload_n 0, 1) := by decide +kernel
theorem dX12_digest_14 : decode cX12_digest 14 = .ok (.getfield 65, 3) := by decide +kernel
theorem dX12_digest_17 : decode cX12_digest 17 = .ok (.i2l, 1) := by decide +kernel
theorem dX12_digest_18 : decode cX12_digest 18 = .ok (.ladd, 1) := by decide +kernel
theorem dX12_digest_19 : decode cX12_digest 19 = .ok (.lstore_n 1, 1) := by decide +kernel
theorem dX12_digest_20 : decode cX12_digest 20 = .ok (.iconst 0, 1) := by decide +kernel
theorem dX12_digest_21 : decode cX12_digest 21 = .ok (.istore_n 3, 1) := by decide +kernel
theorem dX12_digest_22 : decode cX12_digest 22 = .ok (.iload_n 3, 1) := by decide +kernel
theorem dX12_digest_23 : decode cX12_digest 23 = .ok (.iconst 4, 1) := by decide +kernel
theorem dX12_digest_24 : decode cX12_digest 24 = .ok (.if_icmp .ge 22, 3) := by decide +kernel
theorem dX12_digest_27 : decode cX12_digest 27 = .ok (.ldc2_w 175, 3) := by decide +kernel
theorem dX12_digest_30 : decode cX12_digest 30 = .ok (.lload_n 1, 1) := by decide +kernel
theorem dX12_digest_31 : decode cX12_digest 31 = .ok (.lmul, 1) := by decide +kernel
theorem dX12_digest_32 : decode cX12_digest 32 = .ok (.aload_n 0, 1) := by decide +kernel
theorem dX12_digest_33 : decode cX12_digest 33 = .ok (.iload_n 3, 1) := by decide +kernel
theorem dX12_digest_34 : decode cX12_digest 34 = .ok (.invokevirtual 179, 3) := by decide +kernel
theorem dX12_digest_37 : decode cX12_digest 37 = .ok (.i2l, 1) := by decide +kernel
theorem dX12_digest_38 : decode cX12_digest 38 = .ok (.ladd, 1) := by decide +kernel
theorem dX12_digest_39 : decode cX12_digest 39 = .ok (.lstore_n 1, 1) := by decide +kernel
theorem dX12_digest_40 : decode cX12_digest 40 = .ok (.iinc 3 1, 3) := by decide +kernel
theorem dX12_digest_43 : decode cX12_digest 43 = .ok (.goto (-21), 3) := by decide +kernel
theorem dX12_digest_46 : decode cX12_digest 46 = .ok (.lload_n 1, 1) := by decide +kernel
theorem dX12_digest_47 : decode cX12_digest 47 = .ok (.aload_n 0, 1) := by decide +kernel
theorem dX12_digest_48 : decode cX12_digest 48 = .ok (.getfield 13, 3) := by decide +kernel
theorem dX12_digest_51 : decode cX12_digest 51 = .ok (.iconst 4, 1) := by decide +kernel
theorem dX12_digest_52 : decode cX12_digest 52 = .ok (.aload_n 0, 1) := by decide +kernel
theorem dX12_digest_53 : decode cX12_digest 53 = .ok (.getfield 74, 3) := by decide +kernel
theorem dX12_digest_56 : decode cX12_digest 56 = .ok (.imul, 1) := by decide +kernel
theorem dX12_digest_57 : decode cX12_digest 57 = .ok (.invokestatic 182, 3) := by decide +kernel
theorem dX12_digest_60 : decode cX12_digest 60 = .ok (.aload_n 0, 1) := by decide +kernel
theorem dX12_digest_61 : decode cX12_digest 61 = .ok (.getfield 17, 3) := by decide +kernel
theorem dX12_digest_64 : decode cX12_digest 64 = .ok (.bipush 32, 2) := by decide +kernel
theorem dX12_digest_66 : decode cX12_digest 66 = .ok (.invokestatic 182, 3) := by decide +kernel
theorem dX12_digest_69 : decode cX12_digest 69 = .ok (.lstore_n 1, 1) := by decide +kernel
theorem dX12_digest_70 : decode cX12_digest 70 = .ok (.ldc2_w 175, 3) := by decide +kernel
theorem dX12_digest_73 : decode cX12_digest 73 = .ok (.lload_n 1, 1) := by decide +kernel
theorem dX12_digest_74 : decode cX12_digest 74 = .ok (.aload_n 0, 1) := by decide +kernel
theorem dX12_digest_75 : decode cX12_digest 75 = .ok (.getfield 20, 3) := by decide +kernel
theorem dX12_digest_78 : decode cX12_digest 78 = .ok (.iconst 3, 1) := by decide +kernel
theorem dX12_digest_79 : decode cX12_digest 79 = .ok (.aload_n 0, 1) := by decide +kernel
theorem dX12_digest_80 : decode cX12_digest 80 = .ok (.getfield 81, 3) := by decide +kernel
theorem dX12_digest_83 : decode cX12_digest 83 = .ok (.imul, 1) := by decide +kernel
theorem dX12_digest_84 : decode cX12_digest 84 = .ok (.invokestatic 182, 3) := by decide +kernel
theorem dX12_digest_87 : decode cX12_digest 87 = .ok (.lmul, 1) := by decide +kernel
theorem dX12_digest_88 : decode cX12_digest 88 = .ok (.aload_n 0, 1) := by decide +kernel
theorem dX12_digest_89 : decode cX12_digest 89 = .ok (.getfield 23, 3) := by decide +kernel
theorem dX12_digest_92 : decode cX12_digest 92 = .ok (.i2l, 1) := by decide +kernel
theorem dX12_digest_93 : decode cX12_digest 93 = .ok (.ladd, 1) := by decide +kernel
theorem dX12_digest_94 : decode cX12_digest 94 = .ok (.lstore_n 1, 1) := by decide +kernel
theorem dX12_digest_95 : decode cX12_digest 95 = .ok (.lload_n 1, 1) := by decide +kernel
theorem dX12_digest_96 : decode cX12_digest 96 = .ok (.aload_n 0, 1) := by decide +kernel
theorem dX12_digest_97 : decode cX12_digest 97 = .ok (.getfield 26, 3) := by decide +kernel
theorem dX12_digest_100 : decode cX12_digest 100 = .ok (.iconst 3, 1) := by decide +kernel
theorem dX12_digest_101 : decode cX12_digest 101 = .ok (.aload_n 0, 1) := by decide +kernel
theorem dX12_digest_102 : decode cX12_digest 102 = .ok (.getfield 86, 3) := by decide +kernel
theorem dX12_digest_105 : decode cX12_digest 105 = .ok (.imul, 1) := by decide +kernel
theorem dX12_digest_106 : decode cX12_digest 106 = .ok (.invokestatic 182, 3) := by decide +kernel
theorem dX12_digest_109 : decode cX12_digest 109 = .ok (.lstore_n 1, 1) := by decide +kernel
theorem dX12_digest_110 : decode cX12_digest 110 = .ok (.ldc2_w 175, 3) := by decide +kernel
theorem dX12_digest_113 : decode cX12_digest 113 = .ok (.ldc2_w 175, 3) := by decide +kernel
theorem dX12_digest_116 : decode cX12_digest 116 = .ok (.lload_n 1, 1) := by decide +kernel
theorem dX12_digest_117 : decode cX12_digest 117 = .ok (.lmul, 1) := by decide +kernel
theorem dX12_digest_118 : decode cX12_digest 118 = .ok (.aload_n 0, 1) := by decide +kernel
theorem dX12_digest_119 : decode cX12_digest 119 = .ok (.getfield 128, 3) := by decide +kernel
theorem dX12_digest_122 : decode cX12_digest 122 = .ok (.ladd, 1) := by decide +kernel
theorem dX12_digest_123 : decode cX12_digest 123 = .ok (.lmul, 1) := by decide +kernel
theorem dX12_digest_124 : decode cX12_digest 124 = .ok (.aload_n 0, 1) := by decide +kernel
theorem dX12_digest_125 : decode cX12_digest 125 = .ok (.getfield 29, 3) := by decide +kernel
theorem dX12_digest_128 : decode cX12_digest 128 = .ok (.ladd, 1) := by decide +kernel
theorem dX12_digest_129 : decode cX12_digest 129 = .ok (.lreturn, 1) := by decide +kernel
theorem dJ6_bitCount_0f7a4_0 : decode cJ6_bitCount_0f7a4 0 = .ok (.iload_n 0, 1) := by decide +kernel
theorem dJ6_bitCount_0f7a4_1 : decode cJ6_bitCount_0f7a4 1 = .ok (.iload_n 0, 1) := by decide +kernel
theorem dJ6_bitCount_0f7a4_2 : decode cJ6_bitCount_0f7a4 2 = .ok (.iconst 1, 1) := by decide +kernel
theorem dJ6_bitCount_0f7a4_3 : decode cJ6_bitCount_0f7a4 3 = .ok (.iushr, 1) := by decide +kernel
theorem dJ6_bitCount_0f7a4_4 : decode cJ6_bitCount_0f7a4 4 = .ok (.ldc_w 265, 3) := by decide +kernel
theorem dJ6_bitCount_0f7a4_7 : decode cJ6_bitCount_0f7a4 7 = .ok (.iand, 1) := by decide +kernel
theorem dJ6_bitCount_0f7a4_8 : decode cJ6_bitCount_0f7a4 8 = .ok (.isub, 1) := by decide +kernel
theorem dJ6_bitCount_0f7a4_9 : decode cJ6_bitCount_0f7a4 9 = .ok (.istore_n 0, 1) := by decide +kernel
theorem dJ6_bitCount_0f7a4_10 : decode cJ6_bitCount_0f7a4 10 = .ok (.iload_n 0, 1) := by decide +kernel
theorem dJ6_bitCount_0f7a4_11 : decode cJ6_bitCount_0f7a4 11 = .ok (.ldc_w 266, 3) := by decide +kernel
theorem dJ6_bitCount_0f7a4_14 : decode cJ6_bitCount_0f7a4 14 = .ok (.iand, 1) := by decide +kernel
theorem dJ6_bitCount_0f7a4_15 : decode cJ6_bitCount_0f7a4 15 = .ok (.iload_n 0, 1) := by decide +kernel
theorem dJ6_bitCount_0f7a4_16 : decode cJ6_bitCount_0f7a4 16 = .ok (.iconst 2, 1) := by decide +kernel
theorem dJ6_bitCount_0f7a4_17 : decode cJ6_bitCount_0f7a4 17 = .ok (.iushr, 1) := by decide +kernel
theorem dJ6_bitCount_0f7a4_18 : decode cJ6_bitCount_0f7a4 18 = .ok (.ldc_w 266, 3) := by decide +kernel
theorem dJ6_bitCount_0f7a4_21 : decode cJ6_bitCount_0f7a4 21 = .ok (.iand, 1) := by decide +kernel
theorem dJ6_bitCount_0f7a4_22 : decode cJ6_bitCount_0f7a4 22 = .ok (.iadd, 1) := by decide +kernel
theorem dJ6_bitCount_0f7a4_23 : decode cJ6_bitCount_0f7a4 23 = .ok (.istore_n 0, 1) := by decide +kernel
theorem dJ6_bitCount_0f7a4_24 : decode cJ6_bitCount_0f7a4 24 = .ok (.iload_n 0, 1) := by decide +kernel
theorem dJ6_bitCount_0f7a4_25 : decode cJ6_bitCount_0f7a4 25 = .ok (.iload_n 0, 1) := by decide +kernel
theorem dJ6_bitCount_0f7a4_26 : decode cJ6_bitCount_0f7a4 26 = .ok (.iconst 4, 1) := by decide +kernel
theorem dJ6_bitCount_0f7a4_27 : decode cJ6_bitCount_0f7a4 27 = .ok (.iushr, 1) := by decide +kernel
theorem dJ6_bitCount_0f7a4_28 : decode cJ6_bitCount_0f7a4 28 = .ok (.iadd, 1) := by decide +kernel
theorem dJ6_bitCount_0f7a4_29 : decode cJ6_bitCount_0f7a4 29 = .ok (.ldc_w 267, 3) := by decide +kernel
theorem dJ6_bitCount_0f7a4_32 : decode cJ6_bitCount_0f7a4 32 = .ok (.iand, 1) := by decide +kernel
theorem dJ6_bitCount_0f7a4_33 : decode cJ6_bitCount_0f7a4 33 = .ok (.istore_n 0, 1) := by decide +kernel
theorem dJ6_bitCount_0f7a4_34 : decode cJ6_bitCount_0f7a4 34 = .ok (.iload_n 0, 1) := by decide +kernel
theorem dJ6_bitCount_0f7a4_35 : decode cJ6_bitCount_0f7a4 35 = .ok (.iload_n 0, 1) := by decide +kernel
theorem dJ6_bitCount_0f7a4_36 : decode cJ6_bitCount_0f7a4 36 = .ok (.bipush 8, 2) := by decide +kernel
theorem dJ6_bitCount_0f7a4_38 : decode cJ6_bitCount_0f7a4 38 = .ok (.iushr, 1) := by decide +kernel
theorem dJ6_bitCount_0f7a4_39 : decode cJ6_bitCount_0f7a4 39 = .ok (.iadd, 1) := by decide +kernel
theorem dJ6_bitCount_0f7a4_40 : decode cJ6_bitCount_0f7a4 40 = .ok (.istore_n 0, 1) := by decide +kernel
theorem dJ6_bitCount_0f7a4_41 : decode cJ6_bitCount_0f7a4 41 = .ok (.iload_n 0, 1) := by decide +kernel
theorem dJ6_bitCount_0f7a4_42 : decode cJ6_bitCount_0f7a4 42 = .ok (.iload_n 0, 1) := by decide +kernel
theorem dJ6_bitCount_0f7a4_43 : decode cJ6_bitCount_0f7a4 43 = .ok (.bipush 16, 2) := by decide +kernel
theorem dJ6_bitCount_0f7a4_45 : decode cJ6_bitCount_0f7a4 45 = .ok (.iushr, 1) := by decide +kernel
theorem dJ6_bitCount_0f7a4_46 : decode cJ6_bitCount_0f7a4 46 = .ok (.iadd, 1) := by decide +kernel
theorem dJ6_bitCount_0f7a4_47 : decode cJ6_bitCount_0f7a4 47 = .ok (.istore_n 0, 1) := by decide +kernel
theorem dJ6_bitCount_0f7a4_48 : decode cJ6_bitCount_0f7a4 48 = .ok (.iload_n 0, 1) := by decide +kernel
theorem dJ6_bitCount_0f7a4_49 : decode cJ6_bitCount_0f7a4 49 = .ok (.bipush 63, 2) := by decide +kernel
theorem dJ6_bitCount_0f7a4_51 : decode cJ6_bitCount_0f7a4 51 = .ok (.iand, 1) := by decide +kernel
theorem dJ6_bitCount_0f7a4_52 : decode cJ6_bitCount_0f7a4 52 = .ok (.ireturn, 1) := by decide +kernel
theorem dJ9_abs_067f4_0 : decode cJ9_abs_067f4 0 = .ok (.lload_n 0, 1) := by decide +kernel
theorem dJ9_abs_067f4_1 : decode cJ9_abs_067f4 1 = .ok (.lconst 0, 1) := by decide +kernel
theorem dJ9_abs_067f4_2 : decode cJ9_abs_067f4 2 = .ok (.lcmp, 1) := by decide +kernel
theorem dJ9_abs_067f4_3 : decode cJ9_abs_067f4 3 = .ok (.ifCond .ge 8, 3) := by decide +kernel
theorem dJ9_abs_067f4_6 : decode cJ9_abs_067f4 6 = .ok (.lload_n 0, 1) := by decide +kernel
theorem dJ9_abs_067f4_7 : decode cJ9_abs_067f4 7 = .ok (.lneg, 1) := by decide +kernel
theorem dJ9_abs_067f4_8 : decode cJ9_abs_067f4 8 = .ok (.goto 4, 3) := by decide +kernel
theorem dJ9_abs_067f4_11 : decode cJ9_abs_067f4 11 = .ok (.lload_n 0, 1) := by decide +kernel
theorem dJ9_abs_067f4_12 : decode cJ9_abs_067f4 12 = .ok (.lreturn, 1) := by decide +kernel
theorem dJ9_max_7cf53_0 : decode cJ9_max_7cf53 0 = .ok (.iload_n 0, 1) := by decide +kernel
theorem dJ9_max_7cf53_1 : decode cJ9_max_7cf53 1 = .ok (.iload_n 1, 1) := by decide +kernel
theorem dJ9_max_7cf53_2 : decode cJ9_max_7cf53 2 = .ok (.if_icmp .lt 7, 3) := by decide +kernel
theorem dJ9_max_7cf53_5 : decode cJ9_max_7cf53 5 = .ok (.iload_n 0, 1) := by decide +kernel
theorem dJ9_max_7cf53_6 : decode cJ9_max_7cf53 6 = .ok (.goto 4, 3) := by decide +kernel
theorem dJ9_max_7cf53_9 : decode cJ9_max_7cf53 9 = .ok (.iload_n 1, 1) := by decide +kernel
theorem dJ9_max_7cf53_10 : decode cJ9_max_7cf53 10 = .ok (.ireturn, 1) := by decide +kernel
theorem dJ9_max_f86c9_0 : decode cJ9_max_f86c9 0 = .ok (.lload_n 0, 1) := by decide +kernel
theorem dJ9_max_f86c9_1 : decode cJ9_max_f86c9 1 = .ok (.lload_n 2, 1) := by decide +kernel
theorem dJ9_max_f86c9_2 : decode cJ9_max_f86c9 2 = .ok (.lcmp, 1) := by decide +kernel
theorem dJ9_max_f86c9_3 : decode cJ9_max_f86c9 3 = .ok (.ifCond .lt 7, 3) := by decide +kernel
theorem dJ9_max_f86c9_6 : decode cJ9_max_f86c9 6 = .ok (.lload_n 0, 1) := by decide +kernel
theorem dJ9_max_f86c9_7 : decode cJ9_max_f86c9 7 = .ok (.goto 4, 3) := by decide +kernel
theorem dJ9_max_f86c9_10 : decode cJ9_max_f86c9 10 = .ok (.lload_n 2, 1) := by decide +kernel
theorem dJ9_max_f86c9_11 : decode cJ9_max_f86c9 11 = .ok (.lreturn, 1) := by decide +kernel
theorem dJ9_min_7cf53_0 : decode cJ9_min_7cf53 0 = .ok (.iload_n 0, 1) := by decide +kernel
theorem dJ9_min_7cf53_1 : decode cJ9_min_7cf53 1 = .ok (.iload_n 1, 1) := by decide +kernel
theorem dJ9_min_7cf53_2 : decode cJ9_min_7cf53 2 = .ok (.if_icmp .gt 7, 3) := by decide +kernel
theorem dJ9_min_7cf53_5 : decode cJ9_min_7cf53 5 = .ok (.iload_n 0, 1) := by decide +kernel
theorem dJ9_min_7cf53_6 : decode cJ9_min_7cf53 6 = .ok (.goto 4, 3) := by decide +kernel
theorem dJ9_min_7cf53_9 : decode cJ9_min_7cf53 9 = .ok (.iload_n 1, 1) := by decide +kernel
theorem dJ9_min_7cf53_10 : decode cJ9_min_7cf53 10 = .ok (.ireturn, 1) := by decide +kernel
theorem dL_law_0 : decode cL_law 0 = .ok (.new 7, 3) := by decide +kernel
theorem dL_law_3 : decode cL_law 3 = .ok (.dup, 1) := by decide +kernel
theorem dL_law_4 : decode cL_law 4 = .ok (.invokespecial 9, 3) := by decide +kernel
theorem dL_law_7 : decode cL_law 7 = .ok (.astore_n 1, 1) := by decide +kernel
theorem dL_law_8 : decode cL_law 8 = .ok (.new 10, 3) := by decide +kernel
theorem dL_law_11 : decode cL_law 11 = .ok (.dup, 1) := by decide +kernel
theorem dL_law_12 : decode cL_law 12 = .ok (.invokespecial 12, 3) := by decide +kernel
theorem dL_law_15 : decode cL_law 15 = .ok (.astore_n 2, 1) := by decide +kernel
theorem dL_law_16 : decode cL_law 16 = .ok (.iconst 0, 1) := by decide +kernel
theorem dL_law_17 : decode cL_law 17 = .ok (.istore_n 3, 1) := by decide +kernel
theorem dL_law_18 : decode cL_law 18 = .ok (.iload_n 3, 1) := by decide +kernel
theorem dL_law_19 : decode cL_law 19 = .ok (.aload_n 0, 1) := by decide +kernel
theorem dL_law_20 : decode cL_law 20 = .ok (.arraylength, 1) := by decide +kernel
theorem dL_law_21 : decode cL_law 21 = .ok (.iconst 5, 1) := by decide +kernel
theorem dL_law_22 : decode cL_law 22 = .ok (.isub, 1) := by decide +kernel
theorem dL_law_23 : decode cL_law 23 = .ok (.if_icmp .gt 861, 3) := by decide +kernel
theorem dL_law_26 : decode cL_law 26 = .ok (.aload_n 0, 1) := by decide +kernel
theorem dL_law_27 : decode cL_law 27 = .ok (.iload_n 3, 1) := by decide +kernel
theorem dL_law_28 : decode cL_law 28 = .ok (.iaload, 1) := by decide +kernel
theorem dL_law_29 : decode cL_law 29 = .ok (.bipush 31, 2) := by decide +kernel
theorem dL_law_31 : decode cL_law 31 = .ok (.iand, 1) := by decide +kernel
theorem dL_law_32 : decode cL_law 32 = .ok (.tableswitch 846 0 25 #[120, 143, 166, 219, 272, 315, 338, 371, 430, 473, 486, 509, 532, 565, 578, 611, 634, 657, 690, 733, 746, 759, 772, 785, 809, 832], 120) := by decide +kernel
theorem dL_law_152 : decode cL_law 152 = .ok (.aload_n 1, 1) := by decide +kernel
theorem dL_law_153 : decode cL_law 153 = .ok (.aload_n 0, 1) := by decide +kernel
theorem dL_law_154 : decode cL_law 154 = .ok (.iload_n 3, 1) := by decide +kernel
theorem dL_law_155 : decode cL_law 155 = .ok (.iconst 1, 1) := by decide +kernel
theorem dL_law_156 : decode cL_law 156 = .ok (.iadd, 1) := by decide +kernel
theorem dL_law_157 : decode cL_law 157 = .ok (.iaload, 1) := by decide +kernel
theorem dL_law_158 : decode cL_law 158 = .ok (.invokevirtual 13, 3) := by decide +kernel
theorem dL_law_161 : decode cL_law 161 = .ok (.aload_n 2, 1) := by decide +kernel
theorem dL_law_162 : decode cL_law 162 = .ok (.aload_n 0, 1) := by decide +kernel
theorem dL_law_163 : decode cL_law 163 = .ok (.iload_n 3, 1) := by decide +kernel
theorem dL_law_164 : decode cL_law 164 = .ok (.iconst 1, 1) := by decide +kernel
theorem dL_law_165 : decode cL_law 165 = .ok (.iadd, 1) := by decide +kernel
theorem dL_law_166 : decode cL_law 166 = .ok (.iaload, 1) := by decide +kernel
theorem dL_law_167 : decode cL_law 167 = .ok (.invokevirtual 17, 3) := by decide +kernel
theorem dL_law_170 : decode cL_law 170 = .ok (.if_icmp .eq 708, 3) := by decide +kernel
theorem dL_law_173 : decode cL_law 173 = .ok (.iconst 0, 1) := by decide +kernel
theorem dL_law_174 : decode cL_law 174 = .ok (.ireturn, 1) := by decide +kernel
theorem dL_law_175 : decode cL_law 175 = .ok (.aload_n 1, 1) := by decide +kernel
theorem dL_law_176 : decode cL_law 176 = .ok (.aload_n 0, 1) := by decide +kernel
theorem dL_law_177 : decode cL_law 177 = .ok (.iload_n 3, 1) := by decide +kernel
theorem dL_law_178 : decode cL_law 178 = .ok (.iconst 1, 1) := by decide +kernel
theorem dL_law_179 : decode cL_law 179 = .ok (.iadd, 1) := by decide +kernel
theorem dL_law_180 : decode cL_law 180 = .ok (.iaload, 1) := by decide +kernel
theorem dL_law_181 : decode cL_law 181 = .ok (.invokevirtual 18, 3) := by decide +kernel
theorem dL_law_184 : decode cL_law 184 = .ok (.aload_n 2, 1) := by decide +kernel
theorem dL_law_185 : decode cL_law 185 = .ok (.aload_n 0, 1) := by decide +kernel
theorem dL_law_186 : decode cL_law 186 = .ok (.iload_n 3, 1) := by decide +kernel
theorem dL_law_187 : decode cL_law 187 = .ok (.iconst 1, 1) := by decide +kernel
theorem dL_law_188 : decode cL_law 188 = .ok (.iadd, 1) := by decide +kernel
theorem dL_law_189 : decode cL_law 189 = .ok (.iaload, 1) := by decide +kernel
theorem dL_law_190 : decode cL_law 190 = .ok (.invokevirtual 21, 3) := by decide +kernel
theorem dL_law_193 : decode cL_law 193 = .ok (.if_icmp .eq 685, 3) := by decide +kernel
theorem dL_law_196 : decode cL_law 196 = .ok (.iconst 0, 1) := by decide +kernel
theorem dL_law_197 : decode cL_law 197 = .ok (.ireturn, 1) := by decide +kernel
theorem dL_law_198 : decode cL_law 198 = .ok (.aload_n 1, 1) := by decide +kernel
theorem dL_law_199 : decode cL_law 199 = .ok (.aload_n 0, 1) := by decide +kernel
theorem dL_law_200 : decode cL_law 200 = .ok (.iload_n 3, 1) := by decide +kernel
theorem dL_law_201 : decode cL_law 201 = .ok (.iconst 1, 1) := by decide +kernel
theorem dL_law_202 : decode cL_law 202 = .ok (.iadd, 1) := by decide +kernel
theorem dL_law_203 : decode cL_law 203 = .ok (.iaload, 1) := by decide +kernel
theorem dL_law_204 : decode cL_law 204 = .ok (.aload_n 0, 1) := by decide +kernel
theorem dL_law_205 : decode cL_law 205 = .ok (.iload_n 3, 1) := by decide +kernel
theorem dL_law_206 : decode cL_law 206 = .ok (.iconst 2, 1) := by decide +kernel
theorem dL_law_207 : decode cL_law 207 = .ok (.iadd, 1) := by decide +kernel
theorem dL_law_208 : decode cL_law 208 = .ok (.iaload, 1) := by decide +kernel
theorem dL_law_209 : decode cL_law 209 = .ok (.aload_n 0, 1) := by decide +kernel
theorem dL_law_210 : decode cL_law 210 = .ok (.iload_n 3, 1) := by decide +kernel
theorem dL_law_211 : decode cL_law 211 = .ok (.iconst 3, 1) := by decide +kernel
theorem dL_law_212 : decode cL_law 212 = .ok (.iadd, 1) := by decide +kernel
theorem dL_law_213 : decode cL_law 213 = .ok (.iaload, 1) := by decide +kernel
theorem dL_law_214 : decode cL_law 214 = .ok (.aload_n 0, 1) := by decide +kernel
theorem dL_law_215 : decode cL_law 215 = .ok (.iload_n 3, 1) := by decide +kernel
theorem dL_law_216 : decode cL_law 216 = .ok (.iconst 4, 1) := by decide +kernel
theorem dL_law_217 : decode cL_law 217 = .ok (.iadd, 1) := by decide +kernel
theorem dL_law_218 : decode cL_law 218 = .ok (.iaload, 1) := by decide +kernel
theorem dL_law_219 : decode cL_law 219 = .ok (.invokevirtual 22, 3) := by decide +kernel
theorem dL_law_222 : decode cL_law 222 = .ok (.aload_n 2, 1) := by decide +kernel
theorem dL_law_223 : decode cL_law 223 = .ok (.aload_n 0, 1) := by decide +kernel
theorem dL_law_224 : decode cL_law 224 = .ok (.iload_n 3, 1) := by decide +kernel
theorem dL_law_225 : decode cL_law 225 = .ok (.iconst 1, 1) := by decide +kernel
theorem dL_law_226 : decode cL_law 226 = .ok (.iadd, 1) := by decide +kernel
theorem dL_law_227 : decode cL_law 227 = .ok (.iaload, 1) := by decide +kernel
theorem dL_law_228 : decode cL_law 228 = .ok (.aload_n 0, 1) := by decide +kernel
theorem dL_law_229 : decode cL_law 229 = .ok (.iload_n 3, 1) := by decide +kernel
theorem dL_law_230 : decode cL_law 230 = .ok (.iconst 2, 1) := by decide +kernel
theorem dL_law_231 : decode cL_law 231 = .ok (.iadd, 1) := by decide +kernel
theorem dL_law_232 : decode cL_law 232 = .ok (.iaload, 1) := by decide +kernel
theorem dL_law_233 : decode cL_law 233 = .ok (.aload_n 0, 1) := by decide +kernel
theorem dL_law_234 : decode cL_law 234 = .ok (.iload_n 3, 1) := by decide +kernel
theorem dL_law_235 : decode cL_law 235 = .ok (.iconst 3, 1) := by decide +kernel
theorem dL_law_236 : decode cL_law 236 = .ok (.iadd, 1) := by decide +kernel
theorem dL_law_237 : decode cL_law 237 = .ok (.iaload, 1) := by decide +kernel
theorem dL_law_238 : decode cL_law 238 = .ok (.aload_n 0, 1) := by decide +kernel
theorem dL_law_239 : decode cL_law 239 = .ok (.iload_n 3, 1) := by decide +kernel
theorem dL_law_240 : decode cL_law 240 = .ok (.iconst 4, 1) := by decide +kernel
theorem dL_law_241 : decode cL_law 241 = .ok (.iadd, 1) := by decide +kernel
theorem dL_law_242 : decode cL_law 242 = .ok (.iaload, 1) := by decide +kernel
theorem dL_law_243 : decode cL_law 243 = .ok (.invokevirtual 26, 3) := by decide +kernel
theorem dL_law_246 : decode cL_law 246 = .ok (.if_icmp .eq 632, 3) := by decide +kernel
theorem dL_law_249 : decode cL_law 249 = .ok (.iconst 0, 1) := by decide +kernel
theorem dL_law_250 : decode cL_law 250 = .ok (.ireturn, 1) := by decide +kernel
theorem dL_law_251 : decode cL_law 251 = .ok (.aload_n 1, 1) := by decide +kernel
theorem dL_law_252 : decode cL_law 252 = .ok (.aload_n 0, 1) := by decide +kernel
theorem dL_law_253 : decode cL_law 253 = .ok (.iload_n 3, 1) := by decide +kernel
theorem dL_law_254 : decode cL_law 254 = .ok (.iconst 1, 1) := by decide +kernel
theorem dL_law_255 : decode cL_law 255 = .ok (.iadd, 1) := by decide +kernel
theorem dL_law_256 : decode cL_law 256 = .ok (.iaload, 1) := by decide +kernel
theorem dL_law_257 : decode cL_law 257 = .ok (.aload_n 0, 1) := by decide +kernel
theorem dL_law_258 : decode cL_law 258 = .ok (.iload_n 3, 1) := by decide +kernel
theorem dL_law_259 : decode cL_law 259 = .ok (.iconst 2, 1) := by decide +kernel
theorem dL_law_260 : decode cL_law 260 = .ok (.iadd, 1) := by decide +kernel
theorem dL_law_261 : decode cL_law 261 = .ok (.iaload, 1) := by decide +kernel
theorem dL_law_262 : decode cL_law 262 = .ok (.aload_n 0, 1) := by decide +kernel
theorem dL_law_263 : decode cL_law 263 = .ok (.iload_n 3, 1) := by decide +kernel
theorem dL_law_264 : decode cL_law 264 = .ok (.iconst 3, 1) := by decide +kernel
theorem dL_law_265 : decode cL_law 265 = .ok (.iadd, 1) := by decide +kernel
theorem dL_law_266 : decode cL_law 266 = .ok (.iaload, 1) := by decide +kernel
theorem dL_law_267 : decode cL_law 267 = .ok (.aload_n 0, 1) := by decide +kernel
theorem dL_law_268 : decode cL_law 268 = .ok (.iload_n 3, 1) := by decide +kernel
theorem dL_law_269 : decode cL_law 269 = .ok (.iconst 4, 1) := by decide +kernel
theorem dL_law_270 : decode cL_law 270 = .ok (.iadd, 1) := by decide +kernel
theorem dL_law_271 : decode cL_law 271 = .ok (.iaload, 1) := by decide +kernel
theorem dL_law_272 : decode cL_law 272 = .ok (.invokevirtual 27, 3) := by decide +kernel
theorem dL_law_275 : decode cL_law 275 = .ok (.aload_n 2, 1) := by decide +kernel
theorem dL_law_276 : decode cL_law 276 = .ok (.aload_n 0, 1) := by decide +kernel
theorem dL_law_277 : decode cL_law 277 = .ok (.iload_n 3, 1) := by decide +kernel
theorem dL_law_278 : decode cL_law 278 = .ok (.iconst 1, 1) := by decide +kernel
theorem dL_law_279 : decode cL_law 279 = .ok (.iadd, 1) := by decide +kernel
theorem dL_law_280 : decode cL_law 280 = .ok (.iaload, 1) := by decide +kernel
theorem dL_law_281 : decode cL_law 281 = .ok (.aload_n 0, 1) := by decide +kernel
theorem dL_law_282 : decode cL_law 282 = .ok (.iload_n 3, 1) := by decide +kernel
theorem dL_law_283 : decode cL_law 283 = .ok (.iconst 2, 1) := by decide +kernel
theorem dL_law_284 : decode cL_law 284 = .ok (.iadd, 1) := by decide +kernel
theorem dL_law_285 : decode cL_law 285 = .ok (.iaload, 1) := by decide +kernel
theorem dL_law_286 : decode cL_law 286 = .ok (.aload_n 0, 1) := by decide +kernel
theorem dL_law_287 : decode cL_law 287 = .ok (.iload_n 3, 1) := by decide +kernel
theorem dL_law_288 : decode cL_law 288 = .ok (.iconst 3, 1) := by decide +kernel
theorem dL_law_289 : decode cL_law 289 = .ok (.iadd, 1) := by decide +kernel
theorem dL_law_290 : decode cL_law 290 = .ok (.iaload, 1) := by decide +kernel
theorem dL_law_291 : decode cL_law 291 = .ok (.aload_n 0, 1) := by decide +kernel
theorem dL_law_292 : decode cL_law 292 = .ok (.iload_n 3, 1) := by decide +kernel
theorem dL_law_293 : decode cL_law 293 = .ok (.iconst 4, 1) := by decide +kernel
theorem dL_law_294 : decode cL_law 294 = .ok (.iadd, 1) := by decide +kernel
theorem dL_law_295 : decode cL_law 295 = .ok (.iaload, 1) := by decide +kernel
theorem dL_law_296 : decode cL_law 296 = .ok (.invokevirtual 30, 3) := by decide +kernel
theorem dL_law_299 : decode cL_law 299 = .ok (.if_icmp .eq 579, 3) := by decide +kernel
theorem dL_law_302 : decode cL_law 302 = .ok (.iconst 0, 1) := by decide +kernel
theorem dL_law_303 : decode cL_law 303 = .ok (.ireturn, 1) := by decide +kernel
theorem dL_law_304 : decode cL_law 304 = .ok (.aload_n 1, 1) := by decide +kernel
theorem dL_law_305 : decode cL_law 305 = .ok (.aload_n 0, 1) := by decide +kernel
theorem dL_law_306 : decode cL_law 306 = .ok (.iload_n 3, 1) := by decide +kernel
theorem dL_law_307 : decode cL_law 307 = .ok (.iconst 1, 1) := by decide +kernel
theorem dL_law_308 : decode cL_law 308 = .ok (.iadd, 1) := by decide +kernel
theorem dL_law_309 : decode cL_law 309 = .ok (.iaload, 1) := by decide +kernel
theorem dL_law_310 : decode cL_law 310 = .ok (.aload_n 0, 1) := by decide +kernel
theorem dL_law_311 : decode cL_law 311 = .ok (.iload_n 3, 1) := by decide +kernel
theorem dL_law_312 : decode cL_law 312 = .ok (.iconst 2, 1) := by decide +kernel
theorem dL_law_313 : decode cL_law 313 = .ok (.iadd, 1) := by decide +kernel
theorem dL_law_314 : decode cL_law 314 = .ok (.iaload, 1) := by decide +kernel
theorem dL_law_315 : decode cL_law 315 = .ok (.aload_n 0, 1) := by decide +kernel
theorem dL_law_316 : decode cL_law 316 = .ok (.iload_n 3, 1) := by decide +kernel
theorem dL_law_317 : decode cL_law 317 = .ok (.iconst 3, 1) := by decide +kernel
theorem dL_law_318 : decode cL_law 318 = .ok (.iadd, 1) := by decide +kernel
theorem dL_law_319 : decode cL_law 319 = .ok (.iaload, 1) := by decide +kernel
theorem dL_law_320 : decode cL_law 320 = .ok (.invokevirtual 31, 3) := by decide +kernel
theorem dL_law_323 : decode cL_law 323 = .ok (.aload_n 2, 1) := by decide +kernel
theorem dL_law_324 : decode cL_law 324 = .ok (.aload_n 0, 1) := by decide +kernel
theorem dL_law_325 : decode cL_law 325 = .ok (.iload_n 3, 1) := by decide +kernel
theorem dL_law_326 : decode cL_law 326 = .ok (.iconst 1, 1) := by decide +kernel
theorem dL_law_327 : decode cL_law 327 = .ok (.iadd, 1) := by decide +kernel
theorem dL_law_328 : decode cL_law 328 = .ok (.iaload, 1) := by decide +kernel
theorem dL_law_329 : decode cL_law 329 = .ok (.aload_n 0, 1) := by decide +kernel
theorem dL_law_330 : decode cL_law 330 = .ok (.iload_n 3, 1) := by decide +kernel
theorem dL_law_331 : decode cL_law 331 = .ok (.iconst 2, 1) := by decide +kernel
theorem dL_law_332 : decode cL_law 332 = .ok (.iadd, 1) := by decide +kernel
theorem dL_law_333 : decode cL_law 333 = .ok (.iaload, 1) := by decide +kernel
theorem dL_law_334 : decode cL_law 334 = .ok (.aload_n 0, 1) := by decide +kernel
theorem dL_law_335 : decode cL_law 335 = .ok (.iload_n 3, 1) := by decide +kernel
theorem dL_law_336 : decode cL_law 336 = .ok (.iconst 3, 1) := by decide +kernel
theorem dL_law_337 : decode cL_law 337 = .ok (.iadd, 1) := by decide +kernel
theorem dL_law_338 : decode cL_law 338 = .ok (.iaload, 1) := by decide +kernel
theorem dL_law_339 : decode cL_law 339 = .ok (.invokevirtual 35, 3) := by decide +kernel
theorem dL_law_342 : decode cL_law 342 = .ok (.if_icmp .eq 536, 3) := by decide +kernel
theorem dL_law_345 : decode cL_law 345 = .ok (.iconst 0, 1) := by decide +kernel
theorem dL_law_346 : decode cL_law 346 = .ok (.ireturn, 1) := by decide +kernel
theorem dL_law_347 : decode cL_law 347 = .ok (.aload_n 1, 1) := by decide +kernel
theorem dL_law_348 : decode cL_law 348 = .ok (.aload_n 0, 1) := by decide +kernel
theorem dL_law_349 : decode cL_law 349 = .ok (.iload_n 3, 1) := by decide +kernel
theorem dL_law_350 : decode cL_law 350 = .ok (.iconst 1, 1) := by decide +kernel
theorem dL_law_351 : decode cL_law 351 = .ok (.iadd, 1) := by decide +kernel
theorem dL_law_352 : decode cL_law 352 = .ok (.iaload, 1) := by decide +kernel
theorem dL_law_353 : decode cL_law 353 = .ok (.invokevirtual 36, 3) := by decide +kernel
theorem dL_law_356 : decode cL_law 356 = .ok (.aload_n 2, 1) := by decide +kernel
theorem dL_law_357 : decode cL_law 357 = .ok (.aload_n 0, 1) := by decide +kernel
theorem dL_law_358 : decode cL_law 358 = .ok (.iload_n 3, 1) := by decide +kernel
theorem dL_law_359 : decode cL_law 359 = .ok (.iconst 1, 1) := by decide +kernel
theorem dL_law_360 : decode cL_law 360 = .ok (.iadd, 1) := by decide +kernel
theorem dL_law_361 : decode cL_law 361 = .ok (.iaload, 1) := by decide +kernel
theorem dL_law_362 : decode cL_law 362 = .ok (.invokevirtual 39, 3) := by decide +kernel
theorem dL_law_365 : decode cL_law 365 = .ok (.if_icmp .eq 513, 3) := by decide +kernel
theorem dL_law_368 : decode cL_law 368 = .ok (.iconst 0, 1) := by decide +kernel
theorem dL_law_369 : decode cL_law 369 = .ok (.ireturn, 1) := by decide +kernel
theorem dL_law_370 : decode cL_law 370 = .ok (.aload_n 1, 1) := by decide +kernel
theorem dL_law_371 : decode cL_law 371 = .ok (.aload_n 0, 1) := by decide +kernel
theorem dL_law_372 : decode cL_law 372 = .ok (.iload_n 3, 1) := by decide +kernel
theorem dL_law_373 : decode cL_law 373 = .ok (.iconst 1, 1) := by decide +kernel
theorem dL_law_374 : decode cL_law 374 = .ok (.iadd, 1) := by decide +kernel
theorem dL_law_375 : decode cL_law 375 = .ok (.iaload, 1) := by decide +kernel
theorem dL_law_376 : decode cL_law 376 = .ok (.aload_n 0, 1) := by decide +kernel
theorem dL_law_377 : decode cL_law 377 = .ok (.iload_n 3, 1) := by decide +kernel
theorem dL_law_378 : decode cL_law 378 = .ok (.iconst 2, 1) := by decide +kernel
theorem dL_law_379 : decode cL_law 379 = .ok (.iadd, 1) := by decide +kernel
theorem dL_law_380 : decode cL_law 380 = .ok (.iaload, 1) := by decide +kernel
theorem dL_law_381 : decode cL_law 381 = .ok (.invokevirtual 40, 3) := by decide +kernel
theorem dL_law_384 : decode cL_law 384 = .ok (.aload_n 2, 1) := by decide +kernel
theorem dL_law_385 : decode cL_law 385 = .ok (.aload_n 0, 1) := by decide +kernel
theorem dL_law_386 : decode cL_law 386 = .ok (.iload_n 3, 1) := by decide +kernel
theorem dL_law_387 : decode cL_law 387 = .ok (.iconst 1, 1) := by decide +kernel
theorem dL_law_388 : decode cL_law 388 = .ok (.iadd, 1) := by decide +kernel
theorem dL_law_389 : decode cL_law 389 = .ok (.iaload, 1) := by decide +kernel
theorem dL_law_390 : decode cL_law 390 = .ok (.aload_n 0, 1) := by decide +kernel
theorem dL_law_391 : decode cL_law 391 = .ok (.iload_n 3, 1) := by decide +kernel
theorem dL_law_392 : decode cL_law 392 = .ok (.iconst 2, 1) := by decide +kernel
theorem dL_law_393 : decode cL_law 393 = .ok (.iadd, 1) := by decide +kernel
theorem dL_law_394 : decode cL_law 394 = .ok (.iaload, 1) := by decide +kernel
theorem dL_law_395 : decode cL_law 395 = .ok (.invokevirtual 44, 3) := by decide +kernel
theorem dL_law_398 : decode cL_law 398 = .ok (.if_icmp .eq 480, 3) := by decide +kernel
theorem dL_law_401 : decode cL_law 401 = .ok (.iconst 0, 1) := by decide +kernel
theorem dL_law_402 : decode cL_law 402 = .ok (.ireturn, 1) := by decide +kernel
theorem dL_law_403 : decode cL_law 403 = .ok (.aload_n 1, 1) := by decide +kernel
theorem dL_law_404 : decode cL_law 404 = .ok (.aload_n 0, 1) := by decide +kernel
theorem dL_law_405 : decode cL_law 405 = .ok (.iload_n 3, 1) := by decide +kernel
theorem dL_law_406 : decode cL_law 406 = .ok (.iconst 1, 1) := by decide +kernel
theorem dL_law_407 : decode cL_law 407 = .ok (.iadd, 1) := by decide +kernel
theorem dL_law_408 : decode cL_law 408 = .ok (.iaload, 1) := by decide +kernel
theorem dL_law_409 : decode cL_law 409 = .ok (.aload_n 0, 1) := by decide +kernel
theorem dL_law_410 : decode cL_law 410 = .ok (.iload_n 3, 1) := by decide +kernel
theorem dL_law_411 : decode cL_law 411 = .ok (.iconst 2, 1) := by decide +kernel
theorem dL_law_412 : decode cL_law 412 = .ok (.iadd, 1) := by decide +kernel
theorem dL_law_413 : decode cL_law 413 = .ok (.iaload, 1) := by decide +kernel
theorem dL_law_414 : decode cL_law 414 = .ok (.aload_n 0, 1) := by decide +kernel
theorem dL_law_415 : decode cL_law 415 = .ok (.iload_n 3, 1) := by decide +kernel
theorem dL_law_416 : decode cL_law 416 = .ok (.iconst 3, 1) := by decide +kernel
theorem dL_law_417 : decode cL_law 417 = .ok (.iadd, 1) := by decide +kernel
theorem dL_law_418 : decode cL_law 418 = .ok (.iaload, 1) := by decide +kernel
theorem dL_law_419 : decode cL_law 419 = .ok (.ifCond .eq 7, 3) := by decide +kernel
theorem dL_law_422 : decode cL_law 422 = .ok (.iconst 1, 1) := by decide +kernel
theorem dL_law_423 : decode cL_law 423 = .ok (.goto 4, 3) := by decide +kernel
theorem dL_law_426 : decode cL_law 426 = .ok (.iconst 0, 1) := by decide +kernel
theorem dL_law_427 : decode cL_law 427 = .ok (.invokevirtual 45, 3) := by decide +kernel
theorem dL_law_430 : decode cL_law 430 = .ok (.aload_n 2, 1) := by decide +kernel
theorem dL_law_431 : decode cL_law 431 = .ok (.aload_n 0, 1) := by decide +kernel
theorem dL_law_432 : decode cL_law 432 = .ok (.iload_n 3, 1) := by decide +kernel
theorem dL_law_433 : decode cL_law 433 = .ok (.iconst 1, 1) := by decide +kernel
theorem dL_law_434 : decode cL_law 434 = .ok (.iadd, 1) := by decide +kernel
theorem dL_law_435 : decode cL_law 435 = .ok (.iaload, 1) := by decide +kernel
theorem dL_law_436 : decode cL_law 436 = .ok (.aload_n 0, 1) := by decide +kernel
theorem dL_law_437 : decode cL_law 437 = .ok (.iload_n 3, 1) := by decide +kernel
theorem dL_law_438 : decode cL_law 438 = .ok (.iconst 2, 1) := by decide +kernel
theorem dL_law_439 : decode cL_law 439 = .ok (.iadd, 1) := by decide +kernel
theorem dL_law_440 : decode cL_law 440 = .ok (.iaload, 1) := by decide +kernel
theorem dL_law_441 : decode cL_law 441 = .ok (.aload_n 0, 1) := by decide +kernel
theorem dL_law_442 : decode cL_law 442 = .ok (.iload_n 3, 1) := by decide +kernel
theorem dL_law_443 : decode cL_law 443 = .ok (.iconst 3, 1) := by decide +kernel
theorem dL_law_444 : decode cL_law 444 = .ok (.iadd, 1) := by decide +kernel
theorem dL_law_445 : decode cL_law 445 = .ok (.iaload, 1) := by decide +kernel
theorem dL_law_446 : decode cL_law 446 = .ok (.ifCond .eq 7, 3) := by decide +kernel
theorem dL_law_449 : decode cL_law 449 = .ok (.iconst 1, 1) := by decide +kernel
theorem dL_law_450 : decode cL_law 450 = .ok (.goto 4, 3) := by decide +kernel
theorem dL_law_453 : decode cL_law 453 = .ok (.iconst 0, 1) := by decide +kernel
theorem dL_law_454 : decode cL_law 454 = .ok (.invokevirtual 49, 3) := by decide +kernel
theorem dL_law_457 : decode cL_law 457 = .ok (.if_icmp .eq 421, 3) := by decide +kernel
theorem dL_law_460 : decode cL_law 460 = .ok (.iconst 0, 1) := by decide +kernel
theorem dL_law_461 : decode cL_law 461 = .ok (.ireturn, 1) := by decide +kernel
theorem dL_law_462 : decode cL_law 462 = .ok (.aload_n 1, 1) := by decide +kernel
theorem dL_law_463 : decode cL_law 463 = .ok (.aload_n 0, 1) := by decide +kernel
theorem dL_law_464 : decode cL_law 464 = .ok (.iload_n 3, 1) := by decide +kernel
theorem dL_law_465 : decode cL_law 465 = .ok (.iconst 1, 1) := by decide +kernel
theorem dL_law_466 : decode cL_law 466 = .ok (.iadd, 1) := by decide +kernel
theorem dL_law_467 : decode cL_law 467 = .ok (.iaload, 1) := by decide +kernel
theorem dL_law_468 : decode cL_law 468 = .ok (.aload_n 0, 1) := by decide +kernel
theorem dL_law_469 : decode cL_law 469 = .ok (.iload_n 3, 1) := by decide +kernel
theorem dL_law_470 : decode cL_law 470 = .ok (.iconst 2, 1) := by decide +kernel
theorem dL_law_471 : decode cL_law 471 = .ok (.iadd, 1) := by decide +kernel
theorem dL_law_472 : decode cL_law 472 = .ok (.iaload, 1) := by decide +kernel
theorem dL_law_473 : decode cL_law 473 = .ok (.aload_n 0, 1) := by decide +kernel
theorem dL_law_474 : decode cL_law 474 = .ok (.iload_n 3, 1) := by decide +kernel
theorem dL_law_475 : decode cL_law 475 = .ok (.iconst 3, 1) := by decide +kernel
theorem dL_law_476 : decode cL_law 476 = .ok (.iadd, 1) := by decide +kernel
theorem dL_law_477 : decode cL_law 477 = .ok (.iaload, 1) := by decide +kernel
theorem dL_law_478 : decode cL_law 478 = .ok (.invokevirtual 50, 3) := by decide +kernel
theorem dL_law_481 : decode cL_law 481 = .ok (.aload_n 2, 1) := by decide +kernel
theorem dL_law_482 : decode cL_law 482 = .ok (.aload_n 0, 1) := by decide +kernel
theorem dL_law_483 : decode cL_law 483 = .ok (.iload_n 3, 1) := by decide +kernel
theorem dL_law_484 : decode cL_law 484 = .ok (.iconst 1, 1) := by decide +kernel
theorem dL_law_485 : decode cL_law 485 = .ok (.iadd, 1) := by decide +kernel
theorem dL_law_486 : decode cL_law 486 = .ok (.iaload, 1) := by decide +kernel
theorem dL_law_487 : decode cL_law 487 = .ok (.aload_n 0, 1) := by decide +kernel
theorem dL_law_488 : decode cL_law 488 = .ok (.iload_n 3, 1) := by decide +kernel
theorem dL_law_489 : decode cL_law 489 = .ok (.iconst 2, 1) := by decide +kernel
theorem dL_law_490 : decode cL_law 490 = .ok (.iadd, 1) := by decide +kernel
theorem dL_law_491 : decode cL_law 491 = .ok (.iaload, 1) := by decide +kernel
theorem dL_law_492 : decode cL_law 492 = .ok (.aload_n 0, 1) := by decide +kernel
theorem dL_law_493 : decode cL_law 493 = .ok (.iload_n 3, 1) := by decide +kernel
theorem dL_law_494 : decode cL_law 494 = .ok (.iconst 3, 1) := by decide +kernel
theorem dL_law_495 : decode cL_law 495 = .ok (.iadd, 1) := by decide +kernel
theorem dL_law_496 : decode cL_law 496 = .ok (.iaload, 1) := by decide +kernel
theorem dL_law_497 : decode cL_law 497 = .ok (.invokevirtual 53, 3) := by decide +kernel
theorem dL_law_500 : decode cL_law 500 = .ok (.if_icmp .eq 378, 3) := by decide +kernel
theorem dL_law_503 : decode cL_law 503 = .ok (.iconst 0, 1) := by decide +kernel
theorem dL_law_504 : decode cL_law 504 = .ok (.ireturn, 1) := by decide +kernel
theorem dL_law_505 : decode cL_law 505 = .ok (.aload_n 1, 1) := by decide +kernel
theorem dL_law_506 : decode cL_law 506 = .ok (.invokevirtual 54, 3) := by decide +kernel
theorem dL_law_509 : decode cL_law 509 = .ok (.aload_n 2, 1) := by decide +kernel
theorem dL_law_510 : decode cL_law 510 = .ok (.invokevirtual 58, 3) := by decide +kernel
theorem dL_law_513 : decode cL_law 513 = .ok (.if_icmp .eq 365, 3) := by decide +kernel
theorem dL_law_516 : decode cL_law 516 = .ok (.iconst 0, 1) := by decide +kernel
theorem dL_law_517 : decode cL_law 517 = .ok (.ireturn, 1) := by decide +kernel
theorem dL_law_518 : decode cL_law 518 = .ok (.aload_n 1, 1) := by decide +kernel
theorem dL_law_519 : decode cL_law 519 = .ok (.aload_n 0, 1) := by decide +kernel
theorem dL_law_520 : decode cL_law 520 = .ok (.iload_n 3, 1) := by decide +kernel
theorem dL_law_521 : decode cL_law 521 = .ok (.iconst 1, 1) := by decide +kernel
theorem dL_law_522 : decode cL_law 522 = .ok (.iadd, 1) := by decide +kernel
theorem dL_law_523 : decode cL_law 523 = .ok (.iaload, 1) := by decide +kernel
theorem dL_law_524 : decode cL_law 524 = .ok (.invokevirtual 59, 3) := by decide +kernel
theorem dL_law_527 : decode cL_law 527 = .ok (.aload_n 2, 1) := by decide +kernel
theorem dL_law_528 : decode cL_law 528 = .ok (.aload_n 0, 1) := by decide +kernel
theorem dL_law_529 : decode cL_law 529 = .ok (.iload_n 3, 1) := by decide +kernel
theorem dL_law_530 : decode cL_law 530 = .ok (.iconst 1, 1) := by decide +kernel
theorem dL_law_531 : decode cL_law 531 = .ok (.iadd, 1) := by decide +kernel
theorem dL_law_532 : decode cL_law 532 = .ok (.iaload, 1) := by decide +kernel
theorem dL_law_533 : decode cL_law 533 = .ok (.invokevirtual 62, 3) := by decide +kernel
theorem dL_law_536 : decode cL_law 536 = .ok (.if_icmp .eq 342, 3) := by decide +kernel
theorem dL_law_539 : decode cL_law 539 = .ok (.iconst 0, 1) := by decide +kernel
theorem dL_law_540 : decode cL_law 540 = .ok (.ireturn, 1) := by decide +kernel
theorem dL_law_541 : decode cL_law 541 = .ok (.aload_n 1, 1) := by decide +kernel
theorem dL_law_542 : decode cL_law 542 = .ok (.aload_n 0, 1) := by decide +kernel
theorem dL_law_543 : decode cL_law 543 = .ok (.iload_n 3, 1) := by decide +kernel
theorem dL_law_544 : decode cL_law 544 = .ok (.iconst 1, 1) := by decide +kernel
theorem dL_law_545 : decode cL_law 545 = .ok (.iadd, 1) := by decide +kernel
theorem dL_law_546 : decode cL_law 546 = .ok (.iaload, 1) := by decide +kernel
theorem dL_law_547 : decode cL_law 547 = .ok (.invokevirtual 63, 3) := by decide +kernel
theorem dL_law_550 : decode cL_law 550 = .ok (.aload_n 2, 1) := by decide +kernel
theorem dL_law_551 : decode cL_law 551 = .ok (.aload_n 0, 1) := by decide +kernel
theorem dL_law_552 : decode cL_law 552 = .ok (.iload_n 3, 1) := by decide +kernel
theorem dL_law_553 : decode cL_law 553 = .ok (.iconst 1, 1) := by decide +kernel
theorem dL_law_554 : decode cL_law 554 = .ok (.iadd, 1) := by decide +kernel
theorem dL_law_555 : decode cL_law 555 = .ok (.iaload, 1) := by decide +kernel
theorem dL_law_556 : decode cL_law 556 = .ok (.invokevirtual 66, 3) := by decide +kernel
theorem dL_law_559 : decode cL_law 559 = .ok (.if_icmp .eq 319, 3) := by decide +kernel
theorem dL_law_562 : decode cL_law 562 = .ok (.iconst 0, 1) := by decide +kernel
theorem dL_law_563 : decode cL_law 563 = .ok (.ireturn, 1) := by decide +kernel
theorem dL_law_564 : decode cL_law 564 = .ok (.aload_n 1, 1) := by decide +kernel
theorem dL_law_565 : decode cL_law 565 = .ok (.aload_n 0, 1) := by decide +kernel
theorem dL_law_566 : decode cL_law 566 = .ok (.iload_n 3, 1) := by decide +kernel
theorem dL_law_567 : decode cL_law 567 = .ok (.iconst 1, 1) := by decide +kernel
theorem dL_law_568 : decode cL_law 568 = .ok (.iadd, 1) := by decide +kernel
theorem dL_law_569 : decode cL_law 569 = .ok (.iaload, 1) := by decide +kernel
theorem dL_law_570 : decode cL_law 570 = .ok (.aload_n 0, 1) := by decide +kernel
theorem dL_law_571 : decode cL_law 571 = .ok (.iload_n 3, 1) := by decide +kernel
theorem dL_law_572 : decode cL_law 572 = .ok (.iconst 2, 1) := by decide +kernel
theorem dL_law_573 : decode cL_law 573 = .ok (.iadd, 1) := by decide +kernel
theorem dL_law_574 : decode cL_law 574 = .ok (.iaload, 1) := by decide +kernel
theorem dL_law_575 : decode cL_law 575 = .ok (.invokevirtual 67, 3) := by decide +kernel
theorem dL_law_578 : decode cL_law 578 = .ok (.aload_n 2, 1) := by decide +kernel
theorem dL_law_579 : decode cL_law 579 = .ok (.aload_n 0, 1) := by decide +kernel
theorem dL_law_580 : decode cL_law 580 = .ok (.iload_n 3, 1) := by decide +kernel
theorem dL_law_581 : decode cL_law 581 = .ok (.iconst 1, 1) := by decide +kernel
theorem dL_law_582 : decode cL_law 582 = .ok (.iadd, 1) := by decide +kernel
theorem dL_law_583 : decode cL_law 583 = .ok (.iaload, 1) := by decide +kernel
theorem dL_law_584 : decode cL_law 584 = .ok (.aload_n 0, 1) := by decide +kernel
theorem dL_law_585 : decode cL_law 585 = .ok (.iload_n 3, 1) := by decide +kernel
theorem dL_law_586 : decode cL_law 586 = .ok (.iconst 2, 1) := by decide +kernel
theorem dL_law_587 : decode cL_law 587 = .ok (.iadd, 1) := by decide +kernel
theorem dL_law_588 : decode cL_law 588 = .ok (.iaload, 1) := by decide +kernel
theorem dL_law_589 : decode cL_law 589 = .ok (.invokevirtual 70, 3) := by decide +kernel
theorem dL_law_592 : decode cL_law 592 = .ok (.if_icmp .eq 286, 3) := by decide +kernel
theorem dL_law_595 : decode cL_law 595 = .ok (.iconst 0, 1) := by decide +kernel
theorem dL_law_596 : decode cL_law 596 = .ok (.ireturn, 1) := by decide +kernel
theorem dL_law_597 : decode cL_law 597 = .ok (.aload_n 1, 1) := by decide +kernel
theorem dL_law_598 : decode cL_law 598 = .ok (.invokevirtual 71, 3) := by decide +kernel
theorem dL_law_601 : decode cL_law 601 = .ok (.aload_n 2, 1) := by decide +kernel
theorem dL_law_602 : decode cL_law 602 = .ok (.invokevirtual 74, 3) := by decide +kernel
theorem dL_law_605 : decode cL_law 605 = .ok (.if_icmp .eq 273, 3) := by decide +kernel
theorem dL_law_608 : decode cL_law 608 = .ok (.iconst 0, 1) := by decide +kernel
theorem dL_law_609 : decode cL_law 609 = .ok (.ireturn, 1) := by decide +kernel
theorem dL_law_610 : decode cL_law 610 = .ok (.aload_n 1, 1) := by decide +kernel
theorem dL_law_611 : decode cL_law 611 = .ok (.aload_n 0, 1) := by decide +kernel
theorem dL_law_612 : decode cL_law 612 = .ok (.iload_n 3, 1) := by decide +kernel
theorem dL_law_613 : decode cL_law 613 = .ok (.iconst 1, 1) := by decide +kernel
theorem dL_law_614 : decode cL_law 614 = .ok (.iadd, 1) := by decide +kernel
theorem dL_law_615 : decode cL_law 615 = .ok (.iaload, 1) := by decide +kernel
theorem dL_law_616 : decode cL_law 616 = .ok (.aload_n 0, 1) := by decide +kernel
theorem dL_law_617 : decode cL_law 617 = .ok (.iload_n 3, 1) := by decide +kernel
theorem dL_law_618 : decode cL_law 618 = .ok (.iconst 2, 1) := by decide +kernel
theorem dL_law_619 : decode cL_law 619 = .ok (.iadd, 1) := by decide +kernel
theorem dL_law_620 : decode cL_law 620 = .ok (.iaload, 1) := by decide +kernel
theorem dL_law_621 : decode cL_law 621 = .ok (.invokevirtual 75, 3) := by decide +kernel
theorem dL_law_624 : decode cL_law 624 = .ok (.aload_n 2, 1) := by decide +kernel
theorem dL_law_625 : decode cL_law 625 = .ok (.aload_n 0, 1) := by decide +kernel
theorem dL_law_626 : decode cL_law 626 = .ok (.iload_n 3, 1) := by decide +kernel
theorem dL_law_627 : decode cL_law 627 = .ok (.iconst 1, 1) := by decide +kernel
theorem dL_law_628 : decode cL_law 628 = .ok (.iadd, 1) := by decide +kernel
theorem dL_law_629 : decode cL_law 629 = .ok (.iaload, 1) := by decide +kernel
theorem dL_law_630 : decode cL_law 630 = .ok (.aload_n 0, 1) := by decide +kernel
theorem dL_law_631 : decode cL_law 631 = .ok (.iload_n 3, 1) := by decide +kernel
theorem dL_law_632 : decode cL_law 632 = .ok (.iconst 2, 1) := by decide +kernel
theorem dL_law_633 : decode cL_law 633 = .ok (.iadd, 1) := by decide +kernel
theorem dL_law_634 : decode cL_law 634 = .ok (.iaload, 1) := by decide +kernel
theorem dL_law_635 : decode cL_law 635 = .ok (.invokevirtual 78, 3) := by decide +kernel
theorem dL_law_638 : decode cL_law 638 = .ok (.if_icmp .eq 240, 3) := by decide +kernel
theorem dL_law_641 : decode cL_law 641 = .ok (.iconst 0, 1) := by decide +kernel
theorem dL_law_642 : decode cL_law 642 = .ok (.ireturn, 1) := by decide +kernel
theorem dL_law_643 : decode cL_law 643 = .ok (.aload_n 1, 1) := by decide +kernel
theorem dL_law_644 : decode cL_law 644 = .ok (.aload_n 0, 1) := by decide +kernel
theorem dL_law_645 : decode cL_law 645 = .ok (.iload_n 3, 1) := by decide +kernel
theorem dL_law_646 : decode cL_law 646 = .ok (.iconst 1, 1) := by decide +kernel
theorem dL_law_647 : decode cL_law 647 = .ok (.iadd, 1) := by decide +kernel
theorem dL_law_648 : decode cL_law 648 = .ok (.iaload, 1) := by decide +kernel
theorem dL_law_649 : decode cL_law 649 = .ok (.invokevirtual 79, 3) := by decide +kernel
theorem dL_law_652 : decode cL_law 652 = .ok (.aload_n 2, 1) := by decide +kernel
theorem dL_law_653 : decode cL_law 653 = .ok (.aload_n 0, 1) := by decide +kernel
theorem dL_law_654 : decode cL_law 654 = .ok (.iload_n 3, 1) := by decide +kernel
theorem dL_law_655 : decode cL_law 655 = .ok (.iconst 1, 1) := by decide +kernel
theorem dL_law_656 : decode cL_law 656 = .ok (.iadd, 1) := by decide +kernel
theorem dL_law_657 : decode cL_law 657 = .ok (.iaload, 1) := by decide +kernel
theorem dL_law_658 : decode cL_law 658 = .ok (.invokevirtual 82, 3) := by decide +kernel
theorem dL_law_661 : decode cL_law 661 = .ok (.if_icmp .eq 217, 3) := by decide +kernel
theorem dL_law_664 : decode cL_law 664 = .ok (.iconst 0, 1) := by decide +kernel
theorem dL_law_665 : decode cL_law 665 = .ok (.ireturn, 1) := by decide +kernel
theorem dL_law_666 : decode cL_law 666 = .ok (.aload_n 1, 1) := by decide +kernel
theorem dL_law_667 : decode cL_law 667 = .ok (.aload_n 0, 1) := by decide +kernel
theorem dL_law_668 : decode cL_law 668 = .ok (.iload_n 3, 1) := by decide +kernel
theorem dL_law_669 : decode cL_law 669 = .ok (.iconst 1, 1) := by decide +kernel
theorem dL_law_670 : decode cL_law 670 = .ok (.iadd, 1) := by decide +kernel
theorem dL_law_671 : decode cL_law 671 = .ok (.iaload, 1) := by decide +kernel
theorem dL_law_672 : decode cL_law 672 = .ok (.invokevirtual 83, 3) := by decide +kernel
theorem dL_law_675 : decode cL_law 675 = .ok (.aload_n 2, 1) := by decide +kernel
theorem dL_law_676 : decode cL_law 676 = .ok (.aload_n 0, 1) := by decide +kernel
theorem dL_law_677 : decode cL_law 677 = .ok (.iload_n 3, 1) := by decide +kernel
theorem dL_law_678 : decode cL_law 678 = .ok (.iconst 1, 1) := by decide +kernel
theorem dL_law_679 : decode cL_law 679 = .ok (.iadd, 1) := by decide +kernel
theorem dL_law_680 : decode cL_law 680 = .ok (.iaload, 1) := by decide +kernel
theorem dL_law_681 : decode cL_law 681 = .ok (.invokevirtual 86, 3) := by decide +kernel
theorem dL_law_684 : decode cL_law 684 = .ok (.if_icmp .eq 194, 3) := by decide +kernel
theorem dL_law_687 : decode cL_law 687 = .ok (.iconst 0, 1) := by decide +kernel
theorem dL_law_688 : decode cL_law 688 = .ok (.ireturn, 1) := by decide +kernel
theorem dL_law_689 : decode cL_law 689 = .ok (.aload_n 1, 1) := by decide +kernel
theorem dL_law_690 : decode cL_law 690 = .ok (.aload_n 0, 1) := by decide +kernel
theorem dL_law_691 : decode cL_law 691 = .ok (.iload_n 3, 1) := by decide +kernel
theorem dL_law_692 : decode cL_law 692 = .ok (.iconst 1, 1) := by decide +kernel
theorem dL_law_693 : decode cL_law 693 = .ok (.iadd, 1) := by decide +kernel
theorem dL_law_694 : decode cL_law 694 = .ok (.iaload, 1) := by decide +kernel
theorem dL_law_695 : decode cL_law 695 = .ok (.aload_n 0, 1) := by decide +kernel
theorem dL_law_696 : decode cL_law 696 = .ok (.iload_n 3, 1) := by decide +kernel
theorem dL_law_697 : decode cL_law 697 = .ok (.iconst 2, 1) := by decide +kernel
theorem dL_law_698 : decode cL_law 698 = .ok (.iadd, 1) := by decide +kernel
theorem dL_law_699 : decode cL_law 699 = .ok (.iaload, 1) := by decide +kernel
theorem dL_law_700 : decode cL_law 700 = .ok (.invokevirtual 87, 3) := by decide +kernel
theorem dL_law_703 : decode cL_law 703 = .ok (.aload_n 2, 1) := by decide +kernel
theorem dL_law_704 : decode cL_law 704 = .ok (.aload_n 0, 1) := by decide +kernel
theorem dL_law_705 : decode cL_law 705 = .ok (.iload_n 3, 1) := by decide +kernel
theorem dL_law_706 : decode cL_law 706 = .ok (.iconst 1, 1) := by decide +kernel
theorem dL_law_707 : decode cL_law 707 = .ok (.iadd, 1) := by decide +kernel
theorem dL_law_708 : decode cL_law 708 = .ok (.iaload, 1) := by decide +kernel
theorem dL_law_709 : decode cL_law 709 = .ok (.aload_n 0, 1) := by decide +kernel
theorem dL_law_710 : decode cL_law 710 = .ok (.iload_n 3, 1) := by decide +kernel
theorem dL_law_711 : decode cL_law 711 = .ok (.iconst 2, 1) := by decide +kernel
theorem dL_law_712 : decode cL_law 712 = .ok (.iadd, 1) := by decide +kernel
theorem dL_law_713 : decode cL_law 713 = .ok (.iaload, 1) := by decide +kernel
theorem dL_law_714 : decode cL_law 714 = .ok (.invokevirtual 90, 3) := by decide +kernel
theorem dL_law_717 : decode cL_law 717 = .ok (.if_icmp .eq 161, 3) := by decide +kernel
theorem dL_law_720 : decode cL_law 720 = .ok (.iconst 0, 1) := by decide +kernel
theorem dL_law_721 : decode cL_law 721 = .ok (.ireturn, 1) := by decide +kernel
theorem dL_law_722 : decode cL_law 722 = .ok (.aload_n 1, 1) := by decide +kernel
theorem dL_law_723 : decode cL_law 723 = .ok (.aload_n 0, 1) := by decide +kernel
theorem dL_law_724 : decode cL_law 724 = .ok (.iload_n 3, 1) := by decide +kernel
theorem dL_law_725 : decode cL_law 725 = .ok (.iconst 1, 1) := by decide +kernel
theorem dL_law_726 : decode cL_law 726 = .ok (.iadd, 1) := by decide +kernel
theorem dL_law_727 : decode cL_law 727 = .ok (.iaload, 1) := by decide +kernel
theorem dL_law_728 : decode cL_law 728 = .ok (.aload_n 0, 1) := by decide +kernel
theorem dL_law_729 : decode cL_law 729 = .ok (.iload_n 3, 1) := by decide +kernel
theorem dL_law_730 : decode cL_law 730 = .ok (.iconst 2, 1) := by decide +kernel
theorem dL_law_731 : decode cL_law 731 = .ok (.iadd, 1) := by decide +kernel
theorem dL_law_732 : decode cL_law 732 = .ok (.iaload, 1) := by decide +kernel
theorem dL_law_733 : decode cL_law 733 = .ok (.aload_n 0, 1) := by decide +kernel
theorem dL_law_734 : decode cL_law 734 = .ok (.iload_n 3, 1) := by decide +kernel
theorem dL_law_735 : decode cL_law 735 = .ok (.iconst 3, 1) := by decide +kernel
theorem dL_law_736 : decode cL_law 736 = .ok (.iadd, 1) := by decide +kernel
theorem dL_law_737 : decode cL_law 737 = .ok (.iaload, 1) := by decide +kernel
theorem dL_law_738 : decode cL_law 738 = .ok (.invokevirtual 91, 3) := by decide +kernel
theorem dL_law_741 : decode cL_law 741 = .ok (.aload_n 2, 1) := by decide +kernel
theorem dL_law_742 : decode cL_law 742 = .ok (.aload_n 0, 1) := by decide +kernel
theorem dL_law_743 : decode cL_law 743 = .ok (.iload_n 3, 1) := by decide +kernel
theorem dL_law_744 : decode cL_law 744 = .ok (.iconst 1, 1) := by decide +kernel
theorem dL_law_745 : decode cL_law 745 = .ok (.iadd, 1) := by decide +kernel
theorem dL_law_746 : decode cL_law 746 = .ok (.iaload, 1) := by decide +kernel
theorem dL_law_747 : decode cL_law 747 = .ok (.aload_n 0, 1) := by decide +kernel
theorem dL_law_748 : decode cL_law 748 = .ok (.iload_n 3, 1) := by decide +kernel
theorem dL_law_749 : decode cL_law 749 = .ok (.iconst 2, 1) := by decide +kernel
theorem dL_law_750 : decode cL_law 750 = .ok (.iadd, 1) := by decide +kernel
theorem dL_law_751 : decode cL_law 751 = .ok (.iaload, 1) := by decide +kernel
theorem dL_law_752 : decode cL_law 752 = .ok (.aload_n 0, 1) := by decide +kernel
theorem dL_law_753 : decode cL_law 753 = .ok (.iload_n 3, 1) := by decide +kernel
theorem dL_law_754 : decode cL_law 754 = .ok (.iconst 3, 1) := by decide +kernel
theorem dL_law_755 : decode cL_law 755 = .ok (.iadd, 1) := by decide +kernel
theorem dL_law_756 : decode cL_law 756 = .ok (.iaload, 1) := by decide +kernel
theorem dL_law_757 : decode cL_law 757 = .ok (.invokevirtual 94, 3) := by decide +kernel
theorem dL_law_760 : decode cL_law 760 = .ok (.if_icmp .eq 118, 3) := by decide +kernel
theorem dL_law_763 : decode cL_law 763 = .ok (.iconst 0, 1) := by decide +kernel
theorem dL_law_764 : decode cL_law 764 = .ok (.ireturn, 1) := by decide +kernel
theorem dL_law_765 : decode cL_law 765 = .ok (.aload_n 1, 1) := by decide +kernel
theorem dL_law_766 : decode cL_law 766 = .ok (.invokevirtual 95, 3) := by decide +kernel
theorem dL_law_769 : decode cL_law 769 = .ok (.aload_n 2, 1) := by decide +kernel
theorem dL_law_770 : decode cL_law 770 = .ok (.invokevirtual 98, 3) := by decide +kernel
theorem dL_law_773 : decode cL_law 773 = .ok (.if_icmp .eq 105, 3) := by decide +kernel
theorem dL_law_776 : decode cL_law 776 = .ok (.iconst 0, 1) := by decide +kernel
theorem dL_law_777 : decode cL_law 777 = .ok (.ireturn, 1) := by decide +kernel
theorem dL_law_778 : decode cL_law 778 = .ok (.aload_n 1, 1) := by decide +kernel
theorem dL_law_779 : decode cL_law 779 = .ok (.invokevirtual 99, 3) := by decide +kernel
theorem dL_law_782 : decode cL_law 782 = .ok (.aload_n 2, 1) := by decide +kernel
theorem dL_law_783 : decode cL_law 783 = .ok (.invokevirtual 102, 3) := by decide +kernel
theorem dL_law_786 : decode cL_law 786 = .ok (.if_icmp .eq 92, 3) := by decide +kernel
theorem dL_law_789 : decode cL_law 789 = .ok (.iconst 0, 1) := by decide +kernel
theorem dL_law_790 : decode cL_law 790 = .ok (.ireturn, 1) := by decide +kernel
theorem dL_law_791 : decode cL_law 791 = .ok (.aload_n 1, 1) := by decide +kernel
theorem dL_law_792 : decode cL_law 792 = .ok (.invokevirtual 103, 3) := by decide +kernel
theorem dL_law_795 : decode cL_law 795 = .ok (.aload_n 2, 1) := by decide +kernel
theorem dL_law_796 : decode cL_law 796 = .ok (.invokevirtual 106, 3) := by decide +kernel
theorem dL_law_799 : decode cL_law 799 = .ok (.if_icmp .eq 79, 3) := by decide +kernel
theorem dL_law_802 : decode cL_law 802 = .ok (.iconst 0, 1) := by decide +kernel
theorem dL_law_803 : decode cL_law 803 = .ok (.ireturn, 1) := by decide +kernel
theorem dL_law_804 : decode cL_law 804 = .ok (.aload_n 1, 1) := by decide +kernel
theorem dL_law_805 : decode cL_law 805 = .ok (.invokevirtual 107, 3) := by decide +kernel
theorem dL_law_808 : decode cL_law 808 = .ok (.aload_n 2, 1) := by decide +kernel
theorem dL_law_809 : decode cL_law 809 = .ok (.invokevirtual 110, 3) := by decide +kernel
theorem dL_law_812 : decode cL_law 812 = .ok (.if_icmp .eq 66, 3) := by decide +kernel
theorem dL_law_815 : decode cL_law 815 = .ok (.iconst 0, 1) := by decide +kernel
theorem dL_law_816 : decode cL_law 816 = .ok (.ireturn, 1) := by decide +kernel
theorem dL_law_817 : decode cL_law 817 = .ok (.aload_n 1, 1) := by decide +kernel
theorem dL_law_818 : decode cL_law 818 = .ok (.aload_n 0, 1) := by decide +kernel
theorem dL_law_819 : decode cL_law 819 = .ok (.iload_n 3, 1) := by decide +kernel
theorem dL_law_820 : decode cL_law 820 = .ok (.iconst 1, 1) := by decide +kernel
theorem dL_law_821 : decode cL_law 821 = .ok (.iadd, 1) := by decide +kernel
theorem dL_law_822 : decode cL_law 822 = .ok (.iaload, 1) := by decide +kernel
theorem dL_law_823 : decode cL_law 823 = .ok (.invokevirtual 111, 3) := by decide +kernel
theorem dL_law_826 : decode cL_law 826 = .ok (.aload_n 2, 1) := by decide +kernel
theorem dL_law_827 : decode cL_law 827 = .ok (.aload_n 0, 1) := by decide +kernel
theorem dL_law_828 : decode cL_law 828 = .ok (.iload_n 3, 1) := by decide +kernel
theorem dL_law_829 : decode cL_law 829 = .ok (.iconst 1, 1) := by decide +kernel
theorem dL_law_830 : decode cL_law 830 = .ok (.iadd, 1) := by decide +kernel
theorem dL_law_831 : decode cL_law 831 = .ok (.iaload, 1) := by decide +kernel
theorem dL_law_832 : decode cL_law 832 = .ok (.invokevirtual 115, 3) := by decide +kernel
theorem dL_law_835 : decode cL_law 835 = .ok (.lcmp, 1) := by decide +kernel
theorem dL_law_836 : decode cL_law 836 = .ok (.ifCond .eq 42, 3) := by decide +kernel
theorem dL_law_839 : decode cL_law 839 = .ok (.iconst 0, 1) := by decide +kernel
theorem dL_law_840 : decode cL_law 840 = .ok (.ireturn, 1) := by decide +kernel
theorem dL_law_841 : decode cL_law 841 = .ok (.aload_n 1, 1) := by decide +kernel
theorem dL_law_842 : decode cL_law 842 = .ok (.aload_n 0, 1) := by decide +kernel
theorem dL_law_843 : decode cL_law 843 = .ok (.iload_n 3, 1) := by decide +kernel
theorem dL_law_844 : decode cL_law 844 = .ok (.iconst 1, 1) := by decide +kernel
theorem dL_law_845 : decode cL_law 845 = .ok (.iadd, 1) := by decide +kernel
theorem dL_law_846 : decode cL_law 846 = .ok (.iaload, 1) := by decide +kernel
theorem dL_law_847 : decode cL_law 847 = .ok (.invokevirtual 116, 3) := by decide +kernel
theorem dL_law_850 : decode cL_law 850 = .ok (.aload_n 2, 1) := by decide +kernel
theorem dL_law_851 : decode cL_law 851 = .ok (.aload_n 0, 1) := by decide +kernel
theorem dL_law_852 : decode cL_law 852 = .ok (.iload_n 3, 1) := by decide +kernel
theorem dL_law_853 : decode cL_law 853 = .ok (.iconst 1, 1) := by decide +kernel
theorem dL_law_854 : decode cL_law 854 = .ok (.iadd, 1) := by decide +kernel
theorem dL_law_855 : decode cL_law 855 = .ok (.iaload, 1) := by decide +kernel
theorem dL_law_856 : decode cL_law 856 = .ok (.invokevirtual 119, 3) := by decide +kernel
theorem dL_law_859 : decode cL_law 859 = .ok (.if_icmp .eq 19, 3) := by decide +kernel
theorem dL_law_862 : decode cL_law 862 = .ok (.iconst 0, 1) := by decide +kernel
theorem dL_law_863 : decode cL_law 863 = .ok (.ireturn, 1) := by decide +kernel
theorem dL_law_864 : decode cL_law 864 = .ok (.aload_n 1, 1) := by decide +kernel
theorem dL_law_865 : decode cL_law 865 = .ok (.invokevirtual 120, 3) := by decide +kernel
theorem dL_law_868 : decode cL_law 868 = .ok (.aload_n 2, 1) := by decide +kernel
theorem dL_law_869 : decode cL_law 869 = .ok (.invokevirtual 124, 3) := by decide +kernel
theorem dL_law_872 : decode cL_law 872 = .ok (.lcmp, 1) := by decide +kernel
theorem dL_law_873 : decode cL_law 873 = .ok (.ifCond .eq 5, 3) := by decide +kernel
theorem dL_law_876 : decode cL_law 876 = .ok (.iconst 0, 1) := by decide +kernel
theorem dL_law_877 : decode cL_law 877 = .ok (.ireturn, 1) := by decide +kernel
theorem dL_law_878 : decode cL_law 878 = .ok (.iinc 3 5, 3) := by decide +kernel
theorem dL_law_881 : decode cL_law 881 = .ok (.goto (-863), 3) := by decide +kernel
theorem dL_law_884 : decode cL_law 884 = .ok (.iconst 1, 1) := by decide +kernel
theorem dL_law_885 : decode cL_law 885 = .ok (.ireturn, 1) := by decide +kernel
