theorem dX12_image_67 : decode cX12_image 67 = .ok (.aload_n 0, 1) := by decide +kernel
theorem dX12_image_68 : decode cX12_image 68 = .ok (.aload_n 0, 1) := by decide +kernel
theorem dX12_image_69 : decode cX12_image 69 = .ok (.getfield 19, 3) := by decide +kernel
theorem dX12_image_72 : decode cX12_image 72 = .ok (.iload_n 1, 1) := by decide +kernel
theorem dX12_image_73 : decode cX12_image 73 = .ok (.iaload, 1) := by decide +kernel
theorem dX12_image_74 : decode cX12_image 74 = .ok (.invokevirtual 365, 3) := by decide +kernel
theorem dX12_image_77 : decode cX12_image 77 = .ok (.iconst 0, 1) := by decide +kernel
theorem dX12_image_78 : decode cX12_image 78 = .ok (.istore_n 2, 1) := by decide +kernel
theorem dX12_image_79 : decode cX12_image 79 = .ok (.iload_n 2, 1) := by decide +kernel
theorem dX12_image_80 : decode cX12_image 80 = .ok (.bipush 22, 2) := by decide +kernel
theorem dX12_image_82 : decode cX12_image 82 = .ok (.if_icmp .ge 24, 3) := by decide +kernel
theorem dX12_image_85 : decode cX12_image 85 = .ok (.aload_n 0, 1) := by decide +kernel
theorem dX12_image_86 : decode cX12_image 86 = .ok (.aload_n 0, 1) := by decide +kernel
theorem dX12_image_87 : decode cX12_image 87 = .ok (.getfield 22, 3) := by decide +kernel
theorem dX12_image_90 : decode cX12_image 90 = .ok (.bipush 22, 2) := by decide +kernel
theorem dX12_image_92 : decode cX12_image 92 = .ok (.iload_n 1, 1) := by decide +kernel
theorem dX12_image_93 : decode cX12_image 93 = .ok (.imul, 1) := by decide +kernel
theorem dX12_image_94 : decode cX12_image 94 = .ok (.iload_n 2, 1) := by decide +kernel
theorem dX12_image_95 : decode cX12_image 95 = .ok (.iadd, 1) := by decide +kernel
theorem dX12_image_96 : decode cX12_image 96 = .ok (.iaload, 1) := by decide +kernel
theorem dX12_image_97 : decode cX12_image 97 = .ok (.invokevirtual 365, 3) := by decide +kernel
theorem dX12_image_100 : decode cX12_image 100 = .ok (.iinc 2 1, 3) := by decide +kernel
theorem dX12_image_103 : decode cX12_image 103 = .ok (.goto (-24), 3) := by decide +kernel
theorem dX12_image_106 : decode cX12_image 106 = .ok (.aload_n 0, 1) := by decide +kernel
theorem dX12_image_107 : decode cX12_image 107 = .ok (.aload_n 0, 1) := by decide +kernel
theorem dX12_image_108 : decode cX12_image 108 = .ok (.getfield 25, 3) := by decide +kernel
theorem dX12_image_111 : decode cX12_image 111 = .ok (.iload_n 1, 1) := by decide +kernel
theorem dX12_image_112 : decode cX12_image 112 = .ok (.iaload, 1) := by decide +kernel
theorem dX12_image_113 : decode cX12_image 113 = .ok (.invokevirtual 365, 3) := by decide +kernel
theorem dX12_image_116 : decode cX12_image 116 = .ok (.iconst 0, 1) := by decide +kernel
theorem dX12_image_117 : decode cX12_image 117 = .ok (.istore_n 2, 1) := by decide +kernel
theorem dX12_image_118 : decode cX12_image 118 = .ok (.iload_n 2, 1) := by decide +kernel
theorem dX12_image_119 : decode cX12_image 119 = .ok (.aload_n 0, 1) := by decide +kernel
theorem dX12_image_120 : decode cX12_image 120 = .ok (.getfield 25, 3) := by decide +kernel
theorem dX12_image_123 : decode cX12_image 123 = .ok (.iload_n 1, 1) := by decide +kernel
theorem dX12_image_124 : decode cX12_image 124 = .ok (.iaload, 1) := by decide +kernel
theorem dX12_image_125 : decode cX12_image 125 = .ok (.if_icmp .ge 148, 3) := by decide +kernel
theorem dX12_image_128 : decode cX12_image 128 = .ok (.aload_n 0, 1) := by decide +kernel
theorem dX12_image_129 : decode cX12_image 129 = .ok (.aload_n 0, 1) := by decide +kernel
theorem dX12_image_130 : decode cX12_image 130 = .ok (.getfield 28, 3) := by decide +kernel
theorem dX12_image_133 : decode cX12_image 133 = .ok (.iconst 4, 1) := by decide +kernel
theorem dX12_image_134 : decode cX12_image 134 = .ok (.iload_n 1, 1) := by decide +kernel
theorem dX12_image_135 : decode cX12_image 135 = .ok (.imul, 1) := by decide +kernel
theorem dX12_image_136 : decode cX12_image 136 = .ok (.iload_n 2, 1) := by decide +kernel
theorem dX12_image_137 : decode cX12_image 137 = .ok (.iadd, 1) := by decide +kernel
theorem dX12_image_138 : decode cX12_image 138 = .ok (.iaload, 1) := by decide +kernel
theorem dX12_image_139 : decode cX12_image 139 = .ok (.invokevirtual 365, 3) := by decide +kernel
theorem dX12_image_142 : decode cX12_image 142 = .ok (.iconst 0, 1) := by decide +kernel
theorem dX12_image_143 : decode cX12_image 143 = .ok (.istore_n 3, 1) := by decide +kernel
theorem dX12_image_144 : decode cX12_image 144 = .ok (.iload_n 3, 1) := by decide +kernel
theorem dX12_image_145 : decode cX12_image 145 = .ok (.aload_n 0, 1) := by decide +kernel
theorem dX12_image_146 : decode cX12_image 146 = .ok (.getfield 28, 3) := by decide +kernel
theorem dX12_image_149 : decode cX12_image 149 = .ok (.iconst 4, 1) := by decide +kernel
theorem dX12_image_150 : decode cX12_image 150 = .ok (.iload_n 1, 1) := by decide +kernel
theorem dX12_image_151 : decode cX12_image 151 = .ok (.imul, 1) := by decide +kernel
theorem dX12_image_152 : decode cX12_image 152 = .ok (.iload_n 2, 1) := by decide +kernel
theorem dX12_image_153 : decode cX12_image 153 = .ok (.iadd, 1) := by decide +kernel
theorem dX12_image_154 : decode cX12_image 154 = .ok (.iaload, 1) := by decide +kernel
theorem dX12_image_155 : decode cX12_image 155 = .ok (.if_icmp .ge 80, 3) := by decide +kernel
theorem dX12_image_158 : decode cX12_image 158 = .ok (.aload_n 0, 1) := by decide +kernel
theorem dX12_image_159 : decode cX12_image 159 = .ok (.iload_n 1, 1) := by decide +kernel
theorem dX12_image_160 : decode cX12_image 160 = .ok (.iload_n 2, 1) := by decide +kernel
theorem dX12_image_161 : decode cX12_image 161 = .ok (.iload_n 3, 1) := by decide +kernel
theorem dX12_image_162 : decode cX12_image 162 = .ok (.invokevirtual 228, 3) := by decide +kernel
theorem dX12_image_165 : decode cX12_image 165 = .ok (.istore 4, 2) := by decide +kernel
theorem dX12_image_167 : decode cX12_image 167 = .ok (.aload_n 0, 1) := by decide +kernel
theorem dX12_image_168 : decode cX12_image 168 = .ok (.aload_n 0, 1) := by decide +kernel
theorem dX12_image_169 : decode cX12_image 169 = .ok (.getfield 35, 3) := by decide +kernel
theorem dX12_image_172 : decode cX12_image 172 = .ok (.iload 4, 2) := by decide +kernel
theorem dX12_image_174 : decode cX12_image 174 = .ok (.iaload, 1) := by decide +kernel
theorem dX12_image_175 : decode cX12_image 175 = .ok (.invokevirtual 365, 3) := by decide +kernel
theorem dX12_image_178 : decode cX12_image 178 = .ok (.aload_n 0, 1) := by decide +kernel
theorem dX12_image_179 : decode cX12_image 179 = .ok (.aload_n 0, 1) := by decide +kernel
theorem dX12_image_180 : decode cX12_image 180 = .ok (.getfield 38, 3) := by decide +kernel
theorem dX12_image_183 : decode cX12_image 183 = .ok (.iload 4, 2) := by decide +kernel
theorem dX12_image_185 : decode cX12_image 185 = .ok (.iaload, 1) := by decide +kernel
theorem dX12_image_186 : decode cX12_image 186 = .ok (.iconst 1, 1) := by decide +kernel
theorem dX12_image_187 : decode cX12_image 187 = .ok (.iadd, 1) := by decide +kernel
theorem dX12_image_188 : decode cX12_image 188 = .ok (.invokevirtual 365, 3) := by decide +kernel
theorem dX12_image_191 : decode cX12_image 191 = .ok (.iconst 0, 1) := by decide +kernel
theorem dX12_image_192 : decode cX12_image 192 = .ok (.istore 5, 2) := by decide +kernel
theorem dX12_image_194 : decode cX12_image 194 = .ok (.iload 5, 2) := by decide +kernel
theorem dX12_image_196 : decode cX12_image 196 = .ok (.aload_n 0, 1) := by decide +kernel
theorem dX12_image_197 : decode cX12_image 197 = .ok (.getfield 38, 3) := by decide +kernel
theorem dX12_image_200 : decode cX12_image 200 = .ok (.iload 4, 2) := by decide +kernel
theorem dX12_image_202 : decode cX12_image 202 = .ok (.iaload, 1) := by decide +kernel
theorem dX12_image_203 : decode cX12_image 203 = .ok (.if_icmp .ge 26, 3) := by decide +kernel
theorem dX12_image_206 : decode cX12_image 206 = .ok (.aload_n 0, 1) := by decide +kernel
theorem dX12_image_207 : decode cX12_image 207 = .ok (.aload_n 0, 1) := by decide +kernel
theorem dX12_image_208 : decode cX12_image 208 = .ok (.getfield 42, 3) := by decide +kernel
theorem dX12_image_211 : decode cX12_image 211 = .ok (.bipush 40, 2) := by decide +kernel
theorem dX12_image_213 : decode cX12_image 213 = .ok (.iload 4, 2) := by decide +kernel
theorem dX12_image_215 : decode cX12_image 215 = .ok (.imul, 1) := by decide +kernel
theorem dX12_image_216 : decode cX12_image 216 = .ok (.iload 5, 2) := by decide +kernel
theorem dX12_image_218 : decode cX12_image 218 = .ok (.iadd, 1) := by decide +kernel
theorem dX12_image_219 : decode cX12_image 219 = .ok (.iaload, 1) := by decide +kernel
theorem dX12_image_220 : decode cX12_image 220 = .ok (.invokevirtual 365, 3) := by decide +kernel
theorem dX12_image_223 : decode cX12_image 223 = .ok (.iinc 5 1, 3) := by decide +kernel
theorem dX12_image_226 : decode cX12_image 226 = .ok (.goto (-32), 3) := by decide +kernel
theorem dX12_image_229 : decode cX12_image 229 = .ok (.iinc 3 1, 3) := by decide +kernel
theorem dX12_image_232 : decode cX12_image 232 = .ok (.goto (-88), 3) := by decide +kernel
theorem dX12_image_235 : decode cX12_image 235 = .ok (.aload_n 0, 1) := by decide +kernel
theorem dX12_image_236 : decode cX12_image 236 = .ok (.aload_n 0, 1) := by decide +kernel
theorem dX12_image_237 : decode cX12_image 237 = .ok (.getfield 72, 3) := by decide +kernel
theorem dX12_image_240 : decode cX12_image 240 = .ok (.iload_n 2, 1) := by decide +kernel
theorem dX12_image_241 : decode cX12_image 241 = .ok (.iaload, 1) := by decide +kernel
theorem dX12_image_242 : decode cX12_image 242 = .ok (.sipush 256, 3) := by decide +kernel
theorem dX12_image_245 : decode cX12_image 245 = .ok (.idiv, 1) := by decide +kernel
theorem dX12_image_246 : decode cX12_image 246 = .ok (.sipush 256, 3) := by decide +kernel
theorem dX12_image_249 : decode cX12_image 249 = .ok (.irem, 1) := by decide +kernel
theorem dX12_image_250 : decode cX12_image 250 = .ok (.invokevirtual 365, 3) := by decide +kernel
theorem dX12_image_253 : decode cX12_image 253 = .ok (.aload_n 0, 1) := by decide +kernel
theorem dX12_image_254 : decode cX12_image 254 = .ok (.aload_n 0, 1) := by decide +kernel
theorem dX12_image_255 : decode cX12_image 255 = .ok (.getfield 72, 3) := by decide +kernel
theorem dX12_image_258 : decode cX12_image 258 = .ok (.iload_n 2, 1) := by decide +kernel
theorem dX12_image_259 : decode cX12_image 259 = .ok (.iaload, 1) := by decide +kernel
theorem dX12_image_260 : decode cX12_image 260 = .ok (.sipush 256, 3) := by decide +kernel
theorem dX12_image_263 : decode cX12_image 263 = .ok (.irem, 1) := by decide +kernel
theorem dX12_image_264 : decode cX12_image 264 = .ok (.invokevirtual 365, 3) := by decide +kernel
theorem dX12_image_267 : decode cX12_image 267 = .ok (.iinc 2 1, 3) := by decide +kernel
theorem dX12_image_270 : decode cX12_image 270 = .ok (.goto (-152), 3) := by decide +kernel
theorem dX12_image_273 : decode cX12_image 273 = .ok (.aload_n 0, 1) := by decide +kernel
theorem dX12_image_274 : decode cX12_image 274 = .ok (.getfield 362, 3) := by decide +kernel
theorem dX12_image_277 : decode cX12_image 277 = .ok (.sipush 8000, 3) := by decide +kernel
theorem dX12_image_280 : decode cX12_image 280 = .ok (.if_icmp .le 10, 3) := by decide +kernel
theorem dX12_image_283 : decode cX12_image 283 = .ok (.aload_n 0, 1) := by decide +kernel
theorem dX12_image_284 : decode cX12_image 284 = .ok (.iconst 0, 1) := by decide +kernel
theorem dX12_image_285 : decode cX12_image 285 = .ok (.putfield 362, 3) := by decide +kernel
theorem dX12_image_288 : decode cX12_image 288 = .ok (.iconst (-1), 1) := by decide +kernel
theorem dX12_image_289 : decode cX12_image 289 = .ok (.ireturn, 1) := by decide +kernel
theorem dX12_image_290 : decode cX12_image 290 = .ok (.aload_n 0, 1) := by decide +kernel
theorem dX12_image_291 : decode cX12_image 291 = .ok (.getfield 362, 3) := by decide +kernel
theorem dX12_image_294 : decode cX12_image 294 = .ok (.ireturn, 1) := by decide +kernel
theorem dX12_told_0 : decode cX12_told 0 = .ok (.aload_n 0, 1) := by decide +kernel
theorem dX12_told_1 : decode cX12_told 1 = .ok (.iconst 0, 1) := by decide +kernel
theorem dX12_told_2 : decode cX12_told 2 = .ok (.putfield 175, 3) := by decide +kernel
theorem dX12_told_5 : decode cX12_told 5 = .ok (.iload_n 1, 1) := by decide +kernel
theorem dX12_told_6 : decode cX12_told 6 = .ok (.ifCond .lt 11, 3) := by decide +kernel
theorem dX12_told_9 : decode cX12_told 9 = .ok (.iload_n 1, 1) := by decide +kernel
theorem dX12_told_10 : decode cX12_told 10 = .ok (.aload_n 0, 1) := by decide +kernel
theorem dX12_told_11 : decode cX12_told 11 = .ok (.getfield 362, 3) := by decide +kernel
theorem dX12_told_14 : decode cX12_told 14 = .ok (.if_icmp .lt 8, 3) := by decide +kernel
theorem dX12_told_17 : decode cX12_told 17 = .ok (.aload_n 0, 1) := by decide +kernel
theorem dX12_told_18 : decode cX12_told 18 = .ok (.invokevirtual 332, 3) := by decide +kernel
theorem dX12_told_21 : decode cX12_told 21 = .ok (.ireturn, 1) := by decide +kernel
theorem dX12_told_22 : decode cX12_told 22 = .ok (.aload_n 0, 1) := by decide +kernel
theorem dX12_told_23 : decode cX12_told 23 = .ok (.getfield 48, 3) := by decide +kernel
theorem dX12_told_26 : decode cX12_told 26 = .ok (.iload_n 1, 1) := by decide +kernel
theorem dX12_told_27 : decode cX12_told 27 = .ok (.iaload, 1) := by decide +kernel
theorem dX12_told_28 : decode cX12_told 28 = .ok (.ireturn, 1) := by decide +kernel
theorem dX12_read_0 : decode cX12_read 0 = .ok (.aload_n 0, 1) := by decide +kernel
theorem dX12_read_1 : decode cX12_read 1 = .ok (.getfield 368, 3) := by decide +kernel
theorem dX12_read_4 : decode cX12_read 4 = .ok (.ifCond .eq 5, 3) := by decide +kernel
theorem dX12_read_7 : decode cX12_read 7 = .ok (.iload_n 1, 1) := by decide +kernel
theorem dX12_read_8 : decode cX12_read 8 = .ok (.ireturn, 1) := by decide +kernel
theorem dX12_read_9 : decode cX12_read 9 = .ok (.aload_n 0, 1) := by decide +kernel
theorem dX12_read_10 : decode cX12_read 10 = .ok (.getfield 372, 3) := by decide +kernel
theorem dX12_read_13 : decode cX12_read 13 = .ok (.aload_n 0, 1) := by decide +kernel
theorem dX12_read_14 : decode cX12_read 14 = .ok (.getfield 375, 3) := by decide +kernel
theorem dX12_read_17 : decode cX12_read 17 = .ok (.if_icmp .eq 29, 3) := by decide +kernel
theorem dX12_read_20 : decode cX12_read 20 = .ok (.aload_n 0, 1) := by decide +kernel
theorem dX12_read_21 : decode cX12_read 21 = .ok (.getfield 45, 3) := by decide +kernel
theorem dX12_read_24 : decode cX12_read 24 = .ok (.aload_n 0, 1) := by decide +kernel
theorem dX12_read_25 : decode cX12_read 25 = .ok (.getfield 372, 3) := by decide +kernel
theorem dX12_read_28 : decode cX12_read 28 = .ok (.iaload, 1) := by decide +kernel
theorem dX12_read_29 : decode cX12_read 29 = .ok (.iload_n 1, 1) := by decide +kernel
theorem dX12_read_30 : decode cX12_read 30 = .ok (.if_icmp .lt 16, 3) := by decide +kernel
theorem dX12_read_33 : decode cX12_read 33 = .ok (.aload_n 0, 1) := by decide +kernel
theorem dX12_read_34 : decode cX12_read 34 = .ok (.getfield 45, 3) := by decide +kernel
theorem dX12_read_37 : decode cX12_read 37 = .ok (.aload_n 0, 1) := by decide +kernel
theorem dX12_read_38 : decode cX12_read 38 = .ok (.getfield 372, 3) := by decide +kernel
theorem dX12_read_41 : decode cX12_read 41 = .ok (.iaload, 1) := by decide +kernel
theorem dX12_read_42 : decode cX12_read 42 = .ok (.iload_n 2, 1) := by decide +kernel
theorem dX12_read_43 : decode cX12_read 43 = .ok (.if_icmp .le 10, 3) := by decide +kernel
theorem dX12_read_46 : decode cX12_read 46 = .ok (.aload_n 0, 1) := by decide +kernel
theorem dX12_read_47 : decode cX12_read 47 = .ok (.iconst 1, 1) := by decide +kernel
theorem dX12_read_48 : decode cX12_read 48 = .ok (.putfield 368, 3) := by decide +kernel
theorem dX12_read_51 : decode cX12_read 51 = .ok (.iload_n 1, 1) := by decide +kernel
theorem dX12_read_52 : decode cX12_read 52 = .ok (.ireturn, 1) := by decide +kernel
theorem dX12_read_53 : decode cX12_read 53 = .ok (.aload_n 0, 1) := by decide +kernel
theorem dX12_read_54 : decode cX12_read 54 = .ok (.dup, 1) := by decide +kernel
theorem dX12_read_55 : decode cX12_read 55 = .ok (.getfield 372, 3) := by decide +kernel
theorem dX12_read_58 : decode cX12_read 58 = .ok (.iconst 1, 1) := by decide +kernel
theorem dX12_read_59 : decode cX12_read 59 = .ok (.iadd, 1) := by decide +kernel
theorem dX12_read_60 : decode cX12_read 60 = .ok (.putfield 372, 3) := by decide +kernel
theorem dX12_read_63 : decode cX12_read 63 = .ok (.aload_n 0, 1) := by decide +kernel
theorem dX12_read_64 : decode cX12_read 64 = .ok (.getfield 45, 3) := by decide +kernel
theorem dX12_read_67 : decode cX12_read 67 = .ok (.aload_n 0, 1) := by decide +kernel
theorem dX12_read_68 : decode cX12_read 68 = .ok (.getfield 372, 3) := by decide +kernel
theorem dX12_read_71 : decode cX12_read 71 = .ok (.iconst 1, 1) := by decide +kernel
theorem dX12_read_72 : decode cX12_read 72 = .ok (.isub, 1) := by decide +kernel
theorem dX12_read_73 : decode cX12_read 73 = .ok (.iaload, 1) := by decide +kernel
theorem dX12_read_74 : decode cX12_read 74 = .ok (.ireturn, 1) := by decide +kernel
theorem dX12_readImage_0 : decode cX12_readImage 0 = .ok (.aload_n 0, 1) := by decide +kernel
theorem dX12_readImage_1 : decode cX12_readImage 1 = .ok (.iconst 0, 1) := by decide +kernel
theorem dX12_readImage_2 : decode cX12_readImage 2 = .ok (.putfield 372, 3) := by decide +kernel
theorem dX12_readImage_5 : decode cX12_readImage 5 = .ok (.aload_n 0, 1) := by decide +kernel
theorem dX12_readImage_6 : decode cX12_readImage 6 = .ok (.iload_n 1, 1) := by decide +kernel
theorem dX12_readImage_7 : decode cX12_readImage 7 = .ok (.putfield 375, 3) := by decide +kernel
theorem dX12_readImage_10 : decode cX12_readImage 10 = .ok (.aload_n 0, 1) := by decide +kernel
theorem dX12_readImage_11 : decode cX12_readImage 11 = .ok (.iconst 0, 1) := by decide +kernel
theorem dX12_readImage_12 : decode cX12_readImage 12 = .ok (.putfield 368, 3) := by decide +kernel
theorem dX12_readImage_15 : decode cX12_readImage 15 = .ok (.aload_n 0, 1) := by decide +kernel
theorem dX12_readImage_16 : decode cX12_readImage 16 = .ok (.getfield 182, 3) := by decide +kernel
theorem dX12_readImage_19 : decode cX12_readImage 19 = .ok (.istore_n 2, 1) := by decide +kernel
theorem dX12_readImage_20 : decode cX12_readImage 20 = .ok (.aload_n 0, 1) := by decide +kernel
theorem dX12_readImage_21 : decode cX12_readImage 21 = .ok (.bipush 66, 2) := by decide +kernel
theorem dX12_readImage_23 : decode cX12_readImage 23 = .ok (.bipush 66, 2) := by decide +kernel
theorem dX12_readImage_25 : decode cX12_readImage 25 = .ok (.invokevirtual 378, 3) := by decide +kernel
theorem dX12_readImage_28 : decode cX12_readImage 28 = .ok (.pop, 1) := by decide +kernel
theorem dX12_readImage_29 : decode cX12_readImage 29 = .ok (.aload_n 0, 1) := by decide +kernel
theorem dX12_readImage_30 : decode cX12_readImage 30 = .ok (.iconst 0, 1) := by decide +kernel
theorem dX12_readImage_31 : decode cX12_readImage 31 = .ok (.aload_n 0, 1) := by decide +kernel
theorem dX12_readImage_32 : decode cX12_readImage 32 = .ok (.getfield 179, 3) := by decide +kernel
theorem dX12_readImage_35 : decode cX12_readImage 35 = .ok (.iconst 1, 1) := by decide +kernel
theorem dX12_readImage_36 : decode cX12_readImage 36 = .ok (.isub, 1) := by decide +kernel
theorem dX12_readImage_37 : decode cX12_readImage 37 = .ok (.invokevirtual 378, 3) := by decide +kernel
theorem dX12_readImage_40 : decode cX12_readImage 40 = .ok (.istore_n 3, 1) := by decide +kernel
theorem dX12_readImage_41 : decode cX12_readImage 41 = .ok (.aload_n 0, 1) := by decide +kernel
theorem dX12_readImage_42 : decode cX12_readImage 42 = .ok (.iconst 0, 1) := by decide +kernel
theorem dX12_readImage_43 : decode cX12_readImage 43 = .ok (.aload_n 0, 1) := by decide +kernel
theorem dX12_readImage_44 : decode cX12_readImage 44 = .ok (.getfield 179, 3) := by decide +kernel
theorem dX12_readImage_47 : decode cX12_readImage 47 = .ok (.iconst 1, 1) := by decide +kernel
theorem dX12_readImage_48 : decode cX12_readImage 48 = .ok (.isub, 1) := by decide +kernel
theorem dX12_readImage_49 : decode cX12_readImage 49 = .ok (.invokevirtual 378, 3) := by decide +kernel
theorem dX12_readImage_52 : decode cX12_readImage 52 = .ok (.istore 4, 2) := by decide +kernel
theorem dX12_readImage_54 : decode cX12_readImage 54 = .ok (.aload_n 0, 1) := by decide +kernel
theorem dX12_readImage_55 : decode cX12_readImage 55 = .ok (.getfield 368, 3) := by decide +kernel
theorem dX12_readImage_58 : decode cX12_readImage 58 = .ok (.ifCond .ne 24, 3) := by decide +kernel
theorem dX12_readImage_61 : decode cX12_readImage 61 = .ok (.iload_n 3, 1) := by decide +kernel
theorem dX12_readImage_62 : decode cX12_readImage 62 = .ok (.iload 4, 2) := by decide +kernel
theorem dX12_readImage_64 : decode cX12_readImage 64 = .ok (.if_icmp .ne 18, 3) := by decide +kernel
theorem dX12_readImage_67 : decode cX12_readImage 67 = .ok (.aload_n 0, 1) := by decide +kernel
theorem dX12_readImage_68 : decode cX12_readImage 68 = .ok (.iconst 1, 1) := by decide +kernel
theorem dX12_readImage_69 : decode cX12_readImage 69 = .ok (.putfield 368, 3) := by decide +kernel
theorem dX12_readImage_72 : decode cX12_readImage 72 = .ok (.aload_n 0, 1) := by decide +kernel
theorem dX12_readImage_73 : decode cX12_readImage 73 = .ok (.dup, 1) := by decide +kernel
theorem dX12_readImage_74 : decode cX12_readImage 74 = .ok (.getfield 372, 3) := by decide +kernel
theorem dX12_readImage_77 : decode cX12_readImage 77 = .ok (.iconst 1, 1) := by decide +kernel
theorem dX12_readImage_78 : decode cX12_readImage 78 = .ok (.isub, 1) := by decide +kernel
theorem dX12_readImage_79 : decode cX12_readImage 79 = .ok (.putfield 372, 3) := by decide +kernel
theorem dX12_readImage_82 : decode cX12_readImage 82 = .ok (.aload_n 0, 1) := by decide +kernel
theorem dX12_readImage_83 : decode cX12_readImage 83 = .ok (.iconst 1, 1) := by decide +kernel
theorem dX12_readImage_84 : decode cX12_readImage 84 = .ok (.bipush 120, 2) := by decide +kernel
theorem dX12_readImage_86 : decode cX12_readImage 86 = .ok (.invokevirtual 378, 3) := by decide +kernel
theorem dX12_readImage_89 : decode cX12_readImage 89 = .ok (.istore 5, 2) := by decide +kernel
theorem dX12_readImage_91 : decode cX12_readImage 91 = .ok (.aload_n 0, 1) := by decide +kernel
theorem dX12_readImage_92 : decode cX12_readImage 92 = .ok (.iconst 1, 1) := by decide +kernel
theorem dX12_readImage_93 : decode cX12_readImage 93 = .ok (.iconst 2, 1) := by decide +kernel
theorem dX12_readImage_94 : decode cX12_readImage 94 = .ok (.invokevirtual 378, 3) := by decide +kernel
theorem dX12_readImage_97 : decode cX12_readImage 97 = .ok (.istore 6, 2) := by decide +kernel
theorem dX12_readImage_99 : decode cX12_readImage 99 = .ok (.aload_n 0, 1) := by decide +kernel
theorem dX12_readImage_100 : decode cX12_readImage 100 = .ok (.getfield 368, 3) := by decide +kernel
theorem dX12_readImage_103 : decode cX12_readImage 103 = .ok (.ifCond .eq 10, 3) := by decide +kernel
theorem dX12_readImage_106 : decode cX12_readImage 106 = .ok (.aload_n 0, 1) := by decide +kernel
theorem dX12_readImage_107 : decode cX12_readImage 107 = .ok (.getfield 372, 3) := by decide +kernel
theorem dX12_readImage_110 : decode cX12_readImage 110 = .ok (.iconst 1, 1) := by decide +kernel
theorem dX12_readImage_111 : decode cX12_readImage 111 = .ok (.iadd, 1) := by decide +kernel
theorem dX12_readImage_112 : decode cX12_readImage 112 = .ok (.ireturn, 1) := by decide +kernel
theorem dX12_readImage_113 : decode cX12_readImage 113 = .ok (.aload_n 0, 1) := by decide +kernel
theorem dX12_readImage_114 : decode cX12_readImage 114 = .ok (.iload_n 3, 1) := by decide +kernel
theorem dX12_readImage_115 : decode cX12_readImage 115 = .ok (.iload 4, 2) := by decide +kernel
theorem dX12_readImage_117 : decode cX12_readImage 117 = .ok (.iload 5, 2) := by decide +kernel
theorem dX12_readImage_119 : decode cX12_readImage 119 = .ok (.iload 6, 2) := by decide +kernel
theorem dX12_readImage_121 : decode cX12_readImage 121 = .ok (.invokevirtual 189, 3) := by decide +kernel
theorem dX12_readImage_124 : decode cX12_readImage 124 = .ok (.aload_n 0, 1) := by decide +kernel
theorem dX12_readImage_125 : decode cX12_readImage 125 = .ok (.dup, 1) := by decide +kernel
theorem dX12_readImage_126 : decode cX12_readImage 126 = .ok (.getfield 182, 3) := by decide +kernel
theorem dX12_readImage_129 : decode cX12_readImage 129 = .ok (.iconst 1, 1) := by decide +kernel
theorem dX12_readImage_130 : decode cX12_readImage 130 = .ok (.isub, 1) := by decide +kernel
theorem dX12_readImage_131 : decode cX12_readImage 131 = .ok (.putfield 182, 3) := by decide +kernel
theorem dX12_readImage_134 : decode cX12_readImage 134 = .ok (.iconst 0, 1) := by decide +kernel
theorem dX12_readImage_135 : decode cX12_readImage 135 = .ok (.istore 7, 2) := by decide +kernel
theorem dX12_readImage_137 : decode cX12_readImage 137 = .ok (.iload 7, 2) := by decide +kernel
theorem dX12_readImage_139 : decode cX12_readImage 139 = .ok (.bipush 22, 2) := by decide +kernel
theorem dX12_readImage_141 : decode cX12_readImage 141 = .ok (.if_icmp .ge 23, 3) := by decide +kernel
theorem dX12_readImage_144 : decode cX12_readImage 144 = .ok (.aload_n 0, 1) := by decide +kernel
theorem dX12_readImage_145 : decode cX12_readImage 145 = .ok (.getfield 368, 3) := by decide +kernel
theorem dX12_readImage_148 : decode cX12_readImage 148 = .ok (.ifCond .ne 16, 3) := by decide +kernel
theorem dX12_readImage_151 : decode cX12_readImage 151 = .ok (.aload_n 0, 1) := by decide +kernel
theorem dX12_readImage_152 : decode cX12_readImage 152 = .ok (.iload_n 2, 1) := by decide +kernel
theorem dX12_readImage_153 : decode cX12_readImage 153 = .ok (.iload 7, 2) := by decide +kernel
theorem dX12_readImage_155 : decode cX12_readImage 155 = .ok (.invokevirtual 381, 3) := by decide +kernel
theorem dX12_readImage_158 : decode cX12_readImage 158 = .ok (.iinc 7 1, 3) := by decide +kernel
theorem dX12_readImage_161 : decode cX12_readImage 161 = .ok (.goto (-24), 3) := by decide +kernel
theorem dX12_readImage_164 : decode cX12_readImage 164 = .ok (.aload_n 0, 1) := by decide +kernel
theorem dX12_readImage_165 : decode cX12_readImage 165 = .ok (.iconst 0, 1) := by decide +kernel
theorem dX12_readImage_166 : decode cX12_readImage 166 = .ok (.iconst 2, 1) := by decide +kernel
theorem dX12_readImage_167 : decode cX12_readImage 167 = .ok (.iload 6, 2) := by decide +kernel
theorem dX12_readImage_169 : decode cX12_readImage 169 = .ok (.imul, 1) := by decide +kernel
theorem dX12_readImage_170 : decode cX12_readImage 170 = .ok (.invokevirtual 378, 3) := by decide +kernel
theorem dX12_readImage_173 : decode cX12_readImage 173 = .ok (.istore 7, 2) := by decide +kernel
theorem dX12_readImage_175 : decode cX12_readImage 175 = .ok (.aload_n 0, 1) := by decide +kernel
theorem dX12_readImage_176 : decode cX12_readImage 176 = .ok (.getfield 25, 3) := by decide +kernel
theorem dX12_readImage_179 : decode cX12_readImage 179 = .ok (.iload_n 2, 1) := by decide +kernel
theorem dX12_readImage_180 : decode cX12_readImage 180 = .ok (.aload_n 0, 1) := by decide +kernel
theorem dX12_readImage_181 : decode cX12_readImage 181 = .ok (.getfield 368, 3) := by decide +kernel
theorem dX12_readImage_184 : decode cX12_readImage 184 = .ok (.ifCond .eq 7, 3) := by decide +kernel
theorem dX12_readImage_187 : decode cX12_readImage 187 = .ok (.iconst 0, 1) := by decide +kernel
theorem dX12_readImage_188 : decode cX12_readImage 188 = .ok (.goto 5, 3) := by decide +kernel
theorem dX12_readImage_191 : decode cX12_readImage 191 = .ok (.iload 7, 2) := by decide +kernel
theorem dX12_readImage_193 : decode cX12_readImage 193 = .ok (.iastore, 1) := by decide +kernel
theorem dX12_readImage_194 : decode cX12_readImage 194 = .ok (.iconst 0, 1) := by decide +kernel
theorem dX12_readImage_195 : decode cX12_readImage 195 = .ok (.istore 8, 2) := by decide +kernel
theorem dX12_readImage_197 : decode cX12_readImage 197 = .ok (.iload 8, 2) := by decide +kernel
theorem dX12_readImage_199 : decode cX12_readImage 199 = .ok (.aload_n 0, 1) := by decide +kernel
theorem dX12_readImage_200 : decode cX12_readImage 200 = .ok (.getfield 25, 3) := by decide +kernel
theorem dX12_readImage_203 : decode cX12_readImage 203 = .ok (.iload_n 2, 1) := by decide +kernel
theorem dX12_readImage_204 : decode cX12_readImage 204 = .ok (.iaload, 1) := by decide +kernel
theorem dX12_readImage_205 : decode cX12_readImage 205 = .ok (.if_icmp .ge 23, 3) := by decide +kernel
theorem dX12_readImage_208 : decode cX12_readImage 208 = .ok (.aload_n 0, 1) := by decide +kernel
theorem dX12_readImage_209 : decode cX12_readImage 209 = .ok (.getfield 368, 3) := by decide +kernel
theorem dX12_readImage_212 : decode cX12_readImage 212 = .ok (.ifCond .ne 16, 3) := by decide +kernel
theorem dX12_readImage_215 : decode cX12_readImage 215 = .ok (.aload_n 0, 1) := by decide +kernel
theorem dX12_readImage_216 : decode cX12_readImage 216 = .ok (.iload_n 2, 1) := by decide +kernel
theorem dX12_readImage_217 : decode cX12_readImage 217 = .ok (.iload 8, 2) := by decide +kernel
theorem dX12_readImage_219 : decode cX12_readImage 219 = .ok (.invokevirtual 384, 3) := by decide +kernel
theorem dX12_readImage_222 : decode cX12_readImage 222 = .ok (.iinc 8 1, 3) := by decide +kernel
theorem dX12_readImage_225 : decode cX12_readImage 225 = .ok (.goto (-28), 3) := by decide +kernel
theorem dX12_readImage_228 : decode cX12_readImage 228 = .ok (.aload_n 0, 1) := by decide +kernel
theorem dX12_readImage_229 : decode cX12_readImage 229 = .ok (.getfield 368, 3) := by decide +kernel
theorem dX12_readImage_232 : decode cX12_readImage 232 = .ok (.ifCond .ne 16, 3) := by decide +kernel
theorem dX12_readImage_235 : decode cX12_readImage 235 = .ok (.aload_n 0, 1) := by decide +kernel
theorem dX12_readImage_236 : decode cX12_readImage 236 = .ok (.getfield 372, 3) := by decide +kernel
theorem dX12_readImage_239 : decode cX12_readImage 239 = .ok (.iload_n 1, 1) := by decide +kernel
theorem dX12_readImage_240 : decode cX12_readImage 240 = .ok (.if_icmp .ge 8, 3) := by decide +kernel
theorem dX12_readImage_243 : decode cX12_readImage 243 = .ok (.aload_n 0, 1) := by decide +kernel
theorem dX12_readImage_244 : decode cX12_readImage 244 = .ok (.iconst 1, 1) := by decide +kernel
theorem dX12_readImage_245 : decode cX12_readImage 245 = .ok (.putfield 368, 3) := by decide +kernel
theorem dX12_readImage_248 : decode cX12_readImage 248 = .ok (.aload_n 0, 1) := by decide +kernel
theorem dX12_readImage_249 : decode cX12_readImage 249 = .ok (.getfield 368, 3) := by decide +kernel
theorem dX12_readImage_252 : decode cX12_readImage 252 = .ok (.ifCond .eq 10, 3) := by decide +kernel
theorem dX12_readImage_255 : decode cX12_readImage 255 = .ok (.aload_n 0, 1) := by decide +kernel
theorem dX12_readImage_256 : decode cX12_readImage 256 = .ok (.getfield 372, 3) := by decide +kernel
theorem dX12_readImage_259 : decode cX12_readImage 259 = .ok (.iconst 1, 1) := by decide +kernel
theorem dX12_readImage_260 : decode cX12_readImage 260 = .ok (.iadd, 1) := by decide +kernel
theorem dX12_readImage_261 : decode cX12_readImage 261 = .ok (.ireturn, 1) := by decide +kernel
theorem dX12_readImage_262 : decode cX12_readImage 262 = .ok (.aload_n 0, 1) := by decide +kernel
theorem dX12_readImage_263 : decode cX12_readImage 263 = .ok (.iload_n 2, 1) := by decide +kernel
theorem dX12_readImage_264 : decode cX12_readImage 264 = .ok (.invokevirtual 300, 3) := by decide +kernel
theorem dX12_readImage_267 : decode cX12_readImage 267 = .ok (.aload_n 0, 1) := by decide +kernel
theorem dX12_readImage_268 : decode cX12_readImage 268 = .ok (.iload_n 2, 1) := by decide +kernel
theorem dX12_readImage_269 : decode cX12_readImage 269 = .ok (.invokevirtual 387, 3) := by decide +kernel
theorem dX12_readImage_272 : decode cX12_readImage 272 = .ok (.ireturn, 1) := by decide +kernel
theorem dX12_readPlayer_0 : decode cX12_readPlayer 0 = .ok (.aload_n 0, 1) := by decide +kernel
theorem dX12_readPlayer_1 : decode cX12_readPlayer 1 = .ok (.iconst 0, 1) := by decide +kernel
theorem dX12_readPlayer_2 : decode cX12_readPlayer 2 = .ok (.aload_n 0, 1) := by decide +kernel
theorem dX12_readPlayer_3 : decode cX12_readPlayer 3 = .ok (.getfield 9, 3) := by decide +kernel
theorem dX12_readPlayer_6 : decode cX12_readPlayer 6 = .ok (.aload_n 0, 1) := by decide +kernel
theorem dX12_readPlayer_7 : decode cX12_readPlayer 7 = .ok (.getfield 13, 3) := by decide +kernel
theorem dX12_readPlayer_10 : decode cX12_readPlayer 10 = .ok (.iconst 2, 1) := by decide +kernel
theorem dX12_readPlayer_11 : decode cX12_readPlayer 11 = .ok (.iload_n 1, 1) := by decide +kernel
theorem dX12_readPlayer_12 : decode cX12_readPlayer 12 = .ok (.imul, 1) := by decide +kernel
theorem dX12_readPlayer_13 : decode cX12_readPlayer 13 = .ok (.iload_n 2, 1) := by decide +kernel
theorem dX12_readPlayer_14 : decode cX12_readPlayer 14 = .ok (.bipush 11, 2) := by decide +kernel
theorem dX12_readPlayer_16 : decode cX12_readPlayer 16 = .ok (.idiv, 1) := by decide +kernel
theorem dX12_readPlayer_17 : decode cX12_readPlayer 17 = .ok (.iadd, 1) := by decide +kernel
theorem dX12_readPlayer_18 : decode cX12_readPlayer 18 = .ok (.iaload, 1) := by decide +kernel
theorem dX12_readPlayer_19 : decode cX12_readPlayer 19 = .ok (.iaload, 1) := by decide +kernel
theorem dX12_readPlayer_20 : decode cX12_readPlayer 20 = .ok (.iconst 1, 1) := by decide +kernel
theorem dX12_readPlayer_21 : decode cX12_readPlayer 21 = .ok (.isub, 1) := by decide +kernel
theorem dX12_readPlayer_22 : decode cX12_readPlayer 22 = .ok (.invokevirtual 378, 3) := by decide +kernel
theorem dX12_readPlayer_25 : decode cX12_readPlayer 25 = .ok (.istore_n 3, 1) := by decide +kernel
theorem dX12_readPlayer_26 : decode cX12_readPlayer 26 = .ok (.iload_n 2, 1) := by decide +kernel
theorem dX12_readPlayer_27 : decode cX12_readPlayer 27 = .ok (.bipush 11, 2) := by decide +kernel
theorem dX12_readPlayer_29 : decode cX12_readPlayer 29 = .ok (.idiv, 1) := by decide +kernel
theorem dX12_readPlayer_30 : decode cX12_readPlayer 30 = .ok (.bipush 11, 2) := by decide +kernel
theorem dX12_readPlayer_32 : decode cX12_readPlayer 32 = .ok (.imul, 1) := by decide +kernel
theorem dX12_readPlayer_33 : decode cX12_readPlayer 33 = .ok (.istore 4, 2) := by decide +kernel
theorem dX12_readPlayer_35 : decode cX12_readPlayer 35 = .ok (.iload 4, 2) := by decide +kernel
theorem dX12_readPlayer_37 : decode cX12_readPlayer 37 = .ok (.iload_n 2, 1) := by decide +kernel
theorem dX12_readPlayer_38 : decode cX12_readPlayer 38 = .ok (.if_icmp .ge 47, 3) := by decide +kernel
theorem dX12_readPlayer_41 : decode cX12_readPlayer 41 = .ok (.aload_n 0, 1) := by decide +kernel
theorem dX12_readPlayer_42 : decode cX12_readPlayer 42 = .ok (.getfield 368, 3) := by decide +kernel
theorem dX12_readPlayer_45 : decode cX12_readPlayer 45 = .ok (.ifCond .ne 40, 3) := by decide +kernel
theorem dX12_readPlayer_48 : decode cX12_readPlayer 48 = .ok (.aload_n 0, 1) := by decide +kernel
theorem dX12_readPlayer_49 : decode cX12_readPlayer 49 = .ok (.getfield 22, 3) := by decide +kernel
theorem dX12_readPlayer_52 : decode cX12_readPlayer 52 = .ok (.bipush 22, 2) := by decide +kernel
theorem dX12_readPlayer_54 : decode cX12_readPlayer 54 = .ok (.iload_n 1, 1) := by decide +kernel
theorem dX12_readPlayer_55 : decode cX12_readPlayer 55 = .ok (.imul, 1) := by decide +kernel
theorem dX12_readPlayer_56 : decode cX12_readPlayer 56 = .ok (.iload 4, 2) := by decide +kernel
theorem dX12_readPlayer_58 : decode cX12_readPlayer 58 = .ok (.iadd, 1) := by decide +kernel
theorem dX12_readPlayer_59 : decode cX12_readPlayer 59 = .ok (.iaload, 1) := by decide +kernel
theorem dX12_readPlayer_60 : decode cX12_readPlayer 60 = .ok (.iload_n 3, 1) := by decide +kernel
theorem dX12_readPlayer_61 : decode cX12_readPlayer 61 = .ok (.if_icmp .ne 18, 3) := by decide +kernel
theorem dX12_readPlayer_64 : decode cX12_readPlayer 64 = .ok (.aload_n 0, 1) := by decide +kernel
theorem dX12_readPlayer_65 : decode cX12_readPlayer 65 = .ok (.iconst 1, 1) := by decide +kernel
theorem dX12_readPlayer_66 : decode cX12_readPlayer 66 = .ok (.putfield 368, 3) := by decide +kernel
theorem dX12_readPlayer_69 : decode cX12_readPlayer 69 = .ok (.aload_n 0, 1) := by decide +kernel
theorem dX12_readPlayer_70 : decode cX12_readPlayer 70 = .ok (.dup, 1) := by decide +kernel
theorem dX12_readPlayer_71 : decode cX12_readPlayer 71 = .ok (.getfield 372, 3) := by decide +kernel
theorem dX12_readPlayer_74 : decode cX12_readPlayer 74 = .ok (.iconst 1, 1) := by decide +kernel
theorem dX12_readPlayer_75 : decode cX12_readPlayer 75 = .ok (.isub, 1) := by decide +kernel
theorem dX12_readPlayer_76 : decode cX12_readPlayer 76 = .ok (.putfield 372, 3) := by decide +kernel
theorem dX12_readPlayer_79 : decode cX12_readPlayer 79 = .ok (.iinc 4 1, 3) := by decide +kernel
theorem dX12_readPlayer_82 : decode cX12_readPlayer 82 = .ok (.goto (-47), 3) := by decide +kernel
theorem dX12_readPlayer_85 : decode cX12_readPlayer 85 = .ok (.aload_n 0, 1) := by decide +kernel
theorem dX12_readPlayer_86 : decode cX12_readPlayer 86 = .ok (.getfield 22, 3) := by decide +kernel
theorem dX12_readPlayer_89 : decode cX12_readPlayer 89 = .ok (.bipush 22, 2) := by decide +kernel
theorem dX12_readPlayer_91 : decode cX12_readPlayer 91 = .ok (.iload_n 1, 1) := by decide +kernel
theorem dX12_readPlayer_92 : decode cX12_readPlayer 92 = .ok (.imul, 1) := by decide +kernel
theorem dX12_readPlayer_93 : decode cX12_readPlayer 93 = .ok (.iload_n 2, 1) := by decide +kernel
theorem dX12_readPlayer_94 : decode cX12_readPlayer 94 = .ok (.iadd, 1) := by decide +kernel
theorem dX12_readPlayer_95 : decode cX12_readPlayer 95 = .ok (.iload_n 3, 1) := by decide +kernel
theorem dX12_readPlayer_96 : decode cX12_readPlayer 96 = .ok (.iastore, 1) := by decide +kernel
theorem dX12_readPlayer_97 : decode cX12_readPlayer 97 = .ok (.return_, 1) := by decide +kernel
theorem dX12_readTurn_0 : decode cX12_readTurn 0 = .ok (.aload_n 0, 1) := by decide +kernel
theorem dX12_readTurn_1 : decode cX12_readTurn 1 = .ok (.iconst 0, 1) := by decide +kernel
theorem dX12_readTurn_2 : decode cX12_readTurn 2 = .ok (.sipush 130, 3) := by decide +kernel
theorem dX12_readTurn_5 : decode cX12_readTurn 5 = .ok (.invokevirtual 378, 3) := by decide +kernel
theorem dX12_readTurn_8 : decode cX12_readTurn 8 = .ok (.istore_n 3, 1) := by decide +kernel
theorem dX12_readTurn_9 : decode cX12_readTurn 9 = .ok (.aload_n 0, 1) := by decide +kernel
theorem dX12_readTurn_10 : decode cX12_readTurn 10 = .ok (.getfield 28, 3) := by decide +kernel
theorem dX12_readTurn_13 : decode cX12_readTurn 13 = .ok (.iconst 4, 1) := by decide +kernel
theorem dX12_readTurn_14 : decode cX12_readTurn 14 = .ok (.iload_n 1, 1) := by decide +kernel
theorem dX12_readTurn_15 : decode cX12_readTurn 15 = .ok (.imul, 1) := by decide +kernel
theorem dX12_readTurn_16 : decode cX12_readTurn 16 = .ok (.iload_n 2, 1) := by decide +kernel
theorem dX12_readTurn_17 : decode cX12_readTurn 17 = .ok (.iadd, 1) := by decide +kernel
theorem dX12_readTurn_18 : decode cX12_readTurn 18 = .ok (.iconst 0, 1) := by decide +kernel
theorem dX12_readTurn_19 : decode cX12_readTurn 19 = .ok (.iastore, 1) := by decide +kernel
theorem dX12_readTurn_20 : decode cX12_readTurn 20 = .ok (.iconst 0, 1) := by decide +kernel
theorem dX12_readTurn_21 : decode cX12_readTurn 21 = .ok (.istore 4, 2) := by decide +kernel
theorem dX12_readTurn_23 : decode cX12_readTurn 23 = .ok (.iload 4, 2) := by decide +kernel
theorem dX12_readTurn_25 : decode cX12_readTurn 25 = .ok (.iload_n 3, 1) := by decide +kernel
theorem dX12_readTurn_26 : decode cX12_readTurn 26 = .ok (.if_icmp .ge 129, 3) := by decide +kernel
theorem dX12_readTurn_29 : decode cX12_readTurn 29 = .ok (.aload_n 0, 1) := by decide +kernel
theorem dX12_readTurn_30 : decode cX12_readTurn 30 = .ok (.getfield 368, 3) := by decide +kernel
theorem dX12_readTurn_33 : decode cX12_readTurn 33 = .ok (.ifCond .ne 122, 3) := by decide +kernel
theorem dX12_readTurn_36 : decode cX12_readTurn 36 = .ok (.aload_n 0, 1) := by decide +kernel
theorem dX12_readTurn_37 : decode cX12_readTurn 37 = .ok (.aload_n 0, 1) := by decide +kernel
theorem dX12_readTurn_38 : decode cX12_readTurn 38 = .ok (.iconst 0, 1) := by decide +kernel
theorem dX12_readTurn_39 : decode cX12_readTurn 39 = .ok (.bipush 15, 2) := by decide +kernel
theorem dX12_readTurn_41 : decode cX12_readTurn 41 = .ok (.invokevirtual 378, 3) := by decide +kernel
theorem dX12_readTurn_44 : decode cX12_readTurn 44 = .ok (.iconst 0, 1) := by decide +kernel
theorem dX12_readTurn_45 : decode cX12_readTurn 45 = .ok (.invokevirtual 306, 3) := by decide +kernel
theorem dX12_readTurn_48 : decode cX12_readTurn 48 = .ok (.istore 5, 2) := by decide +kernel
theorem dX12_readTurn_50 : decode cX12_readTurn 50 = .ok (.aload_n 0, 1) := by decide +kernel
theorem dX12_readTurn_51 : decode cX12_readTurn 51 = .ok (.iconst 0, 1) := by decide +kernel
theorem dX12_readTurn_52 : decode cX12_readTurn 52 = .ok (.bipush 41, 2) := by decide +kernel
theorem dX12_readTurn_54 : decode cX12_readTurn 54 = .ok (.invokevirtual 378, 3) := by decide +kernel
theorem dX12_readTurn_57 : decode cX12_readTurn 57 = .ok (.istore 6, 2) := by decide +kernel
theorem dX12_readTurn_59 : decode cX12_readTurn 59 = .ok (.aload_n 0, 1) := by decide +kernel
theorem dX12_readTurn_60 : decode cX12_readTurn 60 = .ok (.getfield 38, 3) := by decide +kernel
theorem dX12_readTurn_63 : decode cX12_readTurn 63 = .ok (.iload 5, 2) := by decide +kernel
theorem dX12_readTurn_65 : decode cX12_readTurn 65 = .ok (.iload 6, 2) := by decide +kernel
theorem dX12_readTurn_67 : decode cX12_readTurn 67 = .ok (.iconst 1, 1) := by decide +kernel
theorem dX12_readTurn_68 : decode cX12_readTurn 68 = .ok (.isub, 1) := by decide +kernel
theorem dX12_readTurn_69 : decode cX12_readTurn 69 = .ok (.iastore, 1) := by decide +kernel
theorem dX12_readTurn_70 : decode cX12_readTurn 70 = .ok (.iconst 0, 1) := by decide +kernel
theorem dX12_readTurn_71 : decode cX12_readTurn 71 = .ok (.istore 7, 2) := by decide +kernel
theorem dX12_readTurn_73 : decode cX12_readTurn 73 = .ok (.iload 7, 2) := by decide +kernel
theorem dX12_readTurn_75 : decode cX12_readTurn 75 = .ok (.iload 6, 2) := by decide +kernel
theorem dX12_readTurn_77 : decode cX12_readTurn 77 = .ok (.iconst 1, 1) := by decide +kernel
theorem dX12_readTurn_78 : decode cX12_readTurn 78 = .ok (.isub, 1) := by decide +kernel
theorem dX12_readTurn_79 : decode cX12_readTurn 79 = .ok (.if_icmp .ge 37, 3) := by decide +kernel
theorem dX12_readTurn_82 : decode cX12_readTurn 82 = .ok (.aload_n 0, 1) := by decide +kernel
theorem dX12_readTurn_83 : decode cX12_readTurn 83 = .ok (.getfield 368, 3) := by decide +kernel
theorem dX12_readTurn_86 : decode cX12_readTurn 86 = .ok (.ifCond .ne 30, 3) := by decide +kernel
theorem dX12_readTurn_89 : decode cX12_readTurn 89 = .ok (.aload_n 0, 1) := by decide +kernel
theorem dX12_readTurn_90 : decode cX12_readTurn 90 = .ok (.getfield 42, 3) := by decide +kernel
theorem dX12_readTurn_93 : decode cX12_readTurn 93 = .ok (.bipush 40, 2) := by decide +kernel
theorem dX12_readTurn_95 : decode cX12_readTurn 95 = .ok (.iload 5, 2) := by decide +kernel
theorem dX12_readTurn_97 : decode cX12_readTurn 97 = .ok (.imul, 1) := by decide +kernel
theorem dX12_readTurn_98 : decode cX12_readTurn 98 = .ok (.iload 7, 2) := by decide +kernel
theorem dX12_readTurn_100 : decode cX12_readTurn 100 = .ok (.iadd, 1) := by decide +kernel
theorem dX12_readTurn_101 : decode cX12_readTurn 101 = .ok (.aload_n 0, 1) := by decide +kernel
theorem dX12_readTurn_102 : decode cX12_readTurn 102 = .ok (.iconst 0, 1) := by decide +kernel
theorem dX12_readTurn_103 : decode cX12_readTurn 103 = .ok (.sipush 255, 3) := by decide +kernel
theorem dX12_readTurn_106 : decode cX12_readTurn 106 = .ok (.invokevirtual 378, 3) := by decide +kernel
theorem dX12_readTurn_109 : decode cX12_readTurn 109 = .ok (.iastore, 1) := by decide +kernel
theorem dX12_readTurn_110 : decode cX12_readTurn 110 = .ok (.iinc 7 1, 3) := by decide +kernel
theorem dX12_readTurn_113 : decode cX12_readTurn 113 = .ok (.goto (-40), 3) := by decide +kernel
theorem dX12_readTurn_116 : decode cX12_readTurn 116 = .ok (.aload_n 0, 1) := by decide +kernel
theorem dX12_readTurn_117 : decode cX12_readTurn 117 = .ok (.getfield 32, 3) := by decide +kernel
theorem dX12_readTurn_120 : decode cX12_readTurn 120 = .ok (.sipush 130, 3) := by decide +kernel
theorem dX12_readTurn_123 : decode cX12_readTurn 123 = .ok (.iconst 4, 1) := by decide +kernel
theorem dX12_readTurn_124 : decode cX12_readTurn 124 = .ok (.iload_n 1, 1) := by decide +kernel
theorem dX12_readTurn_125 : decode cX12_readTurn 125 = .ok (.imul, 1) := by decide +kernel
theorem dX12_readTurn_126 : decode cX12_readTurn 126 = .ok (.iload_n 2, 1) := by decide +kernel
theorem dX12_readTurn_127 : decode cX12_readTurn 127 = .ok (.iadd, 1) := by decide +kernel
theorem dX12_readTurn_128 : decode cX12_readTurn 128 = .ok (.imul, 1) := by decide +kernel
theorem dX12_readTurn_129 : decode cX12_readTurn 129 = .ok (.iload 4, 2) := by decide +kernel
theorem dX12_readTurn_131 : decode cX12_readTurn 131 = .ok (.iadd, 1) := by decide +kernel
theorem dX12_readTurn_132 : decode cX12_readTurn 132 = .ok (.iload 5, 2) := by decide +kernel
theorem dX12_readTurn_134 : decode cX12_readTurn 134 = .ok (.iastore, 1) := by decide +kernel
theorem dX12_readTurn_135 : decode cX12_readTurn 135 = .ok (.aload_n 0, 1) := by decide +kernel
theorem dX12_readTurn_136 : decode cX12_readTurn 136 = .ok (.getfield 28, 3) := by decide +kernel
theorem dX12_readTurn_139 : decode cX12_readTurn 139 = .ok (.iconst 4, 1) := by decide +kernel
theorem dX12_readTurn_140 : decode cX12_readTurn 140 = .ok (.iload_n 1, 1) := by decide +kernel
theorem dX12_readTurn_141 : decode cX12_readTurn 141 = .ok (.imul, 1) := by decide +kernel
theorem dX12_readTurn_142 : decode cX12_readTurn 142 = .ok (.iload_n 2, 1) := by decide +kernel
theorem dX12_readTurn_143 : decode cX12_readTurn 143 = .ok (.iadd, 1) := by decide +kernel
theorem dX12_readTurn_144 : decode cX12_readTurn 144 = .ok (.dup2, 1) := by decide +kernel
theorem dX12_readTurn_145 : decode cX12_readTurn 145 = .ok (.iaload, 1) := by decide +kernel
theorem dX12_readTurn_146 : decode cX12_readTurn 146 = .ok (.iconst 1, 1) := by decide +kernel
theorem dX12_readTurn_147 : decode cX12_readTurn 147 = .ok (.iadd, 1) := by decide +kernel
theorem dX12_readTurn_148 : decode cX12_readTurn 148 = .ok (.iastore, 1) := by decide +kernel
theorem dX12_readTurn_149 : decode cX12_readTurn 149 = .ok (.iinc 4 1, 3) := by decide +kernel
theorem dX12_readTurn_152 : decode cX12_readTurn 152 = .ok (.goto (-129), 3) := by decide +kernel
theorem dX12_readTurn_155 : decode cX12_readTurn 155 = .ok (.aload_n 0, 1) := by decide +kernel
theorem dX12_readTurn_156 : decode cX12_readTurn 156 = .ok (.getfield 169, 3) := by decide +kernel
theorem dX12_readTurn_159 : decode cX12_readTurn 159 = .ok (.iload_n 2, 1) := by decide +kernel
theorem dX12_readTurn_160 : decode cX12_readTurn 160 = .ok (.sipush 256, 3) := by decide +kernel
theorem dX12_readTurn_163 : decode cX12_readTurn 163 = .ok (.aload_n 0, 1) := by decide +kernel
theorem dX12_readTurn_164 : decode cX12_readTurn 164 = .ok (.iconst 0, 1) := by decide +kernel
theorem dX12_readTurn_165 : decode cX12_readTurn 165 = .ok (.sipush 255, 3) := by decide +kernel
theorem dX12_readTurn_168 : decode cX12_readTurn 168 = .ok (.invokevirtual 378, 3) := by decide +kernel
theorem dX12_readTurn_171 : decode cX12_readTurn 171 = .ok (.imul, 1) := by decide +kernel
theorem dX12_readTurn_172 : decode cX12_readTurn 172 = .ok (.aload_n 0, 1) := by decide +kernel
theorem dX12_readTurn_173 : decode cX12_readTurn 173 = .ok (.iconst 0, 1) := by decide +kernel
theorem dX12_readTurn_174 : decode cX12_readTurn 174 = .ok (.sipush 255, 3) := by decide +kernel
theorem dX12_readTurn_177 : decode cX12_readTurn 177 = .ok (.invokevirtual 378, 3) := by decide +kernel
theorem dX12_readTurn_180 : decode cX12_readTurn 180 = .ok (.iadd, 1) := by decide +kernel
theorem dX12_readTurn_181 : decode cX12_readTurn 181 = .ok (.iastore, 1) := by decide +kernel
theorem dX12_readTurn_182 : decode cX12_readTurn 182 = .ok (.return_, 1) := by decide +kernel
theorem dX12_placeWrong_0 : decode cX12_placeWrong 0 = .ok (.bipush 28, 2) := by decide +kernel
theorem dX12_placeWrong_2 : decode cX12_placeWrong 2 = .ok (.istore_n 2, 1) := by decide +kernel
theorem dX12_placeWrong_3 : decode cX12_placeWrong 3 = .ok (.iconst 0, 1) := by decide +kernel
theorem dX12_placeWrong_4 : decode cX12_placeWrong 4 = .ok (.istore_n 3, 1) := by decide +kernel
theorem dX12_placeWrong_5 : decode cX12_placeWrong 5 = .ok (.iconst 0, 1) := by decide +kernel
theorem dX12_placeWrong_6 : decode cX12_placeWrong 6 = .ok (.istore 4, 2) := by decide +kernel
theorem dX12_placeWrong_8 : decode cX12_placeWrong 8 = .ok (.iconst 0, 1) := by decide +kernel
theorem dX12_placeWrong_9 : decode cX12_placeWrong 9 = .ok (.istore 5, 2) := by decide +kernel
theorem dX12_placeWrong_11 : decode cX12_placeWrong 11 = .ok (.iload 5, 2) := by decide +kernel
theorem dX12_placeWrong_13 : decode cX12_placeWrong 13 = .ok (.aload_n 0, 1) := by decide +kernel
theorem dX12_placeWrong_14 : decode cX12_placeWrong 14 = .ok (.getfield 25, 3) := by decide +kernel
theorem dX12_placeWrong_17 : decode cX12_placeWrong 17 = .ok (.iload_n 1, 1) := by decide +kernel
theorem dX12_placeWrong_18 : decode cX12_placeWrong 18 = .ok (.iaload, 1) := by decide +kernel
theorem dX12_placeWrong_19 : decode cX12_placeWrong 19 = .ok (.if_icmp .ge 219, 3) := by decide +kernel
theorem dX12_placeWrong_22 : decode cX12_placeWrong 22 = .ok (.aload_n 0, 1) := by decide +kernel
theorem dX12_placeWrong_23 : decode cX12_placeWrong 23 = .ok (.getfield 200, 3) := by decide +kernel
theorem dX12_placeWrong_26 : decode cX12_placeWrong 26 = .ok (.ifCond .eq 24, 3) := by decide +kernel
theorem dX12_placeWrong_29 : decode cX12_placeWrong 29 = .ok (.aload_n 0, 1) := by decide +kernel
theorem dX12_placeWrong_30 : decode cX12_placeWrong 30 = .ok (.getfield 203, 3) := by decide +kernel
theorem dX12_placeWrong_33 : decode cX12_placeWrong 33 = .ok (.iload 5, 2) := by decide +kernel
theorem dX12_placeWrong_35 : decode cX12_placeWrong 35 = .ok (.if_icmp .ne 15, 3) := by decide +kernel
theorem dX12_placeWrong_38 : decode cX12_placeWrong 38 = .ok (.aload_n 0, 1) := by decide +kernel
theorem dX12_placeWrong_39 : decode cX12_placeWrong 39 = .ok (.getfield 206, 3) := by decide +kernel
theorem dX12_placeWrong_42 : decode cX12_placeWrong 42 = .ok (.iconst (-1), 1) := by decide +kernel
theorem dX12_placeWrong_43 : decode cX12_placeWrong 43 = .ok (.if_icmp .ne 7, 3) := by decide +kernel
theorem dX12_placeWrong_46 : decode cX12_placeWrong 46 = .ok (.iload_n 2, 1) := by decide +kernel
theorem dX12_placeWrong_47 : decode cX12_placeWrong 47 = .ok (.iconst 1, 1) := by decide +kernel
theorem dX12_placeWrong_48 : decode cX12_placeWrong 48 = .ok (.iadd, 1) := by decide +kernel
theorem dX12_placeWrong_49 : decode cX12_placeWrong 49 = .ok (.istore_n 3, 1) := by decide +kernel
theorem dX12_placeWrong_50 : decode cX12_placeWrong 50 = .ok (.iinc 2 1, 3) := by decide +kernel
theorem dX12_placeWrong_53 : decode cX12_placeWrong 53 = .ok (.iconst 0, 1) := by decide +kernel
theorem dX12_placeWrong_54 : decode cX12_placeWrong 54 = .ok (.istore 6, 2) := by decide +kernel
theorem dX12_placeWrong_56 : decode cX12_placeWrong 56 = .ok (.iload 6, 2) := by decide +kernel
theorem dX12_placeWrong_58 : decode cX12_placeWrong 58 = .ok (.aload_n 0, 1) := by decide +kernel
theorem dX12_placeWrong_59 : decode cX12_placeWrong 59 = .ok (.getfield 28, 3) := by decide +kernel
theorem dX12_placeWrong_62 : decode cX12_placeWrong 62 = .ok (.iconst 4, 1) := by decide +kernel
theorem dX12_placeWrong_63 : decode cX12_placeWrong 63 = .ok (.iload_n 1, 1) := by decide +kernel
theorem dX12_placeWrong_64 : decode cX12_placeWrong 64 = .ok (.imul, 1) := by decide +kernel
theorem dX12_placeWrong_65 : decode cX12_placeWrong 65 = .ok (.iload 5, 2) := by decide +kernel
theorem dX12_placeWrong_67 : decode cX12_placeWrong 67 = .ok (.iadd, 1) := by decide +kernel
theorem dX12_placeWrong_68 : decode cX12_placeWrong 68 = .ok (.iaload, 1) := by decide +kernel
theorem dX12_placeWrong_69 : decode cX12_placeWrong 69 = .ok (.if_icmp .ge 86, 3) := by decide +kernel
theorem dX12_placeWrong_72 : decode cX12_placeWrong 72 = .ok (.aload_n 0, 1) := by decide +kernel
theorem dX12_placeWrong_73 : decode cX12_placeWrong 73 = .ok (.iload_n 1, 1) := by decide +kernel
theorem dX12_placeWrong_74 : decode cX12_placeWrong 74 = .ok (.iload 5, 2) := by decide +kernel
theorem dX12_placeWrong_76 : decode cX12_placeWrong 76 = .ok (.iload 6, 2) := by decide +kernel
theorem dX12_placeWrong_78 : decode cX12_placeWrong 78 = .ok (.invokevirtual 228, 3) := by decide +kernel
theorem dX12_placeWrong_81 : decode cX12_placeWrong 81 = .ok (.istore 7, 2) := by decide +kernel
theorem dX12_placeWrong_83 : decode cX12_placeWrong 83 = .ok (.aload_n 0, 1) := by decide +kernel
theorem dX12_placeWrong_84 : decode cX12_placeWrong 84 = .ok (.getfield 200, 3) := by decide +kernel
theorem dX12_placeWrong_87 : decode cX12_placeWrong 87 = .ok (.ifCond .eq 46, 3) := by decide +kernel
theorem dX12_placeWrong_90 : decode cX12_placeWrong 90 = .ok (.aload_n 0, 1) := by decide +kernel
theorem dX12_placeWrong_91 : decode cX12_placeWrong 91 = .ok (.getfield 203, 3) := by decide +kernel
theorem dX12_placeWrong_94 : decode cX12_placeWrong 94 = .ok (.iload 5, 2) := by decide +kernel
theorem dX12_placeWrong_96 : decode cX12_placeWrong 96 = .ok (.if_icmp .ne 37, 3) := by decide +kernel
theorem dX12_placeWrong_99 : decode cX12_placeWrong 99 = .ok (.aload_n 0, 1) := by decide +kernel
theorem dX12_placeWrong_100 : decode cX12_placeWrong 100 = .ok (.getfield 206, 3) := by decide +kernel
theorem dX12_placeWrong_103 : decode cX12_placeWrong 103 = .ok (.iload 6, 2) := by decide +kernel
theorem dX12_placeWrong_105 : decode cX12_placeWrong 105 = .ok (.if_icmp .ne 28, 3) := by decide +kernel
theorem dX12_placeWrong_108 : decode cX12_placeWrong 108 = .ok (.aload_n 0, 1) := by decide +kernel
theorem dX12_placeWrong_109 : decode cX12_placeWrong 109 = .ok (.getfield 209, 3) := by decide +kernel
theorem dX12_placeWrong_112 : decode cX12_placeWrong 112 = .ok (.iconst (-1), 1) := by decide +kernel
theorem dX12_placeWrong_113 : decode cX12_placeWrong 113 = .ok (.if_icmp .ne 9, 3) := by decide +kernel
theorem dX12_placeWrong_116 : decode cX12_placeWrong 116 = .ok (.iload_n 2, 1) := by decide +kernel
theorem dX12_placeWrong_117 : decode cX12_placeWrong 117 = .ok (.iconst 1, 1) := by decide +kernel
theorem dX12_placeWrong_118 : decode cX12_placeWrong 118 = .ok (.iadd, 1) := by decide +kernel
theorem dX12_placeWrong_119 : decode cX12_placeWrong 119 = .ok (.goto 13, 3) := by decide +kernel
theorem dX12_placeWrong_122 : decode cX12_placeWrong 122 = .ok (.iload_n 2, 1) := by decide +kernel
theorem dX12_placeWrong_123 : decode cX12_placeWrong 123 = .ok (.iconst 2, 1) := by decide +kernel
theorem dX12_placeWrong_124 : decode cX12_placeWrong 124 = .ok (.iadd, 1) := by decide +kernel
theorem dX12_placeWrong_125 : decode cX12_placeWrong 125 = .ok (.aload_n 0, 1) := by decide +kernel
theorem dX12_placeWrong_126 : decode cX12_placeWrong 126 = .ok (.getfield 209, 3) := by decide +kernel
theorem dX12_placeWrong_129 : decode cX12_placeWrong 129 = .ok (.iadd, 1) := by decide +kernel
theorem dX12_placeWrong_130 : decode cX12_placeWrong 130 = .ok (.iconst 1, 1) := by decide +kernel
theorem dX12_placeWrong_131 : decode cX12_placeWrong 131 = .ok (.iadd, 1) := by decide +kernel
theorem dX12_placeWrong_132 : decode cX12_placeWrong 132 = .ok (.istore_n 3, 1) := by decide +kernel
theorem dX12_placeWrong_133 : decode cX12_placeWrong 133 = .ok (.iload_n 2, 1) := by decide +kernel
theorem dX12_placeWrong_134 : decode cX12_placeWrong 134 = .ok (.iconst 2, 1) := by decide +kernel
theorem dX12_placeWrong_135 : decode cX12_placeWrong 135 = .ok (.iconst 0, 1) := by decide +kernel
theorem dX12_placeWrong_136 : decode cX12_placeWrong 136 = .ok (.aload_n 0, 1) := by decide +kernel
theorem dX12_placeWrong_137 : decode cX12_placeWrong 137 = .ok (.getfield 38, 3) := by decide +kernel
theorem dX12_placeWrong_140 : decode cX12_placeWrong 140 = .ok (.iload 7, 2) := by decide +kernel
theorem dX12_placeWrong_142 : decode cX12_placeWrong 142 = .ok (.iaload, 1) := by decide +kernel
theorem dX12_placeWrong_143 : decode cX12_placeWrong 143 = .ok (.invokestatic 324, 3) := by decide +kernel
theorem dX12_placeWrong_146 : decode cX12_placeWrong 146 = .ok (.iadd, 1) := by decide +kernel
theorem dX12_placeWrong_147 : decode cX12_placeWrong 147 = .ok (.iadd, 1) := by decide +kernel
theorem dX12_placeWrong_148 : decode cX12_placeWrong 148 = .ok (.istore_n 2, 1) := by decide +kernel
theorem dX12_placeWrong_149 : decode cX12_placeWrong 149 = .ok (.iinc 6 1, 3) := by decide +kernel
theorem dX12_placeWrong_152 : decode cX12_placeWrong 152 = .ok (.goto (-96), 3) := by decide +kernel
theorem dX12_placeWrong_155 : decode cX12_placeWrong 155 = .ok (.iload 4, 2) := by decide +kernel
theorem dX12_placeWrong_157 : decode cX12_placeWrong 157 = .ok (.ifCond .ne 37, 3) := by decide +kernel
theorem dX12_placeWrong_160 : decode cX12_placeWrong 160 = .ok (.aload_n 0, 1) := by decide +kernel
theorem dX12_placeWrong_161 : decode cX12_placeWrong 161 = .ok (.getfield 169, 3) := by decide +kernel
theorem dX12_placeWrong_164 : decode cX12_placeWrong 164 = .ok (.iload 5, 2) := by decide +kernel
theorem dX12_placeWrong_166 : decode cX12_placeWrong 166 = .ok (.iaload, 1) := by decide +kernel
theorem dX12_placeWrong_167 : decode cX12_placeWrong 167 = .ok (.sipush 256, 3) := by decide +kernel
theorem dX12_placeWrong_170 : decode cX12_placeWrong 170 = .ok (.idiv, 1) := by decide +kernel
theorem dX12_placeWrong_171 : decode cX12_placeWrong 171 = .ok (.aload_n 0, 1) := by decide +kernel
theorem dX12_placeWrong_172 : decode cX12_placeWrong 172 = .ok (.getfield 72, 3) := by decide +kernel
theorem dX12_placeWrong_175 : decode cX12_placeWrong 175 = .ok (.iload 5, 2) := by decide +kernel
theorem dX12_placeWrong_177 : decode cX12_placeWrong 177 = .ok (.iaload, 1) := by decide +kernel
theorem dX12_placeWrong_178 : decode cX12_placeWrong 178 = .ok (.sipush 256, 3) := by decide +kernel
theorem dX12_placeWrong_181 : decode cX12_placeWrong 181 = .ok (.idiv, 1) := by decide +kernel
theorem dX12_placeWrong_182 : decode cX12_placeWrong 182 = .ok (.sipush 256, 3) := by decide +kernel
theorem dX12_placeWrong_185 : decode cX12_placeWrong 185 = .ok (.irem, 1) := by decide +kernel
theorem dX12_placeWrong_186 : decode cX12_placeWrong 186 = .ok (.if_icmp .eq 8, 3) := by decide +kernel
theorem dX12_placeWrong_189 : decode cX12_placeWrong 189 = .ok (.iload_n 2, 1) := by decide +kernel
theorem dX12_placeWrong_190 : decode cX12_placeWrong 190 = .ok (.iconst 1, 1) := by decide +kernel
theorem dX12_placeWrong_191 : decode cX12_placeWrong 191 = .ok (.iadd, 1) := by decide +kernel
theorem dX12_placeWrong_192 : decode cX12_placeWrong 192 = .ok (.istore 4, 2) := by decide +kernel
theorem dX12_placeWrong_194 : decode cX12_placeWrong 194 = .ok (.iload 4, 2) := by decide +kernel
theorem dX12_placeWrong_196 : decode cX12_placeWrong 196 = .ok (.ifCond .ne 33, 3) := by decide +kernel
theorem dX12_placeWrong_199 : decode cX12_placeWrong 199 = .ok (.aload_n 0, 1) := by decide +kernel
theorem dX12_placeWrong_200 : decode cX12_placeWrong 200 = .ok (.getfield 169, 3) := by decide +kernel
theorem dX12_placeWrong_203 : decode cX12_placeWrong 203 = .ok (.iload 5, 2) := by decide +kernel
theorem dX12_placeWrong_205 : decode cX12_placeWrong 205 = .ok (.iaload, 1) := by decide +kernel
theorem dX12_placeWrong_206 : decode cX12_placeWrong 206 = .ok (.sipush 256, 3) := by decide +kernel
theorem dX12_placeWrong_209 : decode cX12_placeWrong 209 = .ok (.irem, 1) := by decide +kernel
theorem dX12_placeWrong_210 : decode cX12_placeWrong 210 = .ok (.aload_n 0, 1) := by decide +kernel
theorem dX12_placeWrong_211 : decode cX12_placeWrong 211 = .ok (.getfield 72, 3) := by decide +kernel
theorem dX12_placeWrong_214 : decode cX12_placeWrong 214 = .ok (.iload 5, 2) := by decide +kernel
theorem dX12_placeWrong_216 : decode cX12_placeWrong 216 = .ok (.iaload, 1) := by decide +kernel
theorem dX12_placeWrong_217 : decode cX12_placeWrong 217 = .ok (.sipush 256, 3) := by decide +kernel
theorem dX12_placeWrong_220 : decode cX12_placeWrong 220 = .ok (.irem, 1) := by decide +kernel
theorem dX12_placeWrong_221 : decode cX12_placeWrong 221 = .ok (.if_icmp .eq 8, 3) := by decide +kernel
theorem dX12_placeWrong_224 : decode cX12_placeWrong 224 = .ok (.iload_n 2, 1) := by decide +kernel
theorem dX12_placeWrong_225 : decode cX12_placeWrong 225 = .ok (.iconst 2, 1) := by decide +kernel
theorem dX12_placeWrong_226 : decode cX12_placeWrong 226 = .ok (.iadd, 1) := by decide +kernel
theorem dX12_placeWrong_227 : decode cX12_placeWrong 227 = .ok (.istore 4, 2) := by decide +kernel
theorem dX12_placeWrong_229 : decode cX12_placeWrong 229 = .ok (.iinc 2 2, 3) := by decide +kernel
theorem dX12_placeWrong_232 : decode cX12_placeWrong 232 = .ok (.iinc 5 1, 3) := by decide +kernel
theorem dX12_placeWrong_235 : decode cX12_placeWrong 235 = .ok (.goto (-224), 3) := by decide +kernel
theorem dX12_placeWrong_238 : decode cX12_placeWrong 238 = .ok (.aload_n 0, 1) := by decide +kernel
theorem dX12_placeWrong_239 : decode cX12_placeWrong 239 = .ok (.getfield 200, 3) := by decide +kernel
theorem dX12_placeWrong_242 : decode cX12_placeWrong 242 = .ok (.ifCond .eq 7, 3) := by decide +kernel
theorem dX12_placeWrong_245 : decode cX12_placeWrong 245 = .ok (.iload_n 3, 1) := by decide +kernel
theorem dX12_placeWrong_246 : decode cX12_placeWrong 246 = .ok (.goto 5, 3) := by decide +kernel
theorem dX12_placeWrong_249 : decode cX12_placeWrong 249 = .ok (.iload 4, 2) := by decide +kernel
theorem dX12_placeWrong_251 : decode cX12_placeWrong 251 = .ok (.ireturn, 1) := by decide +kernel
theorem dX12_check_0 : decode cX12_check 0 = .ok (.aload_n 0, 1) := by decide +kernel
theorem dX12_check_1 : decode cX12_check 1 = .ok (.iconst 0, 1) := by decide +kernel
theorem dX12_check_2 : decode cX12_check 2 = .ok (.putfield 175, 3) := by decide +kernel
theorem dX12_check_5 : decode cX12_check 5 = .ok (.iload_n 1, 1) := by decide +kernel
theorem dX12_check_6 : decode cX12_check 6 = .ok (.ifCond .lt 11, 3) := by decide +kernel
theorem dX12_check_9 : decode cX12_check 9 = .ok (.iload_n 1, 1) := by decide +kernel
theorem dX12_check_10 : decode cX12_check 10 = .ok (.aload_n 0, 1) := by decide +kernel
theorem dX12_check_11 : decode cX12_check 11 = .ok (.getfield 309, 3) := by decide +kernel
theorem dX12_check_14 : decode cX12_check 14 = .ok (.if_icmp .le 5, 3) := by decide +kernel
theorem dX12_check_17 : decode cX12_check 17 = .ok (.iconst (-1), 1) := by decide +kernel
theorem dX12_check_18 : decode cX12_check 18 = .ok (.ireturn, 1) := by decide +kernel
theorem dX12_check_19 : decode cX12_check 19 = .ok (.aload_n 0, 1) := by decide +kernel
theorem dX12_check_20 : decode cX12_check 20 = .ok (.getfield 294, 3) := by decide +kernel
theorem dX12_check_23 : decode cX12_check 23 = .ok (.istore_n 2, 1) := by decide +kernel
theorem dX12_check_24 : decode cX12_check 24 = .ok (.aload_n 0, 1) := by decide +kernel
theorem dX12_check_25 : decode cX12_check 25 = .ok (.iconst 0, 1) := by decide +kernel
theorem dX12_check_26 : decode cX12_check 26 = .ok (.putfield 309, 3) := by decide +kernel
theorem dX12_check_29 : decode cX12_check 29 = .ok (.aload_n 0, 1) := by decide +kernel
theorem dX12_check_30 : decode cX12_check 30 = .ok (.getfield 182, 3) := by decide +kernel
theorem dX12_check_33 : decode cX12_check 33 = .ok (.sipush 400, 3) := by decide +kernel
theorem dX12_check_36 : decode cX12_check 36 = .ok (.if_icmp .ne 11, 3) := by decide +kernel
theorem dX12_check_39 : decode cX12_check 39 = .ok (.aload_n 0, 1) := by decide +kernel
theorem dX12_check_40 : decode cX12_check 40 = .ok (.iload_n 1, 1) := by decide +kernel
theorem dX12_check_41 : decode cX12_check 41 = .ok (.invokevirtual 390, 3) := by decide +kernel
theorem dX12_check_44 : decode cX12_check 44 = .ok (.goto 8, 3) := by decide +kernel
theorem dX12_check_47 : decode cX12_check 47 = .ok (.aload_n 0, 1) := by decide +kernel
theorem dX12_check_48 : decode cX12_check 48 = .ok (.iload_n 1, 1) := by decide +kernel
theorem dX12_check_49 : decode cX12_check 49 = .ok (.invokevirtual 393, 3) := by decide +kernel
theorem dX12_check_52 : decode cX12_check 52 = .ok (.istore_n 3, 1) := by decide +kernel
theorem dX12_check_53 : decode cX12_check 53 = .ok (.aload_n 0, 1) := by decide +kernel
theorem dX12_check_54 : decode cX12_check 54 = .ok (.iload_n 2, 1) := by decide +kernel
theorem dX12_check_55 : decode cX12_check 55 = .ok (.putfield 294, 3) := by decide +kernel
theorem dX12_check_58 : decode cX12_check 58 = .ok (.iload_n 3, 1) := by decide +kernel
theorem dX12_check_59 : decode cX12_check 59 = .ok (.ireturn, 1) := by decide +kernel
theorem dX12_readFull_0 : decode cX12_readFull 0 = .ok (.sipush 399, 3) := by decide +kernel
theorem dX12_readFull_3 : decode cX12_readFull 3 = .ok (.istore_n 2, 1) := by decide +kernel
theorem dX12_readFull_4 : decode cX12_readFull 4 = .ok (.aload_n 0, 1) := by decide +kernel
theorem dX12_readFull_5 : decode cX12_readFull 5 = .ok (.getfield 172, 3) := by decide +kernel
theorem dX12_readFull_8 : decode cX12_readFull 8 = .ok (.astore_n 3, 1) := by decide +kernel
theorem dX12_readFull_9 : decode cX12_readFull 9 = .ok (.aload_n 3, 1) := by decide +kernel
theorem dX12_readFull_10 : decode cX12_readFull 10 = .ok (.iconst 0, 1) := by decide +kernel
theorem dX12_readFull_11 : decode cX12_readFull 11 = .ok (.aload_n 0, 1) := by decide +kernel
theorem dX12_readFull_12 : decode cX12_readFull 12 = .ok (.getfield 13, 3) := by decide +kernel
theorem dX12_readFull_15 : decode cX12_readFull 15 = .ok (.iconst 2, 1) := by decide +kernel
theorem dX12_readFull_16 : decode cX12_readFull 16 = .ok (.iload_n 2, 1) := by decide +kernel
theorem dX12_readFull_17 : decode cX12_readFull 17 = .ok (.imul, 1) := by decide +kernel
theorem dX12_readFull_18 : decode cX12_readFull 18 = .ok (.iaload, 1) := by decide +kernel
theorem dX12_readFull_19 : decode cX12_readFull 19 = .ok (.iastore, 1) := by decide +kernel
theorem dX12_readFull_20 : decode cX12_readFull 20 = .ok (.aload_n 3, 1) := by decide +kernel
theorem dX12_readFull_21 : decode cX12_readFull 21 = .ok (.iconst 1, 1) := by decide +kernel
theorem dX12_readFull_22 : decode cX12_readFull 22 = .ok (.aload_n 0, 1) := by decide +kernel
theorem dX12_readFull_23 : decode cX12_readFull 23 = .ok (.getfield 13, 3) := by decide +kernel
theorem dX12_readFull_26 : decode cX12_readFull 26 = .ok (.iconst 2, 1) := by decide +kernel
theorem dX12_readFull_27 : decode cX12_readFull 27 = .ok (.iload_n 2, 1) := by decide +kernel
theorem dX12_readFull_28 : decode cX12_readFull 28 = .ok (.imul, 1) := by decide +kernel
theorem dX12_readFull_29 : decode cX12_readFull 29 = .ok (.iconst 1, 1) := by decide +kernel
theorem dX12_readFull_30 : decode cX12_readFull 30 = .ok (.iadd, 1) := by decide +kernel
theorem dX12_readFull_31 : decode cX12_readFull 31 = .ok (.iaload, 1) := by decide +kernel
theorem dX12_readFull_32 : decode cX12_readFull 32 = .ok (.iastore, 1) := by decide +kernel
theorem dX12_readFull_33 : decode cX12_readFull 33 = .ok (.aload_n 3, 1) := by decide +kernel
theorem dX12_readFull_34 : decode cX12_readFull 34 = .ok (.iconst 2, 1) := by decide +kernel
theorem dX12_readFull_35 : decode cX12_readFull 35 = .ok (.aload_n 0, 1) := by decide +kernel
theorem dX12_readFull_36 : decode cX12_readFull 36 = .ok (.getfield 16, 3) := by decide +kernel
theorem dX12_readFull_39 : decode cX12_readFull 39 = .ok (.iload_n 2, 1) := by decide +kernel
theorem dX12_readFull_40 : decode cX12_readFull 40 = .ok (.iaload, 1) := by decide +kernel
theorem dX12_readFull_41 : decode cX12_readFull 41 = .ok (.iastore, 1) := by decide +kernel
theorem dX12_readFull_42 : decode cX12_readFull 42 = .ok (.aload_n 3, 1) := by decide +kernel
theorem dX12_readFull_43 : decode cX12_readFull 43 = .ok (.iconst 3, 1) := by decide +kernel
theorem dX12_readFull_44 : decode cX12_readFull 44 = .ok (.aload_n 0, 1) := by decide +kernel
theorem dX12_readFull_45 : decode cX12_readFull 45 = .ok (.getfield 19, 3) := by decide +kernel
theorem dX12_readFull_48 : decode cX12_readFull 48 = .ok (.iload_n 2, 1) := by decide +kernel
theorem dX12_readFull_49 : decode cX12_readFull 49 = .ok (.iaload, 1) := by decide +kernel
theorem dX12_readFull_50 : decode cX12_readFull 50 = .ok (.iastore, 1) := by decide +kernel
theorem dX12_readFull_51 : decode cX12_readFull 51 = .ok (.aload_n 3, 1) := by decide +kernel
theorem dX12_readFull_52 : decode cX12_readFull 52 = .ok (.iconst 4, 1) := by decide +kernel
theorem dX12_readFull_53 : decode cX12_readFull 53 = .ok (.aload_n 0, 1) := by decide +kernel
theorem dX12_readFull_54 : decode cX12_readFull 54 = .ok (.getfield 25, 3) := by decide +kernel
theorem dX12_readFull_57 : decode cX12_readFull 57 = .ok (.iload_n 2, 1) := by decide +kernel
theorem dX12_readFull_58 : decode cX12_readFull 58 = .ok (.iaload, 1) := by decide +kernel
theorem dX12_readFull_59 : decode cX12_readFull 59 = .ok (.iastore, 1) := by decide +kernel
theorem dX12_readFull_60 : decode cX12_readFull 60 = .ok (.iconst 0, 1) := by decide +kernel
theorem dX12_readFull_61 : decode cX12_readFull 61 = .ok (.istore 4, 2) := by decide +kernel
theorem dX12_readFull_63 : decode cX12_readFull 63 = .ok (.iload 4, 2) := by decide +kernel
theorem dX12_readFull_65 : decode cX12_readFull 65 = .ok (.bipush 22, 2) := by decide +kernel
theorem dX12_readFull_67 : decode cX12_readFull 67 = .ok (.if_icmp .ge 27, 3) := by decide +kernel
theorem dX12_readFull_70 : decode cX12_readFull 70 = .ok (.aload_n 3, 1) := by decide +kernel
theorem dX12_readFull_71 : decode cX12_readFull 71 = .ok (.iconst 5, 1) := by decide +kernel
theorem dX12_readFull_72 : decode cX12_readFull 72 = .ok (.iload 4, 2) := by decide +kernel
theorem dX12_readFull_74 : decode cX12_readFull 74 = .ok (.iadd, 1) := by decide +kernel
theorem dX12_readFull_75 : decode cX12_readFull 75 = .ok (.aload_n 0, 1) := by decide +kernel
theorem dX12_readFull_76 : decode cX12_readFull 76 = .ok (.getfield 22, 3) := by decide +kernel
theorem dX12_readFull_79 : decode cX12_readFull 79 = .ok (.bipush 22, 2) := by decide +kernel
theorem dX12_readFull_81 : decode cX12_readFull 81 = .ok (.iload_n 2, 1) := by decide +kernel
theorem dX12_readFull_82 : decode cX12_readFull 82 = .ok (.imul, 1) := by decide +kernel
theorem dX12_readFull_83 : decode cX12_readFull 83 = .ok (.iload 4, 2) := by decide +kernel
theorem dX12_readFull_85 : decode cX12_readFull 85 = .ok (.iadd, 1) := by decide +kernel
theorem dX12_readFull_86 : decode cX12_readFull 86 = .ok (.iaload, 1) := by decide +kernel
theorem dX12_readFull_87 : decode cX12_readFull 87 = .ok (.iastore, 1) := by decide +kernel
theorem dX12_readFull_88 : decode cX12_readFull 88 = .ok (.iinc 4 1, 3) := by decide +kernel
theorem dX12_readFull_91 : decode cX12_readFull 91 = .ok (.goto (-28), 3) := by decide +kernel
theorem dX12_readFull_94 : decode cX12_readFull 94 = .ok (.iconst 0, 1) := by decide +kernel
theorem dX12_readFull_95 : decode cX12_readFull 95 = .ok (.istore 4, 2) := by decide +kernel
theorem dX12_readFull_97 : decode cX12_readFull 97 = .ok (.iload 4, 2) := by decide +kernel
theorem dX12_readFull_99 : decode cX12_readFull 99 = .ok (.iconst 4, 1) := by decide +kernel
theorem dX12_readFull_100 : decode cX12_readFull 100 = .ok (.if_icmp .ge 27, 3) := by decide +kernel
theorem dX12_readFull_103 : decode cX12_readFull 103 = .ok (.aload_n 3, 1) := by decide +kernel
theorem dX12_readFull_104 : decode cX12_readFull 104 = .ok (.bipush 27, 2) := by decide +kernel
theorem dX12_readFull_106 : decode cX12_readFull 106 = .ok (.iload 4, 2) := by decide +kernel
theorem dX12_readFull_108 : decode cX12_readFull 108 = .ok (.iadd, 1) := by decide +kernel
theorem dX12_readFull_109 : decode cX12_readFull 109 = .ok (.aload_n 0, 1) := by decide +kernel
theorem dX12_readFull_110 : decode cX12_readFull 110 = .ok (.getfield 28, 3) := by decide +kernel
theorem dX12_readFull_113 : decode cX12_readFull 113 = .ok (.iconst 4, 1) := by decide +kernel
theorem dX12_readFull_114 : decode cX12_readFull 114 = .ok (.iload_n 2, 1) := by decide +kernel
theorem dX12_readFull_115 : decode cX12_readFull 115 = .ok (.imul, 1) := by decide +kernel
theorem dX12_readFull_116 : decode cX12_readFull 116 = .ok (.iload 4, 2) := by decide +kernel
theorem dX12_readFull_118 : decode cX12_readFull 118 = .ok (.iadd, 1) := by decide +kernel
theorem dX12_readFull_119 : decode cX12_readFull 119 = .ok (.iaload, 1) := by decide +kernel
theorem dX12_readFull_120 : decode cX12_readFull 120 = .ok (.iastore, 1) := by decide +kernel
theorem dX12_readFull_121 : decode cX12_readFull 121 = .ok (.iinc 4 1, 3) := by decide +kernel
theorem dX12_readFull_124 : decode cX12_readFull 124 = .ok (.goto (-27), 3) := by decide +kernel
theorem dX12_readFull_127 : decode cX12_readFull 127 = .ok (.iconst 0, 1) := by decide +kernel
theorem dX12_readFull_128 : decode cX12_readFull 128 = .ok (.istore 4, 2) := by decide +kernel
theorem dX12_readFull_130 : decode cX12_readFull 130 = .ok (.iload 4, 2) := by decide +kernel
theorem dX12_readFull_132 : decode cX12_readFull 132 = .ok (.sipush 520, 3) := by decide +kernel
theorem dX12_readFull_135 : decode cX12_readFull 135 = .ok (.if_icmp .ge 29, 3) := by decide +kernel
theorem dX12_readFull_138 : decode cX12_readFull 138 = .ok (.aload_n 3, 1) := by decide +kernel
theorem dX12_readFull_139 : decode cX12_readFull 139 = .ok (.bipush 31, 2) := by decide +kernel
theorem dX12_readFull_141 : decode cX12_readFull 141 = .ok (.iload 4, 2) := by decide +kernel
theorem dX12_readFull_143 : decode cX12_readFull 143 = .ok (.iadd, 1) := by decide +kernel
theorem dX12_readFull_144 : decode cX12_readFull 144 = .ok (.aload_n 0, 1) := by decide +kernel
theorem dX12_readFull_145 : decode cX12_readFull 145 = .ok (.getfield 32, 3) := by decide +kernel
theorem dX12_readFull_148 : decode cX12_readFull 148 = .ok (.sipush 520, 3) := by decide +kernel
theorem dX12_readFull_151 : decode cX12_readFull 151 = .ok (.iload_n 2, 1) := by decide +kernel
theorem dX12_readFull_152 : decode cX12_readFull 152 = .ok (.imul, 1) := by decide +kernel
theorem dX12_readFull_153 : decode cX12_readFull 153 = .ok (.iload 4, 2) := by decide +kernel
theorem dX12_readFull_155 : decode cX12_readFull 155 = .ok (.iadd, 1) := by decide +kernel
theorem dX12_readFull_156 : decode cX12_readFull 156 = .ok (.iaload, 1) := by decide +kernel
theorem dX12_readFull_157 : decode cX12_readFull 157 = .ok (.iastore, 1) := by decide +kernel
theorem dX12_readFull_158 : decode cX12_readFull 158 = .ok (.iinc 4 1, 3) := by decide +kernel
theorem dX12_readFull_161 : decode cX12_readFull 161 = .ok (.goto (-31), 3) := by decide +kernel
theorem dX12_readFull_164 : decode cX12_readFull 164 = .ok (.aload_n 0, 1) := by decide +kernel
theorem dX12_readFull_165 : decode cX12_readFull 165 = .ok (.dup, 1) := by decide +kernel
theorem dX12_readFull_166 : decode cX12_readFull 166 = .ok (.getfield 182, 3) := by decide +kernel
theorem dX12_readFull_169 : decode cX12_readFull 169 = .ok (.iconst 1, 1) := by decide +kernel
theorem dX12_readFull_170 : decode cX12_readFull 170 = .ok (.isub, 1) := by decide +kernel
theorem dX12_readFull_171 : decode cX12_readFull 171 = .ok (.putfield 182, 3) := by decide +kernel
theorem dX12_readFull_174 : decode cX12_readFull 174 = .ok (.aload_n 0, 1) := by decide +kernel
theorem dX12_readFull_175 : decode cX12_readFull 175 = .ok (.iload_n 1, 1) := by decide +kernel
theorem dX12_readFull_176 : decode cX12_readFull 176 = .ok (.invokevirtual 393, 3) := by decide +kernel
theorem dX12_readFull_179 : decode cX12_readFull 179 = .ok (.istore 4, 2) := by decide +kernel
theorem dX12_readFull_181 : decode cX12_readFull 181 = .ok (.aload_n 0, 1) := by decide +kernel
theorem dX12_readFull_182 : decode cX12_readFull 182 = .ok (.sipush 400, 3) := by decide +kernel
theorem dX12_readFull_185 : decode cX12_readFull 185 = .ok (.putfield 182, 3) := by decide +kernel
theorem dX12_readFull_188 : decode cX12_readFull 188 = .ok (.aload_n 0, 1) := by decide +kernel
theorem dX12_readFull_189 : decode cX12_readFull 189 = .ok (.getfield 13, 3) := by decide +kernel
theorem dX12_readFull_192 : decode cX12_readFull 192 = .ok (.iconst 2, 1) := by decide +kernel
theorem dX12_readFull_193 : decode cX12_readFull 193 = .ok (.iload_n 2, 1) := by decide +kernel
theorem dX12_readFull_194 : decode cX12_readFull 194 = .ok (.imul, 1) := by decide +kernel
theorem dX12_readFull_195 : decode cX12_readFull 195 = .ok (.aload_n 3, 1) := by decide +kernel
theorem dX12_readFull_196 : decode cX12_readFull 196 = .ok (.iconst 0, 1) := by decide +kernel
theorem dX12_readFull_197 : decode cX12_readFull 197 = .ok (.iaload, 1) := by decide +kernel
theorem dX12_readFull_198 : decode cX12_readFull 198 = .ok (.iastore, 1) := by decide +kernel
theorem dX12_readFull_199 : decode cX12_readFull 199 = .ok (.aload_n 0, 1) := by decide +kernel
theorem dX12_readFull_200 : decode cX12_readFull 200 = .ok (.getfield 13, 3) := by decide +kernel
theorem dX12_readFull_203 : decode cX12_readFull 203 = .ok (.iconst 2, 1) := by decide +kernel
theorem dX12_readFull_204 : decode cX12_readFull 204 = .ok (.iload_n 2, 1) := by decide +kernel
theorem dX12_readFull_205 : decode cX12_readFull 205 = .ok (.imul, 1) := by decide +kernel
theorem dX12_readFull_206 : decode cX12_readFull 206 = .ok (.iconst 1, 1) := by decide +kernel
theorem dX12_readFull_207 : decode cX12_readFull 207 = .ok (.iadd, 1) := by decide +kernel
theorem dX12_readFull_208 : decode cX12_readFull 208 = .ok (.aload_n 3, 1) := by decide +kernel
theorem dX12_readFull_209 : decode cX12_readFull 209 = .ok (.iconst 1, 1) := by decide +kernel
theorem dX12_readFull_210 : decode cX12_readFull 210 = .ok (.iaload, 1) := by decide +kernel
theorem dX12_readFull_211 : decode cX12_readFull 211 = .ok (.iastore, 1) := by decide +kernel
theorem dX12_readFull_212 : decode cX12_readFull 212 = .ok (.aload_n 0, 1) := by decide +kernel
theorem dX12_readFull_213 : decode cX12_readFull 213 = .ok (.getfield 16, 3) := by decide +kernel
theorem dX12_readFull_216 : decode cX12_readFull 216 = .ok (.iload_n 2, 1) := by decide +kernel
theorem dX12_readFull_217 : decode cX12_readFull 217 = .ok (.aload_n 3, 1) := by decide +kernel
theorem dX12_readFull_218 : decode cX12_readFull 218 = .ok (.iconst 2, 1) := by decide +kernel
theorem dX12_readFull_219 : decode cX12_readFull 219 = .ok (.iaload, 1) := by decide +kernel
theorem dX12_readFull_220 : decode cX12_readFull 220 = .ok (.iastore, 1) := by decide +kernel
theorem dX12_readFull_221 : decode cX12_readFull 221 = .ok (.aload_n 0, 1) := by decide +kernel
theorem dX12_readFull_222 : decode cX12_readFull 222 = .ok (.getfield 19, 3) := by decide +kernel
theorem dX12_readFull_225 : decode cX12_readFull 225 = .ok (.iload_n 2, 1) := by decide +kernel
theorem dX12_readFull_226 : decode cX12_readFull 226 = .ok (.aload_n 3, 1) := by decide +kernel
theorem dX12_readFull_227 : decode cX12_readFull 227 = .ok (.iconst 3, 1) := by decide +kernel
theorem dX12_readFull_228 : decode cX12_readFull 228 = .ok (.iaload, 1) := by decide +kernel
theorem dX12_readFull_229 : decode cX12_readFull 229 = .ok (.iastore, 1) := by decide +kernel
theorem dX12_readFull_230 : decode cX12_readFull 230 = .ok (.aload_n 0, 1) := by decide +kernel
theorem dX12_readFull_231 : decode cX12_readFull 231 = .ok (.getfield 25, 3) := by decide +kernel
theorem dX12_readFull_234 : decode cX12_readFull 234 = .ok (.iload_n 2, 1) := by decide +kernel
theorem dX12_readFull_235 : decode cX12_readFull 235 = .ok (.aload_n 3, 1) := by decide +kernel
theorem dX12_readFull_236 : decode cX12_readFull 236 = .ok (.iconst 4, 1) := by decide +kernel
theorem dX12_readFull_237 : decode cX12_readFull 237 = .ok (.iaload, 1) := by decide +kernel
theorem dX12_readFull_238 : decode cX12_readFull 238 = .ok (.iastore, 1) := by decide +kernel
theorem dX12_readFull_239 : decode cX12_readFull 239 = .ok (.iconst 0, 1) := by decide +kernel
theorem dX12_readFull_240 : decode cX12_readFull 240 = .ok (.istore 5, 2) := by decide +kernel
theorem dX12_readFull_242 : decode cX12_readFull 242 = .ok (.iload 5, 2) := by decide +kernel
theorem dX12_readFull_244 : decode cX12_readFull 244 = .ok (.bipush 22, 2) := by decide +kernel
theorem dX12_readFull_246 : decode cX12_readFull 246 = .ok (.if_icmp .ge 27, 3) := by decide +kernel
theorem dX12_readFull_249 : decode cX12_readFull 249 = .ok (.aload_n 0, 1) := by decide +kernel
theorem dX12_readFull_250 : decode cX12_readFull 250 = .ok (.getfield 22, 3) := by decide +kernel
theorem dX12_readFull_253 : decode cX12_readFull 253 = .ok (.bipush 22, 2) := by decide +kernel
theorem dX12_readFull_255 : decode cX12_readFull 255 = .ok (.iload_n 2, 1) := by decide +kernel
theorem dX12_readFull_256 : decode cX12_readFull 256 = .ok (.imul, 1) := by decide +kernel
theorem dX12_readFull_257 : decode cX12_readFull 257 = .ok (.iload 5, 2) := by decide +kernel
theorem dX12_readFull_259 : decode cX12_readFull 259 = .ok (.iadd, 1) := by decide +kernel
theorem dX12_readFull_260 : decode cX12_readFull 260 = .ok (.aload_n 3, 1) := by decide +kernel
theorem dX12_readFull_261 : decode cX12_readFull 261 = .ok (.iconst 5, 1) := by decide +kernel
theorem dX12_readFull_262 : decode cX12_readFull 262 = .ok (.iload 5, 2) := by decide +kernel
theorem dX12_readFull_264 : decode cX12_readFull 264 = .ok (.iadd, 1) := by decide +kernel
theorem dX12_readFull_265 : decode cX12_readFull 265 = .ok (.iaload, 1) := by decide +kernel
theorem dX12_readFull_266 : decode cX12_readFull 266 = .ok (.iastore, 1) := by decide +kernel
theorem dX12_readFull_267 : decode cX12_readFull 267 = .ok (.iinc 5 1, 3) := by decide +kernel
theorem dX12_readFull_270 : decode cX12_readFull 270 = .ok (.goto (-28), 3) := by decide +kernel
theorem dX12_readFull_273 : decode cX12_readFull 273 = .ok (.iconst 0, 1) := by decide +kernel
theorem dX12_readFull_274 : decode cX12_readFull 274 = .ok (.istore 5, 2) := by decide +kernel
theorem dX12_readFull_276 : decode cX12_readFull 276 = .ok (.iload 5, 2) := by decide +kernel
theorem dX12_readFull_278 : decode cX12_readFull 278 = .ok (.iconst 4, 1) := by decide +kernel
theorem dX12_readFull_279 : decode cX12_readFull 279 = .ok (.if_icmp .ge 27, 3) := by decide +kernel
theorem dX12_readFull_282 : decode cX12_readFull 282 = .ok (.aload_n 0, 1) := by decide +kernel
theorem dX12_readFull_283 : decode cX12_readFull 283 = .ok (.getfield 28, 3) := by decide +kernel
theorem dX12_readFull_286 : decode cX12_readFull 286 = .ok (.iconst 4, 1) := by decide +kernel
theorem dX12_readFull_287 : decode cX12_readFull 287 = .ok (.iload_n 2, 1) := by decide +kernel
theorem dX12_readFull_288 : decode cX12_readFull 288 = .ok (.imul, 1) := by decide +kernel
theorem dX12_readFull_289 : decode cX12_readFull 289 = .ok (.iload 5, 2) := by decide +kernel
theorem dX12_readFull_291 : decode cX12_readFull 291 = .ok (.iadd, 1) := by decide +kernel
theorem dX12_readFull_292 : decode cX12_readFull 292 = .ok (.aload_n 3, 1) := by decide +kernel
theorem dX12_readFull_293 : decode cX12_readFull 293 = .ok (.bipush 27, 2) := by decide +kernel
theorem dX12_readFull_295 : decode cX12_readFull 295 = .ok (.iload 5, 2) := by decide +kernel
theorem dX12_readFull_297 : decode cX12_readFull 297 = .ok (.iadd, 1) := by decide +kernel
theorem dX12_readFull_298 : decode cX12_readFull 298 = .ok (.iaload, 1) := by decide +kernel
theorem dX12_readFull_299 : decode cX12_readFull 299 = .ok (.iastore, 1) := by decide +kernel
theorem dX12_readFull_300 : decode cX12_readFull 300 = .ok (.iinc 5 1, 3) := by decide +kernel
theorem dX12_readFull_303 : decode cX12_readFull 303 = .ok (.goto (-27), 3) := by decide +kernel
theorem dX12_readFull_306 : decode cX12_readFull 306 = .ok (.iconst 0, 1) := by decide +kernel
theorem dX12_readFull_307 : decode cX12_readFull 307 = .ok (.istore 5, 2) := by decide +kernel
theorem dX12_readFull_309 : decode cX12_readFull 309 = .ok (.iload 5, 2) := by decide +kernel
theorem dX12_readFull_311 : decode cX12_readFull 311 = .ok (.sipush 520, 3) := by decide +kernel
theorem dX12_readFull_314 : decode cX12_readFull 314 = .ok (.if_icmp .ge 29, 3) := by decide +kernel
theorem dX12_readFull_317 : decode cX12_readFull 317 = .ok (.aload_n 0, 1) := by decide +kernel
theorem dX12_readFull_318 : decode cX12_readFull 318 = .ok (.getfield 32, 3) := by decide +kernel
theorem dX12_readFull_321 : decode cX12_readFull 321 = .ok (.sipush 520, 3) := by decide +kernel
theorem dX12_readFull_324 : decode cX12_readFull 324 = .ok (.iload_n 2, 1) := by decide +kernel
theorem dX12_readFull_325 : decode cX12_readFull 325 = .ok (.imul, 1) := by decide +kernel
theorem dX12_readFull_326 : decode cX12_readFull 326 = .ok (.iload 5, 2) := by decide +kernel
theorem dX12_readFull_328 : decode cX12_readFull 328 = .ok (.iadd, 1) := by decide +kernel
theorem dX12_readFull_329 : decode cX12_readFull 329 = .ok (.aload_n 3, 1) := by decide +kernel
theorem dX12_readFull_330 : decode cX12_readFull 330 = .ok (.bipush 31, 2) := by decide +kernel
theorem dX12_readFull_332 : decode cX12_readFull 332 = .ok (.iload 5, 2) := by decide +kernel
theorem dX12_readFull_334 : decode cX12_readFull 334 = .ok (.iadd, 1) := by decide +kernel
theorem dX12_readFull_335 : decode cX12_readFull 335 = .ok (.iaload, 1) := by decide +kernel
theorem dX12_readFull_336 : decode cX12_readFull 336 = .ok (.iastore, 1) := by decide +kernel
theorem dX12_readFull_337 : decode cX12_readFull 337 = .ok (.iinc 5 1, 3) := by decide +kernel
theorem dX12_readFull_340 : decode cX12_readFull 340 = .ok (.goto (-31), 3) := by decide +kernel
theorem dX12_readFull_343 : decode cX12_readFull 343 = .ok (.iload 4, 2) := by decide +kernel
theorem dX12_readFull_345 : decode cX12_readFull 345 = .ok (.ireturn, 1) := by decide +kernel
theorem dX12_take_0 : decode cX12_take 0 = .ok (.aload_n 0, 1) := by decide +kernel
theorem dX12_take_1 : decode cX12_take 1 = .ok (.iconst 0, 1) := by decide +kernel
theorem dX12_take_2 : decode cX12_take 2 = .ok (.putfield 175, 3) := by decide +kernel
theorem dX12_take_5 : decode cX12_take 5 = .ok (.iload_n 1, 1) := by decide +kernel
theorem dX12_take_6 : decode cX12_take 6 = .ok (.ifCond .lt 21, 3) := by decide +kernel
theorem dX12_take_9 : decode cX12_take 9 = .ok (.iload_n 1, 1) := by decide +kernel
theorem dX12_take_10 : decode cX12_take 10 = .ok (.aload_n 0, 1) := by decide +kernel
theorem dX12_take_11 : decode cX12_take 11 = .ok (.getfield 309, 3) := by decide +kernel
theorem dX12_take_14 : decode cX12_take 14 = .ok (.if_icmp .gt 13, 3) := by decide +kernel
theorem dX12_take_17 : decode cX12_take 17 = .ok (.aload_n 0, 1) := by decide +kernel
theorem dX12_take_18 : decode cX12_take 18 = .ok (.getfield 182, 3) := by decide +kernel
theorem dX12_take_21 : decode cX12_take 21 = .ok (.sipush 400, 3) := by decide +kernel
theorem dX12_take_24 : decode cX12_take 24 = .ok (.if_icmp .ne 5, 3) := by decide +kernel
theorem dX12_take_27 : decode cX12_take 27 = .ok (.iconst (-1), 1) := by decide +kernel
theorem dX12_take_28 : decode cX12_take 28 = .ok (.ireturn, 1) := by decide +kernel
theorem dX12_take_29 : decode cX12_take 29 = .ok (.aload_n 0, 1) := by decide +kernel
theorem dX12_take_30 : decode cX12_take 30 = .ok (.getfield 294, 3) := by decide +kernel
theorem dX12_take_33 : decode cX12_take 33 = .ok (.istore_n 2, 1) := by decide +kernel
theorem dX12_take_34 : decode cX12_take 34 = .ok (.aload_n 0, 1) := by decide +kernel
theorem dX12_take_35 : decode cX12_take 35 = .ok (.iconst 0, 1) := by decide +kernel
theorem dX12_take_36 : decode cX12_take 36 = .ok (.putfield 309, 3) := by decide +kernel
theorem dX12_take_39 : decode cX12_take 39 = .ok (.aload_n 0, 1) := by decide +kernel
theorem dX12_take_40 : decode cX12_take 40 = .ok (.iload_n 1, 1) := by decide +kernel
theorem dX12_take_41 : decode cX12_take 41 = .ok (.invokevirtual 393, 3) := by decide +kernel
theorem dX12_take_44 : decode cX12_take 44 = .ok (.istore_n 3, 1) := by decide +kernel
theorem dX12_take_45 : decode cX12_take 45 = .ok (.iload_n 3, 1) := by decide +kernel
theorem dX12_take_46 : decode cX12_take 46 = .ok (.ifCond .eq 12, 3) := by decide +kernel
theorem dX12_take_49 : decode cX12_take 49 = .ok (.aload_n 0, 1) := by decide +kernel
theorem dX12_take_50 : decode cX12_take 50 = .ok (.iload_n 2, 1) := by decide +kernel
theorem dX12_take_51 : decode cX12_take 51 = .ok (.putfield 294, 3) := by decide +kernel
theorem dX12_take_54 : decode cX12_take 54 = .ok (.iconst (-1), 1) := by decide +kernel
theorem dX12_take_55 : decode cX12_take 55 = .ok (.iload_n 3, 1) := by decide +kernel
theorem dX12_take_56 : decode cX12_take 56 = .ok (.isub, 1) := by decide +kernel
theorem dX12_take_57 : decode cX12_take 57 = .ok (.ireturn, 1) := by decide +kernel
theorem dX12_take_58 : decode cX12_take 58 = .ok (.aload_n 0, 1) := by decide +kernel
theorem dX12_take_59 : decode cX12_take 59 = .ok (.dup, 1) := by decide +kernel
theorem dX12_take_60 : decode cX12_take 60 = .ok (.getfield 182, 3) := by decide +kernel
theorem dX12_take_63 : decode cX12_take 63 = .ok (.iconst 1, 1) := by decide +kernel
theorem dX12_take_64 : decode cX12_take 64 = .ok (.iadd, 1) := by decide +kernel
theorem dX12_take_65 : decode cX12_take 65 = .ok (.putfield 182, 3) := by decide +kernel
theorem dX12_take_68 : decode cX12_take 68 = .ok (.aload_n 0, 1) := by decide +kernel
theorem dX12_take_69 : decode cX12_take 69 = .ok (.getfield 182, 3) := by decide +kernel
theorem dX12_take_72 : decode cX12_take 72 = .ok (.iconst 1, 1) := by decide +kernel
theorem dX12_take_73 : decode cX12_take 73 = .ok (.isub, 1) := by decide +kernel
theorem dX12_take_74 : decode cX12_take 74 = .ok (.ireturn, 1) := by decide +kernel
theorem dX12_list_0 : decode cX12_list 0 = .ok (.aload_n 0, 1) := by decide +kernel
theorem dX12_list_1 : decode cX12_list 1 = .ok (.iconst 0, 1) := by decide +kernel
theorem dX12_list_2 : decode cX12_list 2 = .ok (.putfield 175, 3) := by decide +kernel
theorem dX12_list_5 : decode cX12_list 5 = .ok (.iload_n 1, 1) := by decide +kernel
theorem dX12_list_6 : decode cX12_list 6 = .ok (.tableswitch 59 0 4 #[34, 39, 44, 49, 54], 34) := by decide +kernel
theorem dX12_list_40 : decode cX12_list 40 = .ok (.aload_n 0, 1) := by decide +kernel
theorem dX12_list_41 : decode cX12_list 41 = .ok (.getfield 179, 3) := by decide +kernel
theorem dX12_list_44 : decode cX12_list 44 = .ok (.ireturn, 1) := by decide +kernel
theorem dX12_list_45 : decode cX12_list 45 = .ok (.aload_n 0, 1) := by decide +kernel
theorem dX12_list_46 : decode cX12_list 46 = .ok (.getfield 182, 3) := by decide +kernel
theorem dX12_list_49 : decode cX12_list 49 = .ok (.ireturn, 1) := by decide +kernel
theorem dX12_list_50 : decode cX12_list 50 = .ok (.aload_n 0, 1) := by decide +kernel
theorem dX12_list_51 : decode cX12_list 51 = .ok (.getfield 309, 3) := by decide +kernel
theorem dX12_list_54 : decode cX12_list 54 = .ok (.ireturn, 1) := by decide +kernel
theorem dX12_list_55 : decode cX12_list 55 = .ok (.aload_n 0, 1) := by decide +kernel
theorem dX12_list_56 : decode cX12_list 56 = .ok (.getfield 291, 3) := by decide +kernel
theorem dX12_list_59 : decode cX12_list 59 = .ok (.ireturn, 1) := by decide +kernel
theorem dX12_list_60 : decode cX12_list 60 = .ok (.aload_n 0, 1) := by decide +kernel
theorem dX12_list_61 : decode cX12_list 61 = .ok (.getfield 362, 3) := by decide +kernel
theorem dX12_list_64 : decode cX12_list 64 = .ok (.ireturn, 1) := by decide +kernel
theorem dX12_list_65 : decode cX12_list 65 = .ok (.iload_n 1, 1) := by decide +kernel
theorem dX12_list_66 : decode cX12_list 66 = .ok (.iconst 5, 1) := by decide +kernel
theorem dX12_list_67 : decode cX12_list 67 = .ok (.if_icmp .lt 24, 3) := by decide +kernel
theorem dX12_list_70 : decode cX12_list 70 = .ok (.iload_n 1, 1) := by decide +kernel
theorem dX12_list_71 : decode cX12_list 71 = .ok (.iconst 5, 1) := by decide +kernel
theorem dX12_list_72 : decode cX12_list 72 = .ok (.isub, 1) := by decide +kernel
theorem dX12_list_73 : decode cX12_list 73 = .ok (.aload_n 0, 1) := by decide +kernel
theorem dX12_list_74 : decode cX12_list 74 = .ok (.getfield 179, 3) := by decide +kernel
theorem dX12_list_77 : decode cX12_list 77 = .ok (.if_icmp .ge 14, 3) := by decide +kernel
theorem dX12_list_80 : decode cX12_list 80 = .ok (.aload_n 0, 1) := by decide +kernel
theorem dX12_list_81 : decode cX12_list 81 = .ok (.getfield 9, 3) := by decide +kernel
theorem dX12_list_84 : decode cX12_list 84 = .ok (.iload_n 1, 1) := by decide +kernel
theorem dX12_list_85 : decode cX12_list 85 = .ok (.iconst 5, 1) := by decide +kernel
theorem dX12_list_86 : decode cX12_list 86 = .ok (.isub, 1) := by decide +kernel
theorem dX12_list_87 : decode cX12_list 87 = .ok (.iaload, 1) := by decide +kernel
theorem dX12_list_88 : decode cX12_list 88 = .ok (.goto 7, 3) := by decide +kernel
theorem dX12_list_91 : decode cX12_list 91 = .ok (.aload_n 0, 1) := by decide +kernel
theorem dX12_list_92 : decode cX12_list 92 = .ok (.invokevirtual 332, 3) := by decide +kernel
theorem dX12_list_95 : decode cX12_list 95 = .ok (.ireturn, 1) := by decide +kernel
theorem dX12_sum_0 : decode cX12_sum 0 = .ok (.aload_n 0, 1) := by decide +kernel
theorem dX12_sum_1 : decode cX12_sum 1 = .ok (.iconst 0, 1) := by decide +kernel
theorem dX12_sum_2 : decode cX12_sum 2 = .ok (.putfield 175, 3) := by decide +kernel
theorem dX12_sum_5 : decode cX12_sum 5 = .ok (.aload_n 0, 1) := by decide +kernel
theorem dX12_sum_6 : decode cX12_sum 6 = .ok (.iload_n 1, 1) := by decide +kernel
theorem dX12_sum_7 : decode cX12_sum 7 = .ok (.invokevirtual 193, 3) := by decide +kernel
theorem dX12_sum_10 : decode cX12_sum 10 = .ok (.ifCond .ne 9, 3) := by decide +kernel
theorem dX12_sum_13 : decode cX12_sum 13 = .ok (.aload_n 0, 1) := by decide +kernel
theorem dX12_sum_14 : decode cX12_sum 14 = .ok (.invokevirtual 332, 3) := by decide +kernel
theorem dX12_sum_17 : decode cX12_sum 17 = .ok (.i2l, 1) := by decide +kernel
theorem dX12_sum_18 : decode cX12_sum 18 = .ok (.lreturn, 1) := by decide +kernel
theorem dX12_sum_19 : decode cX12_sum 19 = .ok (.aload_n 0, 1) := by decide +kernel
theorem dX12_sum_20 : decode cX12_sum 20 = .ok (.iload_n 1, 1) := by decide +kernel
theorem dX12_sum_21 : decode cX12_sum 21 = .ok (.invokevirtual 300, 3) := by decide +kernel
theorem dX12_sum_24 : decode cX12_sum 24 = .ok (.lconst 0, 1) := by decide +kernel
theorem dX12_sum_25 : decode cX12_sum 25 = .ok (.lstore_n 2, 1) := by decide +kernel
theorem dX12_sum_26 : decode cX12_sum 26 = .ok (.iconst 0, 1) := by decide +kernel
theorem dX12_sum_27 : decode cX12_sum 27 = .ok (.istore 4, 2) := by decide +kernel
theorem dX12_sum_29 : decode cX12_sum 29 = .ok (.iload 4, 2) := by decide +kernel
theorem dX12_sum_31 : decode cX12_sum 31 = .ok (.bipush 15, 2) := by decide +kernel
theorem dX12_sum_33 : decode cX12_sum 33 = .ok (.if_icmp .ge 24, 3) := by decide +kernel
theorem dX12_sum_36 : decode cX12_sum 36 = .ok (.ldc2_w 396, 3) := by decide +kernel
theorem dX12_sum_39 : decode cX12_sum 39 = .ok (.lload_n 2, 1) := by decide +kernel
theorem dX12_sum_40 : decode cX12_sum 40 = .ok (.lmul, 1) := by decide +kernel
theorem dX12_sum_41 : decode cX12_sum 41 = .ok (.aload_n 0, 1) := by decide +kernel
theorem dX12_sum_42 : decode cX12_sum 42 = .ok (.iload_n 1, 1) := by decide +kernel
theorem dX12_sum_43 : decode cX12_sum 43 = .ok (.iload 4, 2) := by decide +kernel
theorem dX12_sum_45 : decode cX12_sum 45 = .ok (.invokevirtual 336, 3) := by decide +kernel
theorem dX12_sum_48 : decode cX12_sum 48 = .ok (.i2l, 1) := by decide +kernel
theorem dX12_sum_49 : decode cX12_sum 49 = .ok (.ladd, 1) := by decide +kernel
theorem dX12_sum_50 : decode cX12_sum 50 = .ok (.lstore_n 2, 1) := by decide +kernel
theorem dX12_sum_51 : decode cX12_sum 51 = .ok (.iinc 4 1, 3) := by decide +kernel
theorem dX12_sum_54 : decode cX12_sum 54 = .ok (.goto (-25), 3) := by decide +kernel
theorem dX12_sum_57 : decode cX12_sum 57 = .ok (.iconst 0, 1) := by decide +kernel
theorem dX12_sum_58 : decode cX12_sum 58 = .ok (.istore 4, 2) := by decide +kernel
theorem dX12_sum_60 : decode cX12_sum 60 = .ok (.iload 4, 2) := by decide +kernel
theorem dX12_sum_62 : decode cX12_sum 62 = .ok (.aload_n 0, 1) := by decide +kernel
theorem dX12_sum_63 : decode cX12_sum 63 = .ok (.getfield 25, 3) := by decide +kernel
theorem dX12_sum_66 : decode cX12_sum 66 = .ok (.iload_n 1, 1) := by decide +kernel
theorem dX12_sum_67 : decode cX12_sum 67 = .ok (.iaload, 1) := by decide +kernel
theorem dX12_sum_68 : decode cX12_sum 68 = .ok (.if_icmp .ge 126, 3) := by decide +kernel
theorem dX12_sum_71 : decode cX12_sum 71 = .ok (.iconst 0, 1) := by decide +kernel
theorem dX12_sum_72 : decode cX12_sum 72 = .ok (.istore 5, 2) := by decide +kernel
theorem dX12_sum_74 : decode cX12_sum 74 = .ok (.iload 5, 2) := by decide +kernel
theorem dX12_sum_76 : decode cX12_sum 76 = .ok (.bipush 16, 2) := by decide +kernel
theorem dX12_sum_78 : decode cX12_sum 78 = .ok (.if_icmp .ge 26, 3) := by decide +kernel
theorem dX12_sum_81 : decode cX12_sum 81 = .ok (.ldc2_w 396, 3) := by decide +kernel
theorem dX12_sum_84 : decode cX12_sum 84 = .ok (.lload_n 2, 1) := by decide +kernel
theorem dX12_sum_85 : decode cX12_sum 85 = .ok (.lmul, 1) := by decide +kernel
theorem dX12_sum_86 : decode cX12_sum 86 = .ok (.aload_n 0, 1) := by decide +kernel
theorem dX12_sum_87 : decode cX12_sum 87 = .ok (.iload_n 1, 1) := by decide +kernel
theorem dX12_sum_88 : decode cX12_sum 88 = .ok (.iload 4, 2) := by decide +kernel
theorem dX12_sum_90 : decode cX12_sum 90 = .ok (.iload 5, 2) := by decide +kernel
theorem dX12_sum_92 : decode cX12_sum 92 = .ok (.invokevirtual 345, 3) := by decide +kernel
theorem dX12_sum_95 : decode cX12_sum 95 = .ok (.i2l, 1) := by decide +kernel
theorem dX12_sum_96 : decode cX12_sum 96 = .ok (.ladd, 1) := by decide +kernel
theorem dX12_sum_97 : decode cX12_sum 97 = .ok (.lstore_n 2, 1) := by decide +kernel
theorem dX12_sum_98 : decode cX12_sum 98 = .ok (.iinc 5 1, 3) := by decide +kernel
theorem dX12_sum_101 : decode cX12_sum 101 = .ok (.goto (-27), 3) := by decide +kernel
theorem dX12_sum_104 : decode cX12_sum 104 = .ok (.iconst 0, 1) := by decide +kernel
theorem dX12_sum_105 : decode cX12_sum 105 = .ok (.istore 5, 2) := by decide +kernel
theorem dX12_sum_107 : decode cX12_sum 107 = .ok (.iload 5, 2) := by decide +kernel
theorem dX12_sum_109 : decode cX12_sum 109 = .ok (.bipush 11, 2) := by decide +kernel
theorem dX12_sum_111 : decode cX12_sum 111 = .ok (.if_icmp .ge 77, 3) := by decide +kernel
theorem dX12_sum_114 : decode cX12_sum 114 = .ok (.iconst 0, 1) := by decide +kernel
theorem dX12_sum_115 : decode cX12_sum 115 = .ok (.istore 6, 2) := by decide +kernel
theorem dX12_sum_117 : decode cX12_sum 117 = .ok (.iload 6, 2) := by decide +kernel
theorem dX12_sum_119 : decode cX12_sum 119 = .ok (.iconst 4, 1) := by decide +kernel
theorem dX12_sum_120 : decode cX12_sum 120 = .ok (.if_icmp .ge 28, 3) := by decide +kernel
theorem dX12_sum_123 : decode cX12_sum 123 = .ok (.ldc2_w 396, 3) := by decide +kernel
theorem dX12_sum_126 : decode cX12_sum 126 = .ok (.lload_n 2, 1) := by decide +kernel
theorem dX12_sum_127 : decode cX12_sum 127 = .ok (.lmul, 1) := by decide +kernel
theorem dX12_sum_128 : decode cX12_sum 128 = .ok (.aload_n 0, 1) := by decide +kernel
theorem dX12_sum_129 : decode cX12_sum 129 = .ok (.iload_n 1, 1) := by decide +kernel
theorem dX12_sum_130 : decode cX12_sum 130 = .ok (.iload 4, 2) := by decide +kernel
theorem dX12_sum_132 : decode cX12_sum 132 = .ok (.iload 5, 2) := by decide +kernel
theorem dX12_sum_134 : decode cX12_sum 134 = .ok (.iload 6, 2) := by decide +kernel
theorem dX12_sum_136 : decode cX12_sum 136 = .ok (.invokevirtual 348, 3) := by decide +kernel
theorem dX12_sum_139 : decode cX12_sum 139 = .ok (.i2l, 1) := by decide +kernel
theorem dX12_sum_140 : decode cX12_sum 140 = .ok (.ladd, 1) := by decide +kernel
theorem dX12_sum_141 : decode cX12_sum 141 = .ok (.lstore_n 2, 1) := by decide +kernel
theorem dX12_sum_142 : decode cX12_sum 142 = .ok (.iinc 6 1, 3) := by decide +kernel
theorem dX12_sum_145 : decode cX12_sum 145 = .ok (.goto (-28), 3) := by decide +kernel
theorem dX12_sum_148 : decode cX12_sum 148 = .ok (.iconst 0, 1) := by decide +kernel
theorem dX12_sum_149 : decode cX12_sum 149 = .ok (.istore 6, 2) := by decide +kernel
theorem dX12_sum_151 : decode cX12_sum 151 = .ok (.iload 6, 2) := by decide +kernel
theorem dX12_sum_153 : decode cX12_sum 153 = .ok (.iconst 4, 1) := by decide +kernel
theorem dX12_sum_154 : decode cX12_sum 154 = .ok (.if_icmp .ge 28, 3) := by decide +kernel
theorem dX12_sum_157 : decode cX12_sum 157 = .ok (.ldc2_w 396, 3) := by decide +kernel
theorem dX12_sum_160 : decode cX12_sum 160 = .ok (.lload_n 2, 1) := by decide +kernel
theorem dX12_sum_161 : decode cX12_sum 161 = .ok (.lmul, 1) := by decide +kernel
theorem dX12_sum_162 : decode cX12_sum 162 = .ok (.aload_n 0, 1) := by decide +kernel
theorem dX12_sum_163 : decode cX12_sum 163 = .ok (.iload_n 1, 1) := by decide +kernel
theorem dX12_sum_164 : decode cX12_sum 164 = .ok (.iload 4, 2) := by decide +kernel
theorem dX12_sum_166 : decode cX12_sum 166 = .ok (.iload 5, 2) := by decide +kernel
theorem dX12_sum_168 : decode cX12_sum 168 = .ok (.iload 6, 2) := by decide +kernel
theorem dX12_sum_170 : decode cX12_sum 170 = .ok (.invokevirtual 352, 3) := by decide +kernel
theorem dX12_sum_173 : decode cX12_sum 173 = .ok (.i2l, 1) := by decide +kernel
theorem dX12_sum_174 : decode cX12_sum 174 = .ok (.ladd, 1) := by decide +kernel
theorem dX12_sum_175 : decode cX12_sum 175 = .ok (.lstore_n 2, 1) := by decide +kernel
theorem dX12_sum_176 : decode cX12_sum 176 = .ok (.iinc 6 1, 3) := by decide +kernel
theorem dX12_sum_179 : decode cX12_sum 179 = .ok (.goto (-28), 3) := by decide +kernel
theorem dX12_sum_182 : decode cX12_sum 182 = .ok (.iinc 5 1, 3) := by decide +kernel
theorem dX12_sum_185 : decode cX12_sum 185 = .ok (.goto (-78), 3) := by decide +kernel
theorem dX12_sum_188 : decode cX12_sum 188 = .ok (.iinc 4 1, 3) := by decide +kernel
theorem dX12_sum_191 : decode cX12_sum 191 = .ok (.goto (-131), 3) := by decide +kernel
theorem dX12_sum_194 : decode cX12_sum 194 = .ok (.lload_n 2, 1) := by decide +kernel
theorem dX12_sum_195 : decode cX12_sum 195 = .ok (.lreturn, 1) := by decide +kernel
theorem dJ9_max_7cf53_0 : decode cJ9_max_7cf53 0 = .ok (.iload_n 0, 1) := by decide +kernel
theorem dJ9_max_7cf53_1 : decode cJ9_max_7cf53 1 = .ok (.iload_n 1, 1) := by decide +kernel
theorem dJ9_max_7cf53_2 : decode cJ9_max_7cf53 2 = .ok (.if_icmp .lt 7, 3) := by decide +kernel
theorem dJ9_max_7cf53_5 : decode cJ9_max_7cf53 5 = .ok (.iload_n 0, 1) := by decide +kernel
theorem dJ9_max_7cf53_6 : decode cJ9_max_7cf53 6 = .ok (.goto 4, 3) := by decide +kernel
theorem dJ9_max_7cf53_9 : decode cJ9_max_7cf53 9 = .ok (.iload_n 1, 1) := by decide +kernel
theorem dJ9_max_7cf53_10 : decode cJ9_max_7cf53 10 = .ok (.ireturn, 1) := by decide +kernel
theorem dJ9_min_7cf53_0 : decode cJ9_min_7cf53 0 = .ok (.iload_n 0, 1) := by decide +kernel
theorem dJ9_min_7cf53_1 : decode cJ9_min_7cf53 1 = .ok (.iload_n 1, 1) := by decide +kernel
theorem dJ9_min_7cf53_2 : decode cJ9_min_7cf53 2 = .ok (.if_icmp .gt 7, 3) := by decide +kernel
theorem dJ9_min_7cf53_5 : decode cJ9_min_7cf53 5 = .ok (.iload_n 0, 1) := by decide +kernel
theorem dJ9_min_7cf53_6 : decode cJ9_min_7cf53 6 = .ok (.goto 4, 3) := by decide +kernel
theorem dJ9_min_7cf53_9 : decode cJ9_min_7cf53 9 = .ok (.iload_n 1, 1) := by decide +kernel
theorem dJ9_min_7cf53_10 : decode cJ9_min_7cf53 10 = .ok (.ireturn, 1) := by decide +kernel
theorem dJxa1e45_init_da8c8_0 : decode cJxa1e45_init_da8c8 0 = .ok (.aload_n 0, 1) := by decide +kernel
theorem dJxa1e45_init_da8c8_1 : decode cJxa1e45_init_da8c8 1 = .ok (.invokespecial 1, 3) := by decide +kernel
theorem dJxa1e45_init_da8c8_4 : decode cJxa1e45_init_da8c8 4 = .ok (.return_, 1) := by decide +kernel
theorem dJxc12de_init_da8c8_0 : decode cJxc12de_init_da8c8 0 = .ok (.aload_n 0, 1) := by decide +kernel
theorem dJxc12de_init_da8c8_1 : decode cJxc12de_init_da8c8 1 = .ok (.invokespecial 1, 3) := by decide +kernel
theorem dJxc12de_init_da8c8_4 : decode cJxc12de_init_da8c8 4 = .ok (.aload_n 0, 1) := by decide +kernel
theorem dJxc12de_init_da8c8_5 : decode cJxc12de_init_da8c8 5 = .ok (.iconst 0, 1) := by decide +kernel
theorem dJxc12de_init_da8c8_6 : decode cJxc12de_init_da8c8 6 = .ok (.putfield 7, 3) := by decide +kernel
theorem dJxc12de_init_da8c8_9 : decode cJxc12de_init_da8c8 9 = .ok (.return_, 1) := by decide +kernel
theorem dJx4a65c_init_da8c8_0 : decode cJx4a65c_init_da8c8 0 = .ok (.aload_n 0, 1) := by decide +kernel
theorem dJx4a65c_init_da8c8_1 : decode cJx4a65c_init_da8c8 1 = .ok (.invokespecial 1, 3) := by decide +kernel
theorem dJx4a65c_init_da8c8_4 : decode cJx4a65c_init_da8c8 4 = .ok (.aload_n 0, 1) := by decide +kernel
theorem dJx4a65c_init_da8c8_5 : decode cJx4a65c_init_da8c8 5 = .ok (.getstatic 39, 3) := by decide +kernel
theorem dJx4a65c_init_da8c8_8 : decode cJx4a65c_init_da8c8 8 = .ok (.putfield 9, 3) := by decide +kernel
theorem dJx4a65c_init_da8c8_11 : decode cJx4a65c_init_da8c8 11 = .ok (.return_, 1) := by decide +kernel
theorem dJx4a65c_grow_92f84_0 : decode cJx4a65c_grow_92f84 0 = .ok (.aload_n 0, 1) := by decide +kernel
theorem dJx4a65c_grow_92f84_1 : decode cJx4a65c_grow_92f84 1 = .ok (.getfield 9, 3) := by decide +kernel
theorem dJx4a65c_grow_92f84_4 : decode cJx4a65c_grow_92f84 4 = .ok (.arraylength, 1) := by decide +kernel
theorem dJx4a65c_grow_92f84_5 : decode cJx4a65c_grow_92f84 5 = .ok (.istore_n 2, 1) := by decide +kernel
theorem dJx4a65c_grow_92f84_6 : decode cJx4a65c_grow_92f84 6 = .ok (.iload_n 2, 1) := by decide +kernel
theorem dJx4a65c_grow_92f84_7 : decode cJx4a65c_grow_92f84 7 = .ok (.ifCond .gt 13, 3) := by decide +kernel
theorem dJx4a65c_grow_92f84_10 : decode cJx4a65c_grow_92f84 10 = .ok (.aload_n 0, 1) := by decide +kernel
theorem dJx4a65c_grow_92f84_11 : decode cJx4a65c_grow_92f84 11 = .ok (.getfield 9, 3) := by decide +kernel
theorem dJx4a65c_grow_92f84_14 : decode cJx4a65c_grow_92f84 14 = .ok (.getstatic 39, 3) := by decide +kernel
theorem dJx4a65c_grow_92f84_17 : decode cJx4a65c_grow_92f84 17 = .ok (.if_acmp .eq 28, 3) := by decide +kernel
theorem dJx4a65c_grow_92f84_20 : decode cJx4a65c_grow_92f84 20 = .ok (.iload_n 2, 1) := by decide +kernel
theorem dJx4a65c_grow_92f84_21 : decode cJx4a65c_grow_92f84 21 = .ok (.iload_n 1, 1) := by decide +kernel
theorem dJx4a65c_grow_92f84_22 : decode cJx4a65c_grow_92f84 22 = .ok (.iload_n 2, 1) := by decide +kernel
theorem dJx4a65c_grow_92f84_23 : decode cJx4a65c_grow_92f84 23 = .ok (.isub, 1) := by decide +kernel
theorem dJx4a65c_grow_92f84_24 : decode cJx4a65c_grow_92f84 24 = .ok (.iload_n 2, 1) := by decide +kernel
theorem dJx4a65c_grow_92f84_25 : decode cJx4a65c_grow_92f84 25 = .ok (.iconst 1, 1) := by decide +kernel
theorem dJx4a65c_grow_92f84_26 : decode cJx4a65c_grow_92f84 26 = .ok (.ishr, 1) := by decide +kernel
theorem dJx4a65c_grow_92f84_27 : decode cJx4a65c_grow_92f84 27 = .ok (.invokestatic 73, 3) := by decide +kernel
theorem dJx4a65c_grow_92f84_30 : decode cJx4a65c_grow_92f84 30 = .ok (.istore_n 3, 1) := by decide +kernel
theorem dJx4a65c_grow_92f84_31 : decode cJx4a65c_grow_92f84 31 = .ok (.aload_n 0, 1) := by decide +kernel
theorem dJx4a65c_grow_92f84_32 : decode cJx4a65c_grow_92f84 32 = .ok (.aload_n 0, 1) := by decide +kernel
theorem dJx4a65c_grow_92f84_33 : decode cJx4a65c_grow_92f84 33 = .ok (.getfield 9, 3) := by decide +kernel
theorem dJx4a65c_grow_92f84_36 : decode cJx4a65c_grow_92f84 36 = .ok (.iload_n 3, 1) := by decide +kernel
theorem dJx4a65c_grow_92f84_37 : decode cJx4a65c_grow_92f84 37 = .ok (.invokestatic 66, 3) := by decide +kernel
theorem dJx4a65c_grow_92f84_40 : decode cJx4a65c_grow_92f84 40 = .ok (.dup_x1, 1) := by decide +kernel
theorem dJx4a65c_grow_92f84_41 : decode cJx4a65c_grow_92f84 41 = .ok (.putfield 9, 3) := by decide +kernel
theorem dJx4a65c_grow_92f84_44 : decode cJx4a65c_grow_92f84 44 = .ok (.areturn, 1) := by decide +kernel
theorem dJx4a65c_grow_92f84_45 : decode cJx4a65c_grow_92f84 45 = .ok (.aload_n 0, 1) := by decide +kernel
theorem dJx4a65c_grow_92f84_46 : decode cJx4a65c_grow_92f84 46 = .ok (.bipush 10, 2) := by decide +kernel
theorem dJx4a65c_grow_92f84_48 : decode cJx4a65c_grow_92f84 48 = .ok (.iload_n 1, 1) := by decide +kernel
theorem dJx4a65c_grow_92f84_49 : decode cJx4a65c_grow_92f84 49 = .ok (.invokestatic 79, 3) := by decide +kernel
theorem dJx4a65c_grow_92f84_52 : decode cJx4a65c_grow_92f84 52 = .ok (.anewarray 7, 3) := by decide +kernel
theorem dJx4a65c_grow_92f84_55 : decode cJx4a65c_grow_92f84 55 = .ok (.dup_x1, 1) := by decide +kernel
theorem dJx4a65c_grow_92f84_56 : decode cJx4a65c_grow_92f84 56 = .ok (.putfield 9, 3) := by decide +kernel
theorem dJx4a65c_grow_92f84_59 : decode cJx4a65c_grow_92f84 59 = .ok (.areturn, 1) := by decide +kernel
theorem dJx4a65c_grow_d5877_0 : decode cJx4a65c_grow_d5877 0 = .ok (.aload_n 0, 1) := by decide +kernel
theorem dJx4a65c_grow_d5877_1 : decode cJx4a65c_grow_d5877 1 = .ok (.aload_n 0, 1) := by decide +kernel
theorem dJx4a65c_grow_d5877_2 : decode cJx4a65c_grow_d5877 2 = .ok (.getfield 48, 3) := by decide +kernel
theorem dJx4a65c_grow_d5877_5 : decode cJx4a65c_grow_d5877 5 = .ok (.iconst 1, 1) := by decide +kernel
theorem dJx4a65c_grow_d5877_6 : decode cJx4a65c_grow_d5877 6 = .ok (.iadd, 1) := by decide +kernel
theorem dJx4a65c_grow_d5877_7 : decode cJx4a65c_grow_d5877 7 = .ok (.invokevirtual 69, 3) := by decide +kernel
theorem dJx4a65c_grow_d5877_10 : decode cJx4a65c_grow_d5877 10 = .ok (.areturn, 1) := by decide +kernel
theorem dJx4a65c_size_8abf5_0 : decode cJx4a65c_size_8abf5 0 = .ok (.aload_n 0, 1) := by decide +kernel
theorem dJx4a65c_size_8abf5_1 : decode cJx4a65c_size_8abf5 1 = .ok (.getfield 48, 3) := by decide +kernel
theorem dJx4a65c_size_8abf5_4 : decode cJx4a65c_size_8abf5 4 = .ok (.ireturn, 1) := by decide +kernel
theorem dJx4a65c_isEmpty_aae02_0 : decode cJx4a65c_isEmpty_aae02 0 = .ok (.aload_n 0, 1) := by decide +kernel
theorem dJx4a65c_isEmpty_aae02_1 : decode cJx4a65c_isEmpty_aae02 1 = .ok (.getfield 48, 3) := by decide +kernel
theorem dJx4a65c_isEmpty_aae02_4 : decode cJx4a65c_isEmpty_aae02 4 = .ok (.ifCond .ne 7, 3) := by decide +kernel
theorem dJx4a65c_isEmpty_aae02_7 : decode cJx4a65c_isEmpty_aae02 7 = .ok (.iconst 1, 1) := by decide +kernel
theorem dJx4a65c_isEmpty_aae02_8 : decode cJx4a65c_isEmpty_aae02 8 = .ok (.goto 4, 3) := by decide +kernel
theorem dJx4a65c_isEmpty_aae02_11 : decode cJx4a65c_isEmpty_aae02 11 = .ok (.iconst 0, 1) := by decide +kernel
theorem dJx4a65c_isEmpty_aae02_12 : decode cJx4a65c_isEmpty_aae02 12 = .ok (.ireturn, 1) := by decide +kernel
theorem dJx4a65c_elementData_915e3_0 : decode cJx4a65c_elementData_915e3 0 = .ok (.aload_n 0, 1) := by decide +kernel
theorem dJx4a65c_elementData_915e3_1 : decode cJx4a65c_elementData_915e3 1 = .ok (.getfield 9, 3) := by decide +kernel
theorem dJx4a65c_elementData_915e3_4 : decode cJx4a65c_elementData_915e3 4 = .ok (.iload_n 1, 1) := by decide +kernel
theorem dJx4a65c_elementData_915e3_5 : decode cJx4a65c_elementData_915e3 5 = .ok (.aaload, 1) := by decide +kernel
theorem dJx4a65c_elementData_915e3_6 : decode cJx4a65c_elementData_915e3 6 = .ok (.areturn, 1) := by decide +kernel
theorem dJx4a65c_get_915e3_0 : decode cJx4a65c_get_915e3 0 = .ok (.iload_n 1, 1) := by decide +kernel
theorem dJx4a65c_get_915e3_1 : decode cJx4a65c_get_915e3 1 = .ok (.aload_n 0, 1) := by decide +kernel
theorem dJx4a65c_get_915e3_2 : decode cJx4a65c_get_915e3 2 = .ok (.getfield 48, 3) := by decide +kernel
theorem dJx4a65c_get_915e3_5 : decode cJx4a65c_get_915e3 5 = .ok (.invokestatic 118, 3) := by decide +kernel
theorem dJx4a65c_get_915e3_8 : decode cJx4a65c_get_915e3 8 = .ok (.pop, 1) := by decide +kernel
theorem dJx4a65c_get_915e3_9 : decode cJx4a65c_get_915e3 9 = .ok (.aload_n 0, 1) := by decide +kernel
theorem dJx4a65c_get_915e3_10 : decode cJx4a65c_get_915e3 10 = .ok (.iload_n 1, 1) := by decide +kernel
theorem dJx4a65c_get_915e3_11 : decode cJx4a65c_get_915e3 11 = .ok (.invokevirtual 123, 3) := by decide +kernel
theorem dJx4a65c_get_915e3_14 : decode cJx4a65c_get_915e3 14 = .ok (.areturn, 1) := by decide +kernel
theorem dJx4a65c_add_72be8_0 : decode cJx4a65c_add_72be8 0 = .ok (.iload_n 3, 1) := by decide +kernel
theorem dJx4a65c_add_72be8_1 : decode cJx4a65c_add_72be8 1 = .ok (.aload_n 2, 1) := by decide +kernel
theorem dJx4a65c_add_72be8_2 : decode cJx4a65c_add_72be8 2 = .ok (.arraylength, 1) := by decide +kernel
theorem dJx4a65c_add_72be8_3 : decode cJx4a65c_add_72be8 3 = .ok (.if_icmp .ne 8, 3) := by decide +kernel
theorem dJx4a65c_add_72be8_6 : decode cJx4a65c_add_72be8 6 = .ok (.aload_n 0, 1) := by decide +kernel
theorem dJx4a65c_add_72be8_7 : decode cJx4a65c_add_72be8 7 = .ok (.invokevirtual 129, 3) := by decide +kernel
theorem dJx4a65c_add_72be8_10 : decode cJx4a65c_add_72be8 10 = .ok (.astore_n 2, 1) := by decide +kernel
theorem dJx4a65c_add_72be8_11 : decode cJx4a65c_add_72be8 11 = .ok (.aload_n 2, 1) := by decide +kernel
theorem dJx4a65c_add_72be8_12 : decode cJx4a65c_add_72be8 12 = .ok (.iload_n 3, 1) := by decide +kernel
theorem dJx4a65c_add_72be8_13 : decode cJx4a65c_add_72be8 13 = .ok (.aload_n 1, 1) := by decide +kernel
theorem dJx4a65c_add_72be8_14 : decode cJx4a65c_add_72be8 14 = .ok (.aastore, 1) := by decide +kernel
theorem dJx4a65c_add_72be8_15 : decode cJx4a65c_add_72be8 15 = .ok (.aload_n 0, 1) := by decide +kernel
theorem dJx4a65c_add_72be8_16 : decode cJx4a65c_add_72be8 16 = .ok (.iload_n 3, 1) := by decide +kernel
theorem dJx4a65c_add_72be8_17 : decode cJx4a65c_add_72be8 17 = .ok (.iconst 1, 1) := by decide +kernel
theorem dJx4a65c_add_72be8_18 : decode cJx4a65c_add_72be8 18 = .ok (.iadd, 1) := by decide +kernel
theorem dJx4a65c_add_72be8_19 : decode cJx4a65c_add_72be8 19 = .ok (.putfield 48, 3) := by decide +kernel
theorem dJx4a65c_add_72be8_22 : decode cJx4a65c_add_72be8 22 = .ok (.return_, 1) := by decide +kernel
theorem dJx4a65c_add_9ea2d_0 : decode cJx4a65c_add_9ea2d 0 = .ok (.aload_n 0, 1) := by decide +kernel
theorem dJx4a65c_add_9ea2d_1 : decode cJx4a65c_add_9ea2d 1 = .ok (.dup, 1) := by decide +kernel
theorem dJx4a65c_add_9ea2d_2 : decode cJx4a65c_add_9ea2d 2 = .ok (.getfield 63, 3) := by decide +kernel
theorem dJx4a65c_add_9ea2d_5 : decode cJx4a65c_add_9ea2d 5 = .ok (.iconst 1, 1) := by decide +kernel
theorem dJx4a65c_add_9ea2d_6 : decode cJx4a65c_add_9ea2d 6 = .ok (.iadd, 1) := by decide +kernel
theorem dJx4a65c_add_9ea2d_7 : decode cJx4a65c_add_9ea2d 7 = .ok (.putfield 63, 3) := by decide +kernel
theorem dJx4a65c_add_9ea2d_10 : decode cJx4a65c_add_9ea2d 10 = .ok (.aload_n 0, 1) := by decide +kernel
theorem dJx4a65c_add_9ea2d_11 : decode cJx4a65c_add_9ea2d 11 = .ok (.aload_n 1, 1) := by decide +kernel
theorem dJx4a65c_add_9ea2d_12 : decode cJx4a65c_add_9ea2d 12 = .ok (.aload_n 0, 1) := by decide +kernel
theorem dJx4a65c_add_9ea2d_13 : decode cJx4a65c_add_9ea2d 13 = .ok (.getfield 9, 3) := by decide +kernel
theorem dJx4a65c_add_9ea2d_16 : decode cJx4a65c_add_9ea2d 16 = .ok (.aload_n 0, 1) := by decide +kernel
theorem dJx4a65c_add_9ea2d_17 : decode cJx4a65c_add_9ea2d 17 = .ok (.getfield 48, 3) := by decide +kernel
theorem dJx4a65c_add_9ea2d_20 : decode cJx4a65c_add_9ea2d 20 = .ok (.invokevirtual 131, 3) := by decide +kernel
theorem dJx4a65c_add_9ea2d_23 : decode cJx4a65c_add_9ea2d 23 = .ok (.iconst 1, 1) := by decide +kernel
theorem dJx4a65c_add_9ea2d_24 : decode cJx4a65c_add_9ea2d 24 = .ok (.ireturn, 1) := by decide +kernel
theorem dJx4a65c_remove_915e3_0 : decode cJx4a65c_remove_915e3 0 = .ok (.iload_n 1, 1) := by decide +kernel
theorem dJx4a65c_remove_915e3_1 : decode cJx4a65c_remove_915e3 1 = .ok (.aload_n 0, 1) := by decide +kernel
theorem dJx4a65c_remove_915e3_2 : decode cJx4a65c_remove_915e3 2 = .ok (.getfield 48, 3) := by decide +kernel
theorem dJx4a65c_remove_915e3_5 : decode cJx4a65c_remove_915e3 5 = .ok (.invokestatic 118, 3) := by decide +kernel
theorem dJx4a65c_remove_915e3_8 : decode cJx4a65c_remove_915e3 8 = .ok (.pop, 1) := by decide +kernel
theorem dJx4a65c_remove_915e3_9 : decode cJx4a65c_remove_915e3 9 = .ok (.aload_n 0, 1) := by decide +kernel
theorem dJx4a65c_remove_915e3_10 : decode cJx4a65c_remove_915e3 10 = .ok (.getfield 9, 3) := by decide +kernel
theorem dJx4a65c_remove_915e3_13 : decode cJx4a65c_remove_915e3 13 = .ok (.astore_n 2, 1) := by decide +kernel
theorem dJx4a65c_remove_915e3_14 : decode cJx4a65c_remove_915e3 14 = .ok (.aload_n 2, 1) := by decide +kernel
theorem dJx4a65c_remove_915e3_15 : decode cJx4a65c_remove_915e3 15 = .ok (.iload_n 1, 1) := by decide +kernel
theorem dJx4a65c_remove_915e3_16 : decode cJx4a65c_remove_915e3 16 = .ok (.aaload, 1) := by decide +kernel
theorem dJx4a65c_remove_915e3_17 : decode cJx4a65c_remove_915e3 17 = .ok (.astore_n 3, 1) := by decide +kernel
theorem dJx4a65c_remove_915e3_18 : decode cJx4a65c_remove_915e3 18 = .ok (.aload_n 0, 1) := by decide +kernel
theorem dJx4a65c_remove_915e3_19 : decode cJx4a65c_remove_915e3 19 = .ok (.aload_n 2, 1) := by decide +kernel
theorem dJx4a65c_remove_915e3_20 : decode cJx4a65c_remove_915e3 20 = .ok (.iload_n 1, 1) := by decide +kernel
theorem dJx4a65c_remove_915e3_21 : decode cJx4a65c_remove_915e3 21 = .ok (.invokevirtual 144, 3) := by decide +kernel
theorem dJx4a65c_remove_915e3_24 : decode cJx4a65c_remove_915e3 24 = .ok (.aload_n 3, 1) := by decide +kernel
theorem dJx4a65c_remove_915e3_25 : decode cJx4a65c_remove_915e3 25 = .ok (.areturn, 1) := by decide +kernel
theorem dJx4a65c_fastRemove_b59b0_0 : decode cJx4a65c_fastRemove_b59b0 0 = .ok (.aload_n 0, 1) := by decide +kernel
theorem dJx4a65c_fastRemove_b59b0_1 : decode cJx4a65c_fastRemove_b59b0 1 = .ok (.dup, 1) := by decide +kernel
theorem dJx4a65c_fastRemove_b59b0_2 : decode cJx4a65c_fastRemove_b59b0 2 = .ok (.getfield 63, 3) := by decide +kernel
theorem dJx4a65c_fastRemove_b59b0_5 : decode cJx4a65c_fastRemove_b59b0 5 = .ok (.iconst 1, 1) := by decide +kernel
theorem dJx4a65c_fastRemove_b59b0_6 : decode cJx4a65c_fastRemove_b59b0 6 = .ok (.iadd, 1) := by decide +kernel
theorem dJx4a65c_fastRemove_b59b0_7 : decode cJx4a65c_fastRemove_b59b0 7 = .ok (.putfield 63, 3) := by decide +kernel
theorem dJx4a65c_fastRemove_b59b0_10 : decode cJx4a65c_fastRemove_b59b0 10 = .ok (.aload_n 0, 1) := by decide +kernel
theorem dJx4a65c_fastRemove_b59b0_11 : decode cJx4a65c_fastRemove_b59b0 11 = .ok (.getfield 48, 3) := by decide +kernel
theorem dJx4a65c_fastRemove_b59b0_14 : decode cJx4a65c_fastRemove_b59b0 14 = .ok (.iconst 1, 1) := by decide +kernel
theorem dJx4a65c_fastRemove_b59b0_15 : decode cJx4a65c_fastRemove_b59b0 15 = .ok (.isub, 1) := by decide +kernel
theorem dJx4a65c_fastRemove_b59b0_16 : decode cJx4a65c_fastRemove_b59b0 16 = .ok (.dup, 1) := by decide +kernel
theorem dJx4a65c_fastRemove_b59b0_17 : decode cJx4a65c_fastRemove_b59b0 17 = .ok (.istore_n 3, 1) := by decide +kernel
theorem dJx4a65c_fastRemove_b59b0_18 : decode cJx4a65c_fastRemove_b59b0 18 = .ok (.iload_n 2, 1) := by decide +kernel
theorem dJx4a65c_fastRemove_b59b0_19 : decode cJx4a65c_fastRemove_b59b0 19 = .ok (.if_icmp .le 15, 3) := by decide +kernel
theorem dJx4a65c_fastRemove_b59b0_22 : decode cJx4a65c_fastRemove_b59b0 22 = .ok (.aload_n 1, 1) := by decide +kernel
theorem dJx4a65c_fastRemove_b59b0_23 : decode cJx4a65c_fastRemove_b59b0 23 = .ok (.iload_n 2, 1) := by decide +kernel
theorem dJx4a65c_fastRemove_b59b0_24 : decode cJx4a65c_fastRemove_b59b0 24 = .ok (.iconst 1, 1) := by decide +kernel
theorem dJx4a65c_fastRemove_b59b0_25 : decode cJx4a65c_fastRemove_b59b0 25 = .ok (.iadd, 1) := by decide +kernel
theorem dJx4a65c_fastRemove_b59b0_26 : decode cJx4a65c_fastRemove_b59b0 26 = .ok (.aload_n 1, 1) := by decide +kernel
theorem dJx4a65c_fastRemove_b59b0_27 : decode cJx4a65c_fastRemove_b59b0 27 = .ok (.iload_n 2, 1) := by decide +kernel
theorem dJx4a65c_fastRemove_b59b0_28 : decode cJx4a65c_fastRemove_b59b0 28 = .ok (.iload_n 3, 1) := by decide +kernel
theorem dJx4a65c_fastRemove_b59b0_29 : decode cJx4a65c_fastRemove_b59b0 29 = .ok (.iload_n 2, 1) := by decide +kernel
theorem dJx4a65c_fastRemove_b59b0_30 : decode cJx4a65c_fastRemove_b59b0 30 = .ok (.isub, 1) := by decide +kernel
theorem dJx4a65c_fastRemove_b59b0_31 : decode cJx4a65c_fastRemove_b59b0 31 = .ok (.invokestatic 112, 3) := by decide +kernel
theorem dJx4a65c_fastRemove_b59b0_34 : decode cJx4a65c_fastRemove_b59b0 34 = .ok (.aload_n 1, 1) := by decide +kernel
theorem dJx4a65c_fastRemove_b59b0_35 : decode cJx4a65c_fastRemove_b59b0 35 = .ok (.aload_n 0, 1) := by decide +kernel
theorem dJx4a65c_fastRemove_b59b0_36 : decode cJx4a65c_fastRemove_b59b0 36 = .ok (.iload_n 3, 1) := by decide +kernel
theorem dJx4a65c_fastRemove_b59b0_37 : decode cJx4a65c_fastRemove_b59b0 37 = .ok (.dup_x1, 1) := by decide +kernel
theorem dJx4a65c_fastRemove_b59b0_38 : decode cJx4a65c_fastRemove_b59b0 38 = .ok (.putfield 48, 3) := by decide +kernel
theorem dJx4a65c_fastRemove_b59b0_41 : decode cJx4a65c_fastRemove_b59b0 41 = .ok (.aconst_null, 1) := by decide +kernel
theorem dJx4a65c_fastRemove_b59b0_42 : decode cJx4a65c_fastRemove_b59b0 42 = .ok (.aastore, 1) := by decide +kernel
theorem dJx4a65c_fastRemove_b59b0_43 : decode cJx4a65c_fastRemove_b59b0 43 = .ok (.return_, 1) := by decide +kernel
theorem dJ7_copyOf_1904c_0 : decode cJ7_copyOf_1904c 0 = .ok (.aload_n 0, 1) := by decide +kernel
theorem dJ7_copyOf_1904c_1 : decode cJ7_copyOf_1904c 1 = .ok (.iload_n 1, 1) := by decide +kernel
theorem dJ7_copyOf_1904c_2 : decode cJ7_copyOf_1904c 2 = .ok (.aload_n 0, 1) := by decide +kernel
theorem dJ7_copyOf_1904c_3 : decode cJ7_copyOf_1904c 3 = .ok (.invokevirtual 86, 3) := by decide +kernel
theorem dJ7_copyOf_1904c_6 : decode cJ7_copyOf_1904c 6 = .ok (.invokestatic 300, 3) := by decide +kernel
theorem dJ7_copyOf_1904c_9 : decode cJ7_copyOf_1904c 9 = .ok (.areturn, 1) := by decide +kernel
theorem dJ7_copyOf_6403c_0 : decode cJ7_copyOf_6403c 0 = .ok (.aload_n 2, 1) := by decide +kernel
theorem dJ7_copyOf_6403c_1 : decode cJ7_copyOf_6403c 1 = .ok (.ldc 110, 2) := by decide +kernel
theorem dJ7_copyOf_6403c_3 : decode cJ7_copyOf_6403c 3 = .ok (.if_acmp .ne 10, 3) := by decide +kernel
theorem dJ7_copyOf_6403c_6 : decode cJ7_copyOf_6403c 6 = .ok (.iload_n 1, 1) := by decide +kernel
theorem dJ7_copyOf_6403c_7 : decode cJ7_copyOf_6403c 7 = .ok (.anewarray 2, 3) := by decide +kernel
theorem dJ7_copyOf_6403c_10 : decode cJ7_copyOf_6403c 10 = .ok (.goto 14, 3) := by decide +kernel
theorem dJ7_copyOf_6403c_13 : decode cJ7_copyOf_6403c 13 = .ok (.aload_n 2, 1) := by decide +kernel
theorem dJ7_copyOf_6403c_14 : decode cJ7_copyOf_6403c 14 = .ok (.invokevirtual 90, 3) := by decide +kernel
theorem dJ7_copyOf_6403c_17 : decode cJ7_copyOf_6403c 17 = .ok (.iload_n 1, 1) := by decide +kernel
theorem dJ7_copyOf_6403c_18 : decode cJ7_copyOf_6403c 18 = .ok (.invokestatic 95, 3) := by decide +kernel
theorem dJ7_copyOf_6403c_21 : decode cJ7_copyOf_6403c 21 = .ok (.checkcast 110, 3) := by decide +kernel
theorem dJ7_copyOf_6403c_24 : decode cJ7_copyOf_6403c 24 = .ok (.astore_n 3, 1) := by decide +kernel
theorem dJ7_copyOf_6403c_25 : decode cJ7_copyOf_6403c 25 = .ok (.aload_n 0, 1) := by decide +kernel
theorem dJ7_copyOf_6403c_26 : decode cJ7_copyOf_6403c 26 = .ok (.iconst 0, 1) := by decide +kernel
theorem dJ7_copyOf_6403c_27 : decode cJ7_copyOf_6403c 27 = .ok (.aload_n 3, 1) := by decide +kernel
theorem dJ7_copyOf_6403c_28 : decode cJ7_copyOf_6403c 28 = .ok (.iconst 0, 1) := by decide +kernel
theorem dJ7_copyOf_6403c_29 : decode cJ7_copyOf_6403c 29 = .ok (.aload_n 0, 1) := by decide +kernel
theorem dJ7_copyOf_6403c_30 : decode cJ7_copyOf_6403c 30 = .ok (.arraylength, 1) := by decide +kernel
theorem dJ7_copyOf_6403c_31 : decode cJ7_copyOf_6403c 31 = .ok (.iload_n 1, 1) := by decide +kernel
theorem dJ7_copyOf_6403c_32 : decode cJ7_copyOf_6403c 32 = .ok (.invokestatic 304, 3) := by decide +kernel
theorem dJ7_copyOf_6403c_35 : decode cJ7_copyOf_6403c 35 = .ok (.invokestatic 150, 3) := by decide +kernel
theorem dJ7_copyOf_6403c_38 : decode cJ7_copyOf_6403c 38 = .ok (.aload_n 3, 1) := by decide +kernel
theorem dJ7_copyOf_6403c_39 : decode cJ7_copyOf_6403c 39 = .ok (.areturn, 1) := by decide +kernel
theorem dJ15_checkIndex_7cf53_0 : decode cJ15_checkIndex_7cf53 0 = .ok (.iload_n 0, 1) := by decide +kernel
theorem dJ15_checkIndex_7cf53_1 : decode cJ15_checkIndex_7cf53 1 = .ok (.iload_n 1, 1) := by decide +kernel
theorem dJ15_checkIndex_7cf53_2 : decode cJ15_checkIndex_7cf53 2 = .ok (.aconst_null, 1) := by decide +kernel
theorem dJ15_checkIndex_7cf53_3 : decode cJ15_checkIndex_7cf53 3 = .ok (.invokestatic 105, 3) := by decide +kernel
theorem dJ15_checkIndex_7cf53_6 : decode cJ15_checkIndex_7cf53 6 = .ok (.ireturn, 1) := by decide +kernel
theorem dJ8_newLength_cabcc_0 : decode cJ8_newLength_cabcc 0 = .ok (.iload_n 0, 1) := by decide +kernel
theorem dJ8_newLength_cabcc_1 : decode cJ8_newLength_cabcc 1 = .ok (.iload_n 1, 1) := by decide +kernel
theorem dJ8_newLength_cabcc_2 : decode cJ8_newLength_cabcc 2 = .ok (.iload_n 2, 1) := by decide +kernel
theorem dJ8_newLength_cabcc_3 : decode cJ8_newLength_cabcc 3 = .ok (.invokestatic 194, 3) := by decide +kernel
theorem dJ8_newLength_cabcc_6 : decode cJ8_newLength_cabcc 6 = .ok (.iadd, 1) := by decide +kernel
theorem dJ8_newLength_cabcc_7 : decode cJ8_newLength_cabcc 7 = .ok (.istore_n 3, 1) := by decide +kernel
theorem dJ8_newLength_cabcc_8 : decode cJ8_newLength_cabcc 8 = .ok (.iconst 0, 1) := by decide +kernel
theorem dJ8_newLength_cabcc_9 : decode cJ8_newLength_cabcc 9 = .ok (.iload_n 3, 1) := by decide +kernel
theorem dJ8_newLength_cabcc_10 : decode cJ8_newLength_cabcc 10 = .ok (.if_icmp .ge 11, 3) := by decide +kernel
theorem dJ8_newLength_cabcc_13 : decode cJ8_newLength_cabcc 13 = .ok (.iload_n 3, 1) := by decide +kernel
theorem dJ8_newLength_cabcc_14 : decode cJ8_newLength_cabcc 14 = .ok (.ldc 200, 2) := by decide +kernel
theorem dJ8_newLength_cabcc_16 : decode cJ8_newLength_cabcc 16 = .ok (.if_icmp .gt 5, 3) := by decide +kernel
theorem dJ8_newLength_cabcc_19 : decode cJ8_newLength_cabcc 19 = .ok (.iload_n 3, 1) := by decide +kernel
theorem dJ8_newLength_cabcc_20 : decode cJ8_newLength_cabcc 20 = .ok (.ireturn, 1) := by decide +kernel
theorem dJ8_newLength_cabcc_21 : decode cJ8_newLength_cabcc 21 = .ok (.iload_n 0, 1) := by decide +kernel
theorem dJ8_newLength_cabcc_22 : decode cJ8_newLength_cabcc 22 = .ok (.iload_n 1, 1) := by decide +kernel
theorem dJ8_newLength_cabcc_23 : decode cJ8_newLength_cabcc 23 = .ok (.invokestatic 201, 3) := by decide +kernel
theorem dJ8_newLength_cabcc_26 : decode cJ8_newLength_cabcc 26 = .ok (.ireturn, 1) := by decide +kernel
theorem dJ8_hugeLength_7cf53_0 : decode cJ8_hugeLength_7cf53 0 = .ok (.iload_n 0, 1) := by decide +kernel
theorem dJ8_hugeLength_7cf53_1 : decode cJ8_hugeLength_7cf53 1 = .ok (.iload_n 1, 1) := by decide +kernel
theorem dJ8_hugeLength_7cf53_2 : decode cJ8_hugeLength_7cf53 2 = .ok (.iadd, 1) := by decide +kernel
theorem dJ8_hugeLength_7cf53_3 : decode cJ8_hugeLength_7cf53 3 = .ok (.istore_n 2, 1) := by decide +kernel
theorem dJ8_hugeLength_7cf53_4 : decode cJ8_hugeLength_7cf53 4 = .ok (.iload_n 2, 1) := by decide +kernel
theorem dJ8_hugeLength_7cf53_5 : decode cJ8_hugeLength_7cf53 5 = .ok (.ifCond .ge 44, 3) := by decide +kernel
theorem dJ8_hugeLength_7cf53_8 : decode cJ8_hugeLength_7cf53 8 = .ok (.new 204, 3) := by decide +kernel
theorem dJ8_hugeLength_7cf53_11 : decode cJ8_hugeLength_7cf53 11 = .ok (.dup, 1) := by decide +kernel
theorem dJ8_hugeLength_7cf53_12 : decode cJ8_hugeLength_7cf53 12 = .ok (.new 89, 3) := by decide +kernel
theorem dJ8_hugeLength_7cf53_15 : decode cJ8_hugeLength_7cf53 15 = .ok (.dup, 1) := by decide +kernel
theorem dJ8_hugeLength_7cf53_16 : decode cJ8_hugeLength_7cf53 16 = .ok (.invokespecial 91, 3) := by decide +kernel
theorem dJ8_hugeLength_7cf53_19 : decode cJ8_hugeLength_7cf53 19 = .ok (.ldc 206, 2) := by decide +kernel
theorem dJ8_hugeLength_7cf53_21 : decode cJ8_hugeLength_7cf53 21 = .ok (.invokevirtual 94, 3) := by decide +kernel
theorem dJ8_hugeLength_7cf53_24 : decode cJ8_hugeLength_7cf53 24 = .ok (.iload_n 0, 1) := by decide +kernel
theorem dJ8_hugeLength_7cf53_25 : decode cJ8_hugeLength_7cf53 25 = .ok (.invokevirtual 98, 3) := by decide +kernel
theorem dJ8_hugeLength_7cf53_28 : decode cJ8_hugeLength_7cf53 28 = .ok (.ldc 208, 2) := by decide +kernel
theorem dJ8_hugeLength_7cf53_30 : decode cJ8_hugeLength_7cf53 30 = .ok (.invokevirtual 94, 3) := by decide +kernel
theorem dJ8_hugeLength_7cf53_33 : decode cJ8_hugeLength_7cf53 33 = .ok (.iload_n 1, 1) := by decide +kernel
theorem dJ8_hugeLength_7cf53_34 : decode cJ8_hugeLength_7cf53 34 = .ok (.invokevirtual 98, 3) := by decide +kernel
theorem dJ8_hugeLength_7cf53_37 : decode cJ8_hugeLength_7cf53 37 = .ok (.ldc 210, 2) := by decide +kernel
theorem dJ8_hugeLength_7cf53_39 : decode cJ8_hugeLength_7cf53 39 = .ok (.invokevirtual 94, 3) := by decide +kernel
theorem dJ8_hugeLength_7cf53_42 : decode cJ8_hugeLength_7cf53 42 = .ok (.invokevirtual 101, 3) := by decide +kernel
theorem dJ8_hugeLength_7cf53_45 : decode cJ8_hugeLength_7cf53 45 = .ok (.invokespecial 212, 3) := by decide +kernel
theorem dJ8_hugeLength_7cf53_48 : decode cJ8_hugeLength_7cf53 48 = .ok (.athrow, 1) := by decide +kernel
theorem dJ8_hugeLength_7cf53_49 : decode cJ8_hugeLength_7cf53 49 = .ok (.iload_n 2, 1) := by decide +kernel
theorem dJ8_hugeLength_7cf53_50 : decode cJ8_hugeLength_7cf53 50 = .ok (.ldc 200, 2) := by decide +kernel
theorem dJ8_hugeLength_7cf53_52 : decode cJ8_hugeLength_7cf53 52 = .ok (.if_icmp .gt 6, 3) := by decide +kernel
theorem dJ8_hugeLength_7cf53_55 : decode cJ8_hugeLength_7cf53 55 = .ok (.ldc 200, 2) := by decide +kernel
theorem dJ8_hugeLength_7cf53_57 : decode cJ8_hugeLength_7cf53 57 = .ok (.ireturn, 1) := by decide +kernel
theorem dJ8_hugeLength_7cf53_58 : decode cJ8_hugeLength_7cf53 58 = .ok (.iload_n 2, 1) := by decide +kernel
theorem dJ8_hugeLength_7cf53_59 : decode cJ8_hugeLength_7cf53 59 = .ok (.ireturn, 1) := by decide +kernel
theorem dJ3_checkIndex_8e157_0 : decode cJ3_checkIndex_8e157 0 = .ok (.iload_n 0, 1) := by decide +kernel
theorem dJ3_checkIndex_8e157_1 : decode cJ3_checkIndex_8e157 1 = .ok (.ifCond .lt 8, 3) := by decide +kernel
theorem dJ3_checkIndex_8e157_4 : decode cJ3_checkIndex_8e157 4 = .ok (.iload_n 0, 1) := by decide +kernel
theorem dJ3_checkIndex_8e157_5 : decode cJ3_checkIndex_8e157 5 = .ok (.iload_n 1, 1) := by decide +kernel
theorem dJ3_checkIndex_8e157_6 : decode cJ3_checkIndex_8e157 6 = .ok (.if_icmp .lt 10, 3) := by decide +kernel
theorem dJ3_checkIndex_8e157_9 : decode cJ3_checkIndex_8e157 9 = .ok (.aload_n 2, 1) := by decide +kernel
theorem dJ3_checkIndex_8e157_10 : decode cJ3_checkIndex_8e157 10 = .ok (.iload_n 0, 1) := by decide +kernel
theorem dJ3_checkIndex_8e157_11 : decode cJ3_checkIndex_8e157 11 = .ok (.iload_n 1, 1) := by decide +kernel
theorem dJ3_checkIndex_8e157_12 : decode cJ3_checkIndex_8e157 12 = .ok (.invokestatic 95, 3) := by decide +kernel
theorem dJ3_checkIndex_8e157_15 : decode cJ3_checkIndex_8e157 15 = .ok (.athrow, 1) := by decide +kernel
theorem dJ3_checkIndex_8e157_16 : decode cJ3_checkIndex_8e157 16 = .ok (.iload_n 0, 1) := by decide +kernel
theorem dJ3_checkIndex_8e157_17 : decode cJ3_checkIndex_8e157 17 = .ok (.ireturn, 1) := by decide +kernel
theorem dL_now_0 : decode cL_now 0 = .ok (.aload_n 3, 1) := by decide +kernel
theorem dL_now_1 : decode cL_now 1 = .ok (.iconst 0, 1) := by decide +kernel
theorem dL_now_2 : decode cL_now 2 = .ok (.aload_n 0, 1) := by decide +kernel
theorem dL_now_3 : decode cL_now 3 = .ok (.iload_n 1, 1) := by decide +kernel
theorem dL_now_4 : decode cL_now 4 = .ok (.iload_n 2, 1) := by decide +kernel
theorem dL_now_5 : decode cL_now 5 = .ok (.invokevirtual 7, 3) := by decide +kernel
theorem dL_now_8 : decode cL_now 8 = .ok (.i2l, 1) := by decide +kernel
theorem dL_now_9 : decode cL_now 9 = .ok (.lastore, 1) := by decide +kernel
theorem dL_now_10 : decode cL_now 10 = .ok (.goto 7, 3) := by decide +kernel
theorem dL_now_13 : decode cL_now 13 = .ok (.astore 4, 2) := by decide +kernel
theorem dL_now_15 : decode cL_now 15 = .ok (.iconst 1, 1) := by decide +kernel
theorem dL_now_16 : decode cL_now 16 = .ok (.ireturn, 1) := by decide +kernel
theorem dL_now_17 : decode cL_now 17 = .ok (.iconst 0, 1) := by decide +kernel
theorem dL_now_18 : decode cL_now 18 = .ok (.ireturn, 1) := by decide +kernel
theorem dL_score_0 : decode cL_score 0 = .ok (.aload 4, 2) := by decide +kernel
theorem dL_score_2 : decode cL_score 2 = .ok (.iconst 0, 1) := by decide +kernel
theorem dL_score_3 : decode cL_score 3 = .ok (.aload_n 0, 1) := by decide +kernel
theorem dL_score_4 : decode cL_score 4 = .ok (.iload_n 1, 1) := by decide +kernel
theorem dL_score_5 : decode cL_score 5 = .ok (.iload_n 2, 1) := by decide +kernel
theorem dL_score_6 : decode cL_score 6 = .ok (.iload_n 3, 1) := by decide +kernel
theorem dL_score_7 : decode cL_score 7 = .ok (.invokevirtual 15, 3) := by decide +kernel
theorem dL_score_10 : decode cL_score 10 = .ok (.i2l, 1) := by decide +kernel
theorem dL_score_11 : decode cL_score 11 = .ok (.lastore, 1) := by decide +kernel
theorem dL_score_12 : decode cL_score 12 = .ok (.goto 7, 3) := by decide +kernel
theorem dL_score_15 : decode cL_score 15 = .ok (.astore 5, 2) := by decide +kernel
theorem dL_score_17 : decode cL_score 17 = .ok (.iconst 1, 1) := by decide +kernel
theorem dL_score_18 : decode cL_score 18 = .ok (.ireturn, 1) := by decide +kernel
theorem dL_score_19 : decode cL_score 19 = .ok (.iconst 0, 1) := by decide +kernel
theorem dL_score_20 : decode cL_score 20 = .ok (.ireturn, 1) := by decide +kernel
theorem dL_overs_0 : decode cL_overs 0 = .ok (.aload 5, 2) := by decide +kernel
theorem dL_overs_2 : decode cL_overs 2 = .ok (.iconst 0, 1) := by decide +kernel
theorem dL_overs_3 : decode cL_overs 3 = .ok (.aload_n 0, 1) := by decide +kernel
theorem dL_overs_4 : decode cL_overs 4 = .ok (.iload_n 1, 1) := by decide +kernel
theorem dL_overs_5 : decode cL_overs 5 = .ok (.iload_n 2, 1) := by decide +kernel
theorem dL_overs_6 : decode cL_overs 6 = .ok (.iload_n 3, 1) := by decide +kernel
theorem dL_overs_7 : decode cL_overs 7 = .ok (.iload 4, 2) := by decide +kernel
theorem dL_overs_9 : decode cL_overs 9 = .ok (.invokevirtual 19, 3) := by decide +kernel
theorem dL_overs_12 : decode cL_overs 12 = .ok (.i2l, 1) := by decide +kernel
theorem dL_overs_13 : decode cL_overs 13 = .ok (.lastore, 1) := by decide +kernel
theorem dL_overs_14 : decode cL_overs 14 = .ok (.goto 7, 3) := by decide +kernel
theorem dL_overs_17 : decode cL_overs 17 = .ok (.astore 6, 2) := by decide +kernel
theorem dL_overs_19 : decode cL_overs 19 = .ok (.iconst 1, 1) := by decide +kernel
theorem dL_overs_20 : decode cL_overs 20 = .ok (.ireturn, 1) := by decide +kernel
theorem dL_overs_21 : decode cL_overs 21 = .ok (.iconst 0, 1) := by decide +kernel
theorem dL_overs_22 : decode cL_overs 22 = .ok (.ireturn, 1) := by decide +kernel
theorem dL_entry_0 : decode cL_entry 0 = .ok (.aload 5, 2) := by decide +kernel
theorem dL_entry_2 : decode cL_entry 2 = .ok (.iconst 0, 1) := by decide +kernel
theorem dL_entry_3 : decode cL_entry 3 = .ok (.aload_n 0, 1) := by decide +kernel
theorem dL_entry_4 : decode cL_entry 4 = .ok (.iload_n 1, 1) := by decide +kernel
theorem dL_entry_5 : decode cL_entry 5 = .ok (.iload_n 2, 1) := by decide +kernel
theorem dL_entry_6 : decode cL_entry 6 = .ok (.iload_n 3, 1) := by decide +kernel
theorem dL_entry_7 : decode cL_entry 7 = .ok (.iload 4, 2) := by decide +kernel
theorem dL_entry_9 : decode cL_entry 9 = .ok (.invokevirtual 23, 3) := by decide +kernel
theorem dL_entry_12 : decode cL_entry 12 = .ok (.i2l, 1) := by decide +kernel
theorem dL_entry_13 : decode cL_entry 13 = .ok (.lastore, 1) := by decide +kernel
theorem dL_entry_14 : decode cL_entry 14 = .ok (.goto 7, 3) := by decide +kernel
theorem dL_entry_17 : decode cL_entry 17 = .ok (.astore 6, 2) := by decide +kernel
theorem dL_entry_19 : decode cL_entry 19 = .ok (.iconst 1, 1) := by decide +kernel
theorem dL_entry_20 : decode cL_entry 20 = .ok (.ireturn, 1) := by decide +kernel
theorem dL_entry_21 : decode cL_entry 21 = .ok (.iconst 0, 1) := by decide +kernel
theorem dL_entry_22 : decode cL_entry 22 = .ok (.ireturn, 1) := by decide +kernel
theorem dL_bats_0 : decode cL_bats 0 = .ok (.aload 5, 2) := by decide +kernel
theorem dL_bats_2 : decode cL_bats 2 = .ok (.iconst 0, 1) := by decide +kernel
theorem dL_bats_3 : decode cL_bats 3 = .ok (.aload_n 0, 1) := by decide +kernel
theorem dL_bats_4 : decode cL_bats 4 = .ok (.iload_n 1, 1) := by decide +kernel
theorem dL_bats_5 : decode cL_bats 5 = .ok (.iload_n 2, 1) := by decide +kernel
theorem dL_bats_6 : decode cL_bats 6 = .ok (.iload_n 3, 1) := by decide +kernel
theorem dL_bats_7 : decode cL_bats 7 = .ok (.iload 4, 2) := by decide +kernel
theorem dL_bats_9 : decode cL_bats 9 = .ok (.invokevirtual 26, 3) := by decide +kernel
theorem dL_bats_12 : decode cL_bats 12 = .ok (.i2l, 1) := by decide +kernel
theorem dL_bats_13 : decode cL_bats 13 = .ok (.lastore, 1) := by decide +kernel
theorem dL_bats_14 : decode cL_bats 14 = .ok (.goto 7, 3) := by decide +kernel
theorem dL_bats_17 : decode cL_bats 17 = .ok (.astore 6, 2) := by decide +kernel
theorem dL_bats_19 : decode cL_bats 19 = .ok (.iconst 1, 1) := by decide +kernel
theorem dL_bats_20 : decode cL_bats 20 = .ok (.ireturn, 1) := by decide +kernel
theorem dL_bats_21 : decode cL_bats 21 = .ok (.iconst 0, 1) := by decide +kernel
theorem dL_bats_22 : decode cL_bats 22 = .ok (.ireturn, 1) := by decide +kernel
theorem dL_fields_0 : decode cL_fields 0 = .ok (.aload 5, 2) := by decide +kernel
theorem dL_fields_2 : decode cL_fields 2 = .ok (.iconst 0, 1) := by decide +kernel
theorem dL_fields_3 : decode cL_fields 3 = .ok (.aload_n 0, 1) := by decide +kernel
theorem dL_fields_4 : decode cL_fields 4 = .ok (.iload_n 1, 1) := by decide +kernel
theorem dL_fields_5 : decode cL_fields 5 = .ok (.iload_n 2, 1) := by decide +kernel
theorem dL_fields_6 : decode cL_fields 6 = .ok (.iload_n 3, 1) := by decide +kernel
theorem dL_fields_7 : decode cL_fields 7 = .ok (.iload 4, 2) := by decide +kernel
theorem dL_fields_9 : decode cL_fields 9 = .ok (.invokevirtual 29, 3) := by decide +kernel
theorem dL_fields_12 : decode cL_fields 12 = .ok (.i2l, 1) := by decide +kernel
theorem dL_fields_13 : decode cL_fields 13 = .ok (.lastore, 1) := by decide +kernel
theorem dL_fields_14 : decode cL_fields 14 = .ok (.goto 7, 3) := by decide +kernel
theorem dL_fields_17 : decode cL_fields 17 = .ok (.astore 6, 2) := by decide +kernel
theorem dL_fields_19 : decode cL_fields 19 = .ok (.iconst 1, 1) := by decide +kernel
theorem dL_fields_20 : decode cL_fields 20 = .ok (.ireturn, 1) := by decide +kernel
theorem dL_fields_21 : decode cL_fields 21 = .ok (.iconst 0, 1) := by decide +kernel
theorem dL_fields_22 : decode cL_fields 22 = .ok (.ireturn, 1) := by decide +kernel
theorem dL_record_0 : decode cL_record 0 = .ok (.aload_n 3, 1) := by decide +kernel
theorem dL_record_1 : decode cL_record 1 = .ok (.iconst 0, 1) := by decide +kernel
theorem dL_record_2 : decode cL_record 2 = .ok (.aload_n 0, 1) := by decide +kernel
theorem dL_record_3 : decode cL_record 3 = .ok (.iload_n 1, 1) := by decide +kernel
theorem dL_record_4 : decode cL_record 4 = .ok (.iload_n 2, 1) := by decide +kernel
theorem dL_record_5 : decode cL_record 5 = .ok (.invokevirtual 32, 3) := by decide +kernel
theorem dL_record_8 : decode cL_record 8 = .ok (.i2l, 1) := by decide +kernel
theorem dL_record_9 : decode cL_record 9 = .ok (.lastore, 1) := by decide +kernel
theorem dL_record_10 : decode cL_record 10 = .ok (.goto 7, 3) := by decide +kernel
theorem dL_record_13 : decode cL_record 13 = .ok (.astore 4, 2) := by decide +kernel
theorem dL_record_15 : decode cL_record 15 = .ok (.iconst 1, 1) := by decide +kernel
theorem dL_record_16 : decode cL_record 16 = .ok (.ireturn, 1) := by decide +kernel
theorem dL_record_17 : decode cL_record 17 = .ok (.iconst 0, 1) := by decide +kernel
theorem dL_record_18 : decode cL_record 18 = .ok (.ireturn, 1) := by decide +kernel
theorem dL_told_0 : decode cL_told 0 = .ok (.aload_n 2, 1) := by decide +kernel
theorem dL_told_1 : decode cL_told 1 = .ok (.iconst 0, 1) := by decide +kernel
theorem dL_told_2 : decode cL_told 2 = .ok (.aload_n 0, 1) := by decide +kernel
theorem dL_told_3 : decode cL_told 3 = .ok (.iload_n 1, 1) := by decide +kernel
theorem dL_told_4 : decode cL_told 4 = .ok (.invokevirtual 35, 3) := by decide +kernel
theorem dL_told_7 : decode cL_told 7 = .ok (.i2l, 1) := by decide +kernel
theorem dL_told_8 : decode cL_told 8 = .ok (.lastore, 1) := by decide +kernel
theorem dL_told_9 : decode cL_told 9 = .ok (.goto 6, 3) := by decide +kernel
theorem dL_told_12 : decode cL_told 12 = .ok (.astore_n 3, 1) := by decide +kernel
theorem dL_told_13 : decode cL_told 13 = .ok (.iconst 1, 1) := by decide +kernel
theorem dL_told_14 : decode cL_told 14 = .ok (.ireturn, 1) := by decide +kernel
theorem dL_told_15 : decode cL_told 15 = .ok (.iconst 0, 1) := by decide +kernel
theorem dL_told_16 : decode cL_told 16 = .ok (.ireturn, 1) := by decide +kernel
theorem dL_list_0 : decode cL_list 0 = .ok (.aload_n 2, 1) := by decide +kernel
theorem dL_list_1 : decode cL_list 1 = .ok (.iconst 0, 1) := by decide +kernel
theorem dL_list_2 : decode cL_list 2 = .ok (.aload_n 0, 1) := by decide +kernel
theorem dL_list_3 : decode cL_list 3 = .ok (.iload_n 1, 1) := by decide +kernel
theorem dL_list_4 : decode cL_list 4 = .ok (.invokevirtual 39, 3) := by decide +kernel
theorem dL_list_7 : decode cL_list 7 = .ok (.i2l, 1) := by decide +kernel
theorem dL_list_8 : decode cL_list 8 = .ok (.lastore, 1) := by decide +kernel
theorem dL_list_9 : decode cL_list 9 = .ok (.goto 6, 3) := by decide +kernel
theorem dL_list_12 : decode cL_list 12 = .ok (.astore_n 3, 1) := by decide +kernel
theorem dL_list_13 : decode cL_list 13 = .ok (.iconst 1, 1) := by decide +kernel
theorem dL_list_14 : decode cL_list 14 = .ok (.ireturn, 1) := by decide +kernel
theorem dL_list_15 : decode cL_list 15 = .ok (.iconst 0, 1) := by decide +kernel
theorem dL_list_16 : decode cL_list 16 = .ok (.ireturn, 1) := by decide +kernel
theorem dL_sum_0 : decode cL_sum 0 = .ok (.aload_n 2, 1) := by decide +kernel
theorem dL_sum_1 : decode cL_sum 1 = .ok (.iconst 0, 1) := by decide +kernel
theorem dL_sum_2 : decode cL_sum 2 = .ok (.aload_n 0, 1) := by decide +kernel
theorem dL_sum_3 : decode cL_sum 3 = .ok (.iload_n 1, 1) := by decide +kernel
theorem dL_sum_4 : decode cL_sum 4 = .ok (.invokevirtual 42, 3) := by decide +kernel
theorem dL_sum_7 : decode cL_sum 7 = .ok (.lastore, 1) := by decide +kernel
theorem dL_sum_8 : decode cL_sum 8 = .ok (.goto 6, 3) := by decide +kernel
theorem dL_sum_11 : decode cL_sum 11 = .ok (.astore_n 3, 1) := by decide +kernel
theorem dL_sum_12 : decode cL_sum 12 = .ok (.iconst 1, 1) := by decide +kernel
theorem dL_sum_13 : decode cL_sum 13 = .ok (.ireturn, 1) := by decide +kernel
theorem dL_sum_14 : decode cL_sum 14 = .ok (.iconst 0, 1) := by decide +kernel
theorem dL_sum_15 : decode cL_sum 15 = .ok (.ireturn, 1) := by decide +kernel
theorem dL_law_0 : decode cL_law 0 = .ok (.new 8, 3) := by decide +kernel
theorem dL_law_3 : decode cL_law 3 = .ok (.dup, 1) := by decide +kernel
theorem dL_law_4 : decode cL_law 4 = .ok (.invokespecial 46, 3) := by decide +kernel
theorem dL_law_7 : decode cL_law 7 = .ok (.astore_n 1, 1) := by decide +kernel
theorem dL_law_8 : decode cL_law 8 = .ok (.new 47, 3) := by decide +kernel
theorem dL_law_11 : decode cL_law 11 = .ok (.dup, 1) := by decide +kernel
theorem dL_law_12 : decode cL_law 12 = .ok (.invokespecial 49, 3) := by decide +kernel
theorem dL_law_15 : decode cL_law 15 = .ok (.astore_n 2, 1) := by decide +kernel
theorem dL_law_16 : decode cL_law 16 = .ok (.iconst 1, 1) := by decide +kernel
theorem dL_law_17 : decode cL_law 17 = .ok (.newarray .long, 2) := by decide +kernel
theorem dL_law_19 : decode cL_law 19 = .ok (.astore_n 3, 1) := by decide +kernel
theorem dL_law_20 : decode cL_law 20 = .ok (.iconst 0, 1) := by decide +kernel
theorem dL_law_21 : decode cL_law 21 = .ok (.istore 4, 2) := by decide +kernel
theorem dL_law_23 : decode cL_law 23 = .ok (.iload 4, 2) := by decide +kernel
theorem dL_law_25 : decode cL_law 25 = .ok (.aload_n 0, 1) := by decide +kernel
theorem dL_law_26 : decode cL_law 26 = .ok (.arraylength, 1) := by decide +kernel
theorem dL_law_27 : decode cL_law 27 = .ok (.bipush 6, 2) := by decide +kernel
theorem dL_law_29 : decode cL_law 29 = .ok (.isub, 1) := by decide +kernel
theorem dL_law_30 : decode cL_law 30 = .ok (.if_icmp .gt 1722, 3) := by decide +kernel
theorem dL_law_33 : decode cL_law 33 = .ok (.aload_n 0, 1) := by decide +kernel
theorem dL_law_34 : decode cL_law 34 = .ok (.iload 4, 2) := by decide +kernel
theorem dL_law_36 : decode cL_law 36 = .ok (.iaload, 1) := by decide +kernel
theorem dL_law_37 : decode cL_law 37 = .ok (.bipush 31, 2) := by decide +kernel
theorem dL_law_39 : decode cL_law 39 = .ok (.iand, 1) := by decide +kernel
theorem dL_law_40 : decode cL_law 40 = .ok (.tableswitch 1706 0 28 #[132, 157, 182, 243, 304, 329, 366, 403, 476, 537, 586, 659, 732, 793, 854, 867, 880, 948, 1028, 1120, 1212, 1304, 1396, 1464, 1489, 1545, 1570, 1595, 1651], 132) := by decide +kernel
theorem dL_law_172 : decode cL_law 172 = .ok (.aload_n 1, 1) := by decide +kernel
theorem dL_law_173 : decode cL_law 173 = .ok (.aload_n 0, 1) := by decide +kernel
theorem dL_law_174 : decode cL_law 174 = .ok (.iload 4, 2) := by decide +kernel
theorem dL_law_176 : decode cL_law 176 = .ok (.iconst 1, 1) := by decide +kernel
theorem dL_law_177 : decode cL_law 177 = .ok (.iadd, 1) := by decide +kernel
theorem dL_law_178 : decode cL_law 178 = .ok (.iaload, 1) := by decide +kernel
theorem dL_law_179 : decode cL_law 179 = .ok (.invokevirtual 50, 3) := by decide +kernel
theorem dL_law_182 : decode cL_law 182 = .ok (.aload_n 2, 1) := by decide +kernel
theorem dL_law_183 : decode cL_law 183 = .ok (.aload_n 0, 1) := by decide +kernel
theorem dL_law_184 : decode cL_law 184 = .ok (.iload 4, 2) := by decide +kernel
theorem dL_law_186 : decode cL_law 186 = .ok (.iconst 1, 1) := by decide +kernel
theorem dL_law_187 : decode cL_law 187 = .ok (.iadd, 1) := by decide +kernel
theorem dL_law_188 : decode cL_law 188 = .ok (.iaload, 1) := by decide +kernel
theorem dL_law_189 : decode cL_law 189 = .ok (.invokevirtual 53, 3) := by decide +kernel
theorem dL_law_192 : decode cL_law 192 = .ok (.if_icmp .eq 1554, 3) := by decide +kernel
theorem dL_law_195 : decode cL_law 195 = .ok (.iconst 0, 1) := by decide +kernel
theorem dL_law_196 : decode cL_law 196 = .ok (.ireturn, 1) := by decide +kernel
theorem dL_law_197 : decode cL_law 197 = .ok (.aload_n 1, 1) := by decide +kernel
theorem dL_law_198 : decode cL_law 198 = .ok (.aload_n 0, 1) := by decide +kernel
theorem dL_law_199 : decode cL_law 199 = .ok (.iload 4, 2) := by decide +kernel
theorem dL_law_201 : decode cL_law 201 = .ok (.iconst 1, 1) := by decide +kernel
theorem dL_law_202 : decode cL_law 202 = .ok (.iadd, 1) := by decide +kernel
theorem dL_law_203 : decode cL_law 203 = .ok (.iaload, 1) := by decide +kernel
theorem dL_law_204 : decode cL_law 204 = .ok (.invokevirtual 54, 3) := by decide +kernel
theorem dL_law_207 : decode cL_law 207 = .ok (.aload_n 2, 1) := by decide +kernel
theorem dL_law_208 : decode cL_law 208 = .ok (.aload_n 0, 1) := by decide +kernel
theorem dL_law_209 : decode cL_law 209 = .ok (.iload 4, 2) := by decide +kernel
theorem dL_law_211 : decode cL_law 211 = .ok (.iconst 1, 1) := by decide +kernel
theorem dL_law_212 : decode cL_law 212 = .ok (.iadd, 1) := by decide +kernel
theorem dL_law_213 : decode cL_law 213 = .ok (.iaload, 1) := by decide +kernel
theorem dL_law_214 : decode cL_law 214 = .ok (.invokevirtual 57, 3) := by decide +kernel
theorem dL_law_217 : decode cL_law 217 = .ok (.if_icmp .eq 1529, 3) := by decide +kernel
theorem dL_law_220 : decode cL_law 220 = .ok (.iconst 0, 1) := by decide +kernel
theorem dL_law_221 : decode cL_law 221 = .ok (.ireturn, 1) := by decide +kernel
theorem dL_law_222 : decode cL_law 222 = .ok (.aload_n 1, 1) := by decide +kernel
theorem dL_law_223 : decode cL_law 223 = .ok (.aload_n 0, 1) := by decide +kernel
theorem dL_law_224 : decode cL_law 224 = .ok (.iload 4, 2) := by decide +kernel
theorem dL_law_226 : decode cL_law 226 = .ok (.iconst 1, 1) := by decide +kernel
theorem dL_law_227 : decode cL_law 227 = .ok (.iadd, 1) := by decide +kernel
theorem dL_law_228 : decode cL_law 228 = .ok (.iaload, 1) := by decide +kernel
theorem dL_law_229 : decode cL_law 229 = .ok (.aload_n 0, 1) := by decide +kernel
theorem dL_law_230 : decode cL_law 230 = .ok (.iload 4, 2) := by decide +kernel
theorem dL_law_232 : decode cL_law 232 = .ok (.iconst 2, 1) := by decide +kernel
theorem dL_law_233 : decode cL_law 233 = .ok (.iadd, 1) := by decide +kernel
theorem dL_law_234 : decode cL_law 234 = .ok (.iaload, 1) := by decide +kernel
theorem dL_law_235 : decode cL_law 235 = .ok (.aload_n 0, 1) := by decide +kernel
theorem dL_law_236 : decode cL_law 236 = .ok (.iload 4, 2) := by decide +kernel
theorem dL_law_238 : decode cL_law 238 = .ok (.iconst 3, 1) := by decide +kernel
theorem dL_law_239 : decode cL_law 239 = .ok (.iadd, 1) := by decide +kernel
theorem dL_law_240 : decode cL_law 240 = .ok (.iaload, 1) := by decide +kernel
theorem dL_law_241 : decode cL_law 241 = .ok (.aload_n 0, 1) := by decide +kernel
theorem dL_law_242 : decode cL_law 242 = .ok (.iload 4, 2) := by decide +kernel
theorem dL_law_244 : decode cL_law 244 = .ok (.iconst 4, 1) := by decide +kernel
theorem dL_law_245 : decode cL_law 245 = .ok (.iadd, 1) := by decide +kernel
theorem dL_law_246 : decode cL_law 246 = .ok (.iaload, 1) := by decide +kernel
theorem dL_law_247 : decode cL_law 247 = .ok (.invokevirtual 58, 3) := by decide +kernel
theorem dL_law_250 : decode cL_law 250 = .ok (.aload_n 2, 1) := by decide +kernel
theorem dL_law_251 : decode cL_law 251 = .ok (.aload_n 0, 1) := by decide +kernel
theorem dL_law_252 : decode cL_law 252 = .ok (.iload 4, 2) := by decide +kernel
theorem dL_law_254 : decode cL_law 254 = .ok (.iconst 1, 1) := by decide +kernel
theorem dL_law_255 : decode cL_law 255 = .ok (.iadd, 1) := by decide +kernel
theorem dL_law_256 : decode cL_law 256 = .ok (.iaload, 1) := by decide +kernel
theorem dL_law_257 : decode cL_law 257 = .ok (.aload_n 0, 1) := by decide +kernel
theorem dL_law_258 : decode cL_law 258 = .ok (.iload 4, 2) := by decide +kernel
theorem dL_law_260 : decode cL_law 260 = .ok (.iconst 2, 1) := by decide +kernel
theorem dL_law_261 : decode cL_law 261 = .ok (.iadd, 1) := by decide +kernel
theorem dL_law_262 : decode cL_law 262 = .ok (.iaload, 1) := by decide +kernel
theorem dL_law_263 : decode cL_law 263 = .ok (.aload_n 0, 1) := by decide +kernel
theorem dL_law_264 : decode cL_law 264 = .ok (.iload 4, 2) := by decide +kernel
theorem dL_law_266 : decode cL_law 266 = .ok (.iconst 3, 1) := by decide +kernel
theorem dL_law_267 : decode cL_law 267 = .ok (.iadd, 1) := by decide +kernel
theorem dL_law_268 : decode cL_law 268 = .ok (.iaload, 1) := by decide +kernel
theorem dL_law_269 : decode cL_law 269 = .ok (.aload_n 0, 1) := by decide +kernel
theorem dL_law_270 : decode cL_law 270 = .ok (.iload 4, 2) := by decide +kernel
theorem dL_law_272 : decode cL_law 272 = .ok (.iconst 4, 1) := by decide +kernel
theorem dL_law_273 : decode cL_law 273 = .ok (.iadd, 1) := by decide +kernel
theorem dL_law_274 : decode cL_law 274 = .ok (.iaload, 1) := by decide +kernel
theorem dL_law_275 : decode cL_law 275 = .ok (.invokevirtual 61, 3) := by decide +kernel
theorem dL_law_278 : decode cL_law 278 = .ok (.if_icmp .eq 1468, 3) := by decide +kernel
theorem dL_law_281 : decode cL_law 281 = .ok (.iconst 0, 1) := by decide +kernel
theorem dL_law_282 : decode cL_law 282 = .ok (.ireturn, 1) := by decide +kernel
theorem dL_law_283 : decode cL_law 283 = .ok (.aload_n 1, 1) := by decide +kernel
theorem dL_law_284 : decode cL_law 284 = .ok (.aload_n 0, 1) := by decide +kernel
theorem dL_law_285 : decode cL_law 285 = .ok (.iload 4, 2) := by decide +kernel
theorem dL_law_287 : decode cL_law 287 = .ok (.iconst 1, 1) := by decide +kernel
theorem dL_law_288 : decode cL_law 288 = .ok (.iadd, 1) := by decide +kernel
theorem dL_law_289 : decode cL_law 289 = .ok (.iaload, 1) := by decide +kernel
theorem dL_law_290 : decode cL_law 290 = .ok (.aload_n 0, 1) := by decide +kernel
theorem dL_law_291 : decode cL_law 291 = .ok (.iload 4, 2) := by decide +kernel
theorem dL_law_293 : decode cL_law 293 = .ok (.iconst 2, 1) := by decide +kernel
theorem dL_law_294 : decode cL_law 294 = .ok (.iadd, 1) := by decide +kernel
theorem dL_law_295 : decode cL_law 295 = .ok (.iaload, 1) := by decide +kernel
theorem dL_law_296 : decode cL_law 296 = .ok (.aload_n 0, 1) := by decide +kernel
theorem dL_law_297 : decode cL_law 297 = .ok (.iload 4, 2) := by decide +kernel
theorem dL_law_299 : decode cL_law 299 = .ok (.iconst 3, 1) := by decide +kernel
theorem dL_law_300 : decode cL_law 300 = .ok (.iadd, 1) := by decide +kernel
theorem dL_law_301 : decode cL_law 301 = .ok (.iaload, 1) := by decide +kernel
theorem dL_law_302 : decode cL_law 302 = .ok (.aload_n 0, 1) := by decide +kernel
theorem dL_law_303 : decode cL_law 303 = .ok (.iload 4, 2) := by decide +kernel
theorem dL_law_305 : decode cL_law 305 = .ok (.iconst 4, 1) := by decide +kernel
theorem dL_law_306 : decode cL_law 306 = .ok (.iadd, 1) := by decide +kernel
theorem dL_law_307 : decode cL_law 307 = .ok (.iaload, 1) := by decide +kernel
theorem dL_law_308 : decode cL_law 308 = .ok (.invokevirtual 62, 3) := by decide +kernel
theorem dL_law_311 : decode cL_law 311 = .ok (.aload_n 2, 1) := by decide +kernel
theorem dL_law_312 : decode cL_law 312 = .ok (.aload_n 0, 1) := by decide +kernel
theorem dL_law_313 : decode cL_law 313 = .ok (.iload 4, 2) := by decide +kernel
theorem dL_law_315 : decode cL_law 315 = .ok (.iconst 1, 1) := by decide +kernel
theorem dL_law_316 : decode cL_law 316 = .ok (.iadd, 1) := by decide +kernel
theorem dL_law_317 : decode cL_law 317 = .ok (.iaload, 1) := by decide +kernel
theorem dL_law_318 : decode cL_law 318 = .ok (.aload_n 0, 1) := by decide +kernel
theorem dL_law_319 : decode cL_law 319 = .ok (.iload 4, 2) := by decide +kernel
theorem dL_law_321 : decode cL_law 321 = .ok (.iconst 2, 1) := by decide +kernel
theorem dL_law_322 : decode cL_law 322 = .ok (.iadd, 1) := by decide +kernel
theorem dL_law_323 : decode cL_law 323 = .ok (.iaload, 1) := by decide +kernel
theorem dL_law_324 : decode cL_law 324 = .ok (.aload_n 0, 1) := by decide +kernel
theorem dL_law_325 : decode cL_law 325 = .ok (.iload 4, 2) := by decide +kernel
theorem dL_law_327 : decode cL_law 327 = .ok (.iconst 3, 1) := by decide +kernel
theorem dL_law_328 : decode cL_law 328 = .ok (.iadd, 1) := by decide +kernel
theorem dL_law_329 : decode cL_law 329 = .ok (.iaload, 1) := by decide +kernel
theorem dL_law_330 : decode cL_law 330 = .ok (.aload_n 0, 1) := by decide +kernel
theorem dL_law_331 : decode cL_law 331 = .ok (.iload 4, 2) := by decide +kernel
theorem dL_law_333 : decode cL_law 333 = .ok (.iconst 4, 1) := by decide +kernel
theorem dL_law_334 : decode cL_law 334 = .ok (.iadd, 1) := by decide +kernel
theorem dL_law_335 : decode cL_law 335 = .ok (.iaload, 1) := by decide +kernel
theorem dL_law_336 : decode cL_law 336 = .ok (.invokevirtual 66, 3) := by decide +kernel
theorem dL_law_339 : decode cL_law 339 = .ok (.if_icmp .eq 1407, 3) := by decide +kernel
theorem dL_law_342 : decode cL_law 342 = .ok (.iconst 0, 1) := by decide +kernel
theorem dL_law_343 : decode cL_law 343 = .ok (.ireturn, 1) := by decide +kernel
theorem dL_law_344 : decode cL_law 344 = .ok (.aload_n 1, 1) := by decide +kernel
theorem dL_law_345 : decode cL_law 345 = .ok (.aload_n 0, 1) := by decide +kernel
theorem dL_law_346 : decode cL_law 346 = .ok (.iload 4, 2) := by decide +kernel
theorem dL_law_348 : decode cL_law 348 = .ok (.iconst 1, 1) := by decide +kernel
theorem dL_law_349 : decode cL_law 349 = .ok (.iadd, 1) := by decide +kernel
theorem dL_law_350 : decode cL_law 350 = .ok (.iaload, 1) := by decide +kernel
theorem dL_law_351 : decode cL_law 351 = .ok (.invokevirtual 67, 3) := by decide +kernel
theorem dL_law_354 : decode cL_law 354 = .ok (.aload_n 2, 1) := by decide +kernel
theorem dL_law_355 : decode cL_law 355 = .ok (.aload_n 0, 1) := by decide +kernel
theorem dL_law_356 : decode cL_law 356 = .ok (.iload 4, 2) := by decide +kernel
theorem dL_law_358 : decode cL_law 358 = .ok (.iconst 1, 1) := by decide +kernel
theorem dL_law_359 : decode cL_law 359 = .ok (.iadd, 1) := by decide +kernel
theorem dL_law_360 : decode cL_law 360 = .ok (.iaload, 1) := by decide +kernel
theorem dL_law_361 : decode cL_law 361 = .ok (.invokevirtual 71, 3) := by decide +kernel
theorem dL_law_364 : decode cL_law 364 = .ok (.if_icmp .eq 1382, 3) := by decide +kernel
theorem dL_law_367 : decode cL_law 367 = .ok (.iconst 0, 1) := by decide +kernel
theorem dL_law_368 : decode cL_law 368 = .ok (.ireturn, 1) := by decide +kernel
theorem dL_law_369 : decode cL_law 369 = .ok (.aload_n 1, 1) := by decide +kernel
theorem dL_law_370 : decode cL_law 370 = .ok (.aload_n 0, 1) := by decide +kernel
theorem dL_law_371 : decode cL_law 371 = .ok (.iload 4, 2) := by decide +kernel
theorem dL_law_373 : decode cL_law 373 = .ok (.iconst 1, 1) := by decide +kernel
theorem dL_law_374 : decode cL_law 374 = .ok (.iadd, 1) := by decide +kernel
theorem dL_law_375 : decode cL_law 375 = .ok (.iaload, 1) := by decide +kernel
theorem dL_law_376 : decode cL_law 376 = .ok (.aload_n 0, 1) := by decide +kernel
theorem dL_law_377 : decode cL_law 377 = .ok (.iload 4, 2) := by decide +kernel
theorem dL_law_379 : decode cL_law 379 = .ok (.iconst 2, 1) := by decide +kernel
theorem dL_law_380 : decode cL_law 380 = .ok (.iadd, 1) := by decide +kernel
theorem dL_law_381 : decode cL_law 381 = .ok (.iaload, 1) := by decide +kernel
theorem dL_law_382 : decode cL_law 382 = .ok (.invokevirtual 72, 3) := by decide +kernel
theorem dL_law_385 : decode cL_law 385 = .ok (.aload_n 2, 1) := by decide +kernel
theorem dL_law_386 : decode cL_law 386 = .ok (.aload_n 0, 1) := by decide +kernel
theorem dL_law_387 : decode cL_law 387 = .ok (.iload 4, 2) := by decide +kernel
theorem dL_law_389 : decode cL_law 389 = .ok (.iconst 1, 1) := by decide +kernel
theorem dL_law_390 : decode cL_law 390 = .ok (.iadd, 1) := by decide +kernel
theorem dL_law_391 : decode cL_law 391 = .ok (.iaload, 1) := by decide +kernel
theorem dL_law_392 : decode cL_law 392 = .ok (.aload_n 0, 1) := by decide +kernel
theorem dL_law_393 : decode cL_law 393 = .ok (.iload 4, 2) := by decide +kernel
theorem dL_law_395 : decode cL_law 395 = .ok (.iconst 2, 1) := by decide +kernel
theorem dL_law_396 : decode cL_law 396 = .ok (.iadd, 1) := by decide +kernel
theorem dL_law_397 : decode cL_law 397 = .ok (.iaload, 1) := by decide +kernel
theorem dL_law_398 : decode cL_law 398 = .ok (.invokevirtual 76, 3) := by decide +kernel
theorem dL_law_401 : decode cL_law 401 = .ok (.if_icmp .eq 1345, 3) := by decide +kernel
theorem dL_law_404 : decode cL_law 404 = .ok (.iconst 0, 1) := by decide +kernel
theorem dL_law_405 : decode cL_law 405 = .ok (.ireturn, 1) := by decide +kernel
theorem dL_law_406 : decode cL_law 406 = .ok (.aload_n 1, 1) := by decide +kernel
theorem dL_law_407 : decode cL_law 407 = .ok (.aload_n 0, 1) := by decide +kernel
theorem dL_law_408 : decode cL_law 408 = .ok (.iload 4, 2) := by decide +kernel
theorem dL_law_410 : decode cL_law 410 = .ok (.iconst 1, 1) := by decide +kernel
theorem dL_law_411 : decode cL_law 411 = .ok (.iadd, 1) := by decide +kernel
theorem dL_law_412 : decode cL_law 412 = .ok (.iaload, 1) := by decide +kernel
theorem dL_law_413 : decode cL_law 413 = .ok (.aload_n 0, 1) := by decide +kernel
theorem dL_law_414 : decode cL_law 414 = .ok (.iload 4, 2) := by decide +kernel
theorem dL_law_416 : decode cL_law 416 = .ok (.iconst 2, 1) := by decide +kernel
theorem dL_law_417 : decode cL_law 417 = .ok (.iadd, 1) := by decide +kernel
theorem dL_law_418 : decode cL_law 418 = .ok (.iaload, 1) := by decide +kernel
theorem dL_law_419 : decode cL_law 419 = .ok (.invokevirtual 77, 3) := by decide +kernel
theorem dL_law_422 : decode cL_law 422 = .ok (.aload_n 2, 1) := by decide +kernel
theorem dL_law_423 : decode cL_law 423 = .ok (.aload_n 0, 1) := by decide +kernel
theorem dL_law_424 : decode cL_law 424 = .ok (.iload 4, 2) := by decide +kernel
theorem dL_law_426 : decode cL_law 426 = .ok (.iconst 1, 1) := by decide +kernel
theorem dL_law_427 : decode cL_law 427 = .ok (.iadd, 1) := by decide +kernel
theorem dL_law_428 : decode cL_law 428 = .ok (.iaload, 1) := by decide +kernel
theorem dL_law_429 : decode cL_law 429 = .ok (.aload_n 0, 1) := by decide +kernel
theorem dL_law_430 : decode cL_law 430 = .ok (.iload 4, 2) := by decide +kernel
theorem dL_law_432 : decode cL_law 432 = .ok (.iconst 2, 1) := by decide +kernel
theorem dL_law_433 : decode cL_law 433 = .ok (.iadd, 1) := by decide +kernel
theorem dL_law_434 : decode cL_law 434 = .ok (.iaload, 1) := by decide +kernel
theorem dL_law_435 : decode cL_law 435 = .ok (.invokevirtual 80, 3) := by decide +kernel
theorem dL_law_438 : decode cL_law 438 = .ok (.if_icmp .eq 1308, 3) := by decide +kernel
theorem dL_law_441 : decode cL_law 441 = .ok (.iconst 0, 1) := by decide +kernel
theorem dL_law_442 : decode cL_law 442 = .ok (.ireturn, 1) := by decide +kernel
theorem dL_law_443 : decode cL_law 443 = .ok (.aload_n 1, 1) := by decide +kernel
theorem dL_law_444 : decode cL_law 444 = .ok (.aload_n 0, 1) := by decide +kernel
theorem dL_law_445 : decode cL_law 445 = .ok (.iload 4, 2) := by decide +kernel
theorem dL_law_447 : decode cL_law 447 = .ok (.iconst 1, 1) := by decide +kernel
theorem dL_law_448 : decode cL_law 448 = .ok (.iadd, 1) := by decide +kernel
theorem dL_law_449 : decode cL_law 449 = .ok (.iaload, 1) := by decide +kernel
theorem dL_law_450 : decode cL_law 450 = .ok (.aload_n 0, 1) := by decide +kernel
theorem dL_law_451 : decode cL_law 451 = .ok (.iload 4, 2) := by decide +kernel
theorem dL_law_453 : decode cL_law 453 = .ok (.iconst 2, 1) := by decide +kernel
theorem dL_law_454 : decode cL_law 454 = .ok (.iadd, 1) := by decide +kernel
theorem dL_law_455 : decode cL_law 455 = .ok (.iaload, 1) := by decide +kernel
theorem dL_law_456 : decode cL_law 456 = .ok (.aload_n 0, 1) := by decide +kernel
theorem dL_law_457 : decode cL_law 457 = .ok (.iload 4, 2) := by decide +kernel
theorem dL_law_459 : decode cL_law 459 = .ok (.iconst 3, 1) := by decide +kernel
theorem dL_law_460 : decode cL_law 460 = .ok (.iadd, 1) := by decide +kernel
theorem dL_law_461 : decode cL_law 461 = .ok (.iaload, 1) := by decide +kernel
theorem dL_law_462 : decode cL_law 462 = .ok (.aload_n 0, 1) := by decide +kernel
theorem dL_law_463 : decode cL_law 463 = .ok (.iload 4, 2) := by decide +kernel
theorem dL_law_465 : decode cL_law 465 = .ok (.iconst 4, 1) := by decide +kernel
theorem dL_law_466 : decode cL_law 466 = .ok (.iadd, 1) := by decide +kernel
theorem dL_law_467 : decode cL_law 467 = .ok (.iaload, 1) := by decide +kernel
theorem dL_law_468 : decode cL_law 468 = .ok (.aload_n 0, 1) := by decide +kernel
theorem dL_law_469 : decode cL_law 469 = .ok (.iload 4, 2) := by decide +kernel
theorem dL_law_471 : decode cL_law 471 = .ok (.iconst 5, 1) := by decide +kernel
theorem dL_law_472 : decode cL_law 472 = .ok (.iadd, 1) := by decide +kernel
theorem dL_law_473 : decode cL_law 473 = .ok (.iaload, 1) := by decide +kernel
theorem dL_law_474 : decode cL_law 474 = .ok (.invokevirtual 81, 3) := by decide +kernel
theorem dL_law_477 : decode cL_law 477 = .ok (.aload_n 2, 1) := by decide +kernel
theorem dL_law_478 : decode cL_law 478 = .ok (.aload_n 0, 1) := by decide +kernel
theorem dL_law_479 : decode cL_law 479 = .ok (.iload 4, 2) := by decide +kernel
theorem dL_law_481 : decode cL_law 481 = .ok (.iconst 1, 1) := by decide +kernel
theorem dL_law_482 : decode cL_law 482 = .ok (.iadd, 1) := by decide +kernel
theorem dL_law_483 : decode cL_law 483 = .ok (.iaload, 1) := by decide +kernel
theorem dL_law_484 : decode cL_law 484 = .ok (.aload_n 0, 1) := by decide +kernel
theorem dL_law_485 : decode cL_law 485 = .ok (.iload 4, 2) := by decide +kernel
theorem dL_law_487 : decode cL_law 487 = .ok (.iconst 2, 1) := by decide +kernel
theorem dL_law_488 : decode cL_law 488 = .ok (.iadd, 1) := by decide +kernel
theorem dL_law_489 : decode cL_law 489 = .ok (.iaload, 1) := by decide +kernel
theorem dL_law_490 : decode cL_law 490 = .ok (.aload_n 0, 1) := by decide +kernel
theorem dL_law_491 : decode cL_law 491 = .ok (.iload 4, 2) := by decide +kernel
theorem dL_law_493 : decode cL_law 493 = .ok (.iconst 3, 1) := by decide +kernel
theorem dL_law_494 : decode cL_law 494 = .ok (.iadd, 1) := by decide +kernel
theorem dL_law_495 : decode cL_law 495 = .ok (.iaload, 1) := by decide +kernel
theorem dL_law_496 : decode cL_law 496 = .ok (.aload_n 0, 1) := by decide +kernel
theorem dL_law_497 : decode cL_law 497 = .ok (.iload 4, 2) := by decide +kernel
theorem dL_law_499 : decode cL_law 499 = .ok (.iconst 4, 1) := by decide +kernel
theorem dL_law_500 : decode cL_law 500 = .ok (.iadd, 1) := by decide +kernel
theorem dL_law_501 : decode cL_law 501 = .ok (.iaload, 1) := by decide +kernel
theorem dL_law_502 : decode cL_law 502 = .ok (.aload_n 0, 1) := by decide +kernel
theorem dL_law_503 : decode cL_law 503 = .ok (.iload 4, 2) := by decide +kernel
theorem dL_law_505 : decode cL_law 505 = .ok (.iconst 5, 1) := by decide +kernel
theorem dL_law_506 : decode cL_law 506 = .ok (.iadd, 1) := by decide +kernel
theorem dL_law_507 : decode cL_law 507 = .ok (.iaload, 1) := by decide +kernel
theorem dL_law_508 : decode cL_law 508 = .ok (.invokevirtual 85, 3) := by decide +kernel
theorem dL_law_511 : decode cL_law 511 = .ok (.if_icmp .eq 1235, 3) := by decide +kernel
theorem dL_law_514 : decode cL_law 514 = .ok (.iconst 0, 1) := by decide +kernel
theorem dL_law_515 : decode cL_law 515 = .ok (.ireturn, 1) := by decide +kernel
theorem dL_law_516 : decode cL_law 516 = .ok (.aload_n 1, 1) := by decide +kernel
theorem dL_law_517 : decode cL_law 517 = .ok (.aload_n 0, 1) := by decide +kernel
theorem dL_law_518 : decode cL_law 518 = .ok (.iload 4, 2) := by decide +kernel
theorem dL_law_520 : decode cL_law 520 = .ok (.iconst 1, 1) := by decide +kernel
theorem dL_law_521 : decode cL_law 521 = .ok (.iadd, 1) := by decide +kernel
theorem dL_law_522 : decode cL_law 522 = .ok (.iaload, 1) := by decide +kernel
theorem dL_law_523 : decode cL_law 523 = .ok (.aload_n 0, 1) := by decide +kernel
theorem dL_law_524 : decode cL_law 524 = .ok (.iload 4, 2) := by decide +kernel
theorem dL_law_526 : decode cL_law 526 = .ok (.iconst 2, 1) := by decide +kernel
theorem dL_law_527 : decode cL_law 527 = .ok (.iadd, 1) := by decide +kernel
theorem dL_law_528 : decode cL_law 528 = .ok (.iaload, 1) := by decide +kernel
theorem dL_law_529 : decode cL_law 529 = .ok (.aload_n 0, 1) := by decide +kernel
theorem dL_law_530 : decode cL_law 530 = .ok (.iload 4, 2) := by decide +kernel
theorem dL_law_532 : decode cL_law 532 = .ok (.iconst 3, 1) := by decide +kernel
theorem dL_law_533 : decode cL_law 533 = .ok (.iadd, 1) := by decide +kernel
theorem dL_law_534 : decode cL_law 534 = .ok (.iaload, 1) := by decide +kernel
theorem dL_law_535 : decode cL_law 535 = .ok (.aload_n 0, 1) := by decide +kernel
theorem dL_law_536 : decode cL_law 536 = .ok (.iload 4, 2) := by decide +kernel
theorem dL_law_538 : decode cL_law 538 = .ok (.iconst 4, 1) := by decide +kernel
theorem dL_law_539 : decode cL_law 539 = .ok (.iadd, 1) := by decide +kernel
theorem dL_law_540 : decode cL_law 540 = .ok (.iaload, 1) := by decide +kernel
theorem dL_law_541 : decode cL_law 541 = .ok (.invokevirtual 86, 3) := by decide +kernel
theorem dL_law_544 : decode cL_law 544 = .ok (.aload_n 2, 1) := by decide +kernel
theorem dL_law_545 : decode cL_law 545 = .ok (.aload_n 0, 1) := by decide +kernel
theorem dL_law_546 : decode cL_law 546 = .ok (.iload 4, 2) := by decide +kernel
theorem dL_law_548 : decode cL_law 548 = .ok (.iconst 1, 1) := by decide +kernel
theorem dL_law_549 : decode cL_law 549 = .ok (.iadd, 1) := by decide +kernel
theorem dL_law_550 : decode cL_law 550 = .ok (.iaload, 1) := by decide +kernel
theorem dL_law_551 : decode cL_law 551 = .ok (.aload_n 0, 1) := by decide +kernel
theorem dL_law_552 : decode cL_law 552 = .ok (.iload 4, 2) := by decide +kernel
theorem dL_law_554 : decode cL_law 554 = .ok (.iconst 2, 1) := by decide +kernel
theorem dL_law_555 : decode cL_law 555 = .ok (.iadd, 1) := by decide +kernel
theorem dL_law_556 : decode cL_law 556 = .ok (.iaload, 1) := by decide +kernel
theorem dL_law_557 : decode cL_law 557 = .ok (.aload_n 0, 1) := by decide +kernel
theorem dL_law_558 : decode cL_law 558 = .ok (.iload 4, 2) := by decide +kernel
theorem dL_law_560 : decode cL_law 560 = .ok (.iconst 3, 1) := by decide +kernel
theorem dL_law_561 : decode cL_law 561 = .ok (.iadd, 1) := by decide +kernel
theorem dL_law_562 : decode cL_law 562 = .ok (.iaload, 1) := by decide +kernel
theorem dL_law_563 : decode cL_law 563 = .ok (.aload_n 0, 1) := by decide +kernel
theorem dL_law_564 : decode cL_law 564 = .ok (.iload 4, 2) := by decide +kernel
theorem dL_law_566 : decode cL_law 566 = .ok (.iconst 4, 1) := by decide +kernel
theorem dL_law_567 : decode cL_law 567 = .ok (.iadd, 1) := by decide +kernel
theorem dL_law_568 : decode cL_law 568 = .ok (.iaload, 1) := by decide +kernel
theorem dL_law_569 : decode cL_law 569 = .ok (.invokevirtual 89, 3) := by decide +kernel
theorem dL_law_572 : decode cL_law 572 = .ok (.if_icmp .eq 1174, 3) := by decide +kernel
theorem dL_law_575 : decode cL_law 575 = .ok (.iconst 0, 1) := by decide +kernel
theorem dL_law_576 : decode cL_law 576 = .ok (.ireturn, 1) := by decide +kernel
theorem dL_law_577 : decode cL_law 577 = .ok (.aload_n 1, 1) := by decide +kernel
theorem dL_law_578 : decode cL_law 578 = .ok (.aload_n 0, 1) := by decide +kernel
theorem dL_law_579 : decode cL_law 579 = .ok (.iload 4, 2) := by decide +kernel
theorem dL_law_581 : decode cL_law 581 = .ok (.iconst 1, 1) := by decide +kernel
theorem dL_law_582 : decode cL_law 582 = .ok (.iadd, 1) := by decide +kernel
theorem dL_law_583 : decode cL_law 583 = .ok (.iaload, 1) := by decide +kernel
theorem dL_law_584 : decode cL_law 584 = .ok (.aload_n 0, 1) := by decide +kernel
theorem dL_law_585 : decode cL_law 585 = .ok (.iload 4, 2) := by decide +kernel
theorem dL_law_587 : decode cL_law 587 = .ok (.iconst 2, 1) := by decide +kernel
theorem dL_law_588 : decode cL_law 588 = .ok (.iadd, 1) := by decide +kernel
theorem dL_law_589 : decode cL_law 589 = .ok (.iaload, 1) := by decide +kernel
theorem dL_law_590 : decode cL_law 590 = .ok (.aload_n 0, 1) := by decide +kernel
theorem dL_law_591 : decode cL_law 591 = .ok (.iload 4, 2) := by decide +kernel
theorem dL_law_593 : decode cL_law 593 = .ok (.iconst 3, 1) := by decide +kernel
theorem dL_law_594 : decode cL_law 594 = .ok (.iadd, 1) := by decide +kernel
theorem dL_law_595 : decode cL_law 595 = .ok (.iaload, 1) := by decide +kernel
theorem dL_law_596 : decode cL_law 596 = .ok (.invokevirtual 90, 3) := by decide +kernel
theorem dL_law_599 : decode cL_law 599 = .ok (.aload_n 2, 1) := by decide +kernel
theorem dL_law_600 : decode cL_law 600 = .ok (.aload_n 0, 1) := by decide +kernel
theorem dL_law_601 : decode cL_law 601 = .ok (.iload 4, 2) := by decide +kernel
theorem dL_law_603 : decode cL_law 603 = .ok (.iconst 1, 1) := by decide +kernel
theorem dL_law_604 : decode cL_law 604 = .ok (.iadd, 1) := by decide +kernel
theorem dL_law_605 : decode cL_law 605 = .ok (.iaload, 1) := by decide +kernel
theorem dL_law_606 : decode cL_law 606 = .ok (.aload_n 0, 1) := by decide +kernel
theorem dL_law_607 : decode cL_law 607 = .ok (.iload 4, 2) := by decide +kernel
theorem dL_law_609 : decode cL_law 609 = .ok (.iconst 2, 1) := by decide +kernel
theorem dL_law_610 : decode cL_law 610 = .ok (.iadd, 1) := by decide +kernel
theorem dL_law_611 : decode cL_law 611 = .ok (.iaload, 1) := by decide +kernel
theorem dL_law_612 : decode cL_law 612 = .ok (.aload_n 0, 1) := by decide +kernel
theorem dL_law_613 : decode cL_law 613 = .ok (.iload 4, 2) := by decide +kernel
theorem dL_law_615 : decode cL_law 615 = .ok (.iconst 3, 1) := by decide +kernel
theorem dL_law_616 : decode cL_law 616 = .ok (.iadd, 1) := by decide +kernel
theorem dL_law_617 : decode cL_law 617 = .ok (.iaload, 1) := by decide +kernel
theorem dL_law_618 : decode cL_law 618 = .ok (.invokevirtual 94, 3) := by decide +kernel
theorem dL_law_621 : decode cL_law 621 = .ok (.if_icmp .eq 1125, 3) := by decide +kernel
theorem dL_law_624 : decode cL_law 624 = .ok (.iconst 0, 1) := by decide +kernel
theorem dL_law_625 : decode cL_law 625 = .ok (.ireturn, 1) := by decide +kernel
theorem dL_law_626 : decode cL_law 626 = .ok (.aload_n 1, 1) := by decide +kernel
theorem dL_law_627 : decode cL_law 627 = .ok (.aload_n 0, 1) := by decide +kernel
theorem dL_law_628 : decode cL_law 628 = .ok (.iload 4, 2) := by decide +kernel
theorem dL_law_630 : decode cL_law 630 = .ok (.iconst 1, 1) := by decide +kernel
theorem dL_law_631 : decode cL_law 631 = .ok (.iadd, 1) := by decide +kernel
theorem dL_law_632 : decode cL_law 632 = .ok (.iaload, 1) := by decide +kernel
theorem dL_law_633 : decode cL_law 633 = .ok (.aload_n 0, 1) := by decide +kernel
theorem dL_law_634 : decode cL_law 634 = .ok (.iload 4, 2) := by decide +kernel
theorem dL_law_636 : decode cL_law 636 = .ok (.iconst 2, 1) := by decide +kernel
theorem dL_law_637 : decode cL_law 637 = .ok (.iadd, 1) := by decide +kernel
theorem dL_law_638 : decode cL_law 638 = .ok (.iaload, 1) := by decide +kernel
theorem dL_law_639 : decode cL_law 639 = .ok (.aload_n 0, 1) := by decide +kernel
theorem dL_law_640 : decode cL_law 640 = .ok (.iload 4, 2) := by decide +kernel
theorem dL_law_642 : decode cL_law 642 = .ok (.iconst 3, 1) := by decide +kernel
theorem dL_law_643 : decode cL_law 643 = .ok (.iadd, 1) := by decide +kernel
theorem dL_law_644 : decode cL_law 644 = .ok (.iaload, 1) := by decide +kernel
theorem dL_law_645 : decode cL_law 645 = .ok (.aload_n 0, 1) := by decide +kernel
theorem dL_law_646 : decode cL_law 646 = .ok (.iload 4, 2) := by decide +kernel
theorem dL_law_648 : decode cL_law 648 = .ok (.iconst 4, 1) := by decide +kernel
theorem dL_law_649 : decode cL_law 649 = .ok (.iadd, 1) := by decide +kernel
theorem dL_law_650 : decode cL_law 650 = .ok (.iaload, 1) := by decide +kernel
theorem dL_law_651 : decode cL_law 651 = .ok (.aload_n 0, 1) := by decide +kernel
theorem dL_law_652 : decode cL_law 652 = .ok (.iload 4, 2) := by decide +kernel
theorem dL_law_654 : decode cL_law 654 = .ok (.iconst 5, 1) := by decide +kernel
theorem dL_law_655 : decode cL_law 655 = .ok (.iadd, 1) := by decide +kernel
theorem dL_law_656 : decode cL_law 656 = .ok (.iaload, 1) := by decide +kernel
theorem dL_law_657 : decode cL_law 657 = .ok (.invokevirtual 95, 3) := by decide +kernel
theorem dL_law_660 : decode cL_law 660 = .ok (.aload_n 2, 1) := by decide +kernel
theorem dL_law_661 : decode cL_law 661 = .ok (.aload_n 0, 1) := by decide +kernel
theorem dL_law_662 : decode cL_law 662 = .ok (.iload 4, 2) := by decide +kernel
theorem dL_law_664 : decode cL_law 664 = .ok (.iconst 1, 1) := by decide +kernel
theorem dL_law_665 : decode cL_law 665 = .ok (.iadd, 1) := by decide +kernel
theorem dL_law_666 : decode cL_law 666 = .ok (.iaload, 1) := by decide +kernel
theorem dL_law_667 : decode cL_law 667 = .ok (.aload_n 0, 1) := by decide +kernel
theorem dL_law_668 : decode cL_law 668 = .ok (.iload 4, 2) := by decide +kernel
theorem dL_law_670 : decode cL_law 670 = .ok (.iconst 2, 1) := by decide +kernel
theorem dL_law_671 : decode cL_law 671 = .ok (.iadd, 1) := by decide +kernel
theorem dL_law_672 : decode cL_law 672 = .ok (.iaload, 1) := by decide +kernel
theorem dL_law_673 : decode cL_law 673 = .ok (.aload_n 0, 1) := by decide +kernel
theorem dL_law_674 : decode cL_law 674 = .ok (.iload 4, 2) := by decide +kernel
theorem dL_law_676 : decode cL_law 676 = .ok (.iconst 3, 1) := by decide +kernel
theorem dL_law_677 : decode cL_law 677 = .ok (.iadd, 1) := by decide +kernel
theorem dL_law_678 : decode cL_law 678 = .ok (.iaload, 1) := by decide +kernel
theorem dL_law_679 : decode cL_law 679 = .ok (.aload_n 0, 1) := by decide +kernel
theorem dL_law_680 : decode cL_law 680 = .ok (.iload 4, 2) := by decide +kernel
theorem dL_law_682 : decode cL_law 682 = .ok (.iconst 4, 1) := by decide +kernel
theorem dL_law_683 : decode cL_law 683 = .ok (.iadd, 1) := by decide +kernel
theorem dL_law_684 : decode cL_law 684 = .ok (.iaload, 1) := by decide +kernel
theorem dL_law_685 : decode cL_law 685 = .ok (.aload_n 0, 1) := by decide +kernel
theorem dL_law_686 : decode cL_law 686 = .ok (.iload 4, 2) := by decide +kernel
theorem dL_law_688 : decode cL_law 688 = .ok (.iconst 5, 1) := by decide +kernel
theorem dL_law_689 : decode cL_law 689 = .ok (.iadd, 1) := by decide +kernel
theorem dL_law_690 : decode cL_law 690 = .ok (.iaload, 1) := by decide +kernel
theorem dL_law_691 : decode cL_law 691 = .ok (.invokevirtual 99, 3) := by decide +kernel
theorem dL_law_694 : decode cL_law 694 = .ok (.if_icmp .eq 1052, 3) := by decide +kernel
theorem dL_law_697 : decode cL_law 697 = .ok (.iconst 0, 1) := by decide +kernel
theorem dL_law_698 : decode cL_law 698 = .ok (.ireturn, 1) := by decide +kernel
theorem dL_law_699 : decode cL_law 699 = .ok (.aload_n 1, 1) := by decide +kernel
theorem dL_law_700 : decode cL_law 700 = .ok (.aload_n 0, 1) := by decide +kernel
theorem dL_law_701 : decode cL_law 701 = .ok (.iload 4, 2) := by decide +kernel
theorem dL_law_703 : decode cL_law 703 = .ok (.iconst 1, 1) := by decide +kernel
theorem dL_law_704 : decode cL_law 704 = .ok (.iadd, 1) := by decide +kernel
theorem dL_law_705 : decode cL_law 705 = .ok (.iaload, 1) := by decide +kernel
theorem dL_law_706 : decode cL_law 706 = .ok (.aload_n 0, 1) := by decide +kernel
theorem dL_law_707 : decode cL_law 707 = .ok (.iload 4, 2) := by decide +kernel
theorem dL_law_709 : decode cL_law 709 = .ok (.iconst 2, 1) := by decide +kernel
theorem dL_law_710 : decode cL_law 710 = .ok (.iadd, 1) := by decide +kernel
theorem dL_law_711 : decode cL_law 711 = .ok (.iaload, 1) := by decide +kernel
theorem dL_law_712 : decode cL_law 712 = .ok (.aload_n 0, 1) := by decide +kernel
theorem dL_law_713 : decode cL_law 713 = .ok (.iload 4, 2) := by decide +kernel
theorem dL_law_715 : decode cL_law 715 = .ok (.iconst 3, 1) := by decide +kernel
theorem dL_law_716 : decode cL_law 716 = .ok (.iadd, 1) := by decide +kernel
theorem dL_law_717 : decode cL_law 717 = .ok (.iaload, 1) := by decide +kernel
theorem dL_law_718 : decode cL_law 718 = .ok (.aload_n 0, 1) := by decide +kernel
theorem dL_law_719 : decode cL_law 719 = .ok (.iload 4, 2) := by decide +kernel
theorem dL_law_721 : decode cL_law 721 = .ok (.iconst 4, 1) := by decide +kernel
theorem dL_law_722 : decode cL_law 722 = .ok (.iadd, 1) := by decide +kernel
theorem dL_law_723 : decode cL_law 723 = .ok (.iaload, 1) := by decide +kernel
theorem dL_law_724 : decode cL_law 724 = .ok (.aload_n 0, 1) := by decide +kernel
theorem dL_law_725 : decode cL_law 725 = .ok (.iload 4, 2) := by decide +kernel
theorem dL_law_727 : decode cL_law 727 = .ok (.iconst 5, 1) := by decide +kernel
theorem dL_law_728 : decode cL_law 728 = .ok (.iadd, 1) := by decide +kernel
theorem dL_law_729 : decode cL_law 729 = .ok (.iaload, 1) := by decide +kernel
theorem dL_law_730 : decode cL_law 730 = .ok (.invokevirtual 100, 3) := by decide +kernel
theorem dL_law_733 : decode cL_law 733 = .ok (.aload_n 2, 1) := by decide +kernel
theorem dL_law_734 : decode cL_law 734 = .ok (.aload_n 0, 1) := by decide +kernel
theorem dL_law_735 : decode cL_law 735 = .ok (.iload 4, 2) := by decide +kernel
theorem dL_law_737 : decode cL_law 737 = .ok (.iconst 1, 1) := by decide +kernel
theorem dL_law_738 : decode cL_law 738 = .ok (.iadd, 1) := by decide +kernel
theorem dL_law_739 : decode cL_law 739 = .ok (.iaload, 1) := by decide +kernel
theorem dL_law_740 : decode cL_law 740 = .ok (.aload_n 0, 1) := by decide +kernel
theorem dL_law_741 : decode cL_law 741 = .ok (.iload 4, 2) := by decide +kernel
theorem dL_law_743 : decode cL_law 743 = .ok (.iconst 2, 1) := by decide +kernel
theorem dL_law_744 : decode cL_law 744 = .ok (.iadd, 1) := by decide +kernel
theorem dL_law_745 : decode cL_law 745 = .ok (.iaload, 1) := by decide +kernel
theorem dL_law_746 : decode cL_law 746 = .ok (.aload_n 0, 1) := by decide +kernel
theorem dL_law_747 : decode cL_law 747 = .ok (.iload 4, 2) := by decide +kernel
theorem dL_law_749 : decode cL_law 749 = .ok (.iconst 3, 1) := by decide +kernel
theorem dL_law_750 : decode cL_law 750 = .ok (.iadd, 1) := by decide +kernel
theorem dL_law_751 : decode cL_law 751 = .ok (.iaload, 1) := by decide +kernel
theorem dL_law_752 : decode cL_law 752 = .ok (.aload_n 0, 1) := by decide +kernel
theorem dL_law_753 : decode cL_law 753 = .ok (.iload 4, 2) := by decide +kernel
theorem dL_law_755 : decode cL_law 755 = .ok (.iconst 4, 1) := by decide +kernel
theorem dL_law_756 : decode cL_law 756 = .ok (.iadd, 1) := by decide +kernel
theorem dL_law_757 : decode cL_law 757 = .ok (.iaload, 1) := by decide +kernel
theorem dL_law_758 : decode cL_law 758 = .ok (.aload_n 0, 1) := by decide +kernel
theorem dL_law_759 : decode cL_law 759 = .ok (.iload 4, 2) := by decide +kernel
theorem dL_law_761 : decode cL_law 761 = .ok (.iconst 5, 1) := by decide +kernel
theorem dL_law_762 : decode cL_law 762 = .ok (.iadd, 1) := by decide +kernel
theorem dL_law_763 : decode cL_law 763 = .ok (.iaload, 1) := by decide +kernel
theorem dL_law_764 : decode cL_law 764 = .ok (.invokevirtual 103, 3) := by decide +kernel
theorem dL_law_767 : decode cL_law 767 = .ok (.if_icmp .eq 979, 3) := by decide +kernel
theorem dL_law_770 : decode cL_law 770 = .ok (.iconst 0, 1) := by decide +kernel
theorem dL_law_771 : decode cL_law 771 = .ok (.ireturn, 1) := by decide +kernel
theorem dL_law_772 : decode cL_law 772 = .ok (.aload_n 1, 1) := by decide +kernel
theorem dL_law_773 : decode cL_law 773 = .ok (.aload_n 0, 1) := by decide +kernel
theorem dL_law_774 : decode cL_law 774 = .ok (.iload 4, 2) := by decide +kernel
theorem dL_law_776 : decode cL_law 776 = .ok (.iconst 1, 1) := by decide +kernel
theorem dL_law_777 : decode cL_law 777 = .ok (.iadd, 1) := by decide +kernel
theorem dL_law_778 : decode cL_law 778 = .ok (.iaload, 1) := by decide +kernel
theorem dL_law_779 : decode cL_law 779 = .ok (.aload_n 0, 1) := by decide +kernel
theorem dL_law_780 : decode cL_law 780 = .ok (.iload 4, 2) := by decide +kernel
theorem dL_law_782 : decode cL_law 782 = .ok (.iconst 2, 1) := by decide +kernel
theorem dL_law_783 : decode cL_law 783 = .ok (.iadd, 1) := by decide +kernel
theorem dL_law_784 : decode cL_law 784 = .ok (.iaload, 1) := by decide +kernel
theorem dL_law_785 : decode cL_law 785 = .ok (.aload_n 0, 1) := by decide +kernel
theorem dL_law_786 : decode cL_law 786 = .ok (.iload 4, 2) := by decide +kernel
theorem dL_law_788 : decode cL_law 788 = .ok (.iconst 3, 1) := by decide +kernel
theorem dL_law_789 : decode cL_law 789 = .ok (.iadd, 1) := by decide +kernel
theorem dL_law_790 : decode cL_law 790 = .ok (.iaload, 1) := by decide +kernel
theorem dL_law_791 : decode cL_law 791 = .ok (.aload_n 0, 1) := by decide +kernel
theorem dL_law_792 : decode cL_law 792 = .ok (.iload 4, 2) := by decide +kernel
theorem dL_law_794 : decode cL_law 794 = .ok (.iconst 4, 1) := by decide +kernel
theorem dL_law_795 : decode cL_law 795 = .ok (.iadd, 1) := by decide +kernel
theorem dL_law_796 : decode cL_law 796 = .ok (.iaload, 1) := by decide +kernel
theorem dL_law_797 : decode cL_law 797 = .ok (.invokevirtual 104, 3) := by decide +kernel
theorem dL_law_800 : decode cL_law 800 = .ok (.aload_n 2, 1) := by decide +kernel
theorem dL_law_801 : decode cL_law 801 = .ok (.aload_n 0, 1) := by decide +kernel
theorem dL_law_802 : decode cL_law 802 = .ok (.iload 4, 2) := by decide +kernel
theorem dL_law_804 : decode cL_law 804 = .ok (.iconst 1, 1) := by decide +kernel
theorem dL_law_805 : decode cL_law 805 = .ok (.iadd, 1) := by decide +kernel
theorem dL_law_806 : decode cL_law 806 = .ok (.iaload, 1) := by decide +kernel
theorem dL_law_807 : decode cL_law 807 = .ok (.aload_n 0, 1) := by decide +kernel
theorem dL_law_808 : decode cL_law 808 = .ok (.iload 4, 2) := by decide +kernel
theorem dL_law_810 : decode cL_law 810 = .ok (.iconst 2, 1) := by decide +kernel
theorem dL_law_811 : decode cL_law 811 = .ok (.iadd, 1) := by decide +kernel
theorem dL_law_812 : decode cL_law 812 = .ok (.iaload, 1) := by decide +kernel
theorem dL_law_813 : decode cL_law 813 = .ok (.aload_n 0, 1) := by decide +kernel
theorem dL_law_814 : decode cL_law 814 = .ok (.iload 4, 2) := by decide +kernel
theorem dL_law_816 : decode cL_law 816 = .ok (.iconst 3, 1) := by decide +kernel
theorem dL_law_817 : decode cL_law 817 = .ok (.iadd, 1) := by decide +kernel
theorem dL_law_818 : decode cL_law 818 = .ok (.iaload, 1) := by decide +kernel
theorem dL_law_819 : decode cL_law 819 = .ok (.aload_n 0, 1) := by decide +kernel
theorem dL_law_820 : decode cL_law 820 = .ok (.iload 4, 2) := by decide +kernel
theorem dL_law_822 : decode cL_law 822 = .ok (.iconst 4, 1) := by decide +kernel
theorem dL_law_823 : decode cL_law 823 = .ok (.iadd, 1) := by decide +kernel
theorem dL_law_824 : decode cL_law 824 = .ok (.iaload, 1) := by decide +kernel
theorem dL_law_825 : decode cL_law 825 = .ok (.invokevirtual 107, 3) := by decide +kernel
theorem dL_law_828 : decode cL_law 828 = .ok (.if_icmp .eq 918, 3) := by decide +kernel
theorem dL_law_831 : decode cL_law 831 = .ok (.iconst 0, 1) := by decide +kernel
theorem dL_law_832 : decode cL_law 832 = .ok (.ireturn, 1) := by decide +kernel
theorem dL_law_833 : decode cL_law 833 = .ok (.aload_n 1, 1) := by decide +kernel
theorem dL_law_834 : decode cL_law 834 = .ok (.aload_n 0, 1) := by decide +kernel
theorem dL_law_835 : decode cL_law 835 = .ok (.iload 4, 2) := by decide +kernel
theorem dL_law_837 : decode cL_law 837 = .ok (.iconst 1, 1) := by decide +kernel
theorem dL_law_838 : decode cL_law 838 = .ok (.iadd, 1) := by decide +kernel
theorem dL_law_839 : decode cL_law 839 = .ok (.iaload, 1) := by decide +kernel
theorem dL_law_840 : decode cL_law 840 = .ok (.aload_n 0, 1) := by decide +kernel
theorem dL_law_841 : decode cL_law 841 = .ok (.iload 4, 2) := by decide +kernel
theorem dL_law_843 : decode cL_law 843 = .ok (.iconst 2, 1) := by decide +kernel
theorem dL_law_844 : decode cL_law 844 = .ok (.iadd, 1) := by decide +kernel
theorem dL_law_845 : decode cL_law 845 = .ok (.iaload, 1) := by decide +kernel
theorem dL_law_846 : decode cL_law 846 = .ok (.aload_n 0, 1) := by decide +kernel
theorem dL_law_847 : decode cL_law 847 = .ok (.iload 4, 2) := by decide +kernel
theorem dL_law_849 : decode cL_law 849 = .ok (.iconst 3, 1) := by decide +kernel
theorem dL_law_850 : decode cL_law 850 = .ok (.iadd, 1) := by decide +kernel
theorem dL_law_851 : decode cL_law 851 = .ok (.iaload, 1) := by decide +kernel
theorem dL_law_852 : decode cL_law 852 = .ok (.aload_n 0, 1) := by decide +kernel
theorem dL_law_853 : decode cL_law 853 = .ok (.iload 4, 2) := by decide +kernel
theorem dL_law_855 : decode cL_law 855 = .ok (.iconst 4, 1) := by decide +kernel
theorem dL_law_856 : decode cL_law 856 = .ok (.iadd, 1) := by decide +kernel
theorem dL_law_857 : decode cL_law 857 = .ok (.iaload, 1) := by decide +kernel
theorem dL_law_858 : decode cL_law 858 = .ok (.invokevirtual 108, 3) := by decide +kernel
theorem dL_law_861 : decode cL_law 861 = .ok (.aload_n 2, 1) := by decide +kernel
theorem dL_law_862 : decode cL_law 862 = .ok (.aload_n 0, 1) := by decide +kernel
theorem dL_law_863 : decode cL_law 863 = .ok (.iload 4, 2) := by decide +kernel
theorem dL_law_865 : decode cL_law 865 = .ok (.iconst 1, 1) := by decide +kernel
theorem dL_law_866 : decode cL_law 866 = .ok (.iadd, 1) := by decide +kernel
theorem dL_law_867 : decode cL_law 867 = .ok (.iaload, 1) := by decide +kernel
theorem dL_law_868 : decode cL_law 868 = .ok (.aload_n 0, 1) := by decide +kernel
theorem dL_law_869 : decode cL_law 869 = .ok (.iload 4, 2) := by decide +kernel
theorem dL_law_871 : decode cL_law 871 = .ok (.iconst 2, 1) := by decide +kernel
theorem dL_law_872 : decode cL_law 872 = .ok (.iadd, 1) := by decide +kernel
theorem dL_law_873 : decode cL_law 873 = .ok (.iaload, 1) := by decide +kernel
theorem dL_law_874 : decode cL_law 874 = .ok (.aload_n 0, 1) := by decide +kernel
theorem dL_law_875 : decode cL_law 875 = .ok (.iload 4, 2) := by decide +kernel
theorem dL_law_877 : decode cL_law 877 = .ok (.iconst 3, 1) := by decide +kernel
theorem dL_law_878 : decode cL_law 878 = .ok (.iadd, 1) := by decide +kernel
theorem dL_law_879 : decode cL_law 879 = .ok (.iaload, 1) := by decide +kernel
theorem dL_law_880 : decode cL_law 880 = .ok (.aload_n 0, 1) := by decide +kernel
theorem dL_law_881 : decode cL_law 881 = .ok (.iload 4, 2) := by decide +kernel
theorem dL_law_883 : decode cL_law 883 = .ok (.iconst 4, 1) := by decide +kernel
theorem dL_law_884 : decode cL_law 884 = .ok (.iadd, 1) := by decide +kernel
theorem dL_law_885 : decode cL_law 885 = .ok (.iaload, 1) := by decide +kernel
theorem dL_law_886 : decode cL_law 886 = .ok (.invokevirtual 111, 3) := by decide +kernel
theorem dL_law_889 : decode cL_law 889 = .ok (.if_icmp .eq 857, 3) := by decide +kernel
theorem dL_law_892 : decode cL_law 892 = .ok (.iconst 0, 1) := by decide +kernel
theorem dL_law_893 : decode cL_law 893 = .ok (.ireturn, 1) := by decide +kernel
theorem dL_law_894 : decode cL_law 894 = .ok (.aload_n 1, 1) := by decide +kernel
theorem dL_law_895 : decode cL_law 895 = .ok (.invokevirtual 112, 3) := by decide +kernel
theorem dL_law_898 : decode cL_law 898 = .ok (.aload_n 2, 1) := by decide +kernel
theorem dL_law_899 : decode cL_law 899 = .ok (.invokevirtual 116, 3) := by decide +kernel
theorem dL_law_902 : decode cL_law 902 = .ok (.if_icmp .eq 844, 3) := by decide +kernel
theorem dL_law_905 : decode cL_law 905 = .ok (.iconst 0, 1) := by decide +kernel
theorem dL_law_906 : decode cL_law 906 = .ok (.ireturn, 1) := by decide +kernel
theorem dL_law_907 : decode cL_law 907 = .ok (.aload_n 1, 1) := by decide +kernel
theorem dL_law_908 : decode cL_law 908 = .ok (.invokevirtual 117, 3) := by decide +kernel
theorem dL_law_911 : decode cL_law 911 = .ok (.aload_n 2, 1) := by decide +kernel
theorem dL_law_912 : decode cL_law 912 = .ok (.invokevirtual 120, 3) := by decide +kernel
theorem dL_law_915 : decode cL_law 915 = .ok (.if_icmp .eq 831, 3) := by decide +kernel
theorem dL_law_918 : decode cL_law 918 = .ok (.iconst 0, 1) := by decide +kernel
theorem dL_law_919 : decode cL_law 919 = .ok (.ireturn, 1) := by decide +kernel
theorem dL_law_920 : decode cL_law 920 = .ok (.aload_n 1, 1) := by decide +kernel
theorem dL_law_921 : decode cL_law 921 = .ok (.aload_n 0, 1) := by decide +kernel
theorem dL_law_922 : decode cL_law 922 = .ok (.iload 4, 2) := by decide +kernel
theorem dL_law_924 : decode cL_law 924 = .ok (.iconst 1, 1) := by decide +kernel
theorem dL_law_925 : decode cL_law 925 = .ok (.iadd, 1) := by decide +kernel
theorem dL_law_926 : decode cL_law 926 = .ok (.iaload, 1) := by decide +kernel
theorem dL_law_927 : decode cL_law 927 = .ok (.aload_n 0, 1) := by decide +kernel
theorem dL_law_928 : decode cL_law 928 = .ok (.iload 4, 2) := by decide +kernel
theorem dL_law_930 : decode cL_law 930 = .ok (.iconst 2, 1) := by decide +kernel
theorem dL_law_931 : decode cL_law 931 = .ok (.iadd, 1) := by decide +kernel
theorem dL_law_932 : decode cL_law 932 = .ok (.iaload, 1) := by decide +kernel
theorem dL_law_933 : decode cL_law 933 = .ok (.aload_n 3, 1) := by decide +kernel
theorem dL_law_934 : decode cL_law 934 = .ok (.invokestatic 121, 3) := by decide +kernel
theorem dL_law_937 : decode cL_law 937 = .ok (.istore 5, 2) := by decide +kernel
theorem dL_law_939 : decode cL_law 939 = .ok (.aload_n 2, 1) := by decide +kernel
theorem dL_law_940 : decode cL_law 940 = .ok (.aload_n 0, 1) := by decide +kernel
theorem dL_law_941 : decode cL_law 941 = .ok (.iload 4, 2) := by decide +kernel
theorem dL_law_943 : decode cL_law 943 = .ok (.iconst 1, 1) := by decide +kernel
theorem dL_law_944 : decode cL_law 944 = .ok (.iadd, 1) := by decide +kernel
theorem dL_law_945 : decode cL_law 945 = .ok (.iaload, 1) := by decide +kernel
theorem dL_law_946 : decode cL_law 946 = .ok (.aload_n 0, 1) := by decide +kernel
theorem dL_law_947 : decode cL_law 947 = .ok (.iload 4, 2) := by decide +kernel
theorem dL_law_949 : decode cL_law 949 = .ok (.iconst 2, 1) := by decide +kernel
theorem dL_law_950 : decode cL_law 950 = .ok (.iadd, 1) := by decide +kernel
theorem dL_law_951 : decode cL_law 951 = .ok (.iaload, 1) := by decide +kernel
theorem dL_law_952 : decode cL_law 952 = .ok (.invokevirtual 126, 3) := by decide +kernel
theorem dL_law_955 : decode cL_law 955 = .ok (.istore 6, 2) := by decide +kernel
theorem dL_law_957 : decode cL_law 957 = .ok (.aload_n 2, 1) := by decide +kernel
theorem dL_law_958 : decode cL_law 958 = .ok (.invokevirtual 127, 3) := by decide +kernel
theorem dL_law_961 : decode cL_law 961 = .ok (.iload 5, 2) := by decide +kernel
theorem dL_law_963 : decode cL_law 963 = .ok (.if_icmp .eq 5, 3) := by decide +kernel
theorem dL_law_966 : decode cL_law 966 = .ok (.iconst 0, 1) := by decide +kernel
theorem dL_law_967 : decode cL_law 967 = .ok (.ireturn, 1) := by decide +kernel
theorem dL_law_968 : decode cL_law 968 = .ok (.iload 5, 2) := by decide +kernel
theorem dL_law_970 : decode cL_law 970 = .ok (.ifCond .ne 15, 3) := by decide +kernel
theorem dL_law_973 : decode cL_law 973 = .ok (.aload_n 3, 1) := by decide +kernel
theorem dL_law_974 : decode cL_law 974 = .ok (.iconst 0, 1) := by decide +kernel
theorem dL_law_975 : decode cL_law 975 = .ok (.laload, 1) := by decide +kernel
theorem dL_law_976 : decode cL_law 976 = .ok (.iload 6, 2) := by decide +kernel
theorem dL_law_978 : decode cL_law 978 = .ok (.i2l, 1) := by decide +kernel
theorem dL_law_979 : decode cL_law 979 = .ok (.lcmp, 1) := by decide +kernel
theorem dL_law_980 : decode cL_law 980 = .ok (.ifCond .eq 5, 3) := by decide +kernel
theorem dL_law_983 : decode cL_law 983 = .ok (.iconst 0, 1) := by decide +kernel
theorem dL_law_984 : decode cL_law 984 = .ok (.ireturn, 1) := by decide +kernel
theorem dL_law_985 : decode cL_law 985 = .ok (.goto 761, 3) := by decide +kernel
theorem dL_law_988 : decode cL_law 988 = .ok (.aload_n 1, 1) := by decide +kernel
theorem dL_law_989 : decode cL_law 989 = .ok (.aload_n 0, 1) := by decide +kernel
theorem dL_law_990 : decode cL_law 990 = .ok (.iload 4, 2) := by decide +kernel
theorem dL_law_992 : decode cL_law 992 = .ok (.iconst 1, 1) := by decide +kernel
theorem dL_law_993 : decode cL_law 993 = .ok (.iadd, 1) := by decide +kernel
theorem dL_law_994 : decode cL_law 994 = .ok (.iaload, 1) := by decide +kernel
theorem dL_law_995 : decode cL_law 995 = .ok (.aload_n 0, 1) := by decide +kernel
theorem dL_law_996 : decode cL_law 996 = .ok (.iload 4, 2) := by decide +kernel
theorem dL_law_998 : decode cL_law 998 = .ok (.iconst 2, 1) := by decide +kernel
theorem dL_law_999 : decode cL_law 999 = .ok (.iadd, 1) := by decide +kernel
theorem dL_law_1000 : decode cL_law 1000 = .ok (.iaload, 1) := by decide +kernel
theorem dL_law_1001 : decode cL_law 1001 = .ok (.aload_n 0, 1) := by decide +kernel
theorem dL_law_1002 : decode cL_law 1002 = .ok (.iload 4, 2) := by decide +kernel
theorem dL_law_1004 : decode cL_law 1004 = .ok (.iconst 3, 1) := by decide +kernel
theorem dL_law_1005 : decode cL_law 1005 = .ok (.iadd, 1) := by decide +kernel
theorem dL_law_1006 : decode cL_law 1006 = .ok (.iaload, 1) := by decide +kernel
theorem dL_law_1007 : decode cL_law 1007 = .ok (.aload_n 3, 1) := by decide +kernel
theorem dL_law_1008 : decode cL_law 1008 = .ok (.invokestatic 130, 3) := by decide +kernel
theorem dL_law_1011 : decode cL_law 1011 = .ok (.istore 5, 2) := by decide +kernel
theorem dL_law_1013 : decode cL_law 1013 = .ok (.aload_n 2, 1) := by decide +kernel
theorem dL_law_1014 : decode cL_law 1014 = .ok (.aload_n 0, 1) := by decide +kernel
theorem dL_law_1015 : decode cL_law 1015 = .ok (.iload 4, 2) := by decide +kernel
theorem dL_law_1017 : decode cL_law 1017 = .ok (.iconst 1, 1) := by decide +kernel
theorem dL_law_1018 : decode cL_law 1018 = .ok (.iadd, 1) := by decide +kernel
theorem dL_law_1019 : decode cL_law 1019 = .ok (.iaload, 1) := by decide +kernel
theorem dL_law_1020 : decode cL_law 1020 = .ok (.aload_n 0, 1) := by decide +kernel
theorem dL_law_1021 : decode cL_law 1021 = .ok (.iload 4, 2) := by decide +kernel
theorem dL_law_1023 : decode cL_law 1023 = .ok (.iconst 2, 1) := by decide +kernel
theorem dL_law_1024 : decode cL_law 1024 = .ok (.iadd, 1) := by decide +kernel
theorem dL_law_1025 : decode cL_law 1025 = .ok (.iaload, 1) := by decide +kernel
theorem dL_law_1026 : decode cL_law 1026 = .ok (.aload_n 0, 1) := by decide +kernel
theorem dL_law_1027 : decode cL_law 1027 = .ok (.iload 4, 2) := by decide +kernel
theorem dL_law_1029 : decode cL_law 1029 = .ok (.iconst 3, 1) := by decide +kernel
theorem dL_law_1030 : decode cL_law 1030 = .ok (.iadd, 1) := by decide +kernel
theorem dL_law_1031 : decode cL_law 1031 = .ok (.iaload, 1) := by decide +kernel
theorem dL_law_1032 : decode cL_law 1032 = .ok (.invokevirtual 133, 3) := by decide +kernel
theorem dL_law_1035 : decode cL_law 1035 = .ok (.istore 6, 2) := by decide +kernel
theorem dL_law_1037 : decode cL_law 1037 = .ok (.aload_n 2, 1) := by decide +kernel
theorem dL_law_1038 : decode cL_law 1038 = .ok (.invokevirtual 127, 3) := by decide +kernel
theorem dL_law_1041 : decode cL_law 1041 = .ok (.iload 5, 2) := by decide +kernel
theorem dL_law_1043 : decode cL_law 1043 = .ok (.if_icmp .eq 5, 3) := by decide +kernel
theorem dL_law_1046 : decode cL_law 1046 = .ok (.iconst 0, 1) := by decide +kernel
theorem dL_law_1047 : decode cL_law 1047 = .ok (.ireturn, 1) := by decide +kernel
theorem dL_law_1048 : decode cL_law 1048 = .ok (.iload 5, 2) := by decide +kernel
theorem dL_law_1050 : decode cL_law 1050 = .ok (.ifCond .ne 15, 3) := by decide +kernel
theorem dL_law_1053 : decode cL_law 1053 = .ok (.aload_n 3, 1) := by decide +kernel
theorem dL_law_1054 : decode cL_law 1054 = .ok (.iconst 0, 1) := by decide +kernel
theorem dL_law_1055 : decode cL_law 1055 = .ok (.laload, 1) := by decide +kernel
theorem dL_law_1056 : decode cL_law 1056 = .ok (.iload 6, 2) := by decide +kernel
theorem dL_law_1058 : decode cL_law 1058 = .ok (.i2l, 1) := by decide +kernel
theorem dL_law_1059 : decode cL_law 1059 = .ok (.lcmp, 1) := by decide +kernel
theorem dL_law_1060 : decode cL_law 1060 = .ok (.ifCond .eq 5, 3) := by decide +kernel
theorem dL_law_1063 : decode cL_law 1063 = .ok (.iconst 0, 1) := by decide +kernel
theorem dL_law_1064 : decode cL_law 1064 = .ok (.ireturn, 1) := by decide +kernel
theorem dL_law_1065 : decode cL_law 1065 = .ok (.goto 681, 3) := by decide +kernel
theorem dL_law_1068 : decode cL_law 1068 = .ok (.aload_n 1, 1) := by decide +kernel
theorem dL_law_1069 : decode cL_law 1069 = .ok (.aload_n 0, 1) := by decide +kernel
theorem dL_law_1070 : decode cL_law 1070 = .ok (.iload 4, 2) := by decide +kernel
theorem dL_law_1072 : decode cL_law 1072 = .ok (.iconst 1, 1) := by decide +kernel
theorem dL_law_1073 : decode cL_law 1073 = .ok (.iadd, 1) := by decide +kernel
theorem dL_law_1074 : decode cL_law 1074 = .ok (.iaload, 1) := by decide +kernel
theorem dL_law_1075 : decode cL_law 1075 = .ok (.aload_n 0, 1) := by decide +kernel
theorem dL_law_1076 : decode cL_law 1076 = .ok (.iload 4, 2) := by decide +kernel
theorem dL_law_1078 : decode cL_law 1078 = .ok (.iconst 2, 1) := by decide +kernel
theorem dL_law_1079 : decode cL_law 1079 = .ok (.iadd, 1) := by decide +kernel
theorem dL_law_1080 : decode cL_law 1080 = .ok (.iaload, 1) := by decide +kernel
theorem dL_law_1081 : decode cL_law 1081 = .ok (.aload_n 0, 1) := by decide +kernel
theorem dL_law_1082 : decode cL_law 1082 = .ok (.iload 4, 2) := by decide +kernel
theorem dL_law_1084 : decode cL_law 1084 = .ok (.iconst 3, 1) := by decide +kernel
theorem dL_law_1085 : decode cL_law 1085 = .ok (.iadd, 1) := by decide +kernel
theorem dL_law_1086 : decode cL_law 1086 = .ok (.iaload, 1) := by decide +kernel
theorem dL_law_1087 : decode cL_law 1087 = .ok (.aload_n 0, 1) := by decide +kernel
theorem dL_law_1088 : decode cL_law 1088 = .ok (.iload 4, 2) := by decide +kernel
theorem dL_law_1090 : decode cL_law 1090 = .ok (.iconst 4, 1) := by decide +kernel
theorem dL_law_1091 : decode cL_law 1091 = .ok (.iadd, 1) := by decide +kernel
theorem dL_law_1092 : decode cL_law 1092 = .ok (.iaload, 1) := by decide +kernel
theorem dL_law_1093 : decode cL_law 1093 = .ok (.aload_n 3, 1) := by decide +kernel
theorem dL_law_1094 : decode cL_law 1094 = .ok (.invokestatic 134, 3) := by decide +kernel
theorem dL_law_1097 : decode cL_law 1097 = .ok (.istore 5, 2) := by decide +kernel
theorem dL_law_1099 : decode cL_law 1099 = .ok (.aload_n 2, 1) := by decide +kernel
theorem dL_law_1100 : decode cL_law 1100 = .ok (.aload_n 0, 1) := by decide +kernel
theorem dL_law_1101 : decode cL_law 1101 = .ok (.iload 4, 2) := by decide +kernel
theorem dL_law_1103 : decode cL_law 1103 = .ok (.iconst 1, 1) := by decide +kernel
theorem dL_law_1104 : decode cL_law 1104 = .ok (.iadd, 1) := by decide +kernel
theorem dL_law_1105 : decode cL_law 1105 = .ok (.iaload, 1) := by decide +kernel
theorem dL_law_1106 : decode cL_law 1106 = .ok (.aload_n 0, 1) := by decide +kernel
theorem dL_law_1107 : decode cL_law 1107 = .ok (.iload 4, 2) := by decide +kernel
theorem dL_law_1109 : decode cL_law 1109 = .ok (.iconst 2, 1) := by decide +kernel
theorem dL_law_1110 : decode cL_law 1110 = .ok (.iadd, 1) := by decide +kernel
theorem dL_law_1111 : decode cL_law 1111 = .ok (.iaload, 1) := by decide +kernel
theorem dL_law_1112 : decode cL_law 1112 = .ok (.aload_n 0, 1) := by decide +kernel
theorem dL_law_1113 : decode cL_law 1113 = .ok (.iload 4, 2) := by decide +kernel
theorem dL_law_1115 : decode cL_law 1115 = .ok (.iconst 3, 1) := by decide +kernel
theorem dL_law_1116 : decode cL_law 1116 = .ok (.iadd, 1) := by decide +kernel
theorem dL_law_1117 : decode cL_law 1117 = .ok (.iaload, 1) := by decide +kernel
theorem dL_law_1118 : decode cL_law 1118 = .ok (.aload_n 0, 1) := by decide +kernel
theorem dL_law_1119 : decode cL_law 1119 = .ok (.iload 4, 2) := by decide +kernel
theorem dL_law_1121 : decode cL_law 1121 = .ok (.iconst 4, 1) := by decide +kernel
theorem dL_law_1122 : decode cL_law 1122 = .ok (.iadd, 1) := by decide +kernel
theorem dL_law_1123 : decode cL_law 1123 = .ok (.iaload, 1) := by decide +kernel
theorem dL_law_1124 : decode cL_law 1124 = .ok (.invokevirtual 137, 3) := by decide +kernel
theorem dL_law_1127 : decode cL_law 1127 = .ok (.istore 6, 2) := by decide +kernel
theorem dL_law_1129 : decode cL_law 1129 = .ok (.aload_n 2, 1) := by decide +kernel
theorem dL_law_1130 : decode cL_law 1130 = .ok (.invokevirtual 127, 3) := by decide +kernel
theorem dL_law_1133 : decode cL_law 1133 = .ok (.iload 5, 2) := by decide +kernel
theorem dL_law_1135 : decode cL_law 1135 = .ok (.if_icmp .eq 5, 3) := by decide +kernel
theorem dL_law_1138 : decode cL_law 1138 = .ok (.iconst 0, 1) := by decide +kernel
theorem dL_law_1139 : decode cL_law 1139 = .ok (.ireturn, 1) := by decide +kernel
theorem dL_law_1140 : decode cL_law 1140 = .ok (.iload 5, 2) := by decide +kernel
theorem dL_law_1142 : decode cL_law 1142 = .ok (.ifCond .ne 15, 3) := by decide +kernel
theorem dL_law_1145 : decode cL_law 1145 = .ok (.aload_n 3, 1) := by decide +kernel
theorem dL_law_1146 : decode cL_law 1146 = .ok (.iconst 0, 1) := by decide +kernel
theorem dL_law_1147 : decode cL_law 1147 = .ok (.laload, 1) := by decide +kernel
theorem dL_law_1148 : decode cL_law 1148 = .ok (.iload 6, 2) := by decide +kernel
theorem dL_law_1150 : decode cL_law 1150 = .ok (.i2l, 1) := by decide +kernel
theorem dL_law_1151 : decode cL_law 1151 = .ok (.lcmp, 1) := by decide +kernel
theorem dL_law_1152 : decode cL_law 1152 = .ok (.ifCond .eq 5, 3) := by decide +kernel
theorem dL_law_1155 : decode cL_law 1155 = .ok (.iconst 0, 1) := by decide +kernel
theorem dL_law_1156 : decode cL_law 1156 = .ok (.ireturn, 1) := by decide +kernel
theorem dL_law_1157 : decode cL_law 1157 = .ok (.goto 589, 3) := by decide +kernel
theorem dL_law_1160 : decode cL_law 1160 = .ok (.aload_n 1, 1) := by decide +kernel
theorem dL_law_1161 : decode cL_law 1161 = .ok (.aload_n 0, 1) := by decide +kernel
theorem dL_law_1162 : decode cL_law 1162 = .ok (.iload 4, 2) := by decide +kernel
theorem dL_law_1164 : decode cL_law 1164 = .ok (.iconst 1, 1) := by decide +kernel
theorem dL_law_1165 : decode cL_law 1165 = .ok (.iadd, 1) := by decide +kernel
theorem dL_law_1166 : decode cL_law 1166 = .ok (.iaload, 1) := by decide +kernel
theorem dL_law_1167 : decode cL_law 1167 = .ok (.aload_n 0, 1) := by decide +kernel
theorem dL_law_1168 : decode cL_law 1168 = .ok (.iload 4, 2) := by decide +kernel
theorem dL_law_1170 : decode cL_law 1170 = .ok (.iconst 2, 1) := by decide +kernel
theorem dL_law_1171 : decode cL_law 1171 = .ok (.iadd, 1) := by decide +kernel
theorem dL_law_1172 : decode cL_law 1172 = .ok (.iaload, 1) := by decide +kernel
theorem dL_law_1173 : decode cL_law 1173 = .ok (.aload_n 0, 1) := by decide +kernel
theorem dL_law_1174 : decode cL_law 1174 = .ok (.iload 4, 2) := by decide +kernel
theorem dL_law_1176 : decode cL_law 1176 = .ok (.iconst 3, 1) := by decide +kernel
theorem dL_law_1177 : decode cL_law 1177 = .ok (.iadd, 1) := by decide +kernel
theorem dL_law_1178 : decode cL_law 1178 = .ok (.iaload, 1) := by decide +kernel
theorem dL_law_1179 : decode cL_law 1179 = .ok (.aload_n 0, 1) := by decide +kernel
theorem dL_law_1180 : decode cL_law 1180 = .ok (.iload 4, 2) := by decide +kernel
theorem dL_law_1182 : decode cL_law 1182 = .ok (.iconst 4, 1) := by decide +kernel
theorem dL_law_1183 : decode cL_law 1183 = .ok (.iadd, 1) := by decide +kernel
theorem dL_law_1184 : decode cL_law 1184 = .ok (.iaload, 1) := by decide +kernel
theorem dL_law_1185 : decode cL_law 1185 = .ok (.aload_n 3, 1) := by decide +kernel
theorem dL_law_1186 : decode cL_law 1186 = .ok (.invokestatic 138, 3) := by decide +kernel
theorem dL_law_1189 : decode cL_law 1189 = .ok (.istore 5, 2) := by decide +kernel
theorem dL_law_1191 : decode cL_law 1191 = .ok (.aload_n 2, 1) := by decide +kernel
theorem dL_law_1192 : decode cL_law 1192 = .ok (.aload_n 0, 1) := by decide +kernel
theorem dL_law_1193 : decode cL_law 1193 = .ok (.iload 4, 2) := by decide +kernel
theorem dL_law_1195 : decode cL_law 1195 = .ok (.iconst 1, 1) := by decide +kernel
theorem dL_law_1196 : decode cL_law 1196 = .ok (.iadd, 1) := by decide +kernel
theorem dL_law_1197 : decode cL_law 1197 = .ok (.iaload, 1) := by decide +kernel
theorem dL_law_1198 : decode cL_law 1198 = .ok (.aload_n 0, 1) := by decide +kernel
theorem dL_law_1199 : decode cL_law 1199 = .ok (.iload 4, 2) := by decide +kernel
theorem dL_law_1201 : decode cL_law 1201 = .ok (.iconst 2, 1) := by decide +kernel
theorem dL_law_1202 : decode cL_law 1202 = .ok (.iadd, 1) := by decide +kernel
theorem dL_law_1203 : decode cL_law 1203 = .ok (.iaload, 1) := by decide +kernel
theorem dL_law_1204 : decode cL_law 1204 = .ok (.aload_n 0, 1) := by decide +kernel
theorem dL_law_1205 : decode cL_law 1205 = .ok (.iload 4, 2) := by decide +kernel
theorem dL_law_1207 : decode cL_law 1207 = .ok (.iconst 3, 1) := by decide +kernel
theorem dL_law_1208 : decode cL_law 1208 = .ok (.iadd, 1) := by decide +kernel
theorem dL_law_1209 : decode cL_law 1209 = .ok (.iaload, 1) := by decide +kernel
theorem dL_law_1210 : decode cL_law 1210 = .ok (.aload_n 0, 1) := by decide +kernel
theorem dL_law_1211 : decode cL_law 1211 = .ok (.iload 4, 2) := by decide +kernel
theorem dL_law_1213 : decode cL_law 1213 = .ok (.iconst 4, 1) := by decide +kernel
theorem dL_law_1214 : decode cL_law 1214 = .ok (.iadd, 1) := by decide +kernel
theorem dL_law_1215 : decode cL_law 1215 = .ok (.iaload, 1) := by decide +kernel
theorem dL_law_1216 : decode cL_law 1216 = .ok (.invokevirtual 140, 3) := by decide +kernel
theorem dL_law_1219 : decode cL_law 1219 = .ok (.istore 6, 2) := by decide +kernel
theorem dL_law_1221 : decode cL_law 1221 = .ok (.aload_n 2, 1) := by decide +kernel
theorem dL_law_1222 : decode cL_law 1222 = .ok (.invokevirtual 127, 3) := by decide +kernel
theorem dL_law_1225 : decode cL_law 1225 = .ok (.iload 5, 2) := by decide +kernel
theorem dL_law_1227 : decode cL_law 1227 = .ok (.if_icmp .eq 5, 3) := by decide +kernel
theorem dL_law_1230 : decode cL_law 1230 = .ok (.iconst 0, 1) := by decide +kernel
theorem dL_law_1231 : decode cL_law 1231 = .ok (.ireturn, 1) := by decide +kernel
theorem dL_law_1232 : decode cL_law 1232 = .ok (.iload 5, 2) := by decide +kernel
theorem dL_law_1234 : decode cL_law 1234 = .ok (.ifCond .ne 15, 3) := by decide +kernel
theorem dL_law_1237 : decode cL_law 1237 = .ok (.aload_n 3, 1) := by decide +kernel
theorem dL_law_1238 : decode cL_law 1238 = .ok (.iconst 0, 1) := by decide +kernel
theorem dL_law_1239 : decode cL_law 1239 = .ok (.laload, 1) := by decide +kernel
theorem dL_law_1240 : decode cL_law 1240 = .ok (.iload 6, 2) := by decide +kernel
theorem dL_law_1242 : decode cL_law 1242 = .ok (.i2l, 1) := by decide +kernel
theorem dL_law_1243 : decode cL_law 1243 = .ok (.lcmp, 1) := by decide +kernel
theorem dL_law_1244 : decode cL_law 1244 = .ok (.ifCond .eq 5, 3) := by decide +kernel
theorem dL_law_1247 : decode cL_law 1247 = .ok (.iconst 0, 1) := by decide +kernel
theorem dL_law_1248 : decode cL_law 1248 = .ok (.ireturn, 1) := by decide +kernel
theorem dL_law_1249 : decode cL_law 1249 = .ok (.goto 497, 3) := by decide +kernel
theorem dL_law_1252 : decode cL_law 1252 = .ok (.aload_n 1, 1) := by decide +kernel
theorem dL_law_1253 : decode cL_law 1253 = .ok (.aload_n 0, 1) := by decide +kernel
theorem dL_law_1254 : decode cL_law 1254 = .ok (.iload 4, 2) := by decide +kernel
theorem dL_law_1256 : decode cL_law 1256 = .ok (.iconst 1, 1) := by decide +kernel
theorem dL_law_1257 : decode cL_law 1257 = .ok (.iadd, 1) := by decide +kernel
theorem dL_law_1258 : decode cL_law 1258 = .ok (.iaload, 1) := by decide +kernel
theorem dL_law_1259 : decode cL_law 1259 = .ok (.aload_n 0, 1) := by decide +kernel
theorem dL_law_1260 : decode cL_law 1260 = .ok (.iload 4, 2) := by decide +kernel
theorem dL_law_1262 : decode cL_law 1262 = .ok (.iconst 2, 1) := by decide +kernel
theorem dL_law_1263 : decode cL_law 1263 = .ok (.iadd, 1) := by decide +kernel
theorem dL_law_1264 : decode cL_law 1264 = .ok (.iaload, 1) := by decide +kernel
theorem dL_law_1265 : decode cL_law 1265 = .ok (.aload_n 0, 1) := by decide +kernel
theorem dL_law_1266 : decode cL_law 1266 = .ok (.iload 4, 2) := by decide +kernel
theorem dL_law_1268 : decode cL_law 1268 = .ok (.iconst 3, 1) := by decide +kernel
theorem dL_law_1269 : decode cL_law 1269 = .ok (.iadd, 1) := by decide +kernel
theorem dL_law_1270 : decode cL_law 1270 = .ok (.iaload, 1) := by decide +kernel
theorem dL_law_1271 : decode cL_law 1271 = .ok (.aload_n 0, 1) := by decide +kernel
theorem dL_law_1272 : decode cL_law 1272 = .ok (.iload 4, 2) := by decide +kernel
theorem dL_law_1274 : decode cL_law 1274 = .ok (.iconst 4, 1) := by decide +kernel
theorem dL_law_1275 : decode cL_law 1275 = .ok (.iadd, 1) := by decide +kernel
theorem dL_law_1276 : decode cL_law 1276 = .ok (.iaload, 1) := by decide +kernel
theorem dL_law_1277 : decode cL_law 1277 = .ok (.aload_n 3, 1) := by decide +kernel
theorem dL_law_1278 : decode cL_law 1278 = .ok (.invokestatic 141, 3) := by decide +kernel
theorem dL_law_1281 : decode cL_law 1281 = .ok (.istore 5, 2) := by decide +kernel
theorem dL_law_1283 : decode cL_law 1283 = .ok (.aload_n 2, 1) := by decide +kernel
theorem dL_law_1284 : decode cL_law 1284 = .ok (.aload_n 0, 1) := by decide +kernel
theorem dL_law_1285 : decode cL_law 1285 = .ok (.iload 4, 2) := by decide +kernel
theorem dL_law_1287 : decode cL_law 1287 = .ok (.iconst 1, 1) := by decide +kernel
theorem dL_law_1288 : decode cL_law 1288 = .ok (.iadd, 1) := by decide +kernel
theorem dL_law_1289 : decode cL_law 1289 = .ok (.iaload, 1) := by decide +kernel
theorem dL_law_1290 : decode cL_law 1290 = .ok (.aload_n 0, 1) := by decide +kernel
theorem dL_law_1291 : decode cL_law 1291 = .ok (.iload 4, 2) := by decide +kernel
theorem dL_law_1293 : decode cL_law 1293 = .ok (.iconst 2, 1) := by decide +kernel
theorem dL_law_1294 : decode cL_law 1294 = .ok (.iadd, 1) := by decide +kernel
theorem dL_law_1295 : decode cL_law 1295 = .ok (.iaload, 1) := by decide +kernel
theorem dL_law_1296 : decode cL_law 1296 = .ok (.aload_n 0, 1) := by decide +kernel
theorem dL_law_1297 : decode cL_law 1297 = .ok (.iload 4, 2) := by decide +kernel
theorem dL_law_1299 : decode cL_law 1299 = .ok (.iconst 3, 1) := by decide +kernel
theorem dL_law_1300 : decode cL_law 1300 = .ok (.iadd, 1) := by decide +kernel
theorem dL_law_1301 : decode cL_law 1301 = .ok (.iaload, 1) := by decide +kernel
theorem dL_law_1302 : decode cL_law 1302 = .ok (.aload_n 0, 1) := by decide +kernel
theorem dL_law_1303 : decode cL_law 1303 = .ok (.iload 4, 2) := by decide +kernel
theorem dL_law_1305 : decode cL_law 1305 = .ok (.iconst 4, 1) := by decide +kernel
theorem dL_law_1306 : decode cL_law 1306 = .ok (.iadd, 1) := by decide +kernel
theorem dL_law_1307 : decode cL_law 1307 = .ok (.iaload, 1) := by decide +kernel
theorem dL_law_1308 : decode cL_law 1308 = .ok (.invokevirtual 143, 3) := by decide +kernel
theorem dL_law_1311 : decode cL_law 1311 = .ok (.istore 6, 2) := by decide +kernel
theorem dL_law_1313 : decode cL_law 1313 = .ok (.aload_n 2, 1) := by decide +kernel
theorem dL_law_1314 : decode cL_law 1314 = .ok (.invokevirtual 127, 3) := by decide +kernel
theorem dL_law_1317 : decode cL_law 1317 = .ok (.iload 5, 2) := by decide +kernel
theorem dL_law_1319 : decode cL_law 1319 = .ok (.if_icmp .eq 5, 3) := by decide +kernel
theorem dL_law_1322 : decode cL_law 1322 = .ok (.iconst 0, 1) := by decide +kernel
theorem dL_law_1323 : decode cL_law 1323 = .ok (.ireturn, 1) := by decide +kernel
theorem dL_law_1324 : decode cL_law 1324 = .ok (.iload 5, 2) := by decide +kernel
theorem dL_law_1326 : decode cL_law 1326 = .ok (.ifCond .ne 15, 3) := by decide +kernel
theorem dL_law_1329 : decode cL_law 1329 = .ok (.aload_n 3, 1) := by decide +kernel
theorem dL_law_1330 : decode cL_law 1330 = .ok (.iconst 0, 1) := by decide +kernel
theorem dL_law_1331 : decode cL_law 1331 = .ok (.laload, 1) := by decide +kernel
theorem dL_law_1332 : decode cL_law 1332 = .ok (.iload 6, 2) := by decide +kernel
theorem dL_law_1334 : decode cL_law 1334 = .ok (.i2l, 1) := by decide +kernel
theorem dL_law_1335 : decode cL_law 1335 = .ok (.lcmp, 1) := by decide +kernel
theorem dL_law_1336 : decode cL_law 1336 = .ok (.ifCond .eq 5, 3) := by decide +kernel
theorem dL_law_1339 : decode cL_law 1339 = .ok (.iconst 0, 1) := by decide +kernel
theorem dL_law_1340 : decode cL_law 1340 = .ok (.ireturn, 1) := by decide +kernel
theorem dL_law_1341 : decode cL_law 1341 = .ok (.goto 405, 3) := by decide +kernel
theorem dL_law_1344 : decode cL_law 1344 = .ok (.aload_n 1, 1) := by decide +kernel
theorem dL_law_1345 : decode cL_law 1345 = .ok (.aload_n 0, 1) := by decide +kernel
theorem dL_law_1346 : decode cL_law 1346 = .ok (.iload 4, 2) := by decide +kernel
theorem dL_law_1348 : decode cL_law 1348 = .ok (.iconst 1, 1) := by decide +kernel
theorem dL_law_1349 : decode cL_law 1349 = .ok (.iadd, 1) := by decide +kernel
theorem dL_law_1350 : decode cL_law 1350 = .ok (.iaload, 1) := by decide +kernel
theorem dL_law_1351 : decode cL_law 1351 = .ok (.aload_n 0, 1) := by decide +kernel
theorem dL_law_1352 : decode cL_law 1352 = .ok (.iload 4, 2) := by decide +kernel
theorem dL_law_1354 : decode cL_law 1354 = .ok (.iconst 2, 1) := by decide +kernel
theorem dL_law_1355 : decode cL_law 1355 = .ok (.iadd, 1) := by decide +kernel
theorem dL_law_1356 : decode cL_law 1356 = .ok (.iaload, 1) := by decide +kernel
theorem dL_law_1357 : decode cL_law 1357 = .ok (.aload_n 0, 1) := by decide +kernel
theorem dL_law_1358 : decode cL_law 1358 = .ok (.iload 4, 2) := by decide +kernel
theorem dL_law_1360 : decode cL_law 1360 = .ok (.iconst 3, 1) := by decide +kernel
theorem dL_law_1361 : decode cL_law 1361 = .ok (.iadd, 1) := by decide +kernel
theorem dL_law_1362 : decode cL_law 1362 = .ok (.iaload, 1) := by decide +kernel
theorem dL_law_1363 : decode cL_law 1363 = .ok (.aload_n 0, 1) := by decide +kernel
theorem dL_law_1364 : decode cL_law 1364 = .ok (.iload 4, 2) := by decide +kernel
theorem dL_law_1366 : decode cL_law 1366 = .ok (.iconst 4, 1) := by decide +kernel
theorem dL_law_1367 : decode cL_law 1367 = .ok (.iadd, 1) := by decide +kernel
theorem dL_law_1368 : decode cL_law 1368 = .ok (.iaload, 1) := by decide +kernel
theorem dL_law_1369 : decode cL_law 1369 = .ok (.aload_n 3, 1) := by decide +kernel
theorem dL_law_1370 : decode cL_law 1370 = .ok (.invokestatic 144, 3) := by decide +kernel
theorem dL_law_1373 : decode cL_law 1373 = .ok (.istore 5, 2) := by decide +kernel
theorem dL_law_1375 : decode cL_law 1375 = .ok (.aload_n 2, 1) := by decide +kernel
theorem dL_law_1376 : decode cL_law 1376 = .ok (.aload_n 0, 1) := by decide +kernel
theorem dL_law_1377 : decode cL_law 1377 = .ok (.iload 4, 2) := by decide +kernel
theorem dL_law_1379 : decode cL_law 1379 = .ok (.iconst 1, 1) := by decide +kernel
theorem dL_law_1380 : decode cL_law 1380 = .ok (.iadd, 1) := by decide +kernel
theorem dL_law_1381 : decode cL_law 1381 = .ok (.iaload, 1) := by decide +kernel
theorem dL_law_1382 : decode cL_law 1382 = .ok (.aload_n 0, 1) := by decide +kernel
theorem dL_law_1383 : decode cL_law 1383 = .ok (.iload 4, 2) := by decide +kernel
theorem dL_law_1385 : decode cL_law 1385 = .ok (.iconst 2, 1) := by decide +kernel
theorem dL_law_1386 : decode cL_law 1386 = .ok (.iadd, 1) := by decide +kernel
theorem dL_law_1387 : decode cL_law 1387 = .ok (.iaload, 1) := by decide +kernel
theorem dL_law_1388 : decode cL_law 1388 = .ok (.aload_n 0, 1) := by decide +kernel
theorem dL_law_1389 : decode cL_law 1389 = .ok (.iload 4, 2) := by decide +kernel
theorem dL_law_1391 : decode cL_law 1391 = .ok (.iconst 3, 1) := by decide +kernel
theorem dL_law_1392 : decode cL_law 1392 = .ok (.iadd, 1) := by decide +kernel
theorem dL_law_1393 : decode cL_law 1393 = .ok (.iaload, 1) := by decide +kernel
theorem dL_law_1394 : decode cL_law 1394 = .ok (.aload_n 0, 1) := by decide +kernel
theorem dL_law_1395 : decode cL_law 1395 = .ok (.iload 4, 2) := by decide +kernel
theorem dL_law_1397 : decode cL_law 1397 = .ok (.iconst 4, 1) := by decide +kernel
theorem dL_law_1398 : decode cL_law 1398 = .ok (.iadd, 1) := by decide +kernel
theorem dL_law_1399 : decode cL_law 1399 = .ok (.iaload, 1) := by decide +kernel
theorem dL_law_1400 : decode cL_law 1400 = .ok (.invokevirtual 146, 3) := by decide +kernel
theorem dL_law_1403 : decode cL_law 1403 = .ok (.istore 6, 2) := by decide +kernel
theorem dL_law_1405 : decode cL_law 1405 = .ok (.aload_n 2, 1) := by decide +kernel
theorem dL_law_1406 : decode cL_law 1406 = .ok (.invokevirtual 127, 3) := by decide +kernel
theorem dL_law_1409 : decode cL_law 1409 = .ok (.iload 5, 2) := by decide +kernel
theorem dL_law_1411 : decode cL_law 1411 = .ok (.if_icmp .eq 5, 3) := by decide +kernel
theorem dL_law_1414 : decode cL_law 1414 = .ok (.iconst 0, 1) := by decide +kernel
theorem dL_law_1415 : decode cL_law 1415 = .ok (.ireturn, 1) := by decide +kernel
theorem dL_law_1416 : decode cL_law 1416 = .ok (.iload 5, 2) := by decide +kernel
theorem dL_law_1418 : decode cL_law 1418 = .ok (.ifCond .ne 15, 3) := by decide +kernel
theorem dL_law_1421 : decode cL_law 1421 = .ok (.aload_n 3, 1) := by decide +kernel
theorem dL_law_1422 : decode cL_law 1422 = .ok (.iconst 0, 1) := by decide +kernel
theorem dL_law_1423 : decode cL_law 1423 = .ok (.laload, 1) := by decide +kernel
theorem dL_law_1424 : decode cL_law 1424 = .ok (.iload 6, 2) := by decide +kernel
theorem dL_law_1426 : decode cL_law 1426 = .ok (.i2l, 1) := by decide +kernel
theorem dL_law_1427 : decode cL_law 1427 = .ok (.lcmp, 1) := by decide +kernel
theorem dL_law_1428 : decode cL_law 1428 = .ok (.ifCond .eq 5, 3) := by decide +kernel
theorem dL_law_1431 : decode cL_law 1431 = .ok (.iconst 0, 1) := by decide +kernel
theorem dL_law_1432 : decode cL_law 1432 = .ok (.ireturn, 1) := by decide +kernel
theorem dL_law_1433 : decode cL_law 1433 = .ok (.goto 313, 3) := by decide +kernel
theorem dL_law_1436 : decode cL_law 1436 = .ok (.aload_n 1, 1) := by decide +kernel
theorem dL_law_1437 : decode cL_law 1437 = .ok (.aload_n 0, 1) := by decide +kernel
theorem dL_law_1438 : decode cL_law 1438 = .ok (.iload 4, 2) := by decide +kernel
theorem dL_law_1440 : decode cL_law 1440 = .ok (.iconst 1, 1) := by decide +kernel
theorem dL_law_1441 : decode cL_law 1441 = .ok (.iadd, 1) := by decide +kernel
theorem dL_law_1442 : decode cL_law 1442 = .ok (.iaload, 1) := by decide +kernel
theorem dL_law_1443 : decode cL_law 1443 = .ok (.aload_n 0, 1) := by decide +kernel
theorem dL_law_1444 : decode cL_law 1444 = .ok (.iload 4, 2) := by decide +kernel
theorem dL_law_1446 : decode cL_law 1446 = .ok (.iconst 2, 1) := by decide +kernel
theorem dL_law_1447 : decode cL_law 1447 = .ok (.iadd, 1) := by decide +kernel
theorem dL_law_1448 : decode cL_law 1448 = .ok (.iaload, 1) := by decide +kernel
theorem dL_law_1449 : decode cL_law 1449 = .ok (.aload_n 3, 1) := by decide +kernel
theorem dL_law_1450 : decode cL_law 1450 = .ok (.invokestatic 147, 3) := by decide +kernel
theorem dL_law_1453 : decode cL_law 1453 = .ok (.istore 5, 2) := by decide +kernel
theorem dL_law_1455 : decode cL_law 1455 = .ok (.aload_n 2, 1) := by decide +kernel
theorem dL_law_1456 : decode cL_law 1456 = .ok (.aload_n 0, 1) := by decide +kernel
theorem dL_law_1457 : decode cL_law 1457 = .ok (.iload 4, 2) := by decide +kernel
theorem dL_law_1459 : decode cL_law 1459 = .ok (.iconst 1, 1) := by decide +kernel
theorem dL_law_1460 : decode cL_law 1460 = .ok (.iadd, 1) := by decide +kernel
theorem dL_law_1461 : decode cL_law 1461 = .ok (.iaload, 1) := by decide +kernel
theorem dL_law_1462 : decode cL_law 1462 = .ok (.aload_n 0, 1) := by decide +kernel
theorem dL_law_1463 : decode cL_law 1463 = .ok (.iload 4, 2) := by decide +kernel
theorem dL_law_1465 : decode cL_law 1465 = .ok (.iconst 2, 1) := by decide +kernel
theorem dL_law_1466 : decode cL_law 1466 = .ok (.iadd, 1) := by decide +kernel
theorem dL_law_1467 : decode cL_law 1467 = .ok (.iaload, 1) := by decide +kernel
theorem dL_law_1468 : decode cL_law 1468 = .ok (.invokevirtual 149, 3) := by decide +kernel
theorem dL_law_1471 : decode cL_law 1471 = .ok (.istore 6, 2) := by decide +kernel
theorem dL_law_1473 : decode cL_law 1473 = .ok (.aload_n 2, 1) := by decide +kernel
theorem dL_law_1474 : decode cL_law 1474 = .ok (.invokevirtual 127, 3) := by decide +kernel
theorem dL_law_1477 : decode cL_law 1477 = .ok (.iload 5, 2) := by decide +kernel
theorem dL_law_1479 : decode cL_law 1479 = .ok (.if_icmp .eq 5, 3) := by decide +kernel
theorem dL_law_1482 : decode cL_law 1482 = .ok (.iconst 0, 1) := by decide +kernel
theorem dL_law_1483 : decode cL_law 1483 = .ok (.ireturn, 1) := by decide +kernel
theorem dL_law_1484 : decode cL_law 1484 = .ok (.iload 5, 2) := by decide +kernel
theorem dL_law_1486 : decode cL_law 1486 = .ok (.ifCond .ne 15, 3) := by decide +kernel
theorem dL_law_1489 : decode cL_law 1489 = .ok (.aload_n 3, 1) := by decide +kernel
theorem dL_law_1490 : decode cL_law 1490 = .ok (.iconst 0, 1) := by decide +kernel
theorem dL_law_1491 : decode cL_law 1491 = .ok (.laload, 1) := by decide +kernel
theorem dL_law_1492 : decode cL_law 1492 = .ok (.iload 6, 2) := by decide +kernel
theorem dL_law_1494 : decode cL_law 1494 = .ok (.i2l, 1) := by decide +kernel
theorem dL_law_1495 : decode cL_law 1495 = .ok (.lcmp, 1) := by decide +kernel
theorem dL_law_1496 : decode cL_law 1496 = .ok (.ifCond .eq 5, 3) := by decide +kernel
theorem dL_law_1499 : decode cL_law 1499 = .ok (.iconst 0, 1) := by decide +kernel
theorem dL_law_1500 : decode cL_law 1500 = .ok (.ireturn, 1) := by decide +kernel
theorem dL_law_1501 : decode cL_law 1501 = .ok (.goto 245, 3) := by decide +kernel
theorem dL_law_1504 : decode cL_law 1504 = .ok (.aload_n 1, 1) := by decide +kernel
theorem dL_law_1505 : decode cL_law 1505 = .ok (.aload_n 0, 1) := by decide +kernel
theorem dL_law_1506 : decode cL_law 1506 = .ok (.iload 4, 2) := by decide +kernel
theorem dL_law_1508 : decode cL_law 1508 = .ok (.iconst 1, 1) := by decide +kernel
theorem dL_law_1509 : decode cL_law 1509 = .ok (.iadd, 1) := by decide +kernel
theorem dL_law_1510 : decode cL_law 1510 = .ok (.iaload, 1) := by decide +kernel
theorem dL_law_1511 : decode cL_law 1511 = .ok (.invokevirtual 150, 3) := by decide +kernel
theorem dL_law_1514 : decode cL_law 1514 = .ok (.aload_n 2, 1) := by decide +kernel
theorem dL_law_1515 : decode cL_law 1515 = .ok (.aload_n 0, 1) := by decide +kernel
theorem dL_law_1516 : decode cL_law 1516 = .ok (.iload 4, 2) := by decide +kernel
theorem dL_law_1518 : decode cL_law 1518 = .ok (.iconst 1, 1) := by decide +kernel
theorem dL_law_1519 : decode cL_law 1519 = .ok (.iadd, 1) := by decide +kernel
theorem dL_law_1520 : decode cL_law 1520 = .ok (.iaload, 1) := by decide +kernel
theorem dL_law_1521 : decode cL_law 1521 = .ok (.invokevirtual 153, 3) := by decide +kernel
theorem dL_law_1524 : decode cL_law 1524 = .ok (.if_icmp .eq 222, 3) := by decide +kernel
theorem dL_law_1527 : decode cL_law 1527 = .ok (.iconst 0, 1) := by decide +kernel
theorem dL_law_1528 : decode cL_law 1528 = .ok (.ireturn, 1) := by decide +kernel
theorem dL_law_1529 : decode cL_law 1529 = .ok (.aload_n 1, 1) := by decide +kernel
theorem dL_law_1530 : decode cL_law 1530 = .ok (.aload_n 0, 1) := by decide +kernel
theorem dL_law_1531 : decode cL_law 1531 = .ok (.iload 4, 2) := by decide +kernel
theorem dL_law_1533 : decode cL_law 1533 = .ok (.iconst 1, 1) := by decide +kernel
theorem dL_law_1534 : decode cL_law 1534 = .ok (.iadd, 1) := by decide +kernel
theorem dL_law_1535 : decode cL_law 1535 = .ok (.iaload, 1) := by decide +kernel
theorem dL_law_1536 : decode cL_law 1536 = .ok (.aload_n 3, 1) := by decide +kernel
theorem dL_law_1537 : decode cL_law 1537 = .ok (.invokestatic 154, 3) := by decide +kernel
theorem dL_law_1540 : decode cL_law 1540 = .ok (.istore 5, 2) := by decide +kernel
theorem dL_law_1542 : decode cL_law 1542 = .ok (.aload_n 2, 1) := by decide +kernel
theorem dL_law_1543 : decode cL_law 1543 = .ok (.aload_n 0, 1) := by decide +kernel
theorem dL_law_1544 : decode cL_law 1544 = .ok (.iload 4, 2) := by decide +kernel
theorem dL_law_1546 : decode cL_law 1546 = .ok (.iconst 1, 1) := by decide +kernel
theorem dL_law_1547 : decode cL_law 1547 = .ok (.iadd, 1) := by decide +kernel
theorem dL_law_1548 : decode cL_law 1548 = .ok (.iaload, 1) := by decide +kernel
theorem dL_law_1549 : decode cL_law 1549 = .ok (.invokevirtual 157, 3) := by decide +kernel
theorem dL_law_1552 : decode cL_law 1552 = .ok (.istore 6, 2) := by decide +kernel
theorem dL_law_1554 : decode cL_law 1554 = .ok (.aload_n 2, 1) := by decide +kernel
theorem dL_law_1555 : decode cL_law 1555 = .ok (.invokevirtual 127, 3) := by decide +kernel
theorem dL_law_1558 : decode cL_law 1558 = .ok (.iload 5, 2) := by decide +kernel
theorem dL_law_1560 : decode cL_law 1560 = .ok (.if_icmp .eq 5, 3) := by decide +kernel
theorem dL_law_1563 : decode cL_law 1563 = .ok (.iconst 0, 1) := by decide +kernel
theorem dL_law_1564 : decode cL_law 1564 = .ok (.ireturn, 1) := by decide +kernel
theorem dL_law_1565 : decode cL_law 1565 = .ok (.iload 5, 2) := by decide +kernel
theorem dL_law_1567 : decode cL_law 1567 = .ok (.ifCond .ne 15, 3) := by decide +kernel
theorem dL_law_1570 : decode cL_law 1570 = .ok (.aload_n 3, 1) := by decide +kernel
theorem dL_law_1571 : decode cL_law 1571 = .ok (.iconst 0, 1) := by decide +kernel
theorem dL_law_1572 : decode cL_law 1572 = .ok (.laload, 1) := by decide +kernel
theorem dL_law_1573 : decode cL_law 1573 = .ok (.iload 6, 2) := by decide +kernel
theorem dL_law_1575 : decode cL_law 1575 = .ok (.i2l, 1) := by decide +kernel
theorem dL_law_1576 : decode cL_law 1576 = .ok (.lcmp, 1) := by decide +kernel
theorem dL_law_1577 : decode cL_law 1577 = .ok (.ifCond .eq 5, 3) := by decide +kernel
theorem dL_law_1580 : decode cL_law 1580 = .ok (.iconst 0, 1) := by decide +kernel
theorem dL_law_1581 : decode cL_law 1581 = .ok (.ireturn, 1) := by decide +kernel
theorem dL_law_1582 : decode cL_law 1582 = .ok (.goto 164, 3) := by decide +kernel
theorem dL_law_1585 : decode cL_law 1585 = .ok (.aload_n 1, 1) := by decide +kernel
theorem dL_law_1586 : decode cL_law 1586 = .ok (.aload_n 0, 1) := by decide +kernel
theorem dL_law_1587 : decode cL_law 1587 = .ok (.iload 4, 2) := by decide +kernel
theorem dL_law_1589 : decode cL_law 1589 = .ok (.iconst 1, 1) := by decide +kernel
theorem dL_law_1590 : decode cL_law 1590 = .ok (.iadd, 1) := by decide +kernel
theorem dL_law_1591 : decode cL_law 1591 = .ok (.iaload, 1) := by decide +kernel
theorem dL_law_1592 : decode cL_law 1592 = .ok (.invokevirtual 158, 3) := by decide +kernel
theorem dL_law_1595 : decode cL_law 1595 = .ok (.aload_n 2, 1) := by decide +kernel
theorem dL_law_1596 : decode cL_law 1596 = .ok (.aload_n 0, 1) := by decide +kernel
theorem dL_law_1597 : decode cL_law 1597 = .ok (.iload 4, 2) := by decide +kernel
theorem dL_law_1599 : decode cL_law 1599 = .ok (.iconst 1, 1) := by decide +kernel
theorem dL_law_1600 : decode cL_law 1600 = .ok (.iadd, 1) := by decide +kernel
theorem dL_law_1601 : decode cL_law 1601 = .ok (.iaload, 1) := by decide +kernel
theorem dL_law_1602 : decode cL_law 1602 = .ok (.invokevirtual 161, 3) := by decide +kernel
theorem dL_law_1605 : decode cL_law 1605 = .ok (.if_icmp .eq 141, 3) := by decide +kernel
theorem dL_law_1608 : decode cL_law 1608 = .ok (.iconst 0, 1) := by decide +kernel
theorem dL_law_1609 : decode cL_law 1609 = .ok (.ireturn, 1) := by decide +kernel
theorem dL_law_1610 : decode cL_law 1610 = .ok (.aload_n 1, 1) := by decide +kernel
theorem dL_law_1611 : decode cL_law 1611 = .ok (.aload_n 0, 1) := by decide +kernel
theorem dL_law_1612 : decode cL_law 1612 = .ok (.iload 4, 2) := by decide +kernel
theorem dL_law_1614 : decode cL_law 1614 = .ok (.iconst 1, 1) := by decide +kernel
theorem dL_law_1615 : decode cL_law 1615 = .ok (.iadd, 1) := by decide +kernel
theorem dL_law_1616 : decode cL_law 1616 = .ok (.iaload, 1) := by decide +kernel
theorem dL_law_1617 : decode cL_law 1617 = .ok (.invokevirtual 162, 3) := by decide +kernel
theorem dL_law_1620 : decode cL_law 1620 = .ok (.aload_n 2, 1) := by decide +kernel
theorem dL_law_1621 : decode cL_law 1621 = .ok (.aload_n 0, 1) := by decide +kernel
theorem dL_law_1622 : decode cL_law 1622 = .ok (.iload 4, 2) := by decide +kernel
theorem dL_law_1624 : decode cL_law 1624 = .ok (.iconst 1, 1) := by decide +kernel
theorem dL_law_1625 : decode cL_law 1625 = .ok (.iadd, 1) := by decide +kernel
theorem dL_law_1626 : decode cL_law 1626 = .ok (.iaload, 1) := by decide +kernel
theorem dL_law_1627 : decode cL_law 1627 = .ok (.invokevirtual 165, 3) := by decide +kernel
theorem dL_law_1630 : decode cL_law 1630 = .ok (.if_icmp .eq 116, 3) := by decide +kernel
theorem dL_law_1633 : decode cL_law 1633 = .ok (.iconst 0, 1) := by decide +kernel
theorem dL_law_1634 : decode cL_law 1634 = .ok (.ireturn, 1) := by decide +kernel
theorem dL_law_1635 : decode cL_law 1635 = .ok (.aload_n 1, 1) := by decide +kernel
theorem dL_law_1636 : decode cL_law 1636 = .ok (.aload_n 0, 1) := by decide +kernel
theorem dL_law_1637 : decode cL_law 1637 = .ok (.iload 4, 2) := by decide +kernel
theorem dL_law_1639 : decode cL_law 1639 = .ok (.iconst 1, 1) := by decide +kernel
theorem dL_law_1640 : decode cL_law 1640 = .ok (.iadd, 1) := by decide +kernel
theorem dL_law_1641 : decode cL_law 1641 = .ok (.iaload, 1) := by decide +kernel
theorem dL_law_1642 : decode cL_law 1642 = .ok (.aload_n 3, 1) := by decide +kernel
theorem dL_law_1643 : decode cL_law 1643 = .ok (.invokestatic 166, 3) := by decide +kernel
theorem dL_law_1646 : decode cL_law 1646 = .ok (.istore 5, 2) := by decide +kernel
theorem dL_law_1648 : decode cL_law 1648 = .ok (.aload_n 2, 1) := by decide +kernel
theorem dL_law_1649 : decode cL_law 1649 = .ok (.aload_n 0, 1) := by decide +kernel
theorem dL_law_1650 : decode cL_law 1650 = .ok (.iload 4, 2) := by decide +kernel
theorem dL_law_1652 : decode cL_law 1652 = .ok (.iconst 1, 1) := by decide +kernel
theorem dL_law_1653 : decode cL_law 1653 = .ok (.iadd, 1) := by decide +kernel
theorem dL_law_1654 : decode cL_law 1654 = .ok (.iaload, 1) := by decide +kernel
theorem dL_law_1655 : decode cL_law 1655 = .ok (.invokevirtual 168, 3) := by decide +kernel
theorem dL_law_1658 : decode cL_law 1658 = .ok (.istore 6, 2) := by decide +kernel
theorem dL_law_1660 : decode cL_law 1660 = .ok (.aload_n 2, 1) := by decide +kernel
theorem dL_law_1661 : decode cL_law 1661 = .ok (.invokevirtual 127, 3) := by decide +kernel
theorem dL_law_1664 : decode cL_law 1664 = .ok (.iload 5, 2) := by decide +kernel
theorem dL_law_1666 : decode cL_law 1666 = .ok (.if_icmp .eq 5, 3) := by decide +kernel
theorem dL_law_1669 : decode cL_law 1669 = .ok (.iconst 0, 1) := by decide +kernel
theorem dL_law_1670 : decode cL_law 1670 = .ok (.ireturn, 1) := by decide +kernel
theorem dL_law_1671 : decode cL_law 1671 = .ok (.iload 5, 2) := by decide +kernel
theorem dL_law_1673 : decode cL_law 1673 = .ok (.ifCond .ne 15, 3) := by decide +kernel
theorem dL_law_1676 : decode cL_law 1676 = .ok (.aload_n 3, 1) := by decide +kernel
theorem dL_law_1677 : decode cL_law 1677 = .ok (.iconst 0, 1) := by decide +kernel
theorem dL_law_1678 : decode cL_law 1678 = .ok (.laload, 1) := by decide +kernel
theorem dL_law_1679 : decode cL_law 1679 = .ok (.iload 6, 2) := by decide +kernel
theorem dL_law_1681 : decode cL_law 1681 = .ok (.i2l, 1) := by decide +kernel
theorem dL_law_1682 : decode cL_law 1682 = .ok (.lcmp, 1) := by decide +kernel
theorem dL_law_1683 : decode cL_law 1683 = .ok (.ifCond .eq 5, 3) := by decide +kernel
theorem dL_law_1686 : decode cL_law 1686 = .ok (.iconst 0, 1) := by decide +kernel
theorem dL_law_1687 : decode cL_law 1687 = .ok (.ireturn, 1) := by decide +kernel
theorem dL_law_1688 : decode cL_law 1688 = .ok (.goto 58, 3) := by decide +kernel
theorem dL_law_1691 : decode cL_law 1691 = .ok (.aload_n 1, 1) := by decide +kernel
theorem dL_law_1692 : decode cL_law 1692 = .ok (.aload_n 0, 1) := by decide +kernel
theorem dL_law_1693 : decode cL_law 1693 = .ok (.iload 4, 2) := by decide +kernel
theorem dL_law_1695 : decode cL_law 1695 = .ok (.iconst 1, 1) := by decide +kernel
theorem dL_law_1696 : decode cL_law 1696 = .ok (.iadd, 1) := by decide +kernel
theorem dL_law_1697 : decode cL_law 1697 = .ok (.iaload, 1) := by decide +kernel
theorem dL_law_1698 : decode cL_law 1698 = .ok (.aload_n 3, 1) := by decide +kernel
theorem dL_law_1699 : decode cL_law 1699 = .ok (.invokestatic 169, 3) := by decide +kernel
theorem dL_law_1702 : decode cL_law 1702 = .ok (.istore 5, 2) := by decide +kernel
theorem dL_law_1704 : decode cL_law 1704 = .ok (.aload_n 2, 1) := by decide +kernel
theorem dL_law_1705 : decode cL_law 1705 = .ok (.aload_n 0, 1) := by decide +kernel
theorem dL_law_1706 : decode cL_law 1706 = .ok (.iload 4, 2) := by decide +kernel
theorem dL_law_1708 : decode cL_law 1708 = .ok (.iconst 1, 1) := by decide +kernel
theorem dL_law_1709 : decode cL_law 1709 = .ok (.iadd, 1) := by decide +kernel
theorem dL_law_1710 : decode cL_law 1710 = .ok (.iaload, 1) := by decide +kernel
theorem dL_law_1711 : decode cL_law 1711 = .ok (.invokevirtual 171, 3) := by decide +kernel
theorem dL_law_1714 : decode cL_law 1714 = .ok (.lstore 6, 2) := by decide +kernel
theorem dL_law_1716 : decode cL_law 1716 = .ok (.aload_n 2, 1) := by decide +kernel
theorem dL_law_1717 : decode cL_law 1717 = .ok (.invokevirtual 127, 3) := by decide +kernel
theorem dL_law_1720 : decode cL_law 1720 = .ok (.iload 5, 2) := by decide +kernel
theorem dL_law_1722 : decode cL_law 1722 = .ok (.if_icmp .eq 5, 3) := by decide +kernel
theorem dL_law_1725 : decode cL_law 1725 = .ok (.iconst 0, 1) := by decide +kernel
theorem dL_law_1726 : decode cL_law 1726 = .ok (.ireturn, 1) := by decide +kernel
theorem dL_law_1727 : decode cL_law 1727 = .ok (.iload 5, 2) := by decide +kernel
theorem dL_law_1729 : decode cL_law 1729 = .ok (.ifCond .ne 14, 3) := by decide +kernel
theorem dL_law_1732 : decode cL_law 1732 = .ok (.aload_n 3, 1) := by decide +kernel
theorem dL_law_1733 : decode cL_law 1733 = .ok (.iconst 0, 1) := by decide +kernel
theorem dL_law_1734 : decode cL_law 1734 = .ok (.laload, 1) := by decide +kernel
theorem dL_law_1735 : decode cL_law 1735 = .ok (.lload 6, 2) := by decide +kernel
theorem dL_law_1737 : decode cL_law 1737 = .ok (.lcmp, 1) := by decide +kernel
theorem dL_law_1738 : decode cL_law 1738 = .ok (.ifCond .eq 5, 3) := by decide +kernel
theorem dL_law_1741 : decode cL_law 1741 = .ok (.iconst 0, 1) := by decide +kernel
theorem dL_law_1742 : decode cL_law 1742 = .ok (.ireturn, 1) := by decide +kernel
theorem dL_law_1743 : decode cL_law 1743 = .ok (.goto 3, 3) := by decide +kernel
theorem dL_law_1746 : decode cL_law 1746 = .ok (.iinc 4 6, 3) := by decide +kernel
theorem dL_law_1749 : decode cL_law 1749 = .ok (.goto (-1726), 3) := by decide +kernel
theorem dL_law_1752 : decode cL_law 1752 = .ok (.iconst 1, 1) := by decide +kernel
theorem dL_law_1753 : decode cL_law 1753 = .ok (.ireturn, 1) := by decide +kernel
