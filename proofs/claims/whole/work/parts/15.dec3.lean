theorem dX12_init_0 : decode cX12_init 0 = .ok (.aload_n 0, 1) := by decide +kernel
theorem dX12_init_1 : decode cX12_init 1 = .ok (.invokespecial 1, 3) := by decide +kernel
theorem dX12_init_4 : decode cX12_init 4 = .ok (.aload_n 0, 1) := by decide +kernel
theorem dX12_init_5 : decode cX12_init 5 = .ok (.sipush 4640, 3) := by decide +kernel
theorem dX12_init_8 : decode cX12_init 8 = .ok (.newarray .int, 2) := by decide +kernel
theorem dX12_init_10 : decode cX12_init 10 = .ok (.putfield 7, 3) := by decide +kernel
theorem dX12_init_13 : decode cX12_init 13 = .ok (.aload_n 0, 1) := by decide +kernel
theorem dX12_init_14 : decode cX12_init 14 = .ok (.iconst 3, 1) := by decide +kernel
theorem dX12_init_15 : decode cX12_init 15 = .ok (.newarray .boolean, 2) := by decide +kernel
theorem dX12_init_17 : decode cX12_init 17 = .ok (.putfield 13, 3) := by decide +kernel
theorem dX12_init_20 : decode cX12_init 20 = .ok (.aload_n 0, 1) := by decide +kernel
theorem dX12_init_21 : decode cX12_init 21 = .ok (.sipush 200, 3) := by decide +kernel
theorem dX12_init_24 : decode cX12_init 24 = .ok (.newarray .int, 2) := by decide +kernel
theorem dX12_init_26 : decode cX12_init 26 = .ok (.putfield 17, 3) := by decide +kernel
theorem dX12_init_29 : decode cX12_init 29 = .ok (.aload_n 0, 1) := by decide +kernel
theorem dX12_init_30 : decode cX12_init 30 = .ok (.sipush 200, 3) := by decide +kernel
theorem dX12_init_33 : decode cX12_init 33 = .ok (.newarray .int, 2) := by decide +kernel
theorem dX12_init_35 : decode cX12_init 35 = .ok (.putfield 20, 3) := by decide +kernel
theorem dX12_init_38 : decode cX12_init 38 = .ok (.aload_n 0, 1) := by decide +kernel
theorem dX12_init_39 : decode cX12_init 39 = .ok (.sipush 200, 3) := by decide +kernel
theorem dX12_init_42 : decode cX12_init 42 = .ok (.newarray .int, 2) := by decide +kernel
theorem dX12_init_44 : decode cX12_init 44 = .ok (.putfield 23, 3) := by decide +kernel
theorem dX12_init_47 : decode cX12_init 47 = .ok (.aload_n 0, 1) := by decide +kernel
theorem dX12_init_48 : decode cX12_init 48 = .ok (.sipush 200, 3) := by decide +kernel
theorem dX12_init_51 : decode cX12_init 51 = .ok (.newarray .int, 2) := by decide +kernel
theorem dX12_init_53 : decode cX12_init 53 = .ok (.putfield 26, 3) := by decide +kernel
theorem dX12_init_56 : decode cX12_init 56 = .ok (.aload_n 0, 1) := by decide +kernel
theorem dX12_init_57 : decode cX12_init 57 = .ok (.sipush 200, 3) := by decide +kernel
theorem dX12_init_60 : decode cX12_init 60 = .ok (.newarray .int, 2) := by decide +kernel
theorem dX12_init_62 : decode cX12_init 62 = .ok (.putfield 29, 3) := by decide +kernel
theorem dX12_init_65 : decode cX12_init 65 = .ok (.aload_n 0, 1) := by decide +kernel
theorem dX12_init_66 : decode cX12_init 66 = .ok (.sipush 200, 3) := by decide +kernel
theorem dX12_init_69 : decode cX12_init 69 = .ok (.newarray .int, 2) := by decide +kernel
theorem dX12_init_71 : decode cX12_init 71 = .ok (.putfield 32, 3) := by decide +kernel
theorem dX12_init_74 : decode cX12_init 74 = .ok (.aload_n 0, 1) := by decide +kernel
theorem dX12_init_75 : decode cX12_init 75 = .ok (.sipush 200, 3) := by decide +kernel
theorem dX12_init_78 : decode cX12_init 78 = .ok (.newarray .int, 2) := by decide +kernel
theorem dX12_init_80 : decode cX12_init 80 = .ok (.putfield 35, 3) := by decide +kernel
theorem dX12_init_83 : decode cX12_init 83 = .ok (.aload_n 0, 1) := by decide +kernel
theorem dX12_init_84 : decode cX12_init 84 = .ok (.sipush 2646, 3) := by decide +kernel
theorem dX12_init_87 : decode cX12_init 87 = .ok (.newarray .int, 2) := by decide +kernel
theorem dX12_init_89 : decode cX12_init 89 = .ok (.putfield 38, 3) := by decide +kernel
theorem dX12_init_92 : decode cX12_init 92 = .ok (.aload_n 0, 1) := by decide +kernel
theorem dX12_init_93 : decode cX12_init 93 = .ok (.bipush 60, 2) := by decide +kernel
theorem dX12_init_95 : decode cX12_init 95 = .ok (.newarray .int, 2) := by decide +kernel
theorem dX12_init_97 : decode cX12_init 97 = .ok (.putfield 41, 3) := by decide +kernel
theorem dX12_init_100 : decode cX12_init 100 = .ok (.aload_n 0, 1) := by decide +kernel
theorem dX12_init_101 : decode cX12_init 101 = .ok (.bipush 8, 2) := by decide +kernel
theorem dX12_init_103 : decode cX12_init 103 = .ok (.newarray .int, 2) := by decide +kernel
theorem dX12_init_105 : decode cX12_init 105 = .ok (.putfield 44, 3) := by decide +kernel
theorem dX12_init_108 : decode cX12_init 108 = .ok (.aload_n 0, 1) := by decide +kernel
theorem dX12_init_109 : decode cX12_init 109 = .ok (.bipush 6, 2) := by decide +kernel
theorem dX12_init_111 : decode cX12_init 111 = .ok (.newarray .int, 2) := by decide +kernel
theorem dX12_init_113 : decode cX12_init 113 = .ok (.putfield 47, 3) := by decide +kernel
theorem dX12_init_116 : decode cX12_init 116 = .ok (.aload_n 0, 1) := by decide +kernel
theorem dX12_init_117 : decode cX12_init 117 = .ok (.bipush 36, 2) := by decide +kernel
theorem dX12_init_119 : decode cX12_init 119 = .ok (.newarray .boolean, 2) := by decide +kernel
theorem dX12_init_121 : decode cX12_init 121 = .ok (.putfield 50, 3) := by decide +kernel
theorem dX12_init_124 : decode cX12_init 124 = .ok (.aload_n 0, 1) := by decide +kernel
theorem dX12_init_125 : decode cX12_init 125 = .ok (.sipush 390, 3) := by decide +kernel
theorem dX12_init_128 : decode cX12_init 128 = .ok (.newarray .int, 2) := by decide +kernel
theorem dX12_init_130 : decode cX12_init 130 = .ok (.putfield 53, 3) := by decide +kernel
theorem dX12_init_133 : decode cX12_init 133 = .ok (.aload_n 0, 1) := by decide +kernel
theorem dX12_init_134 : decode cX12_init 134 = .ok (.iconst 5, 1) := by decide +kernel
theorem dX12_init_135 : decode cX12_init 135 = .ok (.newarray .int, 2) := by decide +kernel
theorem dX12_init_137 : decode cX12_init 137 = .ok (.putfield 56, 3) := by decide +kernel
theorem dX12_init_140 : decode cX12_init 140 = .ok (.aload_n 0, 1) := by decide +kernel
theorem dX12_init_141 : decode cX12_init 141 = .ok (.sipush 320, 3) := by decide +kernel
theorem dX12_init_144 : decode cX12_init 144 = .ok (.newarray .int, 2) := by decide +kernel
theorem dX12_init_146 : decode cX12_init 146 = .ok (.putfield 59, 3) := by decide +kernel
theorem dX12_init_149 : decode cX12_init 149 = .ok (.aload_n 0, 1) := by decide +kernel
theorem dX12_init_150 : decode cX12_init 150 = .ok (.iconst 4, 1) := by decide +kernel
theorem dX12_init_151 : decode cX12_init 151 = .ok (.newarray .int, 2) := by decide +kernel
theorem dX12_init_153 : decode cX12_init 153 = .ok (.putfield 62, 3) := by decide +kernel
theorem dX12_init_156 : decode cX12_init 156 = .ok (.aload_n 0, 1) := by decide +kernel
theorem dX12_init_157 : decode cX12_init 157 = .ok (.getfield 7, 3) := by decide +kernel
theorem dX12_init_160 : decode cX12_init 160 = .ok (.iconst 5, 1) := by decide +kernel
theorem dX12_init_161 : decode cX12_init 161 = .ok (.iconst (-1), 1) := by decide +kernel
theorem dX12_init_162 : decode cX12_init 162 = .ok (.iastore, 1) := by decide +kernel
theorem dX12_init_163 : decode cX12_init 163 = .ok (.aload_n 0, 1) := by decide +kernel
theorem dX12_init_164 : decode cX12_init 164 = .ok (.getfield 7, 3) := by decide +kernel
theorem dX12_init_167 : decode cX12_init 167 = .ok (.bipush 10, 2) := by decide +kernel
theorem dX12_init_169 : decode cX12_init 169 = .ok (.iconst (-1), 1) := by decide +kernel
theorem dX12_init_170 : decode cX12_init 170 = .ok (.iastore, 1) := by decide +kernel
theorem dX12_init_171 : decode cX12_init 171 = .ok (.aload_n 0, 1) := by decide +kernel
theorem dX12_init_172 : decode cX12_init 172 = .ok (.getfield 7, 3) := by decide +kernel
theorem dX12_init_175 : decode cX12_init 175 = .ok (.bipush 11, 2) := by decide +kernel
theorem dX12_init_177 : decode cX12_init 177 = .ok (.iconst 1, 1) := by decide +kernel
theorem dX12_init_178 : decode cX12_init 178 = .ok (.iastore, 1) := by decide +kernel
theorem dX12_init_179 : decode cX12_init 179 = .ok (.aload_n 0, 1) := by decide +kernel
theorem dX12_init_180 : decode cX12_init 180 = .ok (.getfield 7, 3) := by decide +kernel
theorem dX12_init_183 : decode cX12_init 183 = .ok (.bipush 13, 2) := by decide +kernel
theorem dX12_init_185 : decode cX12_init 185 = .ok (.iconst 1, 1) := by decide +kernel
theorem dX12_init_186 : decode cX12_init 186 = .ok (.iastore, 1) := by decide +kernel
theorem dX12_init_187 : decode cX12_init 187 = .ok (.aload_n 0, 1) := by decide +kernel
theorem dX12_init_188 : decode cX12_init 188 = .ok (.getfield 7, 3) := by decide +kernel
theorem dX12_init_191 : decode cX12_init 191 = .ok (.bipush 14, 2) := by decide +kernel
theorem dX12_init_193 : decode cX12_init 193 = .ok (.bipush 100, 2) := by decide +kernel
theorem dX12_init_195 : decode cX12_init 195 = .ok (.iastore, 1) := by decide +kernel
theorem dX12_init_196 : decode cX12_init 196 = .ok (.aload_n 0, 1) := by decide +kernel
theorem dX12_init_197 : decode cX12_init 197 = .ok (.getfield 7, 3) := by decide +kernel
theorem dX12_init_200 : decode cX12_init 200 = .ok (.bipush 15, 2) := by decide +kernel
theorem dX12_init_202 : decode cX12_init 202 = .ok (.bipush 10, 2) := by decide +kernel
theorem dX12_init_204 : decode cX12_init 204 = .ok (.iastore, 1) := by decide +kernel
theorem dX12_init_205 : decode cX12_init 205 = .ok (.aload_n 0, 1) := by decide +kernel
theorem dX12_init_206 : decode cX12_init 206 = .ok (.getfield 7, 3) := by decide +kernel
theorem dX12_init_209 : decode cX12_init 209 = .ok (.bipush 16, 2) := by decide +kernel
theorem dX12_init_211 : decode cX12_init 211 = .ok (.bipush 10, 2) := by decide +kernel
theorem dX12_init_213 : decode cX12_init 213 = .ok (.iastore, 1) := by decide +kernel
theorem dX12_init_214 : decode cX12_init 214 = .ok (.aload_n 0, 1) := by decide +kernel
theorem dX12_init_215 : decode cX12_init 215 = .ok (.getfield 7, 3) := by decide +kernel
theorem dX12_init_218 : decode cX12_init 218 = .ok (.bipush 17, 2) := by decide +kernel
theorem dX12_init_220 : decode cX12_init 220 = .ok (.iconst 1, 1) := by decide +kernel
theorem dX12_init_221 : decode cX12_init 221 = .ok (.iastore, 1) := by decide +kernel
theorem dX12_init_222 : decode cX12_init 222 = .ok (.iconst 0, 1) := by decide +kernel
theorem dX12_init_223 : decode cX12_init 223 = .ok (.istore_n 1, 1) := by decide +kernel
theorem dX12_init_224 : decode cX12_init 224 = .ok (.iload_n 1, 1) := by decide +kernel
theorem dX12_init_225 : decode cX12_init 225 = .ok (.iconst 5, 1) := by decide +kernel
theorem dX12_init_226 : decode cX12_init 226 = .ok (.if_icmp .ge 20, 3) := by decide +kernel
theorem dX12_init_229 : decode cX12_init 229 = .ok (.aload_n 0, 1) := by decide +kernel
theorem dX12_init_230 : decode cX12_init 230 = .ok (.getfield 7, 3) := by decide +kernel
theorem dX12_init_233 : decode cX12_init 233 = .ok (.bipush 18, 2) := by decide +kernel
theorem dX12_init_235 : decode cX12_init 235 = .ok (.iload_n 1, 1) := by decide +kernel
theorem dX12_init_236 : decode cX12_init 236 = .ok (.iadd, 1) := by decide +kernel
theorem dX12_init_237 : decode cX12_init 237 = .ok (.bipush 50, 2) := by decide +kernel
theorem dX12_init_239 : decode cX12_init 239 = .ok (.iastore, 1) := by decide +kernel
theorem dX12_init_240 : decode cX12_init 240 = .ok (.iinc 1 1, 3) := by decide +kernel
theorem dX12_init_243 : decode cX12_init 243 = .ok (.goto (-19), 3) := by decide +kernel
theorem dX12_init_246 : decode cX12_init 246 = .ok (.aload_n 0, 1) := by decide +kernel
theorem dX12_init_247 : decode cX12_init 247 = .ok (.invokevirtual 65, 3) := by decide +kernel
theorem dX12_init_250 : decode cX12_init 250 = .ok (.return_, 1) := by decide +kernel
theorem dX12_isIn_0 : decode cX12_isIn 0 = .ok (.iload_n 0, 1) := by decide +kernel
theorem dX12_isIn_1 : decode cX12_isIn 1 = .ok (.iload_n 1, 1) := by decide +kernel
theorem dX12_isIn_2 : decode cX12_isIn 2 = .ok (.if_icmp .lt 12, 3) := by decide +kernel
theorem dX12_isIn_5 : decode cX12_isIn 5 = .ok (.iload_n 0, 1) := by decide +kernel
theorem dX12_isIn_6 : decode cX12_isIn 6 = .ok (.iload_n 2, 1) := by decide +kernel
theorem dX12_isIn_7 : decode cX12_isIn 7 = .ok (.if_icmp .gt 7, 3) := by decide +kernel
theorem dX12_isIn_10 : decode cX12_isIn 10 = .ok (.iconst 1, 1) := by decide +kernel
theorem dX12_isIn_11 : decode cX12_isIn 11 = .ok (.goto 4, 3) := by decide +kernel
theorem dX12_isIn_14 : decode cX12_isIn 14 = .ok (.iconst 0, 1) := by decide +kernel
theorem dX12_isIn_15 : decode cX12_isIn 15 = .ok (.ireturn, 1) := by decide +kernel
theorem dX12_isOf_0 : decode cX12_isOf 0 = .ok (.iload_n 1, 1) := by decide +kernel
theorem dX12_isOf_1 : decode cX12_isOf 1 = .ok (.iconst 0, 1) := by decide +kernel
theorem dX12_isOf_2 : decode cX12_isOf 2 = .ok (.aload_n 0, 1) := by decide +kernel
theorem dX12_isOf_3 : decode cX12_isOf 3 = .ok (.getfield 7, 3) := by decide +kernel
theorem dX12_isOf_6 : decode cX12_isOf 6 = .ok (.iload_n 2, 1) := by decide +kernel
theorem dX12_isOf_7 : decode cX12_isOf 7 = .ok (.iaload, 1) := by decide +kernel
theorem dX12_isOf_8 : decode cX12_isOf 8 = .ok (.iconst 1, 1) := by decide +kernel
theorem dX12_isOf_9 : decode cX12_isOf 9 = .ok (.isub, 1) := by decide +kernel
theorem dX12_isOf_10 : decode cX12_isOf 10 = .ok (.invokestatic 68, 3) := by decide +kernel
theorem dX12_isOf_13 : decode cX12_isOf 13 = .ok (.ireturn, 1) := by decide +kernel
theorem dX12_isPoint_0 : decode cX12_isPoint 0 = .ok (.iload_n 0, 1) := by decide +kernel
theorem dX12_isPoint_1 : decode cX12_isPoint 1 = .ok (.iconst 0, 1) := by decide +kernel
theorem dX12_isPoint_2 : decode cX12_isPoint 2 = .ok (.bipush 20, 2) := by decide +kernel
theorem dX12_isPoint_4 : decode cX12_isPoint 4 = .ok (.invokestatic 68, 3) := by decide +kernel
theorem dX12_isPoint_7 : decode cX12_isPoint 7 = .ok (.ifCond .eq 17, 3) := by decide +kernel
theorem dX12_isPoint_10 : decode cX12_isPoint 10 = .ok (.iload_n 1, 1) := by decide +kernel
theorem dX12_isPoint_11 : decode cX12_isPoint 11 = .ok (.iconst 0, 1) := by decide +kernel
theorem dX12_isPoint_12 : decode cX12_isPoint 12 = .ok (.bipush 20, 2) := by decide +kernel
theorem dX12_isPoint_14 : decode cX12_isPoint 14 = .ok (.invokestatic 68, 3) := by decide +kernel
theorem dX12_isPoint_17 : decode cX12_isPoint 17 = .ok (.ifCond .eq 7, 3) := by decide +kernel
theorem dX12_isPoint_20 : decode cX12_isPoint 20 = .ok (.iconst 1, 1) := by decide +kernel
theorem dX12_isPoint_21 : decode cX12_isPoint 21 = .ok (.goto 4, 3) := by decide +kernel
theorem dX12_isPoint_24 : decode cX12_isPoint 24 = .ok (.iconst 0, 1) := by decide +kernel
theorem dX12_isPoint_25 : decode cX12_isPoint 25 = .ok (.ireturn, 1) := by decide +kernel
theorem dX12_wallOf_0 : decode cX12_wallOf 0 = .ok (.aload_n 0, 1) := by decide +kernel
theorem dX12_wallOf_1 : decode cX12_wallOf 1 = .ok (.getfield 7, 3) := by decide +kernel
theorem dX12_wallOf_4 : decode cX12_wallOf 4 = .ok (.bipush 30, 2) := by decide +kernel
theorem dX12_wallOf_6 : decode cX12_wallOf 6 = .ok (.bipush 7, 2) := by decide +kernel
theorem dX12_wallOf_8 : decode cX12_wallOf 8 = .ok (.iload_n 1, 1) := by decide +kernel
theorem dX12_wallOf_9 : decode cX12_wallOf 9 = .ok (.imul, 1) := by decide +kernel
theorem dX12_wallOf_10 : decode cX12_wallOf 10 = .ok (.iadd, 1) := by decide +kernel
theorem dX12_wallOf_11 : decode cX12_wallOf 11 = .ok (.iload_n 2, 1) := by decide +kernel
theorem dX12_wallOf_12 : decode cX12_wallOf 12 = .ok (.iadd, 1) := by decide +kernel
theorem dX12_wallOf_13 : decode cX12_wallOf 13 = .ok (.iaload, 1) := by decide +kernel
theorem dX12_wallOf_14 : decode cX12_wallOf 14 = .ok (.ireturn, 1) := by decide +kernel
theorem dX12_senderOf_0 : decode cX12_senderOf 0 = .ok (.aload_n 0, 1) := by decide +kernel
theorem dX12_senderOf_1 : decode cX12_senderOf 1 = .ok (.getfield 7, 3) := by decide +kernel
theorem dX12_senderOf_4 : decode cX12_senderOf 4 = .ok (.bipush 120, 2) := by decide +kernel
theorem dX12_senderOf_6 : decode cX12_senderOf 6 = .ok (.bipush 8, 2) := by decide +kernel
theorem dX12_senderOf_8 : decode cX12_senderOf 8 = .ok (.iload_n 1, 1) := by decide +kernel
theorem dX12_senderOf_9 : decode cX12_senderOf 9 = .ok (.imul, 1) := by decide +kernel
theorem dX12_senderOf_10 : decode cX12_senderOf 10 = .ok (.iadd, 1) := by decide +kernel
theorem dX12_senderOf_11 : decode cX12_senderOf 11 = .ok (.iload_n 2, 1) := by decide +kernel
theorem dX12_senderOf_12 : decode cX12_senderOf 12 = .ok (.iadd, 1) := by decide +kernel
theorem dX12_senderOf_13 : decode cX12_senderOf 13 = .ok (.iaload, 1) := by decide +kernel
theorem dX12_senderOf_14 : decode cX12_senderOf 14 = .ok (.ireturn, 1) := by decide +kernel
theorem dX12_isThere_0 : decode cX12_isThere 0 = .ok (.aload_n 0, 1) := by decide +kernel
theorem dX12_isThere_1 : decode cX12_isThere 1 = .ok (.getfield 7, 3) := by decide +kernel
theorem dX12_isThere_4 : decode cX12_isThere 4 = .ok (.iconst 5, 1) := by decide +kernel
theorem dX12_isThere_5 : decode cX12_isThere 5 = .ok (.iaload, 1) := by decide +kernel
theorem dX12_isThere_6 : decode cX12_isThere 6 = .ok (.iconst (-1), 1) := by decide +kernel
theorem dX12_isThere_7 : decode cX12_isThere 7 = .ok (.if_icmp .ne 12, 3) := by decide +kernel
theorem dX12_isThere_10 : decode cX12_isThere 10 = .ok (.aload_n 0, 1) := by decide +kernel
theorem dX12_isThere_11 : decode cX12_isThere 11 = .ok (.getfield 7, 3) := by decide +kernel
theorem dX12_isThere_14 : decode cX12_isThere 14 = .ok (.iconst 4, 1) := by decide +kernel
theorem dX12_isThere_15 : decode cX12_isThere 15 = .ok (.iaload, 1) := by decide +kernel
theorem dX12_isThere_16 : decode cX12_isThere 16 = .ok (.goto 9, 3) := by decide +kernel
theorem dX12_isThere_19 : decode cX12_isThere 19 = .ok (.aload_n 0, 1) := by decide +kernel
theorem dX12_isThere_20 : decode cX12_isThere 20 = .ok (.getfield 7, 3) := by decide +kernel
theorem dX12_isThere_23 : decode cX12_isThere 23 = .ok (.iconst 5, 1) := by decide +kernel
theorem dX12_isThere_24 : decode cX12_isThere 24 = .ok (.iaload, 1) := by decide +kernel
theorem dX12_isThere_25 : decode cX12_isThere 25 = .ok (.istore_n 3, 1) := by decide +kernel
theorem dX12_isThere_26 : decode cX12_isThere 26 = .ok (.iload_n 1, 1) := by decide +kernel
theorem dX12_isThere_27 : decode cX12_isThere 27 = .ok (.iload_n 3, 1) := by decide +kernel
theorem dX12_isThere_28 : decode cX12_isThere 28 = .ok (.if_icmp .gt 16, 3) := by decide +kernel
theorem dX12_isThere_31 : decode cX12_isThere 31 = .ok (.iload_n 2, 1) := by decide +kernel
theorem dX12_isThere_32 : decode cX12_isThere 32 = .ok (.ifCond .lt 8, 3) := by decide +kernel
theorem dX12_isThere_35 : decode cX12_isThere 35 = .ok (.iload_n 2, 1) := by decide +kernel
theorem dX12_isThere_36 : decode cX12_isThere 36 = .ok (.iload_n 3, 1) := by decide +kernel
theorem dX12_isThere_37 : decode cX12_isThere 37 = .ok (.if_icmp .le 7, 3) := by decide +kernel
theorem dX12_isThere_40 : decode cX12_isThere 40 = .ok (.iconst 1, 1) := by decide +kernel
theorem dX12_isThere_41 : decode cX12_isThere 41 = .ok (.goto 4, 3) := by decide +kernel
theorem dX12_isThere_44 : decode cX12_isThere 44 = .ok (.iconst 0, 1) := by decide +kernel
theorem dX12_isThere_45 : decode cX12_isThere 45 = .ok (.ireturn, 1) := by decide +kernel
theorem dX12_seesWall_0 : decode cX12_seesWall 0 = .ok (.aload_n 0, 1) := by decide +kernel
theorem dX12_seesWall_1 : decode cX12_seesWall 1 = .ok (.aload_n 0, 1) := by decide +kernel
theorem dX12_seesWall_2 : decode cX12_seesWall 2 = .ok (.iload_n 1, 1) := by decide +kernel
theorem dX12_seesWall_3 : decode cX12_seesWall 3 = .ok (.iconst 5, 1) := by decide +kernel
theorem dX12_seesWall_4 : decode cX12_seesWall 4 = .ok (.invokevirtual 72, 3) := by decide +kernel
theorem dX12_seesWall_7 : decode cX12_seesWall 7 = .ok (.aload_n 0, 1) := by decide +kernel
theorem dX12_seesWall_8 : decode cX12_seesWall 8 = .ok (.iload_n 1, 1) := by decide +kernel
theorem dX12_seesWall_9 : decode cX12_seesWall 9 = .ok (.bipush 6, 2) := by decide +kernel
theorem dX12_seesWall_11 : decode cX12_seesWall 11 = .ok (.invokevirtual 72, 3) := by decide +kernel
theorem dX12_seesWall_14 : decode cX12_seesWall 14 = .ok (.invokevirtual 76, 3) := by decide +kernel
theorem dX12_seesWall_17 : decode cX12_seesWall 17 = .ok (.ireturn, 1) := by decide +kernel
theorem dX12_seesSender_0 : decode cX12_seesSender 0 = .ok (.aload_n 0, 1) := by decide +kernel
theorem dX12_seesSender_1 : decode cX12_seesSender 1 = .ok (.iload_n 1, 1) := by decide +kernel
theorem dX12_seesSender_2 : decode cX12_seesSender 2 = .ok (.iconst 1, 1) := by decide +kernel
theorem dX12_seesSender_3 : decode cX12_seesSender 3 = .ok (.invokevirtual 80, 3) := by decide +kernel
theorem dX12_seesSender_6 : decode cX12_seesSender 6 = .ok (.ifCond .eq 26, 3) := by decide +kernel
theorem dX12_seesSender_9 : decode cX12_seesSender 9 = .ok (.aload_n 0, 1) := by decide +kernel
theorem dX12_seesSender_10 : decode cX12_seesSender 10 = .ok (.aload_n 0, 1) := by decide +kernel
theorem dX12_seesSender_11 : decode cX12_seesSender 11 = .ok (.iload_n 1, 1) := by decide +kernel
theorem dX12_seesSender_12 : decode cX12_seesSender 12 = .ok (.iconst 4, 1) := by decide +kernel
theorem dX12_seesSender_13 : decode cX12_seesSender 13 = .ok (.invokevirtual 83, 3) := by decide +kernel
theorem dX12_seesSender_16 : decode cX12_seesSender 16 = .ok (.aload_n 0, 1) := by decide +kernel
theorem dX12_seesSender_17 : decode cX12_seesSender 17 = .ok (.iload_n 1, 1) := by decide +kernel
theorem dX12_seesSender_18 : decode cX12_seesSender 18 = .ok (.iconst 5, 1) := by decide +kernel
theorem dX12_seesSender_19 : decode cX12_seesSender 19 = .ok (.invokevirtual 83, 3) := by decide +kernel
theorem dX12_seesSender_22 : decode cX12_seesSender 22 = .ok (.invokevirtual 76, 3) := by decide +kernel
theorem dX12_seesSender_25 : decode cX12_seesSender 25 = .ok (.ifCond .eq 7, 3) := by decide +kernel
theorem dX12_seesSender_28 : decode cX12_seesSender 28 = .ok (.iconst 1, 1) := by decide +kernel
theorem dX12_seesSender_29 : decode cX12_seesSender 29 = .ok (.goto 4, 3) := by decide +kernel
theorem dX12_seesSender_32 : decode cX12_seesSender 32 = .ok (.iconst 0, 1) := by decide +kernel
theorem dX12_seesSender_33 : decode cX12_seesSender 33 = .ok (.ireturn, 1) := by decide +kernel
theorem dX12_isUpright_0 : decode cX12_isUpright 0 = .ok (.aload_n 0, 1) := by decide +kernel
theorem dX12_isUpright_1 : decode cX12_isUpright 1 = .ok (.iload_n 1, 1) := by decide +kernel
theorem dX12_isUpright_2 : decode cX12_isUpright 2 = .ok (.iconst 0, 1) := by decide +kernel
theorem dX12_isUpright_3 : decode cX12_isUpright 3 = .ok (.invokevirtual 72, 3) := by decide +kernel
theorem dX12_isUpright_6 : decode cX12_isUpright 6 = .ok (.aload_n 0, 1) := by decide +kernel
theorem dX12_isUpright_7 : decode cX12_isUpright 7 = .ok (.iload_n 1, 1) := by decide +kernel
theorem dX12_isUpright_8 : decode cX12_isUpright 8 = .ok (.iconst 2, 1) := by decide +kernel
theorem dX12_isUpright_9 : decode cX12_isUpright 9 = .ok (.invokevirtual 72, 3) := by decide +kernel
theorem dX12_isUpright_12 : decode cX12_isUpright 12 = .ok (.if_icmp .ne 7, 3) := by decide +kernel
theorem dX12_isUpright_15 : decode cX12_isUpright 15 = .ok (.iconst 1, 1) := by decide +kernel
theorem dX12_isUpright_16 : decode cX12_isUpright 16 = .ok (.goto 4, 3) := by decide +kernel
theorem dX12_isUpright_19 : decode cX12_isUpright 19 = .ok (.iconst 0, 1) := by decide +kernel
theorem dX12_isUpright_20 : decode cX12_isUpright 20 = .ok (.ireturn, 1) := by decide +kernel
theorem dX12_side_0 : decode cX12_side 0 = .ok (.aload_n 0, 1) := by decide +kernel
theorem dX12_side_1 : decode cX12_side 1 = .ok (.iload_n 1, 1) := by decide +kernel
theorem dX12_side_2 : decode cX12_side 2 = .ok (.invokevirtual 86, 3) := by decide +kernel
theorem dX12_side_5 : decode cX12_side 5 = .ok (.ifCond .eq 18, 3) := by decide +kernel
theorem dX12_side_8 : decode cX12_side 8 = .ok (.lload_n 2, 1) := by decide +kernel
theorem dX12_side_9 : decode cX12_side 9 = .ok (.aload_n 0, 1) := by decide +kernel
theorem dX12_side_10 : decode cX12_side 10 = .ok (.iload_n 1, 1) := by decide +kernel
theorem dX12_side_11 : decode cX12_side 11 = .ok (.iconst 0, 1) := by decide +kernel
theorem dX12_side_12 : decode cX12_side 12 = .ok (.invokevirtual 72, 3) := by decide +kernel
theorem dX12_side_15 : decode cX12_side 15 = .ok (.i2l, 1) := by decide +kernel
theorem dX12_side_16 : decode cX12_side 16 = .ok (.lload 6, 2) := by decide +kernel
theorem dX12_side_18 : decode cX12_side 18 = .ok (.lmul, 1) := by decide +kernel
theorem dX12_side_19 : decode cX12_side 19 = .ok (.lsub, 1) := by decide +kernel
theorem dX12_side_20 : decode cX12_side 20 = .ok (.goto 16, 3) := by decide +kernel
theorem dX12_side_23 : decode cX12_side 23 = .ok (.lload 4, 2) := by decide +kernel
theorem dX12_side_25 : decode cX12_side 25 = .ok (.aload_n 0, 1) := by decide +kernel
theorem dX12_side_26 : decode cX12_side 26 = .ok (.iload_n 1, 1) := by decide +kernel
theorem dX12_side_27 : decode cX12_side 27 = .ok (.iconst 1, 1) := by decide +kernel
theorem dX12_side_28 : decode cX12_side 28 = .ok (.invokevirtual 72, 3) := by decide +kernel
theorem dX12_side_31 : decode cX12_side 31 = .ok (.i2l, 1) := by decide +kernel
theorem dX12_side_32 : decode cX12_side 32 = .ok (.lload 6, 2) := by decide +kernel
theorem dX12_side_34 : decode cX12_side 34 = .ok (.lmul, 1) := by decide +kernel
theorem dX12_side_35 : decode cX12_side 35 = .ok (.lsub, 1) := by decide +kernel
theorem dX12_side_36 : decode cX12_side 36 = .ok (.lreturn, 1) := by decide +kernel
theorem dX12_size_0 : decode cX12_size 0 = .ok (.lload_n 0, 1) := by decide +kernel
theorem dX12_size_1 : decode cX12_size 1 = .ok (.lconst 0, 1) := by decide +kernel
theorem dX12_size_2 : decode cX12_size 2 = .ok (.lcmp, 1) := by decide +kernel
theorem dX12_size_3 : decode cX12_size 3 = .ok (.ifCond .ge 8, 3) := by decide +kernel
theorem dX12_size_6 : decode cX12_size 6 = .ok (.lload_n 0, 1) := by decide +kernel
theorem dX12_size_7 : decode cX12_size 7 = .ok (.lneg, 1) := by decide +kernel
theorem dX12_size_8 : decode cX12_size 8 = .ok (.goto 4, 3) := by decide +kernel
theorem dX12_size_11 : decode cX12_size 11 = .ok (.lload_n 0, 1) := by decide +kernel
theorem dX12_size_12 : decode cX12_size 12 = .ok (.lreturn, 1) := by decide +kernel
theorem dX12_areOpposite_0 : decode cX12_areOpposite 0 = .ok (.lload_n 0, 1) := by decide +kernel
theorem dX12_areOpposite_1 : decode cX12_areOpposite 1 = .ok (.lconst 0, 1) := by decide +kernel
theorem dX12_areOpposite_2 : decode cX12_areOpposite 2 = .ok (.lcmp, 1) := by decide +kernel
theorem dX12_areOpposite_3 : decode cX12_areOpposite 3 = .ok (.ifCond .ge 9, 3) := by decide +kernel
theorem dX12_areOpposite_6 : decode cX12_areOpposite 6 = .ok (.lload_n 2, 1) := by decide +kernel
theorem dX12_areOpposite_7 : decode cX12_areOpposite 7 = .ok (.lconst 0, 1) := by decide +kernel
theorem dX12_areOpposite_8 : decode cX12_areOpposite 8 = .ok (.lcmp, 1) := by decide +kernel
theorem dX12_areOpposite_9 : decode cX12_areOpposite 9 = .ok (.ifCond .gt 15, 3) := by decide +kernel
theorem dX12_areOpposite_12 : decode cX12_areOpposite 12 = .ok (.lload_n 0, 1) := by decide +kernel
theorem dX12_areOpposite_13 : decode cX12_areOpposite 13 = .ok (.lconst 0, 1) := by decide +kernel
theorem dX12_areOpposite_14 : decode cX12_areOpposite 14 = .ok (.lcmp, 1) := by decide +kernel
theorem dX12_areOpposite_15 : decode cX12_areOpposite 15 = .ok (.ifCond .le 13, 3) := by decide +kernel
theorem dX12_areOpposite_18 : decode cX12_areOpposite 18 = .ok (.lload_n 2, 1) := by decide +kernel
theorem dX12_areOpposite_19 : decode cX12_areOpposite 19 = .ok (.lconst 0, 1) := by decide +kernel
theorem dX12_areOpposite_20 : decode cX12_areOpposite 20 = .ok (.lcmp, 1) := by decide +kernel
theorem dX12_areOpposite_21 : decode cX12_areOpposite 21 = .ok (.ifCond .ge 7, 3) := by decide +kernel
theorem dX12_areOpposite_24 : decode cX12_areOpposite 24 = .ok (.iconst 1, 1) := by decide +kernel
theorem dX12_areOpposite_25 : decode cX12_areOpposite 25 = .ok (.goto 4, 3) := by decide +kernel
theorem dX12_areOpposite_28 : decode cX12_areOpposite 28 = .ok (.iconst 0, 1) := by decide +kernel
theorem dX12_areOpposite_29 : decode cX12_areOpposite 29 = .ok (.ireturn, 1) := by decide +kernel
theorem dX12_areAlike_0 : decode cX12_areAlike 0 = .ok (.lload_n 0, 1) := by decide +kernel
theorem dX12_areAlike_1 : decode cX12_areAlike 1 = .ok (.lconst 0, 1) := by decide +kernel
theorem dX12_areAlike_2 : decode cX12_areAlike 2 = .ok (.lcmp, 1) := by decide +kernel
theorem dX12_areAlike_3 : decode cX12_areAlike 3 = .ok (.ifCond .ge 9, 3) := by decide +kernel
theorem dX12_areAlike_6 : decode cX12_areAlike 6 = .ok (.lload_n 2, 1) := by decide +kernel
theorem dX12_areAlike_7 : decode cX12_areAlike 7 = .ok (.lconst 0, 1) := by decide +kernel
theorem dX12_areAlike_8 : decode cX12_areAlike 8 = .ok (.lcmp, 1) := by decide +kernel
theorem dX12_areAlike_9 : decode cX12_areAlike 9 = .ok (.ifCond .lt 15, 3) := by decide +kernel
theorem dX12_areAlike_12 : decode cX12_areAlike 12 = .ok (.lload_n 0, 1) := by decide +kernel
theorem dX12_areAlike_13 : decode cX12_areAlike 13 = .ok (.lconst 0, 1) := by decide +kernel
theorem dX12_areAlike_14 : decode cX12_areAlike 14 = .ok (.lcmp, 1) := by decide +kernel
theorem dX12_areAlike_15 : decode cX12_areAlike 15 = .ok (.ifCond .le 13, 3) := by decide +kernel
theorem dX12_areAlike_18 : decode cX12_areAlike 18 = .ok (.lload_n 2, 1) := by decide +kernel
theorem dX12_areAlike_19 : decode cX12_areAlike 19 = .ok (.lconst 0, 1) := by decide +kernel
theorem dX12_areAlike_20 : decode cX12_areAlike 20 = .ok (.lcmp, 1) := by decide +kernel
theorem dX12_areAlike_21 : decode cX12_areAlike 21 = .ok (.ifCond .le 7, 3) := by decide +kernel
theorem dX12_areAlike_24 : decode cX12_areAlike 24 = .ok (.iconst 1, 1) := by decide +kernel
theorem dX12_areAlike_25 : decode cX12_areAlike 25 = .ok (.goto 4, 3) := by decide +kernel
theorem dX12_areAlike_28 : decode cX12_areAlike 28 = .ok (.iconst 0, 1) := by decide +kernel
theorem dX12_areAlike_29 : decode cX12_areAlike 29 = .ok (.ireturn, 1) := by decide +kernel
theorem dX12_crosses_0 : decode cX12_crosses 0 = .ok (.aload_n 0, 1) := by decide +kernel
theorem dX12_crosses_1 : decode cX12_crosses 1 = .ok (.iload_n 1, 1) := by decide +kernel
theorem dX12_crosses_2 : decode cX12_crosses 2 = .ok (.lload_n 2, 1) := by decide +kernel
theorem dX12_crosses_3 : decode cX12_crosses 3 = .ok (.lload 4, 2) := by decide +kernel
theorem dX12_crosses_5 : decode cX12_crosses 5 = .ok (.lload 6, 2) := by decide +kernel
theorem dX12_crosses_7 : decode cX12_crosses 7 = .ok (.invokevirtual 90, 3) := by decide +kernel
theorem dX12_crosses_10 : decode cX12_crosses 10 = .ok (.invokestatic 94, 3) := by decide +kernel
theorem dX12_crosses_13 : decode cX12_crosses 13 = .ok (.lstore 14, 2) := by decide +kernel
theorem dX12_crosses_15 : decode cX12_crosses 15 = .ok (.aload_n 0, 1) := by decide +kernel
theorem dX12_crosses_16 : decode cX12_crosses 16 = .ok (.iload_n 1, 1) := by decide +kernel
theorem dX12_crosses_17 : decode cX12_crosses 17 = .ok (.lload 8, 2) := by decide +kernel
theorem dX12_crosses_19 : decode cX12_crosses 19 = .ok (.lload 10, 2) := by decide +kernel
theorem dX12_crosses_21 : decode cX12_crosses 21 = .ok (.lload 12, 2) := by decide +kernel
theorem dX12_crosses_23 : decode cX12_crosses 23 = .ok (.invokevirtual 90, 3) := by decide +kernel
theorem dX12_crosses_26 : decode cX12_crosses 26 = .ok (.invokestatic 94, 3) := by decide +kernel
theorem dX12_crosses_29 : decode cX12_crosses 29 = .ok (.lstore 16, 2) := by decide +kernel
theorem dX12_crosses_31 : decode cX12_crosses 31 = .ok (.aload_n 0, 1) := by decide +kernel
theorem dX12_crosses_32 : decode cX12_crosses 32 = .ok (.lload_n 2, 1) := by decide +kernel
theorem dX12_crosses_33 : decode cX12_crosses 33 = .ok (.lload 16, 2) := by decide +kernel
theorem dX12_crosses_35 : decode cX12_crosses 35 = .ok (.lmul, 1) := by decide +kernel
theorem dX12_crosses_36 : decode cX12_crosses 36 = .ok (.lload 8, 2) := by decide +kernel
theorem dX12_crosses_38 : decode cX12_crosses 38 = .ok (.lload 14, 2) := by decide +kernel
theorem dX12_crosses_40 : decode cX12_crosses 40 = .ok (.lmul, 1) := by decide +kernel
theorem dX12_crosses_41 : decode cX12_crosses 41 = .ok (.ladd, 1) := by decide +kernel
theorem dX12_crosses_42 : decode cX12_crosses 42 = .ok (.putfield 98, 3) := by decide +kernel
theorem dX12_crosses_45 : decode cX12_crosses 45 = .ok (.aload_n 0, 1) := by decide +kernel
theorem dX12_crosses_46 : decode cX12_crosses 46 = .ok (.lload 4, 2) := by decide +kernel
theorem dX12_crosses_48 : decode cX12_crosses 48 = .ok (.lload 16, 2) := by decide +kernel
theorem dX12_crosses_50 : decode cX12_crosses 50 = .ok (.lmul, 1) := by decide +kernel
theorem dX12_crosses_51 : decode cX12_crosses 51 = .ok (.lload 10, 2) := by decide +kernel
theorem dX12_crosses_53 : decode cX12_crosses 53 = .ok (.lload 14, 2) := by decide +kernel
theorem dX12_crosses_55 : decode cX12_crosses 55 = .ok (.lmul, 1) := by decide +kernel
theorem dX12_crosses_56 : decode cX12_crosses 56 = .ok (.ladd, 1) := by decide +kernel
theorem dX12_crosses_57 : decode cX12_crosses 57 = .ok (.putfield 102, 3) := by decide +kernel
theorem dX12_crosses_60 : decode cX12_crosses 60 = .ok (.aload_n 0, 1) := by decide +kernel
theorem dX12_crosses_61 : decode cX12_crosses 61 = .ok (.lload 6, 2) := by decide +kernel
theorem dX12_crosses_63 : decode cX12_crosses 63 = .ok (.lload 16, 2) := by decide +kernel
theorem dX12_crosses_65 : decode cX12_crosses 65 = .ok (.lmul, 1) := by decide +kernel
theorem dX12_crosses_66 : decode cX12_crosses 66 = .ok (.lload 12, 2) := by decide +kernel
theorem dX12_crosses_68 : decode cX12_crosses 68 = .ok (.lload 14, 2) := by decide +kernel
theorem dX12_crosses_70 : decode cX12_crosses 70 = .ok (.lmul, 1) := by decide +kernel
theorem dX12_crosses_71 : decode cX12_crosses 71 = .ok (.ladd, 1) := by decide +kernel
theorem dX12_crosses_72 : decode cX12_crosses 72 = .ok (.putfield 105, 3) := by decide +kernel
theorem dX12_crosses_75 : decode cX12_crosses 75 = .ok (.aload_n 0, 1) := by decide +kernel
theorem dX12_crosses_76 : decode cX12_crosses 76 = .ok (.iload_n 1, 1) := by decide +kernel
theorem dX12_crosses_77 : decode cX12_crosses 77 = .ok (.invokevirtual 86, 3) := by decide +kernel
theorem dX12_crosses_80 : decode cX12_crosses 80 = .ok (.ifCond .eq 51, 3) := by decide +kernel
theorem dX12_crosses_83 : decode cX12_crosses 83 = .ok (.aload_n 0, 1) := by decide +kernel
theorem dX12_crosses_84 : decode cX12_crosses 84 = .ok (.iload_n 1, 1) := by decide +kernel
theorem dX12_crosses_85 : decode cX12_crosses 85 = .ok (.iconst 1, 1) := by decide +kernel
theorem dX12_crosses_86 : decode cX12_crosses 86 = .ok (.invokevirtual 72, 3) := by decide +kernel
theorem dX12_crosses_89 : decode cX12_crosses 89 = .ok (.i2l, 1) := by decide +kernel
theorem dX12_crosses_90 : decode cX12_crosses 90 = .ok (.aload_n 0, 1) := by decide +kernel
theorem dX12_crosses_91 : decode cX12_crosses 91 = .ok (.getfield 105, 3) := by decide +kernel
theorem dX12_crosses_94 : decode cX12_crosses 94 = .ok (.lmul, 1) := by decide +kernel
theorem dX12_crosses_95 : decode cX12_crosses 95 = .ok (.aload_n 0, 1) := by decide +kernel
theorem dX12_crosses_96 : decode cX12_crosses 96 = .ok (.getfield 102, 3) := by decide +kernel
theorem dX12_crosses_99 : decode cX12_crosses 99 = .ok (.lcmp, 1) := by decide +kernel
theorem dX12_crosses_100 : decode cX12_crosses 100 = .ok (.ifCond .gt 27, 3) := by decide +kernel
theorem dX12_crosses_103 : decode cX12_crosses 103 = .ok (.aload_n 0, 1) := by decide +kernel
theorem dX12_crosses_104 : decode cX12_crosses 104 = .ok (.getfield 102, 3) := by decide +kernel
theorem dX12_crosses_107 : decode cX12_crosses 107 = .ok (.aload_n 0, 1) := by decide +kernel
theorem dX12_crosses_108 : decode cX12_crosses 108 = .ok (.iload_n 1, 1) := by decide +kernel
theorem dX12_crosses_109 : decode cX12_crosses 109 = .ok (.iconst 3, 1) := by decide +kernel
theorem dX12_crosses_110 : decode cX12_crosses 110 = .ok (.invokevirtual 72, 3) := by decide +kernel
theorem dX12_crosses_113 : decode cX12_crosses 113 = .ok (.i2l, 1) := by decide +kernel
theorem dX12_crosses_114 : decode cX12_crosses 114 = .ok (.aload_n 0, 1) := by decide +kernel
theorem dX12_crosses_115 : decode cX12_crosses 115 = .ok (.getfield 105, 3) := by decide +kernel
theorem dX12_crosses_118 : decode cX12_crosses 118 = .ok (.lmul, 1) := by decide +kernel
theorem dX12_crosses_119 : decode cX12_crosses 119 = .ok (.lcmp, 1) := by decide +kernel
theorem dX12_crosses_120 : decode cX12_crosses 120 = .ok (.ifCond .gt 7, 3) := by decide +kernel
theorem dX12_crosses_123 : decode cX12_crosses 123 = .ok (.iconst 1, 1) := by decide +kernel
theorem dX12_crosses_124 : decode cX12_crosses 124 = .ok (.goto 52, 3) := by decide +kernel
theorem dX12_crosses_127 : decode cX12_crosses 127 = .ok (.iconst 0, 1) := by decide +kernel
theorem dX12_crosses_128 : decode cX12_crosses 128 = .ok (.goto 48, 3) := by decide +kernel
theorem dX12_crosses_131 : decode cX12_crosses 131 = .ok (.aload_n 0, 1) := by decide +kernel
theorem dX12_crosses_132 : decode cX12_crosses 132 = .ok (.iload_n 1, 1) := by decide +kernel
theorem dX12_crosses_133 : decode cX12_crosses 133 = .ok (.iconst 0, 1) := by decide +kernel
theorem dX12_crosses_134 : decode cX12_crosses 134 = .ok (.invokevirtual 72, 3) := by decide +kernel
theorem dX12_crosses_137 : decode cX12_crosses 137 = .ok (.i2l, 1) := by decide +kernel
theorem dX12_crosses_138 : decode cX12_crosses 138 = .ok (.aload_n 0, 1) := by decide +kernel
theorem dX12_crosses_139 : decode cX12_crosses 139 = .ok (.getfield 105, 3) := by decide +kernel
theorem dX12_crosses_142 : decode cX12_crosses 142 = .ok (.lmul, 1) := by decide +kernel
theorem dX12_crosses_143 : decode cX12_crosses 143 = .ok (.aload_n 0, 1) := by decide +kernel
theorem dX12_crosses_144 : decode cX12_crosses 144 = .ok (.getfield 98, 3) := by decide +kernel
theorem dX12_crosses_147 : decode cX12_crosses 147 = .ok (.lcmp, 1) := by decide +kernel
theorem dX12_crosses_148 : decode cX12_crosses 148 = .ok (.ifCond .gt 27, 3) := by decide +kernel
theorem dX12_crosses_151 : decode cX12_crosses 151 = .ok (.aload_n 0, 1) := by decide +kernel
theorem dX12_crosses_152 : decode cX12_crosses 152 = .ok (.getfield 98, 3) := by decide +kernel
theorem dX12_crosses_155 : decode cX12_crosses 155 = .ok (.aload_n 0, 1) := by decide +kernel
theorem dX12_crosses_156 : decode cX12_crosses 156 = .ok (.iload_n 1, 1) := by decide +kernel
theorem dX12_crosses_157 : decode cX12_crosses 157 = .ok (.iconst 2, 1) := by decide +kernel
theorem dX12_crosses_158 : decode cX12_crosses 158 = .ok (.invokevirtual 72, 3) := by decide +kernel
theorem dX12_crosses_161 : decode cX12_crosses 161 = .ok (.i2l, 1) := by decide +kernel
theorem dX12_crosses_162 : decode cX12_crosses 162 = .ok (.aload_n 0, 1) := by decide +kernel
theorem dX12_crosses_163 : decode cX12_crosses 163 = .ok (.getfield 105, 3) := by decide +kernel
theorem dX12_crosses_166 : decode cX12_crosses 166 = .ok (.lmul, 1) := by decide +kernel
theorem dX12_crosses_167 : decode cX12_crosses 167 = .ok (.lcmp, 1) := by decide +kernel
theorem dX12_crosses_168 : decode cX12_crosses 168 = .ok (.ifCond .gt 7, 3) := by decide +kernel
theorem dX12_crosses_171 : decode cX12_crosses 171 = .ok (.iconst 1, 1) := by decide +kernel
theorem dX12_crosses_172 : decode cX12_crosses 172 = .ok (.goto 4, 3) := by decide +kernel
theorem dX12_crosses_175 : decode cX12_crosses 175 = .ok (.iconst 0, 1) := by decide +kernel
theorem dX12_crosses_176 : decode cX12_crosses 176 = .ok (.ireturn, 1) := by decide +kernel
theorem dX12_weakens_0 : decode cX12_weakens 0 = .ok (.aload_n 0, 1) := by decide +kernel
theorem dX12_weakens_1 : decode cX12_weakens 1 = .ok (.aload_n 0, 1) := by decide +kernel
theorem dX12_weakens_2 : decode cX12_weakens 2 = .ok (.getfield 108, 3) := by decide +kernel
theorem dX12_weakens_5 : decode cX12_weakens 5 = .ok (.iload_n 1, 1) := by decide +kernel
theorem dX12_weakens_6 : decode cX12_weakens 6 = .ok (.i2l, 1) := by decide +kernel
theorem dX12_weakens_7 : decode cX12_weakens 7 = .ok (.lmul, 1) := by decide +kernel
theorem dX12_weakens_8 : decode cX12_weakens 8 = .ok (.ldc2_w 111, 3) := by decide +kernel
theorem dX12_weakens_11 : decode cX12_weakens 11 = .ok (.ldiv, 1) := by decide +kernel
theorem dX12_weakens_12 : decode cX12_weakens 12 = .ok (.putfield 108, 3) := by decide +kernel
theorem dX12_weakens_15 : decode cX12_weakens 15 = .ok (.return_, 1) := by decide +kernel
theorem dX12_leg_0 : decode cX12_leg 0 = .ok (.iconst 0, 1) := by decide +kernel
theorem dX12_leg_1 : decode cX12_leg 1 = .ok (.istore 13, 2) := by decide +kernel
theorem dX12_leg_3 : decode cX12_leg 3 = .ok (.iload 13, 2) := by decide +kernel
theorem dX12_leg_5 : decode cX12_leg 5 = .ok (.aload_n 0, 1) := by decide +kernel
theorem dX12_leg_6 : decode cX12_leg 6 = .ok (.getfield 7, 3) := by decide +kernel
theorem dX12_leg_9 : decode cX12_leg 9 = .ok (.iconst 0, 1) := by decide +kernel
theorem dX12_leg_10 : decode cX12_leg 10 = .ok (.iaload, 1) := by decide +kernel
theorem dX12_leg_11 : decode cX12_leg 11 = .ok (.if_icmp .ge 121, 3) := by decide +kernel
theorem dX12_leg_14 : decode cX12_leg 14 = .ok (.aload_n 0, 1) := by decide +kernel
theorem dX12_leg_15 : decode cX12_leg 15 = .ok (.iload 13, 2) := by decide +kernel
theorem dX12_leg_17 : decode cX12_leg 17 = .ok (.invokevirtual 113, 3) := by decide +kernel
theorem dX12_leg_20 : decode cX12_leg 20 = .ok (.ifCond .eq 106, 3) := by decide +kernel
theorem dX12_leg_23 : decode cX12_leg 23 = .ok (.aload_n 0, 1) := by decide +kernel
theorem dX12_leg_24 : decode cX12_leg 24 = .ok (.iload 13, 2) := by decide +kernel
theorem dX12_leg_26 : decode cX12_leg 26 = .ok (.lload_n 1, 1) := by decide +kernel
theorem dX12_leg_27 : decode cX12_leg 27 = .ok (.lload_n 3, 1) := by decide +kernel
theorem dX12_leg_28 : decode cX12_leg 28 = .ok (.lload 5, 2) := by decide +kernel
theorem dX12_leg_30 : decode cX12_leg 30 = .ok (.invokevirtual 90, 3) := by decide +kernel
theorem dX12_leg_33 : decode cX12_leg 33 = .ok (.aload_n 0, 1) := by decide +kernel
theorem dX12_leg_34 : decode cX12_leg 34 = .ok (.iload 13, 2) := by decide +kernel
theorem dX12_leg_36 : decode cX12_leg 36 = .ok (.lload 7, 2) := by decide +kernel
theorem dX12_leg_38 : decode cX12_leg 38 = .ok (.lload 9, 2) := by decide +kernel
theorem dX12_leg_40 : decode cX12_leg 40 = .ok (.lload 11, 2) := by decide +kernel
theorem dX12_leg_42 : decode cX12_leg 42 = .ok (.invokevirtual 90, 3) := by decide +kernel
theorem dX12_leg_45 : decode cX12_leg 45 = .ok (.invokestatic 116, 3) := by decide +kernel
theorem dX12_leg_48 : decode cX12_leg 48 = .ok (.ifCond .eq 78, 3) := by decide +kernel
theorem dX12_leg_51 : decode cX12_leg 51 = .ok (.aload_n 0, 1) := by decide +kernel
theorem dX12_leg_52 : decode cX12_leg 52 = .ok (.iload 13, 2) := by decide +kernel
theorem dX12_leg_54 : decode cX12_leg 54 = .ok (.lload_n 1, 1) := by decide +kernel
theorem dX12_leg_55 : decode cX12_leg 55 = .ok (.lload_n 3, 1) := by decide +kernel
theorem dX12_leg_56 : decode cX12_leg 56 = .ok (.lload 5, 2) := by decide +kernel
theorem dX12_leg_58 : decode cX12_leg 58 = .ok (.lload 7, 2) := by decide +kernel
theorem dX12_leg_60 : decode cX12_leg 60 = .ok (.lload 9, 2) := by decide +kernel
theorem dX12_leg_62 : decode cX12_leg 62 = .ok (.lload 11, 2) := by decide +kernel
theorem dX12_leg_64 : decode cX12_leg 64 = .ok (.invokevirtual 120, 3) := by decide +kernel
theorem dX12_leg_67 : decode cX12_leg 67 = .ok (.ifCond .ne 6, 3) := by decide +kernel
theorem dX12_leg_70 : decode cX12_leg 70 = .ok (.goto 56, 3) := by decide +kernel
theorem dX12_leg_73 : decode cX12_leg 73 = .ok (.aload_n 0, 1) := by decide +kernel
theorem dX12_leg_74 : decode cX12_leg 74 = .ok (.aload_n 0, 1) := by decide +kernel
theorem dX12_leg_75 : decode cX12_leg 75 = .ok (.getfield 124, 3) := by decide +kernel
theorem dX12_leg_78 : decode cX12_leg 78 = .ok (.ifCond .ne 21, 3) := by decide +kernel
theorem dX12_leg_81 : decode cX12_leg 81 = .ok (.aload_n 0, 1) := by decide +kernel
theorem dX12_leg_82 : decode cX12_leg 82 = .ok (.getfield 7, 3) := by decide +kernel
theorem dX12_leg_85 : decode cX12_leg 85 = .ok (.bipush 23, 2) := by decide +kernel
theorem dX12_leg_87 : decode cX12_leg 87 = .ok (.aload_n 0, 1) := by decide +kernel
theorem dX12_leg_88 : decode cX12_leg 88 = .ok (.iload 13, 2) := by decide +kernel
theorem dX12_leg_90 : decode cX12_leg 90 = .ok (.iconst 4, 1) := by decide +kernel
theorem dX12_leg_91 : decode cX12_leg 91 = .ok (.invokevirtual 72, 3) := by decide +kernel
theorem dX12_leg_94 : decode cX12_leg 94 = .ok (.iadd, 1) := by decide +kernel
theorem dX12_leg_95 : decode cX12_leg 95 = .ok (.iaload, 1) := by decide +kernel
theorem dX12_leg_96 : decode cX12_leg 96 = .ok (.ifCond .ne 7, 3) := by decide +kernel
theorem dX12_leg_99 : decode cX12_leg 99 = .ok (.iconst 1, 1) := by decide +kernel
theorem dX12_leg_100 : decode cX12_leg 100 = .ok (.goto 4, 3) := by decide +kernel
theorem dX12_leg_103 : decode cX12_leg 103 = .ok (.iconst 0, 1) := by decide +kernel
theorem dX12_leg_104 : decode cX12_leg 104 = .ok (.putfield 124, 3) := by decide +kernel
theorem dX12_leg_107 : decode cX12_leg 107 = .ok (.aload_n 0, 1) := by decide +kernel
theorem dX12_leg_108 : decode cX12_leg 108 = .ok (.aload_n 0, 1) := by decide +kernel
theorem dX12_leg_109 : decode cX12_leg 109 = .ok (.getfield 7, 3) := by decide +kernel
theorem dX12_leg_112 : decode cX12_leg 112 = .ok (.bipush 23, 2) := by decide +kernel
theorem dX12_leg_114 : decode cX12_leg 114 = .ok (.aload_n 0, 1) := by decide +kernel
theorem dX12_leg_115 : decode cX12_leg 115 = .ok (.iload 13, 2) := by decide +kernel
theorem dX12_leg_117 : decode cX12_leg 117 = .ok (.iconst 4, 1) := by decide +kernel
theorem dX12_leg_118 : decode cX12_leg 118 = .ok (.invokevirtual 72, 3) := by decide +kernel
theorem dX12_leg_121 : decode cX12_leg 121 = .ok (.iadd, 1) := by decide +kernel
theorem dX12_leg_122 : decode cX12_leg 122 = .ok (.iaload, 1) := by decide +kernel
theorem dX12_leg_123 : decode cX12_leg 123 = .ok (.invokevirtual 128, 3) := by decide +kernel
theorem dX12_leg_126 : decode cX12_leg 126 = .ok (.iinc 13 1, 3) := by decide +kernel
theorem dX12_leg_129 : decode cX12_leg 129 = .ok (.goto (-126), 3) := by decide +kernel
theorem dX12_leg_132 : decode cX12_leg 132 = .ok (.return_, 1) := by decide +kernel
theorem dX12_squares_0 : decode cX12_squares 0 = .ok (.lload_n 0, 1) := by decide +kernel
theorem dX12_squares_1 : decode cX12_squares 1 = .ok (.lload_n 0, 1) := by decide +kernel
theorem dX12_squares_2 : decode cX12_squares 2 = .ok (.lmul, 1) := by decide +kernel
theorem dX12_squares_3 : decode cX12_squares 3 = .ok (.lload_n 2, 1) := by decide +kernel
theorem dX12_squares_4 : decode cX12_squares 4 = .ok (.lload_n 2, 1) := by decide +kernel
theorem dX12_squares_5 : decode cX12_squares 5 = .ok (.lmul, 1) := by decide +kernel
theorem dX12_squares_6 : decode cX12_squares 6 = .ok (.ladd, 1) := by decide +kernel
theorem dX12_squares_7 : decode cX12_squares 7 = .ok (.lreturn, 1) := by decide +kernel
theorem dX12_root_0 : decode cX12_root 0 = .ok (.lconst 0, 1) := by decide +kernel
theorem dX12_root_1 : decode cX12_root 1 = .ok (.lstore_n 2, 1) := by decide +kernel
theorem dX12_root_2 : decode cX12_root 2 = .ok (.ldc2_w 132, 3) := by decide +kernel
theorem dX12_root_5 : decode cX12_root 5 = .ok (.lstore 4, 2) := by decide +kernel
theorem dX12_root_7 : decode cX12_root 7 = .ok (.lload_n 2, 1) := by decide +kernel
theorem dX12_root_8 : decode cX12_root 8 = .ok (.lload 4, 2) := by decide +kernel
theorem dX12_root_10 : decode cX12_root 10 = .ok (.lcmp, 1) := by decide +kernel
theorem dX12_root_11 : decode cX12_root 11 = .ok (.ifCond .ge 40, 3) := by decide +kernel
theorem dX12_root_14 : decode cX12_root 14 = .ok (.lload_n 2, 1) := by decide +kernel
theorem dX12_root_15 : decode cX12_root 15 = .ok (.lload 4, 2) := by decide +kernel
theorem dX12_root_17 : decode cX12_root 17 = .ok (.ladd, 1) := by decide +kernel
theorem dX12_root_18 : decode cX12_root 18 = .ok (.lconst 1, 1) := by decide +kernel
theorem dX12_root_19 : decode cX12_root 19 = .ok (.ladd, 1) := by decide +kernel
theorem dX12_root_20 : decode cX12_root 20 = .ok (.ldc2_w 134, 3) := by decide +kernel
theorem dX12_root_23 : decode cX12_root 23 = .ok (.ldiv, 1) := by decide +kernel
theorem dX12_root_24 : decode cX12_root 24 = .ok (.lstore 6, 2) := by decide +kernel
theorem dX12_root_26 : decode cX12_root 26 = .ok (.lload 6, 2) := by decide +kernel
theorem dX12_root_28 : decode cX12_root 28 = .ok (.lload 6, 2) := by decide +kernel
theorem dX12_root_30 : decode cX12_root 30 = .ok (.lmul, 1) := by decide +kernel
theorem dX12_root_31 : decode cX12_root 31 = .ok (.lload_n 0, 1) := by decide +kernel
theorem dX12_root_32 : decode cX12_root 32 = .ok (.lcmp, 1) := by decide +kernel
theorem dX12_root_33 : decode cX12_root 33 = .ok (.ifCond .gt 9, 3) := by decide +kernel
theorem dX12_root_36 : decode cX12_root 36 = .ok (.lload 6, 2) := by decide +kernel
theorem dX12_root_38 : decode cX12_root 38 = .ok (.lstore_n 2, 1) := by decide +kernel
theorem dX12_root_39 : decode cX12_root 39 = .ok (.goto 9, 3) := by decide +kernel
theorem dX12_root_42 : decode cX12_root 42 = .ok (.lload 6, 2) := by decide +kernel
theorem dX12_root_44 : decode cX12_root 44 = .ok (.lconst 1, 1) := by decide +kernel
theorem dX12_root_45 : decode cX12_root 45 = .ok (.lsub, 1) := by decide +kernel
theorem dX12_root_46 : decode cX12_root 46 = .ok (.lstore 4, 2) := by decide +kernel
theorem dX12_root_48 : decode cX12_root 48 = .ok (.goto (-41), 3) := by decide +kernel
theorem dX12_root_51 : decode cX12_root 51 = .ok (.lload_n 2, 1) := by decide +kernel
theorem dX12_root_52 : decode cX12_root 52 = .ok (.lreturn, 1) := by decide +kernel
theorem dX12_begins_0 : decode cX12_begins 0 = .ok (.aload_n 0, 1) := by decide +kernel
theorem dX12_begins_1 : decode cX12_begins 1 = .ok (.aload_n 0, 1) := by decide +kernel
theorem dX12_begins_2 : decode cX12_begins 2 = .ok (.getfield 136, 3) := by decide +kernel
theorem dX12_begins_5 : decode cX12_begins 5 = .ok (.i2l, 1) := by decide +kernel
theorem dX12_begins_6 : decode cX12_begins 6 = .ok (.ldc2_w 140, 3) := by decide +kernel
theorem dX12_begins_9 : decode cX12_begins 9 = .ok (.lmul, 1) := by decide +kernel
theorem dX12_begins_10 : decode cX12_begins 10 = .ok (.lload_n 1, 1) := by decide +kernel
theorem dX12_begins_11 : decode cX12_begins 11 = .ok (.lconst 0, 1) := by decide +kernel
theorem dX12_begins_12 : decode cX12_begins 12 = .ok (.lcmp, 1) := by decide +kernel
theorem dX12_begins_13 : decode cX12_begins 13 = .ok (.ifCond .ne 7, 3) := by decide +kernel
theorem dX12_begins_16 : decode cX12_begins 16 = .ok (.lconst 1, 1) := by decide +kernel
theorem dX12_begins_17 : decode cX12_begins 17 = .ok (.goto 4, 3) := by decide +kernel
theorem dX12_begins_20 : decode cX12_begins 20 = .ok (.lload_n 1, 1) := by decide +kernel
theorem dX12_begins_21 : decode cX12_begins 21 = .ok (.ldiv, 1) := by decide +kernel
theorem dX12_begins_22 : decode cX12_begins 22 = .ok (.putfield 108, 3) := by decide +kernel
theorem dX12_begins_25 : decode cX12_begins 25 = .ok (.aload_n 0, 1) := by decide +kernel
theorem dX12_begins_26 : decode cX12_begins 26 = .ok (.iconst 0, 1) := by decide +kernel
theorem dX12_begins_27 : decode cX12_begins 27 = .ok (.putfield 124, 3) := by decide +kernel
theorem dX12_begins_30 : decode cX12_begins 30 = .ok (.return_, 1) := by decide +kernel
theorem dX12_adds_0 : decode cX12_adds 0 = .ok (.aload_n 0, 1) := by decide +kernel
theorem dX12_adds_1 : decode cX12_adds 1 = .ok (.getfield 124, 3) := by decide +kernel
theorem dX12_adds_4 : decode cX12_adds 4 = .ok (.ifCond .eq 4, 3) := by decide +kernel
theorem dX12_adds_7 : decode cX12_adds 7 = .ok (.return_, 1) := by decide +kernel
theorem dX12_adds_8 : decode cX12_adds 8 = .ok (.aload_n 0, 1) := by decide +kernel
theorem dX12_adds_9 : decode cX12_adds 9 = .ok (.getfield 17, 3) := by decide +kernel
theorem dX12_adds_12 : decode cX12_adds 12 = .ok (.aload_n 0, 1) := by decide +kernel
theorem dX12_adds_13 : decode cX12_adds 13 = .ok (.getfield 142, 3) := by decide +kernel
theorem dX12_adds_16 : decode cX12_adds 16 = .ok (.iload_n 1, 1) := by decide +kernel
theorem dX12_adds_17 : decode cX12_adds 17 = .ok (.iastore, 1) := by decide +kernel
theorem dX12_adds_18 : decode cX12_adds 18 = .ok (.aload_n 0, 1) := by decide +kernel
theorem dX12_adds_19 : decode cX12_adds 19 = .ok (.getfield 20, 3) := by decide +kernel
theorem dX12_adds_22 : decode cX12_adds 22 = .ok (.aload_n 0, 1) := by decide +kernel
theorem dX12_adds_23 : decode cX12_adds 23 = .ok (.getfield 142, 3) := by decide +kernel
theorem dX12_adds_26 : decode cX12_adds 26 = .ok (.iload_n 2, 1) := by decide +kernel
theorem dX12_adds_27 : decode cX12_adds 27 = .ok (.iastore, 1) := by decide +kernel
theorem dX12_adds_28 : decode cX12_adds 28 = .ok (.aload_n 0, 1) := by decide +kernel
theorem dX12_adds_29 : decode cX12_adds 29 = .ok (.getfield 23, 3) := by decide +kernel
theorem dX12_adds_32 : decode cX12_adds 32 = .ok (.aload_n 0, 1) := by decide +kernel
theorem dX12_adds_33 : decode cX12_adds 33 = .ok (.getfield 142, 3) := by decide +kernel
theorem dX12_adds_36 : decode cX12_adds 36 = .ok (.iload_n 3, 1) := by decide +kernel
theorem dX12_adds_37 : decode cX12_adds 37 = .ok (.iastore, 1) := by decide +kernel
theorem dX12_adds_38 : decode cX12_adds 38 = .ok (.aload_n 0, 1) := by decide +kernel
theorem dX12_adds_39 : decode cX12_adds 39 = .ok (.getfield 26, 3) := by decide +kernel
theorem dX12_adds_42 : decode cX12_adds 42 = .ok (.aload_n 0, 1) := by decide +kernel
theorem dX12_adds_43 : decode cX12_adds 43 = .ok (.getfield 142, 3) := by decide +kernel
theorem dX12_adds_46 : decode cX12_adds 46 = .ok (.lload 4, 2) := by decide +kernel
theorem dX12_adds_48 : decode cX12_adds 48 = .ok (.l2i, 1) := by decide +kernel
theorem dX12_adds_49 : decode cX12_adds 49 = .ok (.iastore, 1) := by decide +kernel
theorem dX12_adds_50 : decode cX12_adds 50 = .ok (.aload_n 0, 1) := by decide +kernel
theorem dX12_adds_51 : decode cX12_adds 51 = .ok (.getfield 29, 3) := by decide +kernel
theorem dX12_adds_54 : decode cX12_adds 54 = .ok (.aload_n 0, 1) := by decide +kernel
theorem dX12_adds_55 : decode cX12_adds 55 = .ok (.getfield 142, 3) := by decide +kernel
theorem dX12_adds_58 : decode cX12_adds 58 = .ok (.lload 6, 2) := by decide +kernel
theorem dX12_adds_60 : decode cX12_adds 60 = .ok (.l2i, 1) := by decide +kernel
theorem dX12_adds_61 : decode cX12_adds 61 = .ok (.iastore, 1) := by decide +kernel
theorem dX12_adds_62 : decode cX12_adds 62 = .ok (.aload_n 0, 1) := by decide +kernel
theorem dX12_adds_63 : decode cX12_adds 63 = .ok (.getfield 32, 3) := by decide +kernel
theorem dX12_adds_66 : decode cX12_adds 66 = .ok (.aload_n 0, 1) := by decide +kernel
theorem dX12_adds_67 : decode cX12_adds 67 = .ok (.getfield 142, 3) := by decide +kernel
theorem dX12_adds_70 : decode cX12_adds 70 = .ok (.aload_n 0, 1) := by decide +kernel
theorem dX12_adds_71 : decode cX12_adds 71 = .ok (.getfield 108, 3) := by decide +kernel
theorem dX12_adds_74 : decode cX12_adds 74 = .ok (.l2i, 1) := by decide +kernel
theorem dX12_adds_75 : decode cX12_adds 75 = .ok (.iastore, 1) := by decide +kernel
theorem dX12_adds_76 : decode cX12_adds 76 = .ok (.aload_n 0, 1) := by decide +kernel
theorem dX12_adds_77 : decode cX12_adds 77 = .ok (.dup, 1) := by decide +kernel
theorem dX12_adds_78 : decode cX12_adds 78 = .ok (.getfield 142, 3) := by decide +kernel
theorem dX12_adds_81 : decode cX12_adds 81 = .ok (.iconst 1, 1) := by decide +kernel
theorem dX12_adds_82 : decode cX12_adds 82 = .ok (.iadd, 1) := by decide +kernel
theorem dX12_adds_83 : decode cX12_adds 83 = .ok (.putfield 142, 3) := by decide +kernel
theorem dX12_adds_86 : decode cX12_adds 86 = .ok (.return_, 1) := by decide +kernel
theorem dX12_mirrorX_0 : decode cX12_mirrorX 0 = .ok (.aload_n 0, 1) := by decide +kernel
theorem dX12_mirrorX_1 : decode cX12_mirrorX 1 = .ok (.iload_n 1, 1) := by decide +kernel
theorem dX12_mirrorX_2 : decode cX12_mirrorX 2 = .ok (.invokevirtual 86, 3) := by decide +kernel
theorem dX12_mirrorX_5 : decode cX12_mirrorX 5 = .ok (.ifCond .eq 19, 3) := by decide +kernel
theorem dX12_mirrorX_8 : decode cX12_mirrorX 8 = .ok (.ldc2_w 134, 3) := by decide +kernel
theorem dX12_mirrorX_11 : decode cX12_mirrorX 11 = .ok (.aload_n 0, 1) := by decide +kernel
theorem dX12_mirrorX_12 : decode cX12_mirrorX 12 = .ok (.iload_n 1, 1) := by decide +kernel
theorem dX12_mirrorX_13 : decode cX12_mirrorX 13 = .ok (.iconst 0, 1) := by decide +kernel
theorem dX12_mirrorX_14 : decode cX12_mirrorX 14 = .ok (.invokevirtual 72, 3) := by decide +kernel
theorem dX12_mirrorX_17 : decode cX12_mirrorX 17 = .ok (.i2l, 1) := by decide +kernel
theorem dX12_mirrorX_18 : decode cX12_mirrorX 18 = .ok (.lmul, 1) := by decide +kernel
theorem dX12_mirrorX_19 : decode cX12_mirrorX 19 = .ok (.lload_n 2, 1) := by decide +kernel
theorem dX12_mirrorX_20 : decode cX12_mirrorX 20 = .ok (.lsub, 1) := by decide +kernel
theorem dX12_mirrorX_21 : decode cX12_mirrorX 21 = .ok (.goto 4, 3) := by decide +kernel
theorem dX12_mirrorX_24 : decode cX12_mirrorX 24 = .ok (.lload_n 2, 1) := by decide +kernel
theorem dX12_mirrorX_25 : decode cX12_mirrorX 25 = .ok (.lreturn, 1) := by decide +kernel
theorem dX12_mirrorY_0 : decode cX12_mirrorY 0 = .ok (.aload_n 0, 1) := by decide +kernel
theorem dX12_mirrorY_1 : decode cX12_mirrorY 1 = .ok (.iload_n 1, 1) := by decide +kernel
theorem dX12_mirrorY_2 : decode cX12_mirrorY 2 = .ok (.invokevirtual 86, 3) := by decide +kernel
theorem dX12_mirrorY_5 : decode cX12_mirrorY 5 = .ok (.ifCond .eq 7, 3) := by decide +kernel
theorem dX12_mirrorY_8 : decode cX12_mirrorY 8 = .ok (.lload_n 2, 1) := by decide +kernel
theorem dX12_mirrorY_9 : decode cX12_mirrorY 9 = .ok (.goto 16, 3) := by decide +kernel
theorem dX12_mirrorY_12 : decode cX12_mirrorY 12 = .ok (.ldc2_w 134, 3) := by decide +kernel
theorem dX12_mirrorY_15 : decode cX12_mirrorY 15 = .ok (.aload_n 0, 1) := by decide +kernel
theorem dX12_mirrorY_16 : decode cX12_mirrorY 16 = .ok (.iload_n 1, 1) := by decide +kernel
theorem dX12_mirrorY_17 : decode cX12_mirrorY 17 = .ok (.iconst 1, 1) := by decide +kernel
theorem dX12_mirrorY_18 : decode cX12_mirrorY 18 = .ok (.invokevirtual 72, 3) := by decide +kernel
theorem dX12_mirrorY_21 : decode cX12_mirrorY 21 = .ok (.i2l, 1) := by decide +kernel
theorem dX12_mirrorY_22 : decode cX12_mirrorY 22 = .ok (.lmul, 1) := by decide +kernel
theorem dX12_mirrorY_23 : decode cX12_mirrorY 23 = .ok (.lload_n 2, 1) := by decide +kernel
theorem dX12_mirrorY_24 : decode cX12_mirrorY 24 = .ok (.lsub, 1) := by decide +kernel
theorem dX12_mirrorY_25 : decode cX12_mirrorY 25 = .ok (.lreturn, 1) := by decide +kernel
theorem dX12_byMirror_0 : decode cX12_byMirror 0 = .ok (.aload_n 0, 1) := by decide +kernel
theorem dX12_byMirror_1 : decode cX12_byMirror 1 = .ok (.iload_n 1, 1) := by decide +kernel
theorem dX12_byMirror_2 : decode cX12_byMirror 2 = .ok (.aload_n 0, 1) := by decide +kernel
theorem dX12_byMirror_3 : decode cX12_byMirror 3 = .ok (.getfield 145, 3) := by decide +kernel
theorem dX12_byMirror_6 : decode cX12_byMirror 6 = .ok (.i2l, 1) := by decide +kernel
theorem dX12_byMirror_7 : decode cX12_byMirror 7 = .ok (.aload_n 0, 1) := by decide +kernel
theorem dX12_byMirror_8 : decode cX12_byMirror 8 = .ok (.getfield 148, 3) := by decide +kernel
theorem dX12_byMirror_11 : decode cX12_byMirror 11 = .ok (.i2l, 1) := by decide +kernel
theorem dX12_byMirror_12 : decode cX12_byMirror 12 = .ok (.lconst 1, 1) := by decide +kernel
theorem dX12_byMirror_13 : decode cX12_byMirror 13 = .ok (.invokevirtual 90, 3) := by decide +kernel
theorem dX12_byMirror_16 : decode cX12_byMirror 16 = .ok (.aload_n 0, 1) := by decide +kernel
theorem dX12_byMirror_17 : decode cX12_byMirror 17 = .ok (.iload_n 1, 1) := by decide +kernel
theorem dX12_byMirror_18 : decode cX12_byMirror 18 = .ok (.aload_n 0, 1) := by decide +kernel
theorem dX12_byMirror_19 : decode cX12_byMirror 19 = .ok (.getfield 151, 3) := by decide +kernel
theorem dX12_byMirror_22 : decode cX12_byMirror 22 = .ok (.i2l, 1) := by decide +kernel
theorem dX12_byMirror_23 : decode cX12_byMirror 23 = .ok (.aload_n 0, 1) := by decide +kernel
theorem dX12_byMirror_24 : decode cX12_byMirror 24 = .ok (.getfield 154, 3) := by decide +kernel
theorem dX12_byMirror_27 : decode cX12_byMirror 27 = .ok (.i2l, 1) := by decide +kernel
theorem dX12_byMirror_28 : decode cX12_byMirror 28 = .ok (.lconst 1, 1) := by decide +kernel
theorem dX12_byMirror_29 : decode cX12_byMirror 29 = .ok (.invokevirtual 90, 3) := by decide +kernel
theorem dX12_byMirror_32 : decode cX12_byMirror 32 = .ok (.invokestatic 157, 3) := by decide +kernel
theorem dX12_byMirror_35 : decode cX12_byMirror 35 = .ok (.ifCond .ne 4, 3) := by decide +kernel
theorem dX12_byMirror_38 : decode cX12_byMirror 38 = .ok (.return_, 1) := by decide +kernel
theorem dX12_byMirror_39 : decode cX12_byMirror 39 = .ok (.aload_n 0, 1) := by decide +kernel
theorem dX12_byMirror_40 : decode cX12_byMirror 40 = .ok (.iload_n 1, 1) := by decide +kernel
theorem dX12_byMirror_41 : decode cX12_byMirror 41 = .ok (.aload_n 0, 1) := by decide +kernel
theorem dX12_byMirror_42 : decode cX12_byMirror 42 = .ok (.getfield 145, 3) := by decide +kernel
theorem dX12_byMirror_45 : decode cX12_byMirror 45 = .ok (.i2l, 1) := by decide +kernel
theorem dX12_byMirror_46 : decode cX12_byMirror 46 = .ok (.invokevirtual 160, 3) := by decide +kernel
theorem dX12_byMirror_49 : decode cX12_byMirror 49 = .ok (.lstore_n 2, 1) := by decide +kernel
theorem dX12_byMirror_50 : decode cX12_byMirror 50 = .ok (.aload_n 0, 1) := by decide +kernel
theorem dX12_byMirror_51 : decode cX12_byMirror 51 = .ok (.iload_n 1, 1) := by decide +kernel
theorem dX12_byMirror_52 : decode cX12_byMirror 52 = .ok (.aload_n 0, 1) := by decide +kernel
theorem dX12_byMirror_53 : decode cX12_byMirror 53 = .ok (.getfield 148, 3) := by decide +kernel
theorem dX12_byMirror_56 : decode cX12_byMirror 56 = .ok (.i2l, 1) := by decide +kernel
theorem dX12_byMirror_57 : decode cX12_byMirror 57 = .ok (.invokevirtual 164, 3) := by decide +kernel
theorem dX12_byMirror_60 : decode cX12_byMirror 60 = .ok (.lstore 4, 2) := by decide +kernel
theorem dX12_byMirror_62 : decode cX12_byMirror 62 = .ok (.aload_n 0, 1) := by decide +kernel
theorem dX12_byMirror_63 : decode cX12_byMirror 63 = .ok (.iload_n 1, 1) := by decide +kernel
theorem dX12_byMirror_64 : decode cX12_byMirror 64 = .ok (.lload_n 2, 1) := by decide +kernel
theorem dX12_byMirror_65 : decode cX12_byMirror 65 = .ok (.lload 4, 2) := by decide +kernel
theorem dX12_byMirror_67 : decode cX12_byMirror 67 = .ok (.lconst 1, 1) := by decide +kernel
theorem dX12_byMirror_68 : decode cX12_byMirror 68 = .ok (.aload_n 0, 1) := by decide +kernel
theorem dX12_byMirror_69 : decode cX12_byMirror 69 = .ok (.getfield 151, 3) := by decide +kernel
theorem dX12_byMirror_72 : decode cX12_byMirror 72 = .ok (.i2l, 1) := by decide +kernel
theorem dX12_byMirror_73 : decode cX12_byMirror 73 = .ok (.aload_n 0, 1) := by decide +kernel
theorem dX12_byMirror_74 : decode cX12_byMirror 74 = .ok (.getfield 154, 3) := by decide +kernel
theorem dX12_byMirror_77 : decode cX12_byMirror 77 = .ok (.i2l, 1) := by decide +kernel
theorem dX12_byMirror_78 : decode cX12_byMirror 78 = .ok (.lconst 1, 1) := by decide +kernel
theorem dX12_byMirror_79 : decode cX12_byMirror 79 = .ok (.invokevirtual 120, 3) := by decide +kernel
theorem dX12_byMirror_82 : decode cX12_byMirror 82 = .ok (.ifCond .ne 4, 3) := by decide +kernel
theorem dX12_byMirror_85 : decode cX12_byMirror 85 = .ok (.return_, 1) := by decide +kernel
theorem dX12_byMirror_86 : decode cX12_byMirror 86 = .ok (.aload_n 0, 1) := by decide +kernel
theorem dX12_byMirror_87 : decode cX12_byMirror 87 = .ok (.getfield 98, 3) := by decide +kernel
theorem dX12_byMirror_90 : decode cX12_byMirror 90 = .ok (.lstore 6, 2) := by decide +kernel
theorem dX12_byMirror_92 : decode cX12_byMirror 92 = .ok (.aload_n 0, 1) := by decide +kernel
theorem dX12_byMirror_93 : decode cX12_byMirror 93 = .ok (.getfield 102, 3) := by decide +kernel
theorem dX12_byMirror_96 : decode cX12_byMirror 96 = .ok (.lstore 8, 2) := by decide +kernel
theorem dX12_byMirror_98 : decode cX12_byMirror 98 = .ok (.aload_n 0, 1) := by decide +kernel
theorem dX12_byMirror_99 : decode cX12_byMirror 99 = .ok (.getfield 105, 3) := by decide +kernel
theorem dX12_byMirror_102 : decode cX12_byMirror 102 = .ok (.lstore 10, 2) := by decide +kernel
theorem dX12_byMirror_104 : decode cX12_byMirror 104 = .ok (.lload_n 2, 1) := by decide +kernel
theorem dX12_byMirror_105 : decode cX12_byMirror 105 = .ok (.aload_n 0, 1) := by decide +kernel
theorem dX12_byMirror_106 : decode cX12_byMirror 106 = .ok (.getfield 151, 3) := by decide +kernel
theorem dX12_byMirror_109 : decode cX12_byMirror 109 = .ok (.i2l, 1) := by decide +kernel
theorem dX12_byMirror_110 : decode cX12_byMirror 110 = .ok (.lsub, 1) := by decide +kernel
theorem dX12_byMirror_111 : decode cX12_byMirror 111 = .ok (.lload 4, 2) := by decide +kernel
theorem dX12_byMirror_113 : decode cX12_byMirror 113 = .ok (.aload_n 0, 1) := by decide +kernel
theorem dX12_byMirror_114 : decode cX12_byMirror 114 = .ok (.getfield 154, 3) := by decide +kernel
theorem dX12_byMirror_117 : decode cX12_byMirror 117 = .ok (.i2l, 1) := by decide +kernel
theorem dX12_byMirror_118 : decode cX12_byMirror 118 = .ok (.lsub, 1) := by decide +kernel
theorem dX12_byMirror_119 : decode cX12_byMirror 119 = .ok (.invokestatic 167, 3) := by decide +kernel
theorem dX12_byMirror_122 : decode cX12_byMirror 122 = .ok (.lstore 12, 2) := by decide +kernel
theorem dX12_byMirror_124 : decode cX12_byMirror 124 = .ok (.aload_n 0, 1) := by decide +kernel
theorem dX12_byMirror_125 : decode cX12_byMirror 125 = .ok (.lload 12, 2) := by decide +kernel
theorem dX12_byMirror_127 : decode cX12_byMirror 127 = .ok (.invokevirtual 171, 3) := by decide +kernel
theorem dX12_byMirror_130 : decode cX12_byMirror 130 = .ok (.aload_n 0, 1) := by decide +kernel
theorem dX12_byMirror_131 : decode cX12_byMirror 131 = .ok (.aload_n 0, 1) := by decide +kernel
theorem dX12_byMirror_132 : decode cX12_byMirror 132 = .ok (.getfield 7, 3) := by decide +kernel
theorem dX12_byMirror_135 : decode cX12_byMirror 135 = .ok (.bipush 18, 2) := by decide +kernel
theorem dX12_byMirror_137 : decode cX12_byMirror 137 = .ok (.aload_n 0, 1) := by decide +kernel
theorem dX12_byMirror_138 : decode cX12_byMirror 138 = .ok (.iload_n 1, 1) := by decide +kernel
theorem dX12_byMirror_139 : decode cX12_byMirror 139 = .ok (.iconst 4, 1) := by decide +kernel
theorem dX12_byMirror_140 : decode cX12_byMirror 140 = .ok (.invokevirtual 72, 3) := by decide +kernel
theorem dX12_byMirror_143 : decode cX12_byMirror 143 = .ok (.iadd, 1) := by decide +kernel
theorem dX12_byMirror_144 : decode cX12_byMirror 144 = .ok (.iaload, 1) := by decide +kernel
theorem dX12_byMirror_145 : decode cX12_byMirror 145 = .ok (.invokevirtual 128, 3) := by decide +kernel
theorem dX12_byMirror_148 : decode cX12_byMirror 148 = .ok (.aload_n 0, 1) := by decide +kernel
theorem dX12_byMirror_149 : decode cX12_byMirror 149 = .ok (.aload_n 0, 1) := by decide +kernel
theorem dX12_byMirror_150 : decode cX12_byMirror 150 = .ok (.getfield 145, 3) := by decide +kernel
theorem dX12_byMirror_153 : decode cX12_byMirror 153 = .ok (.i2l, 1) := by decide +kernel
theorem dX12_byMirror_154 : decode cX12_byMirror 154 = .ok (.aload_n 0, 1) := by decide +kernel
theorem dX12_byMirror_155 : decode cX12_byMirror 155 = .ok (.getfield 148, 3) := by decide +kernel
theorem dX12_byMirror_158 : decode cX12_byMirror 158 = .ok (.i2l, 1) := by decide +kernel
theorem dX12_byMirror_159 : decode cX12_byMirror 159 = .ok (.lconst 1, 1) := by decide +kernel
theorem dX12_byMirror_160 : decode cX12_byMirror 160 = .ok (.lload 6, 2) := by decide +kernel
theorem dX12_byMirror_162 : decode cX12_byMirror 162 = .ok (.lload 8, 2) := by decide +kernel
theorem dX12_byMirror_164 : decode cX12_byMirror 164 = .ok (.lload 10, 2) := by decide +kernel
theorem dX12_byMirror_166 : decode cX12_byMirror 166 = .ok (.invokevirtual 175, 3) := by decide +kernel
theorem dX12_byMirror_169 : decode cX12_byMirror 169 = .ok (.aload_n 0, 1) := by decide +kernel
theorem dX12_byMirror_170 : decode cX12_byMirror 170 = .ok (.lload 6, 2) := by decide +kernel
theorem dX12_byMirror_172 : decode cX12_byMirror 172 = .ok (.lload 8, 2) := by decide +kernel
theorem dX12_byMirror_174 : decode cX12_byMirror 174 = .ok (.lload 10, 2) := by decide +kernel
theorem dX12_byMirror_176 : decode cX12_byMirror 176 = .ok (.aload_n 0, 1) := by decide +kernel
theorem dX12_byMirror_177 : decode cX12_byMirror 177 = .ok (.getfield 151, 3) := by decide +kernel
theorem dX12_byMirror_180 : decode cX12_byMirror 180 = .ok (.i2l, 1) := by decide +kernel
theorem dX12_byMirror_181 : decode cX12_byMirror 181 = .ok (.aload_n 0, 1) := by decide +kernel
theorem dX12_byMirror_182 : decode cX12_byMirror 182 = .ok (.getfield 154, 3) := by decide +kernel
theorem dX12_byMirror_185 : decode cX12_byMirror 185 = .ok (.i2l, 1) := by decide +kernel
theorem dX12_byMirror_186 : decode cX12_byMirror 186 = .ok (.lconst 1, 1) := by decide +kernel
theorem dX12_byMirror_187 : decode cX12_byMirror 187 = .ok (.invokevirtual 175, 3) := by decide +kernel
theorem dX12_byMirror_190 : decode cX12_byMirror 190 = .ok (.aload_n 0, 1) := by decide +kernel
theorem dX12_byMirror_191 : decode cX12_byMirror 191 = .ok (.iconst 1, 1) := by decide +kernel
theorem dX12_byMirror_192 : decode cX12_byMirror 192 = .ok (.iload_n 1, 1) := by decide +kernel
theorem dX12_byMirror_193 : decode cX12_byMirror 193 = .ok (.iconst (-1), 1) := by decide +kernel
theorem dX12_byMirror_194 : decode cX12_byMirror 194 = .ok (.lload 12, 2) := by decide +kernel
theorem dX12_byMirror_196 : decode cX12_byMirror 196 = .ok (.lconst 0, 1) := by decide +kernel
theorem dX12_byMirror_197 : decode cX12_byMirror 197 = .ok (.invokevirtual 179, 3) := by decide +kernel
theorem dX12_byMirror_200 : decode cX12_byMirror 200 = .ok (.return_, 1) := by decide +kernel
theorem dX12_byMirrors_0 : decode cX12_byMirrors 0 = .ok (.aload_n 0, 1) := by decide +kernel
theorem dX12_byMirrors_1 : decode cX12_byMirrors 1 = .ok (.iload_n 1, 1) := by decide +kernel
theorem dX12_byMirrors_2 : decode cX12_byMirrors 2 = .ok (.aload_n 0, 1) := by decide +kernel
theorem dX12_byMirrors_3 : decode cX12_byMirrors 3 = .ok (.getfield 145, 3) := by decide +kernel
theorem dX12_byMirrors_6 : decode cX12_byMirrors 6 = .ok (.i2l, 1) := by decide +kernel
theorem dX12_byMirrors_7 : decode cX12_byMirrors 7 = .ok (.invokevirtual 160, 3) := by decide +kernel
theorem dX12_byMirrors_10 : decode cX12_byMirrors 10 = .ok (.lstore_n 3, 1) := by decide +kernel
theorem dX12_byMirrors_11 : decode cX12_byMirrors 11 = .ok (.aload_n 0, 1) := by decide +kernel
theorem dX12_byMirrors_12 : decode cX12_byMirrors 12 = .ok (.iload_n 1, 1) := by decide +kernel
theorem dX12_byMirrors_13 : decode cX12_byMirrors 13 = .ok (.aload_n 0, 1) := by decide +kernel
theorem dX12_byMirrors_14 : decode cX12_byMirrors 14 = .ok (.getfield 148, 3) := by decide +kernel
theorem dX12_byMirrors_17 : decode cX12_byMirrors 17 = .ok (.i2l, 1) := by decide +kernel
theorem dX12_byMirrors_18 : decode cX12_byMirrors 18 = .ok (.invokevirtual 164, 3) := by decide +kernel
theorem dX12_byMirrors_21 : decode cX12_byMirrors 21 = .ok (.lstore 5, 2) := by decide +kernel
theorem dX12_byMirrors_23 : decode cX12_byMirrors 23 = .ok (.aload_n 0, 1) := by decide +kernel
theorem dX12_byMirrors_24 : decode cX12_byMirrors 24 = .ok (.iload_n 2, 1) := by decide +kernel
theorem dX12_byMirrors_25 : decode cX12_byMirrors 25 = .ok (.lload_n 3, 1) := by decide +kernel
theorem dX12_byMirrors_26 : decode cX12_byMirrors 26 = .ok (.lload 5, 2) := by decide +kernel
theorem dX12_byMirrors_28 : decode cX12_byMirrors 28 = .ok (.lconst 1, 1) := by decide +kernel
theorem dX12_byMirrors_29 : decode cX12_byMirrors 29 = .ok (.invokevirtual 90, 3) := by decide +kernel
theorem dX12_byMirrors_32 : decode cX12_byMirrors 32 = .ok (.aload_n 0, 1) := by decide +kernel
theorem dX12_byMirrors_33 : decode cX12_byMirrors 33 = .ok (.iload_n 2, 1) := by decide +kernel
theorem dX12_byMirrors_34 : decode cX12_byMirrors 34 = .ok (.aload_n 0, 1) := by decide +kernel
theorem dX12_byMirrors_35 : decode cX12_byMirrors 35 = .ok (.getfield 151, 3) := by decide +kernel
theorem dX12_byMirrors_38 : decode cX12_byMirrors 38 = .ok (.i2l, 1) := by decide +kernel
theorem dX12_byMirrors_39 : decode cX12_byMirrors 39 = .ok (.aload_n 0, 1) := by decide +kernel
theorem dX12_byMirrors_40 : decode cX12_byMirrors 40 = .ok (.getfield 154, 3) := by decide +kernel
theorem dX12_byMirrors_43 : decode cX12_byMirrors 43 = .ok (.i2l, 1) := by decide +kernel
theorem dX12_byMirrors_44 : decode cX12_byMirrors 44 = .ok (.lconst 1, 1) := by decide +kernel
theorem dX12_byMirrors_45 : decode cX12_byMirrors 45 = .ok (.invokevirtual 90, 3) := by decide +kernel
theorem dX12_byMirrors_48 : decode cX12_byMirrors 48 = .ok (.invokestatic 157, 3) := by decide +kernel
theorem dX12_byMirrors_51 : decode cX12_byMirrors 51 = .ok (.ifCond .ne 4, 3) := by decide +kernel
theorem dX12_byMirrors_54 : decode cX12_byMirrors 54 = .ok (.return_, 1) := by decide +kernel
theorem dX12_byMirrors_55 : decode cX12_byMirrors 55 = .ok (.aload_n 0, 1) := by decide +kernel
theorem dX12_byMirrors_56 : decode cX12_byMirrors 56 = .ok (.iload_n 2, 1) := by decide +kernel
theorem dX12_byMirrors_57 : decode cX12_byMirrors 57 = .ok (.lload_n 3, 1) := by decide +kernel
theorem dX12_byMirrors_58 : decode cX12_byMirrors 58 = .ok (.invokevirtual 160, 3) := by decide +kernel
theorem dX12_byMirrors_61 : decode cX12_byMirrors 61 = .ok (.lstore 7, 2) := by decide +kernel
theorem dX12_byMirrors_63 : decode cX12_byMirrors 63 = .ok (.aload_n 0, 1) := by decide +kernel
theorem dX12_byMirrors_64 : decode cX12_byMirrors 64 = .ok (.iload_n 2, 1) := by decide +kernel
theorem dX12_byMirrors_65 : decode cX12_byMirrors 65 = .ok (.lload 5, 2) := by decide +kernel
theorem dX12_byMirrors_67 : decode cX12_byMirrors 67 = .ok (.invokevirtual 164, 3) := by decide +kernel
theorem dX12_byMirrors_70 : decode cX12_byMirrors 70 = .ok (.lstore 9, 2) := by decide +kernel
theorem dX12_byMirrors_72 : decode cX12_byMirrors 72 = .ok (.aload_n 0, 1) := by decide +kernel
theorem dX12_byMirrors_73 : decode cX12_byMirrors 73 = .ok (.iload_n 2, 1) := by decide +kernel
theorem dX12_byMirrors_74 : decode cX12_byMirrors 74 = .ok (.lload 7, 2) := by decide +kernel
theorem dX12_byMirrors_76 : decode cX12_byMirrors 76 = .ok (.lload 9, 2) := by decide +kernel
theorem dX12_byMirrors_78 : decode cX12_byMirrors 78 = .ok (.lconst 1, 1) := by decide +kernel
theorem dX12_byMirrors_79 : decode cX12_byMirrors 79 = .ok (.aload_n 0, 1) := by decide +kernel
theorem dX12_byMirrors_80 : decode cX12_byMirrors 80 = .ok (.getfield 151, 3) := by decide +kernel
theorem dX12_byMirrors_83 : decode cX12_byMirrors 83 = .ok (.i2l, 1) := by decide +kernel
theorem dX12_byMirrors_84 : decode cX12_byMirrors 84 = .ok (.aload_n 0, 1) := by decide +kernel
theorem dX12_byMirrors_85 : decode cX12_byMirrors 85 = .ok (.getfield 154, 3) := by decide +kernel
theorem dX12_byMirrors_88 : decode cX12_byMirrors 88 = .ok (.i2l, 1) := by decide +kernel
theorem dX12_byMirrors_89 : decode cX12_byMirrors 89 = .ok (.lconst 1, 1) := by decide +kernel
theorem dX12_byMirrors_90 : decode cX12_byMirrors 90 = .ok (.invokevirtual 120, 3) := by decide +kernel
theorem dX12_byMirrors_93 : decode cX12_byMirrors 93 = .ok (.ifCond .ne 4, 3) := by decide +kernel
theorem dX12_byMirrors_96 : decode cX12_byMirrors 96 = .ok (.return_, 1) := by decide +kernel
theorem dX12_byMirrors_97 : decode cX12_byMirrors 97 = .ok (.aload_n 0, 1) := by decide +kernel
theorem dX12_byMirrors_98 : decode cX12_byMirrors 98 = .ok (.getfield 98, 3) := by decide +kernel
theorem dX12_byMirrors_101 : decode cX12_byMirrors 101 = .ok (.lstore 11, 2) := by decide +kernel
theorem dX12_byMirrors_103 : decode cX12_byMirrors 103 = .ok (.aload_n 0, 1) := by decide +kernel
theorem dX12_byMirrors_104 : decode cX12_byMirrors 104 = .ok (.getfield 102, 3) := by decide +kernel
theorem dX12_byMirrors_107 : decode cX12_byMirrors 107 = .ok (.lstore 13, 2) := by decide +kernel
theorem dX12_byMirrors_109 : decode cX12_byMirrors 109 = .ok (.aload_n 0, 1) := by decide +kernel
theorem dX12_byMirrors_110 : decode cX12_byMirrors 110 = .ok (.getfield 105, 3) := by decide +kernel
theorem dX12_byMirrors_113 : decode cX12_byMirrors 113 = .ok (.lstore 15, 2) := by decide +kernel
theorem dX12_byMirrors_115 : decode cX12_byMirrors 115 = .ok (.aload_n 0, 1) := by decide +kernel
theorem dX12_byMirrors_116 : decode cX12_byMirrors 116 = .ok (.iload_n 1, 1) := by decide +kernel
theorem dX12_byMirrors_117 : decode cX12_byMirrors 117 = .ok (.aload_n 0, 1) := by decide +kernel
theorem dX12_byMirrors_118 : decode cX12_byMirrors 118 = .ok (.getfield 145, 3) := by decide +kernel
theorem dX12_byMirrors_121 : decode cX12_byMirrors 121 = .ok (.i2l, 1) := by decide +kernel
theorem dX12_byMirrors_122 : decode cX12_byMirrors 122 = .ok (.aload_n 0, 1) := by decide +kernel
theorem dX12_byMirrors_123 : decode cX12_byMirrors 123 = .ok (.getfield 148, 3) := by decide +kernel
theorem dX12_byMirrors_126 : decode cX12_byMirrors 126 = .ok (.i2l, 1) := by decide +kernel
theorem dX12_byMirrors_127 : decode cX12_byMirrors 127 = .ok (.lconst 1, 1) := by decide +kernel
theorem dX12_byMirrors_128 : decode cX12_byMirrors 128 = .ok (.invokevirtual 90, 3) := by decide +kernel
theorem dX12_byMirrors_131 : decode cX12_byMirrors 131 = .ok (.aload_n 0, 1) := by decide +kernel
theorem dX12_byMirrors_132 : decode cX12_byMirrors 132 = .ok (.iload_n 1, 1) := by decide +kernel
theorem dX12_byMirrors_133 : decode cX12_byMirrors 133 = .ok (.lload 11, 2) := by decide +kernel
theorem dX12_byMirrors_135 : decode cX12_byMirrors 135 = .ok (.lload 13, 2) := by decide +kernel
theorem dX12_byMirrors_137 : decode cX12_byMirrors 137 = .ok (.lload 15, 2) := by decide +kernel
theorem dX12_byMirrors_139 : decode cX12_byMirrors 139 = .ok (.invokevirtual 90, 3) := by decide +kernel
theorem dX12_byMirrors_142 : decode cX12_byMirrors 142 = .ok (.invokestatic 157, 3) := by decide +kernel
theorem dX12_byMirrors_145 : decode cX12_byMirrors 145 = .ok (.ifCond .eq 21, 3) := by decide +kernel
theorem dX12_byMirrors_148 : decode cX12_byMirrors 148 = .ok (.aload_n 0, 1) := by decide +kernel
theorem dX12_byMirrors_149 : decode cX12_byMirrors 149 = .ok (.iload_n 1, 1) := by decide +kernel
theorem dX12_byMirrors_150 : decode cX12_byMirrors 150 = .ok (.lload_n 3, 1) := by decide +kernel
theorem dX12_byMirrors_151 : decode cX12_byMirrors 151 = .ok (.lload 5, 2) := by decide +kernel
theorem dX12_byMirrors_153 : decode cX12_byMirrors 153 = .ok (.lconst 1, 1) := by decide +kernel
theorem dX12_byMirrors_154 : decode cX12_byMirrors 154 = .ok (.lload 11, 2) := by decide +kernel
theorem dX12_byMirrors_156 : decode cX12_byMirrors 156 = .ok (.lload 13, 2) := by decide +kernel
theorem dX12_byMirrors_158 : decode cX12_byMirrors 158 = .ok (.lload 15, 2) := by decide +kernel
theorem dX12_byMirrors_160 : decode cX12_byMirrors 160 = .ok (.invokevirtual 120, 3) := by decide +kernel
theorem dX12_byMirrors_163 : decode cX12_byMirrors 163 = .ok (.ifCond .ne 4, 3) := by decide +kernel
theorem dX12_byMirrors_166 : decode cX12_byMirrors 166 = .ok (.return_, 1) := by decide +kernel
theorem dX12_byMirrors_167 : decode cX12_byMirrors 167 = .ok (.aload_n 0, 1) := by decide +kernel
theorem dX12_byMirrors_168 : decode cX12_byMirrors 168 = .ok (.getfield 98, 3) := by decide +kernel
theorem dX12_byMirrors_171 : decode cX12_byMirrors 171 = .ok (.lstore 17, 2) := by decide +kernel
theorem dX12_byMirrors_173 : decode cX12_byMirrors 173 = .ok (.aload_n 0, 1) := by decide +kernel
theorem dX12_byMirrors_174 : decode cX12_byMirrors 174 = .ok (.getfield 102, 3) := by decide +kernel
theorem dX12_byMirrors_177 : decode cX12_byMirrors 177 = .ok (.lstore 19, 2) := by decide +kernel
theorem dX12_byMirrors_179 : decode cX12_byMirrors 179 = .ok (.aload_n 0, 1) := by decide +kernel
theorem dX12_byMirrors_180 : decode cX12_byMirrors 180 = .ok (.getfield 105, 3) := by decide +kernel
theorem dX12_byMirrors_183 : decode cX12_byMirrors 183 = .ok (.lstore 21, 2) := by decide +kernel
theorem dX12_byMirrors_185 : decode cX12_byMirrors 185 = .ok (.lload 7, 2) := by decide +kernel
theorem dX12_byMirrors_187 : decode cX12_byMirrors 187 = .ok (.aload_n 0, 1) := by decide +kernel
theorem dX12_byMirrors_188 : decode cX12_byMirrors 188 = .ok (.getfield 151, 3) := by decide +kernel
theorem dX12_byMirrors_191 : decode cX12_byMirrors 191 = .ok (.i2l, 1) := by decide +kernel
theorem dX12_byMirrors_192 : decode cX12_byMirrors 192 = .ok (.lsub, 1) := by decide +kernel
theorem dX12_byMirrors_193 : decode cX12_byMirrors 193 = .ok (.lload 9, 2) := by decide +kernel
theorem dX12_byMirrors_195 : decode cX12_byMirrors 195 = .ok (.aload_n 0, 1) := by decide +kernel
theorem dX12_byMirrors_196 : decode cX12_byMirrors 196 = .ok (.getfield 154, 3) := by decide +kernel
theorem dX12_byMirrors_199 : decode cX12_byMirrors 199 = .ok (.i2l, 1) := by decide +kernel
theorem dX12_byMirrors_200 : decode cX12_byMirrors 200 = .ok (.lsub, 1) := by decide +kernel
theorem dX12_byMirrors_201 : decode cX12_byMirrors 201 = .ok (.invokestatic 167, 3) := by decide +kernel
theorem dX12_byMirrors_204 : decode cX12_byMirrors 204 = .ok (.lstore 23, 2) := by decide +kernel
theorem dX12_byMirrors_206 : decode cX12_byMirrors 206 = .ok (.aload_n 0, 1) := by decide +kernel
theorem dX12_byMirrors_207 : decode cX12_byMirrors 207 = .ok (.lload 23, 2) := by decide +kernel
theorem dX12_byMirrors_209 : decode cX12_byMirrors 209 = .ok (.invokevirtual 171, 3) := by decide +kernel
theorem dX12_byMirrors_212 : decode cX12_byMirrors 212 = .ok (.aload_n 0, 1) := by decide +kernel
theorem dX12_byMirrors_213 : decode cX12_byMirrors 213 = .ok (.aload_n 0, 1) := by decide +kernel
theorem dX12_byMirrors_214 : decode cX12_byMirrors 214 = .ok (.getfield 7, 3) := by decide +kernel
theorem dX12_byMirrors_217 : decode cX12_byMirrors 217 = .ok (.bipush 18, 2) := by decide +kernel
theorem dX12_byMirrors_219 : decode cX12_byMirrors 219 = .ok (.aload_n 0, 1) := by decide +kernel
theorem dX12_byMirrors_220 : decode cX12_byMirrors 220 = .ok (.iload_n 1, 1) := by decide +kernel
theorem dX12_byMirrors_221 : decode cX12_byMirrors 221 = .ok (.iconst 4, 1) := by decide +kernel
theorem dX12_byMirrors_222 : decode cX12_byMirrors 222 = .ok (.invokevirtual 72, 3) := by decide +kernel
theorem dX12_byMirrors_225 : decode cX12_byMirrors 225 = .ok (.iadd, 1) := by decide +kernel
theorem dX12_byMirrors_226 : decode cX12_byMirrors 226 = .ok (.iaload, 1) := by decide +kernel
theorem dX12_byMirrors_227 : decode cX12_byMirrors 227 = .ok (.invokevirtual 128, 3) := by decide +kernel
theorem dX12_byMirrors_230 : decode cX12_byMirrors 230 = .ok (.aload_n 0, 1) := by decide +kernel
theorem dX12_byMirrors_231 : decode cX12_byMirrors 231 = .ok (.aload_n 0, 1) := by decide +kernel
theorem dX12_byMirrors_232 : decode cX12_byMirrors 232 = .ok (.getfield 7, 3) := by decide +kernel
theorem dX12_byMirrors_235 : decode cX12_byMirrors 235 = .ok (.bipush 18, 2) := by decide +kernel
theorem dX12_byMirrors_237 : decode cX12_byMirrors 237 = .ok (.aload_n 0, 1) := by decide +kernel
theorem dX12_byMirrors_238 : decode cX12_byMirrors 238 = .ok (.iload_n 2, 1) := by decide +kernel
theorem dX12_byMirrors_239 : decode cX12_byMirrors 239 = .ok (.iconst 4, 1) := by decide +kernel
theorem dX12_byMirrors_240 : decode cX12_byMirrors 240 = .ok (.invokevirtual 72, 3) := by decide +kernel
theorem dX12_byMirrors_243 : decode cX12_byMirrors 243 = .ok (.iadd, 1) := by decide +kernel
theorem dX12_byMirrors_244 : decode cX12_byMirrors 244 = .ok (.iaload, 1) := by decide +kernel
theorem dX12_byMirrors_245 : decode cX12_byMirrors 245 = .ok (.invokevirtual 128, 3) := by decide +kernel
theorem dX12_byMirrors_248 : decode cX12_byMirrors 248 = .ok (.aload_n 0, 1) := by decide +kernel
theorem dX12_byMirrors_249 : decode cX12_byMirrors 249 = .ok (.aload_n 0, 1) := by decide +kernel
theorem dX12_byMirrors_250 : decode cX12_byMirrors 250 = .ok (.getfield 145, 3) := by decide +kernel
theorem dX12_byMirrors_253 : decode cX12_byMirrors 253 = .ok (.i2l, 1) := by decide +kernel
theorem dX12_byMirrors_254 : decode cX12_byMirrors 254 = .ok (.aload_n 0, 1) := by decide +kernel
theorem dX12_byMirrors_255 : decode cX12_byMirrors 255 = .ok (.getfield 148, 3) := by decide +kernel
theorem dX12_byMirrors_258 : decode cX12_byMirrors 258 = .ok (.i2l, 1) := by decide +kernel
theorem dX12_byMirrors_259 : decode cX12_byMirrors 259 = .ok (.lconst 1, 1) := by decide +kernel
theorem dX12_byMirrors_260 : decode cX12_byMirrors 260 = .ok (.lload 17, 2) := by decide +kernel
theorem dX12_byMirrors_262 : decode cX12_byMirrors 262 = .ok (.lload 19, 2) := by decide +kernel
theorem dX12_byMirrors_264 : decode cX12_byMirrors 264 = .ok (.lload 21, 2) := by decide +kernel
theorem dX12_byMirrors_266 : decode cX12_byMirrors 266 = .ok (.invokevirtual 175, 3) := by decide +kernel
theorem dX12_byMirrors_269 : decode cX12_byMirrors 269 = .ok (.aload_n 0, 1) := by decide +kernel
theorem dX12_byMirrors_270 : decode cX12_byMirrors 270 = .ok (.lload 17, 2) := by decide +kernel
theorem dX12_byMirrors_272 : decode cX12_byMirrors 272 = .ok (.lload 19, 2) := by decide +kernel
theorem dX12_byMirrors_274 : decode cX12_byMirrors 274 = .ok (.lload 21, 2) := by decide +kernel
theorem dX12_byMirrors_276 : decode cX12_byMirrors 276 = .ok (.lload 11, 2) := by decide +kernel
theorem dX12_byMirrors_278 : decode cX12_byMirrors 278 = .ok (.lload 13, 2) := by decide +kernel
theorem dX12_byMirrors_280 : decode cX12_byMirrors 280 = .ok (.lload 15, 2) := by decide +kernel
theorem dX12_byMirrors_282 : decode cX12_byMirrors 282 = .ok (.invokevirtual 175, 3) := by decide +kernel
theorem dX12_byMirrors_285 : decode cX12_byMirrors 285 = .ok (.aload_n 0, 1) := by decide +kernel
theorem dX12_byMirrors_286 : decode cX12_byMirrors 286 = .ok (.lload 11, 2) := by decide +kernel
theorem dX12_byMirrors_288 : decode cX12_byMirrors 288 = .ok (.lload 13, 2) := by decide +kernel
theorem dX12_byMirrors_290 : decode cX12_byMirrors 290 = .ok (.lload 15, 2) := by decide +kernel
theorem dX12_byMirrors_292 : decode cX12_byMirrors 292 = .ok (.aload_n 0, 1) := by decide +kernel
theorem dX12_byMirrors_293 : decode cX12_byMirrors 293 = .ok (.getfield 151, 3) := by decide +kernel
theorem dX12_byMirrors_296 : decode cX12_byMirrors 296 = .ok (.i2l, 1) := by decide +kernel
theorem dX12_byMirrors_297 : decode cX12_byMirrors 297 = .ok (.aload_n 0, 1) := by decide +kernel
theorem dX12_byMirrors_298 : decode cX12_byMirrors 298 = .ok (.getfield 154, 3) := by decide +kernel
theorem dX12_byMirrors_301 : decode cX12_byMirrors 301 = .ok (.i2l, 1) := by decide +kernel
theorem dX12_byMirrors_302 : decode cX12_byMirrors 302 = .ok (.lconst 1, 1) := by decide +kernel
theorem dX12_byMirrors_303 : decode cX12_byMirrors 303 = .ok (.invokevirtual 175, 3) := by decide +kernel
theorem dX12_byMirrors_306 : decode cX12_byMirrors 306 = .ok (.aload_n 0, 1) := by decide +kernel
theorem dX12_byMirrors_307 : decode cX12_byMirrors 307 = .ok (.iconst 2, 1) := by decide +kernel
theorem dX12_byMirrors_308 : decode cX12_byMirrors 308 = .ok (.iload_n 1, 1) := by decide +kernel
theorem dX12_byMirrors_309 : decode cX12_byMirrors 309 = .ok (.iload_n 2, 1) := by decide +kernel
theorem dX12_byMirrors_310 : decode cX12_byMirrors 310 = .ok (.lload 23, 2) := by decide +kernel
theorem dX12_byMirrors_312 : decode cX12_byMirrors 312 = .ok (.lconst 0, 1) := by decide +kernel
theorem dX12_byMirrors_313 : decode cX12_byMirrors 313 = .ok (.invokevirtual 179, 3) := by decide +kernel
theorem dX12_byMirrors_316 : decode cX12_byMirrors 316 = .ok (.return_, 1) := by decide +kernel
theorem dX12_isEndAhead_0 : decode cX12_isEndAhead 0 = .ok (.iconst 0, 1) := by decide +kernel
theorem dX12_isEndAhead_1 : decode cX12_isEndAhead 1 = .ok (.istore 4, 2) := by decide +kernel
theorem dX12_isEndAhead_3 : decode cX12_isEndAhead 3 = .ok (.iconst 0, 1) := by decide +kernel
theorem dX12_isEndAhead_4 : decode cX12_isEndAhead 4 = .ok (.istore 5, 2) := by decide +kernel
theorem dX12_isEndAhead_6 : decode cX12_isEndAhead 6 = .ok (.iload 5, 2) := by decide +kernel
theorem dX12_isEndAhead_8 : decode cX12_isEndAhead 8 = .ok (.iload_n 1, 1) := by decide +kernel
theorem dX12_isEndAhead_9 : decode cX12_isEndAhead 9 = .ok (.if_icmp .ge 74, 3) := by decide +kernel
theorem dX12_isEndAhead_12 : decode cX12_isEndAhead 12 = .ok (.iload 4, 2) := by decide +kernel
theorem dX12_isEndAhead_14 : decode cX12_isEndAhead 14 = .ok (.ifCond .ne 69, 3) := by decide +kernel
theorem dX12_isEndAhead_17 : decode cX12_isEndAhead 17 = .ok (.aload_n 0, 1) := by decide +kernel
theorem dX12_isEndAhead_18 : decode cX12_isEndAhead 18 = .ok (.iload 5, 2) := by decide +kernel
theorem dX12_isEndAhead_20 : decode cX12_isEndAhead 20 = .ok (.invokevirtual 113, 3) := by decide +kernel
theorem dX12_isEndAhead_23 : decode cX12_isEndAhead 23 = .ok (.ifCond .eq 51, 3) := by decide +kernel
theorem dX12_isEndAhead_26 : decode cX12_isEndAhead 26 = .ok (.aload_n 0, 1) := by decide +kernel
theorem dX12_isEndAhead_27 : decode cX12_isEndAhead 27 = .ok (.iload 5, 2) := by decide +kernel
theorem dX12_isEndAhead_29 : decode cX12_isEndAhead 29 = .ok (.iconst 0, 1) := by decide +kernel
theorem dX12_isEndAhead_30 : decode cX12_isEndAhead 30 = .ok (.invokevirtual 72, 3) := by decide +kernel
theorem dX12_isEndAhead_33 : decode cX12_isEndAhead 33 = .ok (.iload_n 2, 1) := by decide +kernel
theorem dX12_isEndAhead_34 : decode cX12_isEndAhead 34 = .ok (.if_icmp .ne 14, 3) := by decide +kernel
theorem dX12_isEndAhead_37 : decode cX12_isEndAhead 37 = .ok (.aload_n 0, 1) := by decide +kernel
theorem dX12_isEndAhead_38 : decode cX12_isEndAhead 38 = .ok (.iload 5, 2) := by decide +kernel
theorem dX12_isEndAhead_40 : decode cX12_isEndAhead 40 = .ok (.iconst 1, 1) := by decide +kernel
theorem dX12_isEndAhead_41 : decode cX12_isEndAhead 41 = .ok (.invokevirtual 72, 3) := by decide +kernel
theorem dX12_isEndAhead_44 : decode cX12_isEndAhead 44 = .ok (.iload_n 3, 1) := by decide +kernel
theorem dX12_isEndAhead_45 : decode cX12_isEndAhead 45 = .ok (.if_icmp .eq 25, 3) := by decide +kernel
theorem dX12_isEndAhead_48 : decode cX12_isEndAhead 48 = .ok (.aload_n 0, 1) := by decide +kernel
theorem dX12_isEndAhead_49 : decode cX12_isEndAhead 49 = .ok (.iload 5, 2) := by decide +kernel
theorem dX12_isEndAhead_51 : decode cX12_isEndAhead 51 = .ok (.iconst 2, 1) := by decide +kernel
theorem dX12_isEndAhead_52 : decode cX12_isEndAhead 52 = .ok (.invokevirtual 72, 3) := by decide +kernel
theorem dX12_isEndAhead_55 : decode cX12_isEndAhead 55 = .ok (.iload_n 2, 1) := by decide +kernel
theorem dX12_isEndAhead_56 : decode cX12_isEndAhead 56 = .ok (.if_icmp .ne 18, 3) := by decide +kernel
theorem dX12_isEndAhead_59 : decode cX12_isEndAhead 59 = .ok (.aload_n 0, 1) := by decide +kernel
theorem dX12_isEndAhead_60 : decode cX12_isEndAhead 60 = .ok (.iload 5, 2) := by decide +kernel
theorem dX12_isEndAhead_62 : decode cX12_isEndAhead 62 = .ok (.iconst 3, 1) := by decide +kernel
theorem dX12_isEndAhead_63 : decode cX12_isEndAhead 63 = .ok (.invokevirtual 72, 3) := by decide +kernel
theorem dX12_isEndAhead_66 : decode cX12_isEndAhead 66 = .ok (.iload_n 3, 1) := by decide +kernel
theorem dX12_isEndAhead_67 : decode cX12_isEndAhead 67 = .ok (.if_icmp .ne 7, 3) := by decide +kernel
theorem dX12_isEndAhead_70 : decode cX12_isEndAhead 70 = .ok (.iconst 1, 1) := by decide +kernel
theorem dX12_isEndAhead_71 : decode cX12_isEndAhead 71 = .ok (.goto 4, 3) := by decide +kernel
theorem dX12_isEndAhead_74 : decode cX12_isEndAhead 74 = .ok (.iconst 0, 1) := by decide +kernel
theorem dX12_isEndAhead_75 : decode cX12_isEndAhead 75 = .ok (.istore 4, 2) := by decide +kernel
theorem dX12_isEndAhead_77 : decode cX12_isEndAhead 77 = .ok (.iinc 5 1, 3) := by decide +kernel
theorem dX12_isEndAhead_80 : decode cX12_isEndAhead 80 = .ok (.goto (-74), 3) := by decide +kernel
theorem dX12_isEndAhead_83 : decode cX12_isEndAhead 83 = .ok (.iload 4, 2) := by decide +kernel
theorem dX12_isEndAhead_85 : decode cX12_isEndAhead 85 = .ok (.ireturn, 1) := by decide +kernel
theorem dX12_byCorner_0 : decode cX12_byCorner 0 = .ok (.aload_n 0, 1) := by decide +kernel
theorem dX12_byCorner_1 : decode cX12_byCorner 1 = .ok (.iload_n 1, 1) := by decide +kernel
theorem dX12_byCorner_2 : decode cX12_byCorner 2 = .ok (.iconst 2, 1) := by decide +kernel
theorem dX12_byCorner_3 : decode cX12_byCorner 3 = .ok (.iload_n 2, 1) := by decide +kernel
theorem dX12_byCorner_4 : decode cX12_byCorner 4 = .ok (.imul, 1) := by decide +kernel
theorem dX12_byCorner_5 : decode cX12_byCorner 5 = .ok (.invokevirtual 72, 3) := by decide +kernel
theorem dX12_byCorner_8 : decode cX12_byCorner 8 = .ok (.istore_n 3, 1) := by decide +kernel
theorem dX12_byCorner_9 : decode cX12_byCorner 9 = .ok (.aload_n 0, 1) := by decide +kernel
theorem dX12_byCorner_10 : decode cX12_byCorner 10 = .ok (.iload_n 1, 1) := by decide +kernel
theorem dX12_byCorner_11 : decode cX12_byCorner 11 = .ok (.iconst 2, 1) := by decide +kernel
theorem dX12_byCorner_12 : decode cX12_byCorner 12 = .ok (.iload_n 2, 1) := by decide +kernel
theorem dX12_byCorner_13 : decode cX12_byCorner 13 = .ok (.imul, 1) := by decide +kernel
theorem dX12_byCorner_14 : decode cX12_byCorner 14 = .ok (.iconst 1, 1) := by decide +kernel
theorem dX12_byCorner_15 : decode cX12_byCorner 15 = .ok (.iadd, 1) := by decide +kernel
theorem dX12_byCorner_16 : decode cX12_byCorner 16 = .ok (.invokevirtual 72, 3) := by decide +kernel
theorem dX12_byCorner_19 : decode cX12_byCorner 19 = .ok (.istore 4, 2) := by decide +kernel
theorem dX12_byCorner_21 : decode cX12_byCorner 21 = .ok (.iload_n 3, 1) := by decide +kernel
theorem dX12_byCorner_22 : decode cX12_byCorner 22 = .ok (.aload_n 0, 1) := by decide +kernel
theorem dX12_byCorner_23 : decode cX12_byCorner 23 = .ok (.getfield 145, 3) := by decide +kernel
theorem dX12_byCorner_26 : decode cX12_byCorner 26 = .ok (.if_icmp .ne 12, 3) := by decide +kernel
theorem dX12_byCorner_29 : decode cX12_byCorner 29 = .ok (.iload 4, 2) := by decide +kernel
theorem dX12_byCorner_31 : decode cX12_byCorner 31 = .ok (.aload_n 0, 1) := by decide +kernel
theorem dX12_byCorner_32 : decode cX12_byCorner 32 = .ok (.getfield 148, 3) := by decide +kernel
theorem dX12_byCorner_35 : decode cX12_byCorner 35 = .ok (.if_icmp .eq 31, 3) := by decide +kernel
theorem dX12_byCorner_38 : decode cX12_byCorner 38 = .ok (.iload_n 3, 1) := by decide +kernel
theorem dX12_byCorner_39 : decode cX12_byCorner 39 = .ok (.aload_n 0, 1) := by decide +kernel
theorem dX12_byCorner_40 : decode cX12_byCorner 40 = .ok (.getfield 151, 3) := by decide +kernel
theorem dX12_byCorner_43 : decode cX12_byCorner 43 = .ok (.if_icmp .ne 12, 3) := by decide +kernel
theorem dX12_byCorner_46 : decode cX12_byCorner 46 = .ok (.iload 4, 2) := by decide +kernel
theorem dX12_byCorner_48 : decode cX12_byCorner 48 = .ok (.aload_n 0, 1) := by decide +kernel
theorem dX12_byCorner_49 : decode cX12_byCorner 49 = .ok (.getfield 154, 3) := by decide +kernel
theorem dX12_byCorner_52 : decode cX12_byCorner 52 = .ok (.if_icmp .eq 14, 3) := by decide +kernel
theorem dX12_byCorner_55 : decode cX12_byCorner 55 = .ok (.aload_n 0, 1) := by decide +kernel
theorem dX12_byCorner_56 : decode cX12_byCorner 56 = .ok (.iload_n 1, 1) := by decide +kernel
theorem dX12_byCorner_57 : decode cX12_byCorner 57 = .ok (.iload_n 3, 1) := by decide +kernel
theorem dX12_byCorner_58 : decode cX12_byCorner 58 = .ok (.iload 4, 2) := by decide +kernel
theorem dX12_byCorner_60 : decode cX12_byCorner 60 = .ok (.invokevirtual 183, 3) := by decide +kernel
theorem dX12_byCorner_63 : decode cX12_byCorner 63 = .ok (.ifCond .eq 4, 3) := by decide +kernel
theorem dX12_byCorner_66 : decode cX12_byCorner 66 = .ok (.return_, 1) := by decide +kernel
theorem dX12_byCorner_67 : decode cX12_byCorner 67 = .ok (.iload_n 3, 1) := by decide +kernel
theorem dX12_byCorner_68 : decode cX12_byCorner 68 = .ok (.aload_n 0, 1) := by decide +kernel
theorem dX12_byCorner_69 : decode cX12_byCorner 69 = .ok (.getfield 145, 3) := by decide +kernel
theorem dX12_byCorner_72 : decode cX12_byCorner 72 = .ok (.isub, 1) := by decide +kernel
theorem dX12_byCorner_73 : decode cX12_byCorner 73 = .ok (.i2l, 1) := by decide +kernel
theorem dX12_byCorner_74 : decode cX12_byCorner 74 = .ok (.iload 4, 2) := by decide +kernel
theorem dX12_byCorner_76 : decode cX12_byCorner 76 = .ok (.aload_n 0, 1) := by decide +kernel
theorem dX12_byCorner_77 : decode cX12_byCorner 77 = .ok (.getfield 148, 3) := by decide +kernel
theorem dX12_byCorner_80 : decode cX12_byCorner 80 = .ok (.isub, 1) := by decide +kernel
theorem dX12_byCorner_81 : decode cX12_byCorner 81 = .ok (.i2l, 1) := by decide +kernel
theorem dX12_byCorner_82 : decode cX12_byCorner 82 = .ok (.invokestatic 167, 3) := by decide +kernel
theorem dX12_byCorner_85 : decode cX12_byCorner 85 = .ok (.lstore 5, 2) := by decide +kernel
theorem dX12_byCorner_87 : decode cX12_byCorner 87 = .ok (.iload_n 3, 1) := by decide +kernel
theorem dX12_byCorner_88 : decode cX12_byCorner 88 = .ok (.aload_n 0, 1) := by decide +kernel
theorem dX12_byCorner_89 : decode cX12_byCorner 89 = .ok (.getfield 151, 3) := by decide +kernel
theorem dX12_byCorner_92 : decode cX12_byCorner 92 = .ok (.isub, 1) := by decide +kernel
theorem dX12_byCorner_93 : decode cX12_byCorner 93 = .ok (.i2l, 1) := by decide +kernel
theorem dX12_byCorner_94 : decode cX12_byCorner 94 = .ok (.iload 4, 2) := by decide +kernel
theorem dX12_byCorner_96 : decode cX12_byCorner 96 = .ok (.aload_n 0, 1) := by decide +kernel
theorem dX12_byCorner_97 : decode cX12_byCorner 97 = .ok (.getfield 154, 3) := by decide +kernel
theorem dX12_byCorner_100 : decode cX12_byCorner 100 = .ok (.isub, 1) := by decide +kernel
theorem dX12_byCorner_101 : decode cX12_byCorner 101 = .ok (.i2l, 1) := by decide +kernel
theorem dX12_byCorner_102 : decode cX12_byCorner 102 = .ok (.invokestatic 167, 3) := by decide +kernel
theorem dX12_byCorner_105 : decode cX12_byCorner 105 = .ok (.lstore 7, 2) := by decide +kernel
theorem dX12_byCorner_107 : decode cX12_byCorner 107 = .ok (.aload_n 0, 1) := by decide +kernel
theorem dX12_byCorner_108 : decode cX12_byCorner 108 = .ok (.lload 5, 2) := by decide +kernel
theorem dX12_byCorner_110 : decode cX12_byCorner 110 = .ok (.lload 7, 2) := by decide +kernel
theorem dX12_byCorner_112 : decode cX12_byCorner 112 = .ok (.ladd, 1) := by decide +kernel
theorem dX12_byCorner_113 : decode cX12_byCorner 113 = .ok (.ldc2_w 134, 3) := by decide +kernel
theorem dX12_byCorner_116 : decode cX12_byCorner 116 = .ok (.lload 5, 2) := by decide +kernel
theorem dX12_byCorner_118 : decode cX12_byCorner 118 = .ok (.lload 7, 2) := by decide +kernel
theorem dX12_byCorner_120 : decode cX12_byCorner 120 = .ok (.lmul, 1) := by decide +kernel
theorem dX12_byCorner_121 : decode cX12_byCorner 121 = .ok (.invokestatic 186, 3) := by decide +kernel
theorem dX12_byCorner_124 : decode cX12_byCorner 124 = .ok (.lmul, 1) := by decide +kernel
theorem dX12_byCorner_125 : decode cX12_byCorner 125 = .ok (.ladd, 1) := by decide +kernel
theorem dX12_byCorner_126 : decode cX12_byCorner 126 = .ok (.invokevirtual 171, 3) := by decide +kernel
theorem dX12_byCorner_129 : decode cX12_byCorner 129 = .ok (.aload_n 0, 1) := by decide +kernel
theorem dX12_byCorner_130 : decode cX12_byCorner 130 = .ok (.aload_n 0, 1) := by decide +kernel
theorem dX12_byCorner_131 : decode cX12_byCorner 131 = .ok (.getfield 7, 3) := by decide +kernel
theorem dX12_byCorner_134 : decode cX12_byCorner 134 = .ok (.bipush 12, 2) := by decide +kernel
theorem dX12_byCorner_136 : decode cX12_byCorner 136 = .ok (.iaload, 1) := by decide +kernel
theorem dX12_byCorner_137 : decode cX12_byCorner 137 = .ok (.invokevirtual 128, 3) := by decide +kernel
theorem dX12_byCorner_140 : decode cX12_byCorner 140 = .ok (.aload_n 0, 1) := by decide +kernel
theorem dX12_byCorner_141 : decode cX12_byCorner 141 = .ok (.aload_n 0, 1) := by decide +kernel
theorem dX12_byCorner_142 : decode cX12_byCorner 142 = .ok (.getfield 145, 3) := by decide +kernel
theorem dX12_byCorner_145 : decode cX12_byCorner 145 = .ok (.i2l, 1) := by decide +kernel
theorem dX12_byCorner_146 : decode cX12_byCorner 146 = .ok (.aload_n 0, 1) := by decide +kernel
theorem dX12_byCorner_147 : decode cX12_byCorner 147 = .ok (.getfield 148, 3) := by decide +kernel
theorem dX12_byCorner_150 : decode cX12_byCorner 150 = .ok (.i2l, 1) := by decide +kernel
theorem dX12_byCorner_151 : decode cX12_byCorner 151 = .ok (.lconst 1, 1) := by decide +kernel
theorem dX12_byCorner_152 : decode cX12_byCorner 152 = .ok (.iload_n 3, 1) := by decide +kernel
theorem dX12_byCorner_153 : decode cX12_byCorner 153 = .ok (.i2l, 1) := by decide +kernel
theorem dX12_byCorner_154 : decode cX12_byCorner 154 = .ok (.iload 4, 2) := by decide +kernel
theorem dX12_byCorner_156 : decode cX12_byCorner 156 = .ok (.i2l, 1) := by decide +kernel
theorem dX12_byCorner_157 : decode cX12_byCorner 157 = .ok (.lconst 1, 1) := by decide +kernel
theorem dX12_byCorner_158 : decode cX12_byCorner 158 = .ok (.invokevirtual 175, 3) := by decide +kernel
theorem dX12_byCorner_161 : decode cX12_byCorner 161 = .ok (.aload_n 0, 1) := by decide +kernel
theorem dX12_byCorner_162 : decode cX12_byCorner 162 = .ok (.iload_n 3, 1) := by decide +kernel
theorem dX12_byCorner_163 : decode cX12_byCorner 163 = .ok (.i2l, 1) := by decide +kernel
theorem dX12_byCorner_164 : decode cX12_byCorner 164 = .ok (.iload 4, 2) := by decide +kernel
theorem dX12_byCorner_166 : decode cX12_byCorner 166 = .ok (.i2l, 1) := by decide +kernel
theorem dX12_byCorner_167 : decode cX12_byCorner 167 = .ok (.lconst 1, 1) := by decide +kernel
theorem dX12_byCorner_168 : decode cX12_byCorner 168 = .ok (.aload_n 0, 1) := by decide +kernel
theorem dX12_byCorner_169 : decode cX12_byCorner 169 = .ok (.getfield 151, 3) := by decide +kernel
theorem dX12_byCorner_172 : decode cX12_byCorner 172 = .ok (.i2l, 1) := by decide +kernel
theorem dX12_byCorner_173 : decode cX12_byCorner 173 = .ok (.aload_n 0, 1) := by decide +kernel
theorem dX12_byCorner_174 : decode cX12_byCorner 174 = .ok (.getfield 154, 3) := by decide +kernel
theorem dX12_byCorner_177 : decode cX12_byCorner 177 = .ok (.i2l, 1) := by decide +kernel
theorem dX12_byCorner_178 : decode cX12_byCorner 178 = .ok (.lconst 1, 1) := by decide +kernel
theorem dX12_byCorner_179 : decode cX12_byCorner 179 = .ok (.invokevirtual 175, 3) := by decide +kernel
theorem dX12_byCorner_182 : decode cX12_byCorner 182 = .ok (.aload_n 0, 1) := by decide +kernel
theorem dX12_byCorner_183 : decode cX12_byCorner 183 = .ok (.iconst 3, 1) := by decide +kernel
theorem dX12_byCorner_184 : decode cX12_byCorner 184 = .ok (.iload_n 1, 1) := by decide +kernel
theorem dX12_byCorner_185 : decode cX12_byCorner 185 = .ok (.iload_n 2, 1) := by decide +kernel
theorem dX12_byCorner_186 : decode cX12_byCorner 186 = .ok (.lload 5, 2) := by decide +kernel
theorem dX12_byCorner_188 : decode cX12_byCorner 188 = .ok (.lload 7, 2) := by decide +kernel
theorem dX12_byCorner_190 : decode cX12_byCorner 190 = .ok (.invokevirtual 179, 3) := by decide +kernel
theorem dX12_byCorner_193 : decode cX12_byCorner 193 = .ok (.return_, 1) := by decide +kernel
theorem dX12_from_0 : decode cX12_from 0 = .ok (.aload_n 0, 1) := by decide +kernel
theorem dX12_from_1 : decode cX12_from 1 = .ok (.iload_n 1, 1) := by decide +kernel
theorem dX12_from_2 : decode cX12_from 2 = .ok (.putfield 145, 3) := by decide +kernel
theorem dX12_from_5 : decode cX12_from 5 = .ok (.aload_n 0, 1) := by decide +kernel
theorem dX12_from_6 : decode cX12_from 6 = .ok (.iload_n 2, 1) := by decide +kernel
theorem dX12_from_7 : decode cX12_from 7 = .ok (.putfield 148, 3) := by decide +kernel
theorem dX12_from_10 : decode cX12_from 10 = .ok (.aload_n 0, 1) := by decide +kernel
theorem dX12_from_11 : decode cX12_from 11 = .ok (.iload_n 3, 1) := by decide +kernel
theorem dX12_from_12 : decode cX12_from 12 = .ok (.putfield 136, 3) := by decide +kernel
theorem dX12_from_15 : decode cX12_from 15 = .ok (.return_, 1) := by decide +kernel
theorem dX12_tries_0 : decode cX12_tries 0 = .ok (.aload_n 0, 1) := by decide +kernel
theorem dX12_tries_1 : decode cX12_tries 1 = .ok (.iload_n 1, 1) := by decide +kernel
theorem dX12_tries_2 : decode cX12_tries 2 = .ok (.putfield 151, 3) := by decide +kernel
theorem dX12_tries_5 : decode cX12_tries 5 = .ok (.aload_n 0, 1) := by decide +kernel
theorem dX12_tries_6 : decode cX12_tries 6 = .ok (.iload_n 2, 1) := by decide +kernel
theorem dX12_tries_7 : decode cX12_tries 7 = .ok (.putfield 154, 3) := by decide +kernel
theorem dX12_tries_10 : decode cX12_tries 10 = .ok (.aload_n 0, 1) := by decide +kernel
theorem dX12_tries_11 : decode cX12_tries 11 = .ok (.iconst 0, 1) := by decide +kernel
theorem dX12_tries_12 : decode cX12_tries 12 = .ok (.putfield 142, 3) := by decide +kernel
theorem dX12_tries_15 : decode cX12_tries 15 = .ok (.aload_n 0, 1) := by decide +kernel
theorem dX12_tries_16 : decode cX12_tries 16 = .ok (.getfield 145, 3) := by decide +kernel
theorem dX12_tries_19 : decode cX12_tries 19 = .ok (.iload_n 1, 1) := by decide +kernel
theorem dX12_tries_20 : decode cX12_tries 20 = .ok (.isub, 1) := by decide +kernel
theorem dX12_tries_21 : decode cX12_tries 21 = .ok (.i2l, 1) := by decide +kernel
theorem dX12_tries_22 : decode cX12_tries 22 = .ok (.aload_n 0, 1) := by decide +kernel
theorem dX12_tries_23 : decode cX12_tries 23 = .ok (.getfield 148, 3) := by decide +kernel
theorem dX12_tries_26 : decode cX12_tries 26 = .ok (.iload_n 2, 1) := by decide +kernel
theorem dX12_tries_27 : decode cX12_tries 27 = .ok (.isub, 1) := by decide +kernel
theorem dX12_tries_28 : decode cX12_tries 28 = .ok (.i2l, 1) := by decide +kernel
theorem dX12_tries_29 : decode cX12_tries 29 = .ok (.invokestatic 167, 3) := by decide +kernel
theorem dX12_tries_32 : decode cX12_tries 32 = .ok (.lstore_n 3, 1) := by decide +kernel
theorem dX12_tries_33 : decode cX12_tries 33 = .ok (.aload_n 0, 1) := by decide +kernel
theorem dX12_tries_34 : decode cX12_tries 34 = .ok (.lload_n 3, 1) := by decide +kernel
theorem dX12_tries_35 : decode cX12_tries 35 = .ok (.invokevirtual 171, 3) := by decide +kernel
theorem dX12_tries_38 : decode cX12_tries 38 = .ok (.aload_n 0, 1) := by decide +kernel
theorem dX12_tries_39 : decode cX12_tries 39 = .ok (.aload_n 0, 1) := by decide +kernel
theorem dX12_tries_40 : decode cX12_tries 40 = .ok (.getfield 145, 3) := by decide +kernel
theorem dX12_tries_43 : decode cX12_tries 43 = .ok (.i2l, 1) := by decide +kernel
theorem dX12_tries_44 : decode cX12_tries 44 = .ok (.aload_n 0, 1) := by decide +kernel
theorem dX12_tries_45 : decode cX12_tries 45 = .ok (.getfield 148, 3) := by decide +kernel
theorem dX12_tries_48 : decode cX12_tries 48 = .ok (.i2l, 1) := by decide +kernel
theorem dX12_tries_49 : decode cX12_tries 49 = .ok (.lconst 1, 1) := by decide +kernel
theorem dX12_tries_50 : decode cX12_tries 50 = .ok (.iload_n 1, 1) := by decide +kernel
theorem dX12_tries_51 : decode cX12_tries 51 = .ok (.i2l, 1) := by decide +kernel
theorem dX12_tries_52 : decode cX12_tries 52 = .ok (.iload_n 2, 1) := by decide +kernel
theorem dX12_tries_53 : decode cX12_tries 53 = .ok (.i2l, 1) := by decide +kernel
theorem dX12_tries_54 : decode cX12_tries 54 = .ok (.lconst 1, 1) := by decide +kernel
theorem dX12_tries_55 : decode cX12_tries 55 = .ok (.invokevirtual 175, 3) := by decide +kernel
theorem dX12_tries_58 : decode cX12_tries 58 = .ok (.aload_n 0, 1) := by decide +kernel
theorem dX12_tries_59 : decode cX12_tries 59 = .ok (.getfield 124, 3) := by decide +kernel
theorem dX12_tries_62 : decode cX12_tries 62 = .ok (.istore 5, 2) := by decide +kernel
theorem dX12_tries_64 : decode cX12_tries 64 = .ok (.aload_n 0, 1) := by decide +kernel
theorem dX12_tries_65 : decode cX12_tries 65 = .ok (.iconst 0, 1) := by decide +kernel
theorem dX12_tries_66 : decode cX12_tries 66 = .ok (.iconst (-1), 1) := by decide +kernel
theorem dX12_tries_67 : decode cX12_tries 67 = .ok (.iconst (-1), 1) := by decide +kernel
theorem dX12_tries_68 : decode cX12_tries 68 = .ok (.lload_n 3, 1) := by decide +kernel
theorem dX12_tries_69 : decode cX12_tries 69 = .ok (.lconst 0, 1) := by decide +kernel
theorem dX12_tries_70 : decode cX12_tries 70 = .ok (.invokevirtual 179, 3) := by decide +kernel
theorem dX12_tries_73 : decode cX12_tries 73 = .ok (.iconst 0, 1) := by decide +kernel
theorem dX12_tries_74 : decode cX12_tries 74 = .ok (.istore 6, 2) := by decide +kernel
theorem dX12_tries_76 : decode cX12_tries 76 = .ok (.iload 6, 2) := by decide +kernel
theorem dX12_tries_78 : decode cX12_tries 78 = .ok (.aload_n 0, 1) := by decide +kernel
theorem dX12_tries_79 : decode cX12_tries 79 = .ok (.getfield 7, 3) := by decide +kernel
theorem dX12_tries_82 : decode cX12_tries 82 = .ok (.iconst 0, 1) := by decide +kernel
theorem dX12_tries_83 : decode cX12_tries 83 = .ok (.iaload, 1) := by decide +kernel
theorem dX12_tries_84 : decode cX12_tries 84 = .ok (.if_icmp .ge 92, 3) := by decide +kernel
theorem dX12_tries_87 : decode cX12_tries 87 = .ok (.aload_n 0, 1) := by decide +kernel
theorem dX12_tries_88 : decode cX12_tries 88 = .ok (.getfield 7, 3) := by decide +kernel
theorem dX12_tries_91 : decode cX12_tries 91 = .ok (.bipush 11, 2) := by decide +kernel
theorem dX12_tries_93 : decode cX12_tries 93 = .ok (.iaload, 1) := by decide +kernel
theorem dX12_tries_94 : decode cX12_tries 94 = .ok (.ifCond .le 82, 3) := by decide +kernel
theorem dX12_tries_97 : decode cX12_tries 97 = .ok (.aload_n 0, 1) := by decide +kernel
theorem dX12_tries_98 : decode cX12_tries 98 = .ok (.iload 6, 2) := by decide +kernel
theorem dX12_tries_100 : decode cX12_tries 100 = .ok (.invokevirtual 113, 3) := by decide +kernel
theorem dX12_tries_103 : decode cX12_tries 103 = .ok (.ifCond .ne 6, 3) := by decide +kernel
theorem dX12_tries_106 : decode cX12_tries 106 = .ok (.goto 64, 3) := by decide +kernel
theorem dX12_tries_109 : decode cX12_tries 109 = .ok (.aload_n 0, 1) := by decide +kernel
theorem dX12_tries_110 : decode cX12_tries 110 = .ok (.iload 6, 2) := by decide +kernel
theorem dX12_tries_112 : decode cX12_tries 112 = .ok (.invokevirtual 189, 3) := by decide +kernel
theorem dX12_tries_115 : decode cX12_tries 115 = .ok (.iconst 0, 1) := by decide +kernel
theorem dX12_tries_116 : decode cX12_tries 116 = .ok (.istore 7, 2) := by decide +kernel
theorem dX12_tries_118 : decode cX12_tries 118 = .ok (.iload 7, 2) := by decide +kernel
theorem dX12_tries_120 : decode cX12_tries 120 = .ok (.aload_n 0, 1) := by decide +kernel
theorem dX12_tries_121 : decode cX12_tries 121 = .ok (.getfield 7, 3) := by decide +kernel
theorem dX12_tries_124 : decode cX12_tries 124 = .ok (.iconst 0, 1) := by decide +kernel
theorem dX12_tries_125 : decode cX12_tries 125 = .ok (.iaload, 1) := by decide +kernel
theorem dX12_tries_126 : decode cX12_tries 126 = .ok (.if_icmp .ge 44, 3) := by decide +kernel
theorem dX12_tries_129 : decode cX12_tries 129 = .ok (.aload_n 0, 1) := by decide +kernel
theorem dX12_tries_130 : decode cX12_tries 130 = .ok (.getfield 7, 3) := by decide +kernel
theorem dX12_tries_133 : decode cX12_tries 133 = .ok (.bipush 11, 2) := by decide +kernel
theorem dX12_tries_135 : decode cX12_tries 135 = .ok (.iaload, 1) := by decide +kernel
theorem dX12_tries_136 : decode cX12_tries 136 = .ok (.iconst 1, 1) := by decide +kernel
theorem dX12_tries_137 : decode cX12_tries 137 = .ok (.if_icmp .le 33, 3) := by decide +kernel
theorem dX12_tries_140 : decode cX12_tries 140 = .ok (.iload 7, 2) := by decide +kernel
theorem dX12_tries_142 : decode cX12_tries 142 = .ok (.iload 6, 2) := by decide +kernel
theorem dX12_tries_144 : decode cX12_tries 144 = .ok (.if_icmp .eq 20, 3) := by decide +kernel
theorem dX12_tries_147 : decode cX12_tries 147 = .ok (.aload_n 0, 1) := by decide +kernel
theorem dX12_tries_148 : decode cX12_tries 148 = .ok (.iload 7, 2) := by decide +kernel
theorem dX12_tries_150 : decode cX12_tries 150 = .ok (.invokevirtual 113, 3) := by decide +kernel
theorem dX12_tries_153 : decode cX12_tries 153 = .ok (.ifCond .eq 11, 3) := by decide +kernel
theorem dX12_tries_156 : decode cX12_tries 156 = .ok (.aload_n 0, 1) := by decide +kernel
theorem dX12_tries_157 : decode cX12_tries 157 = .ok (.iload 6, 2) := by decide +kernel
theorem dX12_tries_159 : decode cX12_tries 159 = .ok (.iload 7, 2) := by decide +kernel
theorem dX12_tries_161 : decode cX12_tries 161 = .ok (.invokevirtual 192, 3) := by decide +kernel
theorem dX12_tries_164 : decode cX12_tries 164 = .ok (.iinc 7 1, 3) := by decide +kernel
theorem dX12_tries_167 : decode cX12_tries 167 = .ok (.goto (-49), 3) := by decide +kernel
theorem dX12_tries_170 : decode cX12_tries 170 = .ok (.iinc 6 1, 3) := by decide +kernel
theorem dX12_tries_173 : decode cX12_tries 173 = .ok (.goto (-97), 3) := by decide +kernel
theorem dX12_tries_176 : decode cX12_tries 176 = .ok (.iconst 0, 1) := by decide +kernel
theorem dX12_tries_177 : decode cX12_tries 177 = .ok (.istore 6, 2) := by decide +kernel
theorem dX12_tries_179 : decode cX12_tries 179 = .ok (.iload 6, 2) := by decide +kernel
theorem dX12_tries_181 : decode cX12_tries 181 = .ok (.aload_n 0, 1) := by decide +kernel
theorem dX12_tries_182 : decode cX12_tries 182 = .ok (.getfield 7, 3) := by decide +kernel
theorem dX12_tries_185 : decode cX12_tries 185 = .ok (.iconst 0, 1) := by decide +kernel
theorem dX12_tries_186 : decode cX12_tries 186 = .ok (.iaload, 1) := by decide +kernel
theorem dX12_tries_187 : decode cX12_tries 187 = .ok (.if_icmp .ge 50, 3) := by decide +kernel
theorem dX12_tries_190 : decode cX12_tries 190 = .ok (.iload 5, 2) := by decide +kernel
theorem dX12_tries_192 : decode cX12_tries 192 = .ok (.ifCond .eq 45, 3) := by decide +kernel
theorem dX12_tries_195 : decode cX12_tries 195 = .ok (.aload_n 0, 1) := by decide +kernel
theorem dX12_tries_196 : decode cX12_tries 196 = .ok (.getfield 7, 3) := by decide +kernel
theorem dX12_tries_199 : decode cX12_tries 199 = .ok (.bipush 12, 2) := by decide +kernel
theorem dX12_tries_201 : decode cX12_tries 201 = .ok (.iaload, 1) := by decide +kernel
theorem dX12_tries_202 : decode cX12_tries 202 = .ok (.ifCond .le 35, 3) := by decide +kernel
theorem dX12_tries_205 : decode cX12_tries 205 = .ok (.aload_n 0, 1) := by decide +kernel
theorem dX12_tries_206 : decode cX12_tries 206 = .ok (.iload 6, 2) := by decide +kernel
theorem dX12_tries_208 : decode cX12_tries 208 = .ok (.invokevirtual 113, 3) := by decide +kernel
theorem dX12_tries_211 : decode cX12_tries 211 = .ok (.ifCond .ne 6, 3) := by decide +kernel
theorem dX12_tries_214 : decode cX12_tries 214 = .ok (.goto 17, 3) := by decide +kernel
theorem dX12_tries_217 : decode cX12_tries 217 = .ok (.aload_n 0, 1) := by decide +kernel
theorem dX12_tries_218 : decode cX12_tries 218 = .ok (.iload 6, 2) := by decide +kernel
theorem dX12_tries_220 : decode cX12_tries 220 = .ok (.iconst 0, 1) := by decide +kernel
theorem dX12_tries_221 : decode cX12_tries 221 = .ok (.invokevirtual 196, 3) := by decide +kernel
theorem dX12_tries_224 : decode cX12_tries 224 = .ok (.aload_n 0, 1) := by decide +kernel
theorem dX12_tries_225 : decode cX12_tries 225 = .ok (.iload 6, 2) := by decide +kernel
theorem dX12_tries_227 : decode cX12_tries 227 = .ok (.iconst 1, 1) := by decide +kernel
theorem dX12_tries_228 : decode cX12_tries 228 = .ok (.invokevirtual 196, 3) := by decide +kernel
theorem dX12_tries_231 : decode cX12_tries 231 = .ok (.iinc 6 1, 3) := by decide +kernel
theorem dX12_tries_234 : decode cX12_tries 234 = .ok (.goto (-55), 3) := by decide +kernel
theorem dX12_tries_237 : decode cX12_tries 237 = .ok (.return_, 1) := by decide +kernel
theorem dX12_withMore_0 : decode cX12_withMore 0 = .ok (.lload 4, 2) := by decide +kernel
theorem dX12_withMore_2 : decode cX12_withMore 2 = .ok (.lload_n 0, 1) := by decide +kernel
theorem dX12_withMore_3 : decode cX12_withMore 3 = .ok (.lsub, 1) := by decide +kernel
theorem dX12_withMore_4 : decode cX12_withMore 4 = .ok (.lload_n 2, 1) := by decide +kernel
theorem dX12_withMore_5 : decode cX12_withMore 5 = .ok (.lload_n 2, 1) := by decide +kernel
theorem dX12_withMore_6 : decode cX12_withMore 6 = .ok (.lmul, 1) := by decide +kernel
theorem dX12_withMore_7 : decode cX12_withMore 7 = .ok (.lsub, 1) := by decide +kernel
theorem dX12_withMore_8 : decode cX12_withMore 8 = .ok (.lstore 6, 2) := by decide +kernel
theorem dX12_withMore_10 : decode cX12_withMore 10 = .ok (.lload 6, 2) := by decide +kernel
theorem dX12_withMore_12 : decode cX12_withMore 12 = .ok (.lconst 0, 1) := by decide +kernel
theorem dX12_withMore_13 : decode cX12_withMore 13 = .ok (.lcmp, 1) := by decide +kernel
theorem dX12_withMore_14 : decode cX12_withMore 14 = .ok (.ifCond .ge 5, 3) := by decide +kernel
theorem dX12_withMore_17 : decode cX12_withMore 17 = .ok (.iconst 1, 1) := by decide +kernel
theorem dX12_withMore_18 : decode cX12_withMore 18 = .ok (.ireturn, 1) := by decide +kernel
theorem dX12_withMore_19 : decode cX12_withMore 19 = .ok (.ldc2_w 199, 3) := by decide +kernel
theorem dX12_withMore_22 : decode cX12_withMore 22 = .ok (.lload_n 2, 1) := by decide +kernel
theorem dX12_withMore_23 : decode cX12_withMore 23 = .ok (.lmul, 1) := by decide +kernel
theorem dX12_withMore_24 : decode cX12_withMore 24 = .ok (.lload_n 2, 1) := by decide +kernel
theorem dX12_withMore_25 : decode cX12_withMore 25 = .ok (.lmul, 1) := by decide +kernel
theorem dX12_withMore_26 : decode cX12_withMore 26 = .ok (.lload_n 0, 1) := by decide +kernel
theorem dX12_withMore_27 : decode cX12_withMore 27 = .ok (.lmul, 1) := by decide +kernel
theorem dX12_withMore_28 : decode cX12_withMore 28 = .ok (.lstore 8, 2) := by decide +kernel
theorem dX12_withMore_30 : decode cX12_withMore 30 = .ok (.lload 6, 2) := by decide +kernel
theorem dX12_withMore_32 : decode cX12_withMore 32 = .ok (.lload 6, 2) := by decide +kernel
theorem dX12_withMore_34 : decode cX12_withMore 34 = .ok (.lmul, 1) := by decide +kernel
theorem dX12_withMore_35 : decode cX12_withMore 35 = .ok (.lstore 10, 2) := by decide +kernel
theorem dX12_withMore_37 : decode cX12_withMore 37 = .ok (.lload 8, 2) := by decide +kernel
theorem dX12_withMore_39 : decode cX12_withMore 39 = .ok (.lload 10, 2) := by decide +kernel
theorem dX12_withMore_41 : decode cX12_withMore 41 = .ok (.lcmp, 1) := by decide +kernel
theorem dX12_withMore_42 : decode cX12_withMore 42 = .ok (.ifCond .ge 7, 3) := by decide +kernel
theorem dX12_withMore_45 : decode cX12_withMore 45 = .ok (.iconst (-1), 1) := by decide +kernel
theorem dX12_withMore_46 : decode cX12_withMore 46 = .ok (.goto 16, 3) := by decide +kernel
theorem dX12_withMore_49 : decode cX12_withMore 49 = .ok (.lload 8, 2) := by decide +kernel
theorem dX12_withMore_51 : decode cX12_withMore 51 = .ok (.lload 10, 2) := by decide +kernel
theorem dX12_withMore_53 : decode cX12_withMore 53 = .ok (.lcmp, 1) := by decide +kernel
theorem dX12_withMore_54 : decode cX12_withMore 54 = .ok (.ifCond .le 7, 3) := by decide +kernel
theorem dX12_withMore_57 : decode cX12_withMore 57 = .ok (.iconst 1, 1) := by decide +kernel
theorem dX12_withMore_58 : decode cX12_withMore 58 = .ok (.goto 4, 3) := by decide +kernel
theorem dX12_withMore_61 : decode cX12_withMore 61 = .ok (.iconst 0, 1) := by decide +kernel
theorem dX12_withMore_62 : decode cX12_withMore 62 = .ok (.ireturn, 1) := by decide +kernel
theorem dX12_compareRoots_0 : decode cX12_compareRoots 0 = .ok (.lload_n 0, 1) := by decide +kernel
theorem dX12_compareRoots_1 : decode cX12_compareRoots 1 = .ok (.lload_n 2, 1) := by decide +kernel
theorem dX12_compareRoots_2 : decode cX12_compareRoots 2 = .ok (.ladd, 1) := by decide +kernel
theorem dX12_compareRoots_3 : decode cX12_compareRoots 3 = .ok (.lload 4, 2) := by decide +kernel
theorem dX12_compareRoots_5 : decode cX12_compareRoots 5 = .ok (.lsub, 1) := by decide +kernel
theorem dX12_compareRoots_6 : decode cX12_compareRoots 6 = .ok (.lload 6, 2) := by decide +kernel
theorem dX12_compareRoots_8 : decode cX12_compareRoots 8 = .ok (.lsub, 1) := by decide +kernel
theorem dX12_compareRoots_9 : decode cX12_compareRoots 9 = .ok (.lstore 8, 2) := by decide +kernel
theorem dX12_compareRoots_11 : decode cX12_compareRoots 11 = .ok (.lload 8, 2) := by decide +kernel
theorem dX12_compareRoots_13 : decode cX12_compareRoots 13 = .ok (.lconst 0, 1) := by decide +kernel
theorem dX12_compareRoots_14 : decode cX12_compareRoots 14 = .ok (.lcmp, 1) := by decide +kernel
theorem dX12_compareRoots_15 : decode cX12_compareRoots 15 = .ok (.ifCond .lt 27, 3) := by decide +kernel
theorem dX12_compareRoots_18 : decode cX12_compareRoots 18 = .ok (.ldc2_w 199, 3) := by decide +kernel
theorem dX12_compareRoots_21 : decode cX12_compareRoots 21 = .ok (.lload_n 0, 1) := by decide +kernel
theorem dX12_compareRoots_22 : decode cX12_compareRoots 22 = .ok (.lmul, 1) := by decide +kernel
theorem dX12_compareRoots_23 : decode cX12_compareRoots 23 = .ok (.lload_n 2, 1) := by decide +kernel
theorem dX12_compareRoots_24 : decode cX12_compareRoots 24 = .ok (.lmul, 1) := by decide +kernel
theorem dX12_compareRoots_25 : decode cX12_compareRoots 25 = .ok (.lload 8, 2) := by decide +kernel
theorem dX12_compareRoots_27 : decode cX12_compareRoots 27 = .ok (.ldc2_w 199, 3) := by decide +kernel
theorem dX12_compareRoots_30 : decode cX12_compareRoots 30 = .ok (.lload 4, 2) := by decide +kernel
theorem dX12_compareRoots_32 : decode cX12_compareRoots 32 = .ok (.lmul, 1) := by decide +kernel
theorem dX12_compareRoots_33 : decode cX12_compareRoots 33 = .ok (.lload 6, 2) := by decide +kernel
theorem dX12_compareRoots_35 : decode cX12_compareRoots 35 = .ok (.lmul, 1) := by decide +kernel
theorem dX12_compareRoots_36 : decode cX12_compareRoots 36 = .ok (.invokestatic 201, 3) := by decide +kernel
theorem dX12_compareRoots_39 : decode cX12_compareRoots 39 = .ok (.goto 26, 3) := by decide +kernel
theorem dX12_compareRoots_42 : decode cX12_compareRoots 42 = .ok (.ldc2_w 199, 3) := by decide +kernel
theorem dX12_compareRoots_45 : decode cX12_compareRoots 45 = .ok (.lload 4, 2) := by decide +kernel
theorem dX12_compareRoots_47 : decode cX12_compareRoots 47 = .ok (.lmul, 1) := by decide +kernel
theorem dX12_compareRoots_48 : decode cX12_compareRoots 48 = .ok (.lload 6, 2) := by decide +kernel
theorem dX12_compareRoots_50 : decode cX12_compareRoots 50 = .ok (.lmul, 1) := by decide +kernel
theorem dX12_compareRoots_51 : decode cX12_compareRoots 51 = .ok (.lload 8, 2) := by decide +kernel
theorem dX12_compareRoots_53 : decode cX12_compareRoots 53 = .ok (.lneg, 1) := by decide +kernel
theorem dX12_compareRoots_54 : decode cX12_compareRoots 54 = .ok (.ldc2_w 199, 3) := by decide +kernel
theorem dX12_compareRoots_57 : decode cX12_compareRoots 57 = .ok (.lload_n 0, 1) := by decide +kernel
theorem dX12_compareRoots_58 : decode cX12_compareRoots 58 = .ok (.lmul, 1) := by decide +kernel
theorem dX12_compareRoots_59 : decode cX12_compareRoots 59 = .ok (.lload_n 2, 1) := by decide +kernel
theorem dX12_compareRoots_60 : decode cX12_compareRoots 60 = .ok (.lmul, 1) := by decide +kernel
theorem dX12_compareRoots_61 : decode cX12_compareRoots 61 = .ok (.invokestatic 201, 3) := by decide +kernel
theorem dX12_compareRoots_64 : decode cX12_compareRoots 64 = .ok (.ineg, 1) := by decide +kernel
theorem dX12_compareRoots_65 : decode cX12_compareRoots 65 = .ok (.ireturn, 1) := by decide +kernel
theorem dX12_lengths_0 : decode cX12_lengths 0 = .ok (.aload_n 0, 1) := by decide +kernel
theorem dX12_lengths_1 : decode cX12_lengths 1 = .ok (.getfield 26, 3) := by decide +kernel
theorem dX12_lengths_4 : decode cX12_lengths 4 = .ok (.iload_n 1, 1) := by decide +kernel
theorem dX12_lengths_5 : decode cX12_lengths 5 = .ok (.iaload, 1) := by decide +kernel
theorem dX12_lengths_6 : decode cX12_lengths 6 = .ok (.i2l, 1) := by decide +kernel
theorem dX12_lengths_7 : decode cX12_lengths 7 = .ok (.aload_n 0, 1) := by decide +kernel
theorem dX12_lengths_8 : decode cX12_lengths 8 = .ok (.getfield 29, 3) := by decide +kernel
theorem dX12_lengths_11 : decode cX12_lengths 11 = .ok (.iload_n 1, 1) := by decide +kernel
theorem dX12_lengths_12 : decode cX12_lengths 12 = .ok (.iaload, 1) := by decide +kernel
theorem dX12_lengths_13 : decode cX12_lengths 13 = .ok (.i2l, 1) := by decide +kernel
theorem dX12_lengths_14 : decode cX12_lengths 14 = .ok (.aload_n 0, 1) := by decide +kernel
theorem dX12_lengths_15 : decode cX12_lengths 15 = .ok (.getfield 26, 3) := by decide +kernel
theorem dX12_lengths_18 : decode cX12_lengths 18 = .ok (.iload_n 2, 1) := by decide +kernel
theorem dX12_lengths_19 : decode cX12_lengths 19 = .ok (.iaload, 1) := by decide +kernel
theorem dX12_lengths_20 : decode cX12_lengths 20 = .ok (.i2l, 1) := by decide +kernel
theorem dX12_lengths_21 : decode cX12_lengths 21 = .ok (.aload_n 0, 1) := by decide +kernel
theorem dX12_lengths_22 : decode cX12_lengths 22 = .ok (.getfield 29, 3) := by decide +kernel
theorem dX12_lengths_25 : decode cX12_lengths 25 = .ok (.iload_n 2, 1) := by decide +kernel
theorem dX12_lengths_26 : decode cX12_lengths 26 = .ok (.iaload, 1) := by decide +kernel
theorem dX12_lengths_27 : decode cX12_lengths 27 = .ok (.i2l, 1) := by decide +kernel
theorem dX12_lengths_28 : decode cX12_lengths 28 = .ok (.invokestatic 205, 3) := by decide +kernel
theorem dX12_lengths_31 : decode cX12_lengths 31 = .ok (.ireturn, 1) := by decide +kernel
theorem dX12_isAhead_0 : decode cX12_isAhead 0 = .ok (.aload_n 0, 1) := by decide +kernel
theorem dX12_isAhead_1 : decode cX12_isAhead 1 = .ok (.iload_n 1, 1) := by decide +kernel
theorem dX12_isAhead_2 : decode cX12_isAhead 2 = .ok (.iload_n 2, 1) := by decide +kernel
theorem dX12_isAhead_3 : decode cX12_isAhead 3 = .ok (.invokevirtual 209, 3) := by decide +kernel
theorem dX12_isAhead_6 : decode cX12_isAhead 6 = .ok (.istore_n 3, 1) := by decide +kernel
theorem dX12_isAhead_7 : decode cX12_isAhead 7 = .ok (.iload_n 3, 1) := by decide +kernel
theorem dX12_isAhead_8 : decode cX12_isAhead 8 = .ok (.ifCond .eq 13, 3) := by decide +kernel
theorem dX12_isAhead_11 : decode cX12_isAhead 11 = .ok (.iload_n 3, 1) := by decide +kernel
theorem dX12_isAhead_12 : decode cX12_isAhead 12 = .ok (.ifCond .ge 7, 3) := by decide +kernel
theorem dX12_isAhead_15 : decode cX12_isAhead 15 = .ok (.iconst 1, 1) := by decide +kernel
theorem dX12_isAhead_16 : decode cX12_isAhead 16 = .ok (.goto 4, 3) := by decide +kernel
theorem dX12_isAhead_19 : decode cX12_isAhead 19 = .ok (.iconst 0, 1) := by decide +kernel
theorem dX12_isAhead_20 : decode cX12_isAhead 20 = .ok (.ireturn, 1) := by decide +kernel
theorem dX12_isAhead_21 : decode cX12_isAhead 21 = .ok (.aload_n 0, 1) := by decide +kernel
theorem dX12_isAhead_22 : decode cX12_isAhead 22 = .ok (.getfield 17, 3) := by decide +kernel
theorem dX12_isAhead_25 : decode cX12_isAhead 25 = .ok (.iload_n 1, 1) := by decide +kernel
theorem dX12_isAhead_26 : decode cX12_isAhead 26 = .ok (.iaload, 1) := by decide +kernel
theorem dX12_isAhead_27 : decode cX12_isAhead 27 = .ok (.aload_n 0, 1) := by decide +kernel
theorem dX12_isAhead_28 : decode cX12_isAhead 28 = .ok (.getfield 17, 3) := by decide +kernel
theorem dX12_isAhead_31 : decode cX12_isAhead 31 = .ok (.iload_n 2, 1) := by decide +kernel
theorem dX12_isAhead_32 : decode cX12_isAhead 32 = .ok (.iaload, 1) := by decide +kernel
theorem dX12_isAhead_33 : decode cX12_isAhead 33 = .ok (.if_icmp .eq 24, 3) := by decide +kernel
theorem dX12_isAhead_36 : decode cX12_isAhead 36 = .ok (.aload_n 0, 1) := by decide +kernel
theorem dX12_isAhead_37 : decode cX12_isAhead 37 = .ok (.getfield 17, 3) := by decide +kernel
theorem dX12_isAhead_40 : decode cX12_isAhead 40 = .ok (.iload_n 1, 1) := by decide +kernel
theorem dX12_isAhead_41 : decode cX12_isAhead 41 = .ok (.iaload, 1) := by decide +kernel
theorem dX12_isAhead_42 : decode cX12_isAhead 42 = .ok (.aload_n 0, 1) := by decide +kernel
theorem dX12_isAhead_43 : decode cX12_isAhead 43 = .ok (.getfield 17, 3) := by decide +kernel
theorem dX12_isAhead_46 : decode cX12_isAhead 46 = .ok (.iload_n 2, 1) := by decide +kernel
theorem dX12_isAhead_47 : decode cX12_isAhead 47 = .ok (.iaload, 1) := by decide +kernel
theorem dX12_isAhead_48 : decode cX12_isAhead 48 = .ok (.if_icmp .ge 7, 3) := by decide +kernel
theorem dX12_isAhead_51 : decode cX12_isAhead 51 = .ok (.iconst 1, 1) := by decide +kernel
theorem dX12_isAhead_52 : decode cX12_isAhead 52 = .ok (.goto 4, 3) := by decide +kernel
theorem dX12_isAhead_55 : decode cX12_isAhead 55 = .ok (.iconst 0, 1) := by decide +kernel
theorem dX12_isAhead_56 : decode cX12_isAhead 56 = .ok (.ireturn, 1) := by decide +kernel
theorem dX12_isAhead_57 : decode cX12_isAhead 57 = .ok (.aload_n 0, 1) := by decide +kernel
theorem dX12_isAhead_58 : decode cX12_isAhead 58 = .ok (.getfield 20, 3) := by decide +kernel
theorem dX12_isAhead_61 : decode cX12_isAhead 61 = .ok (.iload_n 1, 1) := by decide +kernel
theorem dX12_isAhead_62 : decode cX12_isAhead 62 = .ok (.iaload, 1) := by decide +kernel
theorem dX12_isAhead_63 : decode cX12_isAhead 63 = .ok (.aload_n 0, 1) := by decide +kernel
theorem dX12_isAhead_64 : decode cX12_isAhead 64 = .ok (.getfield 20, 3) := by decide +kernel
theorem dX12_isAhead_67 : decode cX12_isAhead 67 = .ok (.iload_n 2, 1) := by decide +kernel
theorem dX12_isAhead_68 : decode cX12_isAhead 68 = .ok (.iaload, 1) := by decide +kernel
theorem dX12_isAhead_69 : decode cX12_isAhead 69 = .ok (.if_icmp .eq 24, 3) := by decide +kernel
theorem dX12_isAhead_72 : decode cX12_isAhead 72 = .ok (.aload_n 0, 1) := by decide +kernel
theorem dX12_isAhead_73 : decode cX12_isAhead 73 = .ok (.getfield 20, 3) := by decide +kernel
theorem dX12_isAhead_76 : decode cX12_isAhead 76 = .ok (.iload_n 1, 1) := by decide +kernel
theorem dX12_isAhead_77 : decode cX12_isAhead 77 = .ok (.iaload, 1) := by decide +kernel
theorem dX12_isAhead_78 : decode cX12_isAhead 78 = .ok (.aload_n 0, 1) := by decide +kernel
theorem dX12_isAhead_79 : decode cX12_isAhead 79 = .ok (.getfield 20, 3) := by decide +kernel
theorem dX12_isAhead_82 : decode cX12_isAhead 82 = .ok (.iload_n 2, 1) := by decide +kernel
theorem dX12_isAhead_83 : decode cX12_isAhead 83 = .ok (.iaload, 1) := by decide +kernel
theorem dX12_isAhead_84 : decode cX12_isAhead 84 = .ok (.if_icmp .ge 7, 3) := by decide +kernel
theorem dX12_isAhead_87 : decode cX12_isAhead 87 = .ok (.iconst 1, 1) := by decide +kernel
theorem dX12_isAhead_88 : decode cX12_isAhead 88 = .ok (.goto 4, 3) := by decide +kernel
theorem dX12_isAhead_91 : decode cX12_isAhead 91 = .ok (.iconst 0, 1) := by decide +kernel
theorem dX12_isAhead_92 : decode cX12_isAhead 92 = .ok (.ireturn, 1) := by decide +kernel
theorem dX12_isAhead_93 : decode cX12_isAhead 93 = .ok (.aload_n 0, 1) := by decide +kernel
theorem dX12_isAhead_94 : decode cX12_isAhead 94 = .ok (.getfield 23, 3) := by decide +kernel
theorem dX12_isAhead_97 : decode cX12_isAhead 97 = .ok (.iload_n 1, 1) := by decide +kernel
theorem dX12_isAhead_98 : decode cX12_isAhead 98 = .ok (.iaload, 1) := by decide +kernel
theorem dX12_isAhead_99 : decode cX12_isAhead 99 = .ok (.aload_n 0, 1) := by decide +kernel
theorem dX12_isAhead_100 : decode cX12_isAhead 100 = .ok (.getfield 23, 3) := by decide +kernel
theorem dX12_isAhead_103 : decode cX12_isAhead 103 = .ok (.iload_n 2, 1) := by decide +kernel
theorem dX12_isAhead_104 : decode cX12_isAhead 104 = .ok (.iaload, 1) := by decide +kernel
theorem dX12_isAhead_105 : decode cX12_isAhead 105 = .ok (.if_icmp .ge 7, 3) := by decide +kernel
theorem dX12_isAhead_108 : decode cX12_isAhead 108 = .ok (.iconst 1, 1) := by decide +kernel
theorem dX12_isAhead_109 : decode cX12_isAhead 109 = .ok (.goto 4, 3) := by decide +kernel
theorem dX12_isAhead_112 : decode cX12_isAhead 112 = .ok (.iconst 0, 1) := by decide +kernel
theorem dX12_isAhead_113 : decode cX12_isAhead 113 = .ok (.ireturn, 1) := by decide +kernel
theorem dX12_orders_0 : decode cX12_orders 0 = .ok (.iconst 0, 1) := by decide +kernel
theorem dX12_orders_1 : decode cX12_orders 1 = .ok (.istore_n 1, 1) := by decide +kernel
theorem dX12_orders_2 : decode cX12_orders 2 = .ok (.iload_n 1, 1) := by decide +kernel
theorem dX12_orders_3 : decode cX12_orders 3 = .ok (.aload_n 0, 1) := by decide +kernel
theorem dX12_orders_4 : decode cX12_orders 4 = .ok (.getfield 142, 3) := by decide +kernel
theorem dX12_orders_7 : decode cX12_orders 7 = .ok (.if_icmp .ge 58, 3) := by decide +kernel
theorem dX12_orders_10 : decode cX12_orders 10 = .ok (.iload_n 1, 1) := by decide +kernel
theorem dX12_orders_11 : decode cX12_orders 11 = .ok (.istore_n 2, 1) := by decide +kernel
theorem dX12_orders_12 : decode cX12_orders 12 = .ok (.iload_n 2, 1) := by decide +kernel
theorem dX12_orders_13 : decode cX12_orders 13 = .ok (.ifCond .le 39, 3) := by decide +kernel
theorem dX12_orders_16 : decode cX12_orders 16 = .ok (.aload_n 0, 1) := by decide +kernel
theorem dX12_orders_17 : decode cX12_orders 17 = .ok (.iload_n 1, 1) := by decide +kernel
theorem dX12_orders_18 : decode cX12_orders 18 = .ok (.aload_n 0, 1) := by decide +kernel
theorem dX12_orders_19 : decode cX12_orders 19 = .ok (.getfield 35, 3) := by decide +kernel
theorem dX12_orders_22 : decode cX12_orders 22 = .ok (.iload_n 2, 1) := by decide +kernel
theorem dX12_orders_23 : decode cX12_orders 23 = .ok (.iconst 1, 1) := by decide +kernel
theorem dX12_orders_24 : decode cX12_orders 24 = .ok (.isub, 1) := by decide +kernel
theorem dX12_orders_25 : decode cX12_orders 25 = .ok (.iaload, 1) := by decide +kernel
theorem dX12_orders_26 : decode cX12_orders 26 = .ok (.invokevirtual 212, 3) := by decide +kernel
theorem dX12_orders_29 : decode cX12_orders 29 = .ok (.ifCond .eq 23, 3) := by decide +kernel
theorem dX12_orders_32 : decode cX12_orders 32 = .ok (.aload_n 0, 1) := by decide +kernel
theorem dX12_orders_33 : decode cX12_orders 33 = .ok (.getfield 35, 3) := by decide +kernel
theorem dX12_orders_36 : decode cX12_orders 36 = .ok (.iload_n 2, 1) := by decide +kernel
theorem dX12_orders_37 : decode cX12_orders 37 = .ok (.aload_n 0, 1) := by decide +kernel
theorem dX12_orders_38 : decode cX12_orders 38 = .ok (.getfield 35, 3) := by decide +kernel
theorem dX12_orders_41 : decode cX12_orders 41 = .ok (.iload_n 2, 1) := by decide +kernel
theorem dX12_orders_42 : decode cX12_orders 42 = .ok (.iconst 1, 1) := by decide +kernel
theorem dX12_orders_43 : decode cX12_orders 43 = .ok (.isub, 1) := by decide +kernel
theorem dX12_orders_44 : decode cX12_orders 44 = .ok (.iaload, 1) := by decide +kernel
theorem dX12_orders_45 : decode cX12_orders 45 = .ok (.iastore, 1) := by decide +kernel
theorem dX12_orders_46 : decode cX12_orders 46 = .ok (.iinc 2 (-1), 3) := by decide +kernel
theorem dX12_orders_49 : decode cX12_orders 49 = .ok (.goto (-37), 3) := by decide +kernel
theorem dX12_orders_52 : decode cX12_orders 52 = .ok (.aload_n 0, 1) := by decide +kernel
theorem dX12_orders_53 : decode cX12_orders 53 = .ok (.getfield 35, 3) := by decide +kernel
theorem dX12_orders_56 : decode cX12_orders 56 = .ok (.iload_n 2, 1) := by decide +kernel
theorem dX12_orders_57 : decode cX12_orders 57 = .ok (.iload_n 1, 1) := by decide +kernel
theorem dX12_orders_58 : decode cX12_orders 58 = .ok (.iastore, 1) := by decide +kernel
theorem dX12_orders_59 : decode cX12_orders 59 = .ok (.iinc 1 1, 3) := by decide +kernel
theorem dX12_orders_62 : decode cX12_orders 62 = .ok (.goto (-60), 3) := by decide +kernel
theorem dX12_orders_65 : decode cX12_orders 65 = .ok (.return_, 1) := by decide +kernel
theorem dX12_finds_0 : decode cX12_finds 0 = .ok (.aload_n 0, 1) := by decide +kernel
theorem dX12_finds_1 : decode cX12_finds 1 = .ok (.iload_n 1, 1) := by decide +kernel
theorem dX12_finds_2 : decode cX12_finds 2 = .ok (.invokevirtual 215, 3) := by decide +kernel
theorem dX12_finds_5 : decode cX12_finds 5 = .ok (.ifCond .eq 11, 3) := by decide +kernel
theorem dX12_finds_8 : decode cX12_finds 8 = .ok (.iload_n 2, 1) := by decide +kernel
theorem dX12_finds_9 : decode cX12_finds 9 = .ok (.iload_n 3, 1) := by decide +kernel
theorem dX12_finds_10 : decode cX12_finds 10 = .ok (.invokestatic 218, 3) := by decide +kernel
theorem dX12_finds_13 : decode cX12_finds 13 = .ok (.ifCond .ne 5, 3) := by decide +kernel
theorem dX12_finds_16 : decode cX12_finds 16 = .ok (.iconst 0, 1) := by decide +kernel
theorem dX12_finds_17 : decode cX12_finds 17 = .ok (.ireturn, 1) := by decide +kernel
theorem dX12_finds_18 : decode cX12_finds 18 = .ok (.aload_n 0, 1) := by decide +kernel
theorem dX12_finds_19 : decode cX12_finds 19 = .ok (.aload_n 0, 1) := by decide +kernel
theorem dX12_finds_20 : decode cX12_finds 20 = .ok (.iload_n 1, 1) := by decide +kernel
theorem dX12_finds_21 : decode cX12_finds 21 = .ok (.iconst 0, 1) := by decide +kernel
theorem dX12_finds_22 : decode cX12_finds 22 = .ok (.invokevirtual 83, 3) := by decide +kernel
theorem dX12_finds_25 : decode cX12_finds 25 = .ok (.aload_n 0, 1) := by decide +kernel
theorem dX12_finds_26 : decode cX12_finds 26 = .ok (.iload_n 1, 1) := by decide +kernel
theorem dX12_finds_27 : decode cX12_finds 27 = .ok (.iconst 1, 1) := by decide +kernel
theorem dX12_finds_28 : decode cX12_finds 28 = .ok (.invokevirtual 83, 3) := by decide +kernel
theorem dX12_finds_31 : decode cX12_finds 31 = .ok (.aload_n 0, 1) := by decide +kernel
theorem dX12_finds_32 : decode cX12_finds 32 = .ok (.iload_n 1, 1) := by decide +kernel
theorem dX12_finds_33 : decode cX12_finds 33 = .ok (.iconst 3, 1) := by decide +kernel
theorem dX12_finds_34 : decode cX12_finds 34 = .ok (.invokevirtual 83, 3) := by decide +kernel
theorem dX12_finds_37 : decode cX12_finds 37 = .ok (.invokevirtual 221, 3) := by decide +kernel
theorem dX12_finds_40 : decode cX12_finds 40 = .ok (.aload_n 0, 1) := by decide +kernel
theorem dX12_finds_41 : decode cX12_finds 41 = .ok (.iload_n 2, 1) := by decide +kernel
theorem dX12_finds_42 : decode cX12_finds 42 = .ok (.iload_n 3, 1) := by decide +kernel
theorem dX12_finds_43 : decode cX12_finds 43 = .ok (.invokevirtual 225, 3) := by decide +kernel
theorem dX12_finds_46 : decode cX12_finds 46 = .ok (.aload_n 0, 1) := by decide +kernel
theorem dX12_finds_47 : decode cX12_finds 47 = .ok (.invokevirtual 228, 3) := by decide +kernel
theorem dX12_finds_50 : decode cX12_finds 50 = .ok (.iconst 1, 1) := by decide +kernel
theorem dX12_finds_51 : decode cX12_finds 51 = .ok (.ireturn, 1) := by decide +kernel
theorem dX12_sees_0 : decode cX12_sees 0 = .ok (.aload_n 0, 1) := by decide +kernel
theorem dX12_sees_1 : decode cX12_sees 1 = .ok (.iload_n 1, 1) := by decide +kernel
theorem dX12_sees_2 : decode cX12_sees 2 = .ok (.iload_n 2, 1) := by decide +kernel
theorem dX12_sees_3 : decode cX12_sees 3 = .ok (.iload_n 3, 1) := by decide +kernel
theorem dX12_sees_4 : decode cX12_sees 4 = .ok (.invokevirtual 231, 3) := by decide +kernel
theorem dX12_sees_7 : decode cX12_sees 7 = .ok (.ifCond .ne 5, 3) := by decide +kernel
theorem dX12_sees_10 : decode cX12_sees 10 = .ok (.iconst 0, 1) := by decide +kernel
theorem dX12_sees_11 : decode cX12_sees 11 = .ok (.ireturn, 1) := by decide +kernel
theorem dX12_sees_12 : decode cX12_sees 12 = .ok (.iconst 0, 1) := by decide +kernel
theorem dX12_sees_13 : decode cX12_sees 13 = .ok (.istore 4, 2) := by decide +kernel
theorem dX12_sees_15 : decode cX12_sees 15 = .ok (.iconst 0, 1) := by decide +kernel
theorem dX12_sees_16 : decode cX12_sees 16 = .ok (.istore 5, 2) := by decide +kernel
theorem dX12_sees_18 : decode cX12_sees 18 = .ok (.iload 5, 2) := by decide +kernel
theorem dX12_sees_20 : decode cX12_sees 20 = .ok (.aload_n 0, 1) := by decide +kernel
theorem dX12_sees_21 : decode cX12_sees 21 = .ok (.getfield 142, 3) := by decide +kernel
theorem dX12_sees_24 : decode cX12_sees 24 = .ok (.if_icmp .ge 31, 3) := by decide +kernel
theorem dX12_sees_27 : decode cX12_sees 27 = .ok (.iload 4, 2) := by decide +kernel
theorem dX12_sees_29 : decode cX12_sees 29 = .ok (.ifCond .ne 13, 3) := by decide +kernel
theorem dX12_sees_32 : decode cX12_sees 32 = .ok (.aload_n 0, 1) := by decide +kernel
theorem dX12_sees_33 : decode cX12_sees 33 = .ok (.getfield 17, 3) := by decide +kernel
theorem dX12_sees_36 : decode cX12_sees 36 = .ok (.iload 5, 2) := by decide +kernel
theorem dX12_sees_38 : decode cX12_sees 38 = .ok (.iaload, 1) := by decide +kernel
theorem dX12_sees_39 : decode cX12_sees 39 = .ok (.ifCond .ne 7, 3) := by decide +kernel
theorem dX12_sees_42 : decode cX12_sees 42 = .ok (.iconst 1, 1) := by decide +kernel
theorem dX12_sees_43 : decode cX12_sees 43 = .ok (.goto 4, 3) := by decide +kernel
theorem dX12_sees_46 : decode cX12_sees 46 = .ok (.iconst 0, 1) := by decide +kernel
theorem dX12_sees_47 : decode cX12_sees 47 = .ok (.istore 4, 2) := by decide +kernel
theorem dX12_sees_49 : decode cX12_sees 49 = .ok (.iinc 5 1, 3) := by decide +kernel
theorem dX12_sees_52 : decode cX12_sees 52 = .ok (.goto (-34), 3) := by decide +kernel
theorem dX12_sees_55 : decode cX12_sees 55 = .ok (.iload 4, 2) := by decide +kernel
theorem dX12_sees_57 : decode cX12_sees 57 = .ok (.ireturn, 1) := by decide +kernel
theorem dX12_ways_0 : decode cX12_ways 0 = .ok (.aload_n 0, 1) := by decide +kernel
theorem dX12_ways_1 : decode cX12_ways 1 = .ok (.iload_n 1, 1) := by decide +kernel
theorem dX12_ways_2 : decode cX12_ways 2 = .ok (.iload_n 2, 1) := by decide +kernel
theorem dX12_ways_3 : decode cX12_ways 3 = .ok (.iload_n 3, 1) := by decide +kernel
theorem dX12_ways_4 : decode cX12_ways 4 = .ok (.invokevirtual 231, 3) := by decide +kernel
theorem dX12_ways_7 : decode cX12_ways 7 = .ok (.ifCond .eq 10, 3) := by decide +kernel
theorem dX12_ways_10 : decode cX12_ways 10 = .ok (.aload_n 0, 1) := by decide +kernel
theorem dX12_ways_11 : decode cX12_ways 11 = .ok (.getfield 142, 3) := by decide +kernel
theorem dX12_ways_14 : decode cX12_ways 14 = .ok (.goto 4, 3) := by decide +kernel
theorem dX12_ways_17 : decode cX12_ways 17 = .ok (.iconst (-1), 1) := by decide +kernel
theorem dX12_ways_18 : decode cX12_ways 18 = .ok (.ireturn, 1) := by decide +kernel
theorem dX12_late_0 : decode cX12_late 0 = .ok (.ldc2_w 234, 3) := by decide +kernel
theorem dX12_late_3 : decode cX12_late 3 = .ok (.lload_n 0, 1) := by decide +kernel
theorem dX12_late_4 : decode cX12_late 4 = .ok (.lmul, 1) := by decide +kernel
theorem dX12_late_5 : decode cX12_late 5 = .ok (.invokestatic 186, 3) := by decide +kernel
theorem dX12_late_8 : decode cX12_late 8 = .ok (.l2i, 1) := by decide +kernel
theorem dX12_late_9 : decode cX12_late 9 = .ok (.ireturn, 1) := by decide +kernel
theorem dX12_way_0 : decode cX12_way 0 = .ok (.aload_n 0, 1) := by decide +kernel
theorem dX12_way_1 : decode cX12_way 1 = .ok (.iload_n 1, 1) := by decide +kernel
theorem dX12_way_2 : decode cX12_way 2 = .ok (.iload_n 2, 1) := by decide +kernel
theorem dX12_way_3 : decode cX12_way 3 = .ok (.iload_n 3, 1) := by decide +kernel
theorem dX12_way_4 : decode cX12_way 4 = .ok (.invokevirtual 231, 3) := by decide +kernel
theorem dX12_way_7 : decode cX12_way 7 = .ok (.ifCond .eq 18, 3) := by decide +kernel
theorem dX12_way_10 : decode cX12_way 10 = .ok (.iload 4, 2) := by decide +kernel
theorem dX12_way_12 : decode cX12_way 12 = .ok (.iconst 0, 1) := by decide +kernel
theorem dX12_way_13 : decode cX12_way 13 = .ok (.aload_n 0, 1) := by decide +kernel
theorem dX12_way_14 : decode cX12_way 14 = .ok (.getfield 142, 3) := by decide +kernel
theorem dX12_way_17 : decode cX12_way 17 = .ok (.iconst 1, 1) := by decide +kernel
theorem dX12_way_18 : decode cX12_way 18 = .ok (.isub, 1) := by decide +kernel
theorem dX12_way_19 : decode cX12_way 19 = .ok (.invokestatic 68, 3) := by decide +kernel
theorem dX12_way_22 : decode cX12_way 22 = .ok (.ifCond .ne 6, 3) := by decide +kernel
theorem dX12_way_25 : decode cX12_way 25 = .ok (.bipush (-2), 2) := by decide +kernel
theorem dX12_way_27 : decode cX12_way 27 = .ok (.ireturn, 1) := by decide +kernel
theorem dX12_way_28 : decode cX12_way 28 = .ok (.aload_n 0, 1) := by decide +kernel
theorem dX12_way_29 : decode cX12_way 29 = .ok (.getfield 35, 3) := by decide +kernel
theorem dX12_way_32 : decode cX12_way 32 = .ok (.iload 4, 2) := by decide +kernel
theorem dX12_way_34 : decode cX12_way 34 = .ok (.iaload, 1) := by decide +kernel
theorem dX12_way_35 : decode cX12_way 35 = .ok (.istore 6, 2) := by decide +kernel
theorem dX12_way_37 : decode cX12_way 37 = .ok (.iload 5, 2) := by decide +kernel
theorem dX12_way_39 : decode cX12_way 39 = .ok (.tableswitch 113 0 6 #[41, 49, 57, 65, 73, 81, 89], 41) := by decide +kernel
theorem dX12_way_80 : decode cX12_way 80 = .ok (.aload_n 0, 1) := by decide +kernel
theorem dX12_way_81 : decode cX12_way 81 = .ok (.getfield 17, 3) := by decide +kernel
theorem dX12_way_84 : decode cX12_way 84 = .ok (.iload 6, 2) := by decide +kernel
theorem dX12_way_86 : decode cX12_way 86 = .ok (.iaload, 1) := by decide +kernel
theorem dX12_way_87 : decode cX12_way 87 = .ok (.ireturn, 1) := by decide +kernel
theorem dX12_way_88 : decode cX12_way 88 = .ok (.aload_n 0, 1) := by decide +kernel
theorem dX12_way_89 : decode cX12_way 89 = .ok (.getfield 20, 3) := by decide +kernel
theorem dX12_way_92 : decode cX12_way 92 = .ok (.iload 6, 2) := by decide +kernel
theorem dX12_way_94 : decode cX12_way 94 = .ok (.iaload, 1) := by decide +kernel
theorem dX12_way_95 : decode cX12_way 95 = .ok (.ireturn, 1) := by decide +kernel
theorem dX12_way_96 : decode cX12_way 96 = .ok (.aload_n 0, 1) := by decide +kernel
theorem dX12_way_97 : decode cX12_way 97 = .ok (.getfield 23, 3) := by decide +kernel
theorem dX12_way_100 : decode cX12_way 100 = .ok (.iload 6, 2) := by decide +kernel
theorem dX12_way_102 : decode cX12_way 102 = .ok (.iaload, 1) := by decide +kernel
theorem dX12_way_103 : decode cX12_way 103 = .ok (.ireturn, 1) := by decide +kernel
theorem dX12_way_104 : decode cX12_way 104 = .ok (.aload_n 0, 1) := by decide +kernel
theorem dX12_way_105 : decode cX12_way 105 = .ok (.getfield 26, 3) := by decide +kernel
theorem dX12_way_108 : decode cX12_way 108 = .ok (.iload 6, 2) := by decide +kernel
theorem dX12_way_110 : decode cX12_way 110 = .ok (.iaload, 1) := by decide +kernel
theorem dX12_way_111 : decode cX12_way 111 = .ok (.ireturn, 1) := by decide +kernel
theorem dX12_way_112 : decode cX12_way 112 = .ok (.aload_n 0, 1) := by decide +kernel
theorem dX12_way_113 : decode cX12_way 113 = .ok (.getfield 29, 3) := by decide +kernel
theorem dX12_way_116 : decode cX12_way 116 = .ok (.iload 6, 2) := by decide +kernel
theorem dX12_way_118 : decode cX12_way 118 = .ok (.iaload, 1) := by decide +kernel
theorem dX12_way_119 : decode cX12_way 119 = .ok (.ireturn, 1) := by decide +kernel
theorem dX12_way_120 : decode cX12_way 120 = .ok (.aload_n 0, 1) := by decide +kernel
theorem dX12_way_121 : decode cX12_way 121 = .ok (.getfield 32, 3) := by decide +kernel
theorem dX12_way_124 : decode cX12_way 124 = .ok (.iload 6, 2) := by decide +kernel
theorem dX12_way_126 : decode cX12_way 126 = .ok (.iaload, 1) := by decide +kernel
theorem dX12_way_127 : decode cX12_way 127 = .ok (.ireturn, 1) := by decide +kernel
theorem dX12_way_128 : decode cX12_way 128 = .ok (.aload_n 0, 1) := by decide +kernel
theorem dX12_way_129 : decode cX12_way 129 = .ok (.getfield 26, 3) := by decide +kernel
theorem dX12_way_132 : decode cX12_way 132 = .ok (.iload 6, 2) := by decide +kernel
theorem dX12_way_134 : decode cX12_way 134 = .ok (.iaload, 1) := by decide +kernel
theorem dX12_way_135 : decode cX12_way 135 = .ok (.i2l, 1) := by decide +kernel
theorem dX12_way_136 : decode cX12_way 136 = .ok (.invokestatic 236, 3) := by decide +kernel
theorem dX12_way_139 : decode cX12_way 139 = .ok (.aload_n 0, 1) := by decide +kernel
theorem dX12_way_140 : decode cX12_way 140 = .ok (.getfield 29, 3) := by decide +kernel
theorem dX12_way_143 : decode cX12_way 143 = .ok (.iload 6, 2) := by decide +kernel
theorem dX12_way_145 : decode cX12_way 145 = .ok (.iaload, 1) := by decide +kernel
theorem dX12_way_146 : decode cX12_way 146 = .ok (.i2l, 1) := by decide +kernel
theorem dX12_way_147 : decode cX12_way 147 = .ok (.invokestatic 236, 3) := by decide +kernel
theorem dX12_way_150 : decode cX12_way 150 = .ok (.iadd, 1) := by decide +kernel
theorem dX12_way_151 : decode cX12_way 151 = .ok (.ireturn, 1) := by decide +kernel
theorem dX12_way_152 : decode cX12_way 152 = .ok (.bipush (-2), 2) := by decide +kernel
theorem dX12_way_154 : decode cX12_way 154 = .ok (.ireturn, 1) := by decide +kernel
theorem dX12_compare_0 : decode cX12_compare 0 = .ok (.aload_n 0, 1) := by decide +kernel
theorem dX12_compare_1 : decode cX12_compare 1 = .ok (.iload_n 1, 1) := by decide +kernel
theorem dX12_compare_2 : decode cX12_compare 2 = .ok (.iload 5, 2) := by decide +kernel
theorem dX12_compare_4 : decode cX12_compare 4 = .ok (.iload 6, 2) := by decide +kernel
theorem dX12_compare_6 : decode cX12_compare 6 = .ok (.invokevirtual 231, 3) := by decide +kernel
theorem dX12_compare_9 : decode cX12_compare 9 = .ok (.ifCond .eq 17, 3) := by decide +kernel
theorem dX12_compare_12 : decode cX12_compare 12 = .ok (.iload_n 2, 1) := by decide +kernel
theorem dX12_compare_13 : decode cX12_compare 13 = .ok (.iconst 0, 1) := by decide +kernel
theorem dX12_compare_14 : decode cX12_compare 14 = .ok (.aload_n 0, 1) := by decide +kernel
theorem dX12_compare_15 : decode cX12_compare 15 = .ok (.getfield 142, 3) := by decide +kernel
theorem dX12_compare_18 : decode cX12_compare 18 = .ok (.iconst 1, 1) := by decide +kernel
theorem dX12_compare_19 : decode cX12_compare 19 = .ok (.isub, 1) := by decide +kernel
theorem dX12_compare_20 : decode cX12_compare 20 = .ok (.invokestatic 68, 3) := by decide +kernel
theorem dX12_compare_23 : decode cX12_compare 23 = .ok (.ifCond .ne 6, 3) := by decide +kernel
theorem dX12_compare_26 : decode cX12_compare 26 = .ok (.bipush (-2), 2) := by decide +kernel
theorem dX12_compare_28 : decode cX12_compare 28 = .ok (.ireturn, 1) := by decide +kernel
theorem dX12_compare_29 : decode cX12_compare 29 = .ok (.aload_n 0, 1) := by decide +kernel
theorem dX12_compare_30 : decode cX12_compare 30 = .ok (.getfield 26, 3) := by decide +kernel
theorem dX12_compare_33 : decode cX12_compare 33 = .ok (.aload_n 0, 1) := by decide +kernel
theorem dX12_compare_34 : decode cX12_compare 34 = .ok (.getfield 35, 3) := by decide +kernel
theorem dX12_compare_37 : decode cX12_compare 37 = .ok (.iload_n 2, 1) := by decide +kernel
theorem dX12_compare_38 : decode cX12_compare 38 = .ok (.iaload, 1) := by decide +kernel
theorem dX12_compare_39 : decode cX12_compare 39 = .ok (.iaload, 1) := by decide +kernel
theorem dX12_compare_40 : decode cX12_compare 40 = .ok (.i2l, 1) := by decide +kernel
theorem dX12_compare_41 : decode cX12_compare 41 = .ok (.lstore 7, 2) := by decide +kernel
theorem dX12_compare_43 : decode cX12_compare 43 = .ok (.aload_n 0, 1) := by decide +kernel
theorem dX12_compare_44 : decode cX12_compare 44 = .ok (.getfield 29, 3) := by decide +kernel
theorem dX12_compare_47 : decode cX12_compare 47 = .ok (.aload_n 0, 1) := by decide +kernel
theorem dX12_compare_48 : decode cX12_compare 48 = .ok (.getfield 35, 3) := by decide +kernel
theorem dX12_compare_51 : decode cX12_compare 51 = .ok (.iload_n 2, 1) := by decide +kernel
theorem dX12_compare_52 : decode cX12_compare 52 = .ok (.iaload, 1) := by decide +kernel
theorem dX12_compare_53 : decode cX12_compare 53 = .ok (.iaload, 1) := by decide +kernel
theorem dX12_compare_54 : decode cX12_compare 54 = .ok (.i2l, 1) := by decide +kernel
theorem dX12_compare_55 : decode cX12_compare 55 = .ok (.lstore 9, 2) := by decide +kernel
theorem dX12_compare_57 : decode cX12_compare 57 = .ok (.aload_n 0, 1) := by decide +kernel
theorem dX12_compare_58 : decode cX12_compare 58 = .ok (.iload_n 3, 1) := by decide +kernel
theorem dX12_compare_59 : decode cX12_compare 59 = .ok (.iload 5, 2) := by decide +kernel
theorem dX12_compare_61 : decode cX12_compare 61 = .ok (.iload 6, 2) := by decide +kernel
theorem dX12_compare_63 : decode cX12_compare 63 = .ok (.invokevirtual 231, 3) := by decide +kernel
theorem dX12_compare_66 : decode cX12_compare 66 = .ok (.ifCond .eq 18, 3) := by decide +kernel
theorem dX12_compare_69 : decode cX12_compare 69 = .ok (.iload 4, 2) := by decide +kernel
theorem dX12_compare_71 : decode cX12_compare 71 = .ok (.iconst 0, 1) := by decide +kernel
theorem dX12_compare_72 : decode cX12_compare 72 = .ok (.aload_n 0, 1) := by decide +kernel
theorem dX12_compare_73 : decode cX12_compare 73 = .ok (.getfield 142, 3) := by decide +kernel
theorem dX12_compare_76 : decode cX12_compare 76 = .ok (.iconst 1, 1) := by decide +kernel
theorem dX12_compare_77 : decode cX12_compare 77 = .ok (.isub, 1) := by decide +kernel
theorem dX12_compare_78 : decode cX12_compare 78 = .ok (.invokestatic 68, 3) := by decide +kernel
theorem dX12_compare_81 : decode cX12_compare 81 = .ok (.ifCond .ne 6, 3) := by decide +kernel
theorem dX12_compare_84 : decode cX12_compare 84 = .ok (.bipush (-2), 2) := by decide +kernel
theorem dX12_compare_86 : decode cX12_compare 86 = .ok (.ireturn, 1) := by decide +kernel
theorem dX12_compare_87 : decode cX12_compare 87 = .ok (.lload 7, 2) := by decide +kernel
theorem dX12_compare_89 : decode cX12_compare 89 = .ok (.lload 9, 2) := by decide +kernel
theorem dX12_compare_91 : decode cX12_compare 91 = .ok (.aload_n 0, 1) := by decide +kernel
theorem dX12_compare_92 : decode cX12_compare 92 = .ok (.getfield 26, 3) := by decide +kernel
theorem dX12_compare_95 : decode cX12_compare 95 = .ok (.aload_n 0, 1) := by decide +kernel
theorem dX12_compare_96 : decode cX12_compare 96 = .ok (.getfield 35, 3) := by decide +kernel
theorem dX12_compare_99 : decode cX12_compare 99 = .ok (.iload 4, 2) := by decide +kernel
theorem dX12_compare_101 : decode cX12_compare 101 = .ok (.iaload, 1) := by decide +kernel
theorem dX12_compare_102 : decode cX12_compare 102 = .ok (.iaload, 1) := by decide +kernel
theorem dX12_compare_103 : decode cX12_compare 103 = .ok (.i2l, 1) := by decide +kernel
theorem dX12_compare_104 : decode cX12_compare 104 = .ok (.aload_n 0, 1) := by decide +kernel
theorem dX12_compare_105 : decode cX12_compare 105 = .ok (.getfield 29, 3) := by decide +kernel
theorem dX12_compare_108 : decode cX12_compare 108 = .ok (.aload_n 0, 1) := by decide +kernel
theorem dX12_compare_109 : decode cX12_compare 109 = .ok (.getfield 35, 3) := by decide +kernel
theorem dX12_compare_112 : decode cX12_compare 112 = .ok (.iload 4, 2) := by decide +kernel
theorem dX12_compare_114 : decode cX12_compare 114 = .ok (.iaload, 1) := by decide +kernel
theorem dX12_compare_115 : decode cX12_compare 115 = .ok (.iaload, 1) := by decide +kernel
theorem dX12_compare_116 : decode cX12_compare 116 = .ok (.i2l, 1) := by decide +kernel
theorem dX12_compare_117 : decode cX12_compare 117 = .ok (.invokestatic 205, 3) := by decide +kernel
theorem dX12_compare_120 : decode cX12_compare 120 = .ok (.ireturn, 1) := by decide +kernel
theorem dX12_forgets_0 : decode cX12_forgets 0 = .ok (.iconst 0, 1) := by decide +kernel
theorem dX12_forgets_1 : decode cX12_forgets 1 = .ok (.istore_n 1, 1) := by decide +kernel
theorem dX12_forgets_2 : decode cX12_forgets 2 = .ok (.iload_n 1, 1) := by decide +kernel
theorem dX12_forgets_3 : decode cX12_forgets 3 = .ok (.sipush 2646, 3) := by decide +kernel
theorem dX12_forgets_6 : decode cX12_forgets 6 = .ok (.if_icmp .ge 16, 3) := by decide +kernel
theorem dX12_forgets_9 : decode cX12_forgets 9 = .ok (.aload_n 0, 1) := by decide +kernel
theorem dX12_forgets_10 : decode cX12_forgets 10 = .ok (.getfield 38, 3) := by decide +kernel
theorem dX12_forgets_13 : decode cX12_forgets 13 = .ok (.iload_n 1, 1) := by decide +kernel
theorem dX12_forgets_14 : decode cX12_forgets 14 = .ok (.iconst (-1), 1) := by decide +kernel
theorem dX12_forgets_15 : decode cX12_forgets 15 = .ok (.iastore, 1) := by decide +kernel
theorem dX12_forgets_16 : decode cX12_forgets 16 = .ok (.iinc 1 1, 3) := by decide +kernel
theorem dX12_forgets_19 : decode cX12_forgets 19 = .ok (.goto (-17), 3) := by decide +kernel
theorem dX12_forgets_22 : decode cX12_forgets 22 = .ok (.return_, 1) := by decide +kernel
theorem dX12_sum_0 : decode cX12_sum 0 = .ok (.iconst 0, 1) := by decide +kernel
theorem dX12_sum_1 : decode cX12_sum 1 = .ok (.istore_n 1, 1) := by decide +kernel
theorem dX12_sum_2 : decode cX12_sum 2 = .ok (.iconst 0, 1) := by decide +kernel
theorem dX12_sum_3 : decode cX12_sum 3 = .ok (.istore_n 2, 1) := by decide +kernel
theorem dX12_sum_4 : decode cX12_sum 4 = .ok (.iload_n 2, 1) := by decide +kernel
theorem dX12_sum_5 : decode cX12_sum 5 = .ok (.aload_n 0, 1) := by decide +kernel
theorem dX12_sum_6 : decode cX12_sum 6 = .ok (.getfield 142, 3) := by decide +kernel
theorem dX12_sum_9 : decode cX12_sum 9 = .ok (.if_icmp .ge 18, 3) := by decide +kernel
theorem dX12_sum_12 : decode cX12_sum 12 = .ok (.iload_n 1, 1) := by decide +kernel
theorem dX12_sum_13 : decode cX12_sum 13 = .ok (.aload_n 0, 1) := by decide +kernel
theorem dX12_sum_14 : decode cX12_sum 14 = .ok (.getfield 32, 3) := by decide +kernel
theorem dX12_sum_17 : decode cX12_sum 17 = .ok (.iload_n 2, 1) := by decide +kernel
theorem dX12_sum_18 : decode cX12_sum 18 = .ok (.iaload, 1) := by decide +kernel
theorem dX12_sum_19 : decode cX12_sum 19 = .ok (.iadd, 1) := by decide +kernel
theorem dX12_sum_20 : decode cX12_sum 20 = .ok (.istore_n 1, 1) := by decide +kernel
theorem dX12_sum_21 : decode cX12_sum 21 = .ok (.iinc 2 1, 3) := by decide +kernel
theorem dX12_sum_24 : decode cX12_sum 24 = .ok (.goto (-20), 3) := by decide +kernel
theorem dX12_sum_27 : decode cX12_sum 27 = .ok (.iload_n 1, 1) := by decide +kernel
theorem dX12_sum_28 : decode cX12_sum 28 = .ok (.ireturn, 1) := by decide +kernel
theorem dX12_signalOf_0 : decode cX12_signalOf 0 = .ok (.sipush 441, 3) := by decide +kernel
theorem dX12_signalOf_3 : decode cX12_signalOf 3 = .ok (.iload_n 1, 1) := by decide +kernel
theorem dX12_signalOf_4 : decode cX12_signalOf 4 = .ok (.imul, 1) := by decide +kernel
theorem dX12_signalOf_5 : decode cX12_signalOf 5 = .ok (.bipush 21, 2) := by decide +kernel
theorem dX12_signalOf_7 : decode cX12_signalOf 7 = .ok (.iload_n 3, 1) := by decide +kernel
theorem dX12_signalOf_8 : decode cX12_signalOf 8 = .ok (.imul, 1) := by decide +kernel
theorem dX12_signalOf_9 : decode cX12_signalOf 9 = .ok (.iadd, 1) := by decide +kernel
theorem dX12_signalOf_10 : decode cX12_signalOf 10 = .ok (.iload_n 2, 1) := by decide +kernel
theorem dX12_signalOf_11 : decode cX12_signalOf 11 = .ok (.iadd, 1) := by decide +kernel
theorem dX12_signalOf_12 : decode cX12_signalOf 12 = .ok (.istore 4, 2) := by decide +kernel
theorem dX12_signalOf_14 : decode cX12_signalOf 14 = .ok (.aload_n 0, 1) := by decide +kernel
theorem dX12_signalOf_15 : decode cX12_signalOf 15 = .ok (.getfield 38, 3) := by decide +kernel
theorem dX12_signalOf_18 : decode cX12_signalOf 18 = .ok (.iload 4, 2) := by decide +kernel
theorem dX12_signalOf_20 : decode cX12_signalOf 20 = .ok (.iaload, 1) := by decide +kernel
theorem dX12_signalOf_21 : decode cX12_signalOf 21 = .ok (.ifCond .lt 11, 3) := by decide +kernel
theorem dX12_signalOf_24 : decode cX12_signalOf 24 = .ok (.aload_n 0, 1) := by decide +kernel
theorem dX12_signalOf_25 : decode cX12_signalOf 25 = .ok (.getfield 38, 3) := by decide +kernel
theorem dX12_signalOf_28 : decode cX12_signalOf 28 = .ok (.iload 4, 2) := by decide +kernel
theorem dX12_signalOf_30 : decode cX12_signalOf 30 = .ok (.iaload, 1) := by decide +kernel
theorem dX12_signalOf_31 : decode cX12_signalOf 31 = .ok (.ireturn, 1) := by decide +kernel
theorem dX12_signalOf_32 : decode cX12_signalOf 32 = .ok (.aload_n 0, 1) := by decide +kernel
theorem dX12_signalOf_33 : decode cX12_signalOf 33 = .ok (.aload_n 0, 1) := by decide +kernel
theorem dX12_signalOf_34 : decode cX12_signalOf 34 = .ok (.iload_n 1, 1) := by decide +kernel
theorem dX12_signalOf_35 : decode cX12_signalOf 35 = .ok (.iconst 0, 1) := by decide +kernel
theorem dX12_signalOf_36 : decode cX12_signalOf 36 = .ok (.invokevirtual 83, 3) := by decide +kernel
theorem dX12_signalOf_39 : decode cX12_signalOf 39 = .ok (.aload_n 0, 1) := by decide +kernel
theorem dX12_signalOf_40 : decode cX12_signalOf 40 = .ok (.iload_n 1, 1) := by decide +kernel
theorem dX12_signalOf_41 : decode cX12_signalOf 41 = .ok (.iconst 1, 1) := by decide +kernel
theorem dX12_signalOf_42 : decode cX12_signalOf 42 = .ok (.invokevirtual 83, 3) := by decide +kernel
theorem dX12_signalOf_45 : decode cX12_signalOf 45 = .ok (.aload_n 0, 1) := by decide +kernel
theorem dX12_signalOf_46 : decode cX12_signalOf 46 = .ok (.iload_n 1, 1) := by decide +kernel
theorem dX12_signalOf_47 : decode cX12_signalOf 47 = .ok (.iconst 3, 1) := by decide +kernel
theorem dX12_signalOf_48 : decode cX12_signalOf 48 = .ok (.invokevirtual 83, 3) := by decide +kernel
theorem dX12_signalOf_51 : decode cX12_signalOf 51 = .ok (.invokevirtual 221, 3) := by decide +kernel
theorem dX12_signalOf_54 : decode cX12_signalOf 54 = .ok (.aload_n 0, 1) := by decide +kernel
theorem dX12_signalOf_55 : decode cX12_signalOf 55 = .ok (.iload_n 2, 1) := by decide +kernel
theorem dX12_signalOf_56 : decode cX12_signalOf 56 = .ok (.iload_n 3, 1) := by decide +kernel
theorem dX12_signalOf_57 : decode cX12_signalOf 57 = .ok (.invokevirtual 225, 3) := by decide +kernel
theorem dX12_signalOf_60 : decode cX12_signalOf 60 = .ok (.aload_n 0, 1) := by decide +kernel
theorem dX12_signalOf_61 : decode cX12_signalOf 61 = .ok (.getfield 38, 3) := by decide +kernel
theorem dX12_signalOf_64 : decode cX12_signalOf 64 = .ok (.iload 4, 2) := by decide +kernel
theorem dX12_signalOf_66 : decode cX12_signalOf 66 = .ok (.aload_n 0, 1) := by decide +kernel
theorem dX12_signalOf_67 : decode cX12_signalOf 67 = .ok (.invokevirtual 240, 3) := by decide +kernel
theorem dX12_signalOf_70 : decode cX12_signalOf 70 = .ok (.iastore, 1) := by decide +kernel
theorem dX12_signalOf_71 : decode cX12_signalOf 71 = .ok (.aload_n 0, 1) := by decide +kernel
theorem dX12_signalOf_72 : decode cX12_signalOf 72 = .ok (.getfield 38, 3) := by decide +kernel
theorem dX12_signalOf_75 : decode cX12_signalOf 75 = .ok (.iload 4, 2) := by decide +kernel
theorem dX12_signalOf_77 : decode cX12_signalOf 77 = .ok (.iaload, 1) := by decide +kernel
theorem dX12_signalOf_78 : decode cX12_signalOf 78 = .ok (.ireturn, 1) := by decide +kernel
theorem dX12_signal_0 : decode cX12_signal 0 = .ok (.aload_n 0, 1) := by decide +kernel
theorem dX12_signal_1 : decode cX12_signal 1 = .ok (.iload_n 1, 1) := by decide +kernel
theorem dX12_signal_2 : decode cX12_signal 2 = .ok (.invokevirtual 215, 3) := by decide +kernel
theorem dX12_signal_5 : decode cX12_signal 5 = .ok (.ifCond .eq 21, 3) := by decide +kernel
theorem dX12_signal_8 : decode cX12_signal 8 = .ok (.iload_n 2, 1) := by decide +kernel
theorem dX12_signal_9 : decode cX12_signal 9 = .ok (.iload_n 3, 1) := by decide +kernel
theorem dX12_signal_10 : decode cX12_signal 10 = .ok (.invokestatic 218, 3) := by decide +kernel
theorem dX12_signal_13 : decode cX12_signal 13 = .ok (.ifCond .eq 13, 3) := by decide +kernel
theorem dX12_signal_16 : decode cX12_signal 16 = .ok (.aload_n 0, 1) := by decide +kernel
theorem dX12_signal_17 : decode cX12_signal 17 = .ok (.iload_n 1, 1) := by decide +kernel
theorem dX12_signal_18 : decode cX12_signal 18 = .ok (.iload_n 2, 1) := by decide +kernel
theorem dX12_signal_19 : decode cX12_signal 19 = .ok (.iload_n 3, 1) := by decide +kernel
theorem dX12_signal_20 : decode cX12_signal 20 = .ok (.invokevirtual 244, 3) := by decide +kernel
theorem dX12_signal_23 : decode cX12_signal 23 = .ok (.goto 4, 3) := by decide +kernel
theorem dX12_signal_26 : decode cX12_signal 26 = .ok (.iconst (-1), 1) := by decide +kernel
theorem dX12_signal_27 : decode cX12_signal 27 = .ok (.ireturn, 1) := by decide +kernel
theorem dX12_isHeard_0 : decode cX12_isHeard 0 = .ok (.aload_n 0, 1) := by decide +kernel
theorem dX12_isHeard_1 : decode cX12_isHeard 1 = .ok (.getfield 7, 3) := by decide +kernel
theorem dX12_isHeard_4 : decode cX12_isHeard 4 = .ok (.bipush 13, 2) := by decide +kernel
theorem dX12_isHeard_6 : decode cX12_isHeard 6 = .ok (.iaload, 1) := by decide +kernel
theorem dX12_isHeard_7 : decode cX12_isHeard 7 = .ok (.i2l, 1) := by decide +kernel
theorem dX12_isHeard_8 : decode cX12_isHeard 8 = .ok (.lstore 4, 2) := by decide +kernel
theorem dX12_isHeard_10 : decode cX12_isHeard 10 = .ok (.iconst 0, 1) := by decide +kernel
theorem dX12_isHeard_11 : decode cX12_isHeard 11 = .ok (.istore 6, 2) := by decide +kernel
theorem dX12_isHeard_13 : decode cX12_isHeard 13 = .ok (.iload 6, 2) := by decide +kernel
theorem dX12_isHeard_15 : decode cX12_isHeard 15 = .ok (.aload_n 0, 1) := by decide +kernel
theorem dX12_isHeard_16 : decode cX12_isHeard 16 = .ok (.getfield 7, 3) := by decide +kernel
theorem dX12_isHeard_19 : decode cX12_isHeard 19 = .ok (.iconst 1, 1) := by decide +kernel
theorem dX12_isHeard_20 : decode cX12_isHeard 20 = .ok (.iaload, 1) := by decide +kernel
theorem dX12_isHeard_21 : decode cX12_isHeard 21 = .ok (.if_icmp .ge 54, 3) := by decide +kernel
theorem dX12_isHeard_24 : decode cX12_isHeard 24 = .ok (.iload 6, 2) := by decide +kernel
theorem dX12_isHeard_26 : decode cX12_isHeard 26 = .ok (.iload_n 1, 1) := by decide +kernel
theorem dX12_isHeard_27 : decode cX12_isHeard 27 = .ok (.if_icmp .eq 42, 3) := by decide +kernel
theorem dX12_isHeard_30 : decode cX12_isHeard 30 = .ok (.aload_n 0, 1) := by decide +kernel
theorem dX12_isHeard_31 : decode cX12_isHeard 31 = .ok (.iload 6, 2) := by decide +kernel
theorem dX12_isHeard_33 : decode cX12_isHeard 33 = .ok (.invokevirtual 215, 3) := by decide +kernel
theorem dX12_isHeard_36 : decode cX12_isHeard 36 = .ok (.ifCond .eq 33, 3) := by decide +kernel
theorem dX12_isHeard_39 : decode cX12_isHeard 39 = .ok (.aload_n 0, 1) := by decide +kernel
theorem dX12_isHeard_40 : decode cX12_isHeard 40 = .ok (.iload 6, 2) := by decide +kernel
theorem dX12_isHeard_42 : decode cX12_isHeard 42 = .ok (.iconst 2, 1) := by decide +kernel
theorem dX12_isHeard_43 : decode cX12_isHeard 43 = .ok (.invokevirtual 83, 3) := by decide +kernel
theorem dX12_isHeard_46 : decode cX12_isHeard 46 = .ok (.aload_n 0, 1) := by decide +kernel
theorem dX12_isHeard_47 : decode cX12_isHeard 47 = .ok (.iload_n 1, 1) := by decide +kernel
theorem dX12_isHeard_48 : decode cX12_isHeard 48 = .ok (.iconst 2, 1) := by decide +kernel
theorem dX12_isHeard_49 : decode cX12_isHeard 49 = .ok (.invokevirtual 83, 3) := by decide +kernel
theorem dX12_isHeard_52 : decode cX12_isHeard 52 = .ok (.if_icmp .ne 17, 3) := by decide +kernel
theorem dX12_isHeard_55 : decode cX12_isHeard 55 = .ok (.lload 4, 2) := by decide +kernel
theorem dX12_isHeard_57 : decode cX12_isHeard 57 = .ok (.aload_n 0, 1) := by decide +kernel
theorem dX12_isHeard_58 : decode cX12_isHeard 58 = .ok (.iload 6, 2) := by decide +kernel
theorem dX12_isHeard_60 : decode cX12_isHeard 60 = .ok (.iload_n 2, 1) := by decide +kernel
theorem dX12_isHeard_61 : decode cX12_isHeard 61 = .ok (.iload_n 3, 1) := by decide +kernel
theorem dX12_isHeard_62 : decode cX12_isHeard 62 = .ok (.invokevirtual 244, 3) := by decide +kernel
theorem dX12_isHeard_65 : decode cX12_isHeard 65 = .ok (.i2l, 1) := by decide +kernel
theorem dX12_isHeard_66 : decode cX12_isHeard 66 = .ok (.ladd, 1) := by decide +kernel
theorem dX12_isHeard_67 : decode cX12_isHeard 67 = .ok (.lstore 4, 2) := by decide +kernel
theorem dX12_isHeard_69 : decode cX12_isHeard 69 = .ok (.iinc 6 1, 3) := by decide +kernel
theorem dX12_isHeard_72 : decode cX12_isHeard 72 = .ok (.goto (-59), 3) := by decide +kernel
theorem dX12_isHeard_75 : decode cX12_isHeard 75 = .ok (.aload_n 0, 1) := by decide +kernel
theorem dX12_isHeard_76 : decode cX12_isHeard 76 = .ok (.iload_n 1, 1) := by decide +kernel
theorem dX12_isHeard_77 : decode cX12_isHeard 77 = .ok (.iload_n 2, 1) := by decide +kernel
theorem dX12_isHeard_78 : decode cX12_isHeard 78 = .ok (.iload_n 3, 1) := by decide +kernel
theorem dX12_isHeard_79 : decode cX12_isHeard 79 = .ok (.invokevirtual 244, 3) := by decide +kernel
theorem dX12_isHeard_82 : decode cX12_isHeard 82 = .ok (.i2l, 1) := by decide +kernel
theorem dX12_isHeard_83 : decode cX12_isHeard 83 = .ok (.lstore 6, 2) := by decide +kernel
theorem dX12_isHeard_85 : decode cX12_isHeard 85 = .ok (.lload 6, 2) := by decide +kernel
theorem dX12_isHeard_87 : decode cX12_isHeard 87 = .ok (.lconst 0, 1) := by decide +kernel
theorem dX12_isHeard_88 : decode cX12_isHeard 88 = .ok (.lcmp, 1) := by decide +kernel
theorem dX12_isHeard_89 : decode cX12_isHeard 89 = .ok (.ifCond .le 28, 3) := by decide +kernel
theorem dX12_isHeard_92 : decode cX12_isHeard 92 = .ok (.lload 6, 2) := by decide +kernel
theorem dX12_isHeard_94 : decode cX12_isHeard 94 = .ok (.ldc2_w 111, 3) := by decide +kernel
theorem dX12_isHeard_97 : decode cX12_isHeard 97 = .ok (.lmul, 1) := by decide +kernel
theorem dX12_isHeard_98 : decode cX12_isHeard 98 = .ok (.aload_n 0, 1) := by decide +kernel
theorem dX12_isHeard_99 : decode cX12_isHeard 99 = .ok (.getfield 7, 3) := by decide +kernel
theorem dX12_isHeard_102 : decode cX12_isHeard 102 = .ok (.bipush 14, 2) := by decide +kernel
theorem dX12_isHeard_104 : decode cX12_isHeard 104 = .ok (.iaload, 1) := by decide +kernel
theorem dX12_isHeard_105 : decode cX12_isHeard 105 = .ok (.i2l, 1) := by decide +kernel
theorem dX12_isHeard_106 : decode cX12_isHeard 106 = .ok (.lload 4, 2) := by decide +kernel
theorem dX12_isHeard_108 : decode cX12_isHeard 108 = .ok (.lmul, 1) := by decide +kernel
theorem dX12_isHeard_109 : decode cX12_isHeard 109 = .ok (.lcmp, 1) := by decide +kernel
theorem dX12_isHeard_110 : decode cX12_isHeard 110 = .ok (.ifCond .lt 7, 3) := by decide +kernel
theorem dX12_isHeard_113 : decode cX12_isHeard 113 = .ok (.iconst 1, 1) := by decide +kernel
theorem dX12_isHeard_114 : decode cX12_isHeard 114 = .ok (.goto 4, 3) := by decide +kernel
theorem dX12_isHeard_117 : decode cX12_isHeard 117 = .ok (.iconst 0, 1) := by decide +kernel
theorem dX12_isHeard_118 : decode cX12_isHeard 118 = .ok (.ireturn, 1) := by decide +kernel
theorem dX12_heard_0 : decode cX12_heard 0 = .ok (.iload_n 1, 1) := by decide +kernel
theorem dX12_heard_1 : decode cX12_heard 1 = .ok (.iload_n 2, 1) := by decide +kernel
theorem dX12_heard_2 : decode cX12_heard 2 = .ok (.invokestatic 218, 3) := by decide +kernel
theorem dX12_heard_5 : decode cX12_heard 5 = .ok (.ifCond .ne 5, 3) := by decide +kernel
theorem dX12_heard_8 : decode cX12_heard 8 = .ok (.iconst (-1), 1) := by decide +kernel
theorem dX12_heard_9 : decode cX12_heard 9 = .ok (.ireturn, 1) := by decide +kernel
theorem dX12_heard_10 : decode cX12_heard 10 = .ok (.iconst 0, 1) := by decide +kernel
theorem dX12_heard_11 : decode cX12_heard 11 = .ok (.istore_n 3, 1) := by decide +kernel
theorem dX12_heard_12 : decode cX12_heard 12 = .ok (.iconst 0, 1) := by decide +kernel
theorem dX12_heard_13 : decode cX12_heard 13 = .ok (.istore 4, 2) := by decide +kernel
theorem dX12_heard_15 : decode cX12_heard 15 = .ok (.iload 4, 2) := by decide +kernel
theorem dX12_heard_17 : decode cX12_heard 17 = .ok (.aload_n 0, 1) := by decide +kernel
theorem dX12_heard_18 : decode cX12_heard 18 = .ok (.getfield 7, 3) := by decide +kernel
theorem dX12_heard_21 : decode cX12_heard 21 = .ok (.iconst 1, 1) := by decide +kernel
theorem dX12_heard_22 : decode cX12_heard 22 = .ok (.iaload, 1) := by decide +kernel
theorem dX12_heard_23 : decode cX12_heard 23 = .ok (.if_icmp .ge 40, 3) := by decide +kernel
theorem dX12_heard_26 : decode cX12_heard 26 = .ok (.iload_n 3, 1) := by decide +kernel
theorem dX12_heard_27 : decode cX12_heard 27 = .ok (.aload_n 0, 1) := by decide +kernel
theorem dX12_heard_28 : decode cX12_heard 28 = .ok (.iload 4, 2) := by decide +kernel
theorem dX12_heard_30 : decode cX12_heard 30 = .ok (.invokevirtual 215, 3) := by decide +kernel
theorem dX12_heard_33 : decode cX12_heard 33 = .ok (.ifCond .eq 21, 3) := by decide +kernel
theorem dX12_heard_36 : decode cX12_heard 36 = .ok (.aload_n 0, 1) := by decide +kernel
theorem dX12_heard_37 : decode cX12_heard 37 = .ok (.iload 4, 2) := by decide +kernel
theorem dX12_heard_39 : decode cX12_heard 39 = .ok (.iload_n 1, 1) := by decide +kernel
theorem dX12_heard_40 : decode cX12_heard 40 = .ok (.iload_n 2, 1) := by decide +kernel
theorem dX12_heard_41 : decode cX12_heard 41 = .ok (.invokevirtual 248, 3) := by decide +kernel
theorem dX12_heard_44 : decode cX12_heard 44 = .ok (.ifCond .eq 10, 3) := by decide +kernel
theorem dX12_heard_47 : decode cX12_heard 47 = .ok (.iconst 1, 1) := by decide +kernel
theorem dX12_heard_48 : decode cX12_heard 48 = .ok (.iload 4, 2) := by decide +kernel
theorem dX12_heard_50 : decode cX12_heard 50 = .ok (.ishl, 1) := by decide +kernel
theorem dX12_heard_51 : decode cX12_heard 51 = .ok (.goto 4, 3) := by decide +kernel
theorem dX12_heard_54 : decode cX12_heard 54 = .ok (.iconst 0, 1) := by decide +kernel
theorem dX12_heard_55 : decode cX12_heard 55 = .ok (.ior, 1) := by decide +kernel
theorem dX12_heard_56 : decode cX12_heard 56 = .ok (.istore_n 3, 1) := by decide +kernel
theorem dX12_heard_57 : decode cX12_heard 57 = .ok (.iinc 4 1, 3) := by decide +kernel
theorem dX12_heard_60 : decode cX12_heard 60 = .ok (.goto (-45), 3) := by decide +kernel
theorem dX12_heard_63 : decode cX12_heard 63 = .ok (.iload_n 3, 1) := by decide +kernel
theorem dX12_heard_64 : decode cX12_heard 64 = .ok (.ireturn, 1) := by decide +kernel
theorem dX12_bestAt_0 : decode cX12_bestAt 0 = .ok (.iconst (-1), 1) := by decide +kernel
theorem dX12_bestAt_1 : decode cX12_bestAt 1 = .ok (.istore_n 3, 1) := by decide +kernel
theorem dX12_bestAt_2 : decode cX12_bestAt 2 = .ok (.iconst 0, 1) := by decide +kernel
theorem dX12_bestAt_3 : decode cX12_bestAt 3 = .ok (.istore 4, 2) := by decide +kernel
theorem dX12_bestAt_5 : decode cX12_bestAt 5 = .ok (.iload 4, 2) := by decide +kernel
theorem dX12_bestAt_7 : decode cX12_bestAt 7 = .ok (.aload_n 0, 1) := by decide +kernel
theorem dX12_bestAt_8 : decode cX12_bestAt 8 = .ok (.getfield 7, 3) := by decide +kernel
theorem dX12_bestAt_11 : decode cX12_bestAt 11 = .ok (.iconst 1, 1) := by decide +kernel
theorem dX12_bestAt_12 : decode cX12_bestAt 12 = .ok (.iaload, 1) := by decide +kernel
theorem dX12_bestAt_13 : decode cX12_bestAt 13 = .ok (.if_icmp .ge 54, 3) := by decide +kernel
theorem dX12_bestAt_16 : decode cX12_bestAt 16 = .ok (.aload_n 0, 1) := by decide +kernel
theorem dX12_bestAt_17 : decode cX12_bestAt 17 = .ok (.iload 4, 2) := by decide +kernel
theorem dX12_bestAt_19 : decode cX12_bestAt 19 = .ok (.invokevirtual 215, 3) := by decide +kernel
theorem dX12_bestAt_22 : decode cX12_bestAt 22 = .ok (.ifCond .eq 39, 3) := by decide +kernel
theorem dX12_bestAt_25 : decode cX12_bestAt 25 = .ok (.aload_n 0, 1) := by decide +kernel
theorem dX12_bestAt_26 : decode cX12_bestAt 26 = .ok (.iload 4, 2) := by decide +kernel
theorem dX12_bestAt_28 : decode cX12_bestAt 28 = .ok (.iload_n 1, 1) := by decide +kernel
theorem dX12_bestAt_29 : decode cX12_bestAt 29 = .ok (.iload_n 2, 1) := by decide +kernel
theorem dX12_bestAt_30 : decode cX12_bestAt 30 = .ok (.invokevirtual 248, 3) := by decide +kernel
theorem dX12_bestAt_33 : decode cX12_bestAt 33 = .ok (.ifCond .eq 28, 3) := by decide +kernel
theorem dX12_bestAt_36 : decode cX12_bestAt 36 = .ok (.iload_n 3, 1) := by decide +kernel
theorem dX12_bestAt_37 : decode cX12_bestAt 37 = .ok (.ifCond .lt 21, 3) := by decide +kernel
theorem dX12_bestAt_40 : decode cX12_bestAt 40 = .ok (.aload_n 0, 1) := by decide +kernel
theorem dX12_bestAt_41 : decode cX12_bestAt 41 = .ok (.iload 4, 2) := by decide +kernel
theorem dX12_bestAt_43 : decode cX12_bestAt 43 = .ok (.iload_n 1, 1) := by decide +kernel
theorem dX12_bestAt_44 : decode cX12_bestAt 44 = .ok (.iload_n 2, 1) := by decide +kernel
theorem dX12_bestAt_45 : decode cX12_bestAt 45 = .ok (.invokevirtual 244, 3) := by decide +kernel
theorem dX12_bestAt_48 : decode cX12_bestAt 48 = .ok (.aload_n 0, 1) := by decide +kernel
theorem dX12_bestAt_49 : decode cX12_bestAt 49 = .ok (.iload_n 3, 1) := by decide +kernel
theorem dX12_bestAt_50 : decode cX12_bestAt 50 = .ok (.iload_n 1, 1) := by decide +kernel
theorem dX12_bestAt_51 : decode cX12_bestAt 51 = .ok (.iload_n 2, 1) := by decide +kernel
theorem dX12_bestAt_52 : decode cX12_bestAt 52 = .ok (.invokevirtual 244, 3) := by decide +kernel
theorem dX12_bestAt_55 : decode cX12_bestAt 55 = .ok (.if_icmp .le 6, 3) := by decide +kernel
theorem dX12_bestAt_58 : decode cX12_bestAt 58 = .ok (.iload 4, 2) := by decide +kernel
theorem dX12_bestAt_60 : decode cX12_bestAt 60 = .ok (.istore_n 3, 1) := by decide +kernel
theorem dX12_bestAt_61 : decode cX12_bestAt 61 = .ok (.iinc 4 1, 3) := by decide +kernel
theorem dX12_bestAt_64 : decode cX12_bestAt 64 = .ok (.goto (-59), 3) := by decide +kernel
theorem dX12_bestAt_67 : decode cX12_bestAt 67 = .ok (.iload_n 3, 1) := by decide +kernel
theorem dX12_bestAt_68 : decode cX12_bestAt 68 = .ok (.ireturn, 1) := by decide +kernel
theorem dX12_best_0 : decode cX12_best 0 = .ok (.iload_n 1, 1) := by decide +kernel
theorem dX12_best_1 : decode cX12_best 1 = .ok (.iload_n 2, 1) := by decide +kernel
theorem dX12_best_2 : decode cX12_best 2 = .ok (.invokestatic 218, 3) := by decide +kernel
theorem dX12_best_5 : decode cX12_best 5 = .ok (.ifCond .eq 12, 3) := by decide +kernel
theorem dX12_best_8 : decode cX12_best 8 = .ok (.aload_n 0, 1) := by decide +kernel
theorem dX12_best_9 : decode cX12_best 9 = .ok (.iload_n 1, 1) := by decide +kernel
theorem dX12_best_10 : decode cX12_best 10 = .ok (.iload_n 2, 1) := by decide +kernel
theorem dX12_best_11 : decode cX12_best 11 = .ok (.invokevirtual 251, 3) := by decide +kernel
theorem dX12_best_14 : decode cX12_best 14 = .ok (.goto 4, 3) := by decide +kernel
theorem dX12_best_17 : decode cX12_best 17 = .ok (.iconst (-1), 1) := by decide +kernel
theorem dX12_best_18 : decode cX12_best 18 = .ok (.ireturn, 1) := by decide +kernel
theorem dX12_step_0 : decode cX12_step 0 = .ok (.aload_n 0, 1) := by decide +kernel
theorem dX12_step_1 : decode cX12_step 1 = .ok (.getfield 7, 3) := by decide +kernel
theorem dX12_step_4 : decode cX12_step 4 = .ok (.bipush 7, 2) := by decide +kernel
theorem dX12_step_6 : decode cX12_step 6 = .ok (.iaload, 1) := by decide +kernel
theorem dX12_step_7 : decode cX12_step 7 = .ok (.bipush 60, 2) := by decide +kernel
theorem dX12_step_9 : decode cX12_step 9 = .ok (.if_icmp .eq 11, 3) := by decide +kernel
theorem dX12_step_12 : decode cX12_step 12 = .ok (.iload_n 1, 1) := by decide +kernel
theorem dX12_step_13 : decode cX12_step 13 = .ok (.iload_n 2, 1) := by decide +kernel
theorem dX12_step_14 : decode cX12_step 14 = .ok (.invokestatic 218, 3) := by decide +kernel
theorem dX12_step_17 : decode cX12_step 17 = .ok (.ifCond .ne 5, 3) := by decide +kernel
theorem dX12_step_20 : decode cX12_step 20 = .ok (.iconst (-1), 1) := by decide +kernel
theorem dX12_step_21 : decode cX12_step 21 = .ok (.ireturn, 1) := by decide +kernel
theorem dX12_step_22 : decode cX12_step 22 = .ok (.aload_n 0, 1) := by decide +kernel
theorem dX12_step_23 : decode cX12_step 23 = .ok (.getfield 7, 3) := by decide +kernel
theorem dX12_step_26 : decode cX12_step 26 = .ok (.sipush 220, 3) := by decide +kernel
theorem dX12_step_29 : decode cX12_step 29 = .ok (.iconst 2, 1) := by decide +kernel
theorem dX12_step_30 : decode cX12_step 30 = .ok (.aload_n 0, 1) := by decide +kernel
theorem dX12_step_31 : decode cX12_step 31 = .ok (.getfield 7, 3) := by decide +kernel
theorem dX12_step_34 : decode cX12_step 34 = .ok (.bipush 7, 2) := by decide +kernel
theorem dX12_step_36 : decode cX12_step 36 = .ok (.iaload, 1) := by decide +kernel
theorem dX12_step_37 : decode cX12_step 37 = .ok (.imul, 1) := by decide +kernel
theorem dX12_step_38 : decode cX12_step 38 = .ok (.iadd, 1) := by decide +kernel
theorem dX12_step_39 : decode cX12_step 39 = .ok (.iload_n 1, 1) := by decide +kernel
theorem dX12_step_40 : decode cX12_step 40 = .ok (.iastore, 1) := by decide +kernel
theorem dX12_step_41 : decode cX12_step 41 = .ok (.aload_n 0, 1) := by decide +kernel
theorem dX12_step_42 : decode cX12_step 42 = .ok (.getfield 7, 3) := by decide +kernel
theorem dX12_step_45 : decode cX12_step 45 = .ok (.sipush 220, 3) := by decide +kernel
theorem dX12_step_48 : decode cX12_step 48 = .ok (.iconst 2, 1) := by decide +kernel
theorem dX12_step_49 : decode cX12_step 49 = .ok (.aload_n 0, 1) := by decide +kernel
theorem dX12_step_50 : decode cX12_step 50 = .ok (.getfield 7, 3) := by decide +kernel
theorem dX12_step_53 : decode cX12_step 53 = .ok (.bipush 7, 2) := by decide +kernel
theorem dX12_step_55 : decode cX12_step 55 = .ok (.iaload, 1) := by decide +kernel
theorem dX12_step_56 : decode cX12_step 56 = .ok (.imul, 1) := by decide +kernel
theorem dX12_step_57 : decode cX12_step 57 = .ok (.iadd, 1) := by decide +kernel
theorem dX12_step_58 : decode cX12_step 58 = .ok (.iconst 1, 1) := by decide +kernel
theorem dX12_step_59 : decode cX12_step 59 = .ok (.iadd, 1) := by decide +kernel
theorem dX12_step_60 : decode cX12_step 60 = .ok (.iload_n 2, 1) := by decide +kernel
theorem dX12_step_61 : decode cX12_step 61 = .ok (.iastore, 1) := by decide +kernel
theorem dX12_step_62 : decode cX12_step 62 = .ok (.aload_n 0, 1) := by decide +kernel
theorem dX12_step_63 : decode cX12_step 63 = .ok (.getfield 7, 3) := by decide +kernel
theorem dX12_step_66 : decode cX12_step 66 = .ok (.bipush 7, 2) := by decide +kernel
theorem dX12_step_68 : decode cX12_step 68 = .ok (.dup2, 1) := by decide +kernel
theorem dX12_step_69 : decode cX12_step 69 = .ok (.iaload, 1) := by decide +kernel
theorem dX12_step_70 : decode cX12_step 70 = .ok (.iconst 1, 1) := by decide +kernel
theorem dX12_step_71 : decode cX12_step 71 = .ok (.iadd, 1) := by decide +kernel
theorem dX12_step_72 : decode cX12_step 72 = .ok (.iastore, 1) := by decide +kernel
theorem dX12_step_73 : decode cX12_step 73 = .ok (.aload_n 0, 1) := by decide +kernel
theorem dX12_step_74 : decode cX12_step 74 = .ok (.getfield 7, 3) := by decide +kernel
theorem dX12_step_77 : decode cX12_step 77 = .ok (.bipush 7, 2) := by decide +kernel
theorem dX12_step_79 : decode cX12_step 79 = .ok (.iaload, 1) := by decide +kernel
theorem dX12_step_80 : decode cX12_step 80 = .ok (.ireturn, 1) := by decide +kernel
theorem dX12_unwalk_0 : decode cX12_unwalk 0 = .ok (.aload_n 0, 1) := by decide +kernel
theorem dX12_unwalk_1 : decode cX12_unwalk 1 = .ok (.getfield 7, 3) := by decide +kernel
theorem dX12_unwalk_4 : decode cX12_unwalk 4 = .ok (.bipush 7, 2) := by decide +kernel
theorem dX12_unwalk_6 : decode cX12_unwalk 6 = .ok (.iconst 0, 1) := by decide +kernel
theorem dX12_unwalk_7 : decode cX12_unwalk 7 = .ok (.iastore, 1) := by decide +kernel
theorem dX12_unwalk_8 : decode cX12_unwalk 8 = .ok (.return_, 1) := by decide +kernel
theorem dX12_walks_0 : decode cX12_walks 0 = .ok (.iconst (-1), 1) := by decide +kernel
theorem dX12_walks_1 : decode cX12_walks 1 = .ok (.istore_n 1, 1) := by decide +kernel
theorem dX12_walks_2 : decode cX12_walks 2 = .ok (.iconst 0, 1) := by decide +kernel
theorem dX12_walks_3 : decode cX12_walks 3 = .ok (.istore_n 2, 1) := by decide +kernel
theorem dX12_walks_4 : decode cX12_walks 4 = .ok (.iconst 0, 1) := by decide +kernel
theorem dX12_walks_5 : decode cX12_walks 5 = .ok (.istore_n 3, 1) := by decide +kernel
theorem dX12_walks_6 : decode cX12_walks 6 = .ok (.iload_n 3, 1) := by decide +kernel
theorem dX12_walks_7 : decode cX12_walks 7 = .ok (.aload_n 0, 1) := by decide +kernel
theorem dX12_walks_8 : decode cX12_walks 8 = .ok (.getfield 7, 3) := by decide +kernel
theorem dX12_walks_11 : decode cX12_walks 11 = .ok (.bipush 7, 2) := by decide +kernel
theorem dX12_walks_13 : decode cX12_walks 13 = .ok (.iaload, 1) := by decide +kernel
theorem dX12_walks_14 : decode cX12_walks 14 = .ok (.if_icmp .ge 160, 3) := by decide +kernel
theorem dX12_walks_17 : decode cX12_walks 17 = .ok (.aload_n 0, 1) := by decide +kernel
theorem dX12_walks_18 : decode cX12_walks 18 = .ok (.getfield 7, 3) := by decide +kernel
theorem dX12_walks_21 : decode cX12_walks 21 = .ok (.sipush 220, 3) := by decide +kernel
theorem dX12_walks_24 : decode cX12_walks 24 = .ok (.iconst 2, 1) := by decide +kernel
theorem dX12_walks_25 : decode cX12_walks 25 = .ok (.iload_n 3, 1) := by decide +kernel
theorem dX12_walks_26 : decode cX12_walks 26 = .ok (.imul, 1) := by decide +kernel
theorem dX12_walks_27 : decode cX12_walks 27 = .ok (.iadd, 1) := by decide +kernel
theorem dX12_walks_28 : decode cX12_walks 28 = .ok (.iaload, 1) := by decide +kernel
theorem dX12_walks_29 : decode cX12_walks 29 = .ok (.istore 4, 2) := by decide +kernel
theorem dX12_walks_31 : decode cX12_walks 31 = .ok (.aload_n 0, 1) := by decide +kernel
theorem dX12_walks_32 : decode cX12_walks 32 = .ok (.getfield 7, 3) := by decide +kernel
theorem dX12_walks_35 : decode cX12_walks 35 = .ok (.sipush 220, 3) := by decide +kernel
theorem dX12_walks_38 : decode cX12_walks 38 = .ok (.iconst 2, 1) := by decide +kernel
theorem dX12_walks_39 : decode cX12_walks 39 = .ok (.iload_n 3, 1) := by decide +kernel
theorem dX12_walks_40 : decode cX12_walks 40 = .ok (.imul, 1) := by decide +kernel
theorem dX12_walks_41 : decode cX12_walks 41 = .ok (.iadd, 1) := by decide +kernel
theorem dX12_walks_42 : decode cX12_walks 42 = .ok (.iconst 1, 1) := by decide +kernel
theorem dX12_walks_43 : decode cX12_walks 43 = .ok (.iadd, 1) := by decide +kernel
theorem dX12_walks_44 : decode cX12_walks 44 = .ok (.iaload, 1) := by decide +kernel
theorem dX12_walks_45 : decode cX12_walks 45 = .ok (.istore 5, 2) := by decide +kernel
theorem dX12_walks_47 : decode cX12_walks 47 = .ok (.aload_n 0, 1) := by decide +kernel
theorem dX12_walks_48 : decode cX12_walks 48 = .ok (.iload 4, 2) := by decide +kernel
theorem dX12_walks_50 : decode cX12_walks 50 = .ok (.iload 5, 2) := by decide +kernel
theorem dX12_walks_52 : decode cX12_walks 52 = .ok (.invokevirtual 251, 3) := by decide +kernel
theorem dX12_walks_55 : decode cX12_walks 55 = .ok (.istore 6, 2) := by decide +kernel
theorem dX12_walks_57 : decode cX12_walks 57 = .ok (.iload_n 1, 1) := by decide +kernel
theorem dX12_walks_58 : decode cX12_walks 58 = .ok (.ifCond .lt 23, 3) := by decide +kernel
theorem dX12_walks_61 : decode cX12_walks 61 = .ok (.aload_n 0, 1) := by decide +kernel
theorem dX12_walks_62 : decode cX12_walks 62 = .ok (.iload_n 1, 1) := by decide +kernel
theorem dX12_walks_63 : decode cX12_walks 63 = .ok (.invokevirtual 215, 3) := by decide +kernel
theorem dX12_walks_66 : decode cX12_walks 66 = .ok (.ifCond .eq 15, 3) := by decide +kernel
theorem dX12_walks_69 : decode cX12_walks 69 = .ok (.aload_n 0, 1) := by decide +kernel
theorem dX12_walks_70 : decode cX12_walks 70 = .ok (.iload_n 1, 1) := by decide +kernel
theorem dX12_walks_71 : decode cX12_walks 71 = .ok (.iload 4, 2) := by decide +kernel
theorem dX12_walks_73 : decode cX12_walks 73 = .ok (.iload 5, 2) := by decide +kernel
theorem dX12_walks_75 : decode cX12_walks 75 = .ok (.invokevirtual 248, 3) := by decide +kernel
theorem dX12_walks_78 : decode cX12_walks 78 = .ok (.ifCond .ne 11, 3) := by decide +kernel
theorem dX12_walks_81 : decode cX12_walks 81 = .ok (.iload 6, 2) := by decide +kernel
theorem dX12_walks_83 : decode cX12_walks 83 = .ok (.istore_n 1, 1) := by decide +kernel
theorem dX12_walks_84 : decode cX12_walks 84 = .ok (.iconst 0, 1) := by decide +kernel
theorem dX12_walks_85 : decode cX12_walks 85 = .ok (.istore_n 2, 1) := by decide +kernel
theorem dX12_walks_86 : decode cX12_walks 86 = .ok (.goto 75, 3) := by decide +kernel
theorem dX12_walks_89 : decode cX12_walks 89 = .ok (.iload 6, 2) := by decide +kernel
theorem dX12_walks_91 : decode cX12_walks 91 = .ok (.iload_n 1, 1) := by decide +kernel
theorem dX12_walks_92 : decode cX12_walks 92 = .ok (.if_icmp .eq 67, 3) := by decide +kernel
theorem dX12_walks_95 : decode cX12_walks 95 = .ok (.aload_n 0, 1) := by decide +kernel
theorem dX12_walks_96 : decode cX12_walks 96 = .ok (.iload 6, 2) := by decide +kernel
theorem dX12_walks_98 : decode cX12_walks 98 = .ok (.iload 4, 2) := by decide +kernel
theorem dX12_walks_100 : decode cX12_walks 100 = .ok (.iload 5, 2) := by decide +kernel
theorem dX12_walks_102 : decode cX12_walks 102 = .ok (.invokevirtual 244, 3) := by decide +kernel
theorem dX12_walks_105 : decode cX12_walks 105 = .ok (.i2l, 1) := by decide +kernel
theorem dX12_walks_106 : decode cX12_walks 106 = .ok (.ldc2_w 111, 3) := by decide +kernel
theorem dX12_walks_109 : decode cX12_walks 109 = .ok (.lmul, 1) := by decide +kernel
theorem dX12_walks_110 : decode cX12_walks 110 = .ok (.ldc2_w 111, 3) := by decide +kernel
theorem dX12_walks_113 : decode cX12_walks 113 = .ok (.aload_n 0, 1) := by decide +kernel
theorem dX12_walks_114 : decode cX12_walks 114 = .ok (.getfield 7, 3) := by decide +kernel
theorem dX12_walks_117 : decode cX12_walks 117 = .ok (.bipush 16, 2) := by decide +kernel
theorem dX12_walks_119 : decode cX12_walks 119 = .ok (.iaload, 1) := by decide +kernel
theorem dX12_walks_120 : decode cX12_walks 120 = .ok (.i2l, 1) := by decide +kernel
theorem dX12_walks_121 : decode cX12_walks 121 = .ok (.ladd, 1) := by decide +kernel
theorem dX12_walks_122 : decode cX12_walks 122 = .ok (.aload_n 0, 1) := by decide +kernel
theorem dX12_walks_123 : decode cX12_walks 123 = .ok (.iload_n 1, 1) := by decide +kernel
theorem dX12_walks_124 : decode cX12_walks 124 = .ok (.iload 4, 2) := by decide +kernel
theorem dX12_walks_126 : decode cX12_walks 126 = .ok (.iload 5, 2) := by decide +kernel
theorem dX12_walks_128 : decode cX12_walks 128 = .ok (.invokevirtual 244, 3) := by decide +kernel
theorem dX12_walks_131 : decode cX12_walks 131 = .ok (.i2l, 1) := by decide +kernel
theorem dX12_walks_132 : decode cX12_walks 132 = .ok (.lmul, 1) := by decide +kernel
theorem dX12_walks_133 : decode cX12_walks 133 = .ok (.lcmp, 1) := by decide +kernel
theorem dX12_walks_134 : decode cX12_walks 134 = .ok (.ifCond .le 25, 3) := by decide +kernel
theorem dX12_walks_137 : decode cX12_walks 137 = .ok (.iinc 2 1, 3) := by decide +kernel
theorem dX12_walks_140 : decode cX12_walks 140 = .ok (.iload_n 2, 1) := by decide +kernel
theorem dX12_walks_141 : decode cX12_walks 141 = .ok (.aload_n 0, 1) := by decide +kernel
theorem dX12_walks_142 : decode cX12_walks 142 = .ok (.getfield 7, 3) := by decide +kernel
theorem dX12_walks_145 : decode cX12_walks 145 = .ok (.bipush 17, 2) := by decide +kernel
theorem dX12_walks_147 : decode cX12_walks 147 = .ok (.iaload, 1) := by decide +kernel
theorem dX12_walks_148 : decode cX12_walks 148 = .ok (.if_icmp .ne 13, 3) := by decide +kernel
theorem dX12_walks_151 : decode cX12_walks 151 = .ok (.iload 6, 2) := by decide +kernel
theorem dX12_walks_153 : decode cX12_walks 153 = .ok (.istore_n 1, 1) := by decide +kernel
theorem dX12_walks_154 : decode cX12_walks 154 = .ok (.iconst 0, 1) := by decide +kernel
theorem dX12_walks_155 : decode cX12_walks 155 = .ok (.istore_n 2, 1) := by decide +kernel
theorem dX12_walks_156 : decode cX12_walks 156 = .ok (.goto 5, 3) := by decide +kernel
theorem dX12_walks_159 : decode cX12_walks 159 = .ok (.iconst 0, 1) := by decide +kernel
theorem dX12_walks_160 : decode cX12_walks 160 = .ok (.istore_n 2, 1) := by decide +kernel
theorem dX12_walks_161 : decode cX12_walks 161 = .ok (.aload_n 0, 1) := by decide +kernel
theorem dX12_walks_162 : decode cX12_walks 162 = .ok (.getfield 41, 3) := by decide +kernel
theorem dX12_walks_165 : decode cX12_walks 165 = .ok (.iload_n 3, 1) := by decide +kernel
theorem dX12_walks_166 : decode cX12_walks 166 = .ok (.iload_n 1, 1) := by decide +kernel
theorem dX12_walks_167 : decode cX12_walks 167 = .ok (.iastore, 1) := by decide +kernel
theorem dX12_walks_168 : decode cX12_walks 168 = .ok (.iinc 3 1, 3) := by decide +kernel
theorem dX12_walks_171 : decode cX12_walks 171 = .ok (.goto (-165), 3) := by decide +kernel
theorem dX12_walks_174 : decode cX12_walks 174 = .ok (.return_, 1) := by decide +kernel
theorem dX12_served_0 : decode cX12_served 0 = .ok (.aload_n 0, 1) := by decide +kernel
theorem dX12_served_1 : decode cX12_served 1 = .ok (.iload_n 1, 1) := by decide +kernel
theorem dX12_served_2 : decode cX12_served 2 = .ok (.bipush 7, 2) := by decide +kernel
theorem dX12_served_4 : decode cX12_served 4 = .ok (.invokevirtual 80, 3) := by decide +kernel
theorem dX12_served_7 : decode cX12_served 7 = .ok (.ifCond .ne 5, 3) := by decide +kernel
theorem dX12_served_10 : decode cX12_served 10 = .ok (.iconst (-1), 1) := by decide +kernel
theorem dX12_served_11 : decode cX12_served 11 = .ok (.ireturn, 1) := by decide +kernel
theorem dX12_served_12 : decode cX12_served 12 = .ok (.aload_n 0, 1) := by decide +kernel
theorem dX12_served_13 : decode cX12_served 13 = .ok (.invokevirtual 254, 3) := by decide +kernel
theorem dX12_served_16 : decode cX12_served 16 = .ok (.aload_n 0, 1) := by decide +kernel
theorem dX12_served_17 : decode cX12_served 17 = .ok (.getfield 41, 3) := by decide +kernel
theorem dX12_served_20 : decode cX12_served 20 = .ok (.iload_n 1, 1) := by decide +kernel
theorem dX12_served_21 : decode cX12_served 21 = .ok (.iaload, 1) := by decide +kernel
theorem dX12_served_22 : decode cX12_served 22 = .ok (.ireturn, 1) := by decide +kernel
theorem dX12_walk_0 : decode cX12_walk 0 = .ok (.aload_n 0, 1) := by decide +kernel
theorem dX12_walk_1 : decode cX12_walk 1 = .ok (.invokevirtual 254, 3) := by decide +kernel
theorem dX12_walk_4 : decode cX12_walk 4 = .ok (.iconst 0, 1) := by decide +kernel
theorem dX12_walk_5 : decode cX12_walk 5 = .ok (.istore_n 2, 1) := by decide +kernel
theorem dX12_walk_6 : decode cX12_walk 6 = .ok (.iconst 0, 1) := by decide +kernel
theorem dX12_walk_7 : decode cX12_walk 7 = .ok (.istore_n 3, 1) := by decide +kernel
theorem dX12_walk_8 : decode cX12_walk 8 = .ok (.iconst 0, 1) := by decide +kernel
theorem dX12_walk_9 : decode cX12_walk 9 = .ok (.istore 4, 2) := by decide +kernel
theorem dX12_walk_11 : decode cX12_walk 11 = .ok (.iload 4, 2) := by decide +kernel
theorem dX12_walk_13 : decode cX12_walk 13 = .ok (.aload_n 0, 1) := by decide +kernel
theorem dX12_walk_14 : decode cX12_walk 14 = .ok (.getfield 7, 3) := by decide +kernel
theorem dX12_walk_17 : decode cX12_walk 17 = .ok (.bipush 7, 2) := by decide +kernel
theorem dX12_walk_19 : decode cX12_walk 19 = .ok (.iaload, 1) := by decide +kernel
theorem dX12_walk_20 : decode cX12_walk 20 = .ok (.if_icmp .ge 81, 3) := by decide +kernel
theorem dX12_walk_23 : decode cX12_walk 23 = .ok (.iload_n 3, 1) := by decide +kernel
theorem dX12_walk_24 : decode cX12_walk 24 = .ok (.aload_n 0, 1) := by decide +kernel
theorem dX12_walk_25 : decode cX12_walk 25 = .ok (.getfield 41, 3) := by decide +kernel
theorem dX12_walk_28 : decode cX12_walk 28 = .ok (.iload 4, 2) := by decide +kernel
theorem dX12_walk_30 : decode cX12_walk 30 = .ok (.iaload, 1) := by decide +kernel
theorem dX12_walk_31 : decode cX12_walk 31 = .ok (.ifCond .ge 7, 3) := by decide +kernel
theorem dX12_walk_34 : decode cX12_walk 34 = .ok (.iconst 1, 1) := by decide +kernel
theorem dX12_walk_35 : decode cX12_walk 35 = .ok (.goto 4, 3) := by decide +kernel
theorem dX12_walk_38 : decode cX12_walk 38 = .ok (.iconst 0, 1) := by decide +kernel
theorem dX12_walk_39 : decode cX12_walk 39 = .ok (.iadd, 1) := by decide +kernel
theorem dX12_walk_40 : decode cX12_walk 40 = .ok (.istore_n 3, 1) := by decide +kernel
theorem dX12_walk_41 : decode cX12_walk 41 = .ok (.iload_n 2, 1) := by decide +kernel
theorem dX12_walk_42 : decode cX12_walk 42 = .ok (.iload 4, 2) := by decide +kernel
theorem dX12_walk_44 : decode cX12_walk 44 = .ok (.ifCond .le 48, 3) := by decide +kernel
theorem dX12_walk_47 : decode cX12_walk 47 = .ok (.aload_n 0, 1) := by decide +kernel
theorem dX12_walk_48 : decode cX12_walk 48 = .ok (.getfield 41, 3) := by decide +kernel
theorem dX12_walk_51 : decode cX12_walk 51 = .ok (.iload 4, 2) := by decide +kernel
theorem dX12_walk_53 : decode cX12_walk 53 = .ok (.iaload, 1) := by decide +kernel
theorem dX12_walk_54 : decode cX12_walk 54 = .ok (.ifCond .lt 38, 3) := by decide +kernel
theorem dX12_walk_57 : decode cX12_walk 57 = .ok (.aload_n 0, 1) := by decide +kernel
theorem dX12_walk_58 : decode cX12_walk 58 = .ok (.getfield 41, 3) := by decide +kernel
theorem dX12_walk_61 : decode cX12_walk 61 = .ok (.iload 4, 2) := by decide +kernel
theorem dX12_walk_63 : decode cX12_walk 63 = .ok (.iconst 1, 1) := by decide +kernel
theorem dX12_walk_64 : decode cX12_walk 64 = .ok (.isub, 1) := by decide +kernel
theorem dX12_walk_65 : decode cX12_walk 65 = .ok (.iaload, 1) := by decide +kernel
theorem dX12_walk_66 : decode cX12_walk 66 = .ok (.ifCond .lt 26, 3) := by decide +kernel
theorem dX12_walk_69 : decode cX12_walk 69 = .ok (.aload_n 0, 1) := by decide +kernel
theorem dX12_walk_70 : decode cX12_walk 70 = .ok (.getfield 41, 3) := by decide +kernel
theorem dX12_walk_73 : decode cX12_walk 73 = .ok (.iload 4, 2) := by decide +kernel
theorem dX12_walk_75 : decode cX12_walk 75 = .ok (.iaload, 1) := by decide +kernel
theorem dX12_walk_76 : decode cX12_walk 76 = .ok (.aload_n 0, 1) := by decide +kernel
theorem dX12_walk_77 : decode cX12_walk 77 = .ok (.getfield 41, 3) := by decide +kernel
theorem dX12_walk_80 : decode cX12_walk 80 = .ok (.iload 4, 2) := by decide +kernel
theorem dX12_walk_82 : decode cX12_walk 82 = .ok (.iconst 1, 1) := by decide +kernel
theorem dX12_walk_83 : decode cX12_walk 83 = .ok (.isub, 1) := by decide +kernel
theorem dX12_walk_84 : decode cX12_walk 84 = .ok (.iaload, 1) := by decide +kernel
theorem dX12_walk_85 : decode cX12_walk 85 = .ok (.if_icmp .eq 7, 3) := by decide +kernel
theorem dX12_walk_88 : decode cX12_walk 88 = .ok (.iconst 1, 1) := by decide +kernel
theorem dX12_walk_89 : decode cX12_walk 89 = .ok (.goto 4, 3) := by decide +kernel
theorem dX12_walk_92 : decode cX12_walk 92 = .ok (.iconst 0, 1) := by decide +kernel
theorem dX12_walk_93 : decode cX12_walk 93 = .ok (.iadd, 1) := by decide +kernel
theorem dX12_walk_94 : decode cX12_walk 94 = .ok (.istore_n 2, 1) := by decide +kernel
theorem dX12_walk_95 : decode cX12_walk 95 = .ok (.iinc 4 1, 3) := by decide +kernel
theorem dX12_walk_98 : decode cX12_walk 98 = .ok (.goto (-87), 3) := by decide +kernel
theorem dX12_walk_101 : decode cX12_walk 101 = .ok (.iload_n 1, 1) := by decide +kernel
theorem dX12_walk_102 : decode cX12_walk 102 = .ok (.ifCond .ne 13, 3) := by decide +kernel
theorem dX12_walk_105 : decode cX12_walk 105 = .ok (.aload_n 0, 1) := by decide +kernel
theorem dX12_walk_106 : decode cX12_walk 106 = .ok (.getfield 7, 3) := by decide +kernel
theorem dX12_walk_109 : decode cX12_walk 109 = .ok (.bipush 7, 2) := by decide +kernel
theorem dX12_walk_111 : decode cX12_walk 111 = .ok (.iaload, 1) := by decide +kernel
theorem dX12_walk_112 : decode cX12_walk 112 = .ok (.goto 22, 3) := by decide +kernel
theorem dX12_walk_115 : decode cX12_walk 115 = .ok (.iload_n 1, 1) := by decide +kernel
theorem dX12_walk_116 : decode cX12_walk 116 = .ok (.iconst 1, 1) := by decide +kernel
theorem dX12_walk_117 : decode cX12_walk 117 = .ok (.if_icmp .ne 7, 3) := by decide +kernel
theorem dX12_walk_120 : decode cX12_walk 120 = .ok (.iload_n 2, 1) := by decide +kernel
theorem dX12_walk_121 : decode cX12_walk 121 = .ok (.goto 13, 3) := by decide +kernel
theorem dX12_walk_124 : decode cX12_walk 124 = .ok (.iload_n 1, 1) := by decide +kernel
theorem dX12_walk_125 : decode cX12_walk 125 = .ok (.iconst 2, 1) := by decide +kernel
theorem dX12_walk_126 : decode cX12_walk 126 = .ok (.if_icmp .ne 7, 3) := by decide +kernel
theorem dX12_walk_129 : decode cX12_walk 129 = .ok (.iload_n 3, 1) := by decide +kernel
theorem dX12_walk_130 : decode cX12_walk 130 = .ok (.goto 4, 3) := by decide +kernel
theorem dX12_walk_133 : decode cX12_walk 133 = .ok (.iconst (-1), 1) := by decide +kernel
theorem dX12_walk_134 : decode cX12_walk 134 = .ok (.ireturn, 1) := by decide +kernel
theorem dX12_siteSignal_0 : decode cX12_siteSignal 0 = .ok (.sipush 170, 3) := by decide +kernel
theorem dX12_siteSignal_3 : decode cX12_siteSignal 3 = .ok (.iconst 4, 1) := by decide +kernel
theorem dX12_siteSignal_4 : decode cX12_siteSignal 4 = .ok (.iload_n 1, 1) := by decide +kernel
theorem dX12_siteSignal_5 : decode cX12_siteSignal 5 = .ok (.imul, 1) := by decide +kernel
theorem dX12_siteSignal_6 : decode cX12_siteSignal 6 = .ok (.iadd, 1) := by decide +kernel
theorem dX12_siteSignal_7 : decode cX12_siteSignal 7 = .ok (.istore_n 3, 1) := by decide +kernel
theorem dX12_siteSignal_8 : decode cX12_siteSignal 8 = .ok (.aload_n 0, 1) := by decide +kernel
theorem dX12_siteSignal_9 : decode cX12_siteSignal 9 = .ok (.aload_n 0, 1) := by decide +kernel
theorem dX12_siteSignal_10 : decode cX12_siteSignal 10 = .ok (.getfield 7, 3) := by decide +kernel
theorem dX12_siteSignal_13 : decode cX12_siteSignal 13 = .ok (.iload_n 3, 1) := by decide +kernel
theorem dX12_siteSignal_14 : decode cX12_siteSignal 14 = .ok (.iaload, 1) := by decide +kernel
theorem dX12_siteSignal_15 : decode cX12_siteSignal 15 = .ok (.aload_n 0, 1) := by decide +kernel
theorem dX12_siteSignal_16 : decode cX12_siteSignal 16 = .ok (.getfield 7, 3) := by decide +kernel
theorem dX12_siteSignal_19 : decode cX12_siteSignal 19 = .ok (.iload_n 3, 1) := by decide +kernel
theorem dX12_siteSignal_20 : decode cX12_siteSignal 20 = .ok (.iconst 1, 1) := by decide +kernel
theorem dX12_siteSignal_21 : decode cX12_siteSignal 21 = .ok (.iadd, 1) := by decide +kernel
theorem dX12_siteSignal_22 : decode cX12_siteSignal 22 = .ok (.iaload, 1) := by decide +kernel
theorem dX12_siteSignal_23 : decode cX12_siteSignal 23 = .ok (.aload_n 0, 1) := by decide +kernel
theorem dX12_siteSignal_24 : decode cX12_siteSignal 24 = .ok (.getfield 7, 3) := by decide +kernel
theorem dX12_siteSignal_27 : decode cX12_siteSignal 27 = .ok (.iload_n 3, 1) := by decide +kernel
theorem dX12_siteSignal_28 : decode cX12_siteSignal 28 = .ok (.iconst 2, 1) := by decide +kernel
theorem dX12_siteSignal_29 : decode cX12_siteSignal 29 = .ok (.iadd, 1) := by decide +kernel
theorem dX12_siteSignal_30 : decode cX12_siteSignal 30 = .ok (.iaload, 1) := by decide +kernel
theorem dX12_siteSignal_31 : decode cX12_siteSignal 31 = .ok (.invokevirtual 221, 3) := by decide +kernel
theorem dX12_siteSignal_34 : decode cX12_siteSignal 34 = .ok (.aload_n 0, 1) := by decide +kernel
theorem dX12_siteSignal_35 : decode cX12_siteSignal 35 = .ok (.aload_n 0, 1) := by decide +kernel
theorem dX12_siteSignal_36 : decode cX12_siteSignal 36 = .ok (.getfield 7, 3) := by decide +kernel
theorem dX12_siteSignal_39 : decode cX12_siteSignal 39 = .ok (.sipush 202, 3) := by decide +kernel
theorem dX12_siteSignal_42 : decode cX12_siteSignal 42 = .ok (.iconst 2, 1) := by decide +kernel
theorem dX12_siteSignal_43 : decode cX12_siteSignal 43 = .ok (.iload_n 2, 1) := by decide +kernel
theorem dX12_siteSignal_44 : decode cX12_siteSignal 44 = .ok (.imul, 1) := by decide +kernel
theorem dX12_siteSignal_45 : decode cX12_siteSignal 45 = .ok (.iadd, 1) := by decide +kernel
theorem dX12_siteSignal_46 : decode cX12_siteSignal 46 = .ok (.iaload, 1) := by decide +kernel
theorem dX12_siteSignal_47 : decode cX12_siteSignal 47 = .ok (.aload_n 0, 1) := by decide +kernel
theorem dX12_siteSignal_48 : decode cX12_siteSignal 48 = .ok (.getfield 7, 3) := by decide +kernel
theorem dX12_siteSignal_51 : decode cX12_siteSignal 51 = .ok (.sipush 202, 3) := by decide +kernel
theorem dX12_siteSignal_54 : decode cX12_siteSignal 54 = .ok (.iconst 2, 1) := by decide +kernel
theorem dX12_siteSignal_55 : decode cX12_siteSignal 55 = .ok (.iload_n 2, 1) := by decide +kernel
theorem dX12_siteSignal_56 : decode cX12_siteSignal 56 = .ok (.imul, 1) := by decide +kernel
theorem dX12_siteSignal_57 : decode cX12_siteSignal 57 = .ok (.iadd, 1) := by decide +kernel
theorem dX12_siteSignal_58 : decode cX12_siteSignal 58 = .ok (.iconst 1, 1) := by decide +kernel
theorem dX12_siteSignal_59 : decode cX12_siteSignal 59 = .ok (.iadd, 1) := by decide +kernel
theorem dX12_siteSignal_60 : decode cX12_siteSignal 60 = .ok (.iaload, 1) := by decide +kernel
theorem dX12_siteSignal_61 : decode cX12_siteSignal 61 = .ok (.invokevirtual 225, 3) := by decide +kernel
theorem dX12_siteSignal_64 : decode cX12_siteSignal 64 = .ok (.aload_n 0, 1) := by decide +kernel
theorem dX12_siteSignal_65 : decode cX12_siteSignal 65 = .ok (.invokevirtual 240, 3) := by decide +kernel
theorem dX12_siteSignal_68 : decode cX12_siteSignal 68 = .ok (.ireturn, 1) := by decide +kernel
theorem dX12_serves_0 : decode cX12_serves 0 = .ok (.aload_n 0, 1) := by decide +kernel
theorem dX12_serves_1 : decode cX12_serves 1 = .ok (.iload_n 1, 1) := by decide +kernel
theorem dX12_serves_2 : decode cX12_serves 2 = .ok (.iconst 2, 1) := by decide +kernel
theorem dX12_serves_3 : decode cX12_serves 3 = .ok (.invokevirtual 80, 3) := by decide +kernel
theorem dX12_serves_6 : decode cX12_serves 6 = .ok (.ifCond .eq 21, 3) := by decide +kernel
theorem dX12_serves_9 : decode cX12_serves 9 = .ok (.aload_n 0, 1) := by decide +kernel
theorem dX12_serves_10 : decode cX12_serves 10 = .ok (.iload_n 2, 1) := by decide +kernel
theorem dX12_serves_11 : decode cX12_serves 11 = .ok (.iconst 3, 1) := by decide +kernel
theorem dX12_serves_12 : decode cX12_serves 12 = .ok (.invokevirtual 80, 3) := by decide +kernel
theorem dX12_serves_15 : decode cX12_serves 15 = .ok (.ifCond .eq 12, 3) := by decide +kernel
theorem dX12_serves_18 : decode cX12_serves 18 = .ok (.aload_n 0, 1) := by decide +kernel
theorem dX12_serves_19 : decode cX12_serves 19 = .ok (.iload_n 1, 1) := by decide +kernel
theorem dX12_serves_20 : decode cX12_serves 20 = .ok (.iload_n 2, 1) := by decide +kernel
theorem dX12_serves_21 : decode cX12_serves 21 = .ok (.invokevirtual 257, 3) := by decide +kernel
theorem dX12_serves_24 : decode cX12_serves 24 = .ok (.goto 4, 3) := by decide +kernel
theorem dX12_serves_27 : decode cX12_serves 27 = .ok (.iconst (-1), 1) := by decide +kernel
theorem dX12_serves_28 : decode cX12_serves 28 = .ok (.ireturn, 1) := by decide +kernel
theorem dX12_covers_0 : decode cX12_covers 0 = .ok (.iconst 1, 1) := by decide +kernel
theorem dX12_covers_1 : decode cX12_covers 1 = .ok (.aload_n 0, 1) := by decide +kernel
theorem dX12_covers_2 : decode cX12_covers 2 = .ok (.getfield 7, 3) := by decide +kernel
theorem dX12_covers_5 : decode cX12_covers 5 = .ok (.iconst 3, 1) := by decide +kernel
theorem dX12_covers_6 : decode cX12_covers 6 = .ok (.iaload, 1) := by decide +kernel
theorem dX12_covers_7 : decode cX12_covers 7 = .ok (.ishl, 1) := by decide +kernel
theorem dX12_covers_8 : decode cX12_covers 8 = .ok (.iconst 1, 1) := by decide +kernel
theorem dX12_covers_9 : decode cX12_covers 9 = .ok (.isub, 1) := by decide +kernel
theorem dX12_covers_10 : decode cX12_covers 10 = .ok (.istore_n 1, 1) := by decide +kernel
theorem dX12_covers_11 : decode cX12_covers 11 = .ok (.iconst 0, 1) := by decide +kernel
theorem dX12_covers_12 : decode cX12_covers 12 = .ok (.istore_n 2, 1) := by decide +kernel
theorem dX12_covers_13 : decode cX12_covers 13 = .ok (.iload_n 2, 1) := by decide +kernel
theorem dX12_covers_14 : decode cX12_covers 14 = .ok (.aload_n 0, 1) := by decide +kernel
theorem dX12_covers_15 : decode cX12_covers 15 = .ok (.getfield 7, 3) := by decide +kernel
theorem dX12_covers_18 : decode cX12_covers 18 = .ok (.iconst 2, 1) := by decide +kernel
theorem dX12_covers_19 : decode cX12_covers 19 = .ok (.iaload, 1) := by decide +kernel
theorem dX12_covers_20 : decode cX12_covers 20 = .ok (.if_icmp .ge 66, 3) := by decide +kernel
theorem dX12_covers_23 : decode cX12_covers 23 = .ok (.aload_n 0, 1) := by decide +kernel
theorem dX12_covers_24 : decode cX12_covers 24 = .ok (.getfield 44, 3) := by decide +kernel
theorem dX12_covers_27 : decode cX12_covers 27 = .ok (.iload_n 2, 1) := by decide +kernel
theorem dX12_covers_28 : decode cX12_covers 28 = .ok (.iconst 0, 1) := by decide +kernel
theorem dX12_covers_29 : decode cX12_covers 29 = .ok (.iastore, 1) := by decide +kernel
theorem dX12_covers_30 : decode cX12_covers 30 = .ok (.iconst 0, 1) := by decide +kernel
theorem dX12_covers_31 : decode cX12_covers 31 = .ok (.istore_n 3, 1) := by decide +kernel
theorem dX12_covers_32 : decode cX12_covers 32 = .ok (.iload_n 3, 1) := by decide +kernel
theorem dX12_covers_33 : decode cX12_covers 33 = .ok (.aload_n 0, 1) := by decide +kernel
theorem dX12_covers_34 : decode cX12_covers 34 = .ok (.getfield 7, 3) := by decide +kernel
theorem dX12_covers_37 : decode cX12_covers 37 = .ok (.iconst 3, 1) := by decide +kernel
theorem dX12_covers_38 : decode cX12_covers 38 = .ok (.iaload, 1) := by decide +kernel
theorem dX12_covers_39 : decode cX12_covers 39 = .ok (.if_icmp .ge 41, 3) := by decide +kernel
theorem dX12_covers_42 : decode cX12_covers 42 = .ok (.aload_n 0, 1) := by decide +kernel
theorem dX12_covers_43 : decode cX12_covers 43 = .ok (.getfield 44, 3) := by decide +kernel
theorem dX12_covers_46 : decode cX12_covers 46 = .ok (.iload_n 2, 1) := by decide +kernel
theorem dX12_covers_47 : decode cX12_covers 47 = .ok (.dup2, 1) := by decide +kernel
theorem dX12_covers_48 : decode cX12_covers 48 = .ok (.iaload, 1) := by decide +kernel
theorem dX12_covers_49 : decode cX12_covers 49 = .ok (.aload_n 0, 1) := by decide +kernel
theorem dX12_covers_50 : decode cX12_covers 50 = .ok (.iload_n 2, 1) := by decide +kernel
theorem dX12_covers_51 : decode cX12_covers 51 = .ok (.iload_n 3, 1) := by decide +kernel
theorem dX12_covers_52 : decode cX12_covers 52 = .ok (.invokevirtual 257, 3) := by decide +kernel
theorem dX12_covers_55 : decode cX12_covers 55 = .ok (.aload_n 0, 1) := by decide +kernel
theorem dX12_covers_56 : decode cX12_covers 56 = .ok (.getfield 7, 3) := by decide +kernel
theorem dX12_covers_59 : decode cX12_covers 59 = .ok (.bipush 15, 2) := by decide +kernel
theorem dX12_covers_61 : decode cX12_covers 61 = .ok (.iaload, 1) := by decide +kernel
theorem dX12_covers_62 : decode cX12_covers 62 = .ok (.if_icmp .lt 9, 3) := by decide +kernel
theorem dX12_covers_65 : decode cX12_covers 65 = .ok (.iconst 1, 1) := by decide +kernel
theorem dX12_covers_66 : decode cX12_covers 66 = .ok (.iload_n 3, 1) := by decide +kernel
theorem dX12_covers_67 : decode cX12_covers 67 = .ok (.ishl, 1) := by decide +kernel
theorem dX12_covers_68 : decode cX12_covers 68 = .ok (.goto 4, 3) := by decide +kernel
theorem dX12_covers_71 : decode cX12_covers 71 = .ok (.iconst 0, 1) := by decide +kernel
theorem dX12_covers_72 : decode cX12_covers 72 = .ok (.ior, 1) := by decide +kernel
theorem dX12_covers_73 : decode cX12_covers 73 = .ok (.iastore, 1) := by decide +kernel
theorem dX12_covers_74 : decode cX12_covers 74 = .ok (.iinc 3 1, 3) := by decide +kernel
theorem dX12_covers_77 : decode cX12_covers 77 = .ok (.goto (-45), 3) := by decide +kernel
theorem dX12_covers_80 : decode cX12_covers 80 = .ok (.iinc 2 1, 3) := by decide +kernel
theorem dX12_covers_83 : decode cX12_covers 83 = .ok (.goto (-70), 3) := by decide +kernel
theorem dX12_covers_86 : decode cX12_covers 86 = .ok (.iconst 0, 1) := by decide +kernel
theorem dX12_covers_87 : decode cX12_covers 87 = .ok (.istore_n 2, 1) := by decide +kernel
theorem dX12_covers_88 : decode cX12_covers 88 = .ok (.iconst 0, 1) := by decide +kernel
theorem dX12_covers_89 : decode cX12_covers 89 = .ok (.istore_n 3, 1) := by decide +kernel
theorem dX12_covers_90 : decode cX12_covers 90 = .ok (.iload_n 3, 1) := by decide +kernel
theorem dX12_covers_91 : decode cX12_covers 91 = .ok (.iconst 1, 1) := by decide +kernel
theorem dX12_covers_92 : decode cX12_covers 92 = .ok (.aload_n 0, 1) := by decide +kernel
theorem dX12_covers_93 : decode cX12_covers 93 = .ok (.getfield 7, 3) := by decide +kernel
theorem dX12_covers_96 : decode cX12_covers 96 = .ok (.iconst 2, 1) := by decide +kernel
theorem dX12_covers_97 : decode cX12_covers 97 = .ok (.iaload, 1) := by decide +kernel
theorem dX12_covers_98 : decode cX12_covers 98 = .ok (.ishl, 1) := by decide +kernel
theorem dX12_covers_99 : decode cX12_covers 99 = .ok (.if_icmp .ge 144, 3) := by decide +kernel
theorem dX12_covers_102 : decode cX12_covers 102 = .ok (.iconst 0, 1) := by decide +kernel
theorem dX12_covers_103 : decode cX12_covers 103 = .ok (.istore 4, 2) := by decide +kernel
theorem dX12_covers_105 : decode cX12_covers 105 = .ok (.iconst 0, 1) := by decide +kernel
theorem dX12_covers_106 : decode cX12_covers 106 = .ok (.istore 5, 2) := by decide +kernel
theorem dX12_covers_108 : decode cX12_covers 108 = .ok (.iconst 0, 1) := by decide +kernel
theorem dX12_covers_109 : decode cX12_covers 109 = .ok (.istore 6, 2) := by decide +kernel
theorem dX12_covers_111 : decode cX12_covers 111 = .ok (.iconst 0, 1) := by decide +kernel
theorem dX12_covers_112 : decode cX12_covers 112 = .ok (.istore 7, 2) := by decide +kernel
theorem dX12_covers_114 : decode cX12_covers 114 = .ok (.iload 7, 2) := by decide +kernel
theorem dX12_covers_116 : decode cX12_covers 116 = .ok (.aload_n 0, 1) := by decide +kernel
theorem dX12_covers_117 : decode cX12_covers 117 = .ok (.getfield 7, 3) := by decide +kernel
theorem dX12_covers_120 : decode cX12_covers 120 = .ok (.iconst 2, 1) := by decide +kernel
theorem dX12_covers_121 : decode cX12_covers 121 = .ok (.iaload, 1) := by decide +kernel
theorem dX12_covers_122 : decode cX12_covers 122 = .ok (.if_icmp .ge 56, 3) := by decide +kernel
theorem dX12_covers_125 : decode cX12_covers 125 = .ok (.iload_n 3, 1) := by decide +kernel
theorem dX12_covers_126 : decode cX12_covers 126 = .ok (.iload 7, 2) := by decide +kernel
theorem dX12_covers_128 : decode cX12_covers 128 = .ok (.ishr, 1) := by decide +kernel
theorem dX12_covers_129 : decode cX12_covers 129 = .ok (.iconst 1, 1) := by decide +kernel
theorem dX12_covers_130 : decode cX12_covers 130 = .ok (.iand, 1) := by decide +kernel
theorem dX12_covers_131 : decode cX12_covers 131 = .ok (.ifCond .ne 6, 3) := by decide +kernel
theorem dX12_covers_134 : decode cX12_covers 134 = .ok (.goto 38, 3) := by decide +kernel
theorem dX12_covers_137 : decode cX12_covers 137 = .ok (.iload 4, 2) := by decide +kernel
theorem dX12_covers_139 : decode cX12_covers 139 = .ok (.aload_n 0, 1) := by decide +kernel
theorem dX12_covers_140 : decode cX12_covers 140 = .ok (.getfield 44, 3) := by decide +kernel
theorem dX12_covers_143 : decode cX12_covers 143 = .ok (.iload 7, 2) := by decide +kernel
theorem dX12_covers_145 : decode cX12_covers 145 = .ok (.iaload, 1) := by decide +kernel
theorem dX12_covers_146 : decode cX12_covers 146 = .ok (.ior, 1) := by decide +kernel
theorem dX12_covers_147 : decode cX12_covers 147 = .ok (.istore 4, 2) := by decide +kernel
theorem dX12_covers_149 : decode cX12_covers 149 = .ok (.iload 5, 2) := by decide +kernel
theorem dX12_covers_151 : decode cX12_covers 151 = .ok (.aload_n 0, 1) := by decide +kernel
theorem dX12_covers_152 : decode cX12_covers 152 = .ok (.getfield 7, 3) := by decide +kernel
theorem dX12_covers_155 : decode cX12_covers 155 = .ok (.sipush 170, 3) := by decide +kernel
theorem dX12_covers_158 : decode cX12_covers 158 = .ok (.iconst 4, 1) := by decide +kernel
theorem dX12_covers_159 : decode cX12_covers 159 = .ok (.iload 7, 2) := by decide +kernel
theorem dX12_covers_161 : decode cX12_covers 161 = .ok (.imul, 1) := by decide +kernel
theorem dX12_covers_162 : decode cX12_covers 162 = .ok (.iadd, 1) := by decide +kernel
theorem dX12_covers_163 : decode cX12_covers 163 = .ok (.iconst 3, 1) := by decide +kernel
theorem dX12_covers_164 : decode cX12_covers 164 = .ok (.iadd, 1) := by decide +kernel
theorem dX12_covers_165 : decode cX12_covers 165 = .ok (.iaload, 1) := by decide +kernel
theorem dX12_covers_166 : decode cX12_covers 166 = .ok (.iadd, 1) := by decide +kernel
theorem dX12_covers_167 : decode cX12_covers 167 = .ok (.istore 5, 2) := by decide +kernel
theorem dX12_covers_169 : decode cX12_covers 169 = .ok (.iinc 6 1, 3) := by decide +kernel
theorem dX12_covers_172 : decode cX12_covers 172 = .ok (.iinc 7 1, 3) := by decide +kernel
theorem dX12_covers_175 : decode cX12_covers 175 = .ok (.goto (-61), 3) := by decide +kernel
theorem dX12_covers_178 : decode cX12_covers 178 = .ok (.iload 4, 2) := by decide +kernel
theorem dX12_covers_180 : decode cX12_covers 180 = .ok (.iload_n 1, 1) := by decide +kernel
theorem dX12_covers_181 : decode cX12_covers 181 = .ok (.if_icmp .ne 56, 3) := by decide +kernel
theorem dX12_covers_184 : decode cX12_covers 184 = .ok (.iload_n 2, 1) := by decide +kernel
theorem dX12_covers_185 : decode cX12_covers 185 = .ok (.ifCond .eq 33, 3) := by decide +kernel
theorem dX12_covers_188 : decode cX12_covers 188 = .ok (.iload 5, 2) := by decide +kernel
theorem dX12_covers_190 : decode cX12_covers 190 = .ok (.aload_n 0, 1) := by decide +kernel
theorem dX12_covers_191 : decode cX12_covers 191 = .ok (.getfield 260, 3) := by decide +kernel
theorem dX12_covers_194 : decode cX12_covers 194 = .ok (.if_icmp .gt 43, 3) := by decide +kernel
theorem dX12_covers_197 : decode cX12_covers 197 = .ok (.iload 5, 2) := by decide +kernel
theorem dX12_covers_199 : decode cX12_covers 199 = .ok (.aload_n 0, 1) := by decide +kernel
theorem dX12_covers_200 : decode cX12_covers 200 = .ok (.getfield 260, 3) := by decide +kernel
theorem dX12_covers_203 : decode cX12_covers 203 = .ok (.if_icmp .ne 15, 3) := by decide +kernel
theorem dX12_covers_206 : decode cX12_covers 206 = .ok (.iload 6, 2) := by decide +kernel
theorem dX12_covers_208 : decode cX12_covers 208 = .ok (.aload_n 0, 1) := by decide +kernel
theorem dX12_covers_209 : decode cX12_covers 209 = .ok (.getfield 263, 3) := by decide +kernel
theorem dX12_covers_212 : decode cX12_covers 212 = .ok (.if_icmp .lt 6, 3) := by decide +kernel
theorem dX12_covers_215 : decode cX12_covers 215 = .ok (.goto 22, 3) := by decide +kernel
theorem dX12_covers_218 : decode cX12_covers 218 = .ok (.iconst 1, 1) := by decide +kernel
theorem dX12_covers_219 : decode cX12_covers 219 = .ok (.istore_n 2, 1) := by decide +kernel
theorem dX12_covers_220 : decode cX12_covers 220 = .ok (.aload_n 0, 1) := by decide +kernel
theorem dX12_covers_221 : decode cX12_covers 221 = .ok (.iload 5, 2) := by decide +kernel
theorem dX12_covers_223 : decode cX12_covers 223 = .ok (.putfield 260, 3) := by decide +kernel
theorem dX12_covers_226 : decode cX12_covers 226 = .ok (.aload_n 0, 1) := by decide +kernel
theorem dX12_covers_227 : decode cX12_covers 227 = .ok (.iload 6, 2) := by decide +kernel
theorem dX12_covers_229 : decode cX12_covers 229 = .ok (.putfield 263, 3) := by decide +kernel
theorem dX12_covers_232 : decode cX12_covers 232 = .ok (.aload_n 0, 1) := by decide +kernel
theorem dX12_covers_233 : decode cX12_covers 233 = .ok (.iload_n 3, 1) := by decide +kernel
theorem dX12_covers_234 : decode cX12_covers 234 = .ok (.putfield 266, 3) := by decide +kernel
theorem dX12_covers_237 : decode cX12_covers 237 = .ok (.iinc 3 1, 3) := by decide +kernel
theorem dX12_covers_240 : decode cX12_covers 240 = .ok (.goto (-150), 3) := by decide +kernel
theorem dX12_covers_243 : decode cX12_covers 243 = .ok (.iload_n 2, 1) := by decide +kernel
theorem dX12_covers_244 : decode cX12_covers 244 = .ok (.ireturn, 1) := by decide +kernel
theorem dX12_cover_0 : decode cX12_cover 0 = .ok (.iload_n 1, 1) := by decide +kernel
theorem dX12_cover_1 : decode cX12_cover 1 = .ok (.iconst 0, 1) := by decide +kernel
theorem dX12_cover_2 : decode cX12_cover 2 = .ok (.iconst 2, 1) := by decide +kernel
theorem dX12_cover_3 : decode cX12_cover 3 = .ok (.invokestatic 68, 3) := by decide +kernel
theorem dX12_cover_6 : decode cX12_cover 6 = .ok (.ifCond .eq 40, 3) := by decide +kernel
theorem dX12_cover_9 : decode cX12_cover 9 = .ok (.aload_n 0, 1) := by decide +kernel
theorem dX12_cover_10 : decode cX12_cover 10 = .ok (.invokevirtual 269, 3) := by decide +kernel
theorem dX12_cover_13 : decode cX12_cover 13 = .ok (.ifCond .eq 33, 3) := by decide +kernel
theorem dX12_cover_16 : decode cX12_cover 16 = .ok (.iload_n 1, 1) := by decide +kernel
theorem dX12_cover_17 : decode cX12_cover 17 = .ok (.ifCond .ne 10, 3) := by decide +kernel
theorem dX12_cover_20 : decode cX12_cover 20 = .ok (.aload_n 0, 1) := by decide +kernel
theorem dX12_cover_21 : decode cX12_cover 21 = .ok (.getfield 260, 3) := by decide +kernel
theorem dX12_cover_24 : decode cX12_cover 24 = .ok (.goto 23, 3) := by decide +kernel
theorem dX12_cover_27 : decode cX12_cover 27 = .ok (.iload_n 1, 1) := by decide +kernel
theorem dX12_cover_28 : decode cX12_cover 28 = .ok (.iconst 1, 1) := by decide +kernel
theorem dX12_cover_29 : decode cX12_cover 29 = .ok (.if_icmp .ne 10, 3) := by decide +kernel
theorem dX12_cover_32 : decode cX12_cover 32 = .ok (.aload_n 0, 1) := by decide +kernel
theorem dX12_cover_33 : decode cX12_cover 33 = .ok (.getfield 263, 3) := by decide +kernel
theorem dX12_cover_36 : decode cX12_cover 36 = .ok (.goto 11, 3) := by decide +kernel
theorem dX12_cover_39 : decode cX12_cover 39 = .ok (.aload_n 0, 1) := by decide +kernel
theorem dX12_cover_40 : decode cX12_cover 40 = .ok (.getfield 266, 3) := by decide +kernel
theorem dX12_cover_43 : decode cX12_cover 43 = .ok (.goto 4, 3) := by decide +kernel
theorem dX12_cover_46 : decode cX12_cover 46 = .ok (.iconst (-1), 1) := by decide +kernel
theorem dX12_cover_47 : decode cX12_cover 47 = .ok (.ireturn, 1) := by decide +kernel
theorem dX12_clashes_0 : decode cX12_clashes 0 = .ok (.iconst 0, 1) := by decide +kernel
theorem dX12_clashes_1 : decode cX12_clashes 1 = .ok (.istore_n 3, 1) := by decide +kernel
theorem dX12_clashes_2 : decode cX12_clashes 2 = .ok (.iconst 0, 1) := by decide +kernel
theorem dX12_clashes_3 : decode cX12_clashes 3 = .ok (.istore 4, 2) := by decide +kernel
theorem dX12_clashes_5 : decode cX12_clashes 5 = .ok (.iload 4, 2) := by decide +kernel
theorem dX12_clashes_7 : decode cX12_clashes 7 = .ok (.aload_n 0, 1) := by decide +kernel
theorem dX12_clashes_8 : decode cX12_clashes 8 = .ok (.getfield 7, 3) := by decide +kernel
theorem dX12_clashes_11 : decode cX12_clashes 11 = .ok (.iconst 3, 1) := by decide +kernel
theorem dX12_clashes_12 : decode cX12_clashes 12 = .ok (.iaload, 1) := by decide +kernel
theorem dX12_clashes_13 : decode cX12_clashes 13 = .ok (.if_icmp .ge 89, 3) := by decide +kernel
theorem dX12_clashes_16 : decode cX12_clashes 16 = .ok (.iload_n 3, 1) := by decide +kernel
theorem dX12_clashes_17 : decode cX12_clashes 17 = .ok (.ifCond .ne 85, 3) := by decide +kernel
theorem dX12_clashes_20 : decode cX12_clashes 20 = .ok (.aload_n 0, 1) := by decide +kernel
theorem dX12_clashes_21 : decode cX12_clashes 21 = .ok (.getfield 7, 3) := by decide +kernel
theorem dX12_clashes_24 : decode cX12_clashes 24 = .ok (.sipush 202, 3) := by decide +kernel
theorem dX12_clashes_27 : decode cX12_clashes 27 = .ok (.iconst 2, 1) := by decide +kernel
theorem dX12_clashes_28 : decode cX12_clashes 28 = .ok (.iload 4, 2) := by decide +kernel
theorem dX12_clashes_30 : decode cX12_clashes 30 = .ok (.imul, 1) := by decide +kernel
theorem dX12_clashes_31 : decode cX12_clashes 31 = .ok (.iadd, 1) := by decide +kernel
theorem dX12_clashes_32 : decode cX12_clashes 32 = .ok (.iaload, 1) := by decide +kernel
theorem dX12_clashes_33 : decode cX12_clashes 33 = .ok (.istore 5, 2) := by decide +kernel
theorem dX12_clashes_35 : decode cX12_clashes 35 = .ok (.aload_n 0, 1) := by decide +kernel
theorem dX12_clashes_36 : decode cX12_clashes 36 = .ok (.getfield 7, 3) := by decide +kernel
theorem dX12_clashes_39 : decode cX12_clashes 39 = .ok (.sipush 202, 3) := by decide +kernel
theorem dX12_clashes_42 : decode cX12_clashes 42 = .ok (.iconst 2, 1) := by decide +kernel
theorem dX12_clashes_43 : decode cX12_clashes 43 = .ok (.iload 4, 2) := by decide +kernel
theorem dX12_clashes_45 : decode cX12_clashes 45 = .ok (.imul, 1) := by decide +kernel
theorem dX12_clashes_46 : decode cX12_clashes 46 = .ok (.iadd, 1) := by decide +kernel
theorem dX12_clashes_47 : decode cX12_clashes 47 = .ok (.iconst 1, 1) := by decide +kernel
theorem dX12_clashes_48 : decode cX12_clashes 48 = .ok (.iadd, 1) := by decide +kernel
theorem dX12_clashes_49 : decode cX12_clashes 49 = .ok (.iaload, 1) := by decide +kernel
theorem dX12_clashes_50 : decode cX12_clashes 50 = .ok (.istore 6, 2) := by decide +kernel
theorem dX12_clashes_52 : decode cX12_clashes 52 = .ok (.aload_n 0, 1) := by decide +kernel
theorem dX12_clashes_53 : decode cX12_clashes 53 = .ok (.iload_n 1, 1) := by decide +kernel
theorem dX12_clashes_54 : decode cX12_clashes 54 = .ok (.iload 5, 2) := by decide +kernel
theorem dX12_clashes_56 : decode cX12_clashes 56 = .ok (.iload 6, 2) := by decide +kernel
theorem dX12_clashes_58 : decode cX12_clashes 58 = .ok (.invokevirtual 244, 3) := by decide +kernel
theorem dX12_clashes_61 : decode cX12_clashes 61 = .ok (.aload_n 0, 1) := by decide +kernel
theorem dX12_clashes_62 : decode cX12_clashes 62 = .ok (.getfield 7, 3) := by decide +kernel
theorem dX12_clashes_65 : decode cX12_clashes 65 = .ok (.bipush 15, 2) := by decide +kernel
theorem dX12_clashes_67 : decode cX12_clashes 67 = .ok (.iaload, 1) := by decide +kernel
theorem dX12_clashes_68 : decode cX12_clashes 68 = .ok (.if_icmp .lt 26, 3) := by decide +kernel
theorem dX12_clashes_71 : decode cX12_clashes 71 = .ok (.aload_n 0, 1) := by decide +kernel
theorem dX12_clashes_72 : decode cX12_clashes 72 = .ok (.iload_n 2, 1) := by decide +kernel
theorem dX12_clashes_73 : decode cX12_clashes 73 = .ok (.iload 5, 2) := by decide +kernel
theorem dX12_clashes_75 : decode cX12_clashes 75 = .ok (.iload 6, 2) := by decide +kernel
theorem dX12_clashes_77 : decode cX12_clashes 77 = .ok (.invokevirtual 244, 3) := by decide +kernel
theorem dX12_clashes_80 : decode cX12_clashes 80 = .ok (.aload_n 0, 1) := by decide +kernel
theorem dX12_clashes_81 : decode cX12_clashes 81 = .ok (.getfield 7, 3) := by decide +kernel
theorem dX12_clashes_84 : decode cX12_clashes 84 = .ok (.bipush 15, 2) := by decide +kernel
theorem dX12_clashes_86 : decode cX12_clashes 86 = .ok (.iaload, 1) := by decide +kernel
theorem dX12_clashes_87 : decode cX12_clashes 87 = .ok (.if_icmp .lt 7, 3) := by decide +kernel
theorem dX12_clashes_90 : decode cX12_clashes 90 = .ok (.iconst 1, 1) := by decide +kernel
theorem dX12_clashes_91 : decode cX12_clashes 91 = .ok (.goto 4, 3) := by decide +kernel
theorem dX12_clashes_94 : decode cX12_clashes 94 = .ok (.iconst 0, 1) := by decide +kernel
theorem dX12_clashes_95 : decode cX12_clashes 95 = .ok (.istore_n 3, 1) := by decide +kernel
theorem dX12_clashes_96 : decode cX12_clashes 96 = .ok (.iinc 4 1, 3) := by decide +kernel
theorem dX12_clashes_99 : decode cX12_clashes 99 = .ok (.goto (-94), 3) := by decide +kernel
theorem dX12_clashes_102 : decode cX12_clashes 102 = .ok (.iload_n 3, 1) := by decide +kernel
theorem dX12_clashes_103 : decode cX12_clashes 103 = .ok (.ireturn, 1) := by decide +kernel
theorem dX12_clash_0 : decode cX12_clash 0 = .ok (.iload_n 1, 1) := by decide +kernel
theorem dX12_clash_1 : decode cX12_clash 1 = .ok (.iload_n 2, 1) := by decide +kernel
theorem dX12_clash_2 : decode cX12_clash 2 = .ok (.if_icmp .eq 32, 3) := by decide +kernel
theorem dX12_clash_5 : decode cX12_clash 5 = .ok (.aload_n 0, 1) := by decide +kernel
theorem dX12_clash_6 : decode cX12_clash 6 = .ok (.iload_n 1, 1) := by decide +kernel
theorem dX12_clash_7 : decode cX12_clash 7 = .ok (.invokevirtual 215, 3) := by decide +kernel
theorem dX12_clash_10 : decode cX12_clash 10 = .ok (.ifCond .eq 24, 3) := by decide +kernel
theorem dX12_clash_13 : decode cX12_clash 13 = .ok (.aload_n 0, 1) := by decide +kernel
theorem dX12_clash_14 : decode cX12_clash 14 = .ok (.iload_n 2, 1) := by decide +kernel
theorem dX12_clash_15 : decode cX12_clash 15 = .ok (.invokevirtual 215, 3) := by decide +kernel
theorem dX12_clash_18 : decode cX12_clash 18 = .ok (.ifCond .eq 16, 3) := by decide +kernel
theorem dX12_clash_21 : decode cX12_clash 21 = .ok (.aload_n 0, 1) := by decide +kernel
theorem dX12_clash_22 : decode cX12_clash 22 = .ok (.iload_n 1, 1) := by decide +kernel
theorem dX12_clash_23 : decode cX12_clash 23 = .ok (.iload_n 2, 1) := by decide +kernel
theorem dX12_clash_24 : decode cX12_clash 24 = .ok (.invokevirtual 273, 3) := by decide +kernel
theorem dX12_clash_27 : decode cX12_clash 27 = .ok (.ifCond .eq 7, 3) := by decide +kernel
theorem dX12_clash_30 : decode cX12_clash 30 = .ok (.iconst 1, 1) := by decide +kernel
theorem dX12_clash_31 : decode cX12_clash 31 = .ok (.goto 4, 3) := by decide +kernel
theorem dX12_clash_34 : decode cX12_clash 34 = .ok (.iconst 0, 1) := by decide +kernel
theorem dX12_clash_35 : decode cX12_clash 35 = .ok (.ireturn, 1) := by decide +kernel
theorem dX12_isApart_0 : decode cX12_isApart 0 = .ok (.iconst 1, 1) := by decide +kernel
theorem dX12_isApart_1 : decode cX12_isApart 1 = .ok (.istore_n 2, 1) := by decide +kernel
theorem dX12_isApart_2 : decode cX12_isApart 2 = .ok (.iconst 0, 1) := by decide +kernel
theorem dX12_isApart_3 : decode cX12_isApart 3 = .ok (.istore_n 3, 1) := by decide +kernel
theorem dX12_isApart_4 : decode cX12_isApart 4 = .ok (.iload_n 3, 1) := by decide +kernel
theorem dX12_isApart_5 : decode cX12_isApart 5 = .ok (.iload_n 1, 1) := by decide +kernel
theorem dX12_isApart_6 : decode cX12_isApart 6 = .ok (.if_icmp .ge 48, 3) := by decide +kernel
theorem dX12_isApart_9 : decode cX12_isApart 9 = .ok (.iload_n 2, 1) := by decide +kernel
theorem dX12_isApart_10 : decode cX12_isApart 10 = .ok (.ifCond .eq 44, 3) := by decide +kernel
theorem dX12_isApart_13 : decode cX12_isApart 13 = .ok (.aload_n 0, 1) := by decide +kernel
theorem dX12_isApart_14 : decode cX12_isApart 14 = .ok (.getfield 50, 3) := by decide +kernel
theorem dX12_isApart_17 : decode cX12_isApart 17 = .ok (.bipush 6, 2) := by decide +kernel
theorem dX12_isApart_19 : decode cX12_isApart 19 = .ok (.iload_n 1, 1) := by decide +kernel
theorem dX12_isApart_20 : decode cX12_isApart 20 = .ok (.imul, 1) := by decide +kernel
theorem dX12_isApart_21 : decode cX12_isApart 21 = .ok (.iload_n 3, 1) := by decide +kernel
theorem dX12_isApart_22 : decode cX12_isApart 22 = .ok (.iadd, 1) := by decide +kernel
theorem dX12_isApart_23 : decode cX12_isApart 23 = .ok (.baload, 1) := by decide +kernel
theorem dX12_isApart_24 : decode cX12_isApart 24 = .ok (.ifCond .eq 18, 3) := by decide +kernel
theorem dX12_isApart_27 : decode cX12_isApart 27 = .ok (.aload_n 0, 1) := by decide +kernel
theorem dX12_isApart_28 : decode cX12_isApart 28 = .ok (.getfield 47, 3) := by decide +kernel
theorem dX12_isApart_31 : decode cX12_isApart 31 = .ok (.iload_n 3, 1) := by decide +kernel
theorem dX12_isApart_32 : decode cX12_isApart 32 = .ok (.iaload, 1) := by decide +kernel
theorem dX12_isApart_33 : decode cX12_isApart 33 = .ok (.aload_n 0, 1) := by decide +kernel
theorem dX12_isApart_34 : decode cX12_isApart 34 = .ok (.getfield 47, 3) := by decide +kernel
theorem dX12_isApart_37 : decode cX12_isApart 37 = .ok (.iload_n 1, 1) := by decide +kernel
theorem dX12_isApart_38 : decode cX12_isApart 38 = .ok (.iaload, 1) := by decide +kernel
theorem dX12_isApart_39 : decode cX12_isApart 39 = .ok (.if_icmp .eq 7, 3) := by decide +kernel
theorem dX12_isApart_42 : decode cX12_isApart 42 = .ok (.iconst 1, 1) := by decide +kernel
theorem dX12_isApart_43 : decode cX12_isApart 43 = .ok (.goto 4, 3) := by decide +kernel
theorem dX12_isApart_46 : decode cX12_isApart 46 = .ok (.iconst 0, 1) := by decide +kernel
theorem dX12_isApart_47 : decode cX12_isApart 47 = .ok (.istore_n 2, 1) := by decide +kernel
theorem dX12_isApart_48 : decode cX12_isApart 48 = .ok (.iinc 3 1, 3) := by decide +kernel
theorem dX12_isApart_51 : decode cX12_isApart 51 = .ok (.goto (-47), 3) := by decide +kernel
theorem dX12_isApart_54 : decode cX12_isApart 54 = .ok (.iload_n 2, 1) := by decide +kernel
theorem dX12_isApart_55 : decode cX12_isApart 55 = .ok (.ireturn, 1) := by decide +kernel
theorem dX12_colours_0 : decode cX12_colours 0 = .ok (.aload_n 0, 1) := by decide +kernel
theorem dX12_colours_1 : decode cX12_colours 1 = .ok (.getfield 7, 3) := by decide +kernel
theorem dX12_colours_4 : decode cX12_colours 4 = .ok (.iconst 1, 1) := by decide +kernel
theorem dX12_colours_5 : decode cX12_colours 5 = .ok (.iaload, 1) := by decide +kernel
theorem dX12_colours_6 : decode cX12_colours 6 = .ok (.istore_n 2, 1) := by decide +kernel
theorem dX12_colours_7 : decode cX12_colours 7 = .ok (.iconst 0, 1) := by decide +kernel
theorem dX12_colours_8 : decode cX12_colours 8 = .ok (.istore_n 3, 1) := by decide +kernel
theorem dX12_colours_9 : decode cX12_colours 9 = .ok (.iconst 0, 1) := by decide +kernel
theorem dX12_colours_10 : decode cX12_colours 10 = .ok (.istore 4, 2) := by decide +kernel
theorem dX12_colours_12 : decode cX12_colours 12 = .ok (.iload 4, 2) := by decide +kernel
theorem dX12_colours_14 : decode cX12_colours 14 = .ok (.iload_n 2, 1) := by decide +kernel
theorem dX12_colours_15 : decode cX12_colours 15 = .ok (.if_icmp .ge 17, 3) := by decide +kernel
theorem dX12_colours_18 : decode cX12_colours 18 = .ok (.aload_n 0, 1) := by decide +kernel
theorem dX12_colours_19 : decode cX12_colours 19 = .ok (.getfield 47, 3) := by decide +kernel
theorem dX12_colours_22 : decode cX12_colours 22 = .ok (.iload 4, 2) := by decide +kernel
theorem dX12_colours_24 : decode cX12_colours 24 = .ok (.iconst (-1), 1) := by decide +kernel
theorem dX12_colours_25 : decode cX12_colours 25 = .ok (.iastore, 1) := by decide +kernel
theorem dX12_colours_26 : decode cX12_colours 26 = .ok (.iinc 4 1, 3) := by decide +kernel
theorem dX12_colours_29 : decode cX12_colours 29 = .ok (.goto (-17), 3) := by decide +kernel
theorem dX12_colours_32 : decode cX12_colours 32 = .ok (.iload_n 3, 1) := by decide +kernel
theorem dX12_colours_33 : decode cX12_colours 33 = .ok (.ifCond .lt 101, 3) := by decide +kernel
theorem dX12_colours_36 : decode cX12_colours 36 = .ok (.iload_n 3, 1) := by decide +kernel
theorem dX12_colours_37 : decode cX12_colours 37 = .ok (.iload_n 2, 1) := by decide +kernel
theorem dX12_colours_38 : decode cX12_colours 38 = .ok (.if_icmp .ge 96, 3) := by decide +kernel
theorem dX12_colours_41 : decode cX12_colours 41 = .ok (.aload_n 0, 1) := by decide +kernel
theorem dX12_colours_42 : decode cX12_colours 42 = .ok (.iload_n 3, 1) := by decide +kernel
theorem dX12_colours_43 : decode cX12_colours 43 = .ok (.invokevirtual 215, 3) := by decide +kernel
theorem dX12_colours_46 : decode cX12_colours 46 = .ok (.ifCond .ne 41, 3) := by decide +kernel
theorem dX12_colours_49 : decode cX12_colours 49 = .ok (.aload_n 0, 1) := by decide +kernel
theorem dX12_colours_50 : decode cX12_colours 50 = .ok (.getfield 47, 3) := by decide +kernel
theorem dX12_colours_53 : decode cX12_colours 53 = .ok (.iload_n 3, 1) := by decide +kernel
theorem dX12_colours_54 : decode cX12_colours 54 = .ok (.dup2, 1) := by decide +kernel
theorem dX12_colours_55 : decode cX12_colours 55 = .ok (.iaload, 1) := by decide +kernel
theorem dX12_colours_56 : decode cX12_colours 56 = .ok (.iconst 1, 1) := by decide +kernel
theorem dX12_colours_57 : decode cX12_colours 57 = .ok (.iadd, 1) := by decide +kernel
theorem dX12_colours_58 : decode cX12_colours 58 = .ok (.iastore, 1) := by decide +kernel
theorem dX12_colours_59 : decode cX12_colours 59 = .ok (.aload_n 0, 1) := by decide +kernel
theorem dX12_colours_60 : decode cX12_colours 60 = .ok (.getfield 47, 3) := by decide +kernel
theorem dX12_colours_63 : decode cX12_colours 63 = .ok (.iload_n 3, 1) := by decide +kernel
theorem dX12_colours_64 : decode cX12_colours 64 = .ok (.iaload, 1) := by decide +kernel
theorem dX12_colours_65 : decode cX12_colours 65 = .ok (.ifCond .le 16, 3) := by decide +kernel
theorem dX12_colours_68 : decode cX12_colours 68 = .ok (.aload_n 0, 1) := by decide +kernel
theorem dX12_colours_69 : decode cX12_colours 69 = .ok (.getfield 47, 3) := by decide +kernel
theorem dX12_colours_72 : decode cX12_colours 72 = .ok (.iload_n 3, 1) := by decide +kernel
theorem dX12_colours_73 : decode cX12_colours 73 = .ok (.iconst (-1), 1) := by decide +kernel
theorem dX12_colours_74 : decode cX12_colours 74 = .ok (.iastore, 1) := by decide +kernel
theorem dX12_colours_75 : decode cX12_colours 75 = .ok (.iinc 3 (-1), 3) := by decide +kernel
theorem dX12_colours_78 : decode cX12_colours 78 = .ok (.goto (-46), 3) := by decide +kernel
theorem dX12_colours_81 : decode cX12_colours 81 = .ok (.iinc 3 1, 3) := by decide +kernel
theorem dX12_colours_84 : decode cX12_colours 84 = .ok (.goto (-52), 3) := by decide +kernel
theorem dX12_colours_87 : decode cX12_colours 87 = .ok (.aload_n 0, 1) := by decide +kernel
theorem dX12_colours_88 : decode cX12_colours 88 = .ok (.getfield 47, 3) := by decide +kernel
theorem dX12_colours_91 : decode cX12_colours 91 = .ok (.iload_n 3, 1) := by decide +kernel
theorem dX12_colours_92 : decode cX12_colours 92 = .ok (.dup2, 1) := by decide +kernel
theorem dX12_colours_93 : decode cX12_colours 93 = .ok (.iaload, 1) := by decide +kernel
theorem dX12_colours_94 : decode cX12_colours 94 = .ok (.iconst 1, 1) := by decide +kernel
theorem dX12_colours_95 : decode cX12_colours 95 = .ok (.iadd, 1) := by decide +kernel
theorem dX12_colours_96 : decode cX12_colours 96 = .ok (.iastore, 1) := by decide +kernel
theorem dX12_colours_97 : decode cX12_colours 97 = .ok (.aload_n 0, 1) := by decide +kernel
theorem dX12_colours_98 : decode cX12_colours 98 = .ok (.getfield 47, 3) := by decide +kernel
theorem dX12_colours_101 : decode cX12_colours 101 = .ok (.iload_n 3, 1) := by decide +kernel
theorem dX12_colours_102 : decode cX12_colours 102 = .ok (.iaload, 1) := by decide +kernel
theorem dX12_colours_103 : decode cX12_colours 103 = .ok (.iload_n 1, 1) := by decide +kernel
theorem dX12_colours_104 : decode cX12_colours 104 = .ok (.if_icmp .ne 16, 3) := by decide +kernel
theorem dX12_colours_107 : decode cX12_colours 107 = .ok (.aload_n 0, 1) := by decide +kernel
theorem dX12_colours_108 : decode cX12_colours 108 = .ok (.getfield 47, 3) := by decide +kernel
theorem dX12_colours_111 : decode cX12_colours 111 = .ok (.iload_n 3, 1) := by decide +kernel
theorem dX12_colours_112 : decode cX12_colours 112 = .ok (.iconst (-1), 1) := by decide +kernel
theorem dX12_colours_113 : decode cX12_colours 113 = .ok (.iastore, 1) := by decide +kernel
theorem dX12_colours_114 : decode cX12_colours 114 = .ok (.iinc 3 (-1), 3) := by decide +kernel
theorem dX12_colours_117 : decode cX12_colours 117 = .ok (.goto (-85), 3) := by decide +kernel
theorem dX12_colours_120 : decode cX12_colours 120 = .ok (.aload_n 0, 1) := by decide +kernel
theorem dX12_colours_121 : decode cX12_colours 121 = .ok (.iload_n 3, 1) := by decide +kernel
theorem dX12_colours_122 : decode cX12_colours 122 = .ok (.invokevirtual 276, 3) := by decide +kernel
theorem dX12_colours_125 : decode cX12_colours 125 = .ok (.ifCond .eq (-93), 3) := by decide +kernel
theorem dX12_colours_128 : decode cX12_colours 128 = .ok (.iinc 3 1, 3) := by decide +kernel
theorem dX12_colours_131 : decode cX12_colours 131 = .ok (.goto (-99), 3) := by decide +kernel
theorem dX12_colours_134 : decode cX12_colours 134 = .ok (.iload_n 3, 1) := by decide +kernel
theorem dX12_colours_135 : decode cX12_colours 135 = .ok (.iload_n 2, 1) := by decide +kernel
theorem dX12_colours_136 : decode cX12_colours 136 = .ok (.if_icmp .ne 7, 3) := by decide +kernel
theorem dX12_colours_139 : decode cX12_colours 139 = .ok (.iconst 1, 1) := by decide +kernel
theorem dX12_colours_140 : decode cX12_colours 140 = .ok (.goto 4, 3) := by decide +kernel
theorem dX12_colours_143 : decode cX12_colours 143 = .ok (.iconst 0, 1) := by decide +kernel
theorem dX12_colours_144 : decode cX12_colours 144 = .ok (.ireturn, 1) := by decide +kernel
theorem dX12_colouring_0 : decode cX12_colouring 0 = .ok (.iconst 0, 1) := by decide +kernel
theorem dX12_colouring_1 : decode cX12_colouring 1 = .ok (.istore_n 1, 1) := by decide +kernel
theorem dX12_colouring_2 : decode cX12_colouring 2 = .ok (.iconst 0, 1) := by decide +kernel
theorem dX12_colouring_3 : decode cX12_colouring 3 = .ok (.istore_n 2, 1) := by decide +kernel
theorem dX12_colouring_4 : decode cX12_colouring 4 = .ok (.iload_n 2, 1) := by decide +kernel
theorem dX12_colouring_5 : decode cX12_colouring 5 = .ok (.aload_n 0, 1) := by decide +kernel
theorem dX12_colouring_6 : decode cX12_colouring 6 = .ok (.getfield 7, 3) := by decide +kernel
theorem dX12_colouring_9 : decode cX12_colouring 9 = .ok (.iconst 1, 1) := by decide +kernel
theorem dX12_colouring_10 : decode cX12_colouring 10 = .ok (.iaload, 1) := by decide +kernel
theorem dX12_colouring_11 : decode cX12_colouring 11 = .ok (.if_icmp .ge 79, 3) := by decide +kernel
theorem dX12_colouring_14 : decode cX12_colouring 14 = .ok (.iload_n 1, 1) := by decide +kernel
theorem dX12_colouring_15 : decode cX12_colouring 15 = .ok (.aload_n 0, 1) := by decide +kernel
theorem dX12_colouring_16 : decode cX12_colouring 16 = .ok (.iload_n 2, 1) := by decide +kernel
theorem dX12_colouring_17 : decode cX12_colouring 17 = .ok (.invokevirtual 215, 3) := by decide +kernel
theorem dX12_colouring_20 : decode cX12_colouring 20 = .ok (.ifCond .eq 7, 3) := by decide +kernel
theorem dX12_colouring_23 : decode cX12_colouring 23 = .ok (.iconst 1, 1) := by decide +kernel
theorem dX12_colouring_24 : decode cX12_colouring 24 = .ok (.goto 4, 3) := by decide +kernel
theorem dX12_colouring_27 : decode cX12_colouring 27 = .ok (.iconst 0, 1) := by decide +kernel
theorem dX12_colouring_28 : decode cX12_colouring 28 = .ok (.iadd, 1) := by decide +kernel
theorem dX12_colouring_29 : decode cX12_colouring 29 = .ok (.istore_n 1, 1) := by decide +kernel
theorem dX12_colouring_30 : decode cX12_colouring 30 = .ok (.iconst 0, 1) := by decide +kernel
theorem dX12_colouring_31 : decode cX12_colouring 31 = .ok (.istore_n 3, 1) := by decide +kernel
theorem dX12_colouring_32 : decode cX12_colouring 32 = .ok (.iload_n 3, 1) := by decide +kernel
theorem dX12_colouring_33 : decode cX12_colouring 33 = .ok (.iload_n 2, 1) := by decide +kernel
theorem dX12_colouring_34 : decode cX12_colouring 34 = .ok (.if_icmp .ge 50, 3) := by decide +kernel
theorem dX12_colouring_37 : decode cX12_colouring 37 = .ok (.aload_n 0, 1) := by decide +kernel
theorem dX12_colouring_38 : decode cX12_colouring 38 = .ok (.getfield 50, 3) := by decide +kernel
theorem dX12_colouring_41 : decode cX12_colouring 41 = .ok (.bipush 6, 2) := by decide +kernel
theorem dX12_colouring_43 : decode cX12_colouring 43 = .ok (.iload_n 2, 1) := by decide +kernel
theorem dX12_colouring_44 : decode cX12_colouring 44 = .ok (.imul, 1) := by decide +kernel
theorem dX12_colouring_45 : decode cX12_colouring 45 = .ok (.iload_n 3, 1) := by decide +kernel
theorem dX12_colouring_46 : decode cX12_colouring 46 = .ok (.iadd, 1) := by decide +kernel
theorem dX12_colouring_47 : decode cX12_colouring 47 = .ok (.aload_n 0, 1) := by decide +kernel
theorem dX12_colouring_48 : decode cX12_colouring 48 = .ok (.iload_n 2, 1) := by decide +kernel
theorem dX12_colouring_49 : decode cX12_colouring 49 = .ok (.invokevirtual 215, 3) := by decide +kernel
theorem dX12_colouring_52 : decode cX12_colouring 52 = .ok (.ifCond .eq 24, 3) := by decide +kernel
theorem dX12_colouring_55 : decode cX12_colouring 55 = .ok (.aload_n 0, 1) := by decide +kernel
theorem dX12_colouring_56 : decode cX12_colouring 56 = .ok (.iload_n 3, 1) := by decide +kernel
theorem dX12_colouring_57 : decode cX12_colouring 57 = .ok (.invokevirtual 215, 3) := by decide +kernel
theorem dX12_colouring_60 : decode cX12_colouring 60 = .ok (.ifCond .eq 16, 3) := by decide +kernel
theorem dX12_colouring_63 : decode cX12_colouring 63 = .ok (.aload_n 0, 1) := by decide +kernel
theorem dX12_colouring_64 : decode cX12_colouring 64 = .ok (.iload_n 2, 1) := by decide +kernel
theorem dX12_colouring_65 : decode cX12_colouring 65 = .ok (.iload_n 3, 1) := by decide +kernel
theorem dX12_colouring_66 : decode cX12_colouring 66 = .ok (.invokevirtual 273, 3) := by decide +kernel
theorem dX12_colouring_69 : decode cX12_colouring 69 = .ok (.ifCond .eq 7, 3) := by decide +kernel
theorem dX12_colouring_72 : decode cX12_colouring 72 = .ok (.iconst 1, 1) := by decide +kernel
theorem dX12_colouring_73 : decode cX12_colouring 73 = .ok (.goto 4, 3) := by decide +kernel
theorem dX12_colouring_76 : decode cX12_colouring 76 = .ok (.iconst 0, 1) := by decide +kernel
theorem dX12_colouring_77 : decode cX12_colouring 77 = .ok (.bastore, 1) := by decide +kernel
theorem dX12_colouring_78 : decode cX12_colouring 78 = .ok (.iinc 3 1, 3) := by decide +kernel
theorem dX12_colouring_81 : decode cX12_colouring 81 = .ok (.goto (-49), 3) := by decide +kernel
theorem dX12_colouring_84 : decode cX12_colouring 84 = .ok (.iinc 2 1, 3) := by decide +kernel
theorem dX12_colouring_87 : decode cX12_colouring 87 = .ok (.goto (-83), 3) := by decide +kernel
theorem dX12_colouring_90 : decode cX12_colouring 90 = .ok (.iload_n 1, 1) := by decide +kernel
theorem dX12_colouring_91 : decode cX12_colouring 91 = .ok (.ifCond .ne 5, 3) := by decide +kernel
theorem dX12_colouring_94 : decode cX12_colouring 94 = .ok (.iconst 0, 1) := by decide +kernel
theorem dX12_colouring_95 : decode cX12_colouring 95 = .ok (.ireturn, 1) := by decide +kernel
theorem dX12_colouring_96 : decode cX12_colouring 96 = .ok (.iconst 1, 1) := by decide +kernel
theorem dX12_colouring_97 : decode cX12_colouring 97 = .ok (.istore_n 2, 1) := by decide +kernel
theorem dX12_colouring_98 : decode cX12_colouring 98 = .ok (.aload_n 0, 1) := by decide +kernel
theorem dX12_colouring_99 : decode cX12_colouring 99 = .ok (.iload_n 2, 1) := by decide +kernel
theorem dX12_colouring_100 : decode cX12_colouring 100 = .ok (.invokevirtual 279, 3) := by decide +kernel
theorem dX12_colouring_103 : decode cX12_colouring 103 = .ok (.ifCond .ne 9, 3) := by decide +kernel
theorem dX12_colouring_106 : decode cX12_colouring 106 = .ok (.iinc 2 1, 3) := by decide +kernel
theorem dX12_colouring_109 : decode cX12_colouring 109 = .ok (.goto (-11), 3) := by decide +kernel
theorem dX12_colouring_112 : decode cX12_colouring 112 = .ok (.iload_n 2, 1) := by decide +kernel
theorem dX12_colouring_113 : decode cX12_colouring 113 = .ok (.ireturn, 1) := by decide +kernel
theorem dX12_colour_0 : decode cX12_colour 0 = .ok (.aload_n 0, 1) := by decide +kernel
theorem dX12_colour_1 : decode cX12_colour 1 = .ok (.iload_n 1, 1) := by decide +kernel
theorem dX12_colour_2 : decode cX12_colour 2 = .ok (.invokevirtual 215, 3) := by decide +kernel
theorem dX12_colour_5 : decode cX12_colour 5 = .ok (.ifCond .eq 10, 3) := by decide +kernel
theorem dX12_colour_8 : decode cX12_colour 8 = .ok (.aload_n 0, 1) := by decide +kernel
theorem dX12_colour_9 : decode cX12_colour 9 = .ok (.invokevirtual 282, 3) := by decide +kernel
theorem dX12_colour_12 : decode cX12_colour 12 = .ok (.ifCond .ne 5, 3) := by decide +kernel
theorem dX12_colour_15 : decode cX12_colour 15 = .ok (.iconst (-1), 1) := by decide +kernel
theorem dX12_colour_16 : decode cX12_colour 16 = .ok (.ireturn, 1) := by decide +kernel
theorem dX12_colour_17 : decode cX12_colour 17 = .ok (.aload_n 0, 1) := by decide +kernel
theorem dX12_colour_18 : decode cX12_colour 18 = .ok (.getfield 47, 3) := by decide +kernel
theorem dX12_colour_21 : decode cX12_colour 21 = .ok (.iload_n 1, 1) := by decide +kernel
theorem dX12_colour_22 : decode cX12_colour 22 = .ok (.iaload, 1) := by decide +kernel
theorem dX12_colour_23 : decode cX12_colour 23 = .ok (.ireturn, 1) := by decide +kernel
theorem dX12_span_0 : decode cX12_span 0 = .ok (.aload_n 0, 1) := by decide +kernel
theorem dX12_span_1 : decode cX12_span 1 = .ok (.iload_n 1, 1) := by decide +kernel
theorem dX12_span_2 : decode cX12_span 2 = .ok (.iconst 1, 1) := by decide +kernel
theorem dX12_span_3 : decode cX12_span 3 = .ok (.invokevirtual 80, 3) := by decide +kernel
theorem dX12_span_6 : decode cX12_span 6 = .ok (.ifCond .ne 5, 3) := by decide +kernel
theorem dX12_span_9 : decode cX12_span 9 = .ok (.iconst 0, 1) := by decide +kernel
theorem dX12_span_10 : decode cX12_span 10 = .ok (.ireturn, 1) := by decide +kernel
theorem dX12_span_11 : decode cX12_span 11 = .ok (.iload_n 2, 1) := by decide +kernel
theorem dX12_span_12 : decode cX12_span 12 = .ok (.iconst (-1), 1) := by decide +kernel
theorem dX12_span_13 : decode cX12_span 13 = .ok (.if_icmp .eq 27, 3) := by decide +kernel
theorem dX12_span_16 : decode cX12_span 16 = .ok (.iload_n 2, 1) := by decide +kernel
theorem dX12_span_17 : decode cX12_span 17 = .ok (.iconst 0, 1) := by decide +kernel
theorem dX12_span_18 : decode cX12_span 18 = .ok (.ldc_w 285, 3) := by decide +kernel
theorem dX12_span_21 : decode cX12_span 21 = .ok (.invokestatic 68, 3) := by decide +kernel
theorem dX12_span_24 : decode cX12_span 24 = .ok (.ifCond .eq 14, 3) := by decide +kernel
theorem dX12_span_27 : decode cX12_span 27 = .ok (.iload_n 3, 1) := by decide +kernel
theorem dX12_span_28 : decode cX12_span 28 = .ok (.iload_n 2, 1) := by decide +kernel
theorem dX12_span_29 : decode cX12_span 29 = .ok (.ldc_w 285, 3) := by decide +kernel
theorem dX12_span_32 : decode cX12_span 32 = .ok (.invokestatic 68, 3) := by decide +kernel
theorem dX12_span_35 : decode cX12_span 35 = .ok (.ifCond .ne 5, 3) := by decide +kernel
theorem dX12_span_38 : decode cX12_span 38 = .ok (.iconst 0, 1) := by decide +kernel
theorem dX12_span_39 : decode cX12_span 39 = .ok (.ireturn, 1) := by decide +kernel
theorem dX12_span_40 : decode cX12_span 40 = .ok (.aload_n 0, 1) := by decide +kernel
theorem dX12_span_41 : decode cX12_span 41 = .ok (.getfield 7, 3) := by decide +kernel
theorem dX12_span_44 : decode cX12_span 44 = .ok (.bipush 120, 2) := by decide +kernel
theorem dX12_span_46 : decode cX12_span 46 = .ok (.bipush 8, 2) := by decide +kernel
theorem dX12_span_48 : decode cX12_span 48 = .ok (.iload_n 1, 1) := by decide +kernel
theorem dX12_span_49 : decode cX12_span 49 = .ok (.imul, 1) := by decide +kernel
theorem dX12_span_50 : decode cX12_span 50 = .ok (.iadd, 1) := by decide +kernel
theorem dX12_span_51 : decode cX12_span 51 = .ok (.bipush 6, 2) := by decide +kernel
theorem dX12_span_53 : decode cX12_span 53 = .ok (.iadd, 1) := by decide +kernel
theorem dX12_span_54 : decode cX12_span 54 = .ok (.iload_n 2, 1) := by decide +kernel
theorem dX12_span_55 : decode cX12_span 55 = .ok (.iastore, 1) := by decide +kernel
theorem dX12_span_56 : decode cX12_span 56 = .ok (.aload_n 0, 1) := by decide +kernel
theorem dX12_span_57 : decode cX12_span 57 = .ok (.getfield 7, 3) := by decide +kernel
theorem dX12_span_60 : decode cX12_span 60 = .ok (.bipush 120, 2) := by decide +kernel
theorem dX12_span_62 : decode cX12_span 62 = .ok (.bipush 8, 2) := by decide +kernel
theorem dX12_span_64 : decode cX12_span 64 = .ok (.iload_n 1, 1) := by decide +kernel
theorem dX12_span_65 : decode cX12_span 65 = .ok (.imul, 1) := by decide +kernel
theorem dX12_span_66 : decode cX12_span 66 = .ok (.iadd, 1) := by decide +kernel
theorem dX12_span_67 : decode cX12_span 67 = .ok (.bipush 7, 2) := by decide +kernel
theorem dX12_span_69 : decode cX12_span 69 = .ok (.iadd, 1) := by decide +kernel
theorem dX12_span_70 : decode cX12_span 70 = .ok (.iload_n 2, 1) := by decide +kernel
theorem dX12_span_71 : decode cX12_span 71 = .ok (.iconst (-1), 1) := by decide +kernel
theorem dX12_span_72 : decode cX12_span 72 = .ok (.if_icmp .ne 7, 3) := by decide +kernel
theorem dX12_span_75 : decode cX12_span 75 = .ok (.iconst (-1), 1) := by decide +kernel
theorem dX12_span_76 : decode cX12_span 76 = .ok (.goto 4, 3) := by decide +kernel
theorem dX12_span_79 : decode cX12_span 79 = .ok (.iload_n 3, 1) := by decide +kernel
theorem dX12_span_80 : decode cX12_span 80 = .ok (.iastore, 1) := by decide +kernel
theorem dX12_span_81 : decode cX12_span 81 = .ok (.iconst 1, 1) := by decide +kernel
theorem dX12_span_82 : decode cX12_span 82 = .ok (.ireturn, 1) := by decide +kernel
theorem dX12_fits_0 : decode cX12_fits 0 = .ok (.iconst 1, 1) := by decide +kernel
theorem dX12_fits_1 : decode cX12_fits 1 = .ok (.istore_n 3, 1) := by decide +kernel
theorem dX12_fits_2 : decode cX12_fits 2 = .ok (.iconst 0, 1) := by decide +kernel
theorem dX12_fits_3 : decode cX12_fits 3 = .ok (.istore 4, 2) := by decide +kernel
theorem dX12_fits_5 : decode cX12_fits 5 = .ok (.iload 4, 2) := by decide +kernel
theorem dX12_fits_7 : decode cX12_fits 7 = .ok (.aload_n 0, 1) := by decide +kernel
theorem dX12_fits_8 : decode cX12_fits 8 = .ok (.getfield 7, 3) := by decide +kernel
theorem dX12_fits_11 : decode cX12_fits 11 = .ok (.iconst 1, 1) := by decide +kernel
theorem dX12_fits_12 : decode cX12_fits 12 = .ok (.iaload, 1) := by decide +kernel
theorem dX12_fits_13 : decode cX12_fits 13 = .ok (.if_icmp .ge 69, 3) := by decide +kernel
theorem dX12_fits_16 : decode cX12_fits 16 = .ok (.iload_n 3, 1) := by decide +kernel
theorem dX12_fits_17 : decode cX12_fits 17 = .ok (.ifCond .eq 65, 3) := by decide +kernel
theorem dX12_fits_20 : decode cX12_fits 20 = .ok (.aload_n 0, 1) := by decide +kernel
theorem dX12_fits_21 : decode cX12_fits 21 = .ok (.iload 4, 2) := by decide +kernel
theorem dX12_fits_23 : decode cX12_fits 23 = .ok (.invokevirtual 215, 3) := by decide +kernel
theorem dX12_fits_26 : decode cX12_fits 26 = .ok (.ifCond .eq 44, 3) := by decide +kernel
theorem dX12_fits_29 : decode cX12_fits 29 = .ok (.aload_n 0, 1) := by decide +kernel
theorem dX12_fits_30 : decode cX12_fits 30 = .ok (.iload 4, 2) := by decide +kernel
theorem dX12_fits_32 : decode cX12_fits 32 = .ok (.bipush 6, 2) := by decide +kernel
theorem dX12_fits_34 : decode cX12_fits 34 = .ok (.invokevirtual 83, 3) := by decide +kernel
theorem dX12_fits_37 : decode cX12_fits 37 = .ok (.ifCond .lt 33, 3) := by decide +kernel
theorem dX12_fits_40 : decode cX12_fits 40 = .ok (.aload_n 0, 1) := by decide +kernel
theorem dX12_fits_41 : decode cX12_fits 41 = .ok (.iload 4, 2) := by decide +kernel
theorem dX12_fits_43 : decode cX12_fits 43 = .ok (.iload_n 1, 1) := by decide +kernel
theorem dX12_fits_44 : decode cX12_fits 44 = .ok (.iload_n 2, 1) := by decide +kernel
theorem dX12_fits_45 : decode cX12_fits 45 = .ok (.invokevirtual 244, 3) := by decide +kernel
theorem dX12_fits_48 : decode cX12_fits 48 = .ok (.aload_n 0, 1) := by decide +kernel
theorem dX12_fits_49 : decode cX12_fits 49 = .ok (.iload 4, 2) := by decide +kernel
theorem dX12_fits_51 : decode cX12_fits 51 = .ok (.bipush 6, 2) := by decide +kernel
theorem dX12_fits_53 : decode cX12_fits 53 = .ok (.invokevirtual 83, 3) := by decide +kernel
theorem dX12_fits_56 : decode cX12_fits 56 = .ok (.aload_n 0, 1) := by decide +kernel
theorem dX12_fits_57 : decode cX12_fits 57 = .ok (.iload 4, 2) := by decide +kernel
theorem dX12_fits_59 : decode cX12_fits 59 = .ok (.bipush 7, 2) := by decide +kernel
theorem dX12_fits_61 : decode cX12_fits 61 = .ok (.invokevirtual 83, 3) := by decide +kernel
theorem dX12_fits_64 : decode cX12_fits 64 = .ok (.invokestatic 68, 3) := by decide +kernel
theorem dX12_fits_67 : decode cX12_fits 67 = .ok (.ifCond .eq 7, 3) := by decide +kernel
theorem dX12_fits_70 : decode cX12_fits 70 = .ok (.iconst 1, 1) := by decide +kernel
theorem dX12_fits_71 : decode cX12_fits 71 = .ok (.goto 4, 3) := by decide +kernel
theorem dX12_fits_74 : decode cX12_fits 74 = .ok (.iconst 0, 1) := by decide +kernel
theorem dX12_fits_75 : decode cX12_fits 75 = .ok (.istore_n 3, 1) := by decide +kernel
theorem dX12_fits_76 : decode cX12_fits 76 = .ok (.iinc 4 1, 3) := by decide +kernel
theorem dX12_fits_79 : decode cX12_fits 79 = .ok (.goto (-74), 3) := by decide +kernel
theorem dX12_fits_82 : decode cX12_fits 82 = .ok (.iload_n 3, 1) := by decide +kernel
theorem dX12_fits_83 : decode cX12_fits 83 = .ok (.ireturn, 1) := by decide +kernel
theorem dX12_places_0 : decode cX12_places 0 = .ok (.iconst 0, 1) := by decide +kernel
theorem dX12_places_1 : decode cX12_places 1 = .ok (.istore_n 1, 1) := by decide +kernel
theorem dX12_places_2 : decode cX12_places 2 = .ok (.iconst 0, 1) := by decide +kernel
theorem dX12_places_3 : decode cX12_places 3 = .ok (.istore_n 2, 1) := by decide +kernel
theorem dX12_places_4 : decode cX12_places 4 = .ok (.iload_n 2, 1) := by decide +kernel
theorem dX12_places_5 : decode cX12_places 5 = .ok (.sipush 441, 3) := by decide +kernel
theorem dX12_places_8 : decode cX12_places 8 = .ok (.if_icmp .ge 32, 3) := by decide +kernel
theorem dX12_places_11 : decode cX12_places 11 = .ok (.iload_n 1, 1) := by decide +kernel
theorem dX12_places_12 : decode cX12_places 12 = .ok (.aload_n 0, 1) := by decide +kernel
theorem dX12_places_13 : decode cX12_places 13 = .ok (.iload_n 2, 1) := by decide +kernel
theorem dX12_places_14 : decode cX12_places 14 = .ok (.bipush 21, 2) := by decide +kernel
theorem dX12_places_16 : decode cX12_places 16 = .ok (.irem, 1) := by decide +kernel
theorem dX12_places_17 : decode cX12_places 17 = .ok (.iload_n 2, 1) := by decide +kernel
theorem dX12_places_18 : decode cX12_places 18 = .ok (.bipush 21, 2) := by decide +kernel
theorem dX12_places_20 : decode cX12_places 20 = .ok (.idiv, 1) := by decide +kernel
theorem dX12_places_21 : decode cX12_places 21 = .ok (.invokevirtual 286, 3) := by decide +kernel
theorem dX12_places_24 : decode cX12_places 24 = .ok (.ifCond .eq 7, 3) := by decide +kernel
theorem dX12_places_27 : decode cX12_places 27 = .ok (.iconst 1, 1) := by decide +kernel
theorem dX12_places_28 : decode cX12_places 28 = .ok (.goto 4, 3) := by decide +kernel
theorem dX12_places_31 : decode cX12_places 31 = .ok (.iconst 0, 1) := by decide +kernel
theorem dX12_places_32 : decode cX12_places 32 = .ok (.iadd, 1) := by decide +kernel
theorem dX12_places_33 : decode cX12_places 33 = .ok (.istore_n 1, 1) := by decide +kernel
theorem dX12_places_34 : decode cX12_places 34 = .ok (.iinc 2 1, 3) := by decide +kernel
theorem dX12_places_37 : decode cX12_places 37 = .ok (.goto (-33), 3) := by decide +kernel
theorem dX12_places_40 : decode cX12_places 40 = .ok (.iload_n 1, 1) := by decide +kernel
theorem dX12_places_41 : decode cX12_places 41 = .ok (.ireturn, 1) := by decide +kernel
theorem dX12_place_0 : decode cX12_place 0 = .ok (.iconst 0, 1) := by decide +kernel
theorem dX12_place_1 : decode cX12_place 1 = .ok (.istore_n 2, 1) := by decide +kernel
theorem dX12_place_2 : decode cX12_place 2 = .ok (.iconst 0, 1) := by decide +kernel
theorem dX12_place_3 : decode cX12_place 3 = .ok (.istore_n 3, 1) := by decide +kernel
theorem dX12_place_4 : decode cX12_place 4 = .ok (.iload_n 3, 1) := by decide +kernel
theorem dX12_place_5 : decode cX12_place 5 = .ok (.sipush 441, 3) := by decide +kernel
theorem dX12_place_8 : decode cX12_place 8 = .ok (.if_icmp .ge 48, 3) := by decide +kernel
theorem dX12_place_11 : decode cX12_place 11 = .ok (.aload_n 0, 1) := by decide +kernel
theorem dX12_place_12 : decode cX12_place 12 = .ok (.iload_n 3, 1) := by decide +kernel
theorem dX12_place_13 : decode cX12_place 13 = .ok (.bipush 21, 2) := by decide +kernel
theorem dX12_place_15 : decode cX12_place 15 = .ok (.irem, 1) := by decide +kernel
theorem dX12_place_16 : decode cX12_place 16 = .ok (.iload_n 3, 1) := by decide +kernel
theorem dX12_place_17 : decode cX12_place 17 = .ok (.bipush 21, 2) := by decide +kernel
theorem dX12_place_19 : decode cX12_place 19 = .ok (.idiv, 1) := by decide +kernel
theorem dX12_place_20 : decode cX12_place 20 = .ok (.invokevirtual 286, 3) := by decide +kernel
theorem dX12_place_23 : decode cX12_place 23 = .ok (.ifCond .ne 6, 3) := by decide +kernel
theorem dX12_place_26 : decode cX12_place 26 = .ok (.goto 24, 3) := by decide +kernel
theorem dX12_place_29 : decode cX12_place 29 = .ok (.iload_n 2, 1) := by decide +kernel
theorem dX12_place_30 : decode cX12_place 30 = .ok (.iload_n 1, 1) := by decide +kernel
theorem dX12_place_31 : decode cX12_place 31 = .ok (.if_icmp .ne 16, 3) := by decide +kernel
theorem dX12_place_34 : decode cX12_place 34 = .ok (.bipush 100, 2) := by decide +kernel
theorem dX12_place_36 : decode cX12_place 36 = .ok (.iload_n 3, 1) := by decide +kernel
theorem dX12_place_37 : decode cX12_place 37 = .ok (.bipush 21, 2) := by decide +kernel
theorem dX12_place_39 : decode cX12_place 39 = .ok (.idiv, 1) := by decide +kernel
theorem dX12_place_40 : decode cX12_place 40 = .ok (.imul, 1) := by decide +kernel
theorem dX12_place_41 : decode cX12_place 41 = .ok (.iload_n 3, 1) := by decide +kernel
theorem dX12_place_42 : decode cX12_place 42 = .ok (.bipush 21, 2) := by decide +kernel
theorem dX12_place_44 : decode cX12_place 44 = .ok (.irem, 1) := by decide +kernel
theorem dX12_place_45 : decode cX12_place 45 = .ok (.iadd, 1) := by decide +kernel
theorem dX12_place_46 : decode cX12_place 46 = .ok (.ireturn, 1) := by decide +kernel
theorem dX12_place_47 : decode cX12_place 47 = .ok (.iinc 2 1, 3) := by decide +kernel
theorem dX12_place_50 : decode cX12_place 50 = .ok (.iinc 3 1, 3) := by decide +kernel
theorem dX12_place_53 : decode cX12_place 53 = .ok (.goto (-49), 3) := by decide +kernel
theorem dX12_place_56 : decode cX12_place 56 = .ok (.iconst (-1), 1) := by decide +kernel
theorem dX12_place_57 : decode cX12_place 57 = .ok (.ireturn, 1) := by decide +kernel
theorem dX12_echoes_0 : decode cX12_echoes 0 = .ok (.iconst 2, 1) := by decide +kernel
theorem dX12_echoes_1 : decode cX12_echoes 1 = .ok (.iload_n 3, 1) := by decide +kernel
theorem dX12_echoes_2 : decode cX12_echoes 2 = .ok (.imul, 1) := by decide +kernel
theorem dX12_echoes_3 : decode cX12_echoes 3 = .ok (.iload_n 0, 1) := by decide +kernel
theorem dX12_echoes_4 : decode cX12_echoes 4 = .ok (.isub, 1) := by decide +kernel
theorem dX12_echoes_5 : decode cX12_echoes 5 = .ok (.iload_n 1, 1) := by decide +kernel
theorem dX12_echoes_6 : decode cX12_echoes 6 = .ok (.isub, 1) := by decide +kernel
theorem dX12_echoes_7 : decode cX12_echoes 7 = .ok (.istore 5, 2) := by decide +kernel
theorem dX12_echoes_9 : decode cX12_echoes 9 = .ok (.iload_n 0, 1) := by decide +kernel
theorem dX12_echoes_10 : decode cX12_echoes 10 = .ok (.iload_n 3, 1) := by decide +kernel
theorem dX12_echoes_11 : decode cX12_echoes 11 = .ok (.if_icmp .ge 8, 3) := by decide +kernel
theorem dX12_echoes_14 : decode cX12_echoes 14 = .ok (.iload_n 1, 1) := by decide +kernel
theorem dX12_echoes_15 : decode cX12_echoes 15 = .ok (.iload_n 3, 1) := by decide +kernel
theorem dX12_echoes_16 : decode cX12_echoes 16 = .ok (.if_icmp .lt 13, 3) := by decide +kernel
theorem dX12_echoes_19 : decode cX12_echoes 19 = .ok (.iload_n 0, 1) := by decide +kernel
theorem dX12_echoes_20 : decode cX12_echoes 20 = .ok (.iload_n 3, 1) := by decide +kernel
theorem dX12_echoes_21 : decode cX12_echoes 21 = .ok (.if_icmp .le 26, 3) := by decide +kernel
theorem dX12_echoes_24 : decode cX12_echoes 24 = .ok (.iload_n 1, 1) := by decide +kernel
theorem dX12_echoes_25 : decode cX12_echoes 25 = .ok (.iload_n 3, 1) := by decide +kernel
theorem dX12_echoes_26 : decode cX12_echoes 26 = .ok (.if_icmp .le 21, 3) := by decide +kernel
theorem dX12_echoes_29 : decode cX12_echoes 29 = .ok (.iload 5, 2) := by decide +kernel
theorem dX12_echoes_31 : decode cX12_echoes 31 = .ok (.iload 5, 2) := by decide +kernel
theorem dX12_echoes_33 : decode cX12_echoes 33 = .ok (.imul, 1) := by decide +kernel
theorem dX12_echoes_34 : decode cX12_echoes 34 = .ok (.iload_n 2, 1) := by decide +kernel
theorem dX12_echoes_35 : decode cX12_echoes 35 = .ok (.iload_n 2, 1) := by decide +kernel
theorem dX12_echoes_36 : decode cX12_echoes 36 = .ok (.imul, 1) := by decide +kernel
theorem dX12_echoes_37 : decode cX12_echoes 37 = .ok (.iadd, 1) := by decide +kernel
theorem dX12_echoes_38 : decode cX12_echoes 38 = .ok (.iload 4, 2) := by decide +kernel
theorem dX12_echoes_40 : decode cX12_echoes 40 = .ok (.if_icmp .ne 7, 3) := by decide +kernel
theorem dX12_echoes_43 : decode cX12_echoes 43 = .ok (.iconst 1, 1) := by decide +kernel
theorem dX12_echoes_44 : decode cX12_echoes 44 = .ok (.goto 4, 3) := by decide +kernel
theorem dX12_echoes_47 : decode cX12_echoes 47 = .ok (.iconst 0, 1) := by decide +kernel
theorem dX12_echoes_48 : decode cX12_echoes 48 = .ok (.ireturn, 1) := by decide +kernel
theorem dX12_echo_0 : decode cX12_echo 0 = .ok (.aload_n 0, 1) := by decide +kernel
theorem dX12_echo_1 : decode cX12_echo 1 = .ok (.iload_n 1, 1) := by decide +kernel
theorem dX12_echo_2 : decode cX12_echo 2 = .ok (.invokevirtual 215, 3) := by decide +kernel
theorem dX12_echo_5 : decode cX12_echo 5 = .ok (.ifCond .eq 11, 3) := by decide +kernel
theorem dX12_echo_8 : decode cX12_echo 8 = .ok (.iload_n 2, 1) := by decide +kernel
theorem dX12_echo_9 : decode cX12_echo 9 = .ok (.iload_n 3, 1) := by decide +kernel
theorem dX12_echo_10 : decode cX12_echo 10 = .ok (.invokestatic 218, 3) := by decide +kernel
theorem dX12_echo_13 : decode cX12_echo 13 = .ok (.ifCond .ne 5, 3) := by decide +kernel
theorem dX12_echo_16 : decode cX12_echo 16 = .ok (.iconst (-1), 1) := by decide +kernel
theorem dX12_echo_17 : decode cX12_echo 17 = .ok (.ireturn, 1) := by decide +kernel
theorem dX12_echo_18 : decode cX12_echo 18 = .ok (.aload_n 0, 1) := by decide +kernel
theorem dX12_echo_19 : decode cX12_echo 19 = .ok (.iload_n 1, 1) := by decide +kernel
theorem dX12_echo_20 : decode cX12_echo 20 = .ok (.iconst 0, 1) := by decide +kernel
theorem dX12_echo_21 : decode cX12_echo 21 = .ok (.invokevirtual 83, 3) := by decide +kernel
theorem dX12_echo_24 : decode cX12_echo 24 = .ok (.istore 6, 2) := by decide +kernel
theorem dX12_echo_26 : decode cX12_echo 26 = .ok (.aload_n 0, 1) := by decide +kernel
theorem dX12_echo_27 : decode cX12_echo 27 = .ok (.iload_n 1, 1) := by decide +kernel
theorem dX12_echo_28 : decode cX12_echo 28 = .ok (.iconst 1, 1) := by decide +kernel
theorem dX12_echo_29 : decode cX12_echo 29 = .ok (.invokevirtual 83, 3) := by decide +kernel
theorem dX12_echo_32 : decode cX12_echo 32 = .ok (.istore 7, 2) := by decide +kernel
theorem dX12_echo_34 : decode cX12_echo 34 = .ok (.iconst 0, 1) := by decide +kernel
theorem dX12_echo_35 : decode cX12_echo 35 = .ok (.istore 8, 2) := by decide +kernel
theorem dX12_echo_37 : decode cX12_echo 37 = .ok (.iconst 0, 1) := by decide +kernel
theorem dX12_echo_38 : decode cX12_echo 38 = .ok (.istore 9, 2) := by decide +kernel
theorem dX12_echo_40 : decode cX12_echo 40 = .ok (.iload 9, 2) := by decide +kernel
theorem dX12_echo_42 : decode cX12_echo 42 = .ok (.bipush 42, 2) := by decide +kernel
theorem dX12_echo_44 : decode cX12_echo 44 = .ok (.if_icmp .ge 88, 3) := by decide +kernel
theorem dX12_echo_47 : decode cX12_echo 47 = .ok (.iload 9, 2) := by decide +kernel
theorem dX12_echo_49 : decode cX12_echo 49 = .ok (.bipush 21, 2) := by decide +kernel
theorem dX12_echo_51 : decode cX12_echo 51 = .ok (.if_icmp .ge 20, 3) := by decide +kernel
theorem dX12_echo_54 : decode cX12_echo 54 = .ok (.iload 6, 2) := by decide +kernel
theorem dX12_echo_56 : decode cX12_echo 56 = .ok (.iload_n 2, 1) := by decide +kernel
theorem dX12_echo_57 : decode cX12_echo 57 = .ok (.iload 7, 2) := by decide +kernel
theorem dX12_echo_59 : decode cX12_echo 59 = .ok (.iload_n 3, 1) := by decide +kernel
theorem dX12_echo_60 : decode cX12_echo 60 = .ok (.isub, 1) := by decide +kernel
theorem dX12_echo_61 : decode cX12_echo 61 = .ok (.iload 9, 2) := by decide +kernel
theorem dX12_echo_63 : decode cX12_echo 63 = .ok (.iload 4, 2) := by decide +kernel
theorem dX12_echo_65 : decode cX12_echo 65 = .ok (.invokestatic 289, 3) := by decide +kernel
theorem dX12_echo_68 : decode cX12_echo 68 = .ok (.goto 20, 3) := by decide +kernel
theorem dX12_echo_71 : decode cX12_echo 71 = .ok (.iload 7, 2) := by decide +kernel
theorem dX12_echo_73 : decode cX12_echo 73 = .ok (.iload_n 3, 1) := by decide +kernel
theorem dX12_echo_74 : decode cX12_echo 74 = .ok (.iload 6, 2) := by decide +kernel
theorem dX12_echo_76 : decode cX12_echo 76 = .ok (.iload_n 2, 1) := by decide +kernel
theorem dX12_echo_77 : decode cX12_echo 77 = .ok (.isub, 1) := by decide +kernel
theorem dX12_echo_78 : decode cX12_echo 78 = .ok (.iload 9, 2) := by decide +kernel
theorem dX12_echo_80 : decode cX12_echo 80 = .ok (.bipush 21, 2) := by decide +kernel
theorem dX12_echo_82 : decode cX12_echo 82 = .ok (.isub, 1) := by decide +kernel
theorem dX12_echo_83 : decode cX12_echo 83 = .ok (.iload 4, 2) := by decide +kernel
theorem dX12_echo_85 : decode cX12_echo 85 = .ok (.invokestatic 289, 3) := by decide +kernel
theorem dX12_echo_88 : decode cX12_echo 88 = .ok (.istore 10, 2) := by decide +kernel
theorem dX12_echo_90 : decode cX12_echo 90 = .ok (.iload 10, 2) := by decide +kernel
theorem dX12_echo_92 : decode cX12_echo 92 = .ok (.ifCond .ne 6, 3) := by decide +kernel
theorem dX12_echo_95 : decode cX12_echo 95 = .ok (.goto 31, 3) := by decide +kernel
theorem dX12_echo_98 : decode cX12_echo 98 = .ok (.iload 8, 2) := by decide +kernel
theorem dX12_echo_100 : decode cX12_echo 100 = .ok (.iload 5, 2) := by decide +kernel
theorem dX12_echo_102 : decode cX12_echo 102 = .ok (.if_icmp .ne 21, 3) := by decide +kernel
theorem dX12_echo_105 : decode cX12_echo 105 = .ok (.iload 9, 2) := by decide +kernel
theorem dX12_echo_107 : decode cX12_echo 107 = .ok (.bipush 21, 2) := by decide +kernel
theorem dX12_echo_109 : decode cX12_echo 109 = .ok (.if_icmp .ge 8, 3) := by decide +kernel
theorem dX12_echo_112 : decode cX12_echo 112 = .ok (.iload 9, 2) := by decide +kernel
theorem dX12_echo_114 : decode cX12_echo 114 = .ok (.goto 8, 3) := by decide +kernel
theorem dX12_echo_117 : decode cX12_echo 117 = .ok (.bipush 79, 2) := by decide +kernel
theorem dX12_echo_119 : decode cX12_echo 119 = .ok (.iload 9, 2) := by decide +kernel
theorem dX12_echo_121 : decode cX12_echo 121 = .ok (.iadd, 1) := by decide +kernel
theorem dX12_echo_122 : decode cX12_echo 122 = .ok (.ireturn, 1) := by decide +kernel
theorem dX12_echo_123 : decode cX12_echo 123 = .ok (.iinc 8 1, 3) := by decide +kernel
theorem dX12_echo_126 : decode cX12_echo 126 = .ok (.iinc 9 1, 3) := by decide +kernel
theorem dX12_echo_129 : decode cX12_echo 129 = .ok (.goto (-89), 3) := by decide +kernel
theorem dX12_echo_132 : decode cX12_echo 132 = .ok (.iconst (-1), 1) := by decide +kernel
theorem dX12_echo_133 : decode cX12_echo 133 = .ok (.ireturn, 1) := by decide +kernel
theorem dX12_feed_0 : decode cX12_feed 0 = .ok (.aload_n 0, 1) := by decide +kernel
theorem dX12_feed_1 : decode cX12_feed 1 = .ok (.getfield 7, 3) := by decide +kernel
theorem dX12_feed_4 : decode cX12_feed 4 = .ok (.bipush 8, 2) := by decide +kernel
theorem dX12_feed_6 : decode cX12_feed 6 = .ok (.iaload, 1) := by decide +kernel
theorem dX12_feed_7 : decode cX12_feed 7 = .ok (.bipush 20, 2) := by decide +kernel
theorem dX12_feed_9 : decode cX12_feed 9 = .ok (.iadd, 1) := by decide +kernel
theorem dX12_feed_10 : decode cX12_feed 10 = .ok (.sipush 500, 3) := by decide +kernel
theorem dX12_feed_13 : decode cX12_feed 13 = .ok (.if_icmp .le 5, 3) := by decide +kernel
theorem dX12_feed_16 : decode cX12_feed 16 = .ok (.iconst (-1), 1) := by decide +kernel
theorem dX12_feed_17 : decode cX12_feed 17 = .ok (.ireturn, 1) := by decide +kernel
theorem dX12_feed_18 : decode cX12_feed 18 = .ok (.iconst 0, 1) := by decide +kernel
theorem dX12_feed_19 : decode cX12_feed 19 = .ok (.istore 6, 2) := by decide +kernel
theorem dX12_feed_21 : decode cX12_feed 21 = .ok (.iload 6, 2) := by decide +kernel
theorem dX12_feed_23 : decode cX12_feed 23 = .ok (.bipush 20, 2) := by decide +kernel
theorem dX12_feed_25 : decode cX12_feed 25 = .ok (.if_icmp .ge 101, 3) := by decide +kernel
theorem dX12_feed_28 : decode cX12_feed 28 = .ok (.iload 6, 2) := by decide +kernel
theorem dX12_feed_30 : decode cX12_feed 30 = .ok (.iconst 4, 1) := by decide +kernel
theorem dX12_feed_31 : decode cX12_feed 31 = .ok (.if_icmp .ge 7, 3) := by decide +kernel
theorem dX12_feed_34 : decode cX12_feed 34 = .ok (.iload_n 1, 1) := by decide +kernel
theorem dX12_feed_35 : decode cX12_feed 35 = .ok (.goto 39, 3) := by decide +kernel
theorem dX12_feed_38 : decode cX12_feed 38 = .ok (.iload 6, 2) := by decide +kernel
theorem dX12_feed_40 : decode cX12_feed 40 = .ok (.bipush 8, 2) := by decide +kernel
theorem dX12_feed_42 : decode cX12_feed 42 = .ok (.if_icmp .ge 7, 3) := by decide +kernel
theorem dX12_feed_45 : decode cX12_feed 45 = .ok (.iload_n 2, 1) := by decide +kernel
theorem dX12_feed_46 : decode cX12_feed 46 = .ok (.goto 28, 3) := by decide +kernel
theorem dX12_feed_49 : decode cX12_feed 49 = .ok (.iload 6, 2) := by decide +kernel
theorem dX12_feed_51 : decode cX12_feed 51 = .ok (.bipush 12, 2) := by decide +kernel
theorem dX12_feed_53 : decode cX12_feed 53 = .ok (.if_icmp .ge 7, 3) := by decide +kernel
theorem dX12_feed_56 : decode cX12_feed 56 = .ok (.iload_n 3, 1) := by decide +kernel
theorem dX12_feed_57 : decode cX12_feed 57 = .ok (.goto 17, 3) := by decide +kernel
theorem dX12_feed_60 : decode cX12_feed 60 = .ok (.iload 6, 2) := by decide +kernel
theorem dX12_feed_62 : decode cX12_feed 62 = .ok (.bipush 16, 2) := by decide +kernel
theorem dX12_feed_64 : decode cX12_feed 64 = .ok (.if_icmp .ge 8, 3) := by decide +kernel
theorem dX12_feed_67 : decode cX12_feed 67 = .ok (.iload 4, 2) := by decide +kernel
theorem dX12_feed_69 : decode cX12_feed 69 = .ok (.goto 5, 3) := by decide +kernel
theorem dX12_feed_72 : decode cX12_feed 72 = .ok (.iload 5, 2) := by decide +kernel
theorem dX12_feed_74 : decode cX12_feed 74 = .ok (.istore 7, 2) := by decide +kernel
theorem dX12_feed_76 : decode cX12_feed 76 = .ok (.aload_n 0, 1) := by decide +kernel
theorem dX12_feed_77 : decode cX12_feed 77 = .ok (.getfield 7, 3) := by decide +kernel
theorem dX12_feed_80 : decode cX12_feed 80 = .ok (.sipush 660, 3) := by decide +kernel
theorem dX12_feed_83 : decode cX12_feed 83 = .ok (.aload_n 0, 1) := by decide +kernel
theorem dX12_feed_84 : decode cX12_feed 84 = .ok (.getfield 7, 3) := by decide +kernel
theorem dX12_feed_87 : decode cX12_feed 87 = .ok (.bipush 8, 2) := by decide +kernel
theorem dX12_feed_89 : decode cX12_feed 89 = .ok (.iaload, 1) := by decide +kernel
theorem dX12_feed_90 : decode cX12_feed 90 = .ok (.iadd, 1) := by decide +kernel
theorem dX12_feed_91 : decode cX12_feed 91 = .ok (.iload 7, 2) := by decide +kernel
theorem dX12_feed_93 : decode cX12_feed 93 = .ok (.bipush 24, 2) := by decide +kernel
theorem dX12_feed_95 : decode cX12_feed 95 = .ok (.bipush 8, 2) := by decide +kernel
theorem dX12_feed_97 : decode cX12_feed 97 = .ok (.iload 6, 2) := by decide +kernel
theorem dX12_feed_99 : decode cX12_feed 99 = .ok (.iconst 4, 1) := by decide +kernel
theorem dX12_feed_100 : decode cX12_feed 100 = .ok (.irem, 1) := by decide +kernel
theorem dX12_feed_101 : decode cX12_feed 101 = .ok (.imul, 1) := by decide +kernel
theorem dX12_feed_102 : decode cX12_feed 102 = .ok (.isub, 1) := by decide +kernel
theorem dX12_feed_103 : decode cX12_feed 103 = .ok (.ishr, 1) := by decide +kernel
theorem dX12_feed_104 : decode cX12_feed 104 = .ok (.sipush 255, 3) := by decide +kernel
theorem dX12_feed_107 : decode cX12_feed 107 = .ok (.iand, 1) := by decide +kernel
theorem dX12_feed_108 : decode cX12_feed 108 = .ok (.iastore, 1) := by decide +kernel
theorem dX12_feed_109 : decode cX12_feed 109 = .ok (.aload_n 0, 1) := by decide +kernel
theorem dX12_feed_110 : decode cX12_feed 110 = .ok (.getfield 7, 3) := by decide +kernel
theorem dX12_feed_113 : decode cX12_feed 113 = .ok (.bipush 8, 2) := by decide +kernel
theorem dX12_feed_115 : decode cX12_feed 115 = .ok (.dup2, 1) := by decide +kernel
theorem dX12_feed_116 : decode cX12_feed 116 = .ok (.iaload, 1) := by decide +kernel
theorem dX12_feed_117 : decode cX12_feed 117 = .ok (.iconst 1, 1) := by decide +kernel
theorem dX12_feed_118 : decode cX12_feed 118 = .ok (.iadd, 1) := by decide +kernel
theorem dX12_feed_119 : decode cX12_feed 119 = .ok (.iastore, 1) := by decide +kernel
theorem dX12_feed_120 : decode cX12_feed 120 = .ok (.iinc 6 1, 3) := by decide +kernel
theorem dX12_feed_123 : decode cX12_feed 123 = .ok (.goto (-102), 3) := by decide +kernel
theorem dX12_feed_126 : decode cX12_feed 126 = .ok (.aload_n 0, 1) := by decide +kernel
theorem dX12_feed_127 : decode cX12_feed 127 = .ok (.getfield 7, 3) := by decide +kernel
theorem dX12_feed_130 : decode cX12_feed 130 = .ok (.bipush 8, 2) := by decide +kernel
theorem dX12_feed_132 : decode cX12_feed 132 = .ok (.iaload, 1) := by decide +kernel
theorem dX12_feed_133 : decode cX12_feed 133 = .ok (.ireturn, 1) := by decide +kernel
theorem dX12_end_0 : decode cX12_end 0 = .ok (.iload_n 1, 1) := by decide +kernel
theorem dX12_end_1 : decode cX12_end 1 = .ok (.ifCond .lt 14, 3) := by decide +kernel
theorem dX12_end_4 : decode cX12_end 4 = .ok (.iload_n 1, 1) := by decide +kernel
theorem dX12_end_5 : decode cX12_end 5 = .ok (.aload_n 0, 1) := by decide +kernel
theorem dX12_end_6 : decode cX12_end 6 = .ok (.getfield 7, 3) := by decide +kernel
theorem dX12_end_9 : decode cX12_end 9 = .ok (.bipush 8, 2) := by decide +kernel
theorem dX12_end_11 : decode cX12_end 11 = .ok (.iaload, 1) := by decide +kernel
theorem dX12_end_12 : decode cX12_end 12 = .ok (.if_icmp .le 5, 3) := by decide +kernel
theorem dX12_end_15 : decode cX12_end 15 = .ok (.iconst (-1), 1) := by decide +kernel
theorem dX12_end_16 : decode cX12_end 16 = .ok (.ireturn, 1) := by decide +kernel
theorem dX12_end_17 : decode cX12_end 17 = .ok (.aload_n 0, 1) := by decide +kernel
theorem dX12_end_18 : decode cX12_end 18 = .ok (.getfield 7, 3) := by decide +kernel
theorem dX12_end_21 : decode cX12_end 21 = .ok (.bipush 8, 2) := by decide +kernel
theorem dX12_end_23 : decode cX12_end 23 = .ok (.iload_n 1, 1) := by decide +kernel
theorem dX12_end_24 : decode cX12_end 24 = .ok (.iastore, 1) := by decide +kernel
theorem dX12_end_25 : decode cX12_end 25 = .ok (.iload_n 1, 1) := by decide +kernel
theorem dX12_end_26 : decode cX12_end 26 = .ok (.ireturn, 1) := by decide +kernel
theorem dX12_byteAt_0 : decode cX12_byteAt 0 = .ok (.iload_n 1, 1) := by decide +kernel
theorem dX12_byteAt_1 : decode cX12_byteAt 1 = .ok (.aload_n 0, 1) := by decide +kernel
theorem dX12_byteAt_2 : decode cX12_byteAt 2 = .ok (.getfield 293, 3) := by decide +kernel
theorem dX12_byteAt_5 : decode cX12_byteAt 5 = .ok (.if_icmp .ge 16, 3) := by decide +kernel
theorem dX12_byteAt_8 : decode cX12_byteAt 8 = .ok (.aload_n 0, 1) := by decide +kernel
theorem dX12_byteAt_9 : decode cX12_byteAt 9 = .ok (.getfield 7, 3) := by decide +kernel
theorem dX12_byteAt_12 : decode cX12_byteAt 12 = .ok (.sipush 660, 3) := by decide +kernel
theorem dX12_byteAt_15 : decode cX12_byteAt 15 = .ok (.iload_n 1, 1) := by decide +kernel
theorem dX12_byteAt_16 : decode cX12_byteAt 16 = .ok (.iadd, 1) := by decide +kernel
theorem dX12_byteAt_17 : decode cX12_byteAt 17 = .ok (.iaload, 1) := by decide +kernel
theorem dX12_byteAt_18 : decode cX12_byteAt 18 = .ok (.goto 4, 3) := by decide +kernel
theorem dX12_byteAt_21 : decode cX12_byteAt 21 = .ok (.iconst (-1), 1) := by decide +kernel
theorem dX12_byteAt_22 : decode cX12_byteAt 22 = .ok (.ireturn, 1) := by decide +kernel
theorem dX12_isLetter_0 : decode cX12_isLetter 0 = .ok (.iload_n 0, 1) := by decide +kernel
theorem dX12_isLetter_1 : decode cX12_isLetter 1 = .ok (.bipush 97, 2) := by decide +kernel
theorem dX12_isLetter_3 : decode cX12_isLetter 3 = .ok (.if_icmp .lt 13, 3) := by decide +kernel
theorem dX12_isLetter_6 : decode cX12_isLetter 6 = .ok (.iload_n 0, 1) := by decide +kernel
theorem dX12_isLetter_7 : decode cX12_isLetter 7 = .ok (.bipush 122, 2) := by decide +kernel
theorem dX12_isLetter_9 : decode cX12_isLetter 9 = .ok (.if_icmp .gt 7, 3) := by decide +kernel
theorem dX12_isLetter_12 : decode cX12_isLetter 12 = .ok (.iconst 1, 1) := by decide +kernel
theorem dX12_isLetter_13 : decode cX12_isLetter 13 = .ok (.goto 4, 3) := by decide +kernel
theorem dX12_isLetter_16 : decode cX12_isLetter 16 = .ok (.iconst 0, 1) := by decide +kernel
theorem dX12_isLetter_17 : decode cX12_isLetter 17 = .ok (.ireturn, 1) := by decide +kernel
theorem dX12_isDigit_0 : decode cX12_isDigit 0 = .ok (.iload_n 0, 1) := by decide +kernel
theorem dX12_isDigit_1 : decode cX12_isDigit 1 = .ok (.bipush 48, 2) := by decide +kernel
theorem dX12_isDigit_3 : decode cX12_isDigit 3 = .ok (.if_icmp .lt 13, 3) := by decide +kernel
theorem dX12_isDigit_6 : decode cX12_isDigit 6 = .ok (.iload_n 0, 1) := by decide +kernel
theorem dX12_isDigit_7 : decode cX12_isDigit 7 = .ok (.bipush 57, 2) := by decide +kernel
theorem dX12_isDigit_9 : decode cX12_isDigit 9 = .ok (.if_icmp .gt 7, 3) := by decide +kernel
theorem dX12_isDigit_12 : decode cX12_isDigit 12 = .ok (.iconst 1, 1) := by decide +kernel
theorem dX12_isDigit_13 : decode cX12_isDigit 13 = .ok (.goto 4, 3) := by decide +kernel
theorem dX12_isDigit_16 : decode cX12_isDigit 16 = .ok (.iconst 0, 1) := by decide +kernel
theorem dX12_isDigit_17 : decode cX12_isDigit 17 = .ok (.ireturn, 1) := by decide +kernel
theorem dX12_three_0 : decode cX12_three 0 = .ok (.ldc2_w 296, 3) := by decide +kernel
theorem dX12_three_3 : decode cX12_three 3 = .ok (.iload_n 0, 1) := by decide +kernel
theorem dX12_three_4 : decode cX12_three 4 = .ok (.bipush 96, 2) := by decide +kernel
theorem dX12_three_6 : decode cX12_three 6 = .ok (.isub, 1) := by decide +kernel
theorem dX12_three_7 : decode cX12_three 7 = .ok (.i2l, 1) := by decide +kernel
theorem dX12_three_8 : decode cX12_three 8 = .ok (.lmul, 1) := by decide +kernel
theorem dX12_three_9 : decode cX12_three 9 = .ok (.iload_n 1, 1) := by decide +kernel
theorem dX12_three_10 : decode cX12_three 10 = .ok (.i2l, 1) := by decide +kernel
theorem dX12_three_11 : decode cX12_three 11 = .ok (.ladd, 1) := by decide +kernel
theorem dX12_three_12 : decode cX12_three 12 = .ok (.ldc2_w 298, 3) := by decide +kernel
theorem dX12_three_15 : decode cX12_three 15 = .ok (.lsub, 1) := by decide +kernel
theorem dX12_three_16 : decode cX12_three 16 = .ok (.ldc2_w 296, 3) := by decide +kernel
theorem dX12_three_19 : decode cX12_three 19 = .ok (.lmul, 1) := by decide +kernel
theorem dX12_three_20 : decode cX12_three 20 = .ok (.iload_n 2, 1) := by decide +kernel
theorem dX12_three_21 : decode cX12_three 21 = .ok (.i2l, 1) := by decide +kernel
theorem dX12_three_22 : decode cX12_three 22 = .ok (.ladd, 1) := by decide +kernel
theorem dX12_three_23 : decode cX12_three 23 = .ok (.ldc2_w 298, 3) := by decide +kernel
theorem dX12_three_26 : decode cX12_three 26 = .ok (.lsub, 1) := by decide +kernel
theorem dX12_three_27 : decode cX12_three 27 = .ok (.lreturn, 1) := by decide +kernel
theorem dX12_four_0 : decode cX12_four 0 = .ok (.iload_n 0, 1) := by decide +kernel
theorem dX12_four_1 : decode cX12_four 1 = .ok (.iload_n 1, 1) := by decide +kernel
theorem dX12_four_2 : decode cX12_four 2 = .ok (.iload_n 2, 1) := by decide +kernel
theorem dX12_four_3 : decode cX12_four 3 = .ok (.invokestatic 300, 3) := by decide +kernel
theorem dX12_four_6 : decode cX12_four 6 = .ok (.ldc2_w 296, 3) := by decide +kernel
theorem dX12_four_9 : decode cX12_four 9 = .ok (.lmul, 1) := by decide +kernel
theorem dX12_four_10 : decode cX12_four 10 = .ok (.iload_n 3, 1) := by decide +kernel
theorem dX12_four_11 : decode cX12_four 11 = .ok (.i2l, 1) := by decide +kernel
theorem dX12_four_12 : decode cX12_four 12 = .ok (.ladd, 1) := by decide +kernel
theorem dX12_four_13 : decode cX12_four 13 = .ok (.ldc2_w 298, 3) := by decide +kernel
theorem dX12_four_16 : decode cX12_four 16 = .ok (.lsub, 1) := by decide +kernel
theorem dX12_four_17 : decode cX12_four 17 = .ok (.lreturn, 1) := by decide +kernel
theorem dX12_wordOf_0 : decode cX12_wordOf 0 = .ok (.lload_n 0, 1) := by decide +kernel
theorem dX12_wordOf_1 : decode cX12_wordOf 1 = .ok (.bipush 119, 2) := by decide +kernel
theorem dX12_wordOf_3 : decode cX12_wordOf 3 = .ok (.bipush 97, 2) := by decide +kernel
theorem dX12_wordOf_5 : decode cX12_wordOf 5 = .ok (.bipush 108, 2) := by decide +kernel
theorem dX12_wordOf_7 : decode cX12_wordOf 7 = .ok (.bipush 108, 2) := by decide +kernel
theorem dX12_wordOf_9 : decode cX12_wordOf 9 = .ok (.invokestatic 304, 3) := by decide +kernel
theorem dX12_wordOf_12 : decode cX12_wordOf 12 = .ok (.lcmp, 1) := by decide +kernel
theorem dX12_wordOf_13 : decode cX12_wordOf 13 = .ok (.ifCond .ne 5, 3) := by decide +kernel
theorem dX12_wordOf_16 : decode cX12_wordOf 16 = .ok (.iconst 1, 1) := by decide +kernel
theorem dX12_wordOf_17 : decode cX12_wordOf 17 = .ok (.ireturn, 1) := by decide +kernel
theorem dX12_wordOf_18 : decode cX12_wordOf 18 = .ok (.lload_n 0, 1) := by decide +kernel
theorem dX12_wordOf_19 : decode cX12_wordOf 19 = .ok (.bipush 115, 2) := by decide +kernel
theorem dX12_wordOf_21 : decode cX12_wordOf 21 = .ok (.bipush 101, 2) := by decide +kernel
theorem dX12_wordOf_23 : decode cX12_wordOf 23 = .ok (.bipush 110, 2) := by decide +kernel
theorem dX12_wordOf_25 : decode cX12_wordOf 25 = .ok (.invokestatic 300, 3) := by decide +kernel
theorem dX12_wordOf_28 : decode cX12_wordOf 28 = .ok (.ldc2_w 308, 3) := by decide +kernel
theorem dX12_wordOf_31 : decode cX12_wordOf 31 = .ok (.lmul, 1) := by decide +kernel
theorem dX12_wordOf_32 : decode cX12_wordOf 32 = .ok (.bipush 100, 2) := by decide +kernel
theorem dX12_wordOf_34 : decode cX12_wordOf 34 = .ok (.bipush 101, 2) := by decide +kernel
theorem dX12_wordOf_36 : decode cX12_wordOf 36 = .ok (.bipush 114, 2) := by decide +kernel
theorem dX12_wordOf_38 : decode cX12_wordOf 38 = .ok (.invokestatic 300, 3) := by decide +kernel
theorem dX12_wordOf_41 : decode cX12_wordOf 41 = .ok (.ladd, 1) := by decide +kernel
theorem dX12_wordOf_42 : decode cX12_wordOf 42 = .ok (.lcmp, 1) := by decide +kernel
theorem dX12_wordOf_43 : decode cX12_wordOf 43 = .ok (.ifCond .ne 5, 3) := by decide +kernel
theorem dX12_wordOf_46 : decode cX12_wordOf 46 = .ok (.iconst 2, 1) := by decide +kernel
theorem dX12_wordOf_47 : decode cX12_wordOf 47 = .ok (.ireturn, 1) := by decide +kernel
theorem dX12_wordOf_48 : decode cX12_wordOf 48 = .ok (.lload_n 0, 1) := by decide +kernel
theorem dX12_wordOf_49 : decode cX12_wordOf 49 = .ok (.bipush 110, 2) := by decide +kernel
theorem dX12_wordOf_51 : decode cX12_wordOf 51 = .ok (.bipush 101, 2) := by decide +kernel
theorem dX12_wordOf_53 : decode cX12_wordOf 53 = .ok (.bipush 101, 2) := by decide +kernel
theorem dX12_wordOf_55 : decode cX12_wordOf 55 = .ok (.bipush 100, 2) := by decide +kernel
theorem dX12_wordOf_57 : decode cX12_wordOf 57 = .ok (.invokestatic 304, 3) := by decide +kernel
theorem dX12_wordOf_60 : decode cX12_wordOf 60 = .ok (.lcmp, 1) := by decide +kernel
theorem dX12_wordOf_61 : decode cX12_wordOf 61 = .ok (.ifCond .ne 5, 3) := by decide +kernel
theorem dX12_wordOf_64 : decode cX12_wordOf 64 = .ok (.iconst 3, 1) := by decide +kernel
theorem dX12_wordOf_65 : decode cX12_wordOf 65 = .ok (.ireturn, 1) := by decide +kernel
theorem dX12_wordOf_66 : decode cX12_wordOf 66 = .ok (.lload_n 0, 1) := by decide +kernel
theorem dX12_wordOf_67 : decode cX12_wordOf 67 = .ok (.bipush 115, 2) := by decide +kernel
theorem dX12_wordOf_69 : decode cX12_wordOf 69 = .ok (.bipush 105, 2) := by decide +kernel
theorem dX12_wordOf_71 : decode cX12_wordOf 71 = .ok (.bipush 116, 2) := by decide +kernel
theorem dX12_wordOf_73 : decode cX12_wordOf 73 = .ok (.bipush 101, 2) := by decide +kernel
theorem dX12_wordOf_75 : decode cX12_wordOf 75 = .ok (.invokestatic 304, 3) := by decide +kernel
theorem dX12_wordOf_78 : decode cX12_wordOf 78 = .ok (.lcmp, 1) := by decide +kernel
theorem dX12_wordOf_79 : decode cX12_wordOf 79 = .ok (.ifCond .ne 5, 3) := by decide +kernel
theorem dX12_wordOf_82 : decode cX12_wordOf 82 = .ok (.iconst 4, 1) := by decide +kernel
theorem dX12_wordOf_83 : decode cX12_wordOf 83 = .ok (.ireturn, 1) := by decide +kernel
theorem dX12_wordOf_84 : decode cX12_wordOf 84 = .ok (.lload_n 0, 1) := by decide +kernel
theorem dX12_wordOf_85 : decode cX12_wordOf 85 = .ok (.bipush 97, 2) := by decide +kernel
theorem dX12_wordOf_87 : decode cX12_wordOf 87 = .ok (.bipush 108, 2) := by decide +kernel
theorem dX12_wordOf_89 : decode cX12_wordOf 89 = .ok (.bipush 111, 2) := by decide +kernel
theorem dX12_wordOf_91 : decode cX12_wordOf 91 = .ok (.bipush 110, 2) := by decide +kernel
theorem dX12_wordOf_93 : decode cX12_wordOf 93 = .ok (.invokestatic 304, 3) := by decide +kernel
theorem dX12_wordOf_96 : decode cX12_wordOf 96 = .ok (.ldc2_w 296, 3) := by decide +kernel
theorem dX12_wordOf_99 : decode cX12_wordOf 99 = .ok (.lmul, 1) := by decide +kernel
theorem dX12_wordOf_100 : decode cX12_wordOf 100 = .ok (.ldc2_w 310, 3) := by decide +kernel
theorem dX12_wordOf_103 : decode cX12_wordOf 103 = .ok (.ladd, 1) := by decide +kernel
theorem dX12_wordOf_104 : decode cX12_wordOf 104 = .ok (.ldc2_w 298, 3) := by decide +kernel
theorem dX12_wordOf_107 : decode cX12_wordOf 107 = .ok (.lsub, 1) := by decide +kernel
theorem dX12_wordOf_108 : decode cX12_wordOf 108 = .ok (.lcmp, 1) := by decide +kernel
theorem dX12_wordOf_109 : decode cX12_wordOf 109 = .ok (.ifCond .ne 6, 3) := by decide +kernel
theorem dX12_wordOf_112 : decode cX12_wordOf 112 = .ok (.bipush 10, 2) := by decide +kernel
theorem dX12_wordOf_114 : decode cX12_wordOf 114 = .ok (.ireturn, 1) := by decide +kernel
theorem dX12_wordOf_115 : decode cX12_wordOf 115 = .ok (.lload_n 0, 1) := by decide +kernel
theorem dX12_wordOf_116 : decode cX12_wordOf 116 = .ok (.bipush 99, 2) := by decide +kernel
theorem dX12_wordOf_118 : decode cX12_wordOf 118 = .ok (.bipush 111, 2) := by decide +kernel
theorem dX12_wordOf_120 : decode cX12_wordOf 120 = .ok (.bipush 108, 2) := by decide +kernel
theorem dX12_wordOf_122 : decode cX12_wordOf 122 = .ok (.invokestatic 300, 3) := by decide +kernel
theorem dX12_wordOf_125 : decode cX12_wordOf 125 = .ok (.ldc2_w 308, 3) := by decide +kernel
theorem dX12_wordOf_128 : decode cX12_wordOf 128 = .ok (.lmul, 1) := by decide +kernel
theorem dX12_wordOf_129 : decode cX12_wordOf 129 = .ok (.bipush 111, 2) := by decide +kernel
theorem dX12_wordOf_131 : decode cX12_wordOf 131 = .ok (.bipush 117, 2) := by decide +kernel
theorem dX12_wordOf_133 : decode cX12_wordOf 133 = .ok (.bipush 114, 2) := by decide +kernel
theorem dX12_wordOf_135 : decode cX12_wordOf 135 = .ok (.invokestatic 300, 3) := by decide +kernel
theorem dX12_wordOf_138 : decode cX12_wordOf 138 = .ok (.ladd, 1) := by decide +kernel
theorem dX12_wordOf_139 : decode cX12_wordOf 139 = .ok (.lcmp, 1) := by decide +kernel
theorem dX12_wordOf_140 : decode cX12_wordOf 140 = .ok (.ifCond .ne 6, 3) := by decide +kernel
theorem dX12_wordOf_143 : decode cX12_wordOf 143 = .ok (.bipush 11, 2) := by decide +kernel
theorem dX12_wordOf_145 : decode cX12_wordOf 145 = .ok (.ireturn, 1) := by decide +kernel
theorem dX12_wordOf_146 : decode cX12_wordOf 146 = .ok (.lload_n 0, 1) := by decide +kernel
theorem dX12_wordOf_147 : decode cX12_wordOf 147 = .ok (.bipush 112, 2) := by decide +kernel
theorem dX12_wordOf_149 : decode cX12_wordOf 149 = .ok (.bipush 111, 2) := by decide +kernel
theorem dX12_wordOf_151 : decode cX12_wordOf 151 = .ok (.bipush 119, 2) := by decide +kernel
theorem dX12_wordOf_153 : decode cX12_wordOf 153 = .ok (.bipush 101, 2) := by decide +kernel
theorem dX12_wordOf_155 : decode cX12_wordOf 155 = .ok (.invokestatic 304, 3) := by decide +kernel
theorem dX12_wordOf_158 : decode cX12_wordOf 158 = .ok (.ldc2_w 296, 3) := by decide +kernel
theorem dX12_wordOf_161 : decode cX12_wordOf 161 = .ok (.lmul, 1) := by decide +kernel
theorem dX12_wordOf_162 : decode cX12_wordOf 162 = .ok (.ldc2_w 312, 3) := by decide +kernel
theorem dX12_wordOf_165 : decode cX12_wordOf 165 = .ok (.ladd, 1) := by decide +kernel
theorem dX12_wordOf_166 : decode cX12_wordOf 166 = .ok (.ldc2_w 298, 3) := by decide +kernel
theorem dX12_wordOf_169 : decode cX12_wordOf 169 = .ok (.lsub, 1) := by decide +kernel
theorem dX12_wordOf_170 : decode cX12_wordOf 170 = .ok (.lcmp, 1) := by decide +kernel
theorem dX12_wordOf_171 : decode cX12_wordOf 171 = .ok (.ifCond .ne 6, 3) := by decide +kernel
theorem dX12_wordOf_174 : decode cX12_wordOf 174 = .ok (.bipush 12, 2) := by decide +kernel
theorem dX12_wordOf_176 : decode cX12_wordOf 176 = .ok (.ireturn, 1) := by decide +kernel
theorem dX12_wordOf_177 : decode cX12_wordOf 177 = .ok (.lload_n 0, 1) := by decide +kernel
theorem dX12_wordOf_178 : decode cX12_wordOf 178 = .ok (.ldc2_w 314, 3) := by decide +kernel
theorem dX12_wordOf_181 : decode cX12_wordOf 181 = .ok (.lcmp, 1) := by decide +kernel
theorem dX12_wordOf_182 : decode cX12_wordOf 182 = .ok (.ifCond .ne 6, 3) := by decide +kernel
theorem dX12_wordOf_185 : decode cX12_wordOf 185 = .ok (.bipush 13, 2) := by decide +kernel
theorem dX12_wordOf_187 : decode cX12_wordOf 187 = .ok (.ireturn, 1) := by decide +kernel
theorem dX12_wordOf_188 : decode cX12_wordOf 188 = .ok (.lload_n 0, 1) := by decide +kernel
theorem dX12_wordOf_189 : decode cX12_wordOf 189 = .ok (.ldc2_w 316, 3) := by decide +kernel
theorem dX12_wordOf_192 : decode cX12_wordOf 192 = .ok (.lcmp, 1) := by decide +kernel
theorem dX12_wordOf_193 : decode cX12_wordOf 193 = .ok (.ifCond .ne 6, 3) := by decide +kernel
theorem dX12_wordOf_196 : decode cX12_wordOf 196 = .ok (.bipush 14, 2) := by decide +kernel
theorem dX12_wordOf_198 : decode cX12_wordOf 198 = .ok (.ireturn, 1) := by decide +kernel
theorem dX12_wordOf_199 : decode cX12_wordOf 199 = .ok (.lload_n 0, 1) := by decide +kernel
theorem dX12_wordOf_200 : decode cX12_wordOf 200 = .ok (.bipush 104, 2) := by decide +kernel
theorem dX12_wordOf_202 : decode cX12_wordOf 202 = .ok (.bipush 111, 2) := by decide +kernel
theorem dX12_wordOf_204 : decode cX12_wordOf 204 = .ok (.bipush 117, 2) := by decide +kernel
theorem dX12_wordOf_206 : decode cX12_wordOf 206 = .ok (.bipush 114, 2) := by decide +kernel
theorem dX12_wordOf_208 : decode cX12_wordOf 208 = .ok (.invokestatic 304, 3) := by decide +kernel
theorem dX12_wordOf_211 : decode cX12_wordOf 211 = .ok (.lcmp, 1) := by decide +kernel
theorem dX12_wordOf_212 : decode cX12_wordOf 212 = .ok (.ifCond .ne 6, 3) := by decide +kernel
theorem dX12_wordOf_215 : decode cX12_wordOf 215 = .ok (.bipush 15, 2) := by decide +kernel
theorem dX12_wordOf_217 : decode cX12_wordOf 217 = .ok (.ireturn, 1) := by decide +kernel
theorem dX12_wordOf_218 : decode cX12_wordOf 218 = .ok (.lload_n 0, 1) := by decide +kernel
theorem dX12_wordOf_219 : decode cX12_wordOf 219 = .ok (.bipush 104, 2) := by decide +kernel
theorem dX12_wordOf_221 : decode cX12_wordOf 221 = .ok (.bipush 101, 2) := by decide +kernel
theorem dX12_wordOf_223 : decode cX12_wordOf 223 = .ok (.bipush 97, 2) := by decide +kernel
theorem dX12_wordOf_225 : decode cX12_wordOf 225 = .ok (.bipush 114, 2) := by decide +kernel
theorem dX12_wordOf_227 : decode cX12_wordOf 227 = .ok (.invokestatic 304, 3) := by decide +kernel
theorem dX12_wordOf_230 : decode cX12_wordOf 230 = .ok (.ldc2_w 296, 3) := by decide +kernel
theorem dX12_wordOf_233 : decode cX12_wordOf 233 = .ok (.lmul, 1) := by decide +kernel
theorem dX12_wordOf_234 : decode cX12_wordOf 234 = .ok (.ldc2_w 111, 3) := by decide +kernel
theorem dX12_wordOf_237 : decode cX12_wordOf 237 = .ok (.ladd, 1) := by decide +kernel
theorem dX12_wordOf_238 : decode cX12_wordOf 238 = .ok (.ldc2_w 298, 3) := by decide +kernel
theorem dX12_wordOf_241 : decode cX12_wordOf 241 = .ok (.lsub, 1) := by decide +kernel
theorem dX12_wordOf_242 : decode cX12_wordOf 242 = .ok (.lcmp, 1) := by decide +kernel
theorem dX12_wordOf_243 : decode cX12_wordOf 243 = .ok (.ifCond .ne 6, 3) := by decide +kernel
theorem dX12_wordOf_246 : decode cX12_wordOf 246 = .ok (.bipush 16, 2) := by decide +kernel
theorem dX12_wordOf_248 : decode cX12_wordOf 248 = .ok (.ireturn, 1) := by decide +kernel
theorem dX12_wordOf_249 : decode cX12_wordOf 249 = .ok (.lload_n 0, 1) := by decide +kernel
theorem dX12_wordOf_250 : decode cX12_wordOf 250 = .ok (.bipush 98, 2) := by decide +kernel
theorem dX12_wordOf_252 : decode cX12_wordOf 252 = .ok (.bipush 97, 2) := by decide +kernel
theorem dX12_wordOf_254 : decode cX12_wordOf 254 = .ok (.bipush 114, 2) := by decide +kernel
theorem dX12_wordOf_256 : decode cX12_wordOf 256 = .ok (.invokestatic 300, 3) := by decide +kernel
theorem dX12_wordOf_259 : decode cX12_wordOf 259 = .ok (.lcmp, 1) := by decide +kernel
theorem dX12_wordOf_260 : decode cX12_wordOf 260 = .ok (.ifCond .ne 6, 3) := by decide +kernel
theorem dX12_wordOf_263 : decode cX12_wordOf 263 = .ok (.bipush 20, 2) := by decide +kernel
theorem dX12_wordOf_265 : decode cX12_wordOf 265 = .ok (.ireturn, 1) := by decide +kernel
theorem dX12_wordOf_266 : decode cX12_wordOf 266 = .ok (.lload_n 0, 1) := by decide +kernel
theorem dX12_wordOf_267 : decode cX12_wordOf 267 = .ok (.bipush 109, 2) := by decide +kernel
theorem dX12_wordOf_269 : decode cX12_wordOf 269 = .ok (.bipush 97, 2) := by decide +kernel
theorem dX12_wordOf_271 : decode cX12_wordOf 271 = .ok (.bipush 121, 2) := by decide +kernel
theorem dX12_wordOf_273 : decode cX12_wordOf 273 = .ok (.invokestatic 300, 3) := by decide +kernel
theorem dX12_wordOf_276 : decode cX12_wordOf 276 = .ok (.lcmp, 1) := by decide +kernel
theorem dX12_wordOf_277 : decode cX12_wordOf 277 = .ok (.ifCond .ne 6, 3) := by decide +kernel
theorem dX12_wordOf_280 : decode cX12_wordOf 280 = .ok (.bipush 21, 2) := by decide +kernel
theorem dX12_wordOf_282 : decode cX12_wordOf 282 = .ok (.ireturn, 1) := by decide +kernel
theorem dX12_wordOf_283 : decode cX12_wordOf 283 = .ok (.lload_n 0, 1) := by decide +kernel
theorem dX12_wordOf_284 : decode cX12_wordOf 284 = .ok (.ldc2_w 318, 3) := by decide +kernel
theorem dX12_wordOf_287 : decode cX12_wordOf 287 = .ok (.lcmp, 1) := by decide +kernel
theorem dX12_wordOf_288 : decode cX12_wordOf 288 = .ok (.ifCond .ne 6, 3) := by decide +kernel
theorem dX12_wordOf_291 : decode cX12_wordOf 291 = .ok (.bipush 30, 2) := by decide +kernel
theorem dX12_wordOf_293 : decode cX12_wordOf 293 = .ok (.ireturn, 1) := by decide +kernel
theorem dX12_wordOf_294 : decode cX12_wordOf 294 = .ok (.lload_n 0, 1) := by decide +kernel
theorem dX12_wordOf_295 : decode cX12_wordOf 295 = .ok (.bipush 97, 2) := by decide +kernel
theorem dX12_wordOf_297 : decode cX12_wordOf 297 = .ok (.bipush 110, 2) := by decide +kernel
theorem dX12_wordOf_299 : decode cX12_wordOf 299 = .ok (.bipush 100, 2) := by decide +kernel
theorem dX12_wordOf_301 : decode cX12_wordOf 301 = .ok (.invokestatic 300, 3) := by decide +kernel
theorem dX12_wordOf_304 : decode cX12_wordOf 304 = .ok (.lcmp, 1) := by decide +kernel
theorem dX12_wordOf_305 : decode cX12_wordOf 305 = .ok (.ifCond .ne 6, 3) := by decide +kernel
theorem dX12_wordOf_308 : decode cX12_wordOf 308 = .ok (.bipush 31, 2) := by decide +kernel
theorem dX12_wordOf_310 : decode cX12_wordOf 310 = .ok (.ireturn, 1) := by decide +kernel
theorem dX12_wordOf_311 : decode cX12_wordOf 311 = .ok (.lload_n 0, 1) := by decide +kernel
theorem dX12_wordOf_312 : decode cX12_wordOf 312 = .ok (.bipush 110, 2) := by decide +kernel
theorem dX12_wordOf_314 : decode cX12_wordOf 314 = .ok (.bipush 111, 2) := by decide +kernel
theorem dX12_wordOf_316 : decode cX12_wordOf 316 = .ok (.bipush 116, 2) := by decide +kernel
theorem dX12_wordOf_318 : decode cX12_wordOf 318 = .ok (.invokestatic 300, 3) := by decide +kernel
theorem dX12_wordOf_321 : decode cX12_wordOf 321 = .ok (.lcmp, 1) := by decide +kernel
theorem dX12_wordOf_322 : decode cX12_wordOf 322 = .ok (.ifCond .ne 6, 3) := by decide +kernel
theorem dX12_wordOf_325 : decode cX12_wordOf 325 = .ok (.bipush 32, 2) := by decide +kernel
theorem dX12_wordOf_327 : decode cX12_wordOf 327 = .ok (.ireturn, 1) := by decide +kernel
theorem dX12_wordOf_328 : decode cX12_wordOf 328 = .ok (.bipush 99, 2) := by decide +kernel
theorem dX12_wordOf_330 : decode cX12_wordOf 330 = .ok (.ireturn, 1) := by decide +kernel
theorem dX12_isSignByte_0 : decode cX12_isSignByte 0 = .ok (.iload_n 0, 1) := by decide +kernel
theorem dX12_isSignByte_1 : decode cX12_isSignByte 1 = .ok (.bipush 58, 2) := by decide +kernel
theorem dX12_isSignByte_3 : decode cX12_isSignByte 3 = .ok (.if_icmp .eq 27, 3) := by decide +kernel
theorem dX12_isSignByte_6 : decode cX12_isSignByte 6 = .ok (.iload_n 0, 1) := by decide +kernel
theorem dX12_isSignByte_7 : decode cX12_isSignByte 7 = .ok (.bipush 59, 2) := by decide +kernel
theorem dX12_isSignByte_9 : decode cX12_isSignByte 9 = .ok (.if_icmp .eq 21, 3) := by decide +kernel
theorem dX12_isSignByte_12 : decode cX12_isSignByte 12 = .ok (.iload_n 0, 1) := by decide +kernel
theorem dX12_isSignByte_13 : decode cX12_isSignByte 13 = .ok (.bipush 60, 2) := by decide +kernel
theorem dX12_isSignByte_15 : decode cX12_isSignByte 15 = .ok (.if_icmp .eq 15, 3) := by decide +kernel
theorem dX12_isSignByte_18 : decode cX12_isSignByte 18 = .ok (.iload_n 0, 1) := by decide +kernel
theorem dX12_isSignByte_19 : decode cX12_isSignByte 19 = .ok (.bipush 62, 2) := by decide +kernel
theorem dX12_isSignByte_21 : decode cX12_isSignByte 21 = .ok (.if_icmp .eq 9, 3) := by decide +kernel
theorem dX12_isSignByte_24 : decode cX12_isSignByte 24 = .ok (.iload_n 0, 1) := by decide +kernel
theorem dX12_isSignByte_25 : decode cX12_isSignByte 25 = .ok (.bipush 61, 2) := by decide +kernel
theorem dX12_isSignByte_27 : decode cX12_isSignByte 27 = .ok (.if_icmp .ne 7, 3) := by decide +kernel
theorem dX12_isSignByte_30 : decode cX12_isSignByte 30 = .ok (.iconst 1, 1) := by decide +kernel
theorem dX12_isSignByte_31 : decode cX12_isSignByte 31 = .ok (.goto 4, 3) := by decide +kernel
theorem dX12_isSignByte_34 : decode cX12_isSignByte 34 = .ok (.iconst 0, 1) := by decide +kernel
theorem dX12_isSignByte_35 : decode cX12_isSignByte 35 = .ok (.ireturn, 1) := by decide +kernel
theorem dX12_advance_0 : decode cX12_advance 0 = .ok (.aload_n 0, 1) := by decide +kernel
theorem dX12_advance_1 : decode cX12_advance 1 = .ok (.aload_n 0, 1) := by decide +kernel
theorem dX12_advance_2 : decode cX12_advance 2 = .ok (.getfield 320, 3) := by decide +kernel
theorem dX12_advance_5 : decode cX12_advance 5 = .ok (.invokevirtual 323, 3) := by decide +kernel
theorem dX12_advance_8 : decode cX12_advance 8 = .ok (.bipush 10, 2) := by decide +kernel
theorem dX12_advance_10 : decode cX12_advance 10 = .ok (.if_icmp .eq 16, 3) := by decide +kernel
theorem dX12_advance_13 : decode cX12_advance 13 = .ok (.aload_n 0, 1) := by decide +kernel
theorem dX12_advance_14 : decode cX12_advance 14 = .ok (.aload_n 0, 1) := by decide +kernel
theorem dX12_advance_15 : decode cX12_advance 15 = .ok (.getfield 320, 3) := by decide +kernel
theorem dX12_advance_18 : decode cX12_advance 18 = .ok (.invokevirtual 323, 3) := by decide +kernel
theorem dX12_advance_21 : decode cX12_advance 21 = .ok (.bipush 32, 2) := by decide +kernel
theorem dX12_advance_23 : decode cX12_advance 23 = .ok (.if_icmp .ne 16, 3) := by decide +kernel
theorem dX12_advance_26 : decode cX12_advance 26 = .ok (.aload_n 0, 1) := by decide +kernel
theorem dX12_advance_27 : decode cX12_advance 27 = .ok (.dup, 1) := by decide +kernel
theorem dX12_advance_28 : decode cX12_advance 28 = .ok (.getfield 320, 3) := by decide +kernel
theorem dX12_advance_31 : decode cX12_advance 31 = .ok (.iconst 1, 1) := by decide +kernel
theorem dX12_advance_32 : decode cX12_advance 32 = .ok (.iadd, 1) := by decide +kernel
theorem dX12_advance_33 : decode cX12_advance 33 = .ok (.putfield 320, 3) := by decide +kernel
theorem dX12_advance_36 : decode cX12_advance 36 = .ok (.goto (-36), 3) := by decide +kernel
theorem dX12_advance_39 : decode cX12_advance 39 = .ok (.aload_n 0, 1) := by decide +kernel
theorem dX12_advance_40 : decode cX12_advance 40 = .ok (.aload_n 0, 1) := by decide +kernel
theorem dX12_advance_41 : decode cX12_advance 41 = .ok (.getfield 320, 3) := by decide +kernel
theorem dX12_advance_44 : decode cX12_advance 44 = .ok (.putfield 327, 3) := by decide +kernel
theorem dX12_advance_47 : decode cX12_advance 47 = .ok (.aload_n 0, 1) := by decide +kernel
theorem dX12_advance_48 : decode cX12_advance 48 = .ok (.aload_n 0, 1) := by decide +kernel
theorem dX12_advance_49 : decode cX12_advance 49 = .ok (.getfield 320, 3) := by decide +kernel
theorem dX12_advance_52 : decode cX12_advance 52 = .ok (.invokevirtual 323, 3) := by decide +kernel
theorem dX12_advance_55 : decode cX12_advance 55 = .ok (.istore_n 1, 1) := by decide +kernel
theorem dX12_advance_56 : decode cX12_advance 56 = .ok (.iload_n 1, 1) := by decide +kernel
theorem dX12_advance_57 : decode cX12_advance 57 = .ok (.ifCond .ge 11, 3) := by decide +kernel
theorem dX12_advance_60 : decode cX12_advance 60 = .ok (.aload_n 0, 1) := by decide +kernel
theorem dX12_advance_61 : decode cX12_advance 61 = .ok (.iconst 0, 1) := by decide +kernel
theorem dX12_advance_62 : decode cX12_advance 62 = .ok (.putfield 330, 3) := by decide +kernel
theorem dX12_advance_65 : decode cX12_advance 65 = .ok (.goto 252, 3) := by decide +kernel
theorem dX12_advance_68 : decode cX12_advance 68 = .ok (.iload_n 1, 1) := by decide +kernel
theorem dX12_advance_69 : decode cX12_advance 69 = .ok (.invokestatic 333, 3) := by decide +kernel
theorem dX12_advance_72 : decode cX12_advance 72 = .ok (.ifCond .eq 114, 3) := by decide +kernel
theorem dX12_advance_75 : decode cX12_advance 75 = .ok (.lconst 0, 1) := by decide +kernel
theorem dX12_advance_76 : decode cX12_advance 76 = .ok (.lstore_n 2, 1) := by decide +kernel
theorem dX12_advance_77 : decode cX12_advance 77 = .ok (.aload_n 0, 1) := by decide +kernel
theorem dX12_advance_78 : decode cX12_advance 78 = .ok (.aload_n 0, 1) := by decide +kernel
theorem dX12_advance_79 : decode cX12_advance 79 = .ok (.getfield 320, 3) := by decide +kernel
theorem dX12_advance_82 : decode cX12_advance 82 = .ok (.invokevirtual 323, 3) := by decide +kernel
theorem dX12_advance_85 : decode cX12_advance 85 = .ok (.invokestatic 333, 3) := by decide +kernel
theorem dX12_advance_88 : decode cX12_advance 88 = .ok (.ifCond .eq 50, 3) := by decide +kernel
theorem dX12_advance_91 : decode cX12_advance 91 = .ok (.aload_n 0, 1) := by decide +kernel
theorem dX12_advance_92 : decode cX12_advance 92 = .ok (.getfield 320, 3) := by decide +kernel
theorem dX12_advance_95 : decode cX12_advance 95 = .ok (.aload_n 0, 1) := by decide +kernel
theorem dX12_advance_96 : decode cX12_advance 96 = .ok (.getfield 327, 3) := by decide +kernel
theorem dX12_advance_99 : decode cX12_advance 99 = .ok (.isub, 1) := by decide +kernel
theorem dX12_advance_100 : decode cX12_advance 100 = .ok (.bipush 7, 2) := by decide +kernel
theorem dX12_advance_102 : decode cX12_advance 102 = .ok (.if_icmp .ge 23, 3) := by decide +kernel
theorem dX12_advance_105 : decode cX12_advance 105 = .ok (.ldc2_w 296, 3) := by decide +kernel
theorem dX12_advance_108 : decode cX12_advance 108 = .ok (.lload_n 2, 1) := by decide +kernel
theorem dX12_advance_109 : decode cX12_advance 109 = .ok (.lmul, 1) := by decide +kernel
theorem dX12_advance_110 : decode cX12_advance 110 = .ok (.aload_n 0, 1) := by decide +kernel
theorem dX12_advance_111 : decode cX12_advance 111 = .ok (.aload_n 0, 1) := by decide +kernel
theorem dX12_advance_112 : decode cX12_advance 112 = .ok (.getfield 320, 3) := by decide +kernel
theorem dX12_advance_115 : decode cX12_advance 115 = .ok (.invokevirtual 323, 3) := by decide +kernel
theorem dX12_advance_118 : decode cX12_advance 118 = .ok (.i2l, 1) := by decide +kernel
theorem dX12_advance_119 : decode cX12_advance 119 = .ok (.ladd, 1) := by decide +kernel
theorem dX12_advance_120 : decode cX12_advance 120 = .ok (.ldc2_w 298, 3) := by decide +kernel
theorem dX12_advance_123 : decode cX12_advance 123 = .ok (.lsub, 1) := by decide +kernel
theorem dX12_advance_124 : decode cX12_advance 124 = .ok (.lstore_n 2, 1) := by decide +kernel
theorem dX12_advance_125 : decode cX12_advance 125 = .ok (.aload_n 0, 1) := by decide +kernel
theorem dX12_advance_126 : decode cX12_advance 126 = .ok (.dup, 1) := by decide +kernel
theorem dX12_advance_127 : decode cX12_advance 127 = .ok (.getfield 320, 3) := by decide +kernel
theorem dX12_advance_130 : decode cX12_advance 130 = .ok (.iconst 1, 1) := by decide +kernel
theorem dX12_advance_131 : decode cX12_advance 131 = .ok (.iadd, 1) := by decide +kernel
theorem dX12_advance_132 : decode cX12_advance 132 = .ok (.putfield 320, 3) := by decide +kernel
theorem dX12_advance_135 : decode cX12_advance 135 = .ok (.goto (-58), 3) := by decide +kernel
theorem dX12_advance_138 : decode cX12_advance 138 = .ok (.aload_n 0, 1) := by decide +kernel
theorem dX12_advance_139 : decode cX12_advance 139 = .ok (.aload_n 0, 1) := by decide +kernel
theorem dX12_advance_140 : decode cX12_advance 140 = .ok (.getfield 320, 3) := by decide +kernel
theorem dX12_advance_143 : decode cX12_advance 143 = .ok (.aload_n 0, 1) := by decide +kernel
theorem dX12_advance_144 : decode cX12_advance 144 = .ok (.getfield 327, 3) := by decide +kernel
theorem dX12_advance_147 : decode cX12_advance 147 = .ok (.isub, 1) := by decide +kernel
theorem dX12_advance_148 : decode cX12_advance 148 = .ok (.bipush 6, 2) := by decide +kernel
theorem dX12_advance_150 : decode cX12_advance 150 = .ok (.if_icmp .le 8, 3) := by decide +kernel
theorem dX12_advance_153 : decode cX12_advance 153 = .ok (.bipush 99, 2) := by decide +kernel
theorem dX12_advance_155 : decode cX12_advance 155 = .ok (.goto 7, 3) := by decide +kernel
theorem dX12_advance_158 : decode cX12_advance 158 = .ok (.lload_n 2, 1) := by decide +kernel
theorem dX12_advance_159 : decode cX12_advance 159 = .ok (.invokestatic 336, 3) := by decide +kernel
theorem dX12_advance_162 : decode cX12_advance 162 = .ok (.putfield 339, 3) := by decide +kernel
theorem dX12_advance_165 : decode cX12_advance 165 = .ok (.aload_n 0, 1) := by decide +kernel
theorem dX12_advance_166 : decode cX12_advance 166 = .ok (.aload_n 0, 1) := by decide +kernel
theorem dX12_advance_167 : decode cX12_advance 167 = .ok (.getfield 339, 3) := by decide +kernel
theorem dX12_advance_170 : decode cX12_advance 170 = .ok (.bipush 99, 2) := by decide +kernel
theorem dX12_advance_172 : decode cX12_advance 172 = .ok (.if_icmp .ne 7, 3) := by decide +kernel
theorem dX12_advance_175 : decode cX12_advance 175 = .ok (.iconst 4, 1) := by decide +kernel
theorem dX12_advance_176 : decode cX12_advance 176 = .ok (.goto 4, 3) := by decide +kernel
theorem dX12_advance_179 : decode cX12_advance 179 = .ok (.iconst 3, 1) := by decide +kernel
theorem dX12_advance_180 : decode cX12_advance 180 = .ok (.putfield 330, 3) := by decide +kernel
theorem dX12_advance_183 : decode cX12_advance 183 = .ok (.goto 134, 3) := by decide +kernel
theorem dX12_advance_186 : decode cX12_advance 186 = .ok (.iload_n 1, 1) := by decide +kernel
theorem dX12_advance_187 : decode cX12_advance 187 = .ok (.invokestatic 342, 3) := by decide +kernel
theorem dX12_advance_190 : decode cX12_advance 190 = .ok (.ifCond .eq 96, 3) := by decide +kernel
theorem dX12_advance_193 : decode cX12_advance 193 = .ok (.aload_n 0, 1) := by decide +kernel
theorem dX12_advance_194 : decode cX12_advance 194 = .ok (.iconst 0, 1) := by decide +kernel
theorem dX12_advance_195 : decode cX12_advance 195 = .ok (.putfield 345, 3) := by decide +kernel
theorem dX12_advance_198 : decode cX12_advance 198 = .ok (.aload_n 0, 1) := by decide +kernel
theorem dX12_advance_199 : decode cX12_advance 199 = .ok (.aload_n 0, 1) := by decide +kernel
theorem dX12_advance_200 : decode cX12_advance 200 = .ok (.getfield 320, 3) := by decide +kernel
theorem dX12_advance_203 : decode cX12_advance 203 = .ok (.invokevirtual 323, 3) := by decide +kernel
theorem dX12_advance_206 : decode cX12_advance 206 = .ok (.invokestatic 342, 3) := by decide +kernel
theorem dX12_advance_209 : decode cX12_advance 209 = .ok (.ifCond .eq 52, 3) := by decide +kernel
theorem dX12_advance_212 : decode cX12_advance 212 = .ok (.aload_n 0, 1) := by decide +kernel
theorem dX12_advance_213 : decode cX12_advance 213 = .ok (.getfield 320, 3) := by decide +kernel
theorem dX12_advance_216 : decode cX12_advance 216 = .ok (.aload_n 0, 1) := by decide +kernel
theorem dX12_advance_217 : decode cX12_advance 217 = .ok (.getfield 327, 3) := by decide +kernel
theorem dX12_advance_220 : decode cX12_advance 220 = .ok (.isub, 1) := by decide +kernel
theorem dX12_advance_221 : decode cX12_advance 221 = .ok (.iconst 4, 1) := by decide +kernel
theorem dX12_advance_222 : decode cX12_advance 222 = .ok (.if_icmp .ge 26, 3) := by decide +kernel
theorem dX12_advance_225 : decode cX12_advance 225 = .ok (.aload_n 0, 1) := by decide +kernel
theorem dX12_advance_226 : decode cX12_advance 226 = .ok (.bipush 10, 2) := by decide +kernel
theorem dX12_advance_228 : decode cX12_advance 228 = .ok (.aload_n 0, 1) := by decide +kernel
theorem dX12_advance_229 : decode cX12_advance 229 = .ok (.getfield 345, 3) := by decide +kernel
theorem dX12_advance_232 : decode cX12_advance 232 = .ok (.imul, 1) := by decide +kernel
theorem dX12_advance_233 : decode cX12_advance 233 = .ok (.aload_n 0, 1) := by decide +kernel
theorem dX12_advance_234 : decode cX12_advance 234 = .ok (.aload_n 0, 1) := by decide +kernel
theorem dX12_advance_235 : decode cX12_advance 235 = .ok (.getfield 320, 3) := by decide +kernel
theorem dX12_advance_238 : decode cX12_advance 238 = .ok (.invokevirtual 323, 3) := by decide +kernel
theorem dX12_advance_241 : decode cX12_advance 241 = .ok (.iadd, 1) := by decide +kernel
theorem dX12_advance_242 : decode cX12_advance 242 = .ok (.bipush 48, 2) := by decide +kernel
theorem dX12_advance_244 : decode cX12_advance 244 = .ok (.isub, 1) := by decide +kernel
theorem dX12_advance_245 : decode cX12_advance 245 = .ok (.putfield 345, 3) := by decide +kernel
theorem dX12_advance_248 : decode cX12_advance 248 = .ok (.aload_n 0, 1) := by decide +kernel
theorem dX12_advance_249 : decode cX12_advance 249 = .ok (.dup, 1) := by decide +kernel
theorem dX12_advance_250 : decode cX12_advance 250 = .ok (.getfield 320, 3) := by decide +kernel
theorem dX12_advance_253 : decode cX12_advance 253 = .ok (.iconst 1, 1) := by decide +kernel
theorem dX12_advance_254 : decode cX12_advance 254 = .ok (.iadd, 1) := by decide +kernel
theorem dX12_advance_255 : decode cX12_advance 255 = .ok (.putfield 320, 3) := by decide +kernel
theorem dX12_advance_258 : decode cX12_advance 258 = .ok (.goto (-60), 3) := by decide +kernel
theorem dX12_advance_261 : decode cX12_advance 261 = .ok (.aload_n 0, 1) := by decide +kernel
theorem dX12_advance_262 : decode cX12_advance 262 = .ok (.aload_n 0, 1) := by decide +kernel
theorem dX12_advance_263 : decode cX12_advance 263 = .ok (.getfield 320, 3) := by decide +kernel
theorem dX12_advance_266 : decode cX12_advance 266 = .ok (.aload_n 0, 1) := by decide +kernel
theorem dX12_advance_267 : decode cX12_advance 267 = .ok (.getfield 327, 3) := by decide +kernel
theorem dX12_advance_270 : decode cX12_advance 270 = .ok (.isub, 1) := by decide +kernel
theorem dX12_advance_271 : decode cX12_advance 271 = .ok (.iconst 4, 1) := by decide +kernel
theorem dX12_advance_272 : decode cX12_advance 272 = .ok (.if_icmp .le 7, 3) := by decide +kernel
theorem dX12_advance_275 : decode cX12_advance 275 = .ok (.iconst 4, 1) := by decide +kernel
theorem dX12_advance_276 : decode cX12_advance 276 = .ok (.goto 4, 3) := by decide +kernel
theorem dX12_advance_279 : decode cX12_advance 279 = .ok (.iconst 1, 1) := by decide +kernel
theorem dX12_advance_280 : decode cX12_advance 280 = .ok (.putfield 330, 3) := by decide +kernel
theorem dX12_advance_283 : decode cX12_advance 283 = .ok (.goto 34, 3) := by decide +kernel
theorem dX12_advance_286 : decode cX12_advance 286 = .ok (.aload_n 0, 1) := by decide +kernel
theorem dX12_advance_287 : decode cX12_advance 287 = .ok (.dup, 1) := by decide +kernel
theorem dX12_advance_288 : decode cX12_advance 288 = .ok (.getfield 320, 3) := by decide +kernel
theorem dX12_advance_291 : decode cX12_advance 291 = .ok (.iconst 1, 1) := by decide +kernel
theorem dX12_advance_292 : decode cX12_advance 292 = .ok (.iadd, 1) := by decide +kernel
theorem dX12_advance_293 : decode cX12_advance 293 = .ok (.putfield 320, 3) := by decide +kernel
theorem dX12_advance_296 : decode cX12_advance 296 = .ok (.aload_n 0, 1) := by decide +kernel
theorem dX12_advance_297 : decode cX12_advance 297 = .ok (.iload_n 1, 1) := by decide +kernel
theorem dX12_advance_298 : decode cX12_advance 298 = .ok (.putfield 348, 3) := by decide +kernel
theorem dX12_advance_301 : decode cX12_advance 301 = .ok (.aload_n 0, 1) := by decide +kernel
theorem dX12_advance_302 : decode cX12_advance 302 = .ok (.iload_n 1, 1) := by decide +kernel
theorem dX12_advance_303 : decode cX12_advance 303 = .ok (.invokestatic 351, 3) := by decide +kernel
theorem dX12_advance_306 : decode cX12_advance 306 = .ok (.ifCond .eq 7, 3) := by decide +kernel
theorem dX12_advance_309 : decode cX12_advance 309 = .ok (.iconst 2, 1) := by decide +kernel
theorem dX12_advance_310 : decode cX12_advance 310 = .ok (.goto 4, 3) := by decide +kernel
theorem dX12_advance_313 : decode cX12_advance 313 = .ok (.iconst 4, 1) := by decide +kernel
theorem dX12_advance_314 : decode cX12_advance 314 = .ok (.putfield 330, 3) := by decide +kernel
theorem dX12_advance_317 : decode cX12_advance 317 = .ok (.return_, 1) := by decide +kernel
theorem dX12_stops_0 : decode cX12_stops 0 = .ok (.aload_n 0, 1) := by decide +kernel
theorem dX12_stops_1 : decode cX12_stops 1 = .ok (.getfield 354, 3) := by decide +kernel
theorem dX12_stops_4 : decode cX12_stops 4 = .ok (.ifCond .eq 4, 3) := by decide +kernel
theorem dX12_stops_7 : decode cX12_stops 7 = .ok (.return_, 1) := by decide +kernel
theorem dX12_stops_8 : decode cX12_stops 8 = .ok (.aload_n 0, 1) := by decide +kernel
theorem dX12_stops_9 : decode cX12_stops 9 = .ok (.iconst 1, 1) := by decide +kernel
theorem dX12_stops_10 : decode cX12_stops 10 = .ok (.putfield 354, 3) := by decide +kernel
theorem dX12_stops_13 : decode cX12_stops 13 = .ok (.aload_n 0, 1) := by decide +kernel
theorem dX12_stops_14 : decode cX12_stops 14 = .ok (.getfield 7, 3) := by decide +kernel
theorem dX12_stops_17 : decode cX12_stops 17 = .ok (.bipush 9, 2) := by decide +kernel
theorem dX12_stops_19 : decode cX12_stops 19 = .ok (.iconst 1, 1) := by decide +kernel
theorem dX12_stops_20 : decode cX12_stops 20 = .ok (.iastore, 1) := by decide +kernel
theorem dX12_stops_21 : decode cX12_stops 21 = .ok (.aload_n 0, 1) := by decide +kernel
theorem dX12_stops_22 : decode cX12_stops 22 = .ok (.getfield 7, 3) := by decide +kernel
theorem dX12_stops_25 : decode cX12_stops 25 = .ok (.bipush 10, 2) := by decide +kernel
theorem dX12_stops_27 : decode cX12_stops 27 = .ok (.aload_n 0, 1) := by decide +kernel
theorem dX12_stops_28 : decode cX12_stops 28 = .ok (.getfield 327, 3) := by decide +kernel
theorem dX12_stops_31 : decode cX12_stops 31 = .ok (.iastore, 1) := by decide +kernel
theorem dX12_stops_32 : decode cX12_stops 32 = .ok (.return_, 1) := by decide +kernel
theorem dX12_also_0 : decode cX12_also 0 = .ok (.aload_n 0, 1) := by decide +kernel
theorem dX12_also_1 : decode cX12_also 1 = .ok (.getfield 354, 3) := by decide +kernel
theorem dX12_also_4 : decode cX12_also 4 = .ok (.ifCond .ne 46, 3) := by decide +kernel
theorem dX12_also_7 : decode cX12_also 7 = .ok (.aload_n 0, 1) := by decide +kernel
theorem dX12_also_8 : decode cX12_also 8 = .ok (.getfield 7, 3) := by decide +kernel
theorem dX12_also_11 : decode cX12_also 11 = .ok (.bipush 9, 2) := by decide +kernel
theorem dX12_also_13 : decode cX12_also 13 = .ok (.iaload, 1) := by decide +kernel
theorem dX12_also_14 : decode cX12_also 14 = .ok (.ifCond .eq 37, 3) := by decide +kernel
theorem dX12_also_17 : decode cX12_also 17 = .ok (.aload_n 0, 1) := by decide +kernel
theorem dX12_also_18 : decode cX12_also 18 = .ok (.getfield 7, 3) := by decide +kernel
theorem dX12_also_21 : decode cX12_also 21 = .ok (.bipush 10, 2) := by decide +kernel
theorem dX12_also_23 : decode cX12_also 23 = .ok (.iaload, 1) := by decide +kernel
theorem dX12_also_24 : decode cX12_also 24 = .ok (.iload_n 2, 1) := by decide +kernel
theorem dX12_also_25 : decode cX12_also 25 = .ok (.if_icmp .lt 25, 3) := by decide +kernel
theorem dX12_also_28 : decode cX12_also 28 = .ok (.aload_n 0, 1) := by decide +kernel
theorem dX12_also_29 : decode cX12_also 29 = .ok (.getfield 7, 3) := by decide +kernel
theorem dX12_also_32 : decode cX12_also 32 = .ok (.bipush 10, 2) := by decide +kernel
theorem dX12_also_34 : decode cX12_also 34 = .ok (.iaload, 1) := by decide +kernel
theorem dX12_also_35 : decode cX12_also 35 = .ok (.iload_n 2, 1) := by decide +kernel
theorem dX12_also_36 : decode cX12_also 36 = .ok (.if_icmp .ne 15, 3) := by decide +kernel
theorem dX12_also_39 : decode cX12_also 39 = .ok (.aload_n 0, 1) := by decide +kernel
theorem dX12_also_40 : decode cX12_also 40 = .ok (.getfield 7, 3) := by decide +kernel
theorem dX12_also_43 : decode cX12_also 43 = .ok (.bipush 9, 2) := by decide +kernel
theorem dX12_also_45 : decode cX12_also 45 = .ok (.iaload, 1) := by decide +kernel
theorem dX12_also_46 : decode cX12_also 46 = .ok (.iload_n 1, 1) := by decide +kernel
theorem dX12_also_47 : decode cX12_also 47 = .ok (.if_icmp .gt 4, 3) := by decide +kernel
theorem dX12_also_50 : decode cX12_also 50 = .ok (.return_, 1) := by decide +kernel
theorem dX12_also_51 : decode cX12_also 51 = .ok (.aload_n 0, 1) := by decide +kernel
theorem dX12_also_52 : decode cX12_also 52 = .ok (.getfield 7, 3) := by decide +kernel
theorem dX12_also_55 : decode cX12_also 55 = .ok (.bipush 9, 2) := by decide +kernel
theorem dX12_also_57 : decode cX12_also 57 = .ok (.iload_n 1, 1) := by decide +kernel
theorem dX12_also_58 : decode cX12_also 58 = .ok (.iastore, 1) := by decide +kernel
theorem dX12_also_59 : decode cX12_also 59 = .ok (.aload_n 0, 1) := by decide +kernel
theorem dX12_also_60 : decode cX12_also 60 = .ok (.getfield 7, 3) := by decide +kernel
theorem dX12_also_63 : decode cX12_also 63 = .ok (.bipush 10, 2) := by decide +kernel
theorem dX12_also_65 : decode cX12_also 65 = .ok (.iload_n 2, 1) := by decide +kernel
theorem dX12_also_66 : decode cX12_also 66 = .ok (.iastore, 1) := by decide +kernel
theorem dX12_also_67 : decode cX12_also 67 = .ok (.return_, 1) := by decide +kernel
theorem dX12_takes_0 : decode cX12_takes 0 = .ok (.aload_n 0, 1) := by decide +kernel
theorem dX12_takes_1 : decode cX12_takes 1 = .ok (.getfield 354, 3) := by decide +kernel
theorem dX12_takes_4 : decode cX12_takes 4 = .ok (.ifCond .ne 19, 3) := by decide +kernel
theorem dX12_takes_7 : decode cX12_takes 7 = .ok (.aload_n 0, 1) := by decide +kernel
theorem dX12_takes_8 : decode cX12_takes 8 = .ok (.getfield 330, 3) := by decide +kernel
theorem dX12_takes_11 : decode cX12_takes 11 = .ok (.iconst 3, 1) := by decide +kernel
theorem dX12_takes_12 : decode cX12_takes 12 = .ok (.if_icmp .ne 11, 3) := by decide +kernel
theorem dX12_takes_15 : decode cX12_takes 15 = .ok (.aload_n 0, 1) := by decide +kernel
theorem dX12_takes_16 : decode cX12_takes 16 = .ok (.getfield 339, 3) := by decide +kernel
theorem dX12_takes_19 : decode cX12_takes 19 = .ok (.iload_n 1, 1) := by decide +kernel
theorem dX12_takes_20 : decode cX12_takes 20 = .ok (.if_icmp .eq 5, 3) := by decide +kernel
theorem dX12_takes_23 : decode cX12_takes 23 = .ok (.iconst 0, 1) := by decide +kernel
theorem dX12_takes_24 : decode cX12_takes 24 = .ok (.ireturn, 1) := by decide +kernel
theorem dX12_takes_25 : decode cX12_takes 25 = .ok (.aload_n 0, 1) := by decide +kernel
theorem dX12_takes_26 : decode cX12_takes 26 = .ok (.invokevirtual 357, 3) := by decide +kernel
theorem dX12_takes_29 : decode cX12_takes 29 = .ok (.iconst 1, 1) := by decide +kernel
theorem dX12_takes_30 : decode cX12_takes 30 = .ok (.ireturn, 1) := by decide +kernel
theorem dX12_must_0 : decode cX12_must 0 = .ok (.aload_n 0, 1) := by decide +kernel
theorem dX12_must_1 : decode cX12_must 1 = .ok (.getfield 354, 3) := by decide +kernel
theorem dX12_must_4 : decode cX12_must 4 = .ok (.ifCond .ne 26, 3) := by decide +kernel
theorem dX12_must_7 : decode cX12_must 7 = .ok (.aload_n 0, 1) := by decide +kernel
theorem dX12_must_8 : decode cX12_must 8 = .ok (.getfield 330, 3) := by decide +kernel
theorem dX12_must_11 : decode cX12_must 11 = .ok (.iconst 2, 1) := by decide +kernel
theorem dX12_must_12 : decode cX12_must 12 = .ok (.if_icmp .ne 18, 3) := by decide +kernel
theorem dX12_must_15 : decode cX12_must 15 = .ok (.aload_n 0, 1) := by decide +kernel
theorem dX12_must_16 : decode cX12_must 16 = .ok (.getfield 348, 3) := by decide +kernel
theorem dX12_must_19 : decode cX12_must 19 = .ok (.iload_n 1, 1) := by decide +kernel
theorem dX12_must_20 : decode cX12_must 20 = .ok (.if_icmp .ne 10, 3) := by decide +kernel
theorem dX12_must_23 : decode cX12_must 23 = .ok (.aload_n 0, 1) := by decide +kernel
theorem dX12_must_24 : decode cX12_must 24 = .ok (.invokevirtual 357, 3) := by decide +kernel
theorem dX12_must_27 : decode cX12_must 27 = .ok (.goto 7, 3) := by decide +kernel
theorem dX12_must_30 : decode cX12_must 30 = .ok (.aload_n 0, 1) := by decide +kernel
theorem dX12_must_31 : decode cX12_must 31 = .ok (.invokevirtual 360, 3) := by decide +kernel
theorem dX12_must_34 : decode cX12_must 34 = .ok (.return_, 1) := by decide +kernel
theorem dX12_numbered_0 : decode cX12_numbered 0 = .ok (.aload_n 0, 1) := by decide +kernel
theorem dX12_numbered_1 : decode cX12_numbered 1 = .ok (.getfield 345, 3) := by decide +kernel
theorem dX12_numbered_4 : decode cX12_numbered 4 = .ok (.istore_n 1, 1) := by decide +kernel
theorem dX12_numbered_5 : decode cX12_numbered 5 = .ok (.aload_n 0, 1) := by decide +kernel
theorem dX12_numbered_6 : decode cX12_numbered 6 = .ok (.getfield 354, 3) := by decide +kernel
theorem dX12_numbered_9 : decode cX12_numbered 9 = .ok (.ifCond .ne 18, 3) := by decide +kernel
theorem dX12_numbered_12 : decode cX12_numbered 12 = .ok (.aload_n 0, 1) := by decide +kernel
theorem dX12_numbered_13 : decode cX12_numbered 13 = .ok (.getfield 330, 3) := by decide +kernel
theorem dX12_numbered_16 : decode cX12_numbered 16 = .ok (.iconst 1, 1) := by decide +kernel
theorem dX12_numbered_17 : decode cX12_numbered 17 = .ok (.if_icmp .ne 10, 3) := by decide +kernel
theorem dX12_numbered_20 : decode cX12_numbered 20 = .ok (.aload_n 0, 1) := by decide +kernel
theorem dX12_numbered_21 : decode cX12_numbered 21 = .ok (.invokevirtual 357, 3) := by decide +kernel
theorem dX12_numbered_24 : decode cX12_numbered 24 = .ok (.goto 7, 3) := by decide +kernel
theorem dX12_numbered_27 : decode cX12_numbered 27 = .ok (.aload_n 0, 1) := by decide +kernel
theorem dX12_numbered_28 : decode cX12_numbered 28 = .ok (.invokevirtual 360, 3) := by decide +kernel
theorem dX12_numbered_31 : decode cX12_numbered 31 = .ok (.iload_n 1, 1) := by decide +kernel
theorem dX12_numbered_32 : decode cX12_numbered 32 = .ok (.ireturn, 1) := by decide +kernel
theorem dX12_reads_0 : decode cX12_reads 0 = .ok (.aload_n 0, 1) := by decide +kernel
theorem dX12_reads_1 : decode cX12_reads 1 = .ok (.aload_n 0, 1) := by decide +kernel
theorem dX12_reads_2 : decode cX12_reads 2 = .ok (.getfield 7, 3) := by decide +kernel
theorem dX12_reads_5 : decode cX12_reads 5 = .ok (.bipush 8, 2) := by decide +kernel
theorem dX12_reads_7 : decode cX12_reads 7 = .ok (.iaload, 1) := by decide +kernel
theorem dX12_reads_8 : decode cX12_reads 8 = .ok (.putfield 293, 3) := by decide +kernel
theorem dX12_reads_11 : decode cX12_reads 11 = .ok (.aload_n 0, 1) := by decide +kernel
theorem dX12_reads_12 : decode cX12_reads 12 = .ok (.getfield 7, 3) := by decide +kernel
theorem dX12_reads_15 : decode cX12_reads 15 = .ok (.bipush 8, 2) := by decide +kernel
theorem dX12_reads_17 : decode cX12_reads 17 = .ok (.iconst 0, 1) := by decide +kernel
theorem dX12_reads_18 : decode cX12_reads 18 = .ok (.iastore, 1) := by decide +kernel
theorem dX12_reads_19 : decode cX12_reads 19 = .ok (.aload_n 0, 1) := by decide +kernel
theorem dX12_reads_20 : decode cX12_reads 20 = .ok (.getfield 7, 3) := by decide +kernel
theorem dX12_reads_23 : decode cX12_reads 23 = .ok (.bipush 9, 2) := by decide +kernel
theorem dX12_reads_25 : decode cX12_reads 25 = .ok (.iconst 0, 1) := by decide +kernel
theorem dX12_reads_26 : decode cX12_reads 26 = .ok (.iastore, 1) := by decide +kernel
theorem dX12_reads_27 : decode cX12_reads 27 = .ok (.aload_n 0, 1) := by decide +kernel
theorem dX12_reads_28 : decode cX12_reads 28 = .ok (.getfield 7, 3) := by decide +kernel
theorem dX12_reads_31 : decode cX12_reads 31 = .ok (.bipush 10, 2) := by decide +kernel
theorem dX12_reads_33 : decode cX12_reads 33 = .ok (.iconst (-1), 1) := by decide +kernel
theorem dX12_reads_34 : decode cX12_reads 34 = .ok (.iastore, 1) := by decide +kernel
theorem dX12_reads_35 : decode cX12_reads 35 = .ok (.aload_n 0, 1) := by decide +kernel
theorem dX12_reads_36 : decode cX12_reads 36 = .ok (.iconst 0, 1) := by decide +kernel
theorem dX12_reads_37 : decode cX12_reads 37 = .ok (.putfield 320, 3) := by decide +kernel
theorem dX12_reads_40 : decode cX12_reads 40 = .ok (.aload_n 0, 1) := by decide +kernel
theorem dX12_reads_41 : decode cX12_reads 41 = .ok (.iconst 0, 1) := by decide +kernel
theorem dX12_reads_42 : decode cX12_reads 42 = .ok (.putfield 354, 3) := by decide +kernel
theorem dX12_reads_45 : decode cX12_reads 45 = .ok (.aload_n 0, 1) := by decide +kernel
theorem dX12_reads_46 : decode cX12_reads 46 = .ok (.iconst 0, 1) := by decide +kernel
theorem dX12_reads_47 : decode cX12_reads 47 = .ok (.putfield 363, 3) := by decide +kernel
theorem dX12_reads_50 : decode cX12_reads 50 = .ok (.aload_n 0, 1) := by decide +kernel
theorem dX12_reads_51 : decode cX12_reads 51 = .ok (.invokevirtual 357, 3) := by decide +kernel
theorem dX12_reads_54 : decode cX12_reads 54 = .ok (.return_, 1) := by decide +kernel
theorem dX12_numbersOf_0 : decode cX12_numbersOf 0 = .ok (.iload_n 0, 1) := by decide +kernel
theorem dX12_numbersOf_1 : decode cX12_numbersOf 1 = .ok (.iconst 1, 1) := by decide +kernel
theorem dX12_numbersOf_2 : decode cX12_numbersOf 2 = .ok (.if_icmp .ne 7, 3) := by decide +kernel
theorem dX12_numbersOf_5 : decode cX12_numbersOf 5 = .ok (.iconst 5, 1) := by decide +kernel
theorem dX12_numbersOf_6 : decode cX12_numbersOf 6 = .ok (.goto 13, 3) := by decide +kernel
theorem dX12_numbersOf_9 : decode cX12_numbersOf 9 = .ok (.iload_n 0, 1) := by decide +kernel
theorem dX12_numbersOf_10 : decode cX12_numbersOf 10 = .ok (.iconst 3, 1) := by decide +kernel
theorem dX12_numbersOf_11 : decode cX12_numbersOf 11 = .ok (.if_icmp .ne 7, 3) := by decide +kernel
theorem dX12_numbersOf_14 : decode cX12_numbersOf 14 = .ok (.iconst 2, 1) := by decide +kernel
theorem dX12_numbersOf_15 : decode cX12_numbersOf 15 = .ok (.goto 4, 3) := by decide +kernel
theorem dX12_numbersOf_18 : decode cX12_numbersOf 18 = .ok (.iconst 4, 1) := by decide +kernel
theorem dX12_numbersOf_19 : decode cX12_numbersOf 19 = .ok (.ireturn, 1) := by decide +kernel
theorem dX12_mayBe_0 : decode cX12_mayBe 0 = .ok (.iload_n 1, 1) := by decide +kernel
theorem dX12_mayBe_1 : decode cX12_mayBe 1 = .ok (.iconst 2, 1) := by decide +kernel
theorem dX12_mayBe_2 : decode cX12_mayBe 2 = .ok (.if_icmp .lt 13, 3) := by decide +kernel
theorem dX12_mayBe_5 : decode cX12_mayBe 5 = .ok (.iload_n 0, 1) := by decide +kernel
theorem dX12_mayBe_6 : decode cX12_mayBe 6 = .ok (.iconst 1, 1) := by decide +kernel
theorem dX12_mayBe_7 : decode cX12_mayBe 7 = .ok (.if_icmp .ne 20, 3) := by decide +kernel
theorem dX12_mayBe_10 : decode cX12_mayBe 10 = .ok (.iload_n 1, 1) := by decide +kernel
theorem dX12_mayBe_11 : decode cX12_mayBe 11 = .ok (.iconst 4, 1) := by decide +kernel
theorem dX12_mayBe_12 : decode cX12_mayBe 12 = .ok (.if_icmp .ge 15, 3) := by decide +kernel
theorem dX12_mayBe_15 : decode cX12_mayBe 15 = .ok (.iload_n 2, 1) := by decide +kernel
theorem dX12_mayBe_16 : decode cX12_mayBe 16 = .ok (.bipush 20, 2) := by decide +kernel
theorem dX12_mayBe_18 : decode cX12_mayBe 18 = .ok (.if_icmp .gt 7, 3) := by decide +kernel
theorem dX12_mayBe_21 : decode cX12_mayBe 21 = .ok (.iconst 1, 1) := by decide +kernel
theorem dX12_mayBe_22 : decode cX12_mayBe 22 = .ok (.goto 4, 3) := by decide +kernel
theorem dX12_mayBe_25 : decode cX12_mayBe 25 = .ok (.iconst 0, 1) := by decide +kernel
theorem dX12_mayBe_26 : decode cX12_mayBe 26 = .ok (.ireturn, 1) := by decide +kernel
theorem dX12_mayBe_27 : decode cX12_mayBe 27 = .ok (.iload_n 0, 1) := by decide +kernel
theorem dX12_mayBe_28 : decode cX12_mayBe 28 = .ok (.iconst 1, 1) := by decide +kernel
theorem dX12_mayBe_29 : decode cX12_mayBe 29 = .ok (.if_icmp .ne 14, 3) := by decide +kernel
theorem dX12_mayBe_32 : decode cX12_mayBe 32 = .ok (.iload_n 2, 1) := by decide +kernel
theorem dX12_mayBe_33 : decode cX12_mayBe 33 = .ok (.iconst 4, 1) := by decide +kernel
theorem dX12_mayBe_34 : decode cX12_mayBe 34 = .ok (.if_icmp .gt 7, 3) := by decide +kernel
theorem dX12_mayBe_37 : decode cX12_mayBe 37 = .ok (.iconst 1, 1) := by decide +kernel
theorem dX12_mayBe_38 : decode cX12_mayBe 38 = .ok (.goto 4, 3) := by decide +kernel
theorem dX12_mayBe_41 : decode cX12_mayBe 41 = .ok (.iconst 0, 1) := by decide +kernel
theorem dX12_mayBe_42 : decode cX12_mayBe 42 = .ok (.ireturn, 1) := by decide +kernel
theorem dX12_mayBe_43 : decode cX12_mayBe 43 = .ok (.iload_n 0, 1) := by decide +kernel
theorem dX12_mayBe_44 : decode cX12_mayBe 44 = .ok (.iconst 2, 1) := by decide +kernel
theorem dX12_mayBe_45 : decode cX12_mayBe 45 = .ok (.if_icmp .ne 19, 3) := by decide +kernel
theorem dX12_mayBe_48 : decode cX12_mayBe 48 = .ok (.iload_n 1, 1) := by decide +kernel
theorem dX12_mayBe_49 : decode cX12_mayBe 49 = .ok (.iconst 2, 1) := by decide +kernel
theorem dX12_mayBe_50 : decode cX12_mayBe 50 = .ok (.if_icmp .ne 14, 3) := by decide +kernel
theorem dX12_mayBe_53 : decode cX12_mayBe 53 = .ok (.iload_n 2, 1) := by decide +kernel
theorem dX12_mayBe_54 : decode cX12_mayBe 54 = .ok (.iconst 5, 1) := by decide +kernel
theorem dX12_mayBe_55 : decode cX12_mayBe 55 = .ok (.if_icmp .gt 7, 3) := by decide +kernel
theorem dX12_mayBe_58 : decode cX12_mayBe 58 = .ok (.iconst 1, 1) := by decide +kernel
theorem dX12_mayBe_59 : decode cX12_mayBe 59 = .ok (.goto 4, 3) := by decide +kernel
theorem dX12_mayBe_62 : decode cX12_mayBe 62 = .ok (.iconst 0, 1) := by decide +kernel
theorem dX12_mayBe_63 : decode cX12_mayBe 63 = .ok (.ireturn, 1) := by decide +kernel
theorem dX12_mayBe_64 : decode cX12_mayBe 64 = .ok (.iload_n 2, 1) := by decide +kernel
theorem dX12_mayBe_65 : decode cX12_mayBe 65 = .ok (.iconst 1, 1) := by decide +kernel
theorem dX12_mayBe_66 : decode cX12_mayBe 66 = .ok (.if_icmp .lt 24, 3) := by decide +kernel
theorem dX12_mayBe_69 : decode cX12_mayBe 69 = .ok (.iload_n 1, 1) := by decide +kernel
theorem dX12_mayBe_70 : decode cX12_mayBe 70 = .ok (.iconst 2, 1) := by decide +kernel
theorem dX12_mayBe_71 : decode cX12_mayBe 71 = .ok (.if_icmp .eq 15, 3) := by decide +kernel
theorem dX12_mayBe_74 : decode cX12_mayBe 74 = .ok (.iload_n 0, 1) := by decide +kernel
theorem dX12_mayBe_75 : decode cX12_mayBe 75 = .ok (.iconst 2, 1) := by decide +kernel
theorem dX12_mayBe_76 : decode cX12_mayBe 76 = .ok (.if_icmp .eq 10, 3) := by decide +kernel
theorem dX12_mayBe_79 : decode cX12_mayBe 79 = .ok (.iload_n 2, 1) := by decide +kernel
theorem dX12_mayBe_80 : decode cX12_mayBe 80 = .ok (.sipush 999, 3) := by decide +kernel
theorem dX12_mayBe_83 : decode cX12_mayBe 83 = .ok (.if_icmp .gt 7, 3) := by decide +kernel
theorem dX12_mayBe_86 : decode cX12_mayBe 86 = .ok (.iconst 1, 1) := by decide +kernel
theorem dX12_mayBe_87 : decode cX12_mayBe 87 = .ok (.goto 4, 3) := by decide +kernel
theorem dX12_mayBe_90 : decode cX12_mayBe 90 = .ok (.iconst 0, 1) := by decide +kernel
theorem dX12_mayBe_91 : decode cX12_mayBe 91 = .ok (.ireturn, 1) := by decide +kernel
theorem dX12_mostOf_0 : decode cX12_mostOf 0 = .ok (.iload_n 0, 1) := by decide +kernel
theorem dX12_mostOf_1 : decode cX12_mostOf 1 = .ok (.iconst 1, 1) := by decide +kernel
theorem dX12_mostOf_2 : decode cX12_mostOf 2 = .ok (.if_icmp .ne 8, 3) := by decide +kernel
theorem dX12_mostOf_5 : decode cX12_mostOf 5 = .ok (.bipush 12, 2) := by decide +kernel
theorem dX12_mostOf_7 : decode cX12_mostOf 7 = .ok (.goto 15, 3) := by decide +kernel
theorem dX12_mostOf_10 : decode cX12_mostOf 10 = .ok (.iload_n 0, 1) := by decide +kernel
theorem dX12_mostOf_11 : decode cX12_mostOf 11 = .ok (.iconst 2, 1) := by decide +kernel
theorem dX12_mostOf_12 : decode cX12_mostOf 12 = .ok (.if_icmp .ne 8, 3) := by decide +kernel
theorem dX12_mostOf_15 : decode cX12_mostOf 15 = .ok (.bipush 6, 2) := by decide +kernel
theorem dX12_mostOf_17 : decode cX12_mostOf 17 = .ok (.goto 5, 3) := by decide +kernel
theorem dX12_mostOf_20 : decode cX12_mostOf 20 = .ok (.bipush 8, 2) := by decide +kernel
theorem dX12_mostOf_22 : decode cX12_mostOf 22 = .ok (.ireturn, 1) := by decide +kernel
theorem dX12_aTownLine_0 : decode cX12_aTownLine 0 = .ok (.aload_n 0, 1) := by decide +kernel
theorem dX12_aTownLine_1 : decode cX12_aTownLine 1 = .ok (.getfield 327, 3) := by decide +kernel
theorem dX12_aTownLine_4 : decode cX12_aTownLine 4 = .ok (.istore_n 1, 1) := by decide +kernel
theorem dX12_aTownLine_5 : decode cX12_aTownLine 5 = .ok (.aload_n 0, 1) := by decide +kernel
theorem dX12_aTownLine_6 : decode cX12_aTownLine 6 = .ok (.getfield 354, 3) := by decide +kernel
theorem dX12_aTownLine_9 : decode cX12_aTownLine 9 = .ok (.ifCond .ne 23, 3) := by decide +kernel
theorem dX12_aTownLine_12 : decode cX12_aTownLine 12 = .ok (.aload_n 0, 1) := by decide +kernel
theorem dX12_aTownLine_13 : decode cX12_aTownLine 13 = .ok (.getfield 330, 3) := by decide +kernel
theorem dX12_aTownLine_16 : decode cX12_aTownLine 16 = .ok (.iconst 3, 1) := by decide +kernel
theorem dX12_aTownLine_17 : decode cX12_aTownLine 17 = .ok (.if_icmp .ne 15, 3) := by decide +kernel
theorem dX12_aTownLine_20 : decode cX12_aTownLine 20 = .ok (.aload_n 0, 1) := by decide +kernel
theorem dX12_aTownLine_21 : decode cX12_aTownLine 21 = .ok (.getfield 339, 3) := by decide +kernel
theorem dX12_aTownLine_24 : decode cX12_aTownLine 24 = .ok (.iconst 1, 1) := by decide +kernel
theorem dX12_aTownLine_25 : decode cX12_aTownLine 25 = .ok (.iconst 4, 1) := by decide +kernel
theorem dX12_aTownLine_26 : decode cX12_aTownLine 26 = .ok (.invokestatic 68, 3) := by decide +kernel
theorem dX12_aTownLine_29 : decode cX12_aTownLine 29 = .ok (.ifCond .ne 8, 3) := by decide +kernel
theorem dX12_aTownLine_32 : decode cX12_aTownLine 32 = .ok (.aload_n 0, 1) := by decide +kernel
theorem dX12_aTownLine_33 : decode cX12_aTownLine 33 = .ok (.invokevirtual 360, 3) := by decide +kernel
theorem dX12_aTownLine_36 : decode cX12_aTownLine 36 = .ok (.return_, 1) := by decide +kernel
theorem dX12_aTownLine_37 : decode cX12_aTownLine 37 = .ok (.aload_n 0, 1) := by decide +kernel
theorem dX12_aTownLine_38 : decode cX12_aTownLine 38 = .ok (.getfield 339, 3) := by decide +kernel
theorem dX12_aTownLine_41 : decode cX12_aTownLine 41 = .ok (.istore_n 2, 1) := by decide +kernel
theorem dX12_aTownLine_42 : decode cX12_aTownLine 42 = .ok (.bipush 6, 2) := by decide +kernel
theorem dX12_aTownLine_44 : decode cX12_aTownLine 44 = .ok (.aload_n 0, 1) := by decide +kernel
theorem dX12_aTownLine_45 : decode cX12_aTownLine 45 = .ok (.getfield 363, 3) := by decide +kernel
theorem dX12_aTownLine_48 : decode cX12_aTownLine 48 = .ok (.imul, 1) := by decide +kernel
theorem dX12_aTownLine_49 : decode cX12_aTownLine 49 = .ok (.istore_n 3, 1) := by decide +kernel
theorem dX12_aTownLine_50 : decode cX12_aTownLine 50 = .ok (.aload_n 0, 1) := by decide +kernel
theorem dX12_aTownLine_51 : decode cX12_aTownLine 51 = .ok (.invokevirtual 357, 3) := by decide +kernel
theorem dX12_aTownLine_54 : decode cX12_aTownLine 54 = .ok (.aload_n 0, 1) := by decide +kernel
theorem dX12_aTownLine_55 : decode cX12_aTownLine 55 = .ok (.getfield 53, 3) := by decide +kernel
theorem dX12_aTownLine_58 : decode cX12_aTownLine 58 = .ok (.iload_n 3, 1) := by decide +kernel
theorem dX12_aTownLine_59 : decode cX12_aTownLine 59 = .ok (.iload_n 2, 1) := by decide +kernel
theorem dX12_aTownLine_60 : decode cX12_aTownLine 60 = .ok (.iastore, 1) := by decide +kernel
theorem dX12_aTownLine_61 : decode cX12_aTownLine 61 = .ok (.iconst 0, 1) := by decide +kernel
theorem dX12_aTownLine_62 : decode cX12_aTownLine 62 = .ok (.istore 4, 2) := by decide +kernel
theorem dX12_aTownLine_64 : decode cX12_aTownLine 64 = .ok (.iload 4, 2) := by decide +kernel
theorem dX12_aTownLine_66 : decode cX12_aTownLine 66 = .ok (.iload_n 2, 1) := by decide +kernel
theorem dX12_aTownLine_67 : decode cX12_aTownLine 67 = .ok (.invokestatic 366, 3) := by decide +kernel
theorem dX12_aTownLine_70 : decode cX12_aTownLine 70 = .ok (.if_icmp .ge 64, 3) := by decide +kernel
theorem dX12_aTownLine_73 : decode cX12_aTownLine 73 = .ok (.aload_n 0, 1) := by decide +kernel
theorem dX12_aTownLine_74 : decode cX12_aTownLine 74 = .ok (.getfield 354, 3) := by decide +kernel
theorem dX12_aTownLine_77 : decode cX12_aTownLine 77 = .ok (.ifCond .ne 57, 3) := by decide +kernel
theorem dX12_aTownLine_80 : decode cX12_aTownLine 80 = .ok (.aload_n 0, 1) := by decide +kernel
theorem dX12_aTownLine_81 : decode cX12_aTownLine 81 = .ok (.getfield 327, 3) := by decide +kernel
theorem dX12_aTownLine_84 : decode cX12_aTownLine 84 = .ok (.istore 5, 2) := by decide +kernel
theorem dX12_aTownLine_86 : decode cX12_aTownLine 86 = .ok (.aload_n 0, 1) := by decide +kernel
theorem dX12_aTownLine_87 : decode cX12_aTownLine 87 = .ok (.getfield 53, 3) := by decide +kernel
theorem dX12_aTownLine_90 : decode cX12_aTownLine 90 = .ok (.iload_n 3, 1) := by decide +kernel
theorem dX12_aTownLine_91 : decode cX12_aTownLine 91 = .ok (.iconst 1, 1) := by decide +kernel
theorem dX12_aTownLine_92 : decode cX12_aTownLine 92 = .ok (.iadd, 1) := by decide +kernel
theorem dX12_aTownLine_93 : decode cX12_aTownLine 93 = .ok (.iload 4, 2) := by decide +kernel
theorem dX12_aTownLine_95 : decode cX12_aTownLine 95 = .ok (.iadd, 1) := by decide +kernel
theorem dX12_aTownLine_96 : decode cX12_aTownLine 96 = .ok (.aload_n 0, 1) := by decide +kernel
theorem dX12_aTownLine_97 : decode cX12_aTownLine 97 = .ok (.invokevirtual 369, 3) := by decide +kernel
theorem dX12_aTownLine_100 : decode cX12_aTownLine 100 = .ok (.iastore, 1) := by decide +kernel
theorem dX12_aTownLine_101 : decode cX12_aTownLine 101 = .ok (.iload_n 2, 1) := by decide +kernel
theorem dX12_aTownLine_102 : decode cX12_aTownLine 102 = .ok (.iload 4, 2) := by decide +kernel
theorem dX12_aTownLine_104 : decode cX12_aTownLine 104 = .ok (.aload_n 0, 1) := by decide +kernel
theorem dX12_aTownLine_105 : decode cX12_aTownLine 105 = .ok (.getfield 53, 3) := by decide +kernel
theorem dX12_aTownLine_108 : decode cX12_aTownLine 108 = .ok (.iload_n 3, 1) := by decide +kernel
theorem dX12_aTownLine_109 : decode cX12_aTownLine 109 = .ok (.iconst 1, 1) := by decide +kernel
theorem dX12_aTownLine_110 : decode cX12_aTownLine 110 = .ok (.iadd, 1) := by decide +kernel
theorem dX12_aTownLine_111 : decode cX12_aTownLine 111 = .ok (.iload 4, 2) := by decide +kernel
theorem dX12_aTownLine_113 : decode cX12_aTownLine 113 = .ok (.iadd, 1) := by decide +kernel
theorem dX12_aTownLine_114 : decode cX12_aTownLine 114 = .ok (.iaload, 1) := by decide +kernel
theorem dX12_aTownLine_115 : decode cX12_aTownLine 115 = .ok (.invokestatic 372, 3) := by decide +kernel
theorem dX12_aTownLine_118 : decode cX12_aTownLine 118 = .ok (.ifCond .ne 10, 3) := by decide +kernel
theorem dX12_aTownLine_121 : decode cX12_aTownLine 121 = .ok (.aload_n 0, 1) := by decide +kernel
theorem dX12_aTownLine_122 : decode cX12_aTownLine 122 = .ok (.iconst 2, 1) := by decide +kernel
theorem dX12_aTownLine_123 : decode cX12_aTownLine 123 = .ok (.iload 5, 2) := by decide +kernel
theorem dX12_aTownLine_125 : decode cX12_aTownLine 125 = .ok (.invokevirtual 375, 3) := by decide +kernel
theorem dX12_aTownLine_128 : decode cX12_aTownLine 128 = .ok (.iinc 4 1, 3) := by decide +kernel
theorem dX12_aTownLine_131 : decode cX12_aTownLine 131 = .ok (.goto (-67), 3) := by decide +kernel
theorem dX12_aTownLine_134 : decode cX12_aTownLine 134 = .ok (.aload_n 0, 1) := by decide +kernel
theorem dX12_aTownLine_135 : decode cX12_aTownLine 135 = .ok (.bipush 59, 2) := by decide +kernel
theorem dX12_aTownLine_137 : decode cX12_aTownLine 137 = .ok (.invokevirtual 378, 3) := by decide +kernel
theorem dX12_aTownLine_140 : decode cX12_aTownLine 140 = .ok (.aload_n 0, 1) := by decide +kernel
theorem dX12_aTownLine_141 : decode cX12_aTownLine 141 = .ok (.getfield 53, 3) := by decide +kernel
theorem dX12_aTownLine_144 : decode cX12_aTownLine 144 = .ok (.iload_n 3, 1) := by decide +kernel
theorem dX12_aTownLine_145 : decode cX12_aTownLine 145 = .ok (.iconst 1, 1) := by decide +kernel
theorem dX12_aTownLine_146 : decode cX12_aTownLine 146 = .ok (.iadd, 1) := by decide +kernel
theorem dX12_aTownLine_147 : decode cX12_aTownLine 147 = .ok (.iaload, 1) := by decide +kernel
theorem dX12_aTownLine_148 : decode cX12_aTownLine 148 = .ok (.aload_n 0, 1) := by decide +kernel
theorem dX12_aTownLine_149 : decode cX12_aTownLine 149 = .ok (.getfield 53, 3) := by decide +kernel
theorem dX12_aTownLine_152 : decode cX12_aTownLine 152 = .ok (.iload_n 3, 1) := by decide +kernel
theorem dX12_aTownLine_153 : decode cX12_aTownLine 153 = .ok (.iconst 3, 1) := by decide +kernel
theorem dX12_aTownLine_154 : decode cX12_aTownLine 154 = .ok (.iadd, 1) := by decide +kernel
theorem dX12_aTownLine_155 : decode cX12_aTownLine 155 = .ok (.iaload, 1) := by decide +kernel
theorem dX12_aTownLine_156 : decode cX12_aTownLine 156 = .ok (.if_icmp .ne 7, 3) := by decide +kernel
theorem dX12_aTownLine_159 : decode cX12_aTownLine 159 = .ok (.iconst 1, 1) := by decide +kernel
theorem dX12_aTownLine_160 : decode cX12_aTownLine 160 = .ok (.goto 4, 3) := by decide +kernel
theorem dX12_aTownLine_163 : decode cX12_aTownLine 163 = .ok (.iconst 0, 1) := by decide +kernel
theorem dX12_aTownLine_164 : decode cX12_aTownLine 164 = .ok (.istore 4, 2) := by decide +kernel
theorem dX12_aTownLine_166 : decode cX12_aTownLine 166 = .ok (.aload_n 0, 1) := by decide +kernel
theorem dX12_aTownLine_167 : decode cX12_aTownLine 167 = .ok (.getfield 53, 3) := by decide +kernel
theorem dX12_aTownLine_170 : decode cX12_aTownLine 170 = .ok (.iload_n 3, 1) := by decide +kernel
theorem dX12_aTownLine_171 : decode cX12_aTownLine 171 = .ok (.iconst 2, 1) := by decide +kernel
theorem dX12_aTownLine_172 : decode cX12_aTownLine 172 = .ok (.iadd, 1) := by decide +kernel
theorem dX12_aTownLine_173 : decode cX12_aTownLine 173 = .ok (.iaload, 1) := by decide +kernel
theorem dX12_aTownLine_174 : decode cX12_aTownLine 174 = .ok (.aload_n 0, 1) := by decide +kernel
theorem dX12_aTownLine_175 : decode cX12_aTownLine 175 = .ok (.getfield 53, 3) := by decide +kernel
theorem dX12_aTownLine_178 : decode cX12_aTownLine 178 = .ok (.iload_n 3, 1) := by decide +kernel
theorem dX12_aTownLine_179 : decode cX12_aTownLine 179 = .ok (.iconst 4, 1) := by decide +kernel
theorem dX12_aTownLine_180 : decode cX12_aTownLine 180 = .ok (.iadd, 1) := by decide +kernel
theorem dX12_aTownLine_181 : decode cX12_aTownLine 181 = .ok (.iaload, 1) := by decide +kernel
theorem dX12_aTownLine_182 : decode cX12_aTownLine 182 = .ok (.if_icmp .ne 7, 3) := by decide +kernel
theorem dX12_aTownLine_185 : decode cX12_aTownLine 185 = .ok (.iconst 1, 1) := by decide +kernel
theorem dX12_aTownLine_186 : decode cX12_aTownLine 186 = .ok (.goto 4, 3) := by decide +kernel
theorem dX12_aTownLine_189 : decode cX12_aTownLine 189 = .ok (.iconst 0, 1) := by decide +kernel
theorem dX12_aTownLine_190 : decode cX12_aTownLine 190 = .ok (.istore 5, 2) := by decide +kernel
theorem dX12_aTownLine_192 : decode cX12_aTownLine 192 = .ok (.iload_n 2, 1) := by decide +kernel
theorem dX12_aTownLine_193 : decode cX12_aTownLine 193 = .ok (.iconst 1, 1) := by decide +kernel
theorem dX12_aTownLine_194 : decode cX12_aTownLine 194 = .ok (.if_icmp .ne 16, 3) := by decide +kernel
theorem dX12_aTownLine_197 : decode cX12_aTownLine 197 = .ok (.iload 4, 2) := by decide +kernel
theorem dX12_aTownLine_199 : decode cX12_aTownLine 199 = .ok (.iload 5, 2) := by decide +kernel
theorem dX12_aTownLine_201 : decode cX12_aTownLine 201 = .ok (.if_icmp .ne 9, 3) := by decide +kernel
theorem dX12_aTownLine_204 : decode cX12_aTownLine 204 = .ok (.aload_n 0, 1) := by decide +kernel
theorem dX12_aTownLine_205 : decode cX12_aTownLine 205 = .ok (.iconst 3, 1) := by decide +kernel
theorem dX12_aTownLine_206 : decode cX12_aTownLine 206 = .ok (.iload_n 1, 1) := by decide +kernel
theorem dX12_aTownLine_207 : decode cX12_aTownLine 207 = .ok (.invokevirtual 375, 3) := by decide +kernel
theorem dX12_aTownLine_210 : decode cX12_aTownLine 210 = .ok (.aload_n 0, 1) := by decide +kernel
theorem dX12_aTownLine_211 : decode cX12_aTownLine 211 = .ok (.getfield 56, 3) := by decide +kernel
theorem dX12_aTownLine_214 : decode cX12_aTownLine 214 = .ok (.iload_n 2, 1) := by decide +kernel
theorem dX12_aTownLine_215 : decode cX12_aTownLine 215 = .ok (.dup2, 1) := by decide +kernel
theorem dX12_aTownLine_216 : decode cX12_aTownLine 216 = .ok (.iaload, 1) := by decide +kernel
theorem dX12_aTownLine_217 : decode cX12_aTownLine 217 = .ok (.iconst 1, 1) := by decide +kernel
theorem dX12_aTownLine_218 : decode cX12_aTownLine 218 = .ok (.iadd, 1) := by decide +kernel
theorem dX12_aTownLine_219 : decode cX12_aTownLine 219 = .ok (.iastore, 1) := by decide +kernel
theorem dX12_aTownLine_220 : decode cX12_aTownLine 220 = .ok (.aload_n 0, 1) := by decide +kernel
theorem dX12_aTownLine_221 : decode cX12_aTownLine 221 = .ok (.getfield 56, 3) := by decide +kernel
theorem dX12_aTownLine_224 : decode cX12_aTownLine 224 = .ok (.iload_n 2, 1) := by decide +kernel
theorem dX12_aTownLine_225 : decode cX12_aTownLine 225 = .ok (.iaload, 1) := by decide +kernel
theorem dX12_aTownLine_226 : decode cX12_aTownLine 226 = .ok (.iload_n 2, 1) := by decide +kernel
theorem dX12_aTownLine_227 : decode cX12_aTownLine 227 = .ok (.invokestatic 381, 3) := by decide +kernel
theorem dX12_aTownLine_230 : decode cX12_aTownLine 230 = .ok (.if_icmp .le 9, 3) := by decide +kernel
theorem dX12_aTownLine_233 : decode cX12_aTownLine 233 = .ok (.aload_n 0, 1) := by decide +kernel
theorem dX12_aTownLine_234 : decode cX12_aTownLine 234 = .ok (.iconst 4, 1) := by decide +kernel
theorem dX12_aTownLine_235 : decode cX12_aTownLine 235 = .ok (.iload_n 1, 1) := by decide +kernel
theorem dX12_aTownLine_236 : decode cX12_aTownLine 236 = .ok (.invokevirtual 375, 3) := by decide +kernel
theorem dX12_aTownLine_239 : decode cX12_aTownLine 239 = .ok (.aload_n 0, 1) := by decide +kernel
theorem dX12_aTownLine_240 : decode cX12_aTownLine 240 = .ok (.dup, 1) := by decide +kernel
theorem dX12_aTownLine_241 : decode cX12_aTownLine 241 = .ok (.getfield 363, 3) := by decide +kernel
theorem dX12_aTownLine_244 : decode cX12_aTownLine 244 = .ok (.iconst 1, 1) := by decide +kernel
theorem dX12_aTownLine_245 : decode cX12_aTownLine 245 = .ok (.iadd, 1) := by decide +kernel
theorem dX12_aTownLine_246 : decode cX12_aTownLine 246 = .ok (.putfield 363, 3) := by decide +kernel
theorem dX12_aTownLine_249 : decode cX12_aTownLine 249 = .ok (.return_, 1) := by decide +kernel
theorem dX12_town_0 : decode cX12_town 0 = .ok (.aload_n 0, 1) := by decide +kernel
theorem dX12_town_1 : decode cX12_town 1 = .ok (.invokevirtual 384, 3) := by decide +kernel
theorem dX12_town_4 : decode cX12_town 4 = .ok (.aload_n 0, 1) := by decide +kernel
theorem dX12_town_5 : decode cX12_town 5 = .ok (.getfield 56, 3) := by decide +kernel
theorem dX12_town_8 : decode cX12_town 8 = .ok (.iconst 1, 1) := by decide +kernel
theorem dX12_town_9 : decode cX12_town 9 = .ok (.aload_n 0, 1) := by decide +kernel
theorem dX12_town_10 : decode cX12_town 10 = .ok (.getfield 7, 3) := by decide +kernel
theorem dX12_town_13 : decode cX12_town 13 = .ok (.iconst 0, 1) := by decide +kernel
theorem dX12_town_14 : decode cX12_town 14 = .ok (.iaload, 1) := by decide +kernel
theorem dX12_town_15 : decode cX12_town 15 = .ok (.iastore, 1) := by decide +kernel
theorem dX12_town_16 : decode cX12_town 16 = .ok (.aload_n 0, 1) := by decide +kernel
theorem dX12_town_17 : decode cX12_town 17 = .ok (.getfield 56, 3) := by decide +kernel
theorem dX12_town_20 : decode cX12_town 20 = .ok (.iconst 2, 1) := by decide +kernel
theorem dX12_town_21 : decode cX12_town 21 = .ok (.aload_n 0, 1) := by decide +kernel
theorem dX12_town_22 : decode cX12_town 22 = .ok (.getfield 7, 3) := by decide +kernel
theorem dX12_town_25 : decode cX12_town 25 = .ok (.iconst 1, 1) := by decide +kernel
theorem dX12_town_26 : decode cX12_town 26 = .ok (.iaload, 1) := by decide +kernel
theorem dX12_town_27 : decode cX12_town 27 = .ok (.iastore, 1) := by decide +kernel
theorem dX12_town_28 : decode cX12_town 28 = .ok (.aload_n 0, 1) := by decide +kernel
theorem dX12_town_29 : decode cX12_town 29 = .ok (.getfield 56, 3) := by decide +kernel
theorem dX12_town_32 : decode cX12_town 32 = .ok (.iconst 3, 1) := by decide +kernel
theorem dX12_town_33 : decode cX12_town 33 = .ok (.aload_n 0, 1) := by decide +kernel
theorem dX12_town_34 : decode cX12_town 34 = .ok (.getfield 7, 3) := by decide +kernel
theorem dX12_town_37 : decode cX12_town 37 = .ok (.iconst 3, 1) := by decide +kernel
theorem dX12_town_38 : decode cX12_town 38 = .ok (.iaload, 1) := by decide +kernel
theorem dX12_town_39 : decode cX12_town 39 = .ok (.iastore, 1) := by decide +kernel
theorem dX12_town_40 : decode cX12_town 40 = .ok (.aload_n 0, 1) := by decide +kernel
theorem dX12_town_41 : decode cX12_town 41 = .ok (.getfield 56, 3) := by decide +kernel
theorem dX12_town_44 : decode cX12_town 44 = .ok (.iconst 4, 1) := by decide +kernel
theorem dX12_town_45 : decode cX12_town 45 = .ok (.aload_n 0, 1) := by decide +kernel
theorem dX12_town_46 : decode cX12_town 46 = .ok (.getfield 7, 3) := by decide +kernel
theorem dX12_town_49 : decode cX12_town 49 = .ok (.iconst 2, 1) := by decide +kernel
theorem dX12_town_50 : decode cX12_town 50 = .ok (.iaload, 1) := by decide +kernel
theorem dX12_town_51 : decode cX12_town 51 = .ok (.iastore, 1) := by decide +kernel
theorem dX12_town_52 : decode cX12_town 52 = .ok (.aload_n 0, 1) := by decide +kernel
theorem dX12_town_53 : decode cX12_town 53 = .ok (.getfield 354, 3) := by decide +kernel
theorem dX12_town_56 : decode cX12_town 56 = .ok (.ifCond .ne 17, 3) := by decide +kernel
theorem dX12_town_59 : decode cX12_town 59 = .ok (.aload_n 0, 1) := by decide +kernel
theorem dX12_town_60 : decode cX12_town 60 = .ok (.getfield 330, 3) := by decide +kernel
theorem dX12_town_63 : decode cX12_town 63 = .ok (.ifCond .eq 10, 3) := by decide +kernel
theorem dX12_town_66 : decode cX12_town 66 = .ok (.aload_n 0, 1) := by decide +kernel
theorem dX12_town_67 : decode cX12_town 67 = .ok (.invokevirtual 387, 3) := by decide +kernel
theorem dX12_town_70 : decode cX12_town 70 = .ok (.goto (-18), 3) := by decide +kernel
theorem dX12_town_73 : decode cX12_town 73 = .ok (.aload_n 0, 1) := by decide +kernel
theorem dX12_town_74 : decode cX12_town 74 = .ok (.getfield 7, 3) := by decide +kernel
theorem dX12_town_77 : decode cX12_town 77 = .ok (.bipush 9, 2) := by decide +kernel
theorem dX12_town_79 : decode cX12_town 79 = .ok (.iaload, 1) := by decide +kernel
theorem dX12_town_80 : decode cX12_town 80 = .ok (.ifCond .eq 5, 3) := by decide +kernel
theorem dX12_town_83 : decode cX12_town 83 = .ok (.iconst (-1), 1) := by decide +kernel
theorem dX12_town_84 : decode cX12_town 84 = .ok (.ireturn, 1) := by decide +kernel
theorem dX12_town_85 : decode cX12_town 85 = .ok (.iconst 0, 1) := by decide +kernel
theorem dX12_town_86 : decode cX12_town 86 = .ok (.istore_n 1, 1) := by decide +kernel
theorem dX12_town_87 : decode cX12_town 87 = .ok (.iload_n 1, 1) := by decide +kernel
theorem dX12_town_88 : decode cX12_town 88 = .ok (.aload_n 0, 1) := by decide +kernel
theorem dX12_town_89 : decode cX12_town 89 = .ok (.getfield 363, 3) := by decide +kernel
theorem dX12_town_92 : decode cX12_town 92 = .ok (.if_icmp .ge 17, 3) := by decide +kernel
theorem dX12_town_95 : decode cX12_town 95 = .ok (.aload_n 0, 1) := by decide +kernel
theorem dX12_town_96 : decode cX12_town 96 = .ok (.bipush 6, 2) := by decide +kernel
theorem dX12_town_98 : decode cX12_town 98 = .ok (.iload_n 1, 1) := by decide +kernel
theorem dX12_town_99 : decode cX12_town 99 = .ok (.imul, 1) := by decide +kernel
theorem dX12_town_100 : decode cX12_town 100 = .ok (.invokevirtual 390, 3) := by decide +kernel
theorem dX12_town_103 : decode cX12_town 103 = .ok (.iinc 1 1, 3) := by decide +kernel
theorem dX12_town_106 : decode cX12_town 106 = .ok (.goto (-19), 3) := by decide +kernel
theorem dX12_town_109 : decode cX12_town 109 = .ok (.aload_n 0, 1) := by decide +kernel
theorem dX12_town_110 : decode cX12_town 110 = .ok (.invokevirtual 65, 3) := by decide +kernel
theorem dX12_town_113 : decode cX12_town 113 = .ok (.aload_n 0, 1) := by decide +kernel
theorem dX12_town_114 : decode cX12_town 114 = .ok (.getfield 363, 3) := by decide +kernel
theorem dX12_town_117 : decode cX12_town 117 = .ok (.ireturn, 1) := by decide +kernel
theorem dX12_comes_0 : decode cX12_comes 0 = .ok (.aload_n 0, 1) := by decide +kernel
theorem dX12_comes_1 : decode cX12_comes 1 = .ok (.getfield 53, 3) := by decide +kernel
theorem dX12_comes_4 : decode cX12_comes 4 = .ok (.iload_n 1, 1) := by decide +kernel
theorem dX12_comes_5 : decode cX12_comes 5 = .ok (.iaload, 1) := by decide +kernel
theorem dX12_comes_6 : decode cX12_comes 6 = .ok (.istore_n 2, 1) := by decide +kernel
theorem dX12_comes_7 : decode cX12_comes 7 = .ok (.iload_n 2, 1) := by decide +kernel
theorem dX12_comes_8 : decode cX12_comes 8 = .ok (.iconst 1, 1) := by decide +kernel
theorem dX12_comes_9 : decode cX12_comes 9 = .ok (.if_icmp .ne 163, 3) := by decide +kernel
theorem dX12_comes_12 : decode cX12_comes 12 = .ok (.bipush 30, 2) := by decide +kernel
theorem dX12_comes_14 : decode cX12_comes 14 = .ok (.bipush 7, 2) := by decide +kernel
theorem dX12_comes_16 : decode cX12_comes 16 = .ok (.aload_n 0, 1) := by decide +kernel
theorem dX12_comes_17 : decode cX12_comes 17 = .ok (.getfield 7, 3) := by decide +kernel
theorem dX12_comes_20 : decode cX12_comes 20 = .ok (.iconst 0, 1) := by decide +kernel
theorem dX12_comes_21 : decode cX12_comes 21 = .ok (.iaload, 1) := by decide +kernel
theorem dX12_comes_22 : decode cX12_comes 22 = .ok (.imul, 1) := by decide +kernel
theorem dX12_comes_23 : decode cX12_comes 23 = .ok (.iadd, 1) := by decide +kernel
theorem dX12_comes_24 : decode cX12_comes 24 = .ok (.istore_n 3, 1) := by decide +kernel
theorem dX12_comes_25 : decode cX12_comes 25 = .ok (.aload_n 0, 1) := by decide +kernel
theorem dX12_comes_26 : decode cX12_comes 26 = .ok (.getfield 53, 3) := by decide +kernel
theorem dX12_comes_29 : decode cX12_comes 29 = .ok (.iload_n 1, 1) := by decide +kernel
theorem dX12_comes_30 : decode cX12_comes 30 = .ok (.iconst 1, 1) := by decide +kernel
theorem dX12_comes_31 : decode cX12_comes 31 = .ok (.iadd, 1) := by decide +kernel
theorem dX12_comes_32 : decode cX12_comes 32 = .ok (.iaload, 1) := by decide +kernel
theorem dX12_comes_33 : decode cX12_comes 33 = .ok (.aload_n 0, 1) := by decide +kernel
theorem dX12_comes_34 : decode cX12_comes 34 = .ok (.getfield 53, 3) := by decide +kernel
theorem dX12_comes_37 : decode cX12_comes 37 = .ok (.iload_n 1, 1) := by decide +kernel
theorem dX12_comes_38 : decode cX12_comes 38 = .ok (.iconst 3, 1) := by decide +kernel
theorem dX12_comes_39 : decode cX12_comes 39 = .ok (.iadd, 1) := by decide +kernel
theorem dX12_comes_40 : decode cX12_comes 40 = .ok (.iaload, 1) := by decide +kernel
theorem dX12_comes_41 : decode cX12_comes 41 = .ok (.if_icmp .gt 22, 3) := by decide +kernel
theorem dX12_comes_44 : decode cX12_comes 44 = .ok (.aload_n 0, 1) := by decide +kernel
theorem dX12_comes_45 : decode cX12_comes 45 = .ok (.getfield 53, 3) := by decide +kernel
theorem dX12_comes_48 : decode cX12_comes 48 = .ok (.iload_n 1, 1) := by decide +kernel
theorem dX12_comes_49 : decode cX12_comes 49 = .ok (.iconst 2, 1) := by decide +kernel
theorem dX12_comes_50 : decode cX12_comes 50 = .ok (.iadd, 1) := by decide +kernel
theorem dX12_comes_51 : decode cX12_comes 51 = .ok (.iaload, 1) := by decide +kernel
theorem dX12_comes_52 : decode cX12_comes 52 = .ok (.aload_n 0, 1) := by decide +kernel
theorem dX12_comes_53 : decode cX12_comes 53 = .ok (.getfield 53, 3) := by decide +kernel
theorem dX12_comes_56 : decode cX12_comes 56 = .ok (.iload_n 1, 1) := by decide +kernel
theorem dX12_comes_57 : decode cX12_comes 57 = .ok (.iconst 4, 1) := by decide +kernel
theorem dX12_comes_58 : decode cX12_comes 58 = .ok (.iadd, 1) := by decide +kernel
theorem dX12_comes_59 : decode cX12_comes 59 = .ok (.iaload, 1) := by decide +kernel
theorem dX12_comes_60 : decode cX12_comes 60 = .ok (.if_icmp .le 7, 3) := by decide +kernel
theorem dX12_comes_63 : decode cX12_comes 63 = .ok (.iconst 1, 1) := by decide +kernel
theorem dX12_comes_64 : decode cX12_comes 64 = .ok (.goto 4, 3) := by decide +kernel
theorem dX12_comes_67 : decode cX12_comes 67 = .ok (.iconst 0, 1) := by decide +kernel
theorem dX12_comes_68 : decode cX12_comes 68 = .ok (.istore 4, 2) := by decide +kernel
theorem dX12_comes_70 : decode cX12_comes 70 = .ok (.iconst 0, 1) := by decide +kernel
theorem dX12_comes_71 : decode cX12_comes 71 = .ok (.istore 5, 2) := by decide +kernel
theorem dX12_comes_73 : decode cX12_comes 73 = .ok (.iload 5, 2) := by decide +kernel
theorem dX12_comes_75 : decode cX12_comes 75 = .ok (.iconst 4, 1) := by decide +kernel
theorem dX12_comes_76 : decode cX12_comes 76 = .ok (.if_icmp .ge 43, 3) := by decide +kernel
theorem dX12_comes_79 : decode cX12_comes 79 = .ok (.aload_n 0, 1) := by decide +kernel
theorem dX12_comes_80 : decode cX12_comes 80 = .ok (.getfield 7, 3) := by decide +kernel
theorem dX12_comes_83 : decode cX12_comes 83 = .ok (.iload_n 3, 1) := by decide +kernel
theorem dX12_comes_84 : decode cX12_comes 84 = .ok (.iload 5, 2) := by decide +kernel
theorem dX12_comes_86 : decode cX12_comes 86 = .ok (.iadd, 1) := by decide +kernel
theorem dX12_comes_87 : decode cX12_comes 87 = .ok (.aload_n 0, 1) := by decide +kernel
theorem dX12_comes_88 : decode cX12_comes 88 = .ok (.getfield 53, 3) := by decide +kernel
theorem dX12_comes_91 : decode cX12_comes 91 = .ok (.iload_n 1, 1) := by decide +kernel
theorem dX12_comes_92 : decode cX12_comes 92 = .ok (.iconst 1, 1) := by decide +kernel
theorem dX12_comes_93 : decode cX12_comes 93 = .ok (.iadd, 1) := by decide +kernel
theorem dX12_comes_94 : decode cX12_comes 94 = .ok (.iload 4, 2) := by decide +kernel
theorem dX12_comes_96 : decode cX12_comes 96 = .ok (.ifCond .eq 12, 3) := by decide +kernel
theorem dX12_comes_99 : decode cX12_comes 99 = .ok (.iload 5, 2) := by decide +kernel
theorem dX12_comes_101 : decode cX12_comes 101 = .ok (.iconst 2, 1) := by decide +kernel
theorem dX12_comes_102 : decode cX12_comes 102 = .ok (.iadd, 1) := by decide +kernel
theorem dX12_comes_103 : decode cX12_comes 103 = .ok (.iconst 4, 1) := by decide +kernel
theorem dX12_comes_104 : decode cX12_comes 104 = .ok (.irem, 1) := by decide +kernel
theorem dX12_comes_105 : decode cX12_comes 105 = .ok (.goto 5, 3) := by decide +kernel
theorem dX12_comes_108 : decode cX12_comes 108 = .ok (.iload 5, 2) := by decide +kernel
theorem dX12_comes_110 : decode cX12_comes 110 = .ok (.iadd, 1) := by decide +kernel
theorem dX12_comes_111 : decode cX12_comes 111 = .ok (.iaload, 1) := by decide +kernel
theorem dX12_comes_112 : decode cX12_comes 112 = .ok (.iastore, 1) := by decide +kernel
theorem dX12_comes_113 : decode cX12_comes 113 = .ok (.iinc 5 1, 3) := by decide +kernel
theorem dX12_comes_116 : decode cX12_comes 116 = .ok (.goto (-43), 3) := by decide +kernel
theorem dX12_comes_119 : decode cX12_comes 119 = .ok (.aload_n 0, 1) := by decide +kernel
theorem dX12_comes_120 : decode cX12_comes 120 = .ok (.getfield 7, 3) := by decide +kernel
theorem dX12_comes_123 : decode cX12_comes 123 = .ok (.iload_n 3, 1) := by decide +kernel
theorem dX12_comes_124 : decode cX12_comes 124 = .ok (.iconst 4, 1) := by decide +kernel
theorem dX12_comes_125 : decode cX12_comes 125 = .ok (.iadd, 1) := by decide +kernel
theorem dX12_comes_126 : decode cX12_comes 126 = .ok (.aload_n 0, 1) := by decide +kernel
theorem dX12_comes_127 : decode cX12_comes 127 = .ok (.getfield 53, 3) := by decide +kernel
theorem dX12_comes_130 : decode cX12_comes 130 = .ok (.iload_n 1, 1) := by decide +kernel
theorem dX12_comes_131 : decode cX12_comes 131 = .ok (.iconst 5, 1) := by decide +kernel
theorem dX12_comes_132 : decode cX12_comes 132 = .ok (.iadd, 1) := by decide +kernel
theorem dX12_comes_133 : decode cX12_comes 133 = .ok (.iaload, 1) := by decide +kernel
theorem dX12_comes_134 : decode cX12_comes 134 = .ok (.iastore, 1) := by decide +kernel
theorem dX12_comes_135 : decode cX12_comes 135 = .ok (.aload_n 0, 1) := by decide +kernel
theorem dX12_comes_136 : decode cX12_comes 136 = .ok (.getfield 7, 3) := by decide +kernel
theorem dX12_comes_139 : decode cX12_comes 139 = .ok (.iload_n 3, 1) := by decide +kernel
theorem dX12_comes_140 : decode cX12_comes 140 = .ok (.iconst 5, 1) := by decide +kernel
theorem dX12_comes_141 : decode cX12_comes 141 = .ok (.iadd, 1) := by decide +kernel
theorem dX12_comes_142 : decode cX12_comes 142 = .ok (.aload_n 0, 1) := by decide +kernel
theorem dX12_comes_143 : decode cX12_comes 143 = .ok (.getfield 7, 3) := by decide +kernel
theorem dX12_comes_146 : decode cX12_comes 146 = .ok (.iconst 4, 1) := by decide +kernel
theorem dX12_comes_147 : decode cX12_comes 147 = .ok (.iaload, 1) := by decide +kernel
theorem dX12_comes_148 : decode cX12_comes 148 = .ok (.iastore, 1) := by decide +kernel
theorem dX12_comes_149 : decode cX12_comes 149 = .ok (.aload_n 0, 1) := by decide +kernel
theorem dX12_comes_150 : decode cX12_comes 150 = .ok (.getfield 7, 3) := by decide +kernel
theorem dX12_comes_153 : decode cX12_comes 153 = .ok (.iload_n 3, 1) := by decide +kernel
theorem dX12_comes_154 : decode cX12_comes 154 = .ok (.bipush 6, 2) := by decide +kernel
theorem dX12_comes_156 : decode cX12_comes 156 = .ok (.iadd, 1) := by decide +kernel
theorem dX12_comes_157 : decode cX12_comes 157 = .ok (.iconst (-1), 1) := by decide +kernel
theorem dX12_comes_158 : decode cX12_comes 158 = .ok (.iastore, 1) := by decide +kernel
theorem dX12_comes_159 : decode cX12_comes 159 = .ok (.aload_n 0, 1) := by decide +kernel
theorem dX12_comes_160 : decode cX12_comes 160 = .ok (.getfield 7, 3) := by decide +kernel
theorem dX12_comes_163 : decode cX12_comes 163 = .ok (.iconst 0, 1) := by decide +kernel
theorem dX12_comes_164 : decode cX12_comes 164 = .ok (.dup2, 1) := by decide +kernel
theorem dX12_comes_165 : decode cX12_comes 165 = .ok (.iaload, 1) := by decide +kernel
theorem dX12_comes_166 : decode cX12_comes 166 = .ok (.iconst 1, 1) := by decide +kernel
theorem dX12_comes_167 : decode cX12_comes 167 = .ok (.iadd, 1) := by decide +kernel
theorem dX12_comes_168 : decode cX12_comes 168 = .ok (.iastore, 1) := by decide +kernel
theorem dX12_comes_169 : decode cX12_comes 169 = .ok (.goto 234, 3) := by decide +kernel
theorem dX12_comes_172 : decode cX12_comes 172 = .ok (.iload_n 2, 1) := by decide +kernel
theorem dX12_comes_173 : decode cX12_comes 173 = .ok (.iconst 2, 1) := by decide +kernel
theorem dX12_comes_174 : decode cX12_comes 174 = .ok (.if_icmp .ne 107, 3) := by decide +kernel
theorem dX12_comes_177 : decode cX12_comes 177 = .ok (.bipush 120, 2) := by decide +kernel
theorem dX12_comes_179 : decode cX12_comes 179 = .ok (.bipush 8, 2) := by decide +kernel
theorem dX12_comes_181 : decode cX12_comes 181 = .ok (.aload_n 0, 1) := by decide +kernel
theorem dX12_comes_182 : decode cX12_comes 182 = .ok (.getfield 7, 3) := by decide +kernel
theorem dX12_comes_185 : decode cX12_comes 185 = .ok (.iconst 1, 1) := by decide +kernel
theorem dX12_comes_186 : decode cX12_comes 186 = .ok (.iaload, 1) := by decide +kernel
theorem dX12_comes_187 : decode cX12_comes 187 = .ok (.imul, 1) := by decide +kernel
theorem dX12_comes_188 : decode cX12_comes 188 = .ok (.iadd, 1) := by decide +kernel
theorem dX12_comes_189 : decode cX12_comes 189 = .ok (.istore_n 3, 1) := by decide +kernel
theorem dX12_comes_190 : decode cX12_comes 190 = .ok (.iconst 0, 1) := by decide +kernel
theorem dX12_comes_191 : decode cX12_comes 191 = .ok (.istore 4, 2) := by decide +kernel
theorem dX12_comes_193 : decode cX12_comes 193 = .ok (.iload 4, 2) := by decide +kernel
theorem dX12_comes_195 : decode cX12_comes 195 = .ok (.iconst 4, 1) := by decide +kernel
theorem dX12_comes_196 : decode cX12_comes 196 = .ok (.if_icmp .ge 29, 3) := by decide +kernel
theorem dX12_comes_199 : decode cX12_comes 199 = .ok (.aload_n 0, 1) := by decide +kernel
theorem dX12_comes_200 : decode cX12_comes 200 = .ok (.getfield 7, 3) := by decide +kernel
theorem dX12_comes_203 : decode cX12_comes 203 = .ok (.iload_n 3, 1) := by decide +kernel
theorem dX12_comes_204 : decode cX12_comes 204 = .ok (.iload 4, 2) := by decide +kernel
theorem dX12_comes_206 : decode cX12_comes 206 = .ok (.iadd, 1) := by decide +kernel
theorem dX12_comes_207 : decode cX12_comes 207 = .ok (.aload_n 0, 1) := by decide +kernel
theorem dX12_comes_208 : decode cX12_comes 208 = .ok (.getfield 53, 3) := by decide +kernel
theorem dX12_comes_211 : decode cX12_comes 211 = .ok (.iload_n 1, 1) := by decide +kernel
theorem dX12_comes_212 : decode cX12_comes 212 = .ok (.iconst 1, 1) := by decide +kernel
theorem dX12_comes_213 : decode cX12_comes 213 = .ok (.iadd, 1) := by decide +kernel
theorem dX12_comes_214 : decode cX12_comes 214 = .ok (.iload 4, 2) := by decide +kernel
theorem dX12_comes_216 : decode cX12_comes 216 = .ok (.iadd, 1) := by decide +kernel
theorem dX12_comes_217 : decode cX12_comes 217 = .ok (.iaload, 1) := by decide +kernel
theorem dX12_comes_218 : decode cX12_comes 218 = .ok (.iastore, 1) := by decide +kernel
theorem dX12_comes_219 : decode cX12_comes 219 = .ok (.iinc 4 1, 3) := by decide +kernel
theorem dX12_comes_222 : decode cX12_comes 222 = .ok (.goto (-29), 3) := by decide +kernel
theorem dX12_comes_225 : decode cX12_comes 225 = .ok (.aload_n 0, 1) := by decide +kernel
theorem dX12_comes_226 : decode cX12_comes 226 = .ok (.getfield 7, 3) := by decide +kernel
theorem dX12_comes_229 : decode cX12_comes 229 = .ok (.iload_n 3, 1) := by decide +kernel
theorem dX12_comes_230 : decode cX12_comes 230 = .ok (.iconst 4, 1) := by decide +kernel
theorem dX12_comes_231 : decode cX12_comes 231 = .ok (.iadd, 1) := by decide +kernel
theorem dX12_comes_232 : decode cX12_comes 232 = .ok (.aload_n 0, 1) := by decide +kernel
theorem dX12_comes_233 : decode cX12_comes 233 = .ok (.getfield 7, 3) := by decide +kernel
theorem dX12_comes_236 : decode cX12_comes 236 = .ok (.iconst 4, 1) := by decide +kernel
theorem dX12_comes_237 : decode cX12_comes 237 = .ok (.iaload, 1) := by decide +kernel
theorem dX12_comes_238 : decode cX12_comes 238 = .ok (.iastore, 1) := by decide +kernel
theorem dX12_comes_239 : decode cX12_comes 239 = .ok (.aload_n 0, 1) := by decide +kernel
theorem dX12_comes_240 : decode cX12_comes 240 = .ok (.getfield 7, 3) := by decide +kernel
theorem dX12_comes_243 : decode cX12_comes 243 = .ok (.iload_n 3, 1) := by decide +kernel
theorem dX12_comes_244 : decode cX12_comes 244 = .ok (.iconst 5, 1) := by decide +kernel
theorem dX12_comes_245 : decode cX12_comes 245 = .ok (.iadd, 1) := by decide +kernel
theorem dX12_comes_246 : decode cX12_comes 246 = .ok (.iconst (-1), 1) := by decide +kernel
theorem dX12_comes_247 : decode cX12_comes 247 = .ok (.iastore, 1) := by decide +kernel
theorem dX12_comes_248 : decode cX12_comes 248 = .ok (.aload_n 0, 1) := by decide +kernel
theorem dX12_comes_249 : decode cX12_comes 249 = .ok (.getfield 7, 3) := by decide +kernel
theorem dX12_comes_252 : decode cX12_comes 252 = .ok (.iload_n 3, 1) := by decide +kernel
theorem dX12_comes_253 : decode cX12_comes 253 = .ok (.bipush 6, 2) := by decide +kernel
theorem dX12_comes_255 : decode cX12_comes 255 = .ok (.iadd, 1) := by decide +kernel
theorem dX12_comes_256 : decode cX12_comes 256 = .ok (.iconst (-1), 1) := by decide +kernel
theorem dX12_comes_257 : decode cX12_comes 257 = .ok (.iastore, 1) := by decide +kernel
theorem dX12_comes_258 : decode cX12_comes 258 = .ok (.aload_n 0, 1) := by decide +kernel
theorem dX12_comes_259 : decode cX12_comes 259 = .ok (.getfield 7, 3) := by decide +kernel
theorem dX12_comes_262 : decode cX12_comes 262 = .ok (.iload_n 3, 1) := by decide +kernel
theorem dX12_comes_263 : decode cX12_comes 263 = .ok (.bipush 7, 2) := by decide +kernel
theorem dX12_comes_265 : decode cX12_comes 265 = .ok (.iadd, 1) := by decide +kernel
theorem dX12_comes_266 : decode cX12_comes 266 = .ok (.iconst (-1), 1) := by decide +kernel
theorem dX12_comes_267 : decode cX12_comes 267 = .ok (.iastore, 1) := by decide +kernel
theorem dX12_comes_268 : decode cX12_comes 268 = .ok (.aload_n 0, 1) := by decide +kernel
theorem dX12_comes_269 : decode cX12_comes 269 = .ok (.getfield 7, 3) := by decide +kernel
theorem dX12_comes_272 : decode cX12_comes 272 = .ok (.iconst 1, 1) := by decide +kernel
theorem dX12_comes_273 : decode cX12_comes 273 = .ok (.dup2, 1) := by decide +kernel
theorem dX12_comes_274 : decode cX12_comes 274 = .ok (.iaload, 1) := by decide +kernel
theorem dX12_comes_275 : decode cX12_comes 275 = .ok (.iconst 1, 1) := by decide +kernel
theorem dX12_comes_276 : decode cX12_comes 276 = .ok (.iadd, 1) := by decide +kernel
theorem dX12_comes_277 : decode cX12_comes 277 = .ok (.iastore, 1) := by decide +kernel
theorem dX12_comes_278 : decode cX12_comes 278 = .ok (.goto 125, 3) := by decide +kernel
theorem dX12_comes_281 : decode cX12_comes 281 = .ok (.iload_n 2, 1) := by decide +kernel
theorem dX12_comes_282 : decode cX12_comes 282 = .ok (.iconst 3, 1) := by decide +kernel
theorem dX12_comes_283 : decode cX12_comes 283 = .ok (.if_icmp .ne 68, 3) := by decide +kernel
theorem dX12_comes_286 : decode cX12_comes 286 = .ok (.aload_n 0, 1) := by decide +kernel
theorem dX12_comes_287 : decode cX12_comes 287 = .ok (.getfield 7, 3) := by decide +kernel
theorem dX12_comes_290 : decode cX12_comes 290 = .ok (.sipush 202, 3) := by decide +kernel
theorem dX12_comes_293 : decode cX12_comes 293 = .ok (.iconst 2, 1) := by decide +kernel
theorem dX12_comes_294 : decode cX12_comes 294 = .ok (.aload_n 0, 1) := by decide +kernel
theorem dX12_comes_295 : decode cX12_comes 295 = .ok (.getfield 7, 3) := by decide +kernel
theorem dX12_comes_298 : decode cX12_comes 298 = .ok (.iconst 3, 1) := by decide +kernel
theorem dX12_comes_299 : decode cX12_comes 299 = .ok (.iaload, 1) := by decide +kernel
theorem dX12_comes_300 : decode cX12_comes 300 = .ok (.imul, 1) := by decide +kernel
theorem dX12_comes_301 : decode cX12_comes 301 = .ok (.iadd, 1) := by decide +kernel
theorem dX12_comes_302 : decode cX12_comes 302 = .ok (.aload_n 0, 1) := by decide +kernel
theorem dX12_comes_303 : decode cX12_comes 303 = .ok (.getfield 53, 3) := by decide +kernel
theorem dX12_comes_306 : decode cX12_comes 306 = .ok (.iload_n 1, 1) := by decide +kernel
theorem dX12_comes_307 : decode cX12_comes 307 = .ok (.iconst 1, 1) := by decide +kernel
theorem dX12_comes_308 : decode cX12_comes 308 = .ok (.iadd, 1) := by decide +kernel
theorem dX12_comes_309 : decode cX12_comes 309 = .ok (.iaload, 1) := by decide +kernel
theorem dX12_comes_310 : decode cX12_comes 310 = .ok (.iastore, 1) := by decide +kernel
theorem dX12_comes_311 : decode cX12_comes 311 = .ok (.aload_n 0, 1) := by decide +kernel
theorem dX12_comes_312 : decode cX12_comes 312 = .ok (.getfield 7, 3) := by decide +kernel
theorem dX12_comes_315 : decode cX12_comes 315 = .ok (.sipush 202, 3) := by decide +kernel
theorem dX12_comes_318 : decode cX12_comes 318 = .ok (.iconst 2, 1) := by decide +kernel
theorem dX12_comes_319 : decode cX12_comes 319 = .ok (.aload_n 0, 1) := by decide +kernel
theorem dX12_comes_320 : decode cX12_comes 320 = .ok (.getfield 7, 3) := by decide +kernel
theorem dX12_comes_323 : decode cX12_comes 323 = .ok (.iconst 3, 1) := by decide +kernel
theorem dX12_comes_324 : decode cX12_comes 324 = .ok (.iaload, 1) := by decide +kernel
theorem dX12_comes_325 : decode cX12_comes 325 = .ok (.imul, 1) := by decide +kernel
theorem dX12_comes_326 : decode cX12_comes 326 = .ok (.iadd, 1) := by decide +kernel
theorem dX12_comes_327 : decode cX12_comes 327 = .ok (.iconst 1, 1) := by decide +kernel
theorem dX12_comes_328 : decode cX12_comes 328 = .ok (.iadd, 1) := by decide +kernel
theorem dX12_comes_329 : decode cX12_comes 329 = .ok (.aload_n 0, 1) := by decide +kernel
theorem dX12_comes_330 : decode cX12_comes 330 = .ok (.getfield 53, 3) := by decide +kernel
theorem dX12_comes_333 : decode cX12_comes 333 = .ok (.iload_n 1, 1) := by decide +kernel
theorem dX12_comes_334 : decode cX12_comes 334 = .ok (.iconst 2, 1) := by decide +kernel
theorem dX12_comes_335 : decode cX12_comes 335 = .ok (.iadd, 1) := by decide +kernel
theorem dX12_comes_336 : decode cX12_comes 336 = .ok (.iaload, 1) := by decide +kernel
theorem dX12_comes_337 : decode cX12_comes 337 = .ok (.iastore, 1) := by decide +kernel
theorem dX12_comes_338 : decode cX12_comes 338 = .ok (.aload_n 0, 1) := by decide +kernel
theorem dX12_comes_339 : decode cX12_comes 339 = .ok (.getfield 7, 3) := by decide +kernel
theorem dX12_comes_342 : decode cX12_comes 342 = .ok (.iconst 3, 1) := by decide +kernel
theorem dX12_comes_343 : decode cX12_comes 343 = .ok (.dup2, 1) := by decide +kernel
theorem dX12_comes_344 : decode cX12_comes 344 = .ok (.iaload, 1) := by decide +kernel
theorem dX12_comes_345 : decode cX12_comes 345 = .ok (.iconst 1, 1) := by decide +kernel
theorem dX12_comes_346 : decode cX12_comes 346 = .ok (.iadd, 1) := by decide +kernel
theorem dX12_comes_347 : decode cX12_comes 347 = .ok (.iastore, 1) := by decide +kernel
theorem dX12_comes_348 : decode cX12_comes 348 = .ok (.goto 55, 3) := by decide +kernel
theorem dX12_comes_351 : decode cX12_comes 351 = .ok (.iconst 0, 1) := by decide +kernel
theorem dX12_comes_352 : decode cX12_comes 352 = .ok (.istore_n 3, 1) := by decide +kernel
theorem dX12_comes_353 : decode cX12_comes 353 = .ok (.iload_n 3, 1) := by decide +kernel
theorem dX12_comes_354 : decode cX12_comes 354 = .ok (.iconst 4, 1) := by decide +kernel
theorem dX12_comes_355 : decode cX12_comes 355 = .ok (.if_icmp .ge 38, 3) := by decide +kernel
theorem dX12_comes_358 : decode cX12_comes 358 = .ok (.aload_n 0, 1) := by decide +kernel
theorem dX12_comes_359 : decode cX12_comes 359 = .ok (.getfield 7, 3) := by decide +kernel
theorem dX12_comes_362 : decode cX12_comes 362 = .ok (.sipush 170, 3) := by decide +kernel
theorem dX12_comes_365 : decode cX12_comes 365 = .ok (.iconst 4, 1) := by decide +kernel
theorem dX12_comes_366 : decode cX12_comes 366 = .ok (.aload_n 0, 1) := by decide +kernel
theorem dX12_comes_367 : decode cX12_comes 367 = .ok (.getfield 7, 3) := by decide +kernel
theorem dX12_comes_370 : decode cX12_comes 370 = .ok (.iconst 2, 1) := by decide +kernel
theorem dX12_comes_371 : decode cX12_comes 371 = .ok (.iaload, 1) := by decide +kernel
theorem dX12_comes_372 : decode cX12_comes 372 = .ok (.imul, 1) := by decide +kernel
theorem dX12_comes_373 : decode cX12_comes 373 = .ok (.iadd, 1) := by decide +kernel
theorem dX12_comes_374 : decode cX12_comes 374 = .ok (.iload_n 3, 1) := by decide +kernel
theorem dX12_comes_375 : decode cX12_comes 375 = .ok (.iadd, 1) := by decide +kernel
theorem dX12_comes_376 : decode cX12_comes 376 = .ok (.aload_n 0, 1) := by decide +kernel
theorem dX12_comes_377 : decode cX12_comes 377 = .ok (.getfield 53, 3) := by decide +kernel
theorem dX12_comes_380 : decode cX12_comes 380 = .ok (.iload_n 1, 1) := by decide +kernel
theorem dX12_comes_381 : decode cX12_comes 381 = .ok (.iconst 1, 1) := by decide +kernel
theorem dX12_comes_382 : decode cX12_comes 382 = .ok (.iadd, 1) := by decide +kernel
theorem dX12_comes_383 : decode cX12_comes 383 = .ok (.iload_n 3, 1) := by decide +kernel
theorem dX12_comes_384 : decode cX12_comes 384 = .ok (.iadd, 1) := by decide +kernel
theorem dX12_comes_385 : decode cX12_comes 385 = .ok (.iaload, 1) := by decide +kernel
theorem dX12_comes_386 : decode cX12_comes 386 = .ok (.iastore, 1) := by decide +kernel
theorem dX12_comes_387 : decode cX12_comes 387 = .ok (.iinc 3 1, 3) := by decide +kernel
theorem dX12_comes_390 : decode cX12_comes 390 = .ok (.goto (-37), 3) := by decide +kernel
theorem dX12_comes_393 : decode cX12_comes 393 = .ok (.aload_n 0, 1) := by decide +kernel
theorem dX12_comes_394 : decode cX12_comes 394 = .ok (.getfield 7, 3) := by decide +kernel
theorem dX12_comes_397 : decode cX12_comes 397 = .ok (.iconst 2, 1) := by decide +kernel
theorem dX12_comes_398 : decode cX12_comes 398 = .ok (.dup2, 1) := by decide +kernel
theorem dX12_comes_399 : decode cX12_comes 399 = .ok (.iaload, 1) := by decide +kernel
theorem dX12_comes_400 : decode cX12_comes 400 = .ok (.iconst 1, 1) := by decide +kernel
theorem dX12_comes_401 : decode cX12_comes 401 = .ok (.iadd, 1) := by decide +kernel
theorem dX12_comes_402 : decode cX12_comes 402 = .ok (.iastore, 1) := by decide +kernel
theorem dX12_comes_403 : decode cX12_comes 403 = .ok (.return_, 1) := by decide +kernel
theorem dX12_aTest_0 : decode cX12_aTest 0 = .ok (.aload_n 0, 1) := by decide +kernel
theorem dX12_aTest_1 : decode cX12_aTest 1 = .ok (.getfield 62, 3) := by decide +kernel
theorem dX12_aTest_4 : decode cX12_aTest 4 = .ok (.iconst 0, 1) := by decide +kernel
theorem dX12_aTest_5 : decode cX12_aTest 5 = .ok (.aload_n 0, 1) := by decide +kernel
theorem dX12_aTest_6 : decode cX12_aTest 6 = .ok (.bipush 32, 2) := by decide +kernel
theorem dX12_aTest_8 : decode cX12_aTest 8 = .ok (.invokevirtual 393, 3) := by decide +kernel
theorem dX12_aTest_11 : decode cX12_aTest 11 = .ok (.ifCond .eq 7, 3) := by decide +kernel
theorem dX12_aTest_14 : decode cX12_aTest 14 = .ok (.iconst 1, 1) := by decide +kernel
theorem dX12_aTest_15 : decode cX12_aTest 15 = .ok (.goto 4, 3) := by decide +kernel
theorem dX12_aTest_18 : decode cX12_aTest 18 = .ok (.iconst 0, 1) := by decide +kernel
theorem dX12_aTest_19 : decode cX12_aTest 19 = .ok (.iastore, 1) := by decide +kernel
theorem dX12_aTest_20 : decode cX12_aTest 20 = .ok (.aload_n 0, 1) := by decide +kernel
theorem dX12_aTest_21 : decode cX12_aTest 21 = .ok (.getfield 62, 3) := by decide +kernel
theorem dX12_aTest_24 : decode cX12_aTest 24 = .ok (.iconst 1, 1) := by decide +kernel
theorem dX12_aTest_25 : decode cX12_aTest 25 = .ok (.aload_n 0, 1) := by decide +kernel
theorem dX12_aTest_26 : decode cX12_aTest 26 = .ok (.getfield 339, 3) := by decide +kernel
theorem dX12_aTest_29 : decode cX12_aTest 29 = .ok (.iastore, 1) := by decide +kernel
theorem dX12_aTest_30 : decode cX12_aTest 30 = .ok (.aload_n 0, 1) := by decide +kernel
theorem dX12_aTest_31 : decode cX12_aTest 31 = .ok (.getfield 62, 3) := by decide +kernel
theorem dX12_aTest_34 : decode cX12_aTest 34 = .ok (.iconst 2, 1) := by decide +kernel
theorem dX12_aTest_35 : decode cX12_aTest 35 = .ok (.bipush 61, 2) := by decide +kernel
theorem dX12_aTest_37 : decode cX12_aTest 37 = .ok (.iastore, 1) := by decide +kernel
theorem dX12_aTest_38 : decode cX12_aTest 38 = .ok (.aload_n 0, 1) := by decide +kernel
theorem dX12_aTest_39 : decode cX12_aTest 39 = .ok (.getfield 62, 3) := by decide +kernel
theorem dX12_aTest_42 : decode cX12_aTest 42 = .ok (.iconst 3, 1) := by decide +kernel
theorem dX12_aTest_43 : decode cX12_aTest 43 = .ok (.iconst 1, 1) := by decide +kernel
theorem dX12_aTest_44 : decode cX12_aTest 44 = .ok (.iastore, 1) := by decide +kernel
theorem dX12_aTest_45 : decode cX12_aTest 45 = .ok (.aload_n 0, 1) := by decide +kernel
theorem dX12_aTest_46 : decode cX12_aTest 46 = .ok (.getfield 354, 3) := by decide +kernel
theorem dX12_aTest_49 : decode cX12_aTest 49 = .ok (.ifCond .ne 25, 3) := by decide +kernel
theorem dX12_aTest_52 : decode cX12_aTest 52 = .ok (.aload_n 0, 1) := by decide +kernel
theorem dX12_aTest_53 : decode cX12_aTest 53 = .ok (.getfield 330, 3) := by decide +kernel
theorem dX12_aTest_56 : decode cX12_aTest 56 = .ok (.iconst 3, 1) := by decide +kernel
theorem dX12_aTest_57 : decode cX12_aTest 57 = .ok (.if_icmp .ne 17, 3) := by decide +kernel
theorem dX12_aTest_60 : decode cX12_aTest 60 = .ok (.aload_n 0, 1) := by decide +kernel
theorem dX12_aTest_61 : decode cX12_aTest 61 = .ok (.getfield 339, 3) := by decide +kernel
theorem dX12_aTest_64 : decode cX12_aTest 64 = .ok (.bipush 10, 2) := by decide +kernel
theorem dX12_aTest_66 : decode cX12_aTest 66 = .ok (.bipush 16, 2) := by decide +kernel
theorem dX12_aTest_68 : decode cX12_aTest 68 = .ok (.invokestatic 68, 3) := by decide +kernel
theorem dX12_aTest_71 : decode cX12_aTest 71 = .ok (.ifCond .ne 8, 3) := by decide +kernel
theorem dX12_aTest_74 : decode cX12_aTest 74 = .ok (.aload_n 0, 1) := by decide +kernel
theorem dX12_aTest_75 : decode cX12_aTest 75 = .ok (.invokevirtual 360, 3) := by decide +kernel
theorem dX12_aTest_78 : decode cX12_aTest 78 = .ok (.return_, 1) := by decide +kernel
theorem dX12_aTest_79 : decode cX12_aTest 79 = .ok (.aload_n 0, 1) := by decide +kernel
theorem dX12_aTest_80 : decode cX12_aTest 80 = .ok (.invokevirtual 357, 3) := by decide +kernel
theorem dX12_aTest_83 : decode cX12_aTest 83 = .ok (.aload_n 0, 1) := by decide +kernel
theorem dX12_aTest_84 : decode cX12_aTest 84 = .ok (.getfield 62, 3) := by decide +kernel
theorem dX12_aTest_87 : decode cX12_aTest 87 = .ok (.iconst 1, 1) := by decide +kernel
theorem dX12_aTest_88 : decode cX12_aTest 88 = .ok (.iaload, 1) := by decide +kernel
theorem dX12_aTest_89 : decode cX12_aTest 89 = .ok (.bipush 10, 2) := by decide +kernel
theorem dX12_aTest_91 : decode cX12_aTest 91 = .ok (.if_icmp .ne 4, 3) := by decide +kernel
theorem dX12_aTest_94 : decode cX12_aTest 94 = .ok (.return_, 1) := by decide +kernel
theorem dX12_aTest_95 : decode cX12_aTest 95 = .ok (.aload_n 0, 1) := by decide +kernel
theorem dX12_aTest_96 : decode cX12_aTest 96 = .ok (.getfield 62, 3) := by decide +kernel
theorem dX12_aTest_99 : decode cX12_aTest 99 = .ok (.iconst 2, 1) := by decide +kernel
theorem dX12_aTest_100 : decode cX12_aTest 100 = .ok (.aload_n 0, 1) := by decide +kernel
theorem dX12_aTest_101 : decode cX12_aTest 101 = .ok (.getfield 348, 3) := by decide +kernel
theorem dX12_aTest_104 : decode cX12_aTest 104 = .ok (.iastore, 1) := by decide +kernel
theorem dX12_aTest_105 : decode cX12_aTest 105 = .ok (.aload_n 0, 1) := by decide +kernel
theorem dX12_aTest_106 : decode cX12_aTest 106 = .ok (.getfield 330, 3) := by decide +kernel
theorem dX12_aTest_109 : decode cX12_aTest 109 = .ok (.iconst 2, 1) := by decide +kernel
theorem dX12_aTest_110 : decode cX12_aTest 110 = .ok (.if_icmp .ne 21, 3) := by decide +kernel
theorem dX12_aTest_113 : decode cX12_aTest 113 = .ok (.aload_n 0, 1) := by decide +kernel
theorem dX12_aTest_114 : decode cX12_aTest 114 = .ok (.getfield 348, 3) := by decide +kernel
theorem dX12_aTest_117 : decode cX12_aTest 117 = .ok (.bipush 58, 2) := by decide +kernel
theorem dX12_aTest_119 : decode cX12_aTest 119 = .ok (.if_icmp .eq 12, 3) := by decide +kernel
theorem dX12_aTest_122 : decode cX12_aTest 122 = .ok (.aload_n 0, 1) := by decide +kernel
theorem dX12_aTest_123 : decode cX12_aTest 123 = .ok (.getfield 348, 3) := by decide +kernel
theorem dX12_aTest_126 : decode cX12_aTest 126 = .ok (.bipush 59, 2) := by decide +kernel
theorem dX12_aTest_128 : decode cX12_aTest 128 = .ok (.if_icmp .ne 8, 3) := by decide +kernel
theorem dX12_aTest_131 : decode cX12_aTest 131 = .ok (.aload_n 0, 1) := by decide +kernel
theorem dX12_aTest_132 : decode cX12_aTest 132 = .ok (.invokevirtual 360, 3) := by decide +kernel
theorem dX12_aTest_135 : decode cX12_aTest 135 = .ok (.return_, 1) := by decide +kernel
theorem dX12_aTest_136 : decode cX12_aTest 136 = .ok (.aload_n 0, 1) := by decide +kernel
theorem dX12_aTest_137 : decode cX12_aTest 137 = .ok (.invokevirtual 357, 3) := by decide +kernel
theorem dX12_aTest_140 : decode cX12_aTest 140 = .ok (.aload_n 0, 1) := by decide +kernel
theorem dX12_aTest_141 : decode cX12_aTest 141 = .ok (.getfield 62, 3) := by decide +kernel
theorem dX12_aTest_144 : decode cX12_aTest 144 = .ok (.iconst 3, 1) := by decide +kernel
theorem dX12_aTest_145 : decode cX12_aTest 145 = .ok (.aload_n 0, 1) := by decide +kernel
theorem dX12_aTest_146 : decode cX12_aTest 146 = .ok (.invokevirtual 369, 3) := by decide +kernel
theorem dX12_aTest_149 : decode cX12_aTest 149 = .ok (.iastore, 1) := by decide +kernel
theorem dX12_aTest_150 : decode cX12_aTest 150 = .ok (.return_, 1) := by decide +kernel
theorem dX12_puts_0 : decode cX12_puts 0 = .ok (.aload_n 0, 1) := by decide +kernel
theorem dX12_puts_1 : decode cX12_puts 1 = .ok (.getfield 363, 3) := by decide +kernel
theorem dX12_puts_4 : decode cX12_puts 4 = .ok (.bipush 16, 2) := by decide +kernel
theorem dX12_puts_6 : decode cX12_puts 6 = .ok (.if_icmp .ge 18, 3) := by decide +kernel
theorem dX12_puts_9 : decode cX12_puts 9 = .ok (.aload_n 0, 1) := by decide +kernel
theorem dX12_puts_10 : decode cX12_puts 10 = .ok (.getfield 59, 3) := by decide +kernel
theorem dX12_puts_13 : decode cX12_puts 13 = .ok (.bipush 20, 2) := by decide +kernel
theorem dX12_puts_15 : decode cX12_puts 15 = .ok (.aload_n 0, 1) := by decide +kernel
theorem dX12_puts_16 : decode cX12_puts 16 = .ok (.getfield 363, 3) := by decide +kernel
theorem dX12_puts_19 : decode cX12_puts 19 = .ok (.imul, 1) := by decide +kernel
theorem dX12_puts_20 : decode cX12_puts 20 = .ok (.iload_n 1, 1) := by decide +kernel
theorem dX12_puts_21 : decode cX12_puts 21 = .ok (.iadd, 1) := by decide +kernel
theorem dX12_puts_22 : decode cX12_puts 22 = .ok (.iload_n 2, 1) := by decide +kernel
theorem dX12_puts_23 : decode cX12_puts 23 = .ok (.iastore, 1) := by decide +kernel
theorem dX12_puts_24 : decode cX12_puts 24 = .ok (.return_, 1) := by decide +kernel
theorem dX12_aLawLine_0 : decode cX12_aLawLine 0 = .ok (.aload_n 0, 1) := by decide +kernel
theorem dX12_aLawLine_1 : decode cX12_aLawLine 1 = .ok (.getfield 363, 3) := by decide +kernel
theorem dX12_aLawLine_4 : decode cX12_aLawLine 4 = .ok (.bipush 16, 2) := by decide +kernel
theorem dX12_aLawLine_6 : decode cX12_aLawLine 6 = .ok (.if_icmp .lt 12, 3) := by decide +kernel
theorem dX12_aLawLine_9 : decode cX12_aLawLine 9 = .ok (.aload_n 0, 1) := by decide +kernel
theorem dX12_aLawLine_10 : decode cX12_aLawLine 10 = .ok (.iconst 5, 1) := by decide +kernel
theorem dX12_aLawLine_11 : decode cX12_aLawLine 11 = .ok (.aload_n 0, 1) := by decide +kernel
theorem dX12_aLawLine_12 : decode cX12_aLawLine 12 = .ok (.getfield 327, 3) := by decide +kernel
theorem dX12_aLawLine_15 : decode cX12_aLawLine 15 = .ok (.invokevirtual 375, 3) := by decide +kernel
theorem dX12_aLawLine_18 : decode cX12_aLawLine 18 = .ok (.iconst 0, 1) := by decide +kernel
theorem dX12_aLawLine_19 : decode cX12_aLawLine 19 = .ok (.istore_n 1, 1) := by decide +kernel
theorem dX12_aLawLine_20 : decode cX12_aLawLine 20 = .ok (.aload_n 0, 1) := by decide +kernel
theorem dX12_aLawLine_21 : decode cX12_aLawLine 21 = .ok (.bipush 30, 2) := by decide +kernel
theorem dX12_aLawLine_23 : decode cX12_aLawLine 23 = .ok (.invokevirtual 393, 3) := by decide +kernel
theorem dX12_aLawLine_26 : decode cX12_aLawLine 26 = .ok (.ifCond .eq 81, 3) := by decide +kernel
theorem dX12_aLawLine_29 : decode cX12_aLawLine 29 = .ok (.iconst 1, 1) := by decide +kernel
theorem dX12_aLawLine_30 : decode cX12_aLawLine 30 = .ok (.istore_n 2, 1) := by decide +kernel
theorem dX12_aLawLine_31 : decode cX12_aLawLine 31 = .ok (.iload_n 2, 1) := by decide +kernel
theorem dX12_aLawLine_32 : decode cX12_aLawLine 32 = .ok (.ifCond .eq 69, 3) := by decide +kernel
theorem dX12_aLawLine_35 : decode cX12_aLawLine 35 = .ok (.iload_n 1, 1) := by decide +kernel
theorem dX12_aLawLine_36 : decode cX12_aLawLine 36 = .ok (.iconst 3, 1) := by decide +kernel
theorem dX12_aLawLine_37 : decode cX12_aLawLine 37 = .ok (.if_icmp .le 12, 3) := by decide +kernel
theorem dX12_aLawLine_40 : decode cX12_aLawLine 40 = .ok (.aload_n 0, 1) := by decide +kernel
theorem dX12_aLawLine_41 : decode cX12_aLawLine 41 = .ok (.iconst 5, 1) := by decide +kernel
theorem dX12_aLawLine_42 : decode cX12_aLawLine 42 = .ok (.aload_n 0, 1) := by decide +kernel
theorem dX12_aLawLine_43 : decode cX12_aLawLine 43 = .ok (.getfield 327, 3) := by decide +kernel
theorem dX12_aLawLine_46 : decode cX12_aLawLine 46 = .ok (.invokevirtual 375, 3) := by decide +kernel
theorem dX12_aLawLine_49 : decode cX12_aLawLine 49 = .ok (.aload_n 0, 1) := by decide +kernel
theorem dX12_aLawLine_50 : decode cX12_aLawLine 50 = .ok (.invokevirtual 396, 3) := by decide +kernel
theorem dX12_aLawLine_53 : decode cX12_aLawLine 53 = .ok (.iconst 0, 1) := by decide +kernel
theorem dX12_aLawLine_54 : decode cX12_aLawLine 54 = .ok (.istore_n 3, 1) := by decide +kernel
theorem dX12_aLawLine_55 : decode cX12_aLawLine 55 = .ok (.iload_n 3, 1) := by decide +kernel
theorem dX12_aLawLine_56 : decode cX12_aLawLine 56 = .ok (.iconst 4, 1) := by decide +kernel
theorem dX12_aLawLine_57 : decode cX12_aLawLine 57 = .ok (.if_icmp .ge 31, 3) := by decide +kernel
theorem dX12_aLawLine_60 : decode cX12_aLawLine 60 = .ok (.iload_n 1, 1) := by decide +kernel
theorem dX12_aLawLine_61 : decode cX12_aLawLine 61 = .ok (.iconst 4, 1) := by decide +kernel
theorem dX12_aLawLine_62 : decode cX12_aLawLine 62 = .ok (.if_icmp .ge 26, 3) := by decide +kernel
theorem dX12_aLawLine_65 : decode cX12_aLawLine 65 = .ok (.aload_n 0, 1) := by decide +kernel
theorem dX12_aLawLine_66 : decode cX12_aLawLine 66 = .ok (.iconst 1, 1) := by decide +kernel
theorem dX12_aLawLine_67 : decode cX12_aLawLine 67 = .ok (.iconst 4, 1) := by decide +kernel
theorem dX12_aLawLine_68 : decode cX12_aLawLine 68 = .ok (.iload_n 1, 1) := by decide +kernel
theorem dX12_aLawLine_69 : decode cX12_aLawLine 69 = .ok (.imul, 1) := by decide +kernel
theorem dX12_aLawLine_70 : decode cX12_aLawLine 70 = .ok (.iadd, 1) := by decide +kernel
theorem dX12_aLawLine_71 : decode cX12_aLawLine 71 = .ok (.iload_n 3, 1) := by decide +kernel
theorem dX12_aLawLine_72 : decode cX12_aLawLine 72 = .ok (.iadd, 1) := by decide +kernel
theorem dX12_aLawLine_73 : decode cX12_aLawLine 73 = .ok (.aload_n 0, 1) := by decide +kernel
theorem dX12_aLawLine_74 : decode cX12_aLawLine 74 = .ok (.getfield 62, 3) := by decide +kernel
theorem dX12_aLawLine_77 : decode cX12_aLawLine 77 = .ok (.iload_n 3, 1) := by decide +kernel
theorem dX12_aLawLine_78 : decode cX12_aLawLine 78 = .ok (.iaload, 1) := by decide +kernel
theorem dX12_aLawLine_79 : decode cX12_aLawLine 79 = .ok (.invokevirtual 399, 3) := by decide +kernel
theorem dX12_aLawLine_82 : decode cX12_aLawLine 82 = .ok (.iinc 3 1, 3) := by decide +kernel
theorem dX12_aLawLine_85 : decode cX12_aLawLine 85 = .ok (.goto (-30), 3) := by decide +kernel
theorem dX12_aLawLine_88 : decode cX12_aLawLine 88 = .ok (.iinc 1 1, 3) := by decide +kernel
theorem dX12_aLawLine_91 : decode cX12_aLawLine 91 = .ok (.aload_n 0, 1) := by decide +kernel
theorem dX12_aLawLine_92 : decode cX12_aLawLine 92 = .ok (.bipush 31, 2) := by decide +kernel
theorem dX12_aLawLine_94 : decode cX12_aLawLine 94 = .ok (.invokevirtual 393, 3) := by decide +kernel
theorem dX12_aLawLine_97 : decode cX12_aLawLine 97 = .ok (.istore_n 2, 1) := by decide +kernel
theorem dX12_aLawLine_98 : decode cX12_aLawLine 98 = .ok (.goto (-67), 3) := by decide +kernel
theorem dX12_aLawLine_101 : decode cX12_aLawLine 101 = .ok (.aload_n 0, 1) := by decide +kernel
theorem dX12_aLawLine_102 : decode cX12_aLawLine 102 = .ok (.bipush 58, 2) := by decide +kernel
theorem dX12_aLawLine_104 : decode cX12_aLawLine 104 = .ok (.invokevirtual 378, 3) := by decide +kernel
theorem dX12_aLawLine_107 : decode cX12_aLawLine 107 = .ok (.aload_n 0, 1) := by decide +kernel
theorem dX12_aLawLine_108 : decode cX12_aLawLine 108 = .ok (.getfield 354, 3) := by decide +kernel
theorem dX12_aLawLine_111 : decode cX12_aLawLine 111 = .ok (.ifCond .ne 25, 3) := by decide +kernel
theorem dX12_aLawLine_114 : decode cX12_aLawLine 114 = .ok (.aload_n 0, 1) := by decide +kernel
theorem dX12_aLawLine_115 : decode cX12_aLawLine 115 = .ok (.getfield 330, 3) := by decide +kernel
theorem dX12_aLawLine_118 : decode cX12_aLawLine 118 = .ok (.iconst 3, 1) := by decide +kernel
theorem dX12_aLawLine_119 : decode cX12_aLawLine 119 = .ok (.if_icmp .ne 17, 3) := by decide +kernel
theorem dX12_aLawLine_122 : decode cX12_aLawLine 122 = .ok (.aload_n 0, 1) := by decide +kernel
theorem dX12_aLawLine_123 : decode cX12_aLawLine 123 = .ok (.getfield 339, 3) := by decide +kernel
theorem dX12_aLawLine_126 : decode cX12_aLawLine 126 = .ok (.bipush 20, 2) := by decide +kernel
theorem dX12_aLawLine_128 : decode cX12_aLawLine 128 = .ok (.bipush 21, 2) := by decide +kernel
theorem dX12_aLawLine_130 : decode cX12_aLawLine 130 = .ok (.invokestatic 68, 3) := by decide +kernel
theorem dX12_aLawLine_133 : decode cX12_aLawLine 133 = .ok (.ifCond .ne 8, 3) := by decide +kernel
theorem dX12_aLawLine_136 : decode cX12_aLawLine 136 = .ok (.aload_n 0, 1) := by decide +kernel
theorem dX12_aLawLine_137 : decode cX12_aLawLine 137 = .ok (.invokevirtual 360, 3) := by decide +kernel
theorem dX12_aLawLine_140 : decode cX12_aLawLine 140 = .ok (.return_, 1) := by decide +kernel
theorem dX12_aLawLine_141 : decode cX12_aLawLine 141 = .ok (.aload_n 0, 1) := by decide +kernel
theorem dX12_aLawLine_142 : decode cX12_aLawLine 142 = .ok (.bipush 17, 2) := by decide +kernel
theorem dX12_aLawLine_144 : decode cX12_aLawLine 144 = .ok (.aload_n 0, 1) := by decide +kernel
theorem dX12_aLawLine_145 : decode cX12_aLawLine 145 = .ok (.getfield 339, 3) := by decide +kernel
theorem dX12_aLawLine_148 : decode cX12_aLawLine 148 = .ok (.invokevirtual 399, 3) := by decide +kernel
theorem dX12_aLawLine_151 : decode cX12_aLawLine 151 = .ok (.aload_n 0, 1) := by decide +kernel
theorem dX12_aLawLine_152 : decode cX12_aLawLine 152 = .ok (.invokevirtual 357, 3) := by decide +kernel
theorem dX12_aLawLine_155 : decode cX12_aLawLine 155 = .ok (.aload_n 0, 1) := by decide +kernel
theorem dX12_aLawLine_156 : decode cX12_aLawLine 156 = .ok (.bipush 59, 2) := by decide +kernel
theorem dX12_aLawLine_158 : decode cX12_aLawLine 158 = .ok (.invokevirtual 378, 3) := by decide +kernel
theorem dX12_aLawLine_161 : decode cX12_aLawLine 161 = .ok (.aload_n 0, 1) := by decide +kernel
theorem dX12_aLawLine_162 : decode cX12_aLawLine 162 = .ok (.iconst 0, 1) := by decide +kernel
theorem dX12_aLawLine_163 : decode cX12_aLawLine 163 = .ok (.iload_n 1, 1) := by decide +kernel
theorem dX12_aLawLine_164 : decode cX12_aLawLine 164 = .ok (.invokevirtual 399, 3) := by decide +kernel
theorem dX12_aLawLine_167 : decode cX12_aLawLine 167 = .ok (.aload_n 0, 1) := by decide +kernel
theorem dX12_aLawLine_168 : decode cX12_aLawLine 168 = .ok (.dup, 1) := by decide +kernel
theorem dX12_aLawLine_169 : decode cX12_aLawLine 169 = .ok (.getfield 363, 3) := by decide +kernel
theorem dX12_aLawLine_172 : decode cX12_aLawLine 172 = .ok (.iconst 1, 1) := by decide +kernel
theorem dX12_aLawLine_173 : decode cX12_aLawLine 173 = .ok (.iadd, 1) := by decide +kernel
theorem dX12_aLawLine_174 : decode cX12_aLawLine 174 = .ok (.putfield 363, 3) := by decide +kernel
theorem dX12_aLawLine_177 : decode cX12_aLawLine 177 = .ok (.return_, 1) := by decide +kernel
theorem dX12_law_0 : decode cX12_law 0 = .ok (.aload_n 0, 1) := by decide +kernel
theorem dX12_law_1 : decode cX12_law 1 = .ok (.invokevirtual 384, 3) := by decide +kernel
theorem dX12_law_4 : decode cX12_law 4 = .ok (.aload_n 0, 1) := by decide +kernel
theorem dX12_law_5 : decode cX12_law 5 = .ok (.getfield 354, 3) := by decide +kernel
theorem dX12_law_8 : decode cX12_law 8 = .ok (.ifCond .ne 17, 3) := by decide +kernel
theorem dX12_law_11 : decode cX12_law 11 = .ok (.aload_n 0, 1) := by decide +kernel
theorem dX12_law_12 : decode cX12_law 12 = .ok (.getfield 330, 3) := by decide +kernel
theorem dX12_law_15 : decode cX12_law 15 = .ok (.ifCond .eq 10, 3) := by decide +kernel
theorem dX12_law_18 : decode cX12_law 18 = .ok (.aload_n 0, 1) := by decide +kernel
theorem dX12_law_19 : decode cX12_law 19 = .ok (.invokevirtual 402, 3) := by decide +kernel
theorem dX12_law_22 : decode cX12_law 22 = .ok (.goto (-18), 3) := by decide +kernel
theorem dX12_law_25 : decode cX12_law 25 = .ok (.aload_n 0, 1) := by decide +kernel
theorem dX12_law_26 : decode cX12_law 26 = .ok (.getfield 7, 3) := by decide +kernel
theorem dX12_law_29 : decode cX12_law 29 = .ok (.bipush 9, 2) := by decide +kernel
theorem dX12_law_31 : decode cX12_law 31 = .ok (.iaload, 1) := by decide +kernel
theorem dX12_law_32 : decode cX12_law 32 = .ok (.ifCond .eq 5, 3) := by decide +kernel
theorem dX12_law_35 : decode cX12_law 35 = .ok (.iconst (-1), 1) := by decide +kernel
theorem dX12_law_36 : decode cX12_law 36 = .ok (.ireturn, 1) := by decide +kernel
theorem dX12_law_37 : decode cX12_law 37 = .ok (.iconst 0, 1) := by decide +kernel
theorem dX12_law_38 : decode cX12_law 38 = .ok (.istore_n 1, 1) := by decide +kernel
theorem dX12_law_39 : decode cX12_law 39 = .ok (.iload_n 1, 1) := by decide +kernel
theorem dX12_law_40 : decode cX12_law 40 = .ok (.sipush 320, 3) := by decide +kernel
theorem dX12_law_43 : decode cX12_law 43 = .ok (.if_icmp .ge 25, 3) := by decide +kernel
theorem dX12_law_46 : decode cX12_law 46 = .ok (.aload_n 0, 1) := by decide +kernel
theorem dX12_law_47 : decode cX12_law 47 = .ok (.getfield 7, 3) := by decide +kernel
theorem dX12_law_50 : decode cX12_law 50 = .ok (.sipush 340, 3) := by decide +kernel
theorem dX12_law_53 : decode cX12_law 53 = .ok (.iload_n 1, 1) := by decide +kernel
theorem dX12_law_54 : decode cX12_law 54 = .ok (.iadd, 1) := by decide +kernel
theorem dX12_law_55 : decode cX12_law 55 = .ok (.aload_n 0, 1) := by decide +kernel
theorem dX12_law_56 : decode cX12_law 56 = .ok (.getfield 59, 3) := by decide +kernel
theorem dX12_law_59 : decode cX12_law 59 = .ok (.iload_n 1, 1) := by decide +kernel
theorem dX12_law_60 : decode cX12_law 60 = .ok (.iaload, 1) := by decide +kernel
theorem dX12_law_61 : decode cX12_law 61 = .ok (.iastore, 1) := by decide +kernel
theorem dX12_law_62 : decode cX12_law 62 = .ok (.iinc 1 1, 3) := by decide +kernel
theorem dX12_law_65 : decode cX12_law 65 = .ok (.goto (-26), 3) := by decide +kernel
theorem dX12_law_68 : decode cX12_law 68 = .ok (.aload_n 0, 1) := by decide +kernel
theorem dX12_law_69 : decode cX12_law 69 = .ok (.getfield 7, 3) := by decide +kernel
theorem dX12_law_72 : decode cX12_law 72 = .ok (.bipush 6, 2) := by decide +kernel
theorem dX12_law_74 : decode cX12_law 74 = .ok (.aload_n 0, 1) := by decide +kernel
theorem dX12_law_75 : decode cX12_law 75 = .ok (.getfield 363, 3) := by decide +kernel
theorem dX12_law_78 : decode cX12_law 78 = .ok (.iastore, 1) := by decide +kernel
theorem dX12_law_79 : decode cX12_law 79 = .ok (.aload_n 0, 1) := by decide +kernel
theorem dX12_law_80 : decode cX12_law 80 = .ok (.getfield 363, 3) := by decide +kernel
theorem dX12_law_83 : decode cX12_law 83 = .ok (.ireturn, 1) := by decide +kernel
theorem dX12_fault_0 : decode cX12_fault 0 = .ok (.iload_n 1, 1) := by decide +kernel
theorem dX12_fault_1 : decode cX12_fault 1 = .ok (.ifCond .ne 13, 3) := by decide +kernel
theorem dX12_fault_4 : decode cX12_fault 4 = .ok (.aload_n 0, 1) := by decide +kernel
theorem dX12_fault_5 : decode cX12_fault 5 = .ok (.getfield 7, 3) := by decide +kernel
theorem dX12_fault_8 : decode cX12_fault 8 = .ok (.bipush 9, 2) := by decide +kernel
theorem dX12_fault_10 : decode cX12_fault 10 = .ok (.iaload, 1) := by decide +kernel
theorem dX12_fault_11 : decode cX12_fault 11 = .ok (.goto 19, 3) := by decide +kernel
theorem dX12_fault_14 : decode cX12_fault 14 = .ok (.iload_n 1, 1) := by decide +kernel
theorem dX12_fault_15 : decode cX12_fault 15 = .ok (.iconst 1, 1) := by decide +kernel
theorem dX12_fault_16 : decode cX12_fault 16 = .ok (.if_icmp .ne 13, 3) := by decide +kernel
theorem dX12_fault_19 : decode cX12_fault 19 = .ok (.aload_n 0, 1) := by decide +kernel
theorem dX12_fault_20 : decode cX12_fault 20 = .ok (.getfield 7, 3) := by decide +kernel
theorem dX12_fault_23 : decode cX12_fault 23 = .ok (.bipush 10, 2) := by decide +kernel
theorem dX12_fault_25 : decode cX12_fault 25 = .ok (.iaload, 1) := by decide +kernel
theorem dX12_fault_26 : decode cX12_fault 26 = .ok (.goto 4, 3) := by decide +kernel
theorem dX12_fault_29 : decode cX12_fault 29 = .ok (.iconst (-1), 1) := by decide +kernel
theorem dX12_fault_30 : decode cX12_fault 30 = .ok (.ireturn, 1) := by decide +kernel
theorem dX12_isAlone_0 : decode cX12_isAlone 0 = .ok (.iconst 1, 1) := by decide +kernel
theorem dX12_isAlone_1 : decode cX12_isAlone 1 = .ok (.istore_n 2, 1) := by decide +kernel
theorem dX12_isAlone_2 : decode cX12_isAlone 2 = .ok (.iconst 0, 1) := by decide +kernel
theorem dX12_isAlone_3 : decode cX12_isAlone 3 = .ok (.istore_n 3, 1) := by decide +kernel
theorem dX12_isAlone_4 : decode cX12_isAlone 4 = .ok (.iload_n 3, 1) := by decide +kernel
theorem dX12_isAlone_5 : decode cX12_isAlone 5 = .ok (.aload_n 0, 1) := by decide +kernel
theorem dX12_isAlone_6 : decode cX12_isAlone 6 = .ok (.getfield 7, 3) := by decide +kernel
theorem dX12_isAlone_9 : decode cX12_isAlone 9 = .ok (.iconst 1, 1) := by decide +kernel
theorem dX12_isAlone_10 : decode cX12_isAlone 10 = .ok (.iaload, 1) := by decide +kernel
theorem dX12_isAlone_11 : decode cX12_isAlone 11 = .ok (.if_icmp .ge 47, 3) := by decide +kernel
theorem dX12_isAlone_14 : decode cX12_isAlone 14 = .ok (.iload_n 2, 1) := by decide +kernel
theorem dX12_isAlone_15 : decode cX12_isAlone 15 = .ok (.ifCond .eq 35, 3) := by decide +kernel
theorem dX12_isAlone_18 : decode cX12_isAlone 18 = .ok (.iload_n 3, 1) := by decide +kernel
theorem dX12_isAlone_19 : decode cX12_isAlone 19 = .ok (.iload_n 1, 1) := by decide +kernel
theorem dX12_isAlone_20 : decode cX12_isAlone 20 = .ok (.if_icmp .eq 26, 3) := by decide +kernel
theorem dX12_isAlone_23 : decode cX12_isAlone 23 = .ok (.aload_n 0, 1) := by decide +kernel
theorem dX12_isAlone_24 : decode cX12_isAlone 24 = .ok (.iload_n 3, 1) := by decide +kernel
theorem dX12_isAlone_25 : decode cX12_isAlone 25 = .ok (.invokevirtual 215, 3) := by decide +kernel
theorem dX12_isAlone_28 : decode cX12_isAlone 28 = .ok (.ifCond .eq 18, 3) := by decide +kernel
theorem dX12_isAlone_31 : decode cX12_isAlone 31 = .ok (.aload_n 0, 1) := by decide +kernel
theorem dX12_isAlone_32 : decode cX12_isAlone 32 = .ok (.iload_n 3, 1) := by decide +kernel
theorem dX12_isAlone_33 : decode cX12_isAlone 33 = .ok (.iconst 2, 1) := by decide +kernel
theorem dX12_isAlone_34 : decode cX12_isAlone 34 = .ok (.invokevirtual 83, 3) := by decide +kernel
theorem dX12_isAlone_37 : decode cX12_isAlone 37 = .ok (.aload_n 0, 1) := by decide +kernel
theorem dX12_isAlone_38 : decode cX12_isAlone 38 = .ok (.iload_n 1, 1) := by decide +kernel
theorem dX12_isAlone_39 : decode cX12_isAlone 39 = .ok (.iconst 2, 1) := by decide +kernel
theorem dX12_isAlone_40 : decode cX12_isAlone 40 = .ok (.invokevirtual 83, 3) := by decide +kernel
theorem dX12_isAlone_43 : decode cX12_isAlone 43 = .ok (.if_icmp .eq 7, 3) := by decide +kernel
theorem dX12_isAlone_46 : decode cX12_isAlone 46 = .ok (.iconst 1, 1) := by decide +kernel
theorem dX12_isAlone_47 : decode cX12_isAlone 47 = .ok (.goto 4, 3) := by decide +kernel
theorem dX12_isAlone_50 : decode cX12_isAlone 50 = .ok (.iconst 0, 1) := by decide +kernel
theorem dX12_isAlone_51 : decode cX12_isAlone 51 = .ok (.istore_n 2, 1) := by decide +kernel
theorem dX12_isAlone_52 : decode cX12_isAlone 52 = .ok (.iinc 3 1, 3) := by decide +kernel
theorem dX12_isAlone_55 : decode cX12_isAlone 55 = .ok (.goto (-51), 3) := by decide +kernel
theorem dX12_isAlone_58 : decode cX12_isAlone 58 = .ok (.iload_n 2, 1) := by decide +kernel
theorem dX12_isAlone_59 : decode cX12_isAlone 59 = .ok (.ireturn, 1) := by decide +kernel
theorem dX12_greatest_0 : decode cX12_greatest 0 = .ok (.iconst 0, 1) := by decide +kernel
theorem dX12_greatest_1 : decode cX12_greatest 1 = .ok (.istore_n 2, 1) := by decide +kernel
theorem dX12_greatest_2 : decode cX12_greatest 2 = .ok (.iconst 0, 1) := by decide +kernel
theorem dX12_greatest_3 : decode cX12_greatest 3 = .ok (.istore_n 3, 1) := by decide +kernel
theorem dX12_greatest_4 : decode cX12_greatest 4 = .ok (.iload_n 3, 1) := by decide +kernel
theorem dX12_greatest_5 : decode cX12_greatest 5 = .ok (.aload_n 0, 1) := by decide +kernel
theorem dX12_greatest_6 : decode cX12_greatest 6 = .ok (.getfield 7, 3) := by decide +kernel
theorem dX12_greatest_9 : decode cX12_greatest 9 = .ok (.iconst 3, 1) := by decide +kernel
theorem dX12_greatest_10 : decode cX12_greatest 10 = .ok (.iaload, 1) := by decide +kernel
theorem dX12_greatest_11 : decode cX12_greatest 11 = .ok (.if_icmp .ge 55, 3) := by decide +kernel
theorem dX12_greatest_14 : decode cX12_greatest 14 = .ok (.aload_n 0, 1) := by decide +kernel
theorem dX12_greatest_15 : decode cX12_greatest 15 = .ok (.iload_n 1, 1) := by decide +kernel
theorem dX12_greatest_16 : decode cX12_greatest 16 = .ok (.aload_n 0, 1) := by decide +kernel
theorem dX12_greatest_17 : decode cX12_greatest 17 = .ok (.getfield 7, 3) := by decide +kernel
theorem dX12_greatest_20 : decode cX12_greatest 20 = .ok (.sipush 202, 3) := by decide +kernel
theorem dX12_greatest_23 : decode cX12_greatest 23 = .ok (.iconst 2, 1) := by decide +kernel
theorem dX12_greatest_24 : decode cX12_greatest 24 = .ok (.iload_n 3, 1) := by decide +kernel
theorem dX12_greatest_25 : decode cX12_greatest 25 = .ok (.imul, 1) := by decide +kernel
theorem dX12_greatest_26 : decode cX12_greatest 26 = .ok (.iadd, 1) := by decide +kernel
theorem dX12_greatest_27 : decode cX12_greatest 27 = .ok (.iaload, 1) := by decide +kernel
theorem dX12_greatest_28 : decode cX12_greatest 28 = .ok (.aload_n 0, 1) := by decide +kernel
theorem dX12_greatest_29 : decode cX12_greatest 29 = .ok (.getfield 7, 3) := by decide +kernel
theorem dX12_greatest_32 : decode cX12_greatest 32 = .ok (.sipush 202, 3) := by decide +kernel
theorem dX12_greatest_35 : decode cX12_greatest 35 = .ok (.iconst 2, 1) := by decide +kernel
theorem dX12_greatest_36 : decode cX12_greatest 36 = .ok (.iload_n 3, 1) := by decide +kernel
theorem dX12_greatest_37 : decode cX12_greatest 37 = .ok (.imul, 1) := by decide +kernel
theorem dX12_greatest_38 : decode cX12_greatest 38 = .ok (.iadd, 1) := by decide +kernel
theorem dX12_greatest_39 : decode cX12_greatest 39 = .ok (.iconst 1, 1) := by decide +kernel
theorem dX12_greatest_40 : decode cX12_greatest 40 = .ok (.iadd, 1) := by decide +kernel
theorem dX12_greatest_41 : decode cX12_greatest 41 = .ok (.iaload, 1) := by decide +kernel
theorem dX12_greatest_42 : decode cX12_greatest 42 = .ok (.invokevirtual 244, 3) := by decide +kernel
theorem dX12_greatest_45 : decode cX12_greatest 45 = .ok (.istore 4, 2) := by decide +kernel
theorem dX12_greatest_47 : decode cX12_greatest 47 = .ok (.iload 4, 2) := by decide +kernel
theorem dX12_greatest_49 : decode cX12_greatest 49 = .ok (.iload_n 2, 1) := by decide +kernel
theorem dX12_greatest_50 : decode cX12_greatest 50 = .ok (.if_icmp .le 8, 3) := by decide +kernel
theorem dX12_greatest_53 : decode cX12_greatest 53 = .ok (.iload 4, 2) := by decide +kernel
theorem dX12_greatest_55 : decode cX12_greatest 55 = .ok (.goto 4, 3) := by decide +kernel
theorem dX12_greatest_58 : decode cX12_greatest 58 = .ok (.iload_n 2, 1) := by decide +kernel
theorem dX12_greatest_59 : decode cX12_greatest 59 = .ok (.istore_n 2, 1) := by decide +kernel
theorem dX12_greatest_60 : decode cX12_greatest 60 = .ok (.iinc 3 1, 3) := by decide +kernel
theorem dX12_greatest_63 : decode cX12_greatest 63 = .ok (.goto (-59), 3) := by decide +kernel
theorem dX12_greatest_66 : decode cX12_greatest 66 = .ok (.iload_n 2, 1) := by decide +kernel
theorem dX12_greatest_67 : decode cX12_greatest 67 = .ok (.sipush 9999, 3) := by decide +kernel
theorem dX12_greatest_70 : decode cX12_greatest 70 = .ok (.if_icmp .ge 7, 3) := by decide +kernel
theorem dX12_greatest_73 : decode cX12_greatest 73 = .ok (.iload_n 2, 1) := by decide +kernel
theorem dX12_greatest_74 : decode cX12_greatest 74 = .ok (.goto 6, 3) := by decide +kernel
theorem dX12_greatest_77 : decode cX12_greatest 77 = .ok (.sipush 9999, 3) := by decide +kernel
theorem dX12_greatest_80 : decode cX12_greatest 80 = .ok (.ireturn, 1) := by decide +kernel
theorem dX12_asked_0 : decode cX12_asked 0 = .ok (.iload_n 1, 1) := by decide +kernel
theorem dX12_asked_1 : decode cX12_asked 1 = .ok (.tableswitch 83 10 15 #[39, 53, 60, 67, 74, 81], 39) := by decide +kernel
theorem dX12_asked_40 : decode cX12_asked 40 = .ok (.aload_n 0, 1) := by decide +kernel
theorem dX12_asked_41 : decode cX12_asked 41 = .ok (.iload_n 2, 1) := by decide +kernel
theorem dX12_asked_42 : decode cX12_asked 42 = .ok (.invokevirtual 405, 3) := by decide +kernel
theorem dX12_asked_45 : decode cX12_asked 45 = .ok (.ifCond .eq 7, 3) := by decide +kernel
theorem dX12_asked_48 : decode cX12_asked 48 = .ok (.iconst 1, 1) := by decide +kernel
theorem dX12_asked_49 : decode cX12_asked 49 = .ok (.goto 4, 3) := by decide +kernel
theorem dX12_asked_52 : decode cX12_asked 52 = .ok (.iconst 0, 1) := by decide +kernel
theorem dX12_asked_53 : decode cX12_asked 53 = .ok (.ireturn, 1) := by decide +kernel
theorem dX12_asked_54 : decode cX12_asked 54 = .ok (.aload_n 0, 1) := by decide +kernel
theorem dX12_asked_55 : decode cX12_asked 55 = .ok (.iload_n 2, 1) := by decide +kernel
theorem dX12_asked_56 : decode cX12_asked 56 = .ok (.iconst 2, 1) := by decide +kernel
theorem dX12_asked_57 : decode cX12_asked 57 = .ok (.invokevirtual 83, 3) := by decide +kernel
theorem dX12_asked_60 : decode cX12_asked 60 = .ok (.ireturn, 1) := by decide +kernel
theorem dX12_asked_61 : decode cX12_asked 61 = .ok (.aload_n 0, 1) := by decide +kernel
theorem dX12_asked_62 : decode cX12_asked 62 = .ok (.iload_n 2, 1) := by decide +kernel
theorem dX12_asked_63 : decode cX12_asked 63 = .ok (.iconst 3, 1) := by decide +kernel
theorem dX12_asked_64 : decode cX12_asked 64 = .ok (.invokevirtual 83, 3) := by decide +kernel
theorem dX12_asked_67 : decode cX12_asked 67 = .ok (.ireturn, 1) := by decide +kernel
theorem dX12_asked_68 : decode cX12_asked 68 = .ok (.aload_n 0, 1) := by decide +kernel
theorem dX12_asked_69 : decode cX12_asked 69 = .ok (.iload_n 2, 1) := by decide +kernel
theorem dX12_asked_70 : decode cX12_asked 70 = .ok (.iconst 0, 1) := by decide +kernel
theorem dX12_asked_71 : decode cX12_asked 71 = .ok (.invokevirtual 83, 3) := by decide +kernel
theorem dX12_asked_74 : decode cX12_asked 74 = .ok (.ireturn, 1) := by decide +kernel
theorem dX12_asked_75 : decode cX12_asked 75 = .ok (.aload_n 0, 1) := by decide +kernel
theorem dX12_asked_76 : decode cX12_asked 76 = .ok (.iload_n 2, 1) := by decide +kernel
theorem dX12_asked_77 : decode cX12_asked 77 = .ok (.iconst 1, 1) := by decide +kernel
theorem dX12_asked_78 : decode cX12_asked 78 = .ok (.invokevirtual 83, 3) := by decide +kernel
theorem dX12_asked_81 : decode cX12_asked 81 = .ok (.ireturn, 1) := by decide +kernel
theorem dX12_asked_82 : decode cX12_asked 82 = .ok (.iload_n 3, 1) := by decide +kernel
theorem dX12_asked_83 : decode cX12_asked 83 = .ok (.ireturn, 1) := by decide +kernel
theorem dX12_asked_84 : decode cX12_asked 84 = .ok (.aload_n 0, 1) := by decide +kernel
theorem dX12_asked_85 : decode cX12_asked 85 = .ok (.iload_n 2, 1) := by decide +kernel
theorem dX12_asked_86 : decode cX12_asked 86 = .ok (.invokevirtual 408, 3) := by decide +kernel
theorem dX12_asked_89 : decode cX12_asked 89 = .ok (.ireturn, 1) := by decide +kernel
theorem dX12_holds_0 : decode cX12_holds 0 = .ok (.iconst 1, 1) := by decide +kernel
theorem dX12_holds_1 : decode cX12_holds 1 = .ok (.istore 4, 2) := by decide +kernel
theorem dX12_holds_3 : decode cX12_holds 3 = .ok (.iconst 0, 1) := by decide +kernel
theorem dX12_holds_4 : decode cX12_holds 4 = .ok (.istore 5, 2) := by decide +kernel
theorem dX12_holds_6 : decode cX12_holds 6 = .ok (.iload 5, 2) := by decide +kernel
theorem dX12_holds_8 : decode cX12_holds 8 = .ok (.aload_n 0, 1) := by decide +kernel
theorem dX12_holds_9 : decode cX12_holds 9 = .ok (.getfield 7, 3) := by decide +kernel
theorem dX12_holds_12 : decode cX12_holds 12 = .ok (.iload_n 1, 1) := by decide +kernel
theorem dX12_holds_13 : decode cX12_holds 13 = .ok (.iaload, 1) := by decide +kernel
theorem dX12_holds_14 : decode cX12_holds 14 = .ok (.if_icmp .ge 152, 3) := by decide +kernel
theorem dX12_holds_17 : decode cX12_holds 17 = .ok (.iload 4, 2) := by decide +kernel
theorem dX12_holds_19 : decode cX12_holds 19 = .ok (.ifCond .eq 147, 3) := by decide +kernel
theorem dX12_holds_22 : decode cX12_holds 22 = .ok (.iload_n 1, 1) := by decide +kernel
theorem dX12_holds_23 : decode cX12_holds 23 = .ok (.iconst 1, 1) := by decide +kernel
theorem dX12_holds_24 : decode cX12_holds 24 = .ok (.iadd, 1) := by decide +kernel
theorem dX12_holds_25 : decode cX12_holds 25 = .ok (.iconst 4, 1) := by decide +kernel
theorem dX12_holds_26 : decode cX12_holds 26 = .ok (.iload 5, 2) := by decide +kernel
theorem dX12_holds_28 : decode cX12_holds 28 = .ok (.imul, 1) := by decide +kernel
theorem dX12_holds_29 : decode cX12_holds 29 = .ok (.iadd, 1) := by decide +kernel
theorem dX12_holds_30 : decode cX12_holds 30 = .ok (.istore 6, 2) := by decide +kernel
theorem dX12_holds_32 : decode cX12_holds 32 = .ok (.aload_n 0, 1) := by decide +kernel
theorem dX12_holds_33 : decode cX12_holds 33 = .ok (.aload_n 0, 1) := by decide +kernel
theorem dX12_holds_34 : decode cX12_holds 34 = .ok (.getfield 7, 3) := by decide +kernel
theorem dX12_holds_37 : decode cX12_holds 37 = .ok (.iload 6, 2) := by decide +kernel
theorem dX12_holds_39 : decode cX12_holds 39 = .ok (.iconst 1, 1) := by decide +kernel
theorem dX12_holds_40 : decode cX12_holds 40 = .ok (.iadd, 1) := by decide +kernel
theorem dX12_holds_41 : decode cX12_holds 41 = .ok (.iaload, 1) := by decide +kernel
theorem dX12_holds_42 : decode cX12_holds 42 = .ok (.iload_n 2, 1) := by decide +kernel
theorem dX12_holds_43 : decode cX12_holds 43 = .ok (.iload_n 3, 1) := by decide +kernel
theorem dX12_holds_44 : decode cX12_holds 44 = .ok (.invokevirtual 411, 3) := by decide +kernel
theorem dX12_holds_47 : decode cX12_holds 47 = .ok (.istore 7, 2) := by decide +kernel
theorem dX12_holds_49 : decode cX12_holds 49 = .ok (.aload_n 0, 1) := by decide +kernel
theorem dX12_holds_50 : decode cX12_holds 50 = .ok (.getfield 7, 3) := by decide +kernel
theorem dX12_holds_53 : decode cX12_holds 53 = .ok (.iload 6, 2) := by decide +kernel
theorem dX12_holds_55 : decode cX12_holds 55 = .ok (.iconst 3, 1) := by decide +kernel
theorem dX12_holds_56 : decode cX12_holds 56 = .ok (.iadd, 1) := by decide +kernel
theorem dX12_holds_57 : decode cX12_holds 57 = .ok (.iaload, 1) := by decide +kernel
theorem dX12_holds_58 : decode cX12_holds 58 = .ok (.istore 8, 2) := by decide +kernel
theorem dX12_holds_60 : decode cX12_holds 60 = .ok (.aload_n 0, 1) := by decide +kernel
theorem dX12_holds_61 : decode cX12_holds 61 = .ok (.getfield 7, 3) := by decide +kernel
theorem dX12_holds_64 : decode cX12_holds 64 = .ok (.iload 6, 2) := by decide +kernel
theorem dX12_holds_66 : decode cX12_holds 66 = .ok (.iconst 2, 1) := by decide +kernel
theorem dX12_holds_67 : decode cX12_holds 67 = .ok (.iadd, 1) := by decide +kernel
theorem dX12_holds_68 : decode cX12_holds 68 = .ok (.iaload, 1) := by decide +kernel
theorem dX12_holds_69 : decode cX12_holds 69 = .ok (.bipush 60, 2) := by decide +kernel
theorem dX12_holds_71 : decode cX12_holds 71 = .ok (.if_icmp .ne 18, 3) := by decide +kernel
theorem dX12_holds_74 : decode cX12_holds 74 = .ok (.iload 7, 2) := by decide +kernel
theorem dX12_holds_76 : decode cX12_holds 76 = .ok (.iload 8, 2) := by decide +kernel
theorem dX12_holds_78 : decode cX12_holds 78 = .ok (.if_icmp .ge 7, 3) := by decide +kernel
theorem dX12_holds_81 : decode cX12_holds 81 = .ok (.iconst 1, 1) := by decide +kernel
theorem dX12_holds_82 : decode cX12_holds 82 = .ok (.goto 48, 3) := by decide +kernel
theorem dX12_holds_85 : decode cX12_holds 85 = .ok (.iconst 0, 1) := by decide +kernel
theorem dX12_holds_86 : decode cX12_holds 86 = .ok (.goto 44, 3) := by decide +kernel
theorem dX12_holds_89 : decode cX12_holds 89 = .ok (.aload_n 0, 1) := by decide +kernel
theorem dX12_holds_90 : decode cX12_holds 90 = .ok (.getfield 7, 3) := by decide +kernel
theorem dX12_holds_93 : decode cX12_holds 93 = .ok (.iload 6, 2) := by decide +kernel
theorem dX12_holds_95 : decode cX12_holds 95 = .ok (.iconst 2, 1) := by decide +kernel
theorem dX12_holds_96 : decode cX12_holds 96 = .ok (.iadd, 1) := by decide +kernel
theorem dX12_holds_97 : decode cX12_holds 97 = .ok (.iaload, 1) := by decide +kernel
theorem dX12_holds_98 : decode cX12_holds 98 = .ok (.bipush 62, 2) := by decide +kernel
theorem dX12_holds_100 : decode cX12_holds 100 = .ok (.if_icmp .ne 18, 3) := by decide +kernel
theorem dX12_holds_103 : decode cX12_holds 103 = .ok (.iload 7, 2) := by decide +kernel
theorem dX12_holds_105 : decode cX12_holds 105 = .ok (.iload 8, 2) := by decide +kernel
theorem dX12_holds_107 : decode cX12_holds 107 = .ok (.if_icmp .le 7, 3) := by decide +kernel
theorem dX12_holds_110 : decode cX12_holds 110 = .ok (.iconst 1, 1) := by decide +kernel
theorem dX12_holds_111 : decode cX12_holds 111 = .ok (.goto 19, 3) := by decide +kernel
theorem dX12_holds_114 : decode cX12_holds 114 = .ok (.iconst 0, 1) := by decide +kernel
theorem dX12_holds_115 : decode cX12_holds 115 = .ok (.goto 15, 3) := by decide +kernel
theorem dX12_holds_118 : decode cX12_holds 118 = .ok (.iload 7, 2) := by decide +kernel
theorem dX12_holds_120 : decode cX12_holds 120 = .ok (.iload 8, 2) := by decide +kernel
theorem dX12_holds_122 : decode cX12_holds 122 = .ok (.if_icmp .ne 7, 3) := by decide +kernel
theorem dX12_holds_125 : decode cX12_holds 125 = .ok (.iconst 1, 1) := by decide +kernel
theorem dX12_holds_126 : decode cX12_holds 126 = .ok (.goto 4, 3) := by decide +kernel
theorem dX12_holds_129 : decode cX12_holds 129 = .ok (.iconst 0, 1) := by decide +kernel
theorem dX12_holds_130 : decode cX12_holds 130 = .ok (.istore 9, 2) := by decide +kernel
theorem dX12_holds_132 : decode cX12_holds 132 = .ok (.iload 9, 2) := by decide +kernel
theorem dX12_holds_134 : decode cX12_holds 134 = .ok (.aload_n 0, 1) := by decide +kernel
theorem dX12_holds_135 : decode cX12_holds 135 = .ok (.getfield 7, 3) := by decide +kernel
theorem dX12_holds_138 : decode cX12_holds 138 = .ok (.iload 6, 2) := by decide +kernel
theorem dX12_holds_140 : decode cX12_holds 140 = .ok (.iaload, 1) := by decide +kernel
theorem dX12_holds_141 : decode cX12_holds 141 = .ok (.iconst 1, 1) := by decide +kernel
theorem dX12_holds_142 : decode cX12_holds 142 = .ok (.if_icmp .ne 7, 3) := by decide +kernel
theorem dX12_holds_145 : decode cX12_holds 145 = .ok (.iconst 1, 1) := by decide +kernel
theorem dX12_holds_146 : decode cX12_holds 146 = .ok (.goto 4, 3) := by decide +kernel
theorem dX12_holds_149 : decode cX12_holds 149 = .ok (.iconst 0, 1) := by decide +kernel
theorem dX12_holds_150 : decode cX12_holds 150 = .ok (.if_icmp .eq 7, 3) := by decide +kernel
theorem dX12_holds_153 : decode cX12_holds 153 = .ok (.iconst 1, 1) := by decide +kernel
theorem dX12_holds_154 : decode cX12_holds 154 = .ok (.goto 4, 3) := by decide +kernel
theorem dX12_holds_157 : decode cX12_holds 157 = .ok (.iconst 0, 1) := by decide +kernel
theorem dX12_holds_158 : decode cX12_holds 158 = .ok (.istore 4, 2) := by decide +kernel
theorem dX12_holds_160 : decode cX12_holds 160 = .ok (.iinc 5 1, 3) := by decide +kernel
theorem dX12_holds_163 : decode cX12_holds 163 = .ok (.goto (-157), 3) := by decide +kernel
theorem dX12_holds_166 : decode cX12_holds 166 = .ok (.iload 4, 2) := by decide +kernel
theorem dX12_holds_168 : decode cX12_holds 168 = .ok (.ireturn, 1) := by decide +kernel
theorem dX12_lineOf_0 : decode cX12_lineOf 0 = .ok (.iconst 0, 1) := by decide +kernel
theorem dX12_lineOf_1 : decode cX12_lineOf 1 = .ok (.istore_n 3, 1) := by decide +kernel
theorem dX12_lineOf_2 : decode cX12_lineOf 2 = .ok (.iload_n 3, 1) := by decide +kernel
theorem dX12_lineOf_3 : decode cX12_lineOf 3 = .ok (.aload_n 0, 1) := by decide +kernel
theorem dX12_lineOf_4 : decode cX12_lineOf 4 = .ok (.getfield 7, 3) := by decide +kernel
theorem dX12_lineOf_7 : decode cX12_lineOf 7 = .ok (.bipush 6, 2) := by decide +kernel
theorem dX12_lineOf_9 : decode cX12_lineOf 9 = .ok (.iaload, 1) := by decide +kernel
theorem dX12_lineOf_10 : decode cX12_lineOf 10 = .ok (.if_icmp .ge 28, 3) := by decide +kernel
theorem dX12_lineOf_13 : decode cX12_lineOf 13 = .ok (.aload_n 0, 1) := by decide +kernel
theorem dX12_lineOf_14 : decode cX12_lineOf 14 = .ok (.sipush 340, 3) := by decide +kernel
theorem dX12_lineOf_17 : decode cX12_lineOf 17 = .ok (.bipush 20, 2) := by decide +kernel
theorem dX12_lineOf_19 : decode cX12_lineOf 19 = .ok (.iload_n 3, 1) := by decide +kernel
theorem dX12_lineOf_20 : decode cX12_lineOf 20 = .ok (.imul, 1) := by decide +kernel
theorem dX12_lineOf_21 : decode cX12_lineOf 21 = .ok (.iadd, 1) := by decide +kernel
theorem dX12_lineOf_22 : decode cX12_lineOf 22 = .ok (.iload_n 1, 1) := by decide +kernel
theorem dX12_lineOf_23 : decode cX12_lineOf 23 = .ok (.iload_n 2, 1) := by decide +kernel
theorem dX12_lineOf_24 : decode cX12_lineOf 24 = .ok (.invokevirtual 414, 3) := by decide +kernel
theorem dX12_lineOf_27 : decode cX12_lineOf 27 = .ok (.ifCond .eq 5, 3) := by decide +kernel
theorem dX12_lineOf_30 : decode cX12_lineOf 30 = .ok (.iload_n 3, 1) := by decide +kernel
theorem dX12_lineOf_31 : decode cX12_lineOf 31 = .ok (.ireturn, 1) := by decide +kernel
theorem dX12_lineOf_32 : decode cX12_lineOf 32 = .ok (.iinc 3 1, 3) := by decide +kernel
theorem dX12_lineOf_35 : decode cX12_lineOf 35 = .ok (.goto (-33), 3) := by decide +kernel
theorem dX12_lineOf_38 : decode cX12_lineOf 38 = .ok (.iconst (-1), 1) := by decide +kernel
theorem dX12_lineOf_39 : decode cX12_lineOf 39 = .ok (.ireturn, 1) := by decide +kernel
theorem dX12_why_0 : decode cX12_why 0 = .ok (.aload_n 0, 1) := by decide +kernel
theorem dX12_why_1 : decode cX12_why 1 = .ok (.iload_n 1, 1) := by decide +kernel
theorem dX12_why_2 : decode cX12_why 2 = .ok (.invokevirtual 215, 3) := by decide +kernel
theorem dX12_why_5 : decode cX12_why 5 = .ok (.ifCond .eq 22, 3) := by decide +kernel
theorem dX12_why_8 : decode cX12_why 8 = .ok (.iload_n 2, 1) := by decide +kernel
theorem dX12_why_9 : decode cX12_why 9 = .ok (.iconst 0, 1) := by decide +kernel
theorem dX12_why_10 : decode cX12_why 10 = .ok (.bipush 23, 2) := by decide +kernel
theorem dX12_why_12 : decode cX12_why 12 = .ok (.invokestatic 68, 3) := by decide +kernel
theorem dX12_why_15 : decode cX12_why 15 = .ok (.ifCond .eq 12, 3) := by decide +kernel
theorem dX12_why_18 : decode cX12_why 18 = .ok (.aload_n 0, 1) := by decide +kernel
theorem dX12_why_19 : decode cX12_why 19 = .ok (.iload_n 1, 1) := by decide +kernel
theorem dX12_why_20 : decode cX12_why 20 = .ok (.iload_n 2, 1) := by decide +kernel
theorem dX12_why_21 : decode cX12_why 21 = .ok (.invokevirtual 417, 3) := by decide +kernel
theorem dX12_why_24 : decode cX12_why 24 = .ok (.goto 4, 3) := by decide +kernel
theorem dX12_why_27 : decode cX12_why 27 = .ok (.iconst (-1), 1) := by decide +kernel
theorem dX12_why_28 : decode cX12_why 28 = .ok (.ireturn, 1) := by decide +kernel
theorem dX12_breach_0 : decode cX12_breach 0 = .ok (.iconst 0, 1) := by decide +kernel
theorem dX12_breach_1 : decode cX12_breach 1 = .ok (.istore_n 2, 1) := by decide +kernel
theorem dX12_breach_2 : decode cX12_breach 2 = .ok (.iload_n 2, 1) := by decide +kernel
theorem dX12_breach_3 : decode cX12_breach 3 = .ok (.bipush 24, 2) := by decide +kernel
theorem dX12_breach_5 : decode cX12_breach 5 = .ok (.if_icmp .ge 92, 3) := by decide +kernel
theorem dX12_breach_8 : decode cX12_breach 8 = .ok (.iload_n 1, 1) := by decide +kernel
theorem dX12_breach_9 : decode cX12_breach 9 = .ok (.iconst 0, 1) := by decide +kernel
theorem dX12_breach_10 : decode cX12_breach 10 = .ok (.iconst 1, 1) := by decide +kernel
theorem dX12_breach_11 : decode cX12_breach 11 = .ok (.invokestatic 68, 3) := by decide +kernel
theorem dX12_breach_14 : decode cX12_breach 14 = .ok (.ifCond .eq 83, 3) := by decide +kernel
theorem dX12_breach_17 : decode cX12_breach 17 = .ok (.iconst 0, 1) := by decide +kernel
theorem dX12_breach_18 : decode cX12_breach 18 = .ok (.istore_n 3, 1) := by decide +kernel
theorem dX12_breach_19 : decode cX12_breach 19 = .ok (.iload_n 3, 1) := by decide +kernel
theorem dX12_breach_20 : decode cX12_breach 20 = .ok (.aload_n 0, 1) := by decide +kernel
theorem dX12_breach_21 : decode cX12_breach 21 = .ok (.getfield 7, 3) := by decide +kernel
theorem dX12_breach_24 : decode cX12_breach 24 = .ok (.iconst 1, 1) := by decide +kernel
theorem dX12_breach_25 : decode cX12_breach 25 = .ok (.iaload, 1) := by decide +kernel
theorem dX12_breach_26 : decode cX12_breach 26 = .ok (.if_icmp .ge 65, 3) := by decide +kernel
theorem dX12_breach_29 : decode cX12_breach 29 = .ok (.aload_n 0, 1) := by decide +kernel
theorem dX12_breach_30 : decode cX12_breach 30 = .ok (.iload_n 3, 1) := by decide +kernel
theorem dX12_breach_31 : decode cX12_breach 31 = .ok (.invokevirtual 215, 3) := by decide +kernel
theorem dX12_breach_34 : decode cX12_breach 34 = .ok (.ifCond .ne 6, 3) := by decide +kernel
theorem dX12_breach_37 : decode cX12_breach 37 = .ok (.goto 48, 3) := by decide +kernel
theorem dX12_breach_40 : decode cX12_breach 40 = .ok (.aload_n 0, 1) := by decide +kernel
theorem dX12_breach_41 : decode cX12_breach 41 = .ok (.iload_n 3, 1) := by decide +kernel
theorem dX12_breach_42 : decode cX12_breach 42 = .ok (.iload_n 2, 1) := by decide +kernel
theorem dX12_breach_43 : decode cX12_breach 43 = .ok (.invokevirtual 417, 3) := by decide +kernel
theorem dX12_breach_46 : decode cX12_breach 46 = .ok (.istore 4, 2) := by decide +kernel
theorem dX12_breach_48 : decode cX12_breach 48 = .ok (.iload 4, 2) := by decide +kernel
theorem dX12_breach_50 : decode cX12_breach 50 = .ok (.ifCond .lt 35, 3) := by decide +kernel
theorem dX12_breach_53 : decode cX12_breach 53 = .ok (.aload_n 0, 1) := by decide +kernel
theorem dX12_breach_54 : decode cX12_breach 54 = .ok (.getfield 7, 3) := by decide +kernel
theorem dX12_breach_57 : decode cX12_breach 57 = .ok (.sipush 340, 3) := by decide +kernel
theorem dX12_breach_60 : decode cX12_breach 60 = .ok (.bipush 20, 2) := by decide +kernel
theorem dX12_breach_62 : decode cX12_breach 62 = .ok (.iload 4, 2) := by decide +kernel
theorem dX12_breach_64 : decode cX12_breach 64 = .ok (.imul, 1) := by decide +kernel
theorem dX12_breach_65 : decode cX12_breach 65 = .ok (.iadd, 1) := by decide +kernel
theorem dX12_breach_66 : decode cX12_breach 66 = .ok (.bipush 17, 2) := by decide +kernel
theorem dX12_breach_68 : decode cX12_breach 68 = .ok (.iadd, 1) := by decide +kernel
theorem dX12_breach_69 : decode cX12_breach 69 = .ok (.iaload, 1) := by decide +kernel
theorem dX12_breach_70 : decode cX12_breach 70 = .ok (.bipush 20, 2) := by decide +kernel
theorem dX12_breach_72 : decode cX12_breach 72 = .ok (.if_icmp .ne 13, 3) := by decide +kernel
theorem dX12_breach_75 : decode cX12_breach 75 = .ok (.iload_n 1, 1) := by decide +kernel
theorem dX12_breach_76 : decode cX12_breach 76 = .ok (.ifCond .ne 7, 3) := by decide +kernel
theorem dX12_breach_79 : decode cX12_breach 79 = .ok (.iload_n 2, 1) := by decide +kernel
theorem dX12_breach_80 : decode cX12_breach 80 = .ok (.goto 4, 3) := by decide +kernel
theorem dX12_breach_83 : decode cX12_breach 83 = .ok (.iload_n 3, 1) := by decide +kernel
theorem dX12_breach_84 : decode cX12_breach 84 = .ok (.ireturn, 1) := by decide +kernel
theorem dX12_breach_85 : decode cX12_breach 85 = .ok (.iinc 3 1, 3) := by decide +kernel
theorem dX12_breach_88 : decode cX12_breach 88 = .ok (.goto (-69), 3) := by decide +kernel
theorem dX12_breach_91 : decode cX12_breach 91 = .ok (.iinc 2 1, 3) := by decide +kernel
theorem dX12_breach_94 : decode cX12_breach 94 = .ok (.goto (-92), 3) := by decide +kernel
theorem dX12_breach_97 : decode cX12_breach 97 = .ok (.iconst (-1), 1) := by decide +kernel
theorem dX12_breach_98 : decode cX12_breach 98 = .ok (.ireturn, 1) := by decide +kernel
theorem dX12_day_0 : decode cX12_day 0 = .ok (.iload_n 1, 1) := by decide +kernel
theorem dX12_day_1 : decode cX12_day 1 = .ok (.aload_n 0, 1) := by decide +kernel
theorem dX12_day_2 : decode cX12_day 2 = .ok (.getfield 7, 3) := by decide +kernel
theorem dX12_day_5 : decode cX12_day 5 = .ok (.iconst 4, 1) := by decide +kernel
theorem dX12_day_6 : decode cX12_day 6 = .ok (.iaload, 1) := by decide +kernel
theorem dX12_day_7 : decode cX12_day 7 = .ok (.sipush 999, 3) := by decide +kernel
theorem dX12_day_10 : decode cX12_day 10 = .ok (.invokestatic 68, 3) := by decide +kernel
theorem dX12_day_13 : decode cX12_day 13 = .ok (.ifCond .ne 5, 3) := by decide +kernel
theorem dX12_day_16 : decode cX12_day 16 = .ok (.iconst 0, 1) := by decide +kernel
theorem dX12_day_17 : decode cX12_day 17 = .ok (.ireturn, 1) := by decide +kernel
theorem dX12_day_18 : decode cX12_day 18 = .ok (.aload_n 0, 1) := by decide +kernel
theorem dX12_day_19 : decode cX12_day 19 = .ok (.getfield 7, 3) := by decide +kernel
theorem dX12_day_22 : decode cX12_day 22 = .ok (.iconst 4, 1) := by decide +kernel
theorem dX12_day_23 : decode cX12_day 23 = .ok (.iload_n 1, 1) := by decide +kernel
theorem dX12_day_24 : decode cX12_day 24 = .ok (.iastore, 1) := by decide +kernel
theorem dX12_day_25 : decode cX12_day 25 = .ok (.aload_n 0, 1) := by decide +kernel
theorem dX12_day_26 : decode cX12_day 26 = .ok (.invokevirtual 65, 3) := by decide +kernel
theorem dX12_day_29 : decode cX12_day 29 = .ok (.iconst 1, 1) := by decide +kernel
theorem dX12_day_30 : decode cX12_day 30 = .ok (.ireturn, 1) := by decide +kernel
theorem dX12_view_0 : decode cX12_view 0 = .ok (.iload_n 1, 1) := by decide +kernel
theorem dX12_view_1 : decode cX12_view 1 = .ok (.iconst (-1), 1) := by decide +kernel
theorem dX12_view_2 : decode cX12_view 2 = .ok (.if_icmp .eq 19, 3) := by decide +kernel
theorem dX12_view_5 : decode cX12_view 5 = .ok (.iload_n 1, 1) := by decide +kernel
theorem dX12_view_6 : decode cX12_view 6 = .ok (.iconst 0, 1) := by decide +kernel
theorem dX12_view_7 : decode cX12_view 7 = .ok (.aload_n 0, 1) := by decide +kernel
theorem dX12_view_8 : decode cX12_view 8 = .ok (.getfield 7, 3) := by decide +kernel
theorem dX12_view_11 : decode cX12_view 11 = .ok (.iconst 4, 1) := by decide +kernel
theorem dX12_view_12 : decode cX12_view 12 = .ok (.iaload, 1) := by decide +kernel
theorem dX12_view_13 : decode cX12_view 13 = .ok (.invokestatic 68, 3) := by decide +kernel
theorem dX12_view_16 : decode cX12_view 16 = .ok (.ifCond .ne 5, 3) := by decide +kernel
theorem dX12_view_19 : decode cX12_view 19 = .ok (.iconst 0, 1) := by decide +kernel
theorem dX12_view_20 : decode cX12_view 20 = .ok (.ireturn, 1) := by decide +kernel
theorem dX12_view_21 : decode cX12_view 21 = .ok (.aload_n 0, 1) := by decide +kernel
theorem dX12_view_22 : decode cX12_view 22 = .ok (.getfield 7, 3) := by decide +kernel
theorem dX12_view_25 : decode cX12_view 25 = .ok (.iconst 5, 1) := by decide +kernel
theorem dX12_view_26 : decode cX12_view 26 = .ok (.iload_n 1, 1) := by decide +kernel
theorem dX12_view_27 : decode cX12_view 27 = .ok (.iastore, 1) := by decide +kernel
theorem dX12_view_28 : decode cX12_view 28 = .ok (.aload_n 0, 1) := by decide +kernel
theorem dX12_view_29 : decode cX12_view 29 = .ok (.invokevirtual 65, 3) := by decide +kernel
theorem dX12_view_32 : decode cX12_view 32 = .ok (.iconst 1, 1) := by decide +kernel
theorem dX12_view_33 : decode cX12_view 33 = .ok (.ireturn, 1) := by decide +kernel
theorem dX12_pull_0 : decode cX12_pull 0 = .ok (.aload_n 0, 1) := by decide +kernel
theorem dX12_pull_1 : decode cX12_pull 1 = .ok (.iload_n 2, 1) := by decide +kernel
theorem dX12_pull_2 : decode cX12_pull 2 = .ok (.iload_n 1, 1) := by decide +kernel
theorem dX12_pull_3 : decode cX12_pull 3 = .ok (.ifCond .eq 7, 3) := by decide +kernel
theorem dX12_pull_6 : decode cX12_pull 6 = .ok (.iconst 0, 1) := by decide +kernel
theorem dX12_pull_7 : decode cX12_pull 7 = .ok (.goto 4, 3) := by decide +kernel
theorem dX12_pull_10 : decode cX12_pull 10 = .ok (.iconst 1, 1) := by decide +kernel
theorem dX12_pull_11 : decode cX12_pull 11 = .ok (.invokevirtual 80, 3) := by decide +kernel
theorem dX12_pull_14 : decode cX12_pull 14 = .ok (.ifCond .ne 5, 3) := by decide +kernel
theorem dX12_pull_17 : decode cX12_pull 17 = .ok (.iconst 0, 1) := by decide +kernel
theorem dX12_pull_18 : decode cX12_pull 18 = .ok (.ireturn, 1) := by decide +kernel
theorem dX12_pull_19 : decode cX12_pull 19 = .ok (.iload_n 1, 1) := by decide +kernel
theorem dX12_pull_20 : decode cX12_pull 20 = .ok (.ifCond .eq 16, 3) := by decide +kernel
theorem dX12_pull_23 : decode cX12_pull 23 = .ok (.bipush 30, 2) := by decide +kernel
theorem dX12_pull_25 : decode cX12_pull 25 = .ok (.bipush 7, 2) := by decide +kernel
theorem dX12_pull_27 : decode cX12_pull 27 = .ok (.iload_n 2, 1) := by decide +kernel
theorem dX12_pull_28 : decode cX12_pull 28 = .ok (.imul, 1) := by decide +kernel
theorem dX12_pull_29 : decode cX12_pull 29 = .ok (.iadd, 1) := by decide +kernel
theorem dX12_pull_30 : decode cX12_pull 30 = .ok (.bipush 6, 2) := by decide +kernel
theorem dX12_pull_32 : decode cX12_pull 32 = .ok (.iadd, 1) := by decide +kernel
theorem dX12_pull_33 : decode cX12_pull 33 = .ok (.goto 12, 3) := by decide +kernel
theorem dX12_pull_36 : decode cX12_pull 36 = .ok (.bipush 120, 2) := by decide +kernel
theorem dX12_pull_38 : decode cX12_pull 38 = .ok (.bipush 8, 2) := by decide +kernel
theorem dX12_pull_40 : decode cX12_pull 40 = .ok (.iload_n 2, 1) := by decide +kernel
theorem dX12_pull_41 : decode cX12_pull 41 = .ok (.imul, 1) := by decide +kernel
theorem dX12_pull_42 : decode cX12_pull 42 = .ok (.iadd, 1) := by decide +kernel
theorem dX12_pull_43 : decode cX12_pull 43 = .ok (.iconst 5, 1) := by decide +kernel
theorem dX12_pull_44 : decode cX12_pull 44 = .ok (.iadd, 1) := by decide +kernel
theorem dX12_pull_45 : decode cX12_pull 45 = .ok (.istore_n 3, 1) := by decide +kernel
theorem dX12_pull_46 : decode cX12_pull 46 = .ok (.aload_n 0, 1) := by decide +kernel
theorem dX12_pull_47 : decode cX12_pull 47 = .ok (.getfield 7, 3) := by decide +kernel
theorem dX12_pull_50 : decode cX12_pull 50 = .ok (.iload_n 3, 1) := by decide +kernel
theorem dX12_pull_51 : decode cX12_pull 51 = .ok (.iaload, 1) := by decide +kernel
theorem dX12_pull_52 : decode cX12_pull 52 = .ok (.ifCond .lt 5, 3) := by decide +kernel
theorem dX12_pull_55 : decode cX12_pull 55 = .ok (.iconst 0, 1) := by decide +kernel
theorem dX12_pull_56 : decode cX12_pull 56 = .ok (.ireturn, 1) := by decide +kernel
theorem dX12_pull_57 : decode cX12_pull 57 = .ok (.aload_n 0, 1) := by decide +kernel
theorem dX12_pull_58 : decode cX12_pull 58 = .ok (.getfield 7, 3) := by decide +kernel
theorem dX12_pull_61 : decode cX12_pull 61 = .ok (.iload_n 3, 1) := by decide +kernel
theorem dX12_pull_62 : decode cX12_pull 62 = .ok (.aload_n 0, 1) := by decide +kernel
theorem dX12_pull_63 : decode cX12_pull 63 = .ok (.getfield 7, 3) := by decide +kernel
theorem dX12_pull_66 : decode cX12_pull 66 = .ok (.iconst 4, 1) := by decide +kernel
theorem dX12_pull_67 : decode cX12_pull 67 = .ok (.iaload, 1) := by decide +kernel
theorem dX12_pull_68 : decode cX12_pull 68 = .ok (.iastore, 1) := by decide +kernel
theorem dX12_pull_69 : decode cX12_pull 69 = .ok (.aload_n 0, 1) := by decide +kernel
theorem dX12_pull_70 : decode cX12_pull 70 = .ok (.invokevirtual 65, 3) := by decide +kernel
theorem dX12_pull_73 : decode cX12_pull 73 = .ok (.iconst 1, 1) := by decide +kernel
theorem dX12_pull_74 : decode cX12_pull 74 = .ok (.ireturn, 1) := by decide +kernel
theorem dX12_stuff_0 : decode cX12_stuff 0 = .ok (.iload_n 1, 1) := by decide +kernel
theorem dX12_stuff_1 : decode cX12_stuff 1 = .ok (.iconst 0, 1) := by decide +kernel
theorem dX12_stuff_2 : decode cX12_stuff 2 = .ok (.iconst 4, 1) := by decide +kernel
theorem dX12_stuff_3 : decode cX12_stuff 3 = .ok (.invokestatic 68, 3) := by decide +kernel
theorem dX12_stuff_6 : decode cX12_stuff 6 = .ok (.ifCond .eq 23, 3) := by decide +kernel
theorem dX12_stuff_9 : decode cX12_stuff 9 = .ok (.iload_n 2, 1) := by decide +kernel
theorem dX12_stuff_10 : decode cX12_stuff 10 = .ok (.iconst 0, 1) := by decide +kernel
theorem dX12_stuff_11 : decode cX12_stuff 11 = .ok (.bipush 100, 2) := by decide +kernel
theorem dX12_stuff_13 : decode cX12_stuff 13 = .ok (.invokestatic 68, 3) := by decide +kernel
theorem dX12_stuff_16 : decode cX12_stuff 16 = .ok (.ifCond .eq 13, 3) := by decide +kernel
theorem dX12_stuff_19 : decode cX12_stuff 19 = .ok (.iload_n 3, 1) := by decide +kernel
theorem dX12_stuff_20 : decode cX12_stuff 20 = .ok (.iconst 0, 1) := by decide +kernel
theorem dX12_stuff_21 : decode cX12_stuff 21 = .ok (.bipush 100, 2) := by decide +kernel
theorem dX12_stuff_23 : decode cX12_stuff 23 = .ok (.invokestatic 68, 3) := by decide +kernel
theorem dX12_stuff_26 : decode cX12_stuff 26 = .ok (.ifCond .ne 5, 3) := by decide +kernel
theorem dX12_stuff_29 : decode cX12_stuff 29 = .ok (.iconst 0, 1) := by decide +kernel
theorem dX12_stuff_30 : decode cX12_stuff 30 = .ok (.ireturn, 1) := by decide +kernel
theorem dX12_stuff_31 : decode cX12_stuff 31 = .ok (.aload_n 0, 1) := by decide +kernel
theorem dX12_stuff_32 : decode cX12_stuff 32 = .ok (.getfield 7, 3) := by decide +kernel
theorem dX12_stuff_35 : decode cX12_stuff 35 = .ok (.bipush 18, 2) := by decide +kernel
theorem dX12_stuff_37 : decode cX12_stuff 37 = .ok (.iload_n 1, 1) := by decide +kernel
theorem dX12_stuff_38 : decode cX12_stuff 38 = .ok (.iadd, 1) := by decide +kernel
theorem dX12_stuff_39 : decode cX12_stuff 39 = .ok (.iload_n 2, 1) := by decide +kernel
theorem dX12_stuff_40 : decode cX12_stuff 40 = .ok (.iastore, 1) := by decide +kernel
theorem dX12_stuff_41 : decode cX12_stuff 41 = .ok (.aload_n 0, 1) := by decide +kernel
theorem dX12_stuff_42 : decode cX12_stuff 42 = .ok (.getfield 7, 3) := by decide +kernel
theorem dX12_stuff_45 : decode cX12_stuff 45 = .ok (.bipush 23, 2) := by decide +kernel
theorem dX12_stuff_47 : decode cX12_stuff 47 = .ok (.iload_n 1, 1) := by decide +kernel
theorem dX12_stuff_48 : decode cX12_stuff 48 = .ok (.iadd, 1) := by decide +kernel
theorem dX12_stuff_49 : decode cX12_stuff 49 = .ok (.iload_n 3, 1) := by decide +kernel
theorem dX12_stuff_50 : decode cX12_stuff 50 = .ok (.iastore, 1) := by decide +kernel
theorem dX12_stuff_51 : decode cX12_stuff 51 = .ok (.aload_n 0, 1) := by decide +kernel
theorem dX12_stuff_52 : decode cX12_stuff 52 = .ok (.invokevirtual 65, 3) := by decide +kernel
theorem dX12_stuff_55 : decode cX12_stuff 55 = .ok (.iconst 1, 1) := by decide +kernel
theorem dX12_stuff_56 : decode cX12_stuff 56 = .ok (.ireturn, 1) := by decide +kernel
theorem dX12_leastOf_0 : decode cX12_leastOf 0 = .ok (.iload_n 0, 1) := by decide +kernel
theorem dX12_leastOf_1 : decode cX12_leastOf 1 = .ok (.iconst 4, 1) := by decide +kernel
theorem dX12_leastOf_2 : decode cX12_leastOf 2 = .ok (.if_icmp .eq 9, 3) := by decide +kernel
theorem dX12_leastOf_5 : decode cX12_leastOf 5 = .ok (.iload_n 0, 1) := by decide +kernel
theorem dX12_leastOf_6 : decode cX12_leastOf 6 = .ok (.bipush 6, 2) := by decide +kernel
theorem dX12_leastOf_8 : decode cX12_leastOf 8 = .ok (.if_icmp .ne 7, 3) := by decide +kernel
theorem dX12_leastOf_11 : decode cX12_leastOf 11 = .ok (.iconst 1, 1) := by decide +kernel
theorem dX12_leastOf_12 : decode cX12_leastOf 12 = .ok (.goto 4, 3) := by decide +kernel
theorem dX12_leastOf_15 : decode cX12_leastOf 15 = .ok (.iconst 0, 1) := by decide +kernel
theorem dX12_leastOf_16 : decode cX12_leastOf 16 = .ok (.ireturn, 1) := by decide +kernel
theorem dX12_mostFor_0 : decode cX12_mostFor 0 = .ok (.iload_n 0, 1) := by decide +kernel
theorem dX12_mostFor_1 : decode cX12_mostFor 1 = .ok (.tableswitch 55 0 6 #[43, 45, 55, 55, 55, 48, 52], 43) := by decide +kernel
theorem dX12_mostFor_44 : decode cX12_mostFor 44 = .ok (.iconst 2, 1) := by decide +kernel
theorem dX12_mostFor_45 : decode cX12_mostFor 45 = .ok (.ireturn, 1) := by decide +kernel
theorem dX12_mostFor_46 : decode cX12_mostFor 46 = .ok (.bipush 100, 2) := by decide +kernel
theorem dX12_mostFor_48 : decode cX12_mostFor 48 = .ok (.ireturn, 1) := by decide +kernel
theorem dX12_mostFor_49 : decode cX12_mostFor 49 = .ok (.sipush 999, 3) := by decide +kernel
theorem dX12_mostFor_52 : decode cX12_mostFor 52 = .ok (.ireturn, 1) := by decide +kernel
theorem dX12_mostFor_53 : decode cX12_mostFor 53 = .ok (.bipush 9, 2) := by decide +kernel
theorem dX12_mostFor_55 : decode cX12_mostFor 55 = .ok (.ireturn, 1) := by decide +kernel
theorem dX12_mostFor_56 : decode cX12_mostFor 56 = .ok (.sipush 9999, 3) := by decide +kernel
theorem dX12_mostFor_59 : decode cX12_mostFor 59 = .ok (.ireturn, 1) := by decide +kernel
theorem dX12_set_0 : decode cX12_set 0 = .ok (.iload_n 1, 1) := by decide +kernel
theorem dX12_set_1 : decode cX12_set 1 = .ok (.iconst 0, 1) := by decide +kernel
theorem dX12_set_2 : decode cX12_set 2 = .ok (.bipush 6, 2) := by decide +kernel
theorem dX12_set_4 : decode cX12_set 4 = .ok (.invokestatic 68, 3) := by decide +kernel
theorem dX12_set_7 : decode cX12_set 7 = .ok (.ifCond .eq 18, 3) := by decide +kernel
theorem dX12_set_10 : decode cX12_set 10 = .ok (.iload_n 2, 1) := by decide +kernel
theorem dX12_set_11 : decode cX12_set 11 = .ok (.iload_n 1, 1) := by decide +kernel
theorem dX12_set_12 : decode cX12_set 12 = .ok (.invokestatic 420, 3) := by decide +kernel
theorem dX12_set_15 : decode cX12_set 15 = .ok (.iload_n 1, 1) := by decide +kernel
theorem dX12_set_16 : decode cX12_set 16 = .ok (.invokestatic 423, 3) := by decide +kernel
theorem dX12_set_19 : decode cX12_set 19 = .ok (.invokestatic 68, 3) := by decide +kernel
theorem dX12_set_22 : decode cX12_set 22 = .ok (.ifCond .ne 5, 3) := by decide +kernel
theorem dX12_set_25 : decode cX12_set 25 = .ok (.iconst 0, 1) := by decide +kernel
theorem dX12_set_26 : decode cX12_set 26 = .ok (.ireturn, 1) := by decide +kernel
theorem dX12_set_27 : decode cX12_set 27 = .ok (.aload_n 0, 1) := by decide +kernel
theorem dX12_set_28 : decode cX12_set 28 = .ok (.getfield 7, 3) := by decide +kernel
theorem dX12_set_31 : decode cX12_set 31 = .ok (.bipush 11, 2) := by decide +kernel
theorem dX12_set_33 : decode cX12_set 33 = .ok (.iload_n 1, 1) := by decide +kernel
theorem dX12_set_34 : decode cX12_set 34 = .ok (.iadd, 1) := by decide +kernel
theorem dX12_set_35 : decode cX12_set 35 = .ok (.iload_n 2, 1) := by decide +kernel
theorem dX12_set_36 : decode cX12_set 36 = .ok (.iastore, 1) := by decide +kernel
theorem dX12_set_37 : decode cX12_set 37 = .ok (.iload_n 1, 1) := by decide +kernel
theorem dX12_set_38 : decode cX12_set 38 = .ok (.iconst 2, 1) := by decide +kernel
theorem dX12_set_39 : decode cX12_set 39 = .ok (.if_icmp .ge 7, 3) := by decide +kernel
theorem dX12_set_42 : decode cX12_set 42 = .ok (.aload_n 0, 1) := by decide +kernel
theorem dX12_set_43 : decode cX12_set 43 = .ok (.invokevirtual 65, 3) := by decide +kernel
theorem dX12_set_46 : decode cX12_set 46 = .ok (.iconst 1, 1) := by decide +kernel
theorem dX12_set_47 : decode cX12_set 47 = .ok (.ireturn, 1) := by decide +kernel
theorem dX12_wall_0 : decode cX12_wall 0 = .ok (.aload_n 0, 1) := by decide +kernel
theorem dX12_wall_1 : decode cX12_wall 1 = .ok (.iload_n 1, 1) := by decide +kernel
theorem dX12_wall_2 : decode cX12_wall 2 = .ok (.iconst 0, 1) := by decide +kernel
theorem dX12_wall_3 : decode cX12_wall 3 = .ok (.invokevirtual 80, 3) := by decide +kernel
theorem dX12_wall_6 : decode cX12_wall 6 = .ok (.ifCond .eq 22, 3) := by decide +kernel
theorem dX12_wall_9 : decode cX12_wall 9 = .ok (.iload_n 2, 1) := by decide +kernel
theorem dX12_wall_10 : decode cX12_wall 10 = .ok (.iconst 0, 1) := by decide +kernel
theorem dX12_wall_11 : decode cX12_wall 11 = .ok (.bipush 6, 2) := by decide +kernel
theorem dX12_wall_13 : decode cX12_wall 13 = .ok (.invokestatic 68, 3) := by decide +kernel
theorem dX12_wall_16 : decode cX12_wall 16 = .ok (.ifCond .eq 12, 3) := by decide +kernel
theorem dX12_wall_19 : decode cX12_wall 19 = .ok (.aload_n 0, 1) := by decide +kernel
theorem dX12_wall_20 : decode cX12_wall 20 = .ok (.iload_n 1, 1) := by decide +kernel
theorem dX12_wall_21 : decode cX12_wall 21 = .ok (.iload_n 2, 1) := by decide +kernel
theorem dX12_wall_22 : decode cX12_wall 22 = .ok (.invokevirtual 72, 3) := by decide +kernel
theorem dX12_wall_25 : decode cX12_wall 25 = .ok (.goto 5, 3) := by decide +kernel
theorem dX12_wall_28 : decode cX12_wall 28 = .ok (.bipush (-2), 2) := by decide +kernel
theorem dX12_wall_30 : decode cX12_wall 30 = .ok (.ireturn, 1) := by decide +kernel
theorem dX12_sender_0 : decode cX12_sender 0 = .ok (.aload_n 0, 1) := by decide +kernel
theorem dX12_sender_1 : decode cX12_sender 1 = .ok (.iload_n 1, 1) := by decide +kernel
theorem dX12_sender_2 : decode cX12_sender 2 = .ok (.iconst 1, 1) := by decide +kernel
theorem dX12_sender_3 : decode cX12_sender 3 = .ok (.invokevirtual 80, 3) := by decide +kernel
theorem dX12_sender_6 : decode cX12_sender 6 = .ok (.ifCond .eq 21, 3) := by decide +kernel
theorem dX12_sender_9 : decode cX12_sender 9 = .ok (.iload_n 2, 1) := by decide +kernel
theorem dX12_sender_10 : decode cX12_sender 10 = .ok (.iconst 0, 1) := by decide +kernel
theorem dX12_sender_11 : decode cX12_sender 11 = .ok (.iconst 5, 1) := by decide +kernel
theorem dX12_sender_12 : decode cX12_sender 12 = .ok (.invokestatic 68, 3) := by decide +kernel
theorem dX12_sender_15 : decode cX12_sender 15 = .ok (.ifCond .eq 12, 3) := by decide +kernel
theorem dX12_sender_18 : decode cX12_sender 18 = .ok (.aload_n 0, 1) := by decide +kernel
theorem dX12_sender_19 : decode cX12_sender 19 = .ok (.iload_n 1, 1) := by decide +kernel
theorem dX12_sender_20 : decode cX12_sender 20 = .ok (.iload_n 2, 1) := by decide +kernel
theorem dX12_sender_21 : decode cX12_sender 21 = .ok (.invokevirtual 83, 3) := by decide +kernel
theorem dX12_sender_24 : decode cX12_sender 24 = .ok (.goto 5, 3) := by decide +kernel
theorem dX12_sender_27 : decode cX12_sender 27 = .ok (.bipush (-2), 2) := by decide +kernel
theorem dX12_sender_29 : decode cX12_sender 29 = .ok (.ireturn, 1) := by decide +kernel
theorem dX12_count_0 : decode cX12_count 0 = .ok (.iconst 0, 1) := by decide +kernel
theorem dX12_count_1 : decode cX12_count 1 = .ok (.istore_n 2, 1) := by decide +kernel
theorem dX12_count_2 : decode cX12_count 2 = .ok (.iconst 0, 1) := by decide +kernel
theorem dX12_count_3 : decode cX12_count 3 = .ok (.istore_n 3, 1) := by decide +kernel
theorem dX12_count_4 : decode cX12_count 4 = .ok (.iconst 0, 1) := by decide +kernel
theorem dX12_count_5 : decode cX12_count 5 = .ok (.istore 4, 2) := by decide +kernel
theorem dX12_count_7 : decode cX12_count 7 = .ok (.iload 4, 2) := by decide +kernel
theorem dX12_count_9 : decode cX12_count 9 = .ok (.aload_n 0, 1) := by decide +kernel
theorem dX12_count_10 : decode cX12_count 10 = .ok (.getfield 7, 3) := by decide +kernel
theorem dX12_count_13 : decode cX12_count 13 = .ok (.iconst 0, 1) := by decide +kernel
theorem dX12_count_14 : decode cX12_count 14 = .ok (.iaload, 1) := by decide +kernel
theorem dX12_count_15 : decode cX12_count 15 = .ok (.if_icmp .ge 26, 3) := by decide +kernel
theorem dX12_count_18 : decode cX12_count 18 = .ok (.iload_n 2, 1) := by decide +kernel
theorem dX12_count_19 : decode cX12_count 19 = .ok (.aload_n 0, 1) := by decide +kernel
theorem dX12_count_20 : decode cX12_count 20 = .ok (.iload 4, 2) := by decide +kernel
theorem dX12_count_22 : decode cX12_count 22 = .ok (.invokevirtual 113, 3) := by decide +kernel
theorem dX12_count_25 : decode cX12_count 25 = .ok (.ifCond .eq 7, 3) := by decide +kernel
theorem dX12_count_28 : decode cX12_count 28 = .ok (.iconst 1, 1) := by decide +kernel
theorem dX12_count_29 : decode cX12_count 29 = .ok (.goto 4, 3) := by decide +kernel
theorem dX12_count_32 : decode cX12_count 32 = .ok (.iconst 0, 1) := by decide +kernel
theorem dX12_count_33 : decode cX12_count 33 = .ok (.iadd, 1) := by decide +kernel
theorem dX12_count_34 : decode cX12_count 34 = .ok (.istore_n 2, 1) := by decide +kernel
theorem dX12_count_35 : decode cX12_count 35 = .ok (.iinc 4 1, 3) := by decide +kernel
theorem dX12_count_38 : decode cX12_count 38 = .ok (.goto (-31), 3) := by decide +kernel
theorem dX12_count_41 : decode cX12_count 41 = .ok (.iconst 0, 1) := by decide +kernel
theorem dX12_count_42 : decode cX12_count 42 = .ok (.istore 4, 2) := by decide +kernel
theorem dX12_count_44 : decode cX12_count 44 = .ok (.iload 4, 2) := by decide +kernel
theorem dX12_count_46 : decode cX12_count 46 = .ok (.aload_n 0, 1) := by decide +kernel
theorem dX12_count_47 : decode cX12_count 47 = .ok (.getfield 7, 3) := by decide +kernel
theorem dX12_count_50 : decode cX12_count 50 = .ok (.iconst 1, 1) := by decide +kernel
theorem dX12_count_51 : decode cX12_count 51 = .ok (.iaload, 1) := by decide +kernel
theorem dX12_count_52 : decode cX12_count 52 = .ok (.if_icmp .ge 26, 3) := by decide +kernel
theorem dX12_count_55 : decode cX12_count 55 = .ok (.iload_n 3, 1) := by decide +kernel
theorem dX12_count_56 : decode cX12_count 56 = .ok (.aload_n 0, 1) := by decide +kernel
theorem dX12_count_57 : decode cX12_count 57 = .ok (.iload 4, 2) := by decide +kernel
theorem dX12_count_59 : decode cX12_count 59 = .ok (.invokevirtual 215, 3) := by decide +kernel
theorem dX12_count_62 : decode cX12_count 62 = .ok (.ifCond .eq 7, 3) := by decide +kernel
theorem dX12_count_65 : decode cX12_count 65 = .ok (.iconst 1, 1) := by decide +kernel
theorem dX12_count_66 : decode cX12_count 66 = .ok (.goto 4, 3) := by decide +kernel
theorem dX12_count_69 : decode cX12_count 69 = .ok (.iconst 0, 1) := by decide +kernel
theorem dX12_count_70 : decode cX12_count 70 = .ok (.iadd, 1) := by decide +kernel
theorem dX12_count_71 : decode cX12_count 71 = .ok (.istore_n 3, 1) := by decide +kernel
theorem dX12_count_72 : decode cX12_count 72 = .ok (.iinc 4 1, 3) := by decide +kernel
theorem dX12_count_75 : decode cX12_count 75 = .ok (.goto (-31), 3) := by decide +kernel
theorem dX12_count_78 : decode cX12_count 78 = .ok (.iload_n 1, 1) := by decide +kernel
theorem dX12_count_79 : decode cX12_count 79 = .ok (.tableswitch 112 0 9 #[53, 55, 57, 64, 71, 78, 85, 92, 99, 107], 53) := by decide +kernel
theorem dX12_count_132 : decode cX12_count 132 = .ok (.iload_n 2, 1) := by decide +kernel
theorem dX12_count_133 : decode cX12_count 133 = .ok (.ireturn, 1) := by decide +kernel
theorem dX12_count_134 : decode cX12_count 134 = .ok (.iload_n 3, 1) := by decide +kernel
theorem dX12_count_135 : decode cX12_count 135 = .ok (.ireturn, 1) := by decide +kernel
theorem dX12_count_136 : decode cX12_count 136 = .ok (.aload_n 0, 1) := by decide +kernel
theorem dX12_count_137 : decode cX12_count 137 = .ok (.getfield 7, 3) := by decide +kernel
theorem dX12_count_140 : decode cX12_count 140 = .ok (.iconst 0, 1) := by decide +kernel
theorem dX12_count_141 : decode cX12_count 141 = .ok (.iaload, 1) := by decide +kernel
theorem dX12_count_142 : decode cX12_count 142 = .ok (.ireturn, 1) := by decide +kernel
theorem dX12_count_143 : decode cX12_count 143 = .ok (.aload_n 0, 1) := by decide +kernel
theorem dX12_count_144 : decode cX12_count 144 = .ok (.getfield 7, 3) := by decide +kernel
theorem dX12_count_147 : decode cX12_count 147 = .ok (.iconst 1, 1) := by decide +kernel
theorem dX12_count_148 : decode cX12_count 148 = .ok (.iaload, 1) := by decide +kernel
theorem dX12_count_149 : decode cX12_count 149 = .ok (.ireturn, 1) := by decide +kernel
theorem dX12_count_150 : decode cX12_count 150 = .ok (.aload_n 0, 1) := by decide +kernel
theorem dX12_count_151 : decode cX12_count 151 = .ok (.getfield 7, 3) := by decide +kernel
theorem dX12_count_154 : decode cX12_count 154 = .ok (.iconst 2, 1) := by decide +kernel
theorem dX12_count_155 : decode cX12_count 155 = .ok (.iaload, 1) := by decide +kernel
theorem dX12_count_156 : decode cX12_count 156 = .ok (.ireturn, 1) := by decide +kernel
theorem dX12_count_157 : decode cX12_count 157 = .ok (.aload_n 0, 1) := by decide +kernel
theorem dX12_count_158 : decode cX12_count 158 = .ok (.getfield 7, 3) := by decide +kernel
theorem dX12_count_161 : decode cX12_count 161 = .ok (.iconst 3, 1) := by decide +kernel
theorem dX12_count_162 : decode cX12_count 162 = .ok (.iaload, 1) := by decide +kernel
theorem dX12_count_163 : decode cX12_count 163 = .ok (.ireturn, 1) := by decide +kernel
theorem dX12_count_164 : decode cX12_count 164 = .ok (.aload_n 0, 1) := by decide +kernel
theorem dX12_count_165 : decode cX12_count 165 = .ok (.getfield 7, 3) := by decide +kernel
theorem dX12_count_168 : decode cX12_count 168 = .ok (.iconst 4, 1) := by decide +kernel
theorem dX12_count_169 : decode cX12_count 169 = .ok (.iaload, 1) := by decide +kernel
theorem dX12_count_170 : decode cX12_count 170 = .ok (.ireturn, 1) := by decide +kernel
theorem dX12_count_171 : decode cX12_count 171 = .ok (.aload_n 0, 1) := by decide +kernel
theorem dX12_count_172 : decode cX12_count 172 = .ok (.getfield 7, 3) := by decide +kernel
theorem dX12_count_175 : decode cX12_count 175 = .ok (.iconst 5, 1) := by decide +kernel
theorem dX12_count_176 : decode cX12_count 176 = .ok (.iaload, 1) := by decide +kernel
theorem dX12_count_177 : decode cX12_count 177 = .ok (.ireturn, 1) := by decide +kernel
theorem dX12_count_178 : decode cX12_count 178 = .ok (.aload_n 0, 1) := by decide +kernel
theorem dX12_count_179 : decode cX12_count 179 = .ok (.getfield 7, 3) := by decide +kernel
theorem dX12_count_182 : decode cX12_count 182 = .ok (.bipush 6, 2) := by decide +kernel
theorem dX12_count_184 : decode cX12_count 184 = .ok (.iaload, 1) := by decide +kernel
theorem dX12_count_185 : decode cX12_count 185 = .ok (.ireturn, 1) := by decide +kernel
theorem dX12_count_186 : decode cX12_count 186 = .ok (.aload_n 0, 1) := by decide +kernel
theorem dX12_count_187 : decode cX12_count 187 = .ok (.invokevirtual 282, 3) := by decide +kernel
theorem dX12_count_190 : decode cX12_count 190 = .ok (.ireturn, 1) := by decide +kernel
theorem dX12_count_191 : decode cX12_count 191 = .ok (.bipush (-2), 2) := by decide +kernel
theorem dX12_count_193 : decode cX12_count 193 = .ok (.ireturn, 1) := by decide +kernel
theorem dX12_image_0 : decode cX12_image 0 = .ok (.iload_n 1, 1) := by decide +kernel
theorem dX12_image_1 : decode cX12_image 1 = .ok (.iconst 0, 1) := by decide +kernel
theorem dX12_image_2 : decode cX12_image 2 = .ok (.iconst 2, 1) := by decide +kernel
theorem dX12_image_3 : decode cX12_image 3 = .ok (.invokestatic 68, 3) := by decide +kernel
theorem dX12_image_6 : decode cX12_image 6 = .ok (.ifCond .ne 5, 3) := by decide +kernel
theorem dX12_image_9 : decode cX12_image 9 = .ok (.iconst 0, 1) := by decide +kernel
theorem dX12_image_10 : decode cX12_image 10 = .ok (.ireturn, 1) := by decide +kernel
theorem dX12_image_11 : decode cX12_image 11 = .ok (.aload_n 0, 1) := by decide +kernel
theorem dX12_image_12 : decode cX12_image 12 = .ok (.getfield 13, 3) := by decide +kernel
theorem dX12_image_15 : decode cX12_image 15 = .ok (.iload_n 1, 1) := by decide +kernel
theorem dX12_image_16 : decode cX12_image 16 = .ok (.iconst 1, 1) := by decide +kernel
theorem dX12_image_17 : decode cX12_image 17 = .ok (.bastore, 1) := by decide +kernel
theorem dX12_image_18 : decode cX12_image 18 = .ok (.iconst 0, 1) := by decide +kernel
theorem dX12_image_19 : decode cX12_image 19 = .ok (.istore_n 2, 1) := by decide +kernel
theorem dX12_image_20 : decode cX12_image 20 = .ok (.iload_n 2, 1) := by decide +kernel
theorem dX12_image_21 : decode cX12_image 21 = .ok (.sipush 1160, 3) := by decide +kernel
theorem dX12_image_24 : decode cX12_image 24 = .ok (.if_icmp .ge 29, 3) := by decide +kernel
theorem dX12_image_27 : decode cX12_image 27 = .ok (.aload_n 0, 1) := by decide +kernel
theorem dX12_image_28 : decode cX12_image 28 = .ok (.getfield 7, 3) := by decide +kernel
theorem dX12_image_31 : decode cX12_image 31 = .ok (.sipush 1160, 3) := by decide +kernel
theorem dX12_image_34 : decode cX12_image 34 = .ok (.iload_n 1, 1) := by decide +kernel
theorem dX12_image_35 : decode cX12_image 35 = .ok (.iconst 1, 1) := by decide +kernel
theorem dX12_image_36 : decode cX12_image 36 = .ok (.iadd, 1) := by decide +kernel
theorem dX12_image_37 : decode cX12_image 37 = .ok (.imul, 1) := by decide +kernel
theorem dX12_image_38 : decode cX12_image 38 = .ok (.iload_n 2, 1) := by decide +kernel
theorem dX12_image_39 : decode cX12_image 39 = .ok (.iadd, 1) := by decide +kernel
theorem dX12_image_40 : decode cX12_image 40 = .ok (.aload_n 0, 1) := by decide +kernel
theorem dX12_image_41 : decode cX12_image 41 = .ok (.getfield 7, 3) := by decide +kernel
theorem dX12_image_44 : decode cX12_image 44 = .ok (.iload_n 2, 1) := by decide +kernel
theorem dX12_image_45 : decode cX12_image 45 = .ok (.iaload, 1) := by decide +kernel
theorem dX12_image_46 : decode cX12_image 46 = .ok (.iastore, 1) := by decide +kernel
theorem dX12_image_47 : decode cX12_image 47 = .ok (.iinc 2 1, 3) := by decide +kernel
theorem dX12_image_50 : decode cX12_image 50 = .ok (.goto (-30), 3) := by decide +kernel
theorem dX12_image_53 : decode cX12_image 53 = .ok (.iconst 1, 1) := by decide +kernel
theorem dX12_image_54 : decode cX12_image 54 = .ok (.ireturn, 1) := by decide +kernel
theorem dX12_again_0 : decode cX12_again 0 = .ok (.iload_n 1, 1) := by decide +kernel
theorem dX12_again_1 : decode cX12_again 1 = .ok (.iconst 0, 1) := by decide +kernel
theorem dX12_again_2 : decode cX12_again 2 = .ok (.iconst 2, 1) := by decide +kernel
theorem dX12_again_3 : decode cX12_again 3 = .ok (.invokestatic 68, 3) := by decide +kernel
theorem dX12_again_6 : decode cX12_again 6 = .ok (.ifCond .eq 12, 3) := by decide +kernel
theorem dX12_again_9 : decode cX12_again 9 = .ok (.aload_n 0, 1) := by decide +kernel
theorem dX12_again_10 : decode cX12_again 10 = .ok (.getfield 13, 3) := by decide +kernel
theorem dX12_again_13 : decode cX12_again 13 = .ok (.iload_n 1, 1) := by decide +kernel
theorem dX12_again_14 : decode cX12_again 14 = .ok (.baload, 1) := by decide +kernel
theorem dX12_again_15 : decode cX12_again 15 = .ok (.ifCond .ne 5, 3) := by decide +kernel
theorem dX12_again_18 : decode cX12_again 18 = .ok (.iconst 0, 1) := by decide +kernel
theorem dX12_again_19 : decode cX12_again 19 = .ok (.ireturn, 1) := by decide +kernel
theorem dX12_again_20 : decode cX12_again 20 = .ok (.iconst 0, 1) := by decide +kernel
theorem dX12_again_21 : decode cX12_again 21 = .ok (.istore_n 2, 1) := by decide +kernel
theorem dX12_again_22 : decode cX12_again 22 = .ok (.iload_n 2, 1) := by decide +kernel
theorem dX12_again_23 : decode cX12_again 23 = .ok (.sipush 1160, 3) := by decide +kernel
theorem dX12_again_26 : decode cX12_again 26 = .ok (.if_icmp .ge 29, 3) := by decide +kernel
theorem dX12_again_29 : decode cX12_again 29 = .ok (.aload_n 0, 1) := by decide +kernel
theorem dX12_again_30 : decode cX12_again 30 = .ok (.getfield 7, 3) := by decide +kernel
theorem dX12_again_33 : decode cX12_again 33 = .ok (.iload_n 2, 1) := by decide +kernel
theorem dX12_again_34 : decode cX12_again 34 = .ok (.aload_n 0, 1) := by decide +kernel
theorem dX12_again_35 : decode cX12_again 35 = .ok (.getfield 7, 3) := by decide +kernel
theorem dX12_again_38 : decode cX12_again 38 = .ok (.sipush 1160, 3) := by decide +kernel
theorem dX12_again_41 : decode cX12_again 41 = .ok (.iload_n 1, 1) := by decide +kernel
theorem dX12_again_42 : decode cX12_again 42 = .ok (.iconst 1, 1) := by decide +kernel
theorem dX12_again_43 : decode cX12_again 43 = .ok (.iadd, 1) := by decide +kernel
theorem dX12_again_44 : decode cX12_again 44 = .ok (.imul, 1) := by decide +kernel
theorem dX12_again_45 : decode cX12_again 45 = .ok (.iload_n 2, 1) := by decide +kernel
theorem dX12_again_46 : decode cX12_again 46 = .ok (.iadd, 1) := by decide +kernel
theorem dX12_again_47 : decode cX12_again 47 = .ok (.iaload, 1) := by decide +kernel
theorem dX12_again_48 : decode cX12_again 48 = .ok (.iastore, 1) := by decide +kernel
theorem dX12_again_49 : decode cX12_again 49 = .ok (.iinc 2 1, 3) := by decide +kernel
theorem dX12_again_52 : decode cX12_again 52 = .ok (.goto (-30), 3) := by decide +kernel
theorem dX12_again_55 : decode cX12_again 55 = .ok (.aload_n 0, 1) := by decide +kernel
theorem dX12_again_56 : decode cX12_again 56 = .ok (.invokevirtual 65, 3) := by decide +kernel
theorem dX12_again_59 : decode cX12_again 59 = .ok (.iconst 1, 1) := by decide +kernel
theorem dX12_again_60 : decode cX12_again 60 = .ok (.ireturn, 1) := by decide +kernel
