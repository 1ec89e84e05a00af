theorem dX0_init_0 : decode cX0_init 0 = .ok (.aload_n 0, 1) := by decide +kernel
theorem dX0_init_1 : decode cX0_init 1 = .ok (.invokespecial 1, 3) := by decide +kernel
theorem dX0_init_4 : decode cX0_init 4 = .ok (.aload_n 0, 1) := by decide +kernel
theorem dX0_init_5 : decode cX0_init 5 = .ok (.iconst 0, 1) := by decide +kernel
theorem dX0_init_6 : decode cX0_init 6 = .ok (.putfield 7, 3) := by decide +kernel
theorem dX0_init_9 : decode cX0_init 9 = .ok (.aload_n 0, 1) := by decide +kernel
theorem dX0_init_10 : decode cX0_init 10 = .ok (.iconst 0, 1) := by decide +kernel
theorem dX0_init_11 : decode cX0_init 11 = .ok (.putfield 13, 3) := by decide +kernel
theorem dX0_init_14 : decode cX0_init 14 = .ok (.aload_n 0, 1) := by decide +kernel
theorem dX0_init_15 : decode cX0_init 15 = .ok (.iconst 0, 1) := by decide +kernel
theorem dX0_init_16 : decode cX0_init 16 = .ok (.putfield 16, 3) := by decide +kernel
theorem dX0_init_19 : decode cX0_init 19 = .ok (.aload_n 0, 1) := by decide +kernel
theorem dX0_init_20 : decode cX0_init 20 = .ok (.iconst 0, 1) := by decide +kernel
theorem dX0_init_21 : decode cX0_init 21 = .ok (.putfield 20, 3) := by decide +kernel
theorem dX0_init_24 : decode cX0_init 24 = .ok (.aload_n 0, 1) := by decide +kernel
theorem dX0_init_25 : decode cX0_init 25 = .ok (.iconst 0, 1) := by decide +kernel
theorem dX0_init_26 : decode cX0_init 26 = .ok (.putfield 23, 3) := by decide +kernel
theorem dX0_init_29 : decode cX0_init 29 = .ok (.aload_n 0, 1) := by decide +kernel
theorem dX0_init_30 : decode cX0_init 30 = .ok (.iconst 0, 1) := by decide +kernel
theorem dX0_init_31 : decode cX0_init 31 = .ok (.putfield 26, 3) := by decide +kernel
theorem dX0_init_34 : decode cX0_init 34 = .ok (.aload_n 0, 1) := by decide +kernel
theorem dX0_init_35 : decode cX0_init 35 = .ok (.iconst 0, 1) := by decide +kernel
theorem dX0_init_36 : decode cX0_init 36 = .ok (.putfield 29, 3) := by decide +kernel
theorem dX0_init_39 : decode cX0_init 39 = .ok (.aload_n 0, 1) := by decide +kernel
theorem dX0_init_40 : decode cX0_init 40 = .ok (.iload_n 1, 1) := by decide +kernel
theorem dX0_init_41 : decode cX0_init 41 = .ok (.putfield 32, 3) := by decide +kernel
theorem dX0_init_44 : decode cX0_init 44 = .ok (.aload_n 0, 1) := by decide +kernel
theorem dX0_init_45 : decode cX0_init 45 = .ok (.aload_n 2, 1) := by decide +kernel
theorem dX0_init_46 : decode cX0_init 46 = .ok (.putfield 35, 3) := by decide +kernel
theorem dX0_init_49 : decode cX0_init 49 = .ok (.return_, 1) := by decide +kernel
theorem dX0_build_0 : decode cX0_build 0 = .ok (.aload_n 0, 1) := by decide +kernel
theorem dX0_build_1 : decode cX0_build 1 = .ok (.aload_n 1, 1) := by decide +kernel
theorem dX0_build_2 : decode cX0_build 2 = .ok (.aload_n 0, 1) := by decide +kernel
theorem dX0_build_3 : decode cX0_build 3 = .ok (.getfield 32, 3) := by decide +kernel
theorem dX0_build_6 : decode cX0_build 6 = .ok (.invokevirtual 39, 3) := by decide +kernel
theorem dX0_build_9 : decode cX0_build 9 = .ok (.putfield 7, 3) := by decide +kernel
theorem dX0_build_12 : decode cX0_build 12 = .ok (.aload_n 0, 1) := by decide +kernel
theorem dX0_build_13 : decode cX0_build 13 = .ok (.getfield 7, 3) := by decide +kernel
theorem dX0_build_16 : decode cX0_build 16 = .ok (.ifCond .ne 4, 3) := by decide +kernel
theorem dX0_build_19 : decode cX0_build 19 = .ok (.return_, 1) := by decide +kernel
theorem dX0_build_20 : decode cX0_build 20 = .ok (.aload_n 1, 1) := by decide +kernel
theorem dX0_build_21 : decode cX0_build 21 = .ok (.getfield 45, 3) := by decide +kernel
theorem dX0_build_24 : decode cX0_build 24 = .ok (.aload_n 0, 1) := by decide +kernel
theorem dX0_build_25 : decode cX0_build 25 = .ok (.getfield 32, 3) := by decide +kernel
theorem dX0_build_28 : decode cX0_build 28 = .ok (.iconst 0, 1) := by decide +kernel
theorem dX0_build_29 : decode cX0_build 29 = .ok (.invokevirtual 49, 3) := by decide +kernel
theorem dX0_build_32 : decode cX0_build 32 = .ok (.istore_n 2, 1) := by decide +kernel
theorem dX0_build_33 : decode cX0_build 33 = .ok (.aload_n 1, 1) := by decide +kernel
theorem dX0_build_34 : decode cX0_build 34 = .ok (.getfield 45, 3) := by decide +kernel
theorem dX0_build_37 : decode cX0_build 37 = .ok (.aload_n 0, 1) := by decide +kernel
theorem dX0_build_38 : decode cX0_build 38 = .ok (.getfield 32, 3) := by decide +kernel
theorem dX0_build_41 : decode cX0_build 41 = .ok (.iconst 1, 1) := by decide +kernel
theorem dX0_build_42 : decode cX0_build 42 = .ok (.invokevirtual 49, 3) := by decide +kernel
theorem dX0_build_45 : decode cX0_build 45 = .ok (.istore_n 3, 1) := by decide +kernel
theorem dX0_build_46 : decode cX0_build 46 = .ok (.aload_n 0, 1) := by decide +kernel
theorem dX0_build_47 : decode cX0_build 47 = .ok (.iload_n 2, 1) := by decide +kernel
theorem dX0_build_48 : decode cX0_build 48 = .ok (.aload_n 1, 1) := by decide +kernel
theorem dX0_build_49 : decode cX0_build 49 = .ok (.getfield 45, 3) := by decide +kernel
theorem dX0_build_52 : decode cX0_build 52 = .ok (.aload_n 0, 1) := by decide +kernel
theorem dX0_build_53 : decode cX0_build 53 = .ok (.getfield 32, 3) := by decide +kernel
theorem dX0_build_56 : decode cX0_build 56 = .ok (.iconst 2, 1) := by decide +kernel
theorem dX0_build_57 : decode cX0_build 57 = .ok (.invokevirtual 49, 3) := by decide +kernel
theorem dX0_build_60 : decode cX0_build 60 = .ok (.if_icmp .ne 7, 3) := by decide +kernel
theorem dX0_build_63 : decode cX0_build 63 = .ok (.iconst 1, 1) := by decide +kernel
theorem dX0_build_64 : decode cX0_build 64 = .ok (.goto 4, 3) := by decide +kernel
theorem dX0_build_67 : decode cX0_build 67 = .ok (.iconst 0, 1) := by decide +kernel
theorem dX0_build_68 : decode cX0_build 68 = .ok (.putfield 13, 3) := by decide +kernel
theorem dX0_build_71 : decode cX0_build 71 = .ok (.aload_n 0, 1) := by decide +kernel
theorem dX0_build_72 : decode cX0_build 72 = .ok (.aload_n 0, 1) := by decide +kernel
theorem dX0_build_73 : decode cX0_build 73 = .ok (.getfield 13, 3) := by decide +kernel
theorem dX0_build_76 : decode cX0_build 76 = .ok (.ifCond .eq 7, 3) := by decide +kernel
theorem dX0_build_79 : decode cX0_build 79 = .ok (.iload_n 2, 1) := by decide +kernel
theorem dX0_build_80 : decode cX0_build 80 = .ok (.goto 4, 3) := by decide +kernel
theorem dX0_build_83 : decode cX0_build 83 = .ok (.iload_n 3, 1) := by decide +kernel
theorem dX0_build_84 : decode cX0_build 84 = .ok (.putfield 16, 3) := by decide +kernel
theorem dX0_build_87 : decode cX0_build 87 = .ok (.aload_n 0, 1) := by decide +kernel
theorem dX0_build_88 : decode cX0_build 88 = .ok (.aload_n 0, 1) := by decide +kernel
theorem dX0_build_89 : decode cX0_build 89 = .ok (.getfield 13, 3) := by decide +kernel
theorem dX0_build_92 : decode cX0_build 92 = .ok (.ifCond .eq 7, 3) := by decide +kernel
theorem dX0_build_95 : decode cX0_build 95 = .ok (.iload_n 3, 1) := by decide +kernel
theorem dX0_build_96 : decode cX0_build 96 = .ok (.goto 4, 3) := by decide +kernel
theorem dX0_build_99 : decode cX0_build 99 = .ok (.iload_n 2, 1) := by decide +kernel
theorem dX0_build_100 : decode cX0_build 100 = .ok (.putfield 20, 3) := by decide +kernel
theorem dX0_build_103 : decode cX0_build 103 = .ok (.aload_n 0, 1) := by decide +kernel
theorem dX0_build_104 : decode cX0_build 104 = .ok (.aload_n 1, 1) := by decide +kernel
theorem dX0_build_105 : decode cX0_build 105 = .ok (.getfield 45, 3) := by decide +kernel
theorem dX0_build_108 : decode cX0_build 108 = .ok (.aload_n 0, 1) := by decide +kernel
theorem dX0_build_109 : decode cX0_build 109 = .ok (.getfield 32, 3) := by decide +kernel
theorem dX0_build_112 : decode cX0_build 112 = .ok (.aload_n 0, 1) := by decide +kernel
theorem dX0_build_113 : decode cX0_build 113 = .ok (.getfield 13, 3) := by decide +kernel
theorem dX0_build_116 : decode cX0_build 116 = .ok (.ifCond .eq 7, 3) := by decide +kernel
theorem dX0_build_119 : decode cX0_build 119 = .ok (.iconst 3, 1) := by decide +kernel
theorem dX0_build_120 : decode cX0_build 120 = .ok (.goto 4, 3) := by decide +kernel
theorem dX0_build_123 : decode cX0_build 123 = .ok (.iconst 2, 1) := by decide +kernel
theorem dX0_build_124 : decode cX0_build 124 = .ok (.invokevirtual 49, 3) := by decide +kernel
theorem dX0_build_127 : decode cX0_build 127 = .ok (.putfield 23, 3) := by decide +kernel
theorem dX0_build_130 : decode cX0_build 130 = .ok (.aload_n 1, 1) := by decide +kernel
theorem dX0_build_131 : decode cX0_build 131 = .ok (.getfield 45, 3) := by decide +kernel
theorem dX0_build_134 : decode cX0_build 134 = .ok (.aload_n 0, 1) := by decide +kernel
theorem dX0_build_135 : decode cX0_build 135 = .ok (.getfield 32, 3) := by decide +kernel
theorem dX0_build_138 : decode cX0_build 138 = .ok (.iconst 4, 1) := by decide +kernel
theorem dX0_build_139 : decode cX0_build 139 = .ok (.invokevirtual 49, 3) := by decide +kernel
theorem dX0_build_142 : decode cX0_build 142 = .ok (.istore 4, 2) := by decide +kernel
theorem dX0_build_144 : decode cX0_build 144 = .ok (.aload_n 0, 1) := by decide +kernel
theorem dX0_build_145 : decode cX0_build 145 = .ok (.aload_n 1, 1) := by decide +kernel
theorem dX0_build_146 : decode cX0_build 146 = .ok (.getfield 55, 3) := by decide +kernel
theorem dX0_build_149 : decode cX0_build 149 = .ok (.iload 4, 2) := by decide +kernel
theorem dX0_build_151 : decode cX0_build 151 = .ok (.iconst 0, 1) := by decide +kernel
theorem dX0_build_152 : decode cX0_build 152 = .ok (.invokevirtual 49, 3) := by decide +kernel
theorem dX0_build_155 : decode cX0_build 155 = .ok (.putfield 26, 3) := by decide +kernel
theorem dX0_build_158 : decode cX0_build 158 = .ok (.aload_n 0, 1) := by decide +kernel
theorem dX0_build_159 : decode cX0_build 159 = .ok (.aload_n 1, 1) := by decide +kernel
theorem dX0_build_160 : decode cX0_build 160 = .ok (.getfield 55, 3) := by decide +kernel
theorem dX0_build_163 : decode cX0_build 163 = .ok (.iload 4, 2) := by decide +kernel
theorem dX0_build_165 : decode cX0_build 165 = .ok (.iconst 1, 1) := by decide +kernel
theorem dX0_build_166 : decode cX0_build 166 = .ok (.invokevirtual 49, 3) := by decide +kernel
theorem dX0_build_169 : decode cX0_build 169 = .ok (.putfield 29, 3) := by decide +kernel
theorem dX0_build_172 : decode cX0_build 172 = .ok (.return_, 1) := by decide +kernel
theorem dX0_meets_0 : decode cX0_meets 0 = .ok (.aload_n 0, 1) := by decide +kernel
theorem dX0_meets_1 : decode cX0_meets 1 = .ok (.getfield 13, 3) := by decide +kernel
theorem dX0_meets_4 : decode cX0_meets 4 = .ok (.ifCond .eq 10, 3) := by decide +kernel
theorem dX0_meets_7 : decode cX0_meets 7 = .ok (.aload_n 1, 1) := by decide +kernel
theorem dX0_meets_8 : decode cX0_meets 8 = .ok (.getfield 58, 3) := by decide +kernel
theorem dX0_meets_11 : decode cX0_meets 11 = .ok (.goto 7, 3) := by decide +kernel
theorem dX0_meets_14 : decode cX0_meets 14 = .ok (.aload_n 1, 1) := by decide +kernel
theorem dX0_meets_15 : decode cX0_meets 15 = .ok (.getfield 64, 3) := by decide +kernel
theorem dX0_meets_18 : decode cX0_meets 18 = .ok (.aload_n 0, 1) := by decide +kernel
theorem dX0_meets_19 : decode cX0_meets 19 = .ok (.getfield 16, 3) := by decide +kernel
theorem dX0_meets_22 : decode cX0_meets 22 = .ok (.i2l, 1) := by decide +kernel
theorem dX0_meets_23 : decode cX0_meets 23 = .ok (.aload_n 1, 1) := by decide +kernel
theorem dX0_meets_24 : decode cX0_meets 24 = .ok (.getfield 67, 3) := by decide +kernel
theorem dX0_meets_27 : decode cX0_meets 27 = .ok (.lmul, 1) := by decide +kernel
theorem dX0_meets_28 : decode cX0_meets 28 = .ok (.lsub, 1) := by decide +kernel
theorem dX0_meets_29 : decode cX0_meets 29 = .ok (.lstore 4, 2) := by decide +kernel
theorem dX0_meets_31 : decode cX0_meets 31 = .ok (.aload_n 0, 1) := by decide +kernel
theorem dX0_meets_32 : decode cX0_meets 32 = .ok (.getfield 13, 3) := by decide +kernel
theorem dX0_meets_35 : decode cX0_meets 35 = .ok (.ifCond .eq 10, 3) := by decide +kernel
theorem dX0_meets_38 : decode cX0_meets 38 = .ok (.aload_n 2, 1) := by decide +kernel
theorem dX0_meets_39 : decode cX0_meets 39 = .ok (.getfield 58, 3) := by decide +kernel
theorem dX0_meets_42 : decode cX0_meets 42 = .ok (.goto 7, 3) := by decide +kernel
theorem dX0_meets_45 : decode cX0_meets 45 = .ok (.aload_n 2, 1) := by decide +kernel
theorem dX0_meets_46 : decode cX0_meets 46 = .ok (.getfield 64, 3) := by decide +kernel
theorem dX0_meets_49 : decode cX0_meets 49 = .ok (.aload_n 0, 1) := by decide +kernel
theorem dX0_meets_50 : decode cX0_meets 50 = .ok (.getfield 16, 3) := by decide +kernel
theorem dX0_meets_53 : decode cX0_meets 53 = .ok (.i2l, 1) := by decide +kernel
theorem dX0_meets_54 : decode cX0_meets 54 = .ok (.aload_n 2, 1) := by decide +kernel
theorem dX0_meets_55 : decode cX0_meets 55 = .ok (.getfield 67, 3) := by decide +kernel
theorem dX0_meets_58 : decode cX0_meets 58 = .ok (.lmul, 1) := by decide +kernel
theorem dX0_meets_59 : decode cX0_meets 59 = .ok (.lsub, 1) := by decide +kernel
theorem dX0_meets_60 : decode cX0_meets 60 = .ok (.lstore 6, 2) := by decide +kernel
theorem dX0_meets_62 : decode cX0_meets 62 = .ok (.lload 4, 2) := by decide +kernel
theorem dX0_meets_64 : decode cX0_meets 64 = .ok (.lconst 0, 1) := by decide +kernel
theorem dX0_meets_65 : decode cX0_meets 65 = .ok (.lcmp, 1) := by decide +kernel
theorem dX0_meets_66 : decode cX0_meets 66 = .ok (.ifCond .ge 10, 3) := by decide +kernel
theorem dX0_meets_69 : decode cX0_meets 69 = .ok (.lload 6, 2) := by decide +kernel
theorem dX0_meets_71 : decode cX0_meets 71 = .ok (.lconst 0, 1) := by decide +kernel
theorem dX0_meets_72 : decode cX0_meets 72 = .ok (.lcmp, 1) := by decide +kernel
theorem dX0_meets_73 : decode cX0_meets 73 = .ok (.ifCond .gt 19, 3) := by decide +kernel
theorem dX0_meets_76 : decode cX0_meets 76 = .ok (.lload 4, 2) := by decide +kernel
theorem dX0_meets_78 : decode cX0_meets 78 = .ok (.lconst 0, 1) := by decide +kernel
theorem dX0_meets_79 : decode cX0_meets 79 = .ok (.lcmp, 1) := by decide +kernel
theorem dX0_meets_80 : decode cX0_meets 80 = .ok (.ifCond .le 10, 3) := by decide +kernel
theorem dX0_meets_83 : decode cX0_meets 83 = .ok (.lload 6, 2) := by decide +kernel
theorem dX0_meets_85 : decode cX0_meets 85 = .ok (.lconst 0, 1) := by decide +kernel
theorem dX0_meets_86 : decode cX0_meets 86 = .ok (.lcmp, 1) := by decide +kernel
theorem dX0_meets_87 : decode cX0_meets 87 = .ok (.ifCond .lt 5, 3) := by decide +kernel
theorem dX0_meets_90 : decode cX0_meets 90 = .ok (.iconst 0, 1) := by decide +kernel
theorem dX0_meets_91 : decode cX0_meets 91 = .ok (.ireturn, 1) := by decide +kernel
theorem dX0_meets_92 : decode cX0_meets 92 = .ok (.lload 6, 2) := by decide +kernel
theorem dX0_meets_94 : decode cX0_meets 94 = .ok (.lconst 0, 1) := by decide +kernel
theorem dX0_meets_95 : decode cX0_meets 95 = .ok (.lcmp, 1) := by decide +kernel
theorem dX0_meets_96 : decode cX0_meets 96 = .ok (.ifCond .ge 9, 3) := by decide +kernel
theorem dX0_meets_99 : decode cX0_meets 99 = .ok (.lload 6, 2) := by decide +kernel
theorem dX0_meets_101 : decode cX0_meets 101 = .ok (.lneg, 1) := by decide +kernel
theorem dX0_meets_102 : decode cX0_meets 102 = .ok (.goto 5, 3) := by decide +kernel
theorem dX0_meets_105 : decode cX0_meets 105 = .ok (.lload 6, 2) := by decide +kernel
theorem dX0_meets_107 : decode cX0_meets 107 = .ok (.lstore 8, 2) := by decide +kernel
theorem dX0_meets_109 : decode cX0_meets 109 = .ok (.lload 4, 2) := by decide +kernel
theorem dX0_meets_111 : decode cX0_meets 111 = .ok (.lconst 0, 1) := by decide +kernel
theorem dX0_meets_112 : decode cX0_meets 112 = .ok (.lcmp, 1) := by decide +kernel
theorem dX0_meets_113 : decode cX0_meets 113 = .ok (.ifCond .ge 9, 3) := by decide +kernel
theorem dX0_meets_116 : decode cX0_meets 116 = .ok (.lload 4, 2) := by decide +kernel
theorem dX0_meets_118 : decode cX0_meets 118 = .ok (.lneg, 1) := by decide +kernel
theorem dX0_meets_119 : decode cX0_meets 119 = .ok (.goto 5, 3) := by decide +kernel
theorem dX0_meets_122 : decode cX0_meets 122 = .ok (.lload 4, 2) := by decide +kernel
theorem dX0_meets_124 : decode cX0_meets 124 = .ok (.lstore 10, 2) := by decide +kernel
theorem dX0_meets_126 : decode cX0_meets 126 = .ok (.aload_n 3, 1) := by decide +kernel
theorem dX0_meets_127 : decode cX0_meets 127 = .ok (.aload_n 1, 1) := by decide +kernel
theorem dX0_meets_128 : decode cX0_meets 128 = .ok (.getfield 58, 3) := by decide +kernel
theorem dX0_meets_131 : decode cX0_meets 131 = .ok (.lload 8, 2) := by decide +kernel
theorem dX0_meets_133 : decode cX0_meets 133 = .ok (.lmul, 1) := by decide +kernel
theorem dX0_meets_134 : decode cX0_meets 134 = .ok (.aload_n 2, 1) := by decide +kernel
theorem dX0_meets_135 : decode cX0_meets 135 = .ok (.getfield 58, 3) := by decide +kernel
theorem dX0_meets_138 : decode cX0_meets 138 = .ok (.lload 10, 2) := by decide +kernel
theorem dX0_meets_140 : decode cX0_meets 140 = .ok (.lmul, 1) := by decide +kernel
theorem dX0_meets_141 : decode cX0_meets 141 = .ok (.ladd, 1) := by decide +kernel
theorem dX0_meets_142 : decode cX0_meets 142 = .ok (.putfield 58, 3) := by decide +kernel
theorem dX0_meets_145 : decode cX0_meets 145 = .ok (.aload_n 3, 1) := by decide +kernel
theorem dX0_meets_146 : decode cX0_meets 146 = .ok (.aload_n 1, 1) := by decide +kernel
theorem dX0_meets_147 : decode cX0_meets 147 = .ok (.getfield 64, 3) := by decide +kernel
theorem dX0_meets_150 : decode cX0_meets 150 = .ok (.lload 8, 2) := by decide +kernel
theorem dX0_meets_152 : decode cX0_meets 152 = .ok (.lmul, 1) := by decide +kernel
theorem dX0_meets_153 : decode cX0_meets 153 = .ok (.aload_n 2, 1) := by decide +kernel
theorem dX0_meets_154 : decode cX0_meets 154 = .ok (.getfield 64, 3) := by decide +kernel
theorem dX0_meets_157 : decode cX0_meets 157 = .ok (.lload 10, 2) := by decide +kernel
theorem dX0_meets_159 : decode cX0_meets 159 = .ok (.lmul, 1) := by decide +kernel
theorem dX0_meets_160 : decode cX0_meets 160 = .ok (.ladd, 1) := by decide +kernel
theorem dX0_meets_161 : decode cX0_meets 161 = .ok (.putfield 64, 3) := by decide +kernel
theorem dX0_meets_164 : decode cX0_meets 164 = .ok (.aload_n 3, 1) := by decide +kernel
theorem dX0_meets_165 : decode cX0_meets 165 = .ok (.aload_n 1, 1) := by decide +kernel
theorem dX0_meets_166 : decode cX0_meets 166 = .ok (.getfield 67, 3) := by decide +kernel
theorem dX0_meets_169 : decode cX0_meets 169 = .ok (.lload 8, 2) := by decide +kernel
theorem dX0_meets_171 : decode cX0_meets 171 = .ok (.lmul, 1) := by decide +kernel
theorem dX0_meets_172 : decode cX0_meets 172 = .ok (.aload_n 2, 1) := by decide +kernel
theorem dX0_meets_173 : decode cX0_meets 173 = .ok (.getfield 67, 3) := by decide +kernel
theorem dX0_meets_176 : decode cX0_meets 176 = .ok (.lload 10, 2) := by decide +kernel
theorem dX0_meets_178 : decode cX0_meets 178 = .ok (.lmul, 1) := by decide +kernel
theorem dX0_meets_179 : decode cX0_meets 179 = .ok (.ladd, 1) := by decide +kernel
theorem dX0_meets_180 : decode cX0_meets 180 = .ok (.putfield 67, 3) := by decide +kernel
theorem dX0_meets_183 : decode cX0_meets 183 = .ok (.aload_n 0, 1) := by decide +kernel
theorem dX0_meets_184 : decode cX0_meets 184 = .ok (.getfield 13, 3) := by decide +kernel
theorem dX0_meets_187 : decode cX0_meets 187 = .ok (.ifCond .eq 10, 3) := by decide +kernel
theorem dX0_meets_190 : decode cX0_meets 190 = .ok (.aload_n 3, 1) := by decide +kernel
theorem dX0_meets_191 : decode cX0_meets 191 = .ok (.getfield 64, 3) := by decide +kernel
theorem dX0_meets_194 : decode cX0_meets 194 = .ok (.goto 7, 3) := by decide +kernel
theorem dX0_meets_197 : decode cX0_meets 197 = .ok (.aload_n 3, 1) := by decide +kernel
theorem dX0_meets_198 : decode cX0_meets 198 = .ok (.getfield 58, 3) := by decide +kernel
theorem dX0_meets_201 : decode cX0_meets 201 = .ok (.lstore 12, 2) := by decide +kernel
theorem dX0_meets_203 : decode cX0_meets 203 = .ok (.aload_n 0, 1) := by decide +kernel
theorem dX0_meets_204 : decode cX0_meets 204 = .ok (.getfield 20, 3) := by decide +kernel
theorem dX0_meets_207 : decode cX0_meets 207 = .ok (.i2l, 1) := by decide +kernel
theorem dX0_meets_208 : decode cX0_meets 208 = .ok (.aload_n 3, 1) := by decide +kernel
theorem dX0_meets_209 : decode cX0_meets 209 = .ok (.getfield 67, 3) := by decide +kernel
theorem dX0_meets_212 : decode cX0_meets 212 = .ok (.lmul, 1) := by decide +kernel
theorem dX0_meets_213 : decode cX0_meets 213 = .ok (.lload 12, 2) := by decide +kernel
theorem dX0_meets_215 : decode cX0_meets 215 = .ok (.lcmp, 1) := by decide +kernel
theorem dX0_meets_216 : decode cX0_meets 216 = .ok (.ifCond .gt 23, 3) := by decide +kernel
theorem dX0_meets_219 : decode cX0_meets 219 = .ok (.lload 12, 2) := by decide +kernel
theorem dX0_meets_221 : decode cX0_meets 221 = .ok (.aload_n 0, 1) := by decide +kernel
theorem dX0_meets_222 : decode cX0_meets 222 = .ok (.getfield 23, 3) := by decide +kernel
theorem dX0_meets_225 : decode cX0_meets 225 = .ok (.i2l, 1) := by decide +kernel
theorem dX0_meets_226 : decode cX0_meets 226 = .ok (.aload_n 3, 1) := by decide +kernel
theorem dX0_meets_227 : decode cX0_meets 227 = .ok (.getfield 67, 3) := by decide +kernel
theorem dX0_meets_230 : decode cX0_meets 230 = .ok (.lmul, 1) := by decide +kernel
theorem dX0_meets_231 : decode cX0_meets 231 = .ok (.lcmp, 1) := by decide +kernel
theorem dX0_meets_232 : decode cX0_meets 232 = .ok (.ifCond .gt 7, 3) := by decide +kernel
theorem dX0_meets_235 : decode cX0_meets 235 = .ok (.iconst 1, 1) := by decide +kernel
theorem dX0_meets_236 : decode cX0_meets 236 = .ok (.goto 4, 3) := by decide +kernel
theorem dX0_meets_239 : decode cX0_meets 239 = .ok (.iconst 0, 1) := by decide +kernel
theorem dX0_meets_240 : decode cX0_meets 240 = .ok (.ireturn, 1) := by decide +kernel
theorem dX0_putEnd_0 : decode cX0_putEnd 0 = .ok (.iload_n 1, 1) := by decide +kernel
theorem dX0_putEnd_1 : decode cX0_putEnd 1 = .ok (.ifCond .ne 10, 3) := by decide +kernel
theorem dX0_putEnd_4 : decode cX0_putEnd 4 = .ok (.aload_n 0, 1) := by decide +kernel
theorem dX0_putEnd_5 : decode cX0_putEnd 5 = .ok (.getfield 20, 3) := by decide +kernel
theorem dX0_putEnd_8 : decode cX0_putEnd 8 = .ok (.goto 7, 3) := by decide +kernel
theorem dX0_putEnd_11 : decode cX0_putEnd 11 = .ok (.aload_n 0, 1) := by decide +kernel
theorem dX0_putEnd_12 : decode cX0_putEnd 12 = .ok (.getfield 23, 3) := by decide +kernel
theorem dX0_putEnd_15 : decode cX0_putEnd 15 = .ok (.istore_n 3, 1) := by decide +kernel
theorem dX0_putEnd_16 : decode cX0_putEnd 16 = .ok (.aload_n 2, 1) := by decide +kernel
theorem dX0_putEnd_17 : decode cX0_putEnd 17 = .ok (.aload_n 0, 1) := by decide +kernel
theorem dX0_putEnd_18 : decode cX0_putEnd 18 = .ok (.getfield 13, 3) := by decide +kernel
theorem dX0_putEnd_21 : decode cX0_putEnd 21 = .ok (.ifCond .eq 10, 3) := by decide +kernel
theorem dX0_putEnd_24 : decode cX0_putEnd 24 = .ok (.aload_n 0, 1) := by decide +kernel
theorem dX0_putEnd_25 : decode cX0_putEnd 25 = .ok (.getfield 16, 3) := by decide +kernel
theorem dX0_putEnd_28 : decode cX0_putEnd 28 = .ok (.goto 4, 3) := by decide +kernel
theorem dX0_putEnd_31 : decode cX0_putEnd 31 = .ok (.iload_n 3, 1) := by decide +kernel
theorem dX0_putEnd_32 : decode cX0_putEnd 32 = .ok (.aload_n 0, 1) := by decide +kernel
theorem dX0_putEnd_33 : decode cX0_putEnd 33 = .ok (.getfield 13, 3) := by decide +kernel
theorem dX0_putEnd_36 : decode cX0_putEnd 36 = .ok (.ifCond .eq 7, 3) := by decide +kernel
theorem dX0_putEnd_39 : decode cX0_putEnd 39 = .ok (.iload_n 3, 1) := by decide +kernel
theorem dX0_putEnd_40 : decode cX0_putEnd 40 = .ok (.goto 7, 3) := by decide +kernel
theorem dX0_putEnd_43 : decode cX0_putEnd 43 = .ok (.aload_n 0, 1) := by decide +kernel
theorem dX0_putEnd_44 : decode cX0_putEnd 44 = .ok (.getfield 16, 3) := by decide +kernel
theorem dX0_putEnd_47 : decode cX0_putEnd 47 = .ok (.invokevirtual 70, 3) := by decide +kernel
theorem dX0_putEnd_50 : decode cX0_putEnd 50 = .ok (.return_, 1) := by decide +kernel
theorem dX0_endsAt_0 : decode cX0_endsAt 0 = .ok (.aload_n 0, 1) := by decide +kernel
theorem dX0_endsAt_1 : decode cX0_endsAt 1 = .ok (.getfield 13, 3) := by decide +kernel
theorem dX0_endsAt_4 : decode cX0_endsAt 4 = .ok (.ifCond .eq 10, 3) := by decide +kernel
theorem dX0_endsAt_7 : decode cX0_endsAt 7 = .ok (.aload_n 1, 1) := by decide +kernel
theorem dX0_endsAt_8 : decode cX0_endsAt 8 = .ok (.getfield 58, 3) := by decide +kernel
theorem dX0_endsAt_11 : decode cX0_endsAt 11 = .ok (.goto 7, 3) := by decide +kernel
theorem dX0_endsAt_14 : decode cX0_endsAt 14 = .ok (.aload_n 1, 1) := by decide +kernel
theorem dX0_endsAt_15 : decode cX0_endsAt 15 = .ok (.getfield 64, 3) := by decide +kernel
theorem dX0_endsAt_18 : decode cX0_endsAt 18 = .ok (.lstore_n 2, 1) := by decide +kernel
theorem dX0_endsAt_19 : decode cX0_endsAt 19 = .ok (.aload_n 0, 1) := by decide +kernel
theorem dX0_endsAt_20 : decode cX0_endsAt 20 = .ok (.getfield 13, 3) := by decide +kernel
theorem dX0_endsAt_23 : decode cX0_endsAt 23 = .ok (.ifCond .eq 10, 3) := by decide +kernel
theorem dX0_endsAt_26 : decode cX0_endsAt 26 = .ok (.aload_n 1, 1) := by decide +kernel
theorem dX0_endsAt_27 : decode cX0_endsAt 27 = .ok (.getfield 64, 3) := by decide +kernel
theorem dX0_endsAt_30 : decode cX0_endsAt 30 = .ok (.goto 7, 3) := by decide +kernel
theorem dX0_endsAt_33 : decode cX0_endsAt 33 = .ok (.aload_n 1, 1) := by decide +kernel
theorem dX0_endsAt_34 : decode cX0_endsAt 34 = .ok (.getfield 58, 3) := by decide +kernel
theorem dX0_endsAt_37 : decode cX0_endsAt 37 = .ok (.lstore 4, 2) := by decide +kernel
theorem dX0_endsAt_39 : decode cX0_endsAt 39 = .ok (.lload_n 2, 1) := by decide +kernel
theorem dX0_endsAt_40 : decode cX0_endsAt 40 = .ok (.aload_n 0, 1) := by decide +kernel
theorem dX0_endsAt_41 : decode cX0_endsAt 41 = .ok (.getfield 16, 3) := by decide +kernel
theorem dX0_endsAt_44 : decode cX0_endsAt 44 = .ok (.i2l, 1) := by decide +kernel
theorem dX0_endsAt_45 : decode cX0_endsAt 45 = .ok (.lcmp, 1) := by decide +kernel
theorem dX0_endsAt_46 : decode cX0_endsAt 46 = .ok (.ifCond .ne 29, 3) := by decide +kernel
theorem dX0_endsAt_49 : decode cX0_endsAt 49 = .ok (.lload 4, 2) := by decide +kernel
theorem dX0_endsAt_51 : decode cX0_endsAt 51 = .ok (.aload_n 0, 1) := by decide +kernel
theorem dX0_endsAt_52 : decode cX0_endsAt 52 = .ok (.getfield 20, 3) := by decide +kernel
theorem dX0_endsAt_55 : decode cX0_endsAt 55 = .ok (.i2l, 1) := by decide +kernel
theorem dX0_endsAt_56 : decode cX0_endsAt 56 = .ok (.lcmp, 1) := by decide +kernel
theorem dX0_endsAt_57 : decode cX0_endsAt 57 = .ok (.ifCond .eq 14, 3) := by decide +kernel
theorem dX0_endsAt_60 : decode cX0_endsAt 60 = .ok (.lload 4, 2) := by decide +kernel
theorem dX0_endsAt_62 : decode cX0_endsAt 62 = .ok (.aload_n 0, 1) := by decide +kernel
theorem dX0_endsAt_63 : decode cX0_endsAt 63 = .ok (.getfield 23, 3) := by decide +kernel
theorem dX0_endsAt_66 : decode cX0_endsAt 66 = .ok (.i2l, 1) := by decide +kernel
theorem dX0_endsAt_67 : decode cX0_endsAt 67 = .ok (.lcmp, 1) := by decide +kernel
theorem dX0_endsAt_68 : decode cX0_endsAt 68 = .ok (.ifCond .ne 7, 3) := by decide +kernel
theorem dX0_endsAt_71 : decode cX0_endsAt 71 = .ok (.iconst 1, 1) := by decide +kernel
theorem dX0_endsAt_72 : decode cX0_endsAt 72 = .ok (.goto 4, 3) := by decide +kernel
theorem dX0_endsAt_75 : decode cX0_endsAt 75 = .ok (.iconst 0, 1) := by decide +kernel
theorem dX0_endsAt_76 : decode cX0_endsAt 76 = .ok (.ireturn, 1) := by decide +kernel
theorem dX6_init_0 : decode cX6_init 0 = .ok (.aload_n 0, 1) := by decide +kernel
theorem dX6_init_1 : decode cX6_init 1 = .ok (.invokespecial 1, 3) := by decide +kernel
theorem dX6_init_4 : decode cX6_init 4 = .ok (.aload_n 0, 1) := by decide +kernel
theorem dX6_init_5 : decode cX6_init 5 = .ok (.lconst 0, 1) := by decide +kernel
theorem dX6_init_6 : decode cX6_init 6 = .ok (.putfield 7, 3) := by decide +kernel
theorem dX6_init_9 : decode cX6_init 9 = .ok (.aload_n 0, 1) := by decide +kernel
theorem dX6_init_10 : decode cX6_init 10 = .ok (.lconst 0, 1) := by decide +kernel
theorem dX6_init_11 : decode cX6_init 11 = .ok (.putfield 13, 3) := by decide +kernel
theorem dX6_init_14 : decode cX6_init 14 = .ok (.aload_n 0, 1) := by decide +kernel
theorem dX6_init_15 : decode cX6_init 15 = .ok (.lconst 1, 1) := by decide +kernel
theorem dX6_init_16 : decode cX6_init 16 = .ok (.putfield 16, 3) := by decide +kernel
theorem dX6_init_19 : decode cX6_init 19 = .ok (.return_, 1) := by decide +kernel
theorem dX6_put_0 : decode cX6_put 0 = .ok (.aload_n 0, 1) := by decide +kernel
theorem dX6_put_1 : decode cX6_put 1 = .ok (.iload_n 1, 1) := by decide +kernel
theorem dX6_put_2 : decode cX6_put 2 = .ok (.i2l, 1) := by decide +kernel
theorem dX6_put_3 : decode cX6_put 3 = .ok (.putfield 7, 3) := by decide +kernel
theorem dX6_put_6 : decode cX6_put 6 = .ok (.aload_n 0, 1) := by decide +kernel
theorem dX6_put_7 : decode cX6_put 7 = .ok (.iload_n 2, 1) := by decide +kernel
theorem dX6_put_8 : decode cX6_put 8 = .ok (.i2l, 1) := by decide +kernel
theorem dX6_put_9 : decode cX6_put 9 = .ok (.putfield 13, 3) := by decide +kernel
theorem dX6_put_12 : decode cX6_put 12 = .ok (.aload_n 0, 1) := by decide +kernel
theorem dX6_put_13 : decode cX6_put 13 = .ok (.lconst 1, 1) := by decide +kernel
theorem dX6_put_14 : decode cX6_put 14 = .ok (.putfield 16, 3) := by decide +kernel
theorem dX6_put_17 : decode cX6_put 17 = .ok (.return_, 1) := by decide +kernel
theorem dX6_mirror_0 : decode cX6_mirror 0 = .ok (.aload_n 0, 1) := by decide +kernel
theorem dX6_mirror_1 : decode cX6_mirror 1 = .ok (.aload_n 2, 1) := by decide +kernel
theorem dX6_mirror_2 : decode cX6_mirror 2 = .ok (.getfield 19, 3) := by decide +kernel
theorem dX6_mirror_5 : decode cX6_mirror 5 = .ok (.ifCond .eq 25, 3) := by decide +kernel
theorem dX6_mirror_8 : decode cX6_mirror 8 = .ok (.ldc2_w 25, 3) := by decide +kernel
theorem dX6_mirror_11 : decode cX6_mirror 11 = .ok (.aload_n 2, 1) := by decide +kernel
theorem dX6_mirror_12 : decode cX6_mirror 12 = .ok (.getfield 27, 3) := by decide +kernel
theorem dX6_mirror_15 : decode cX6_mirror 15 = .ok (.i2l, 1) := by decide +kernel
theorem dX6_mirror_16 : decode cX6_mirror 16 = .ok (.lmul, 1) := by decide +kernel
theorem dX6_mirror_17 : decode cX6_mirror 17 = .ok (.aload_n 1, 1) := by decide +kernel
theorem dX6_mirror_18 : decode cX6_mirror 18 = .ok (.getfield 16, 3) := by decide +kernel
theorem dX6_mirror_21 : decode cX6_mirror 21 = .ok (.lmul, 1) := by decide +kernel
theorem dX6_mirror_22 : decode cX6_mirror 22 = .ok (.aload_n 1, 1) := by decide +kernel
theorem dX6_mirror_23 : decode cX6_mirror 23 = .ok (.getfield 7, 3) := by decide +kernel
theorem dX6_mirror_26 : decode cX6_mirror 26 = .ok (.lsub, 1) := by decide +kernel
theorem dX6_mirror_27 : decode cX6_mirror 27 = .ok (.goto 7, 3) := by decide +kernel
theorem dX6_mirror_30 : decode cX6_mirror 30 = .ok (.aload_n 1, 1) := by decide +kernel
theorem dX6_mirror_31 : decode cX6_mirror 31 = .ok (.getfield 7, 3) := by decide +kernel
theorem dX6_mirror_34 : decode cX6_mirror 34 = .ok (.putfield 7, 3) := by decide +kernel
theorem dX6_mirror_37 : decode cX6_mirror 37 = .ok (.aload_n 0, 1) := by decide +kernel
theorem dX6_mirror_38 : decode cX6_mirror 38 = .ok (.aload_n 2, 1) := by decide +kernel
theorem dX6_mirror_39 : decode cX6_mirror 39 = .ok (.getfield 19, 3) := by decide +kernel
theorem dX6_mirror_42 : decode cX6_mirror 42 = .ok (.ifCond .eq 10, 3) := by decide +kernel
theorem dX6_mirror_45 : decode cX6_mirror 45 = .ok (.aload_n 1, 1) := by decide +kernel
theorem dX6_mirror_46 : decode cX6_mirror 46 = .ok (.getfield 13, 3) := by decide +kernel
theorem dX6_mirror_49 : decode cX6_mirror 49 = .ok (.goto 22, 3) := by decide +kernel
theorem dX6_mirror_52 : decode cX6_mirror 52 = .ok (.ldc2_w 25, 3) := by decide +kernel
theorem dX6_mirror_55 : decode cX6_mirror 55 = .ok (.aload_n 2, 1) := by decide +kernel
theorem dX6_mirror_56 : decode cX6_mirror 56 = .ok (.getfield 27, 3) := by decide +kernel
theorem dX6_mirror_59 : decode cX6_mirror 59 = .ok (.i2l, 1) := by decide +kernel
theorem dX6_mirror_60 : decode cX6_mirror 60 = .ok (.lmul, 1) := by decide +kernel
theorem dX6_mirror_61 : decode cX6_mirror 61 = .ok (.aload_n 1, 1) := by decide +kernel
theorem dX6_mirror_62 : decode cX6_mirror 62 = .ok (.getfield 16, 3) := by decide +kernel
theorem dX6_mirror_65 : decode cX6_mirror 65 = .ok (.lmul, 1) := by decide +kernel
theorem dX6_mirror_66 : decode cX6_mirror 66 = .ok (.aload_n 1, 1) := by decide +kernel
theorem dX6_mirror_67 : decode cX6_mirror 67 = .ok (.getfield 13, 3) := by decide +kernel
theorem dX6_mirror_70 : decode cX6_mirror 70 = .ok (.lsub, 1) := by decide +kernel
theorem dX6_mirror_71 : decode cX6_mirror 71 = .ok (.putfield 13, 3) := by decide +kernel
theorem dX6_mirror_74 : decode cX6_mirror 74 = .ok (.aload_n 0, 1) := by decide +kernel
theorem dX6_mirror_75 : decode cX6_mirror 75 = .ok (.aload_n 1, 1) := by decide +kernel
theorem dX6_mirror_76 : decode cX6_mirror 76 = .ok (.getfield 16, 3) := by decide +kernel
theorem dX6_mirror_79 : decode cX6_mirror 79 = .ok (.putfield 16, 3) := by decide +kernel
theorem dX6_mirror_82 : decode cX6_mirror 82 = .ok (.return_, 1) := by decide +kernel
theorem dX6_squareTo_0 : decode cX6_squareTo 0 = .ok (.aload_n 0, 1) := by decide +kernel
theorem dX6_squareTo_1 : decode cX6_squareTo 1 = .ok (.getfield 7, 3) := by decide +kernel
theorem dX6_squareTo_4 : decode cX6_squareTo 4 = .ok (.aload_n 1, 1) := by decide +kernel
theorem dX6_squareTo_5 : decode cX6_squareTo 5 = .ok (.getfield 7, 3) := by decide +kernel
theorem dX6_squareTo_8 : decode cX6_squareTo 8 = .ok (.lsub, 1) := by decide +kernel
theorem dX6_squareTo_9 : decode cX6_squareTo 9 = .ok (.lstore_n 2, 1) := by decide +kernel
theorem dX6_squareTo_10 : decode cX6_squareTo 10 = .ok (.aload_n 0, 1) := by decide +kernel
theorem dX6_squareTo_11 : decode cX6_squareTo 11 = .ok (.getfield 13, 3) := by decide +kernel
theorem dX6_squareTo_14 : decode cX6_squareTo 14 = .ok (.aload_n 1, 1) := by decide +kernel
theorem dX6_squareTo_15 : decode cX6_squareTo 15 = .ok (.getfield 13, 3) := by decide +kernel
theorem dX6_squareTo_18 : decode cX6_squareTo 18 = .ok (.lsub, 1) := by decide +kernel
theorem dX6_squareTo_19 : decode cX6_squareTo 19 = .ok (.lstore 4, 2) := by decide +kernel
theorem dX6_squareTo_21 : decode cX6_squareTo 21 = .ok (.lload_n 2, 1) := by decide +kernel
theorem dX6_squareTo_22 : decode cX6_squareTo 22 = .ok (.lload_n 2, 1) := by decide +kernel
theorem dX6_squareTo_23 : decode cX6_squareTo 23 = .ok (.lmul, 1) := by decide +kernel
theorem dX6_squareTo_24 : decode cX6_squareTo 24 = .ok (.lload 4, 2) := by decide +kernel
theorem dX6_squareTo_26 : decode cX6_squareTo 26 = .ok (.lload 4, 2) := by decide +kernel
theorem dX6_squareTo_28 : decode cX6_squareTo 28 = .ok (.lmul, 1) := by decide +kernel
theorem dX6_squareTo_29 : decode cX6_squareTo 29 = .ok (.ladd, 1) := by decide +kernel
theorem dX6_squareTo_30 : decode cX6_squareTo 30 = .ok (.l2i, 1) := by decide +kernel
theorem dX6_squareTo_31 : decode cX6_squareTo 31 = .ok (.ireturn, 1) := by decide +kernel
theorem dX7_init_0 : decode cX7_init 0 = .ok (.aload_n 0, 1) := by decide +kernel
theorem dX7_init_1 : decode cX7_init 1 = .ok (.invokespecial 3, 3) := by decide +kernel
theorem dX7_init_4 : decode cX7_init 4 = .ok (.aload_n 0, 1) := by decide +kernel
theorem dX7_init_5 : decode cX7_init 5 = .ok (.new 9, 3) := by decide +kernel
theorem dX7_init_8 : decode cX7_init 8 = .ok (.dup, 1) := by decide +kernel
theorem dX7_init_9 : decode cX7_init 9 = .ok (.sipush 500, 3) := by decide +kernel
theorem dX7_init_12 : decode cX7_init 12 = .ok (.iconst 1, 1) := by decide +kernel
theorem dX7_init_13 : decode cX7_init 13 = .ok (.invokespecial 11, 3) := by decide +kernel
theorem dX7_init_16 : decode cX7_init 16 = .ok (.putfield 14, 3) := by decide +kernel
theorem dX7_init_19 : decode cX7_init 19 = .ok (.aload_n 0, 1) := by decide +kernel
theorem dX7_init_20 : decode cX7_init 20 = .ok (.new 9, 3) := by decide +kernel
theorem dX7_init_23 : decode cX7_init 23 = .ok (.dup, 1) := by decide +kernel
theorem dX7_init_24 : decode cX7_init 24 = .ok (.bipush 12, 2) := by decide +kernel
theorem dX7_init_26 : decode cX7_init 26 = .ok (.bipush 7, 2) := by decide +kernel
theorem dX7_init_28 : decode cX7_init 28 = .ok (.invokespecial 11, 3) := by decide +kernel
theorem dX7_init_31 : decode cX7_init 31 = .ok (.putfield 20, 3) := by decide +kernel
theorem dX7_init_34 : decode cX7_init 34 = .ok (.aload_n 0, 1) := by decide +kernel
theorem dX7_init_35 : decode cX7_init 35 = .ok (.new 9, 3) := by decide +kernel
theorem dX7_init_38 : decode cX7_init 38 = .ok (.dup, 1) := by decide +kernel
theorem dX7_init_39 : decode cX7_init 39 = .ok (.bipush 6, 2) := by decide +kernel
theorem dX7_init_41 : decode cX7_init 41 = .ok (.bipush 8, 2) := by decide +kernel
theorem dX7_init_43 : decode cX7_init 43 = .ok (.invokespecial 11, 3) := by decide +kernel
theorem dX7_init_46 : decode cX7_init 46 = .ok (.putfield 23, 3) := by decide +kernel
theorem dX7_init_49 : decode cX7_init 49 = .ok (.aload_n 0, 1) := by decide +kernel
theorem dX7_init_50 : decode cX7_init 50 = .ok (.new 9, 3) := by decide +kernel
theorem dX7_init_53 : decode cX7_init 53 = .ok (.dup, 1) := by decide +kernel
theorem dX7_init_54 : decode cX7_init 54 = .ok (.bipush 8, 2) := by decide +kernel
theorem dX7_init_56 : decode cX7_init 56 = .ok (.iconst 4, 1) := by decide +kernel
theorem dX7_init_57 : decode cX7_init 57 = .ok (.invokespecial 11, 3) := by decide +kernel
theorem dX7_init_60 : decode cX7_init 60 = .ok (.putfield 26, 3) := by decide +kernel
theorem dX7_init_63 : decode cX7_init 63 = .ok (.aload_n 0, 1) := by decide +kernel
theorem dX7_init_64 : decode cX7_init 64 = .ok (.new 9, 3) := by decide +kernel
theorem dX7_init_67 : decode cX7_init 67 = .ok (.dup, 1) := by decide +kernel
theorem dX7_init_68 : decode cX7_init 68 = .ok (.bipush 8, 2) := by decide +kernel
theorem dX7_init_70 : decode cX7_init 70 = .ok (.iconst 2, 1) := by decide +kernel
theorem dX7_init_71 : decode cX7_init 71 = .ok (.invokespecial 11, 3) := by decide +kernel
theorem dX7_init_74 : decode cX7_init 74 = .ok (.putfield 29, 3) := by decide +kernel
theorem dX7_init_77 : decode cX7_init 77 = .ok (.aload_n 0, 1) := by decide +kernel
theorem dX7_init_78 : decode cX7_init 78 = .ok (.new 9, 3) := by decide +kernel
theorem dX7_init_81 : decode cX7_init 81 = .ok (.dup, 1) := by decide +kernel
theorem dX7_init_82 : decode cX7_init 82 = .ok (.iconst 5, 1) := by decide +kernel
theorem dX7_init_83 : decode cX7_init 83 = .ok (.iconst 2, 1) := by decide +kernel
theorem dX7_init_84 : decode cX7_init 84 = .ok (.invokespecial 11, 3) := by decide +kernel
theorem dX7_init_87 : decode cX7_init 87 = .ok (.putfield 32, 3) := by decide +kernel
theorem dX7_init_90 : decode cX7_init 90 = .ok (.aload_n 0, 1) := by decide +kernel
theorem dX7_init_91 : decode cX7_init 91 = .ok (.new 9, 3) := by decide +kernel
theorem dX7_init_94 : decode cX7_init 94 = .ok (.dup, 1) := by decide +kernel
theorem dX7_init_95 : decode cX7_init 95 = .ok (.getstatic 35, 3) := by decide +kernel
theorem dX7_init_98 : decode cX7_init 98 = .ok (.arraylength, 1) := by decide +kernel
theorem dX7_init_99 : decode cX7_init 99 = .ok (.iconst 1, 1) := by decide +kernel
theorem dX7_init_100 : decode cX7_init 100 = .ok (.invokespecial 11, 3) := by decide +kernel
theorem dX7_init_103 : decode cX7_init 103 = .ok (.putfield 39, 3) := by decide +kernel
theorem dX7_init_106 : decode cX7_init 106 = .ok (.aload_n 0, 1) := by decide +kernel
theorem dX7_init_107 : decode cX7_init 107 = .ok (.new 9, 3) := by decide +kernel
theorem dX7_init_110 : decode cX7_init 110 = .ok (.dup, 1) := by decide +kernel
theorem dX7_init_111 : decode cX7_init 111 = .ok (.bipush 16, 2) := by decide +kernel
theorem dX7_init_113 : decode cX7_init 113 = .ok (.bipush 18, 2) := by decide +kernel
theorem dX7_init_115 : decode cX7_init 115 = .ok (.invokespecial 11, 3) := by decide +kernel
theorem dX7_init_118 : decode cX7_init 118 = .ok (.putfield 44, 3) := by decide +kernel
theorem dX7_init_121 : decode cX7_init 121 = .ok (.aload_n 0, 1) := by decide +kernel
theorem dX7_init_122 : decode cX7_init 122 = .ok (.new 9, 3) := by decide +kernel
theorem dX7_init_125 : decode cX7_init 125 = .ok (.dup, 1) := by decide +kernel
theorem dX7_init_126 : decode cX7_init 126 = .ok (.bipush 60, 2) := by decide +kernel
theorem dX7_init_128 : decode cX7_init 128 = .ok (.iconst 2, 1) := by decide +kernel
theorem dX7_init_129 : decode cX7_init 129 = .ok (.invokespecial 11, 3) := by decide +kernel
theorem dX7_init_132 : decode cX7_init 132 = .ok (.putfield 47, 3) := by decide +kernel
theorem dX7_init_135 : decode cX7_init 135 = .ok (.aload_n 0, 1) := by decide +kernel
theorem dX7_init_136 : decode cX7_init 136 = .ok (.iconst 0, 1) := by decide +kernel
theorem dX7_init_137 : decode cX7_init 137 = .ok (.putfield 50, 3) := by decide +kernel
theorem dX7_init_140 : decode cX7_init 140 = .ok (.aload_n 0, 1) := by decide +kernel
theorem dX7_init_141 : decode cX7_init 141 = .ok (.iconst (-1), 1) := by decide +kernel
theorem dX7_init_142 : decode cX7_init 142 = .ok (.putfield 54, 3) := by decide +kernel
theorem dX7_init_145 : decode cX7_init 145 = .ok (.aload_n 0, 1) := by decide +kernel
theorem dX7_init_146 : decode cX7_init 146 = .ok (.iconst 0, 1) := by decide +kernel
theorem dX7_init_147 : decode cX7_init 147 = .ok (.putfield 57, 3) := by decide +kernel
theorem dX7_init_150 : decode cX7_init 150 = .ok (.aload_n 0, 1) := by decide +kernel
theorem dX7_init_151 : decode cX7_init 151 = .ok (.iconst (-1), 1) := by decide +kernel
theorem dX7_init_152 : decode cX7_init 152 = .ok (.putfield 60, 3) := by decide +kernel
theorem dX7_init_155 : decode cX7_init 155 = .ok (.iconst 0, 1) := by decide +kernel
theorem dX7_init_156 : decode cX7_init 156 = .ok (.istore_n 1, 1) := by decide +kernel
theorem dX7_init_157 : decode cX7_init 157 = .ok (.iload_n 1, 1) := by decide +kernel
theorem dX7_init_158 : decode cX7_init 158 = .ok (.iconst 5, 1) := by decide +kernel
theorem dX7_init_159 : decode cX7_init 159 = .ok (.if_icmp .ge 38, 3) := by decide +kernel
theorem dX7_init_162 : decode cX7_init 162 = .ok (.aload_n 0, 1) := by decide +kernel
theorem dX7_init_163 : decode cX7_init 163 = .ok (.getfield 32, 3) := by decide +kernel
theorem dX7_init_166 : decode cX7_init 166 = .ok (.invokevirtual 63, 3) := by decide +kernel
theorem dX7_init_169 : decode cX7_init 169 = .ok (.pop, 1) := by decide +kernel
theorem dX7_init_170 : decode cX7_init 170 = .ok (.aload_n 0, 1) := by decide +kernel
theorem dX7_init_171 : decode cX7_init 171 = .ok (.getfield 32, 3) := by decide +kernel
theorem dX7_init_174 : decode cX7_init 174 = .ok (.iload_n 1, 1) := by decide +kernel
theorem dX7_init_175 : decode cX7_init 175 = .ok (.iconst 0, 1) := by decide +kernel
theorem dX7_init_176 : decode cX7_init 176 = .ok (.bipush 50, 2) := by decide +kernel
theorem dX7_init_178 : decode cX7_init 178 = .ok (.invokevirtual 67, 3) := by decide +kernel
theorem dX7_init_181 : decode cX7_init 181 = .ok (.aload_n 0, 1) := by decide +kernel
theorem dX7_init_182 : decode cX7_init 182 = .ok (.getfield 32, 3) := by decide +kernel
theorem dX7_init_185 : decode cX7_init 185 = .ok (.iload_n 1, 1) := by decide +kernel
theorem dX7_init_186 : decode cX7_init 186 = .ok (.iconst 1, 1) := by decide +kernel
theorem dX7_init_187 : decode cX7_init 187 = .ok (.iconst 0, 1) := by decide +kernel
theorem dX7_init_188 : decode cX7_init 188 = .ok (.invokevirtual 67, 3) := by decide +kernel
theorem dX7_init_191 : decode cX7_init 191 = .ok (.iinc 1 1, 3) := by decide +kernel
theorem dX7_init_194 : decode cX7_init 194 = .ok (.goto (-37), 3) := by decide +kernel
theorem dX7_init_197 : decode cX7_init 197 = .ok (.iconst 0, 1) := by decide +kernel
theorem dX7_init_198 : decode cX7_init 198 = .ok (.istore_n 1, 1) := by decide +kernel
theorem dX7_init_199 : decode cX7_init 199 = .ok (.iload_n 1, 1) := by decide +kernel
theorem dX7_init_200 : decode cX7_init 200 = .ok (.getstatic 35, 3) := by decide +kernel
theorem dX7_init_203 : decode cX7_init 203 = .ok (.arraylength, 1) := by decide +kernel
theorem dX7_init_204 : decode cX7_init 204 = .ok (.if_icmp .ge 31, 3) := by decide +kernel
theorem dX7_init_207 : decode cX7_init 207 = .ok (.aload_n 0, 1) := by decide +kernel
theorem dX7_init_208 : decode cX7_init 208 = .ok (.getfield 39, 3) := by decide +kernel
theorem dX7_init_211 : decode cX7_init 211 = .ok (.invokevirtual 63, 3) := by decide +kernel
theorem dX7_init_214 : decode cX7_init 214 = .ok (.pop, 1) := by decide +kernel
theorem dX7_init_215 : decode cX7_init 215 = .ok (.aload_n 0, 1) := by decide +kernel
theorem dX7_init_216 : decode cX7_init 216 = .ok (.getfield 39, 3) := by decide +kernel
theorem dX7_init_219 : decode cX7_init 219 = .ok (.iload_n 1, 1) := by decide +kernel
theorem dX7_init_220 : decode cX7_init 220 = .ok (.iconst 0, 1) := by decide +kernel
theorem dX7_init_221 : decode cX7_init 221 = .ok (.getstatic 35, 3) := by decide +kernel
theorem dX7_init_224 : decode cX7_init 224 = .ok (.iload_n 1, 1) := by decide +kernel
theorem dX7_init_225 : decode cX7_init 225 = .ok (.iaload, 1) := by decide +kernel
theorem dX7_init_226 : decode cX7_init 226 = .ok (.invokevirtual 67, 3) := by decide +kernel
theorem dX7_init_229 : decode cX7_init 229 = .ok (.iinc 1 1, 3) := by decide +kernel
theorem dX7_init_232 : decode cX7_init 232 = .ok (.goto (-33), 3) := by decide +kernel
theorem dX7_init_235 : decode cX7_init 235 = .ok (.return_, 1) := by decide +kernel
theorem dX7_copy_0 : decode cX7_copy 0 = .ok (.aload_n 0, 1) := by decide +kernel
theorem dX7_copy_1 : decode cX7_copy 1 = .ok (.getfield 14, 3) := by decide +kernel
theorem dX7_copy_4 : decode cX7_copy 4 = .ok (.aload_n 1, 1) := by decide +kernel
theorem dX7_copy_5 : decode cX7_copy 5 = .ok (.getfield 14, 3) := by decide +kernel
theorem dX7_copy_8 : decode cX7_copy 8 = .ok (.invokevirtual 71, 3) := by decide +kernel
theorem dX7_copy_11 : decode cX7_copy 11 = .ok (.aload_n 0, 1) := by decide +kernel
theorem dX7_copy_12 : decode cX7_copy 12 = .ok (.getfield 20, 3) := by decide +kernel
theorem dX7_copy_15 : decode cX7_copy 15 = .ok (.aload_n 1, 1) := by decide +kernel
theorem dX7_copy_16 : decode cX7_copy 16 = .ok (.getfield 20, 3) := by decide +kernel
theorem dX7_copy_19 : decode cX7_copy 19 = .ok (.invokevirtual 71, 3) := by decide +kernel
theorem dX7_copy_22 : decode cX7_copy 22 = .ok (.aload_n 0, 1) := by decide +kernel
theorem dX7_copy_23 : decode cX7_copy 23 = .ok (.getfield 23, 3) := by decide +kernel
theorem dX7_copy_26 : decode cX7_copy 26 = .ok (.aload_n 1, 1) := by decide +kernel
theorem dX7_copy_27 : decode cX7_copy 27 = .ok (.getfield 23, 3) := by decide +kernel
theorem dX7_copy_30 : decode cX7_copy 30 = .ok (.invokevirtual 71, 3) := by decide +kernel
theorem dX7_copy_33 : decode cX7_copy 33 = .ok (.aload_n 0, 1) := by decide +kernel
theorem dX7_copy_34 : decode cX7_copy 34 = .ok (.getfield 26, 3) := by decide +kernel
theorem dX7_copy_37 : decode cX7_copy 37 = .ok (.aload_n 1, 1) := by decide +kernel
theorem dX7_copy_38 : decode cX7_copy 38 = .ok (.getfield 26, 3) := by decide +kernel
theorem dX7_copy_41 : decode cX7_copy 41 = .ok (.invokevirtual 71, 3) := by decide +kernel
theorem dX7_copy_44 : decode cX7_copy 44 = .ok (.aload_n 0, 1) := by decide +kernel
theorem dX7_copy_45 : decode cX7_copy 45 = .ok (.getfield 29, 3) := by decide +kernel
theorem dX7_copy_48 : decode cX7_copy 48 = .ok (.aload_n 1, 1) := by decide +kernel
theorem dX7_copy_49 : decode cX7_copy 49 = .ok (.getfield 29, 3) := by decide +kernel
theorem dX7_copy_52 : decode cX7_copy 52 = .ok (.invokevirtual 71, 3) := by decide +kernel
theorem dX7_copy_55 : decode cX7_copy 55 = .ok (.aload_n 0, 1) := by decide +kernel
theorem dX7_copy_56 : decode cX7_copy 56 = .ok (.getfield 32, 3) := by decide +kernel
theorem dX7_copy_59 : decode cX7_copy 59 = .ok (.aload_n 1, 1) := by decide +kernel
theorem dX7_copy_60 : decode cX7_copy 60 = .ok (.getfield 32, 3) := by decide +kernel
theorem dX7_copy_63 : decode cX7_copy 63 = .ok (.invokevirtual 71, 3) := by decide +kernel
theorem dX7_copy_66 : decode cX7_copy 66 = .ok (.aload_n 0, 1) := by decide +kernel
theorem dX7_copy_67 : decode cX7_copy 67 = .ok (.getfield 39, 3) := by decide +kernel
theorem dX7_copy_70 : decode cX7_copy 70 = .ok (.aload_n 1, 1) := by decide +kernel
theorem dX7_copy_71 : decode cX7_copy 71 = .ok (.getfield 39, 3) := by decide +kernel
theorem dX7_copy_74 : decode cX7_copy 74 = .ok (.invokevirtual 71, 3) := by decide +kernel
theorem dX7_copy_77 : decode cX7_copy 77 = .ok (.aload_n 0, 1) := by decide +kernel
theorem dX7_copy_78 : decode cX7_copy 78 = .ok (.getfield 44, 3) := by decide +kernel
theorem dX7_copy_81 : decode cX7_copy 81 = .ok (.aload_n 1, 1) := by decide +kernel
theorem dX7_copy_82 : decode cX7_copy 82 = .ok (.getfield 44, 3) := by decide +kernel
theorem dX7_copy_85 : decode cX7_copy 85 = .ok (.invokevirtual 71, 3) := by decide +kernel
theorem dX7_copy_88 : decode cX7_copy 88 = .ok (.aload_n 0, 1) := by decide +kernel
theorem dX7_copy_89 : decode cX7_copy 89 = .ok (.getfield 47, 3) := by decide +kernel
theorem dX7_copy_92 : decode cX7_copy 92 = .ok (.aload_n 1, 1) := by decide +kernel
theorem dX7_copy_93 : decode cX7_copy 93 = .ok (.getfield 47, 3) := by decide +kernel
theorem dX7_copy_96 : decode cX7_copy 96 = .ok (.invokevirtual 71, 3) := by decide +kernel
theorem dX7_copy_99 : decode cX7_copy 99 = .ok (.aload_n 0, 1) := by decide +kernel
theorem dX7_copy_100 : decode cX7_copy 100 = .ok (.aload_n 1, 1) := by decide +kernel
theorem dX7_copy_101 : decode cX7_copy 101 = .ok (.getfield 50, 3) := by decide +kernel
theorem dX7_copy_104 : decode cX7_copy 104 = .ok (.putfield 50, 3) := by decide +kernel
theorem dX7_copy_107 : decode cX7_copy 107 = .ok (.aload_n 0, 1) := by decide +kernel
theorem dX7_copy_108 : decode cX7_copy 108 = .ok (.aload_n 1, 1) := by decide +kernel
theorem dX7_copy_109 : decode cX7_copy 109 = .ok (.getfield 54, 3) := by decide +kernel
theorem dX7_copy_112 : decode cX7_copy 112 = .ok (.putfield 54, 3) := by decide +kernel
theorem dX7_copy_115 : decode cX7_copy 115 = .ok (.aload_n 0, 1) := by decide +kernel
theorem dX7_copy_116 : decode cX7_copy 116 = .ok (.aload_n 1, 1) := by decide +kernel
theorem dX7_copy_117 : decode cX7_copy 117 = .ok (.getfield 57, 3) := by decide +kernel
theorem dX7_copy_120 : decode cX7_copy 120 = .ok (.putfield 57, 3) := by decide +kernel
theorem dX7_copy_123 : decode cX7_copy 123 = .ok (.aload_n 0, 1) := by decide +kernel
theorem dX7_copy_124 : decode cX7_copy 124 = .ok (.aload_n 1, 1) := by decide +kernel
theorem dX7_copy_125 : decode cX7_copy 125 = .ok (.getfield 60, 3) := by decide +kernel
theorem dX7_copy_128 : decode cX7_copy 128 = .ok (.putfield 60, 3) := by decide +kernel
theorem dX7_copy_131 : decode cX7_copy 131 = .ok (.return_, 1) := by decide +kernel
theorem dX7_setting_0 : decode cX7_setting 0 = .ok (.aload_n 0, 1) := by decide +kernel
theorem dX7_setting_1 : decode cX7_setting 1 = .ok (.getfield 39, 3) := by decide +kernel
theorem dX7_setting_4 : decode cX7_setting 4 = .ok (.iload_n 1, 1) := by decide +kernel
theorem dX7_setting_5 : decode cX7_setting 5 = .ok (.iconst 0, 1) := by decide +kernel
theorem dX7_setting_6 : decode cX7_setting 6 = .ok (.invokevirtual 75, 3) := by decide +kernel
theorem dX7_setting_9 : decode cX7_setting 9 = .ok (.ireturn, 1) := by decide +kernel
theorem dX7_isKnown_0 : decode cX7_isKnown 0 = .ok (.aload_n 0, 1) := by decide +kernel
theorem dX7_isKnown_1 : decode cX7_isKnown 1 = .ok (.getfield 60, 3) := by decide +kernel
theorem dX7_isKnown_4 : decode cX7_isKnown 4 = .ok (.iconst (-1), 1) := by decide +kernel
theorem dX7_isKnown_5 : decode cX7_isKnown 5 = .ok (.if_icmp .ne 10, 3) := by decide +kernel
theorem dX7_isKnown_8 : decode cX7_isKnown 8 = .ok (.aload_n 0, 1) := by decide +kernel
theorem dX7_isKnown_9 : decode cX7_isKnown 9 = .ok (.getfield 57, 3) := by decide +kernel
theorem dX7_isKnown_12 : decode cX7_isKnown 12 = .ok (.goto 7, 3) := by decide +kernel
theorem dX7_isKnown_15 : decode cX7_isKnown 15 = .ok (.aload_n 0, 1) := by decide +kernel
theorem dX7_isKnown_16 : decode cX7_isKnown 16 = .ok (.getfield 60, 3) := by decide +kernel
theorem dX7_isKnown_19 : decode cX7_isKnown 19 = .ok (.istore_n 3, 1) := by decide +kernel
theorem dX7_isKnown_20 : decode cX7_isKnown 20 = .ok (.iload_n 1, 1) := by decide +kernel
theorem dX7_isKnown_21 : decode cX7_isKnown 21 = .ok (.iload_n 3, 1) := by decide +kernel
theorem dX7_isKnown_22 : decode cX7_isKnown 22 = .ok (.if_icmp .gt 17, 3) := by decide +kernel
theorem dX7_isKnown_25 : decode cX7_isKnown 25 = .ok (.iload_n 2, 1) := by decide +kernel
theorem dX7_isKnown_26 : decode cX7_isKnown 26 = .ok (.iconst (-1), 1) := by decide +kernel
theorem dX7_isKnown_27 : decode cX7_isKnown 27 = .ok (.if_icmp .eq 8, 3) := by decide +kernel
theorem dX7_isKnown_30 : decode cX7_isKnown 30 = .ok (.iload_n 2, 1) := by decide +kernel
theorem dX7_isKnown_31 : decode cX7_isKnown 31 = .ok (.iload_n 3, 1) := by decide +kernel
theorem dX7_isKnown_32 : decode cX7_isKnown 32 = .ok (.if_icmp .le 7, 3) := by decide +kernel
theorem dX7_isKnown_35 : decode cX7_isKnown 35 = .ok (.iconst 1, 1) := by decide +kernel
theorem dX7_isKnown_36 : decode cX7_isKnown 36 = .ok (.goto 4, 3) := by decide +kernel
theorem dX7_isKnown_39 : decode cX7_isKnown 39 = .ok (.iconst 0, 1) := by decide +kernel
theorem dX7_isKnown_40 : decode cX7_isKnown 40 = .ok (.ireturn, 1) := by decide +kernel
theorem dX7_wallStands_0 : decode cX7_wallStands 0 = .ok (.aload_n 0, 1) := by decide +kernel
theorem dX7_wallStands_1 : decode cX7_wallStands 1 = .ok (.getfield 20, 3) := by decide +kernel
theorem dX7_wallStands_4 : decode cX7_wallStands 4 = .ok (.iload_n 1, 1) := by decide +kernel
theorem dX7_wallStands_5 : decode cX7_wallStands 5 = .ok (.invokevirtual 79, 3) := by decide +kernel
theorem dX7_wallStands_8 : decode cX7_wallStands 8 = .ok (.ifCond .eq 33, 3) := by decide +kernel
theorem dX7_wallStands_11 : decode cX7_wallStands 11 = .ok (.aload_n 0, 1) := by decide +kernel
theorem dX7_wallStands_12 : decode cX7_wallStands 12 = .ok (.aload_n 0, 1) := by decide +kernel
theorem dX7_wallStands_13 : decode cX7_wallStands 13 = .ok (.getfield 20, 3) := by decide +kernel
theorem dX7_wallStands_16 : decode cX7_wallStands 16 = .ok (.iload_n 1, 1) := by decide +kernel
theorem dX7_wallStands_17 : decode cX7_wallStands 17 = .ok (.iconst 5, 1) := by decide +kernel
theorem dX7_wallStands_18 : decode cX7_wallStands 18 = .ok (.invokevirtual 75, 3) := by decide +kernel
theorem dX7_wallStands_21 : decode cX7_wallStands 21 = .ok (.aload_n 0, 1) := by decide +kernel
theorem dX7_wallStands_22 : decode cX7_wallStands 22 = .ok (.getfield 20, 3) := by decide +kernel
theorem dX7_wallStands_25 : decode cX7_wallStands 25 = .ok (.iload_n 1, 1) := by decide +kernel
theorem dX7_wallStands_26 : decode cX7_wallStands 26 = .ok (.bipush 6, 2) := by decide +kernel
theorem dX7_wallStands_28 : decode cX7_wallStands 28 = .ok (.invokevirtual 75, 3) := by decide +kernel
theorem dX7_wallStands_31 : decode cX7_wallStands 31 = .ok (.invokevirtual 83, 3) := by decide +kernel
theorem dX7_wallStands_34 : decode cX7_wallStands 34 = .ok (.ifCond .eq 7, 3) := by decide +kernel
theorem dX7_wallStands_37 : decode cX7_wallStands 37 = .ok (.iconst 1, 1) := by decide +kernel
theorem dX7_wallStands_38 : decode cX7_wallStands 38 = .ok (.goto 4, 3) := by decide +kernel
theorem dX7_wallStands_41 : decode cX7_wallStands 41 = .ok (.iconst 0, 1) := by decide +kernel
theorem dX7_wallStands_42 : decode cX7_wallStands 42 = .ok (.ireturn, 1) := by decide +kernel
theorem dX7_senderStands_0 : decode cX7_senderStands 0 = .ok (.aload_n 0, 1) := by decide +kernel
theorem dX7_senderStands_1 : decode cX7_senderStands 1 = .ok (.getfield 23, 3) := by decide +kernel
theorem dX7_senderStands_4 : decode cX7_senderStands 4 = .ok (.iload_n 1, 1) := by decide +kernel
theorem dX7_senderStands_5 : decode cX7_senderStands 5 = .ok (.invokevirtual 79, 3) := by decide +kernel
theorem dX7_senderStands_8 : decode cX7_senderStands 8 = .ok (.ifCond .eq 32, 3) := by decide +kernel
theorem dX7_senderStands_11 : decode cX7_senderStands 11 = .ok (.aload_n 0, 1) := by decide +kernel
theorem dX7_senderStands_12 : decode cX7_senderStands 12 = .ok (.aload_n 0, 1) := by decide +kernel
theorem dX7_senderStands_13 : decode cX7_senderStands 13 = .ok (.getfield 23, 3) := by decide +kernel
theorem dX7_senderStands_16 : decode cX7_senderStands 16 = .ok (.iload_n 1, 1) := by decide +kernel
theorem dX7_senderStands_17 : decode cX7_senderStands 17 = .ok (.iconst 4, 1) := by decide +kernel
theorem dX7_senderStands_18 : decode cX7_senderStands 18 = .ok (.invokevirtual 75, 3) := by decide +kernel
theorem dX7_senderStands_21 : decode cX7_senderStands 21 = .ok (.aload_n 0, 1) := by decide +kernel
theorem dX7_senderStands_22 : decode cX7_senderStands 22 = .ok (.getfield 23, 3) := by decide +kernel
theorem dX7_senderStands_25 : decode cX7_senderStands 25 = .ok (.iload_n 1, 1) := by decide +kernel
theorem dX7_senderStands_26 : decode cX7_senderStands 26 = .ok (.iconst 5, 1) := by decide +kernel
theorem dX7_senderStands_27 : decode cX7_senderStands 27 = .ok (.invokevirtual 75, 3) := by decide +kernel
theorem dX7_senderStands_30 : decode cX7_senderStands 30 = .ok (.invokevirtual 83, 3) := by decide +kernel
theorem dX7_senderStands_33 : decode cX7_senderStands 33 = .ok (.ifCond .eq 7, 3) := by decide +kernel
theorem dX7_senderStands_36 : decode cX7_senderStands 36 = .ok (.iconst 1, 1) := by decide +kernel
theorem dX7_senderStands_37 : decode cX7_senderStands 37 = .ok (.goto 4, 3) := by decide +kernel
theorem dX7_senderStands_40 : decode cX7_senderStands 40 = .ok (.iconst 0, 1) := by decide +kernel
theorem dX7_senderStands_41 : decode cX7_senderStands 41 = .ok (.ireturn, 1) := by decide +kernel
theorem dX7_standingWalls_0 : decode cX7_standingWalls 0 = .ok (.iconst 0, 1) := by decide +kernel
theorem dX7_standingWalls_1 : decode cX7_standingWalls 1 = .ok (.istore_n 1, 1) := by decide +kernel
theorem dX7_standingWalls_2 : decode cX7_standingWalls 2 = .ok (.iconst 0, 1) := by decide +kernel
theorem dX7_standingWalls_3 : decode cX7_standingWalls 3 = .ok (.istore_n 2, 1) := by decide +kernel
theorem dX7_standingWalls_4 : decode cX7_standingWalls 4 = .ok (.iload_n 2, 1) := by decide +kernel
theorem dX7_standingWalls_5 : decode cX7_standingWalls 5 = .ok (.aload_n 0, 1) := by decide +kernel
theorem dX7_standingWalls_6 : decode cX7_standingWalls 6 = .ok (.getfield 20, 3) := by decide +kernel
theorem dX7_standingWalls_9 : decode cX7_standingWalls 9 = .ok (.invokevirtual 87, 3) := by decide +kernel
theorem dX7_standingWalls_12 : decode cX7_standingWalls 12 = .ok (.if_icmp .ge 25, 3) := by decide +kernel
theorem dX7_standingWalls_15 : decode cX7_standingWalls 15 = .ok (.iload_n 1, 1) := by decide +kernel
theorem dX7_standingWalls_16 : decode cX7_standingWalls 16 = .ok (.aload_n 0, 1) := by decide +kernel
theorem dX7_standingWalls_17 : decode cX7_standingWalls 17 = .ok (.iload_n 2, 1) := by decide +kernel
theorem dX7_standingWalls_18 : decode cX7_standingWalls 18 = .ok (.invokevirtual 91, 3) := by decide +kernel
theorem dX7_standingWalls_21 : decode cX7_standingWalls 21 = .ok (.ifCond .eq 7, 3) := by decide +kernel
theorem dX7_standingWalls_24 : decode cX7_standingWalls 24 = .ok (.iconst 1, 1) := by decide +kernel
theorem dX7_standingWalls_25 : decode cX7_standingWalls 25 = .ok (.goto 4, 3) := by decide +kernel
theorem dX7_standingWalls_28 : decode cX7_standingWalls 28 = .ok (.iconst 0, 1) := by decide +kernel
theorem dX7_standingWalls_29 : decode cX7_standingWalls 29 = .ok (.iadd, 1) := by decide +kernel
theorem dX7_standingWalls_30 : decode cX7_standingWalls 30 = .ok (.istore_n 1, 1) := by decide +kernel
theorem dX7_standingWalls_31 : decode cX7_standingWalls 31 = .ok (.iinc 2 1, 3) := by decide +kernel
theorem dX7_standingWalls_34 : decode cX7_standingWalls 34 = .ok (.goto (-30), 3) := by decide +kernel
theorem dX7_standingWalls_37 : decode cX7_standingWalls 37 = .ok (.iload_n 1, 1) := by decide +kernel
theorem dX7_standingWalls_38 : decode cX7_standingWalls 38 = .ok (.ireturn, 1) := by decide +kernel
theorem dX7_standingSenders_0 : decode cX7_standingSenders 0 = .ok (.iconst 0, 1) := by decide +kernel
theorem dX7_standingSenders_1 : decode cX7_standingSenders 1 = .ok (.istore_n 1, 1) := by decide +kernel
theorem dX7_standingSenders_2 : decode cX7_standingSenders 2 = .ok (.iconst 0, 1) := by decide +kernel
theorem dX7_standingSenders_3 : decode cX7_standingSenders 3 = .ok (.istore_n 2, 1) := by decide +kernel
theorem dX7_standingSenders_4 : decode cX7_standingSenders 4 = .ok (.iload_n 2, 1) := by decide +kernel
theorem dX7_standingSenders_5 : decode cX7_standingSenders 5 = .ok (.aload_n 0, 1) := by decide +kernel
theorem dX7_standingSenders_6 : decode cX7_standingSenders 6 = .ok (.getfield 23, 3) := by decide +kernel
theorem dX7_standingSenders_9 : decode cX7_standingSenders 9 = .ok (.invokevirtual 87, 3) := by decide +kernel
theorem dX7_standingSenders_12 : decode cX7_standingSenders 12 = .ok (.if_icmp .ge 25, 3) := by decide +kernel
theorem dX7_standingSenders_15 : decode cX7_standingSenders 15 = .ok (.iload_n 1, 1) := by decide +kernel
theorem dX7_standingSenders_16 : decode cX7_standingSenders 16 = .ok (.aload_n 0, 1) := by decide +kernel
theorem dX7_standingSenders_17 : decode cX7_standingSenders 17 = .ok (.iload_n 2, 1) := by decide +kernel
theorem dX7_standingSenders_18 : decode cX7_standingSenders 18 = .ok (.invokevirtual 94, 3) := by decide +kernel
theorem dX7_standingSenders_21 : decode cX7_standingSenders 21 = .ok (.ifCond .eq 7, 3) := by decide +kernel
theorem dX7_standingSenders_24 : decode cX7_standingSenders 24 = .ok (.iconst 1, 1) := by decide +kernel
theorem dX7_standingSenders_25 : decode cX7_standingSenders 25 = .ok (.goto 4, 3) := by decide +kernel
theorem dX7_standingSenders_28 : decode cX7_standingSenders 28 = .ok (.iconst 0, 1) := by decide +kernel
theorem dX7_standingSenders_29 : decode cX7_standingSenders 29 = .ok (.iadd, 1) := by decide +kernel
theorem dX7_standingSenders_30 : decode cX7_standingSenders 30 = .ok (.istore_n 1, 1) := by decide +kernel
theorem dX7_standingSenders_31 : decode cX7_standingSenders 31 = .ok (.iinc 2 1, 3) := by decide +kernel
theorem dX7_standingSenders_34 : decode cX7_standingSenders 34 = .ok (.goto (-30), 3) := by decide +kernel
theorem dX7_standingSenders_37 : decode cX7_standingSenders 37 = .ok (.iload_n 1, 1) := by decide +kernel
theorem dX7_standingSenders_38 : decode cX7_standingSenders 38 = .ok (.ireturn, 1) := by decide +kernel
theorem dX8_init_0 : decode cX8_init 0 = .ok (.aload_n 0, 1) := by decide +kernel
theorem dX8_init_1 : decode cX8_init 1 = .ok (.invokespecial 3, 3) := by decide +kernel
theorem dX8_init_4 : decode cX8_init 4 = .ok (.aload_n 0, 1) := by decide +kernel
theorem dX8_init_5 : decode cX8_init 5 = .ok (.iconst 0, 1) := by decide +kernel
theorem dX8_init_6 : decode cX8_init 6 = .ok (.iload_n 1, 1) := by decide +kernel
theorem dX8_init_7 : decode cX8_init 7 = .ok (.invokestatic 9, 3) := by decide +kernel
theorem dX8_init_10 : decode cX8_init 10 = .ok (.putfield 15, 3) := by decide +kernel
theorem dX8_init_13 : decode cX8_init 13 = .ok (.aload_n 0, 1) := by decide +kernel
theorem dX8_init_14 : decode cX8_init 14 = .ok (.iconst 0, 1) := by decide +kernel
theorem dX8_init_15 : decode cX8_init 15 = .ok (.iload_n 2, 1) := by decide +kernel
theorem dX8_init_16 : decode cX8_init 16 = .ok (.invokestatic 9, 3) := by decide +kernel
theorem dX8_init_19 : decode cX8_init 19 = .ok (.putfield 21, 3) := by decide +kernel
theorem dX8_init_22 : decode cX8_init 22 = .ok (.aload_n 0, 1) := by decide +kernel
theorem dX8_init_23 : decode cX8_init 23 = .ok (.aload_n 0, 1) := by decide +kernel
theorem dX8_init_24 : decode cX8_init 24 = .ok (.getfield 15, 3) := by decide +kernel
theorem dX8_init_27 : decode cX8_init 27 = .ok (.aload_n 0, 1) := by decide +kernel
theorem dX8_init_28 : decode cX8_init 28 = .ok (.getfield 21, 3) := by decide +kernel
theorem dX8_init_31 : decode cX8_init 31 = .ok (.imul, 1) := by decide +kernel
theorem dX8_init_32 : decode cX8_init 32 = .ok (.newarray .int, 2) := by decide +kernel
theorem dX8_init_34 : decode cX8_init 34 = .ok (.putfield 24, 3) := by decide +kernel
theorem dX8_init_37 : decode cX8_init 37 = .ok (.return_, 1) := by decide +kernel
theorem dX8_size_0 : decode cX8_size 0 = .ok (.aload_n 0, 1) := by decide +kernel
theorem dX8_size_1 : decode cX8_size 1 = .ok (.getfield 28, 3) := by decide +kernel
theorem dX8_size_4 : decode cX8_size 4 = .ok (.ireturn, 1) := by decide +kernel
theorem dX8_has_0 : decode cX8_has 0 = .ok (.iload_n 1, 1) := by decide +kernel
theorem dX8_has_1 : decode cX8_has 1 = .ok (.ifCond .lt 15, 3) := by decide +kernel
theorem dX8_has_4 : decode cX8_has 4 = .ok (.iload_n 1, 1) := by decide +kernel
theorem dX8_has_5 : decode cX8_has 5 = .ok (.aload_n 0, 1) := by decide +kernel
theorem dX8_has_6 : decode cX8_has 6 = .ok (.getfield 28, 3) := by decide +kernel
theorem dX8_has_9 : decode cX8_has 9 = .ok (.if_icmp .ge 7, 3) := by decide +kernel
theorem dX8_has_12 : decode cX8_has 12 = .ok (.iconst 1, 1) := by decide +kernel
theorem dX8_has_13 : decode cX8_has 13 = .ok (.goto 4, 3) := by decide +kernel
theorem dX8_has_16 : decode cX8_has 16 = .ok (.iconst 0, 1) := by decide +kernel
theorem dX8_has_17 : decode cX8_has 17 = .ok (.ireturn, 1) := by decide +kernel
theorem dX8_full_0 : decode cX8_full 0 = .ok (.aload_n 0, 1) := by decide +kernel
theorem dX8_full_1 : decode cX8_full 1 = .ok (.getfield 28, 3) := by decide +kernel
theorem dX8_full_4 : decode cX8_full 4 = .ok (.aload_n 0, 1) := by decide +kernel
theorem dX8_full_5 : decode cX8_full 5 = .ok (.getfield 15, 3) := by decide +kernel
theorem dX8_full_8 : decode cX8_full 8 = .ok (.if_icmp .lt 7, 3) := by decide +kernel
theorem dX8_full_11 : decode cX8_full 11 = .ok (.iconst 1, 1) := by decide +kernel
theorem dX8_full_12 : decode cX8_full 12 = .ok (.goto 4, 3) := by decide +kernel
theorem dX8_full_15 : decode cX8_full 15 = .ok (.iconst 0, 1) := by decide +kernel
theorem dX8_full_16 : decode cX8_full 16 = .ok (.ireturn, 1) := by decide +kernel
theorem dX8_add_0 : decode cX8_add 0 = .ok (.aload_n 0, 1) := by decide +kernel
theorem dX8_add_1 : decode cX8_add 1 = .ok (.getfield 28, 3) := by decide +kernel
theorem dX8_add_4 : decode cX8_add 4 = .ok (.aload_n 0, 1) := by decide +kernel
theorem dX8_add_5 : decode cX8_add 5 = .ok (.getfield 15, 3) := by decide +kernel
theorem dX8_add_8 : decode cX8_add 8 = .ok (.if_icmp .lt 5, 3) := by decide +kernel
theorem dX8_add_11 : decode cX8_add 11 = .ok (.iconst 0, 1) := by decide +kernel
theorem dX8_add_12 : decode cX8_add 12 = .ok (.ireturn, 1) := by decide +kernel
theorem dX8_add_13 : decode cX8_add 13 = .ok (.aload_n 0, 1) := by decide +kernel
theorem dX8_add_14 : decode cX8_add 14 = .ok (.dup, 1) := by decide +kernel
theorem dX8_add_15 : decode cX8_add 15 = .ok (.getfield 28, 3) := by decide +kernel
theorem dX8_add_18 : decode cX8_add 18 = .ok (.iconst 1, 1) := by decide +kernel
theorem dX8_add_19 : decode cX8_add 19 = .ok (.iadd, 1) := by decide +kernel
theorem dX8_add_20 : decode cX8_add 20 = .ok (.putfield 28, 3) := by decide +kernel
theorem dX8_add_23 : decode cX8_add 23 = .ok (.iconst 1, 1) := by decide +kernel
theorem dX8_add_24 : decode cX8_add 24 = .ok (.ireturn, 1) := by decide +kernel
theorem dX8_cut_0 : decode cX8_cut 0 = .ok (.iload_n 1, 1) := by decide +kernel
theorem dX8_cut_1 : decode cX8_cut 1 = .ok (.ifCond .lt 16, 3) := by decide +kernel
theorem dX8_cut_4 : decode cX8_cut 4 = .ok (.iload_n 1, 1) := by decide +kernel
theorem dX8_cut_5 : decode cX8_cut 5 = .ok (.aload_n 0, 1) := by decide +kernel
theorem dX8_cut_6 : decode cX8_cut 6 = .ok (.getfield 28, 3) := by decide +kernel
theorem dX8_cut_9 : decode cX8_cut 9 = .ok (.if_icmp .ge 8, 3) := by decide +kernel
theorem dX8_cut_12 : decode cX8_cut 12 = .ok (.aload_n 0, 1) := by decide +kernel
theorem dX8_cut_13 : decode cX8_cut 13 = .ok (.iload_n 1, 1) := by decide +kernel
theorem dX8_cut_14 : decode cX8_cut 14 = .ok (.putfield 28, 3) := by decide +kernel
theorem dX8_cut_17 : decode cX8_cut 17 = .ok (.return_, 1) := by decide +kernel
theorem dX8_get_0 : decode cX8_get 0 = .ok (.iload_n 1, 1) := by decide +kernel
theorem dX8_get_1 : decode cX8_get 1 = .ok (.ifCond .lt 23, 3) := by decide +kernel
theorem dX8_get_4 : decode cX8_get 4 = .ok (.iload_n 1, 1) := by decide +kernel
theorem dX8_get_5 : decode cX8_get 5 = .ok (.aload_n 0, 1) := by decide +kernel
theorem dX8_get_6 : decode cX8_get 6 = .ok (.getfield 28, 3) := by decide +kernel
theorem dX8_get_9 : decode cX8_get 9 = .ok (.if_icmp .ge 15, 3) := by decide +kernel
theorem dX8_get_12 : decode cX8_get 12 = .ok (.iload_n 2, 1) := by decide +kernel
theorem dX8_get_13 : decode cX8_get 13 = .ok (.ifCond .lt 11, 3) := by decide +kernel
theorem dX8_get_16 : decode cX8_get 16 = .ok (.iload_n 2, 1) := by decide +kernel
theorem dX8_get_17 : decode cX8_get 17 = .ok (.aload_n 0, 1) := by decide +kernel
theorem dX8_get_18 : decode cX8_get 18 = .ok (.getfield 21, 3) := by decide +kernel
theorem dX8_get_21 : decode cX8_get 21 = .ok (.if_icmp .lt 5, 3) := by decide +kernel
theorem dX8_get_24 : decode cX8_get 24 = .ok (.iconst (-1), 1) := by decide +kernel
theorem dX8_get_25 : decode cX8_get 25 = .ok (.ireturn, 1) := by decide +kernel
theorem dX8_get_26 : decode cX8_get 26 = .ok (.aload_n 0, 1) := by decide +kernel
theorem dX8_get_27 : decode cX8_get 27 = .ok (.getfield 24, 3) := by decide +kernel
theorem dX8_get_30 : decode cX8_get 30 = .ok (.iload_n 1, 1) := by decide +kernel
theorem dX8_get_31 : decode cX8_get 31 = .ok (.aload_n 0, 1) := by decide +kernel
theorem dX8_get_32 : decode cX8_get 32 = .ok (.getfield 21, 3) := by decide +kernel
theorem dX8_get_35 : decode cX8_get 35 = .ok (.imul, 1) := by decide +kernel
theorem dX8_get_36 : decode cX8_get 36 = .ok (.iload_n 2, 1) := by decide +kernel
theorem dX8_get_37 : decode cX8_get 37 = .ok (.iadd, 1) := by decide +kernel
theorem dX8_get_38 : decode cX8_get 38 = .ok (.iaload, 1) := by decide +kernel
theorem dX8_get_39 : decode cX8_get 39 = .ok (.ireturn, 1) := by decide +kernel
theorem dX8_put_0 : decode cX8_put 0 = .ok (.iload_n 1, 1) := by decide +kernel
theorem dX8_put_1 : decode cX8_put 1 = .ok (.ifCond .lt 37, 3) := by decide +kernel
theorem dX8_put_4 : decode cX8_put 4 = .ok (.iload_n 1, 1) := by decide +kernel
theorem dX8_put_5 : decode cX8_put 5 = .ok (.aload_n 0, 1) := by decide +kernel
theorem dX8_put_6 : decode cX8_put 6 = .ok (.getfield 28, 3) := by decide +kernel
theorem dX8_put_9 : decode cX8_put 9 = .ok (.if_icmp .ge 29, 3) := by decide +kernel
theorem dX8_put_12 : decode cX8_put 12 = .ok (.iload_n 2, 1) := by decide +kernel
theorem dX8_put_13 : decode cX8_put 13 = .ok (.ifCond .lt 25, 3) := by decide +kernel
theorem dX8_put_16 : decode cX8_put 16 = .ok (.iload_n 2, 1) := by decide +kernel
theorem dX8_put_17 : decode cX8_put 17 = .ok (.aload_n 0, 1) := by decide +kernel
theorem dX8_put_18 : decode cX8_put 18 = .ok (.getfield 21, 3) := by decide +kernel
theorem dX8_put_21 : decode cX8_put 21 = .ok (.if_icmp .ge 17, 3) := by decide +kernel
theorem dX8_put_24 : decode cX8_put 24 = .ok (.aload_n 0, 1) := by decide +kernel
theorem dX8_put_25 : decode cX8_put 25 = .ok (.getfield 24, 3) := by decide +kernel
theorem dX8_put_28 : decode cX8_put 28 = .ok (.iload_n 1, 1) := by decide +kernel
theorem dX8_put_29 : decode cX8_put 29 = .ok (.aload_n 0, 1) := by decide +kernel
theorem dX8_put_30 : decode cX8_put 30 = .ok (.getfield 21, 3) := by decide +kernel
theorem dX8_put_33 : decode cX8_put 33 = .ok (.imul, 1) := by decide +kernel
theorem dX8_put_34 : decode cX8_put 34 = .ok (.iload_n 2, 1) := by decide +kernel
theorem dX8_put_35 : decode cX8_put 35 = .ok (.iadd, 1) := by decide +kernel
theorem dX8_put_36 : decode cX8_put 36 = .ok (.iload_n 3, 1) := by decide +kernel
theorem dX8_put_37 : decode cX8_put 37 = .ok (.iastore, 1) := by decide +kernel
theorem dX8_put_38 : decode cX8_put 38 = .ok (.return_, 1) := by decide +kernel
theorem dX8_copy_0 : decode cX8_copy 0 = .ok (.aload_n 0, 1) := by decide +kernel
theorem dX8_copy_1 : decode cX8_copy 1 = .ok (.aload_n 1, 1) := by decide +kernel
theorem dX8_copy_2 : decode cX8_copy 2 = .ok (.getfield 28, 3) := by decide +kernel
theorem dX8_copy_5 : decode cX8_copy 5 = .ok (.aload_n 0, 1) := by decide +kernel
theorem dX8_copy_6 : decode cX8_copy 6 = .ok (.getfield 15, 3) := by decide +kernel
theorem dX8_copy_9 : decode cX8_copy 9 = .ok (.invokestatic 31, 3) := by decide +kernel
theorem dX8_copy_12 : decode cX8_copy 12 = .ok (.putfield 28, 3) := by decide +kernel
theorem dX8_copy_15 : decode cX8_copy 15 = .ok (.aload_n 1, 1) := by decide +kernel
theorem dX8_copy_16 : decode cX8_copy 16 = .ok (.getfield 24, 3) := by decide +kernel
theorem dX8_copy_19 : decode cX8_copy 19 = .ok (.iconst 0, 1) := by decide +kernel
theorem dX8_copy_20 : decode cX8_copy 20 = .ok (.aload_n 0, 1) := by decide +kernel
theorem dX8_copy_21 : decode cX8_copy 21 = .ok (.getfield 24, 3) := by decide +kernel
theorem dX8_copy_24 : decode cX8_copy 24 = .ok (.iconst 0, 1) := by decide +kernel
theorem dX8_copy_25 : decode cX8_copy 25 = .ok (.aload_n 0, 1) := by decide +kernel
theorem dX8_copy_26 : decode cX8_copy 26 = .ok (.getfield 24, 3) := by decide +kernel
theorem dX8_copy_29 : decode cX8_copy 29 = .ok (.arraylength, 1) := by decide +kernel
theorem dX8_copy_30 : decode cX8_copy 30 = .ok (.aload_n 1, 1) := by decide +kernel
theorem dX8_copy_31 : decode cX8_copy 31 = .ok (.getfield 24, 3) := by decide +kernel
theorem dX8_copy_34 : decode cX8_copy 34 = .ok (.arraylength, 1) := by decide +kernel
theorem dX8_copy_35 : decode cX8_copy 35 = .ok (.invokestatic 31, 3) := by decide +kernel
theorem dX8_copy_38 : decode cX8_copy 38 = .ok (.invokestatic 34, 3) := by decide +kernel
theorem dX8_copy_41 : decode cX8_copy 41 = .ok (.return_, 1) := by decide +kernel
