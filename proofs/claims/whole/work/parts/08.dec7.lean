theorem dX12_out_24 : decode cX12_out 24 = .ok (.getfield 73, 3) := by decide +kernel
theorem dX12_out_27 : decode cX12_out 27 = .ok (.iload_n 1, 1) := by decide +kernel
theorem dX12_out_28 : decode cX12_out 28 = .ok (.iconst (-1), 1) := by decide +kernel
theorem dX12_out_29 : decode cX12_out 29 = .ok (.iastore, 1) := by decide +kernel
theorem dX12_out_30 : decode cX12_out 30 = .ok (.aload_n 0, 1) := by decide +kernel
theorem dX12_out_31 : decode cX12_out 31 = .ok (.getfield 76, 3) := by decide +kernel
theorem dX12_out_34 : decode cX12_out 34 = .ok (.iload_n 1, 1) := by decide +kernel
theorem dX12_out_35 : decode cX12_out 35 = .ok (.iconst (-1), 1) := by decide +kernel
theorem dX12_out_36 : decode cX12_out 36 = .ok (.iastore, 1) := by decide +kernel
theorem dX12_out_37 : decode cX12_out 37 = .ok (.return_, 1) := by decide +kernel
theorem dX12_writesLine_0 : decode cX12_writesLine 0 = .ok (.bipush 6, 2) := by decide +kernel
theorem dX12_writesLine_2 : decode cX12_writesLine 2 = .ok (.aload_n 0, 1) := by decide +kernel
theorem dX12_writesLine_3 : decode cX12_writesLine 3 = .ok (.getfield 228, 3) := by decide +kernel
theorem dX12_writesLine_6 : decode cX12_writesLine 6 = .ok (.imul, 1) := by decide +kernel
theorem dX12_writesLine_7 : decode cX12_writesLine 7 = .ok (.istore 4, 2) := by decide +kernel
theorem dX12_writesLine_9 : decode cX12_writesLine 9 = .ok (.aload_n 0, 1) := by decide +kernel
theorem dX12_writesLine_10 : decode cX12_writesLine 10 = .ok (.getfield 88, 3) := by decide +kernel
theorem dX12_writesLine_13 : decode cX12_writesLine 13 = .ok (.iload 4, 2) := by decide +kernel
theorem dX12_writesLine_15 : decode cX12_writesLine 15 = .ok (.iload_n 1, 1) := by decide +kernel
theorem dX12_writesLine_16 : decode cX12_writesLine 16 = .ok (.iastore, 1) := by decide +kernel
theorem dX12_writesLine_17 : decode cX12_writesLine 17 = .ok (.aload_n 0, 1) := by decide +kernel
theorem dX12_writesLine_18 : decode cX12_writesLine 18 = .ok (.getfield 88, 3) := by decide +kernel
theorem dX12_writesLine_21 : decode cX12_writesLine 21 = .ok (.iload 4, 2) := by decide +kernel
theorem dX12_writesLine_23 : decode cX12_writesLine 23 = .ok (.iconst 1, 1) := by decide +kernel
theorem dX12_writesLine_24 : decode cX12_writesLine 24 = .ok (.iadd, 1) := by decide +kernel
theorem dX12_writesLine_25 : decode cX12_writesLine 25 = .ok (.aload_n 0, 1) := by decide +kernel
theorem dX12_writesLine_26 : decode cX12_writesLine 26 = .ok (.getfield 73, 3) := by decide +kernel
theorem dX12_writesLine_29 : decode cX12_writesLine 29 = .ok (.iload_n 1, 1) := by decide +kernel
theorem dX12_writesLine_30 : decode cX12_writesLine 30 = .ok (.iaload, 1) := by decide +kernel
theorem dX12_writesLine_31 : decode cX12_writesLine 31 = .ok (.iastore, 1) := by decide +kernel
theorem dX12_writesLine_32 : decode cX12_writesLine 32 = .ok (.aload_n 0, 1) := by decide +kernel
theorem dX12_writesLine_33 : decode cX12_writesLine 33 = .ok (.getfield 88, 3) := by decide +kernel
theorem dX12_writesLine_36 : decode cX12_writesLine 36 = .ok (.iload 4, 2) := by decide +kernel
theorem dX12_writesLine_38 : decode cX12_writesLine 38 = .ok (.iconst 2, 1) := by decide +kernel
theorem dX12_writesLine_39 : decode cX12_writesLine 39 = .ok (.iadd, 1) := by decide +kernel
theorem dX12_writesLine_40 : decode cX12_writesLine 40 = .ok (.aload_n 0, 1) := by decide +kernel
theorem dX12_writesLine_41 : decode cX12_writesLine 41 = .ok (.getfield 76, 3) := by decide +kernel
theorem dX12_writesLine_44 : decode cX12_writesLine 44 = .ok (.iload_n 1, 1) := by decide +kernel
theorem dX12_writesLine_45 : decode cX12_writesLine 45 = .ok (.iaload, 1) := by decide +kernel
theorem dX12_writesLine_46 : decode cX12_writesLine 46 = .ok (.iastore, 1) := by decide +kernel
theorem dX12_writesLine_47 : decode cX12_writesLine 47 = .ok (.aload_n 0, 1) := by decide +kernel
theorem dX12_writesLine_48 : decode cX12_writesLine 48 = .ok (.getfield 88, 3) := by decide +kernel
theorem dX12_writesLine_51 : decode cX12_writesLine 51 = .ok (.iload 4, 2) := by decide +kernel
theorem dX12_writesLine_53 : decode cX12_writesLine 53 = .ok (.iconst 3, 1) := by decide +kernel
theorem dX12_writesLine_54 : decode cX12_writesLine 54 = .ok (.iadd, 1) := by decide +kernel
theorem dX12_writesLine_55 : decode cX12_writesLine 55 = .ok (.aload_n 0, 1) := by decide +kernel
theorem dX12_writesLine_56 : decode cX12_writesLine 56 = .ok (.getfield 70, 3) := by decide +kernel
theorem dX12_writesLine_59 : decode cX12_writesLine 59 = .ok (.iload_n 1, 1) := by decide +kernel
theorem dX12_writesLine_60 : decode cX12_writesLine 60 = .ok (.iaload, 1) := by decide +kernel
theorem dX12_writesLine_61 : decode cX12_writesLine 61 = .ok (.iastore, 1) := by decide +kernel
theorem dX12_writesLine_62 : decode cX12_writesLine 62 = .ok (.aload_n 0, 1) := by decide +kernel
theorem dX12_writesLine_63 : decode cX12_writesLine 63 = .ok (.getfield 88, 3) := by decide +kernel
theorem dX12_writesLine_66 : decode cX12_writesLine 66 = .ok (.iload 4, 2) := by decide +kernel
theorem dX12_writesLine_68 : decode cX12_writesLine 68 = .ok (.iconst 4, 1) := by decide +kernel
theorem dX12_writesLine_69 : decode cX12_writesLine 69 = .ok (.iadd, 1) := by decide +kernel
theorem dX12_writesLine_70 : decode cX12_writesLine 70 = .ok (.iload_n 2, 1) := by decide +kernel
theorem dX12_writesLine_71 : decode cX12_writesLine 71 = .ok (.iastore, 1) := by decide +kernel
theorem dX12_writesLine_72 : decode cX12_writesLine 72 = .ok (.aload_n 0, 1) := by decide +kernel
theorem dX12_writesLine_73 : decode cX12_writesLine 73 = .ok (.getfield 88, 3) := by decide +kernel
theorem dX12_writesLine_76 : decode cX12_writesLine 76 = .ok (.iload 4, 2) := by decide +kernel
theorem dX12_writesLine_78 : decode cX12_writesLine 78 = .ok (.iconst 5, 1) := by decide +kernel
theorem dX12_writesLine_79 : decode cX12_writesLine 79 = .ok (.iadd, 1) := by decide +kernel
theorem dX12_writesLine_80 : decode cX12_writesLine 80 = .ok (.iload_n 3, 1) := by decide +kernel
theorem dX12_writesLine_81 : decode cX12_writesLine 81 = .ok (.iastore, 1) := by decide +kernel
theorem dX12_writesLine_82 : decode cX12_writesLine 82 = .ok (.iconst 0, 1) := by decide +kernel
theorem dX12_writesLine_83 : decode cX12_writesLine 83 = .ok (.istore 5, 2) := by decide +kernel
theorem dX12_writesLine_85 : decode cX12_writesLine 85 = .ok (.iload 5, 2) := by decide +kernel
theorem dX12_writesLine_87 : decode cX12_writesLine 87 = .ok (.bipush 6, 2) := by decide +kernel
theorem dX12_writesLine_89 : decode cX12_writesLine 89 = .ok (.if_icmp .ge 29, 3) := by decide +kernel
theorem dX12_writesLine_92 : decode cX12_writesLine 92 = .ok (.aload_n 0, 1) := by decide +kernel
theorem dX12_writesLine_93 : decode cX12_writesLine 93 = .ok (.getfield 91, 3) := by decide +kernel
theorem dX12_writesLine_96 : decode cX12_writesLine 96 = .ok (.iload 4, 2) := by decide +kernel
theorem dX12_writesLine_98 : decode cX12_writesLine 98 = .ok (.iload 5, 2) := by decide +kernel
theorem dX12_writesLine_100 : decode cX12_writesLine 100 = .ok (.iadd, 1) := by decide +kernel
theorem dX12_writesLine_101 : decode cX12_writesLine 101 = .ok (.aload_n 0, 1) := by decide +kernel
theorem dX12_writesLine_102 : decode cX12_writesLine 102 = .ok (.getfield 88, 3) := by decide +kernel
theorem dX12_writesLine_105 : decode cX12_writesLine 105 = .ok (.iload 4, 2) := by decide +kernel
theorem dX12_writesLine_107 : decode cX12_writesLine 107 = .ok (.iload 5, 2) := by decide +kernel
theorem dX12_writesLine_109 : decode cX12_writesLine 109 = .ok (.iadd, 1) := by decide +kernel
theorem dX12_writesLine_110 : decode cX12_writesLine 110 = .ok (.iaload, 1) := by decide +kernel
theorem dX12_writesLine_111 : decode cX12_writesLine 111 = .ok (.iastore, 1) := by decide +kernel
theorem dX12_writesLine_112 : decode cX12_writesLine 112 = .ok (.iinc 5 1, 3) := by decide +kernel
theorem dX12_writesLine_115 : decode cX12_writesLine 115 = .ok (.goto (-30), 3) := by decide +kernel
theorem dX12_writesLine_118 : decode cX12_writesLine 118 = .ok (.aload_n 0, 1) := by decide +kernel
theorem dX12_writesLine_119 : decode cX12_writesLine 119 = .ok (.dup, 1) := by decide +kernel
theorem dX12_writesLine_120 : decode cX12_writesLine 120 = .ok (.getfield 228, 3) := by decide +kernel
theorem dX12_writesLine_123 : decode cX12_writesLine 123 = .ok (.iconst 1, 1) := by decide +kernel
theorem dX12_writesLine_124 : decode cX12_writesLine 124 = .ok (.iadd, 1) := by decide +kernel
theorem dX12_writesLine_125 : decode cX12_writesLine 125 = .ok (.putfield 228, 3) := by decide +kernel
theorem dX12_writesLine_128 : decode cX12_writesLine 128 = .ok (.return_, 1) := by decide +kernel
theorem dX12_goes_0 : decode cX12_goes 0 = .ok (.iconst 0, 1) := by decide +kernel
theorem dX12_goes_1 : decode cX12_goes 1 = .ok (.istore_n 3, 1) := by decide +kernel
theorem dX12_goes_2 : decode cX12_goes 2 = .ok (.iconst 0, 1) := by decide +kernel
theorem dX12_goes_3 : decode cX12_goes 3 = .ok (.istore 4, 2) := by decide +kernel
theorem dX12_goes_5 : decode cX12_goes 5 = .ok (.iload 4, 2) := by decide +kernel
theorem dX12_goes_7 : decode cX12_goes 7 = .ok (.aload_n 0, 1) := by decide +kernel
theorem dX12_goes_8 : decode cX12_goes 8 = .ok (.getfield 34, 3) := by decide +kernel
theorem dX12_goes_11 : decode cX12_goes 11 = .ok (.iconst 0, 1) := by decide +kernel
theorem dX12_goes_12 : decode cX12_goes 12 = .ok (.iaload, 1) := by decide +kernel
theorem dX12_goes_13 : decode cX12_goes 13 = .ok (.if_icmp .ge 122, 3) := by decide +kernel
theorem dX12_goes_16 : decode cX12_goes 16 = .ok (.aload_n 0, 1) := by decide +kernel
theorem dX12_goes_17 : decode cX12_goes 17 = .ok (.getfield 94, 3) := by decide +kernel
theorem dX12_goes_20 : decode cX12_goes 20 = .ok (.iload 4, 2) := by decide +kernel
theorem dX12_goes_22 : decode cX12_goes 22 = .ok (.iconst 0, 1) := by decide +kernel
theorem dX12_goes_23 : decode cX12_goes 23 = .ok (.iastore, 1) := by decide +kernel
theorem dX12_goes_24 : decode cX12_goes 24 = .ok (.aload_n 0, 1) := by decide +kernel
theorem dX12_goes_25 : decode cX12_goes 25 = .ok (.getfield 73, 3) := by decide +kernel
theorem dX12_goes_28 : decode cX12_goes 28 = .ok (.iload 4, 2) := by decide +kernel
theorem dX12_goes_30 : decode cX12_goes 30 = .ok (.iaload, 1) := by decide +kernel
theorem dX12_goes_31 : decode cX12_goes 31 = .ok (.ifCond .ge 6, 3) := by decide +kernel
theorem dX12_goes_34 : decode cX12_goes 34 = .ok (.goto 95, 3) := by decide +kernel
theorem dX12_goes_37 : decode cX12_goes 37 = .ok (.aload_n 0, 1) := by decide +kernel
theorem dX12_goes_38 : decode cX12_goes 38 = .ok (.getfield 94, 3) := by decide +kernel
theorem dX12_goes_41 : decode cX12_goes 41 = .ok (.iload 4, 2) := by decide +kernel
theorem dX12_goes_43 : decode cX12_goes 43 = .ok (.aload_n 0, 1) := by decide +kernel
theorem dX12_goes_44 : decode cX12_goes 44 = .ok (.iload 4, 2) := by decide +kernel
theorem dX12_goes_46 : decode cX12_goes 46 = .ok (.iload_n 1, 1) := by decide +kernel
theorem dX12_goes_47 : decode cX12_goes 47 = .ok (.invokevirtual 225, 3) := by decide +kernel
theorem dX12_goes_50 : decode cX12_goes 50 = .ok (.iastore, 1) := by decide +kernel
theorem dX12_goes_51 : decode cX12_goes 51 = .ok (.aload_n 0, 1) := by decide +kernel
theorem dX12_goes_52 : decode cX12_goes 52 = .ok (.getfield 97, 3) := by decide +kernel
theorem dX12_goes_55 : decode cX12_goes 55 = .ok (.iload 4, 2) := by decide +kernel
theorem dX12_goes_57 : decode cX12_goes 57 = .ok (.aload_n 0, 1) := by decide +kernel
theorem dX12_goes_58 : decode cX12_goes 58 = .ok (.iload 4, 2) := by decide +kernel
theorem dX12_goes_60 : decode cX12_goes 60 = .ok (.invokevirtual 231, 3) := by decide +kernel
theorem dX12_goes_63 : decode cX12_goes 63 = .ok (.bastore, 1) := by decide +kernel
theorem dX12_goes_64 : decode cX12_goes 64 = .ok (.aload_n 0, 1) := by decide +kernel
theorem dX12_goes_65 : decode cX12_goes 65 = .ok (.getfield 67, 3) := by decide +kernel
theorem dX12_goes_68 : decode cX12_goes 68 = .ok (.iload 4, 2) := by decide +kernel
theorem dX12_goes_70 : decode cX12_goes 70 = .ok (.iaload, 1) := by decide +kernel
theorem dX12_goes_71 : decode cX12_goes 71 = .ok (.iconst 1, 1) := by decide +kernel
theorem dX12_goes_72 : decode cX12_goes 72 = .ok (.if_icmp .ne 57, 3) := by decide +kernel
theorem dX12_goes_75 : decode cX12_goes 75 = .ok (.aload_n 0, 1) := by decide +kernel
theorem dX12_goes_76 : decode cX12_goes 76 = .ok (.getfield 82, 3) := by decide +kernel
theorem dX12_goes_79 : decode cX12_goes 79 = .ok (.iload 4, 2) := by decide +kernel
theorem dX12_goes_81 : decode cX12_goes 81 = .ok (.iaload, 1) := by decide +kernel
theorem dX12_goes_82 : decode cX12_goes 82 = .ok (.iconst (-1), 1) := by decide +kernel
theorem dX12_goes_83 : decode cX12_goes 83 = .ok (.if_icmp .ne 46, 3) := by decide +kernel
theorem dX12_goes_86 : decode cX12_goes 86 = .ok (.aload_n 0, 1) := by decide +kernel
theorem dX12_goes_87 : decode cX12_goes 87 = .ok (.iload 4, 2) := by decide +kernel
theorem dX12_goes_89 : decode cX12_goes 89 = .ok (.invokevirtual 234, 3) := by decide +kernel
theorem dX12_goes_92 : decode cX12_goes 92 = .ok (.ifCond .ne 24, 3) := by decide +kernel
theorem dX12_goes_95 : decode cX12_goes 95 = .ok (.aload_n 0, 1) := by decide +kernel
theorem dX12_goes_96 : decode cX12_goes 96 = .ok (.aload_n 0, 1) := by decide +kernel
theorem dX12_goes_97 : decode cX12_goes 97 = .ok (.getfield 73, 3) := by decide +kernel
theorem dX12_goes_100 : decode cX12_goes 100 = .ok (.iload 4, 2) := by decide +kernel
theorem dX12_goes_102 : decode cX12_goes 102 = .ok (.iaload, 1) := by decide +kernel
theorem dX12_goes_103 : decode cX12_goes 103 = .ok (.aload_n 0, 1) := by decide +kernel
theorem dX12_goes_104 : decode cX12_goes 104 = .ok (.getfield 76, 3) := by decide +kernel
theorem dX12_goes_107 : decode cX12_goes 107 = .ok (.iload 4, 2) := by decide +kernel
theorem dX12_goes_109 : decode cX12_goes 109 = .ok (.iaload, 1) := by decide +kernel
theorem dX12_goes_110 : decode cX12_goes 110 = .ok (.invokevirtual 199, 3) := by decide +kernel
theorem dX12_goes_113 : decode cX12_goes 113 = .ok (.ifCond .eq 16, 3) := by decide +kernel
theorem dX12_goes_116 : decode cX12_goes 116 = .ok (.aload_n 0, 1) := by decide +kernel
theorem dX12_goes_117 : decode cX12_goes 117 = .ok (.getfield 82, 3) := by decide +kernel
theorem dX12_goes_120 : decode cX12_goes 120 = .ok (.iload 4, 2) := by decide +kernel
theorem dX12_goes_122 : decode cX12_goes 122 = .ok (.aload_n 0, 1) := by decide +kernel
theorem dX12_goes_123 : decode cX12_goes 123 = .ok (.getfield 27, 3) := by decide +kernel
theorem dX12_goes_126 : decode cX12_goes 126 = .ok (.iconst 0, 1) := by decide +kernel
theorem dX12_goes_127 : decode cX12_goes 127 = .ok (.iaload, 1) := by decide +kernel
theorem dX12_goes_128 : decode cX12_goes 128 = .ok (.iastore, 1) := by decide +kernel
theorem dX12_goes_129 : decode cX12_goes 129 = .ok (.iinc 4 1, 3) := by decide +kernel
theorem dX12_goes_132 : decode cX12_goes 132 = .ok (.goto (-127), 3) := by decide +kernel
theorem dX12_goes_135 : decode cX12_goes 135 = .ok (.iconst 0, 1) := by decide +kernel
theorem dX12_goes_136 : decode cX12_goes 136 = .ok (.istore 4, 2) := by decide +kernel
theorem dX12_goes_138 : decode cX12_goes 138 = .ok (.iload 4, 2) := by decide +kernel
theorem dX12_goes_140 : decode cX12_goes 140 = .ok (.aload_n 0, 1) := by decide +kernel
theorem dX12_goes_141 : decode cX12_goes 141 = .ok (.getfield 34, 3) := by decide +kernel
theorem dX12_goes_144 : decode cX12_goes 144 = .ok (.iconst 0, 1) := by decide +kernel
theorem dX12_goes_145 : decode cX12_goes 145 = .ok (.iaload, 1) := by decide +kernel
theorem dX12_goes_146 : decode cX12_goes 146 = .ok (.if_icmp .ge 202, 3) := by decide +kernel
theorem dX12_goes_149 : decode cX12_goes 149 = .ok (.aload_n 0, 1) := by decide +kernel
theorem dX12_goes_150 : decode cX12_goes 150 = .ok (.getfield 73, 3) := by decide +kernel
theorem dX12_goes_153 : decode cX12_goes 153 = .ok (.iload 4, 2) := by decide +kernel
theorem dX12_goes_155 : decode cX12_goes 155 = .ok (.iaload, 1) := by decide +kernel
theorem dX12_goes_156 : decode cX12_goes 156 = .ok (.ifCond .ge 6, 3) := by decide +kernel
theorem dX12_goes_159 : decode cX12_goes 159 = .ok (.goto 183, 3) := by decide +kernel
theorem dX12_goes_162 : decode cX12_goes 162 = .ok (.aload_n 0, 1) := by decide +kernel
theorem dX12_goes_163 : decode cX12_goes 163 = .ok (.getfield 70, 3) := by decide +kernel
theorem dX12_goes_166 : decode cX12_goes 166 = .ok (.iload 4, 2) := by decide +kernel
theorem dX12_goes_168 : decode cX12_goes 168 = .ok (.iaload, 1) := by decide +kernel
theorem dX12_goes_169 : decode cX12_goes 169 = .ok (.aload_n 0, 1) := by decide +kernel
theorem dX12_goes_170 : decode cX12_goes 170 = .ok (.getfield 94, 3) := by decide +kernel
theorem dX12_goes_173 : decode cX12_goes 173 = .ok (.iload 4, 2) := by decide +kernel
theorem dX12_goes_175 : decode cX12_goes 175 = .ok (.iaload, 1) := by decide +kernel
theorem dX12_goes_176 : decode cX12_goes 176 = .ok (.isub, 1) := by decide +kernel
theorem dX12_goes_177 : decode cX12_goes 177 = .ok (.istore 5, 2) := by decide +kernel
theorem dX12_goes_179 : decode cX12_goes 179 = .ok (.iload 5, 2) := by decide +kernel
theorem dX12_goes_181 : decode cX12_goes 181 = .ok (.aload_n 0, 1) := by decide +kernel
theorem dX12_goes_182 : decode cX12_goes 182 = .ok (.getfield 24, 3) := by decide +kernel
theorem dX12_goes_185 : decode cX12_goes 185 = .ok (.if_icmp .ge 7, 3) := by decide +kernel
theorem dX12_goes_188 : decode cX12_goes 188 = .ok (.iconst 1, 1) := by decide +kernel
theorem dX12_goes_189 : decode cX12_goes 189 = .ok (.goto 4, 3) := by decide +kernel
theorem dX12_goes_192 : decode cX12_goes 192 = .ok (.iconst 0, 1) := by decide +kernel
theorem dX12_goes_193 : decode cX12_goes 193 = .ok (.istore 6, 2) := by decide +kernel
theorem dX12_goes_195 : decode cX12_goes 195 = .ok (.iload_n 2, 1) := by decide +kernel
theorem dX12_goes_196 : decode cX12_goes 196 = .ok (.ifCond .eq 37, 3) := by decide +kernel
theorem dX12_goes_199 : decode cX12_goes 199 = .ok (.aload_n 0, 1) := by decide +kernel
theorem dX12_goes_200 : decode cX12_goes 200 = .ok (.getfield 94, 3) := by decide +kernel
theorem dX12_goes_203 : decode cX12_goes 203 = .ok (.iload 4, 2) := by decide +kernel
theorem dX12_goes_205 : decode cX12_goes 205 = .ok (.iaload, 1) := by decide +kernel
theorem dX12_goes_206 : decode cX12_goes 206 = .ok (.ifCond .le 27, 3) := by decide +kernel
theorem dX12_goes_209 : decode cX12_goes 209 = .ok (.aload_n 0, 1) := by decide +kernel
theorem dX12_goes_210 : decode cX12_goes 210 = .ok (.iload 4, 2) := by decide +kernel
theorem dX12_goes_212 : decode cX12_goes 212 = .ok (.aload_n 0, 1) := by decide +kernel
theorem dX12_goes_213 : decode cX12_goes 213 = .ok (.getfield 94, 3) := by decide +kernel
theorem dX12_goes_216 : decode cX12_goes 216 = .ok (.iload 4, 2) := by decide +kernel
theorem dX12_goes_218 : decode cX12_goes 218 = .ok (.iaload, 1) := by decide +kernel
theorem dX12_goes_219 : decode cX12_goes 219 = .ok (.iload 6, 2) := by decide +kernel
theorem dX12_goes_221 : decode cX12_goes 221 = .ok (.ifCond .eq 7, 3) := by decide +kernel
theorem dX12_goes_224 : decode cX12_goes 224 = .ok (.iconst 0, 1) := by decide +kernel
theorem dX12_goes_225 : decode cX12_goes 225 = .ok (.goto 5, 3) := by decide +kernel
theorem dX12_goes_228 : decode cX12_goes 228 = .ok (.iload 5, 2) := by decide +kernel
theorem dX12_goes_230 : decode cX12_goes 230 = .ok (.invokevirtual 237, 3) := by decide +kernel
theorem dX12_goes_233 : decode cX12_goes 233 = .ok (.iload_n 3, 1) := by decide +kernel
theorem dX12_goes_234 : decode cX12_goes 234 = .ok (.aload_n 0, 1) := by decide +kernel
theorem dX12_goes_235 : decode cX12_goes 235 = .ok (.getfield 94, 3) := by decide +kernel
theorem dX12_goes_238 : decode cX12_goes 238 = .ok (.iload 4, 2) := by decide +kernel
theorem dX12_goes_240 : decode cX12_goes 240 = .ok (.iaload, 1) := by decide +kernel
theorem dX12_goes_241 : decode cX12_goes 241 = .ok (.iadd, 1) := by decide +kernel
theorem dX12_goes_242 : decode cX12_goes 242 = .ok (.istore_n 3, 1) := by decide +kernel
theorem dX12_goes_243 : decode cX12_goes 243 = .ok (.aload_n 0, 1) := by decide +kernel
theorem dX12_goes_244 : decode cX12_goes 244 = .ok (.getfield 97, 3) := by decide +kernel
theorem dX12_goes_247 : decode cX12_goes 247 = .ok (.iload 4, 2) := by decide +kernel
theorem dX12_goes_249 : decode cX12_goes 249 = .ok (.baload, 1) := by decide +kernel
theorem dX12_goes_250 : decode cX12_goes 250 = .ok (.ifCond .eq 28, 3) := by decide +kernel
theorem dX12_goes_253 : decode cX12_goes 253 = .ok (.aload_n 0, 1) := by decide +kernel
theorem dX12_goes_254 : decode cX12_goes 254 = .ok (.getfield 55, 3) := by decide +kernel
theorem dX12_goes_257 : decode cX12_goes 257 = .ok (.aload_n 0, 1) := by decide +kernel
theorem dX12_goes_258 : decode cX12_goes 258 = .ok (.getfield 73, 3) := by decide +kernel
theorem dX12_goes_261 : decode cX12_goes 261 = .ok (.iload 4, 2) := by decide +kernel
theorem dX12_goes_263 : decode cX12_goes 263 = .ok (.iaload, 1) := by decide +kernel
theorem dX12_goes_264 : decode cX12_goes 264 = .ok (.dup2, 1) := by decide +kernel
theorem dX12_goes_265 : decode cX12_goes 265 = .ok (.iaload, 1) := by decide +kernel
theorem dX12_goes_266 : decode cX12_goes 266 = .ok (.aload_n 0, 1) := by decide +kernel
theorem dX12_goes_267 : decode cX12_goes 267 = .ok (.getfield 94, 3) := by decide +kernel
theorem dX12_goes_270 : decode cX12_goes 270 = .ok (.iload 4, 2) := by decide +kernel
theorem dX12_goes_272 : decode cX12_goes 272 = .ok (.iaload, 1) := by decide +kernel
theorem dX12_goes_273 : decode cX12_goes 273 = .ok (.iadd, 1) := by decide +kernel
theorem dX12_goes_274 : decode cX12_goes 274 = .ok (.iastore, 1) := by decide +kernel
theorem dX12_goes_275 : decode cX12_goes 275 = .ok (.goto 25, 3) := by decide +kernel
theorem dX12_goes_278 : decode cX12_goes 278 = .ok (.aload_n 0, 1) := by decide +kernel
theorem dX12_goes_279 : decode cX12_goes 279 = .ok (.getfield 58, 3) := by decide +kernel
theorem dX12_goes_282 : decode cX12_goes 282 = .ok (.aload_n 0, 1) := by decide +kernel
theorem dX12_goes_283 : decode cX12_goes 283 = .ok (.getfield 73, 3) := by decide +kernel
theorem dX12_goes_286 : decode cX12_goes 286 = .ok (.iload 4, 2) := by decide +kernel
theorem dX12_goes_288 : decode cX12_goes 288 = .ok (.iaload, 1) := by decide +kernel
theorem dX12_goes_289 : decode cX12_goes 289 = .ok (.dup2, 1) := by decide +kernel
theorem dX12_goes_290 : decode cX12_goes 290 = .ok (.iaload, 1) := by decide +kernel
theorem dX12_goes_291 : decode cX12_goes 291 = .ok (.aload_n 0, 1) := by decide +kernel
theorem dX12_goes_292 : decode cX12_goes 292 = .ok (.getfield 94, 3) := by decide +kernel
theorem dX12_goes_295 : decode cX12_goes 295 = .ok (.iload 4, 2) := by decide +kernel
theorem dX12_goes_297 : decode cX12_goes 297 = .ok (.iaload, 1) := by decide +kernel
theorem dX12_goes_298 : decode cX12_goes 298 = .ok (.iadd, 1) := by decide +kernel
theorem dX12_goes_299 : decode cX12_goes 299 = .ok (.iastore, 1) := by decide +kernel
theorem dX12_goes_300 : decode cX12_goes 300 = .ok (.aload_n 0, 1) := by decide +kernel
theorem dX12_goes_301 : decode cX12_goes 301 = .ok (.getfield 70, 3) := by decide +kernel
theorem dX12_goes_304 : decode cX12_goes 304 = .ok (.iload 4, 2) := by decide +kernel
theorem dX12_goes_306 : decode cX12_goes 306 = .ok (.iload 5, 2) := by decide +kernel
theorem dX12_goes_308 : decode cX12_goes 308 = .ok (.iastore, 1) := by decide +kernel
theorem dX12_goes_309 : decode cX12_goes 309 = .ok (.iload 6, 2) := by decide +kernel
theorem dX12_goes_311 : decode cX12_goes 311 = .ok (.ifCond .ne 6, 3) := by decide +kernel
theorem dX12_goes_314 : decode cX12_goes 314 = .ok (.goto 28, 3) := by decide +kernel
theorem dX12_goes_317 : decode cX12_goes 317 = .ok (.aload_n 0, 1) := by decide +kernel
theorem dX12_goes_318 : decode cX12_goes 318 = .ok (.getfield 37, 3) := by decide +kernel
theorem dX12_goes_321 : decode cX12_goes 321 = .ok (.iconst 3, 1) := by decide +kernel
theorem dX12_goes_322 : decode cX12_goes 322 = .ok (.dup2, 1) := by decide +kernel
theorem dX12_goes_323 : decode cX12_goes 323 = .ok (.iaload, 1) := by decide +kernel
theorem dX12_goes_324 : decode cX12_goes 324 = .ok (.iload 5, 2) := by decide +kernel
theorem dX12_goes_326 : decode cX12_goes 326 = .ok (.iadd, 1) := by decide +kernel
theorem dX12_goes_327 : decode cX12_goes 327 = .ok (.iastore, 1) := by decide +kernel
theorem dX12_goes_328 : decode cX12_goes 328 = .ok (.aload_n 0, 1) := by decide +kernel
theorem dX12_goes_329 : decode cX12_goes 329 = .ok (.getfield 70, 3) := by decide +kernel
theorem dX12_goes_332 : decode cX12_goes 332 = .ok (.iload 4, 2) := by decide +kernel
theorem dX12_goes_334 : decode cX12_goes 334 = .ok (.iconst 0, 1) := by decide +kernel
theorem dX12_goes_335 : decode cX12_goes 335 = .ok (.iastore, 1) := by decide +kernel
theorem dX12_goes_336 : decode cX12_goes 336 = .ok (.aload_n 0, 1) := by decide +kernel
theorem dX12_goes_337 : decode cX12_goes 337 = .ok (.iload 4, 2) := by decide +kernel
theorem dX12_goes_339 : decode cX12_goes 339 = .ok (.invokevirtual 241, 3) := by decide +kernel
theorem dX12_goes_342 : decode cX12_goes 342 = .ok (.iinc 4 1, 3) := by decide +kernel
theorem dX12_goes_345 : decode cX12_goes 345 = .ok (.goto (-207), 3) := by decide +kernel
theorem dX12_goes_348 : decode cX12_goes 348 = .ok (.aload_n 0, 1) := by decide +kernel
theorem dX12_goes_349 : decode cX12_goes 349 = .ok (.getfield 37, 3) := by decide +kernel
theorem dX12_goes_352 : decode cX12_goes 352 = .ok (.iconst 2, 1) := by decide +kernel
theorem dX12_goes_353 : decode cX12_goes 353 = .ok (.dup2, 1) := by decide +kernel
theorem dX12_goes_354 : decode cX12_goes 354 = .ok (.iaload, 1) := by decide +kernel
theorem dX12_goes_355 : decode cX12_goes 355 = .ok (.iload_n 3, 1) := by decide +kernel
theorem dX12_goes_356 : decode cX12_goes 356 = .ok (.iadd, 1) := by decide +kernel
theorem dX12_goes_357 : decode cX12_goes 357 = .ok (.iastore, 1) := by decide +kernel
theorem dX12_goes_358 : decode cX12_goes 358 = .ok (.aload_n 0, 1) := by decide +kernel
theorem dX12_goes_359 : decode cX12_goes 359 = .ok (.getfield 27, 3) := by decide +kernel
theorem dX12_goes_362 : decode cX12_goes 362 = .ok (.iconst 0, 1) := by decide +kernel
theorem dX12_goes_363 : decode cX12_goes 363 = .ok (.dup2, 1) := by decide +kernel
theorem dX12_goes_364 : decode cX12_goes 364 = .ok (.iaload, 1) := by decide +kernel
theorem dX12_goes_365 : decode cX12_goes 365 = .ok (.iconst 1, 1) := by decide +kernel
theorem dX12_goes_366 : decode cX12_goes 366 = .ok (.iadd, 1) := by decide +kernel
theorem dX12_goes_367 : decode cX12_goes 367 = .ok (.iastore, 1) := by decide +kernel
theorem dX12_goes_368 : decode cX12_goes 368 = .ok (.iload_n 3, 1) := by decide +kernel
theorem dX12_goes_369 : decode cX12_goes 369 = .ok (.ireturn, 1) := by decide +kernel
theorem dX12_day_0 : decode cX12_day 0 = .ok (.aload_n 0, 1) := by decide +kernel
theorem dX12_day_1 : decode cX12_day 1 = .ok (.getfield 27, 3) := by decide +kernel
theorem dX12_day_4 : decode cX12_day 4 = .ok (.iconst 0, 1) := by decide +kernel
theorem dX12_day_5 : decode cX12_day 5 = .ok (.iaload, 1) := by decide +kernel
theorem dX12_day_6 : decode cX12_day 6 = .ok (.sipush 199, 3) := by decide +kernel
theorem dX12_day_9 : decode cX12_day 9 = .ok (.if_icmp .ne 10, 3) := by decide +kernel
theorem dX12_day_12 : decode cX12_day 12 = .ok (.aload_n 0, 1) := by decide +kernel
theorem dX12_day_13 : decode cX12_day 13 = .ok (.bipush (-7), 2) := by decide +kernel
theorem dX12_day_15 : decode cX12_day 15 = .ok (.invokevirtual 151, 3) := by decide +kernel
theorem dX12_day_18 : decode cX12_day 18 = .ok (.ireturn, 1) := by decide +kernel
theorem dX12_day_19 : decode cX12_day 19 = .ok (.aload_n 0, 1) := by decide +kernel
theorem dX12_day_20 : decode cX12_day 20 = .ok (.iconst 0, 1) := by decide +kernel
theorem dX12_day_21 : decode cX12_day 21 = .ok (.putfield 228, 3) := by decide +kernel
theorem dX12_day_24 : decode cX12_day 24 = .ok (.aload_n 0, 1) := by decide +kernel
theorem dX12_day_25 : decode cX12_day 25 = .ok (.iconst 1, 1) := by decide +kernel
theorem dX12_day_26 : decode cX12_day 26 = .ok (.putfield 245, 3) := by decide +kernel
theorem dX12_day_29 : decode cX12_day 29 = .ok (.aload_n 0, 1) := by decide +kernel
theorem dX12_day_30 : decode cX12_day 30 = .ok (.aload_n 0, 1) := by decide +kernel
theorem dX12_day_31 : decode cX12_day 31 = .ok (.aload_n 0, 1) := by decide +kernel
theorem dX12_day_32 : decode cX12_day 32 = .ok (.getfield 27, 3) := by decide +kernel
theorem dX12_day_35 : decode cX12_day 35 = .ok (.iconst 0, 1) := by decide +kernel
theorem dX12_day_36 : decode cX12_day 36 = .ok (.iaload, 1) := by decide +kernel
theorem dX12_day_37 : decode cX12_day 37 = .ok (.iconst 1, 1) := by decide +kernel
theorem dX12_day_38 : decode cX12_day 38 = .ok (.invokevirtual 249, 3) := by decide +kernel
theorem dX12_day_41 : decode cX12_day 41 = .ok (.invokevirtual 151, 3) := by decide +kernel
theorem dX12_day_44 : decode cX12_day 44 = .ok (.ireturn, 1) := by decide +kernel
theorem dX12_line_0 : decode cX12_line 0 = .ok (.iload_n 2, 1) := by decide +kernel
theorem dX12_line_1 : decode cX12_line 1 = .ok (.iconst 0, 1) := by decide +kernel
theorem dX12_line_2 : decode cX12_line 2 = .ok (.iconst 5, 1) := by decide +kernel
theorem dX12_line_3 : decode cX12_line 3 = .ok (.invokestatic 145, 3) := by decide +kernel
theorem dX12_line_6 : decode cX12_line 6 = .ok (.ifCond .ne 5, 3) := by decide +kernel
theorem dX12_line_9 : decode cX12_line 9 = .ok (.iconst (-1), 1) := by decide +kernel
theorem dX12_line_10 : decode cX12_line 10 = .ok (.ireturn, 1) := by decide +kernel
theorem dX12_line_11 : decode cX12_line 11 = .ok (.iload_n 1, 1) := by decide +kernel
theorem dX12_line_12 : decode cX12_line 12 = .ok (.iconst 0, 1) := by decide +kernel
theorem dX12_line_13 : decode cX12_line 13 = .ok (.aload_n 0, 1) := by decide +kernel
theorem dX12_line_14 : decode cX12_line 14 = .ok (.getfield 228, 3) := by decide +kernel
theorem dX12_line_17 : decode cX12_line 17 = .ok (.iconst 1, 1) := by decide +kernel
theorem dX12_line_18 : decode cX12_line 18 = .ok (.isub, 1) := by decide +kernel
theorem dX12_line_19 : decode cX12_line 19 = .ok (.invokestatic 145, 3) := by decide +kernel
theorem dX12_line_22 : decode cX12_line 22 = .ok (.ifCond .eq 17, 3) := by decide +kernel
theorem dX12_line_25 : decode cX12_line 25 = .ok (.aload_n 0, 1) := by decide +kernel
theorem dX12_line_26 : decode cX12_line 26 = .ok (.getfield 88, 3) := by decide +kernel
theorem dX12_line_29 : decode cX12_line 29 = .ok (.bipush 6, 2) := by decide +kernel
theorem dX12_line_31 : decode cX12_line 31 = .ok (.iload_n 1, 1) := by decide +kernel
theorem dX12_line_32 : decode cX12_line 32 = .ok (.imul, 1) := by decide +kernel
theorem dX12_line_33 : decode cX12_line 33 = .ok (.iload_n 2, 1) := by decide +kernel
theorem dX12_line_34 : decode cX12_line 34 = .ok (.iadd, 1) := by decide +kernel
theorem dX12_line_35 : decode cX12_line 35 = .ok (.iaload, 1) := by decide +kernel
theorem dX12_line_36 : decode cX12_line 36 = .ok (.goto 5, 3) := by decide +kernel
theorem dX12_line_39 : decode cX12_line 39 = .ok (.bipush (-2), 2) := by decide +kernel
theorem dX12_line_41 : decode cX12_line 41 = .ok (.ireturn, 1) := by decide +kernel
theorem dX12_alter_0 : decode cX12_alter 0 = .ok (.iload_n 2, 1) := by decide +kernel
theorem dX12_alter_1 : decode cX12_alter 1 = .ok (.iconst 0, 1) := by decide +kernel
theorem dX12_alter_2 : decode cX12_alter 2 = .ok (.iconst 5, 1) := by decide +kernel
theorem dX12_alter_3 : decode cX12_alter 3 = .ok (.invokestatic 145, 3) := by decide +kernel
theorem dX12_alter_6 : decode cX12_alter 6 = .ok (.ifCond .eq 7, 3) := by decide +kernel
theorem dX12_alter_9 : decode cX12_alter 9 = .ok (.iload_n 3, 1) := by decide +kernel
theorem dX12_alter_10 : decode cX12_alter 10 = .ok (.ifCond .ne 9, 3) := by decide +kernel
theorem dX12_alter_13 : decode cX12_alter 13 = .ok (.aload_n 0, 1) := by decide +kernel
theorem dX12_alter_14 : decode cX12_alter 14 = .ok (.iconst (-1), 1) := by decide +kernel
theorem dX12_alter_15 : decode cX12_alter 15 = .ok (.invokevirtual 151, 3) := by decide +kernel
theorem dX12_alter_18 : decode cX12_alter 18 = .ok (.ireturn, 1) := by decide +kernel
theorem dX12_alter_19 : decode cX12_alter 19 = .ok (.iload_n 1, 1) := by decide +kernel
theorem dX12_alter_20 : decode cX12_alter 20 = .ok (.iconst 0, 1) := by decide +kernel
theorem dX12_alter_21 : decode cX12_alter 21 = .ok (.aload_n 0, 1) := by decide +kernel
theorem dX12_alter_22 : decode cX12_alter 22 = .ok (.getfield 228, 3) := by decide +kernel
theorem dX12_alter_25 : decode cX12_alter 25 = .ok (.iconst 1, 1) := by decide +kernel
theorem dX12_alter_26 : decode cX12_alter 26 = .ok (.isub, 1) := by decide +kernel
theorem dX12_alter_27 : decode cX12_alter 27 = .ok (.invokestatic 145, 3) := by decide +kernel
theorem dX12_alter_30 : decode cX12_alter 30 = .ok (.ifCond .ne 10, 3) := by decide +kernel
theorem dX12_alter_33 : decode cX12_alter 33 = .ok (.aload_n 0, 1) := by decide +kernel
theorem dX12_alter_34 : decode cX12_alter 34 = .ok (.bipush (-2), 2) := by decide +kernel
theorem dX12_alter_36 : decode cX12_alter 36 = .ok (.invokevirtual 151, 3) := by decide +kernel
theorem dX12_alter_39 : decode cX12_alter 39 = .ok (.ireturn, 1) := by decide +kernel
theorem dX12_alter_40 : decode cX12_alter 40 = .ok (.aload_n 0, 1) := by decide +kernel
theorem dX12_alter_41 : decode cX12_alter 41 = .ok (.getfield 88, 3) := by decide +kernel
theorem dX12_alter_44 : decode cX12_alter 44 = .ok (.bipush 6, 2) := by decide +kernel
theorem dX12_alter_46 : decode cX12_alter 46 = .ok (.iload_n 1, 1) := by decide +kernel
theorem dX12_alter_47 : decode cX12_alter 47 = .ok (.imul, 1) := by decide +kernel
theorem dX12_alter_48 : decode cX12_alter 48 = .ok (.iload_n 2, 1) := by decide +kernel
theorem dX12_alter_49 : decode cX12_alter 49 = .ok (.iadd, 1) := by decide +kernel
theorem dX12_alter_50 : decode cX12_alter 50 = .ok (.dup2, 1) := by decide +kernel
theorem dX12_alter_51 : decode cX12_alter 51 = .ok (.iaload, 1) := by decide +kernel
theorem dX12_alter_52 : decode cX12_alter 52 = .ok (.iload_n 3, 1) := by decide +kernel
theorem dX12_alter_53 : decode cX12_alter 53 = .ok (.ixor, 1) := by decide +kernel
theorem dX12_alter_54 : decode cX12_alter 54 = .ok (.iastore, 1) := by decide +kernel
theorem dX12_alter_55 : decode cX12_alter 55 = .ok (.aload_n 0, 1) := by decide +kernel
theorem dX12_alter_56 : decode cX12_alter 56 = .ok (.iconst 0, 1) := by decide +kernel
theorem dX12_alter_57 : decode cX12_alter 57 = .ok (.invokevirtual 151, 3) := by decide +kernel
theorem dX12_alter_60 : decode cX12_alter 60 = .ok (.ireturn, 1) := by decide +kernel
theorem dX12_check_0 : decode cX12_check 0 = .ok (.aload_n 0, 1) := by decide +kernel
theorem dX12_check_1 : decode cX12_check 1 = .ok (.getfield 245, 3) := by decide +kernel
theorem dX12_check_4 : decode cX12_check 4 = .ok (.ifCond .ne 6, 3) := by decide +kernel
theorem dX12_check_7 : decode cX12_check 7 = .ok (.bipush (-7), 2) := by decide +kernel
theorem dX12_check_9 : decode cX12_check 9 = .ok (.ireturn, 1) := by decide +kernel
theorem dX12_check_10 : decode cX12_check 10 = .ok (.iconst 0, 1) := by decide +kernel
theorem dX12_check_11 : decode cX12_check 11 = .ok (.istore_n 1, 1) := by decide +kernel
theorem dX12_check_12 : decode cX12_check 12 = .ok (.iload_n 1, 1) := by decide +kernel
theorem dX12_check_13 : decode cX12_check 13 = .ok (.bipush 6, 2) := by decide +kernel
theorem dX12_check_15 : decode cX12_check 15 = .ok (.aload_n 0, 1) := by decide +kernel
theorem dX12_check_16 : decode cX12_check 16 = .ok (.getfield 228, 3) := by decide +kernel
theorem dX12_check_19 : decode cX12_check 19 = .ok (.imul, 1) := by decide +kernel
theorem dX12_check_20 : decode cX12_check 20 = .ok (.if_icmp .ge 29, 3) := by decide +kernel
theorem dX12_check_23 : decode cX12_check 23 = .ok (.aload_n 0, 1) := by decide +kernel
theorem dX12_check_24 : decode cX12_check 24 = .ok (.getfield 88, 3) := by decide +kernel
theorem dX12_check_27 : decode cX12_check 27 = .ok (.iload_n 1, 1) := by decide +kernel
theorem dX12_check_28 : decode cX12_check 28 = .ok (.iaload, 1) := by decide +kernel
theorem dX12_check_29 : decode cX12_check 29 = .ok (.aload_n 0, 1) := by decide +kernel
theorem dX12_check_30 : decode cX12_check 30 = .ok (.getfield 91, 3) := by decide +kernel
theorem dX12_check_33 : decode cX12_check 33 = .ok (.iload_n 1, 1) := by decide +kernel
theorem dX12_check_34 : decode cX12_check 34 = .ok (.iaload, 1) := by decide +kernel
theorem dX12_check_35 : decode cX12_check 35 = .ok (.if_icmp .eq 8, 3) := by decide +kernel
theorem dX12_check_38 : decode cX12_check 38 = .ok (.iload_n 1, 1) := by decide +kernel
theorem dX12_check_39 : decode cX12_check 39 = .ok (.bipush 6, 2) := by decide +kernel
theorem dX12_check_41 : decode cX12_check 41 = .ok (.idiv, 1) := by decide +kernel
theorem dX12_check_42 : decode cX12_check 42 = .ok (.ireturn, 1) := by decide +kernel
theorem dX12_check_43 : decode cX12_check 43 = .ok (.iinc 1 1, 3) := by decide +kernel
theorem dX12_check_46 : decode cX12_check 46 = .ok (.goto (-34), 3) := by decide +kernel
theorem dX12_check_49 : decode cX12_check 49 = .ok (.iconst (-1), 1) := by decide +kernel
theorem dX12_check_50 : decode cX12_check 50 = .ok (.ireturn, 1) := by decide +kernel
theorem dX12_nextOf_0 : decode cX12_nextOf 0 = .ok (.iconst (-1), 1) := by decide +kernel
theorem dX12_nextOf_1 : decode cX12_nextOf 1 = .ok (.istore_n 2, 1) := by decide +kernel
theorem dX12_nextOf_2 : decode cX12_nextOf 2 = .ok (.iconst 0, 1) := by decide +kernel
theorem dX12_nextOf_3 : decode cX12_nextOf 3 = .ok (.istore_n 3, 1) := by decide +kernel
theorem dX12_nextOf_4 : decode cX12_nextOf 4 = .ok (.iconst 0, 1) := by decide +kernel
theorem dX12_nextOf_5 : decode cX12_nextOf 5 = .ok (.istore 4, 2) := by decide +kernel
theorem dX12_nextOf_7 : decode cX12_nextOf 7 = .ok (.iload 4, 2) := by decide +kernel
theorem dX12_nextOf_9 : decode cX12_nextOf 9 = .ok (.aload_n 0, 1) := by decide +kernel
theorem dX12_nextOf_10 : decode cX12_nextOf 10 = .ok (.getfield 34, 3) := by decide +kernel
theorem dX12_nextOf_13 : decode cX12_nextOf 13 = .ok (.iconst 0, 1) := by decide +kernel
theorem dX12_nextOf_14 : decode cX12_nextOf 14 = .ok (.iaload, 1) := by decide +kernel
theorem dX12_nextOf_15 : decode cX12_nextOf 15 = .ok (.if_icmp .ge 163, 3) := by decide +kernel
theorem dX12_nextOf_18 : decode cX12_nextOf 18 = .ok (.aload_n 0, 1) := by decide +kernel
theorem dX12_nextOf_19 : decode cX12_nextOf 19 = .ok (.getfield 73, 3) := by decide +kernel
theorem dX12_nextOf_22 : decode cX12_nextOf 22 = .ok (.iload 4, 2) := by decide +kernel
theorem dX12_nextOf_24 : decode cX12_nextOf 24 = .ok (.iaload, 1) := by decide +kernel
theorem dX12_nextOf_25 : decode cX12_nextOf 25 = .ok (.iload_n 1, 1) := by decide +kernel
theorem dX12_nextOf_26 : decode cX12_nextOf 26 = .ok (.if_icmp .ne 146, 3) := by decide +kernel
theorem dX12_nextOf_29 : decode cX12_nextOf 29 = .ok (.aload_n 0, 1) := by decide +kernel
theorem dX12_nextOf_30 : decode cX12_nextOf 30 = .ok (.iload 4, 2) := by decide +kernel
theorem dX12_nextOf_32 : decode cX12_nextOf 32 = .ok (.invokevirtual 206, 3) := by decide +kernel
theorem dX12_nextOf_35 : decode cX12_nextOf 35 = .ok (.ifCond .ne 6, 3) := by decide +kernel
theorem dX12_nextOf_38 : decode cX12_nextOf 38 = .ok (.goto 134, 3) := by decide +kernel
theorem dX12_nextOf_41 : decode cX12_nextOf 41 = .ok (.aload_n 0, 1) := by decide +kernel
theorem dX12_nextOf_42 : decode cX12_nextOf 42 = .ok (.iload 4, 2) := by decide +kernel
theorem dX12_nextOf_44 : decode cX12_nextOf 44 = .ok (.aload_n 0, 1) := by decide +kernel
theorem dX12_nextOf_45 : decode cX12_nextOf 45 = .ok (.getfield 27, 3) := by decide +kernel
theorem dX12_nextOf_48 : decode cX12_nextOf 48 = .ok (.iconst 0, 1) := by decide +kernel
theorem dX12_nextOf_49 : decode cX12_nextOf 49 = .ok (.iaload, 1) := by decide +kernel
theorem dX12_nextOf_50 : decode cX12_nextOf 50 = .ok (.invokevirtual 225, 3) := by decide +kernel
theorem dX12_nextOf_53 : decode cX12_nextOf 53 = .ok (.istore 5, 2) := by decide +kernel
theorem dX12_nextOf_55 : decode cX12_nextOf 55 = .ok (.iload_n 2, 1) := by decide +kernel
theorem dX12_nextOf_56 : decode cX12_nextOf 56 = .ok (.iconst (-1), 1) := by decide +kernel
theorem dX12_nextOf_57 : decode cX12_nextOf 57 = .ok (.if_icmp .eq 9, 3) := by decide +kernel
theorem dX12_nextOf_60 : decode cX12_nextOf 60 = .ok (.iload 5, 2) := by decide +kernel
theorem dX12_nextOf_62 : decode cX12_nextOf 62 = .ok (.iload_n 3, 1) := by decide +kernel
theorem dX12_nextOf_63 : decode cX12_nextOf 63 = .ok (.if_icmp .le 7, 3) := by decide +kernel
theorem dX12_nextOf_66 : decode cX12_nextOf 66 = .ok (.iconst 1, 1) := by decide +kernel
theorem dX12_nextOf_67 : decode cX12_nextOf 67 = .ok (.goto 4, 3) := by decide +kernel
theorem dX12_nextOf_70 : decode cX12_nextOf 70 = .ok (.iconst 0, 1) := by decide +kernel
theorem dX12_nextOf_71 : decode cX12_nextOf 71 = .ok (.istore 6, 2) := by decide +kernel
theorem dX12_nextOf_73 : decode cX12_nextOf 73 = .ok (.iload 6, 2) := by decide +kernel
theorem dX12_nextOf_75 : decode cX12_nextOf 75 = .ok (.ifCond .ne 73, 3) := by decide +kernel
theorem dX12_nextOf_78 : decode cX12_nextOf 78 = .ok (.iload 5, 2) := by decide +kernel
theorem dX12_nextOf_80 : decode cX12_nextOf 80 = .ok (.iload_n 3, 1) := by decide +kernel
theorem dX12_nextOf_81 : decode cX12_nextOf 81 = .ok (.if_icmp .ne 67, 3) := by decide +kernel
theorem dX12_nextOf_84 : decode cX12_nextOf 84 = .ok (.aload_n 0, 1) := by decide +kernel
theorem dX12_nextOf_85 : decode cX12_nextOf 85 = .ok (.iload_n 1, 1) := by decide +kernel
theorem dX12_nextOf_86 : decode cX12_nextOf 86 = .ok (.aload_n 0, 1) := by decide +kernel
theorem dX12_nextOf_87 : decode cX12_nextOf 87 = .ok (.getfield 76, 3) := by decide +kernel
theorem dX12_nextOf_90 : decode cX12_nextOf 90 = .ok (.iload 4, 2) := by decide +kernel
theorem dX12_nextOf_92 : decode cX12_nextOf 92 = .ok (.iaload, 1) := by decide +kernel
theorem dX12_nextOf_93 : decode cX12_nextOf 93 = .ok (.invokevirtual 170, 3) := by decide +kernel
theorem dX12_nextOf_96 : decode cX12_nextOf 96 = .ok (.istore 7, 2) := by decide +kernel
theorem dX12_nextOf_98 : decode cX12_nextOf 98 = .ok (.aload_n 0, 1) := by decide +kernel
theorem dX12_nextOf_99 : decode cX12_nextOf 99 = .ok (.iload_n 1, 1) := by decide +kernel
theorem dX12_nextOf_100 : decode cX12_nextOf 100 = .ok (.aload_n 0, 1) := by decide +kernel
theorem dX12_nextOf_101 : decode cX12_nextOf 101 = .ok (.getfield 76, 3) := by decide +kernel
theorem dX12_nextOf_104 : decode cX12_nextOf 104 = .ok (.iload_n 2, 1) := by decide +kernel
theorem dX12_nextOf_105 : decode cX12_nextOf 105 = .ok (.iaload, 1) := by decide +kernel
theorem dX12_nextOf_106 : decode cX12_nextOf 106 = .ok (.invokevirtual 170, 3) := by decide +kernel
theorem dX12_nextOf_109 : decode cX12_nextOf 109 = .ok (.istore 8, 2) := by decide +kernel
theorem dX12_nextOf_111 : decode cX12_nextOf 111 = .ok (.iload 7, 2) := by decide +kernel
theorem dX12_nextOf_113 : decode cX12_nextOf 113 = .ok (.iload 8, 2) := by decide +kernel
theorem dX12_nextOf_115 : decode cX12_nextOf 115 = .ok (.if_icmp .gt 26, 3) := by decide +kernel
theorem dX12_nextOf_118 : decode cX12_nextOf 118 = .ok (.iload 7, 2) := by decide +kernel
theorem dX12_nextOf_120 : decode cX12_nextOf 120 = .ok (.iload 8, 2) := by decide +kernel
theorem dX12_nextOf_122 : decode cX12_nextOf 122 = .ok (.if_icmp .ne 23, 3) := by decide +kernel
theorem dX12_nextOf_125 : decode cX12_nextOf 125 = .ok (.aload_n 0, 1) := by decide +kernel
theorem dX12_nextOf_126 : decode cX12_nextOf 126 = .ok (.getfield 76, 3) := by decide +kernel
theorem dX12_nextOf_129 : decode cX12_nextOf 129 = .ok (.iload 4, 2) := by decide +kernel
theorem dX12_nextOf_131 : decode cX12_nextOf 131 = .ok (.iaload, 1) := by decide +kernel
theorem dX12_nextOf_132 : decode cX12_nextOf 132 = .ok (.aload_n 0, 1) := by decide +kernel
theorem dX12_nextOf_133 : decode cX12_nextOf 133 = .ok (.getfield 76, 3) := by decide +kernel
theorem dX12_nextOf_136 : decode cX12_nextOf 136 = .ok (.iload_n 2, 1) := by decide +kernel
theorem dX12_nextOf_137 : decode cX12_nextOf 137 = .ok (.iaload, 1) := by decide +kernel
theorem dX12_nextOf_138 : decode cX12_nextOf 138 = .ok (.if_icmp .ge 7, 3) := by decide +kernel
theorem dX12_nextOf_141 : decode cX12_nextOf 141 = .ok (.iconst 1, 1) := by decide +kernel
theorem dX12_nextOf_142 : decode cX12_nextOf 142 = .ok (.goto 4, 3) := by decide +kernel
theorem dX12_nextOf_145 : decode cX12_nextOf 145 = .ok (.iconst 0, 1) := by decide +kernel
theorem dX12_nextOf_146 : decode cX12_nextOf 146 = .ok (.istore 6, 2) := by decide +kernel
theorem dX12_nextOf_148 : decode cX12_nextOf 148 = .ok (.iload 6, 2) := by decide +kernel
theorem dX12_nextOf_150 : decode cX12_nextOf 150 = .ok (.ifCond .eq 8, 3) := by decide +kernel
theorem dX12_nextOf_153 : decode cX12_nextOf 153 = .ok (.iload 4, 2) := by decide +kernel
theorem dX12_nextOf_155 : decode cX12_nextOf 155 = .ok (.goto 4, 3) := by decide +kernel
theorem dX12_nextOf_158 : decode cX12_nextOf 158 = .ok (.iload_n 2, 1) := by decide +kernel
theorem dX12_nextOf_159 : decode cX12_nextOf 159 = .ok (.istore_n 2, 1) := by decide +kernel
theorem dX12_nextOf_160 : decode cX12_nextOf 160 = .ok (.iload 6, 2) := by decide +kernel
theorem dX12_nextOf_162 : decode cX12_nextOf 162 = .ok (.ifCond .eq 8, 3) := by decide +kernel
theorem dX12_nextOf_165 : decode cX12_nextOf 165 = .ok (.iload 5, 2) := by decide +kernel
theorem dX12_nextOf_167 : decode cX12_nextOf 167 = .ok (.goto 4, 3) := by decide +kernel
theorem dX12_nextOf_170 : decode cX12_nextOf 170 = .ok (.iload_n 3, 1) := by decide +kernel
theorem dX12_nextOf_171 : decode cX12_nextOf 171 = .ok (.istore_n 3, 1) := by decide +kernel
theorem dX12_nextOf_172 : decode cX12_nextOf 172 = .ok (.iinc 4 1, 3) := by decide +kernel
theorem dX12_nextOf_175 : decode cX12_nextOf 175 = .ok (.goto (-168), 3) := by decide +kernel
theorem dX12_nextOf_178 : decode cX12_nextOf 178 = .ok (.iload_n 2, 1) := by decide +kernel
theorem dX12_nextOf_179 : decode cX12_nextOf 179 = .ok (.ireturn, 1) := by decide +kernel
theorem dX12_next_0 : decode cX12_next 0 = .ok (.aload_n 0, 1) := by decide +kernel
theorem dX12_next_1 : decode cX12_next 1 = .ok (.iload_n 1, 1) := by decide +kernel
theorem dX12_next_2 : decode cX12_next 2 = .ok (.invokevirtual 180, 3) := by decide +kernel
theorem dX12_next_5 : decode cX12_next 5 = .ok (.ifCond .eq 11, 3) := by decide +kernel
theorem dX12_next_8 : decode cX12_next 8 = .ok (.aload_n 0, 1) := by decide +kernel
theorem dX12_next_9 : decode cX12_next 9 = .ok (.iload_n 1, 1) := by decide +kernel
theorem dX12_next_10 : decode cX12_next 10 = .ok (.invokevirtual 253, 3) := by decide +kernel
theorem dX12_next_13 : decode cX12_next 13 = .ok (.goto 5, 3) := by decide +kernel
theorem dX12_next_16 : decode cX12_next 16 = .ok (.bipush (-2), 2) := by decide +kernel
theorem dX12_next_18 : decode cX12_next 18 = .ok (.ireturn, 1) := by decide +kernel
theorem dX12_take_0 : decode cX12_take 0 = .ok (.iload_n 2, 1) := by decide +kernel
theorem dX12_take_1 : decode cX12_take 1 = .ok (.iconst 1, 1) := by decide +kernel
theorem dX12_take_2 : decode cX12_take 2 = .ok (.sipush 300, 3) := by decide +kernel
theorem dX12_take_5 : decode cX12_take 5 = .ok (.invokestatic 145, 3) := by decide +kernel
theorem dX12_take_8 : decode cX12_take 8 = .ok (.ifCond .ne 9, 3) := by decide +kernel
theorem dX12_take_11 : decode cX12_take 11 = .ok (.aload_n 0, 1) := by decide +kernel
theorem dX12_take_12 : decode cX12_take 12 = .ok (.iconst (-1), 1) := by decide +kernel
theorem dX12_take_13 : decode cX12_take 13 = .ok (.invokevirtual 151, 3) := by decide +kernel
theorem dX12_take_16 : decode cX12_take 16 = .ok (.ireturn, 1) := by decide +kernel
theorem dX12_take_17 : decode cX12_take 17 = .ok (.aload_n 0, 1) := by decide +kernel
theorem dX12_take_18 : decode cX12_take 18 = .ok (.iload_n 1, 1) := by decide +kernel
theorem dX12_take_19 : decode cX12_take 19 = .ok (.invokevirtual 180, 3) := by decide +kernel
theorem dX12_take_22 : decode cX12_take 22 = .ok (.ifCond .ne 10, 3) := by decide +kernel
theorem dX12_take_25 : decode cX12_take 25 = .ok (.aload_n 0, 1) := by decide +kernel
theorem dX12_take_26 : decode cX12_take 26 = .ok (.bipush (-2), 2) := by decide +kernel
theorem dX12_take_28 : decode cX12_take 28 = .ok (.invokevirtual 151, 3) := by decide +kernel
theorem dX12_take_31 : decode cX12_take 31 = .ok (.ireturn, 1) := by decide +kernel
theorem dX12_take_32 : decode cX12_take 32 = .ok (.aload_n 0, 1) := by decide +kernel
theorem dX12_take_33 : decode cX12_take 33 = .ok (.iload_n 1, 1) := by decide +kernel
theorem dX12_take_34 : decode cX12_take 34 = .ok (.iconst (-1), 1) := by decide +kernel
theorem dX12_take_35 : decode cX12_take 35 = .ok (.invokevirtual 184, 3) := by decide +kernel
theorem dX12_take_38 : decode cX12_take 38 = .ok (.iload_n 2, 1) := by decide +kernel
theorem dX12_take_39 : decode cX12_take 39 = .ok (.if_icmp .ge 10, 3) := by decide +kernel
theorem dX12_take_42 : decode cX12_take 42 = .ok (.aload_n 0, 1) := by decide +kernel
theorem dX12_take_43 : decode cX12_take 43 = .ok (.bipush (-6), 2) := by decide +kernel
theorem dX12_take_45 : decode cX12_take 45 = .ok (.invokevirtual 151, 3) := by decide +kernel
theorem dX12_take_48 : decode cX12_take 48 = .ok (.ireturn, 1) := by decide +kernel
theorem dX12_take_49 : decode cX12_take 49 = .ok (.iconst 0, 1) := by decide +kernel
theorem dX12_take_50 : decode cX12_take 50 = .ok (.istore_n 3, 1) := by decide +kernel
theorem dX12_take_51 : decode cX12_take 51 = .ok (.aload_n 0, 1) := by decide +kernel
theorem dX12_take_52 : decode cX12_take 52 = .ok (.iconst 0, 1) := by decide +kernel
theorem dX12_take_53 : decode cX12_take 53 = .ok (.putfield 256, 3) := by decide +kernel
theorem dX12_take_56 : decode cX12_take 56 = .ok (.iconst 0, 1) := by decide +kernel
theorem dX12_take_57 : decode cX12_take 57 = .ok (.istore 4, 2) := by decide +kernel
theorem dX12_take_59 : decode cX12_take 59 = .ok (.iload 4, 2) := by decide +kernel
theorem dX12_take_61 : decode cX12_take 61 = .ok (.iload_n 2, 1) := by decide +kernel
theorem dX12_take_62 : decode cX12_take 62 = .ok (.if_icmp .ge 53, 3) := by decide +kernel
theorem dX12_take_65 : decode cX12_take 65 = .ok (.aload_n 0, 1) := by decide +kernel
theorem dX12_take_66 : decode cX12_take 66 = .ok (.iload_n 1, 1) := by decide +kernel
theorem dX12_take_67 : decode cX12_take 67 = .ok (.invokevirtual 253, 3) := by decide +kernel
theorem dX12_take_70 : decode cX12_take 70 = .ok (.istore 5, 2) := by decide +kernel
theorem dX12_take_72 : decode cX12_take 72 = .ok (.aload_n 0, 1) := by decide +kernel
theorem dX12_take_73 : decode cX12_take 73 = .ok (.getfield 106, 3) := by decide +kernel
theorem dX12_take_76 : decode cX12_take 76 = .ok (.aload_n 0, 1) := by decide +kernel
theorem dX12_take_77 : decode cX12_take 77 = .ok (.getfield 256, 3) := by decide +kernel
theorem dX12_take_80 : decode cX12_take 80 = .ok (.iload 5, 2) := by decide +kernel
theorem dX12_take_82 : decode cX12_take 82 = .ok (.iastore, 1) := by decide +kernel
theorem dX12_take_83 : decode cX12_take 83 = .ok (.aload_n 0, 1) := by decide +kernel
theorem dX12_take_84 : decode cX12_take 84 = .ok (.dup, 1) := by decide +kernel
theorem dX12_take_85 : decode cX12_take 85 = .ok (.getfield 256, 3) := by decide +kernel
theorem dX12_take_88 : decode cX12_take 88 = .ok (.iconst 1, 1) := by decide +kernel
theorem dX12_take_89 : decode cX12_take 89 = .ok (.iadd, 1) := by decide +kernel
theorem dX12_take_90 : decode cX12_take 90 = .ok (.putfield 256, 3) := by decide +kernel
theorem dX12_take_93 : decode cX12_take 93 = .ok (.iload_n 3, 1) := by decide +kernel
theorem dX12_take_94 : decode cX12_take 94 = .ok (.aload_n 0, 1) := by decide +kernel
theorem dX12_take_95 : decode cX12_take 95 = .ok (.getfield 70, 3) := by decide +kernel
theorem dX12_take_98 : decode cX12_take 98 = .ok (.iload 5, 2) := by decide +kernel
theorem dX12_take_100 : decode cX12_take 100 = .ok (.iaload, 1) := by decide +kernel
theorem dX12_take_101 : decode cX12_take 101 = .ok (.iadd, 1) := by decide +kernel
theorem dX12_take_102 : decode cX12_take 102 = .ok (.istore_n 3, 1) := by decide +kernel
theorem dX12_take_103 : decode cX12_take 103 = .ok (.aload_n 0, 1) := by decide +kernel
theorem dX12_take_104 : decode cX12_take 104 = .ok (.iload 5, 2) := by decide +kernel
theorem dX12_take_106 : decode cX12_take 106 = .ok (.invokevirtual 241, 3) := by decide +kernel
theorem dX12_take_109 : decode cX12_take 109 = .ok (.iinc 4 1, 3) := by decide +kernel
theorem dX12_take_112 : decode cX12_take 112 = .ok (.goto (-53), 3) := by decide +kernel
theorem dX12_take_115 : decode cX12_take 115 = .ok (.aload_n 0, 1) := by decide +kernel
theorem dX12_take_116 : decode cX12_take 116 = .ok (.getfield 37, 3) := by decide +kernel
theorem dX12_take_119 : decode cX12_take 119 = .ok (.iconst 1, 1) := by decide +kernel
theorem dX12_take_120 : decode cX12_take 120 = .ok (.dup2, 1) := by decide +kernel
theorem dX12_take_121 : decode cX12_take 121 = .ok (.iaload, 1) := by decide +kernel
theorem dX12_take_122 : decode cX12_take 122 = .ok (.iload_n 3, 1) := by decide +kernel
theorem dX12_take_123 : decode cX12_take 123 = .ok (.iadd, 1) := by decide +kernel
theorem dX12_take_124 : decode cX12_take 124 = .ok (.iastore, 1) := by decide +kernel
theorem dX12_take_125 : decode cX12_take 125 = .ok (.aload_n 0, 1) := by decide +kernel
theorem dX12_take_126 : decode cX12_take 126 = .ok (.iload_n 3, 1) := by decide +kernel
theorem dX12_take_127 : decode cX12_take 127 = .ok (.invokevirtual 151, 3) := by decide +kernel
theorem dX12_take_130 : decode cX12_take 130 = .ok (.ireturn, 1) := by decide +kernel
theorem dX12_way_0 : decode cX12_way 0 = .ok (.iload_n 1, 1) := by decide +kernel
theorem dX12_way_1 : decode cX12_way 1 = .ok (.iconst 4, 1) := by decide +kernel
theorem dX12_way_2 : decode cX12_way 2 = .ok (.if_icmp .eq 8, 3) := by decide +kernel
theorem dX12_way_5 : decode cX12_way 5 = .ok (.iload_n 1, 1) := by decide +kernel
theorem dX12_way_6 : decode cX12_way 6 = .ok (.iconst 3, 1) := by decide +kernel
theorem dX12_way_7 : decode cX12_way 7 = .ok (.if_icmp .ne 13, 3) := by decide +kernel
theorem dX12_way_10 : decode cX12_way 10 = .ok (.iload_n 2, 1) := by decide +kernel
theorem dX12_way_11 : decode cX12_way 11 = .ok (.iconst 0, 1) := by decide +kernel
theorem dX12_way_12 : decode cX12_way 12 = .ok (.bipush 20, 2) := by decide +kernel
theorem dX12_way_14 : decode cX12_way 14 = .ok (.invokestatic 145, 3) := by decide +kernel
theorem dX12_way_17 : decode cX12_way 17 = .ok (.ifCond .ne 9, 3) := by decide +kernel
theorem dX12_way_20 : decode cX12_way 20 = .ok (.aload_n 0, 1) := by decide +kernel
theorem dX12_way_21 : decode cX12_way 21 = .ok (.iconst (-1), 1) := by decide +kernel
theorem dX12_way_22 : decode cX12_way 22 = .ok (.invokevirtual 151, 3) := by decide +kernel
theorem dX12_way_25 : decode cX12_way 25 = .ok (.ireturn, 1) := by decide +kernel
theorem dX12_way_26 : decode cX12_way 26 = .ok (.aload_n 0, 1) := by decide +kernel
theorem dX12_way_27 : decode cX12_way 27 = .ok (.getfield 259, 3) := by decide +kernel
theorem dX12_way_30 : decode cX12_way 30 = .ok (.bipush 6, 2) := by decide +kernel
theorem dX12_way_32 : decode cX12_way 32 = .ok (.if_icmp .ne 10, 3) := by decide +kernel
theorem dX12_way_35 : decode cX12_way 35 = .ok (.aload_n 0, 1) := by decide +kernel
theorem dX12_way_36 : decode cX12_way 36 = .ok (.bipush (-6), 2) := by decide +kernel
theorem dX12_way_38 : decode cX12_way 38 = .ok (.invokevirtual 151, 3) := by decide +kernel
theorem dX12_way_41 : decode cX12_way 41 = .ok (.ireturn, 1) := by decide +kernel
theorem dX12_way_42 : decode cX12_way 42 = .ok (.aload_n 0, 1) := by decide +kernel
theorem dX12_way_43 : decode cX12_way 43 = .ok (.getfield 100, 3) := by decide +kernel
theorem dX12_way_46 : decode cX12_way 46 = .ok (.aload_n 0, 1) := by decide +kernel
theorem dX12_way_47 : decode cX12_way 47 = .ok (.getfield 259, 3) := by decide +kernel
theorem dX12_way_50 : decode cX12_way 50 = .ok (.iload_n 1, 1) := by decide +kernel
theorem dX12_way_51 : decode cX12_way 51 = .ok (.iastore, 1) := by decide +kernel
theorem dX12_way_52 : decode cX12_way 52 = .ok (.aload_n 0, 1) := by decide +kernel
theorem dX12_way_53 : decode cX12_way 53 = .ok (.getfield 103, 3) := by decide +kernel
theorem dX12_way_56 : decode cX12_way 56 = .ok (.aload_n 0, 1) := by decide +kernel
theorem dX12_way_57 : decode cX12_way 57 = .ok (.getfield 259, 3) := by decide +kernel
theorem dX12_way_60 : decode cX12_way 60 = .ok (.iload_n 2, 1) := by decide +kernel
theorem dX12_way_61 : decode cX12_way 61 = .ok (.iastore, 1) := by decide +kernel
theorem dX12_way_62 : decode cX12_way 62 = .ok (.aload_n 0, 1) := by decide +kernel
theorem dX12_way_63 : decode cX12_way 63 = .ok (.dup, 1) := by decide +kernel
theorem dX12_way_64 : decode cX12_way 64 = .ok (.getfield 259, 3) := by decide +kernel
theorem dX12_way_67 : decode cX12_way 67 = .ok (.iconst 1, 1) := by decide +kernel
theorem dX12_way_68 : decode cX12_way 68 = .ok (.iadd, 1) := by decide +kernel
theorem dX12_way_69 : decode cX12_way 69 = .ok (.putfield 259, 3) := by decide +kernel
theorem dX12_way_72 : decode cX12_way 72 = .ok (.aload_n 0, 1) := by decide +kernel
theorem dX12_way_73 : decode cX12_way 73 = .ok (.aload_n 0, 1) := by decide +kernel
theorem dX12_way_74 : decode cX12_way 74 = .ok (.getfield 259, 3) := by decide +kernel
theorem dX12_way_77 : decode cX12_way 77 = .ok (.invokevirtual 151, 3) := by decide +kernel
theorem dX12_way_80 : decode cX12_way 80 = .ok (.ireturn, 1) := by decide +kernel
theorem dX12_home_0 : decode cX12_home 0 = .ok (.aload_n 0, 1) := by decide +kernel
theorem dX12_home_1 : decode cX12_home 1 = .ok (.getfield 259, 3) := by decide +kernel
theorem dX12_home_4 : decode cX12_home 4 = .ok (.istore_n 1, 1) := by decide +kernel
theorem dX12_home_5 : decode cX12_home 5 = .ok (.aload_n 0, 1) := by decide +kernel
theorem dX12_home_6 : decode cX12_home 6 = .ok (.iconst 0, 1) := by decide +kernel
theorem dX12_home_7 : decode cX12_home 7 = .ok (.putfield 259, 3) := by decide +kernel
theorem dX12_home_10 : decode cX12_home 10 = .ok (.iload_n 1, 1) := by decide +kernel
theorem dX12_home_11 : decode cX12_home 11 = .ok (.ireturn, 1) := by decide +kernel
theorem dX12_comeOf_0 : decode cX12_comeOf 0 = .ok (.aload_n 0, 1) := by decide +kernel
theorem dX12_comeOf_1 : decode cX12_comeOf 1 = .ok (.getfield 70, 3) := by decide +kernel
theorem dX12_comeOf_4 : decode cX12_comeOf 4 = .ok (.iload_n 1, 1) := by decide +kernel
theorem dX12_comeOf_5 : decode cX12_comeOf 5 = .ok (.iaload, 1) := by decide +kernel
theorem dX12_comeOf_6 : decode cX12_comeOf 6 = .ok (.istore_n 2, 1) := by decide +kernel
theorem dX12_comeOf_7 : decode cX12_comeOf 7 = .ok (.aload_n 0, 1) := by decide +kernel
theorem dX12_comeOf_8 : decode cX12_comeOf 8 = .ok (.getfield 27, 3) := by decide +kernel
theorem dX12_comeOf_11 : decode cX12_comeOf 11 = .ok (.iconst 0, 1) := by decide +kernel
theorem dX12_comeOf_12 : decode cX12_comeOf 12 = .ok (.iaload, 1) := by decide +kernel
theorem dX12_comeOf_13 : decode cX12_comeOf 13 = .ok (.istore_n 3, 1) := by decide +kernel
theorem dX12_comeOf_14 : decode cX12_comeOf 14 = .ok (.iconst 0, 1) := by decide +kernel
theorem dX12_comeOf_15 : decode cX12_comeOf 15 = .ok (.istore 4, 2) := by decide +kernel
theorem dX12_comeOf_17 : decode cX12_comeOf 17 = .ok (.iload 4, 2) := by decide +kernel
theorem dX12_comeOf_19 : decode cX12_comeOf 19 = .ok (.aload_n 0, 1) := by decide +kernel
theorem dX12_comeOf_20 : decode cX12_comeOf 20 = .ok (.getfield 259, 3) := by decide +kernel
theorem dX12_comeOf_23 : decode cX12_comeOf 23 = .ok (.if_icmp .ge 107, 3) := by decide +kernel
theorem dX12_comeOf_26 : decode cX12_comeOf 26 = .ok (.iconst 0, 1) := by decide +kernel
theorem dX12_comeOf_27 : decode cX12_comeOf 27 = .ok (.istore 5, 2) := by decide +kernel
theorem dX12_comeOf_29 : decode cX12_comeOf 29 = .ok (.iload 5, 2) := by decide +kernel
theorem dX12_comeOf_31 : decode cX12_comeOf 31 = .ok (.aload_n 0, 1) := by decide +kernel
theorem dX12_comeOf_32 : decode cX12_comeOf 32 = .ok (.getfield 103, 3) := by decide +kernel
theorem dX12_comeOf_35 : decode cX12_comeOf 35 = .ok (.iload 4, 2) := by decide +kernel
theorem dX12_comeOf_37 : decode cX12_comeOf 37 = .ok (.iaload, 1) := by decide +kernel
theorem dX12_comeOf_38 : decode cX12_comeOf 38 = .ok (.if_icmp .ge 86, 3) := by decide +kernel
theorem dX12_comeOf_41 : decode cX12_comeOf 41 = .ok (.aload_n 0, 1) := by decide +kernel
theorem dX12_comeOf_42 : decode cX12_comeOf 42 = .ok (.aload_n 0, 1) := by decide +kernel
theorem dX12_comeOf_43 : decode cX12_comeOf 43 = .ok (.getfield 100, 3) := by decide +kernel
theorem dX12_comeOf_46 : decode cX12_comeOf 46 = .ok (.iload 4, 2) := by decide +kernel
theorem dX12_comeOf_48 : decode cX12_comeOf 48 = .ok (.iaload, 1) := by decide +kernel
theorem dX12_comeOf_49 : decode cX12_comeOf 49 = .ok (.iload_n 3, 1) := by decide +kernel
theorem dX12_comeOf_50 : decode cX12_comeOf 50 = .ok (.sipush 199, 3) := by decide +kernel
theorem dX12_comeOf_53 : decode cX12_comeOf 53 = .ok (.if_icmp .ge 7, 3) := by decide +kernel
theorem dX12_comeOf_56 : decode cX12_comeOf 56 = .ok (.iload_n 3, 1) := by decide +kernel
theorem dX12_comeOf_57 : decode cX12_comeOf 57 = .ok (.goto 6, 3) := by decide +kernel
theorem dX12_comeOf_60 : decode cX12_comeOf 60 = .ok (.sipush 199, 3) := by decide +kernel
theorem dX12_comeOf_63 : decode cX12_comeOf 63 = .ok (.invokevirtual 187, 3) := by decide +kernel
theorem dX12_comeOf_66 : decode cX12_comeOf 66 = .ok (.istore 6, 2) := by decide +kernel
theorem dX12_comeOf_68 : decode cX12_comeOf 68 = .ok (.iload_n 2, 1) := by decide +kernel
theorem dX12_comeOf_69 : decode cX12_comeOf 69 = .ok (.iload 6, 2) := by decide +kernel
theorem dX12_comeOf_71 : decode cX12_comeOf 71 = .ok (.ifCond .le 27, 3) := by decide +kernel
theorem dX12_comeOf_74 : decode cX12_comeOf 74 = .ok (.bipush 6, 2) := by decide +kernel
theorem dX12_comeOf_76 : decode cX12_comeOf 76 = .ok (.iload 6, 2) := by decide +kernel
theorem dX12_comeOf_78 : decode cX12_comeOf 78 = .ok (.imul, 1) := by decide +kernel
theorem dX12_comeOf_79 : decode cX12_comeOf 79 = .ok (.aload_n 0, 1) := by decide +kernel
theorem dX12_comeOf_80 : decode cX12_comeOf 80 = .ok (.getfield 67, 3) := by decide +kernel
theorem dX12_comeOf_83 : decode cX12_comeOf 83 = .ok (.iload_n 1, 1) := by decide +kernel
theorem dX12_comeOf_84 : decode cX12_comeOf 84 = .ok (.iaload, 1) := by decide +kernel
theorem dX12_comeOf_85 : decode cX12_comeOf 85 = .ok (.iconst 2, 1) := by decide +kernel
theorem dX12_comeOf_86 : decode cX12_comeOf 86 = .ok (.if_icmp .ne 7, 3) := by decide +kernel
theorem dX12_comeOf_89 : decode cX12_comeOf 89 = .ok (.iconst 5, 1) := by decide +kernel
theorem dX12_comeOf_90 : decode cX12_comeOf 90 = .ok (.goto 4, 3) := by decide +kernel
theorem dX12_comeOf_93 : decode cX12_comeOf 93 = .ok (.iconst 3, 1) := by decide +kernel
theorem dX12_comeOf_94 : decode cX12_comeOf 94 = .ok (.imul, 1) := by decide +kernel
theorem dX12_comeOf_95 : decode cX12_comeOf 95 = .ok (.goto 4, 3) := by decide +kernel
theorem dX12_comeOf_98 : decode cX12_comeOf 98 = .ok (.iconst 0, 1) := by decide +kernel
theorem dX12_comeOf_99 : decode cX12_comeOf 99 = .ok (.isub, 1) := by decide +kernel
theorem dX12_comeOf_100 : decode cX12_comeOf 100 = .ok (.istore_n 2, 1) := by decide +kernel
theorem dX12_comeOf_101 : decode cX12_comeOf 101 = .ok (.iload_n 2, 1) := by decide +kernel
theorem dX12_comeOf_102 : decode cX12_comeOf 102 = .ok (.aload_n 0, 1) := by decide +kernel
theorem dX12_comeOf_103 : decode cX12_comeOf 103 = .ok (.getfield 24, 3) := by decide +kernel
theorem dX12_comeOf_106 : decode cX12_comeOf 106 = .ok (.if_icmp .ge 7, 3) := by decide +kernel
theorem dX12_comeOf_109 : decode cX12_comeOf 109 = .ok (.iconst 0, 1) := by decide +kernel
theorem dX12_comeOf_110 : decode cX12_comeOf 110 = .ok (.goto 4, 3) := by decide +kernel
theorem dX12_comeOf_113 : decode cX12_comeOf 113 = .ok (.iload_n 2, 1) := by decide +kernel
theorem dX12_comeOf_114 : decode cX12_comeOf 114 = .ok (.istore_n 2, 1) := by decide +kernel
theorem dX12_comeOf_115 : decode cX12_comeOf 115 = .ok (.iinc 3 1, 3) := by decide +kernel
theorem dX12_comeOf_118 : decode cX12_comeOf 118 = .ok (.iinc 5 1, 3) := by decide +kernel
theorem dX12_comeOf_121 : decode cX12_comeOf 121 = .ok (.goto (-92), 3) := by decide +kernel
theorem dX12_comeOf_124 : decode cX12_comeOf 124 = .ok (.iinc 4 1, 3) := by decide +kernel
theorem dX12_comeOf_127 : decode cX12_comeOf 127 = .ok (.goto (-110), 3) := by decide +kernel
theorem dX12_comeOf_130 : decode cX12_comeOf 130 = .ok (.iload_n 2, 1) := by decide +kernel
theorem dX12_comeOf_131 : decode cX12_comeOf 131 = .ok (.ireturn, 1) := by decide +kernel
theorem dX12_remembers_0 : decode cX12_remembers 0 = .ok (.iconst 0, 1) := by decide +kernel
theorem dX12_remembers_1 : decode cX12_remembers 1 = .ok (.istore_n 1, 1) := by decide +kernel
theorem dX12_remembers_2 : decode cX12_remembers 2 = .ok (.iload_n 1, 1) := by decide +kernel
theorem dX12_remembers_3 : decode cX12_remembers 3 = .ok (.aload_n 0, 1) := by decide +kernel
theorem dX12_remembers_4 : decode cX12_remembers 4 = .ok (.getfield 34, 3) := by decide +kernel
theorem dX12_remembers_7 : decode cX12_remembers 7 = .ok (.iconst 0, 1) := by decide +kernel
theorem dX12_remembers_8 : decode cX12_remembers 8 = .ok (.iaload, 1) := by decide +kernel
theorem dX12_remembers_9 : decode cX12_remembers 9 = .ok (.if_icmp .ge 33, 3) := by decide +kernel
theorem dX12_remembers_12 : decode cX12_remembers 12 = .ok (.aload_n 0, 1) := by decide +kernel
theorem dX12_remembers_13 : decode cX12_remembers 13 = .ok (.getfield 112, 3) := by decide +kernel
theorem dX12_remembers_16 : decode cX12_remembers 16 = .ok (.iload_n 1, 1) := by decide +kernel
theorem dX12_remembers_17 : decode cX12_remembers 17 = .ok (.aload_n 0, 1) := by decide +kernel
theorem dX12_remembers_18 : decode cX12_remembers 18 = .ok (.getfield 73, 3) := by decide +kernel
theorem dX12_remembers_21 : decode cX12_remembers 21 = .ok (.iload_n 1, 1) := by decide +kernel
theorem dX12_remembers_22 : decode cX12_remembers 22 = .ok (.iaload, 1) := by decide +kernel
theorem dX12_remembers_23 : decode cX12_remembers 23 = .ok (.iastore, 1) := by decide +kernel
theorem dX12_remembers_24 : decode cX12_remembers 24 = .ok (.aload_n 0, 1) := by decide +kernel
theorem dX12_remembers_25 : decode cX12_remembers 25 = .ok (.getfield 115, 3) := by decide +kernel
theorem dX12_remembers_28 : decode cX12_remembers 28 = .ok (.iload_n 1, 1) := by decide +kernel
theorem dX12_remembers_29 : decode cX12_remembers 29 = .ok (.aload_n 0, 1) := by decide +kernel
theorem dX12_remembers_30 : decode cX12_remembers 30 = .ok (.getfield 76, 3) := by decide +kernel
theorem dX12_remembers_33 : decode cX12_remembers 33 = .ok (.iload_n 1, 1) := by decide +kernel
theorem dX12_remembers_34 : decode cX12_remembers 34 = .ok (.iaload, 1) := by decide +kernel
theorem dX12_remembers_35 : decode cX12_remembers 35 = .ok (.iastore, 1) := by decide +kernel
theorem dX12_remembers_36 : decode cX12_remembers 36 = .ok (.iinc 1 1, 3) := by decide +kernel
theorem dX12_remembers_39 : decode cX12_remembers 39 = .ok (.goto (-37), 3) := by decide +kernel
theorem dX12_remembers_42 : decode cX12_remembers 42 = .ok (.return_, 1) := by decide +kernel
theorem dX12_brings_0 : decode cX12_brings 0 = .ok (.iconst 0, 1) := by decide +kernel
theorem dX12_brings_1 : decode cX12_brings 1 = .ok (.istore_n 1, 1) := by decide +kernel
theorem dX12_brings_2 : decode cX12_brings 2 = .ok (.iload_n 1, 1) := by decide +kernel
theorem dX12_brings_3 : decode cX12_brings 3 = .ok (.aload_n 0, 1) := by decide +kernel
theorem dX12_brings_4 : decode cX12_brings 4 = .ok (.getfield 34, 3) := by decide +kernel
theorem dX12_brings_7 : decode cX12_brings 7 = .ok (.iconst 0, 1) := by decide +kernel
theorem dX12_brings_8 : decode cX12_brings 8 = .ok (.iaload, 1) := by decide +kernel
theorem dX12_brings_9 : decode cX12_brings 9 = .ok (.if_icmp .ge 77, 3) := by decide +kernel
theorem dX12_brings_12 : decode cX12_brings 12 = .ok (.aload_n 0, 1) := by decide +kernel
theorem dX12_brings_13 : decode cX12_brings 13 = .ok (.getfield 112, 3) := by decide +kernel
theorem dX12_brings_16 : decode cX12_brings 16 = .ok (.iload_n 1, 1) := by decide +kernel
theorem dX12_brings_17 : decode cX12_brings 17 = .ok (.iaload, 1) := by decide +kernel
theorem dX12_brings_18 : decode cX12_brings 18 = .ok (.aload_n 0, 1) := by decide +kernel
theorem dX12_brings_19 : decode cX12_brings 19 = .ok (.getfield 73, 3) := by decide +kernel
theorem dX12_brings_22 : decode cX12_brings 22 = .ok (.iload_n 1, 1) := by decide +kernel
theorem dX12_brings_23 : decode cX12_brings 23 = .ok (.iaload, 1) := by decide +kernel
theorem dX12_brings_24 : decode cX12_brings 24 = .ok (.if_icmp .ne 6, 3) := by decide +kernel
theorem dX12_brings_27 : decode cX12_brings 27 = .ok (.goto 53, 3) := by decide +kernel
theorem dX12_brings_30 : decode cX12_brings 30 = .ok (.aload_n 0, 1) := by decide +kernel
theorem dX12_brings_31 : decode cX12_brings 31 = .ok (.getfield 73, 3) := by decide +kernel
theorem dX12_brings_34 : decode cX12_brings 34 = .ok (.iload_n 1, 1) := by decide +kernel
theorem dX12_brings_35 : decode cX12_brings 35 = .ok (.aload_n 0, 1) := by decide +kernel
theorem dX12_brings_36 : decode cX12_brings 36 = .ok (.getfield 112, 3) := by decide +kernel
theorem dX12_brings_39 : decode cX12_brings 39 = .ok (.iload_n 1, 1) := by decide +kernel
theorem dX12_brings_40 : decode cX12_brings 40 = .ok (.iaload, 1) := by decide +kernel
theorem dX12_brings_41 : decode cX12_brings 41 = .ok (.iastore, 1) := by decide +kernel
theorem dX12_brings_42 : decode cX12_brings 42 = .ok (.aload_n 0, 1) := by decide +kernel
theorem dX12_brings_43 : decode cX12_brings 43 = .ok (.getfield 76, 3) := by decide +kernel
theorem dX12_brings_46 : decode cX12_brings 46 = .ok (.iload_n 1, 1) := by decide +kernel
theorem dX12_brings_47 : decode cX12_brings 47 = .ok (.aload_n 0, 1) := by decide +kernel
theorem dX12_brings_48 : decode cX12_brings 48 = .ok (.getfield 115, 3) := by decide +kernel
theorem dX12_brings_51 : decode cX12_brings 51 = .ok (.iload_n 1, 1) := by decide +kernel
theorem dX12_brings_52 : decode cX12_brings 52 = .ok (.iaload, 1) := by decide +kernel
theorem dX12_brings_53 : decode cX12_brings 53 = .ok (.iastore, 1) := by decide +kernel
theorem dX12_brings_54 : decode cX12_brings 54 = .ok (.aload_n 0, 1) := by decide +kernel
theorem dX12_brings_55 : decode cX12_brings 55 = .ok (.getfield 64, 3) := by decide +kernel
theorem dX12_brings_58 : decode cX12_brings 58 = .ok (.sipush 180, 3) := by decide +kernel
theorem dX12_brings_61 : decode cX12_brings 61 = .ok (.aload_n 0, 1) := by decide +kernel
theorem dX12_brings_62 : decode cX12_brings 62 = .ok (.getfield 73, 3) := by decide +kernel
theorem dX12_brings_65 : decode cX12_brings 65 = .ok (.iload_n 1, 1) := by decide +kernel
theorem dX12_brings_66 : decode cX12_brings 66 = .ok (.iaload, 1) := by decide +kernel
theorem dX12_brings_67 : decode cX12_brings 67 = .ok (.imul, 1) := by decide +kernel
theorem dX12_brings_68 : decode cX12_brings 68 = .ok (.aload_n 0, 1) := by decide +kernel
theorem dX12_brings_69 : decode cX12_brings 69 = .ok (.getfield 76, 3) := by decide +kernel
theorem dX12_brings_72 : decode cX12_brings 72 = .ok (.iload_n 1, 1) := by decide +kernel
theorem dX12_brings_73 : decode cX12_brings 73 = .ok (.iaload, 1) := by decide +kernel
theorem dX12_brings_74 : decode cX12_brings 74 = .ok (.iadd, 1) := by decide +kernel
theorem dX12_brings_75 : decode cX12_brings 75 = .ok (.bipush 10, 2) := by decide +kernel
theorem dX12_brings_77 : decode cX12_brings 77 = .ok (.iload_n 1, 1) := by decide +kernel
theorem dX12_brings_78 : decode cX12_brings 78 = .ok (.iadd, 1) := by decide +kernel
theorem dX12_brings_79 : decode cX12_brings 79 = .ok (.iastore, 1) := by decide +kernel
theorem dX12_brings_80 : decode cX12_brings 80 = .ok (.iinc 1 1, 3) := by decide +kernel
theorem dX12_brings_83 : decode cX12_brings 83 = .ok (.goto (-81), 3) := by decide +kernel
theorem dX12_brings_86 : decode cX12_brings 86 = .ok (.return_, 1) := by decide +kernel
theorem dX12_comes_0 : decode cX12_comes 0 = .ok (.iload_n 2, 1) := by decide +kernel
theorem dX12_comes_1 : decode cX12_comes 1 = .ok (.iconst 0, 1) := by decide +kernel
theorem dX12_comes_2 : decode cX12_comes 2 = .ok (.sipush 300, 3) := by decide +kernel
theorem dX12_comes_5 : decode cX12_comes 5 = .ok (.invokestatic 145, 3) := by decide +kernel
theorem dX12_comes_8 : decode cX12_comes 8 = .ok (.ifCond .ne 5, 3) := by decide +kernel
theorem dX12_comes_11 : decode cX12_comes 11 = .ok (.iconst (-1), 1) := by decide +kernel
theorem dX12_comes_12 : decode cX12_comes 12 = .ok (.ireturn, 1) := by decide +kernel
theorem dX12_comes_13 : decode cX12_comes 13 = .ok (.aload_n 0, 1) := by decide +kernel
theorem dX12_comes_14 : decode cX12_comes 14 = .ok (.iload_n 1, 1) := by decide +kernel
theorem dX12_comes_15 : decode cX12_comes 15 = .ok (.invokevirtual 180, 3) := by decide +kernel
theorem dX12_comes_18 : decode cX12_comes 18 = .ok (.ifCond .ne 6, 3) := by decide +kernel
theorem dX12_comes_21 : decode cX12_comes 21 = .ok (.bipush (-2), 2) := by decide +kernel
theorem dX12_comes_23 : decode cX12_comes 23 = .ok (.ireturn, 1) := by decide +kernel
theorem dX12_comes_24 : decode cX12_comes 24 = .ok (.aload_n 0, 1) := by decide +kernel
theorem dX12_comes_25 : decode cX12_comes 25 = .ok (.iload_n 1, 1) := by decide +kernel
theorem dX12_comes_26 : decode cX12_comes 26 = .ok (.iconst (-1), 1) := by decide +kernel
theorem dX12_comes_27 : decode cX12_comes 27 = .ok (.invokevirtual 184, 3) := by decide +kernel
theorem dX12_comes_30 : decode cX12_comes 30 = .ok (.iload_n 2, 1) := by decide +kernel
theorem dX12_comes_31 : decode cX12_comes 31 = .ok (.if_icmp .ge 6, 3) := by decide +kernel
theorem dX12_comes_34 : decode cX12_comes 34 = .ok (.bipush (-6), 2) := by decide +kernel
theorem dX12_comes_36 : decode cX12_comes 36 = .ok (.ireturn, 1) := by decide +kernel
theorem dX12_comes_37 : decode cX12_comes 37 = .ok (.aload_n 0, 1) := by decide +kernel
theorem dX12_comes_38 : decode cX12_comes 38 = .ok (.invokevirtual 262, 3) := by decide +kernel
theorem dX12_comes_41 : decode cX12_comes 41 = .ok (.iconst 0, 1) := by decide +kernel
theorem dX12_comes_42 : decode cX12_comes 42 = .ok (.istore_n 3, 1) := by decide +kernel
theorem dX12_comes_43 : decode cX12_comes 43 = .ok (.iconst 0, 1) := by decide +kernel
theorem dX12_comes_44 : decode cX12_comes 44 = .ok (.istore 4, 2) := by decide +kernel
theorem dX12_comes_46 : decode cX12_comes 46 = .ok (.iload 4, 2) := by decide +kernel
theorem dX12_comes_48 : decode cX12_comes 48 = .ok (.iload_n 2, 1) := by decide +kernel
theorem dX12_comes_49 : decode cX12_comes 49 = .ok (.if_icmp .ge 31, 3) := by decide +kernel
theorem dX12_comes_52 : decode cX12_comes 52 = .ok (.aload_n 0, 1) := by decide +kernel
theorem dX12_comes_53 : decode cX12_comes 53 = .ok (.iload_n 1, 1) := by decide +kernel
theorem dX12_comes_54 : decode cX12_comes 54 = .ok (.invokevirtual 253, 3) := by decide +kernel
theorem dX12_comes_57 : decode cX12_comes 57 = .ok (.istore 5, 2) := by decide +kernel
theorem dX12_comes_59 : decode cX12_comes 59 = .ok (.iload_n 3, 1) := by decide +kernel
theorem dX12_comes_60 : decode cX12_comes 60 = .ok (.aload_n 0, 1) := by decide +kernel
theorem dX12_comes_61 : decode cX12_comes 61 = .ok (.iload 5, 2) := by decide +kernel
theorem dX12_comes_63 : decode cX12_comes 63 = .ok (.invokevirtual 265, 3) := by decide +kernel
theorem dX12_comes_66 : decode cX12_comes 66 = .ok (.iadd, 1) := by decide +kernel
theorem dX12_comes_67 : decode cX12_comes 67 = .ok (.istore_n 3, 1) := by decide +kernel
theorem dX12_comes_68 : decode cX12_comes 68 = .ok (.aload_n 0, 1) := by decide +kernel
theorem dX12_comes_69 : decode cX12_comes 69 = .ok (.iload 5, 2) := by decide +kernel
theorem dX12_comes_71 : decode cX12_comes 71 = .ok (.invokevirtual 241, 3) := by decide +kernel
theorem dX12_comes_74 : decode cX12_comes 74 = .ok (.iinc 4 1, 3) := by decide +kernel
theorem dX12_comes_77 : decode cX12_comes 77 = .ok (.goto (-31), 3) := by decide +kernel
theorem dX12_comes_80 : decode cX12_comes 80 = .ok (.aload_n 0, 1) := by decide +kernel
theorem dX12_comes_81 : decode cX12_comes 81 = .ok (.invokevirtual 268, 3) := by decide +kernel
theorem dX12_comes_84 : decode cX12_comes 84 = .ok (.iload_n 3, 1) := by decide +kernel
theorem dX12_comes_85 : decode cX12_comes 85 = .ok (.ireturn, 1) := by decide +kernel
theorem dX12_send_0 : decode cX12_send 0 = .ok (.iload_n 2, 1) := by decide +kernel
theorem dX12_send_1 : decode cX12_send 1 = .ok (.iconst 1, 1) := by decide +kernel
theorem dX12_send_2 : decode cX12_send 2 = .ok (.ldc_w 271, 3) := by decide +kernel
theorem dX12_send_5 : decode cX12_send 5 = .ok (.invokestatic 145, 3) := by decide +kernel
theorem dX12_send_8 : decode cX12_send 8 = .ok (.ifCond .ne 9, 3) := by decide +kernel
theorem dX12_send_11 : decode cX12_send 11 = .ok (.aload_n 0, 1) := by decide +kernel
theorem dX12_send_12 : decode cX12_send 12 = .ok (.iconst (-1), 1) := by decide +kernel
theorem dX12_send_13 : decode cX12_send 13 = .ok (.invokevirtual 151, 3) := by decide +kernel
theorem dX12_send_16 : decode cX12_send 16 = .ok (.ireturn, 1) := by decide +kernel
theorem dX12_send_17 : decode cX12_send 17 = .ok (.aload_n 0, 1) := by decide +kernel
theorem dX12_send_18 : decode cX12_send 18 = .ok (.iload_n 1, 1) := by decide +kernel
theorem dX12_send_19 : decode cX12_send 19 = .ok (.invokevirtual 180, 3) := by decide +kernel
theorem dX12_send_22 : decode cX12_send 22 = .ok (.ifCond .ne 10, 3) := by decide +kernel
theorem dX12_send_25 : decode cX12_send 25 = .ok (.aload_n 0, 1) := by decide +kernel
theorem dX12_send_26 : decode cX12_send 26 = .ok (.bipush (-2), 2) := by decide +kernel
theorem dX12_send_28 : decode cX12_send 28 = .ok (.invokevirtual 151, 3) := by decide +kernel
theorem dX12_send_31 : decode cX12_send 31 = .ok (.ireturn, 1) := by decide +kernel
theorem dX12_send_32 : decode cX12_send 32 = .ok (.aload_n 0, 1) := by decide +kernel
theorem dX12_send_33 : decode cX12_send 33 = .ok (.invokevirtual 262, 3) := by decide +kernel
theorem dX12_send_36 : decode cX12_send 36 = .ok (.iconst 0, 1) := by decide +kernel
theorem dX12_send_37 : decode cX12_send 37 = .ok (.istore_n 3, 1) := by decide +kernel
theorem dX12_send_38 : decode cX12_send 38 = .ok (.iconst 0, 1) := by decide +kernel
theorem dX12_send_39 : decode cX12_send 39 = .ok (.istore 4, 2) := by decide +kernel
theorem dX12_send_41 : decode cX12_send 41 = .ok (.lconst 0, 1) := by decide +kernel
theorem dX12_send_42 : decode cX12_send 42 = .ok (.lstore 5, 2) := by decide +kernel
theorem dX12_send_44 : decode cX12_send 44 = .ok (.iconst 0, 1) := by decide +kernel
theorem dX12_send_45 : decode cX12_send 45 = .ok (.istore 7, 2) := by decide +kernel
theorem dX12_send_47 : decode cX12_send 47 = .ok (.aload_n 0, 1) := by decide +kernel
theorem dX12_send_48 : decode cX12_send 48 = .ok (.iload_n 1, 1) := by decide +kernel
theorem dX12_send_49 : decode cX12_send 49 = .ok (.invokevirtual 253, 3) := by decide +kernel
theorem dX12_send_52 : decode cX12_send 52 = .ok (.istore 8, 2) := by decide +kernel
theorem dX12_send_54 : decode cX12_send 54 = .ok (.iload 8, 2) := by decide +kernel
theorem dX12_send_56 : decode cX12_send 56 = .ok (.iconst (-1), 1) := by decide +kernel
theorem dX12_send_57 : decode cX12_send 57 = .ok (.if_icmp .eq 118, 3) := by decide +kernel
theorem dX12_send_60 : decode cX12_send 60 = .ok (.iload_n 3, 1) := by decide +kernel
theorem dX12_send_61 : decode cX12_send 61 = .ok (.iload_n 2, 1) := by decide +kernel
theorem dX12_send_62 : decode cX12_send 62 = .ok (.if_icmp .ge 113, 3) := by decide +kernel
theorem dX12_send_65 : decode cX12_send 65 = .ok (.iload_n 3, 1) := by decide +kernel
theorem dX12_send_66 : decode cX12_send 66 = .ok (.aload_n 0, 1) := by decide +kernel
theorem dX12_send_67 : decode cX12_send 67 = .ok (.iload 8, 2) := by decide +kernel
theorem dX12_send_69 : decode cX12_send 69 = .ok (.invokevirtual 265, 3) := by decide +kernel
theorem dX12_send_72 : decode cX12_send 72 = .ok (.iadd, 1) := by decide +kernel
theorem dX12_send_73 : decode cX12_send 73 = .ok (.istore_n 3, 1) := by decide +kernel
theorem dX12_send_74 : decode cX12_send 74 = .ok (.iload 7, 2) := by decide +kernel
theorem dX12_send_76 : decode cX12_send 76 = .ok (.aload_n 0, 1) := by decide +kernel
theorem dX12_send_77 : decode cX12_send 77 = .ok (.getfield 70, 3) := by decide +kernel
theorem dX12_send_80 : decode cX12_send 80 = .ok (.iload 8, 2) := by decide +kernel
theorem dX12_send_82 : decode cX12_send 82 = .ok (.iaload, 1) := by decide +kernel
theorem dX12_send_83 : decode cX12_send 83 = .ok (.iadd, 1) := by decide +kernel
theorem dX12_send_84 : decode cX12_send 84 = .ok (.istore 7, 2) := by decide +kernel
theorem dX12_send_86 : decode cX12_send 86 = .ok (.aload_n 0, 1) := by decide +kernel
theorem dX12_send_87 : decode cX12_send 87 = .ok (.getfield 67, 3) := by decide +kernel
theorem dX12_send_90 : decode cX12_send 90 = .ok (.iload 8, 2) := by decide +kernel
theorem dX12_send_92 : decode cX12_send 92 = .ok (.iaload, 1) := by decide +kernel
theorem dX12_send_93 : decode cX12_send 93 = .ok (.iconst 1, 1) := by decide +kernel
theorem dX12_send_94 : decode cX12_send 94 = .ok (.if_icmp .ne 18, 3) := by decide +kernel
theorem dX12_send_97 : decode cX12_send 97 = .ok (.aload_n 0, 1) := by decide +kernel
theorem dX12_send_98 : decode cX12_send 98 = .ok (.getfield 82, 3) := by decide +kernel
theorem dX12_send_101 : decode cX12_send 101 = .ok (.iload 8, 2) := by decide +kernel
theorem dX12_send_103 : decode cX12_send 103 = .ok (.iaload, 1) := by decide +kernel
theorem dX12_send_104 : decode cX12_send 104 = .ok (.iconst (-1), 1) := by decide +kernel
theorem dX12_send_105 : decode cX12_send 105 = .ok (.if_icmp .eq 7, 3) := by decide +kernel
theorem dX12_send_108 : decode cX12_send 108 = .ok (.iconst 0, 1) := by decide +kernel
theorem dX12_send_109 : decode cX12_send 109 = .ok (.goto 10, 3) := by decide +kernel
theorem dX12_send_112 : decode cX12_send 112 = .ok (.aload_n 0, 1) := by decide +kernel
theorem dX12_send_113 : decode cX12_send 113 = .ok (.getfield 67, 3) := by decide +kernel
theorem dX12_send_116 : decode cX12_send 116 = .ok (.iload 8, 2) := by decide +kernel
theorem dX12_send_118 : decode cX12_send 118 = .ok (.iaload, 1) := by decide +kernel
theorem dX12_send_119 : decode cX12_send 119 = .ok (.istore 9, 2) := by decide +kernel
theorem dX12_send_121 : decode cX12_send 121 = .ok (.lload 5, 2) := by decide +kernel
theorem dX12_send_123 : decode cX12_send 123 = .ok (.aload_n 0, 1) := by decide +kernel
theorem dX12_send_124 : decode cX12_send 124 = .ok (.getfield 70, 3) := by decide +kernel
theorem dX12_send_127 : decode cX12_send 127 = .ok (.iload 8, 2) := by decide +kernel
theorem dX12_send_129 : decode cX12_send 129 = .ok (.iaload, 1) := by decide +kernel
theorem dX12_send_130 : decode cX12_send 130 = .ok (.i2l, 1) := by decide +kernel
theorem dX12_send_131 : decode cX12_send 131 = .ok (.aload_n 0, 1) := by decide +kernel
theorem dX12_send_132 : decode cX12_send 132 = .ok (.getfield 109, 3) := by decide +kernel
theorem dX12_send_135 : decode cX12_send 135 = .ok (.iload 9, 2) := by decide +kernel
theorem dX12_send_137 : decode cX12_send 137 = .ok (.iaload, 1) := by decide +kernel
theorem dX12_send_138 : decode cX12_send 138 = .ok (.i2l, 1) := by decide +kernel
theorem dX12_send_139 : decode cX12_send 139 = .ok (.lmul, 1) := by decide +kernel
theorem dX12_send_140 : decode cX12_send 140 = .ok (.ldc2_w 272, 3) := by decide +kernel
theorem dX12_send_143 : decode cX12_send 143 = .ok (.ldiv, 1) := by decide +kernel
theorem dX12_send_144 : decode cX12_send 144 = .ok (.ladd, 1) := by decide +kernel
theorem dX12_send_145 : decode cX12_send 145 = .ok (.lstore 5, 2) := by decide +kernel
theorem dX12_send_147 : decode cX12_send 147 = .ok (.aload_n 0, 1) := by decide +kernel
theorem dX12_send_148 : decode cX12_send 148 = .ok (.getfield 118, 3) := by decide +kernel
theorem dX12_send_151 : decode cX12_send 151 = .ok (.iload 4, 2) := by decide +kernel
theorem dX12_send_153 : decode cX12_send 153 = .ok (.iload 8, 2) := by decide +kernel
theorem dX12_send_155 : decode cX12_send 155 = .ok (.iastore, 1) := by decide +kernel
theorem dX12_send_156 : decode cX12_send 156 = .ok (.iinc 4 1, 3) := by decide +kernel
theorem dX12_send_159 : decode cX12_send 159 = .ok (.aload_n 0, 1) := by decide +kernel
theorem dX12_send_160 : decode cX12_send 160 = .ok (.iload 8, 2) := by decide +kernel
theorem dX12_send_162 : decode cX12_send 162 = .ok (.invokevirtual 241, 3) := by decide +kernel
theorem dX12_send_165 : decode cX12_send 165 = .ok (.aload_n 0, 1) := by decide +kernel
theorem dX12_send_166 : decode cX12_send 166 = .ok (.iload_n 1, 1) := by decide +kernel
theorem dX12_send_167 : decode cX12_send 167 = .ok (.invokevirtual 253, 3) := by decide +kernel
theorem dX12_send_170 : decode cX12_send 170 = .ok (.istore 8, 2) := by decide +kernel
theorem dX12_send_172 : decode cX12_send 172 = .ok (.goto (-118), 3) := by decide +kernel
theorem dX12_send_175 : decode cX12_send 175 = .ok (.aload_n 0, 1) := by decide +kernel
theorem dX12_send_176 : decode cX12_send 176 = .ok (.iload_n 3, 1) := by decide +kernel
theorem dX12_send_177 : decode cX12_send 177 = .ok (.iload_n 2, 1) := by decide +kernel
theorem dX12_send_178 : decode cX12_send 178 = .ok (.if_icmp .ge 9, 3) := by decide +kernel
theorem dX12_send_181 : decode cX12_send 181 = .ok (.iload_n 2, 1) := by decide +kernel
theorem dX12_send_182 : decode cX12_send 182 = .ok (.iload_n 3, 1) := by decide +kernel
theorem dX12_send_183 : decode cX12_send 183 = .ok (.isub, 1) := by decide +kernel
theorem dX12_send_184 : decode cX12_send 184 = .ok (.goto 4, 3) := by decide +kernel
theorem dX12_send_187 : decode cX12_send 187 = .ok (.iconst 0, 1) := by decide +kernel
theorem dX12_send_188 : decode cX12_send 188 = .ok (.putfield 274, 3) := by decide +kernel
theorem dX12_send_191 : decode cX12_send 191 = .ok (.aload_n 0, 1) := by decide +kernel
theorem dX12_send_192 : decode cX12_send 192 = .ok (.aload_n 0, 1) := by decide +kernel
theorem dX12_send_193 : decode cX12_send 193 = .ok (.getfield 274, 3) := by decide +kernel
theorem dX12_send_196 : decode cX12_send 196 = .ok (.ifCond .le 7, 3) := by decide +kernel
theorem dX12_send_199 : decode cX12_send 199 = .ok (.iconst 0, 1) := by decide +kernel
theorem dX12_send_200 : decode cX12_send 200 = .ok (.goto 4, 3) := by decide +kernel
theorem dX12_send_203 : decode cX12_send 203 = .ok (.iload_n 3, 1) := by decide +kernel
theorem dX12_send_204 : decode cX12_send 204 = .ok (.putfield 277, 3) := by decide +kernel
theorem dX12_send_207 : decode cX12_send 207 = .ok (.aload_n 0, 1) := by decide +kernel
theorem dX12_send_208 : decode cX12_send 208 = .ok (.aload_n 0, 1) := by decide +kernel
theorem dX12_send_209 : decode cX12_send 209 = .ok (.getfield 274, 3) := by decide +kernel
theorem dX12_send_212 : decode cX12_send 212 = .ok (.ifCond .le 7, 3) := by decide +kernel
theorem dX12_send_215 : decode cX12_send 215 = .ok (.iconst 0, 1) := by decide +kernel
theorem dX12_send_216 : decode cX12_send 216 = .ok (.goto 6, 3) := by decide +kernel
theorem dX12_send_219 : decode cX12_send 219 = .ok (.lload 5, 2) := by decide +kernel
theorem dX12_send_221 : decode cX12_send 221 = .ok (.l2i, 1) := by decide +kernel
theorem dX12_send_222 : decode cX12_send 222 = .ok (.putfield 280, 3) := by decide +kernel
theorem dX12_send_225 : decode cX12_send 225 = .ok (.aload_n 0, 1) := by decide +kernel
theorem dX12_send_226 : decode cX12_send 226 = .ok (.getfield 274, 3) := by decide +kernel
theorem dX12_send_229 : decode cX12_send 229 = .ok (.ifCond .le 14, 3) := by decide +kernel
theorem dX12_send_232 : decode cX12_send 232 = .ok (.aload_n 0, 1) := by decide +kernel
theorem dX12_send_233 : decode cX12_send 233 = .ok (.invokevirtual 268, 3) := by decide +kernel
theorem dX12_send_236 : decode cX12_send 236 = .ok (.aload_n 0, 1) := by decide +kernel
theorem dX12_send_237 : decode cX12_send 237 = .ok (.bipush (-6), 2) := by decide +kernel
theorem dX12_send_239 : decode cX12_send 239 = .ok (.invokevirtual 151, 3) := by decide +kernel
theorem dX12_send_242 : decode cX12_send 242 = .ok (.ireturn, 1) := by decide +kernel
theorem dX12_send_243 : decode cX12_send 243 = .ok (.iconst 0, 1) := by decide +kernel
theorem dX12_send_244 : decode cX12_send 244 = .ok (.istore 8, 2) := by decide +kernel
theorem dX12_send_246 : decode cX12_send 246 = .ok (.iload 8, 2) := by decide +kernel
theorem dX12_send_248 : decode cX12_send 248 = .ok (.iload 4, 2) := by decide +kernel
theorem dX12_send_250 : decode cX12_send 250 = .ok (.if_icmp .ge 23, 3) := by decide +kernel
