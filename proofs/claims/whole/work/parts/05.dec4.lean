theorem dX11_foretell_36 : decode cX11_foretell 36 = .ok (.new 9, 3) := by decide +kernel
theorem dX11_foretell_39 : decode cX11_foretell 39 = .ok (.dup, 1) := by decide +kernel
theorem dX11_foretell_40 : decode cX11_foretell 40 = .ok (.invokespecial 11, 3) := by decide +kernel
theorem dX11_foretell_43 : decode cX11_foretell 43 = .ok (.putfield 306, 3) := by decide +kernel
theorem dX11_foretell_46 : decode cX11_foretell 46 = .ok (.aload_n 0, 1) := by decide +kernel
theorem dX11_foretell_47 : decode cX11_foretell 47 = .ok (.getfield 309, 3) := by decide +kernel
theorem dX11_foretell_50 : decode cX11_foretell 50 = .ok (.ifnonnull 14, 3) := by decide +kernel
theorem dX11_foretell_53 : decode cX11_foretell 53 = .ok (.aload_n 0, 1) := by decide +kernel
theorem dX11_foretell_54 : decode cX11_foretell 54 = .ok (.new 313, 3) := by decide +kernel
theorem dX11_foretell_57 : decode cX11_foretell 57 = .ok (.dup, 1) := by decide +kernel
theorem dX11_foretell_58 : decode cX11_foretell 58 = .ok (.invokespecial 315, 3) := by decide +kernel
theorem dX11_foretell_61 : decode cX11_foretell 61 = .ok (.putfield 309, 3) := by decide +kernel
theorem dX11_foretell_64 : decode cX11_foretell 64 = .ok (.aload_n 0, 1) := by decide +kernel
theorem dX11_foretell_65 : decode cX11_foretell 65 = .ok (.getfield 306, 3) := by decide +kernel
theorem dX11_foretell_68 : decode cX11_foretell 68 = .ok (.aload_n 0, 1) := by decide +kernel
theorem dX11_foretell_69 : decode cX11_foretell 69 = .ok (.getfield 12, 3) := by decide +kernel
theorem dX11_foretell_72 : decode cX11_foretell 72 = .ok (.invokevirtual 316, 3) := by decide +kernel
theorem dX11_foretell_75 : decode cX11_foretell 75 = .ok (.aload_n 0, 1) := by decide +kernel
theorem dX11_foretell_76 : decode cX11_foretell 76 = .ok (.getfield 309, 3) := by decide +kernel
theorem dX11_foretell_79 : decode cX11_foretell 79 = .ok (.aload_n 0, 1) := by decide +kernel
theorem dX11_foretell_80 : decode cX11_foretell 80 = .ok (.getfield 306, 3) := by decide +kernel
theorem dX11_foretell_83 : decode cX11_foretell 83 = .ok (.invokevirtual 320, 3) := by decide +kernel
theorem dX11_foretell_86 : decode cX11_foretell 86 = .ok (.iconst 0, 1) := by decide +kernel
theorem dX11_foretell_87 : decode cX11_foretell 87 = .ok (.istore_n 3, 1) := by decide +kernel
theorem dX11_foretell_88 : decode cX11_foretell 88 = .ok (.iload_n 3, 1) := by decide +kernel
theorem dX11_foretell_89 : decode cX11_foretell 89 = .ok (.iload_n 1, 1) := by decide +kernel
theorem dX11_foretell_90 : decode cX11_foretell 90 = .ok (.if_icmp .ge 85, 3) := by decide +kernel
theorem dX11_foretell_93 : decode cX11_foretell 93 = .ok (.aload_n 0, 1) := by decide +kernel
theorem dX11_foretell_94 : decode cX11_foretell 94 = .ok (.getfield 306, 3) := by decide +kernel
theorem dX11_foretell_97 : decode cX11_foretell 97 = .ok (.getfield 210, 3) := by decide +kernel
theorem dX11_foretell_100 : decode cX11_foretell 100 = .ok (.sipush 199, 3) := by decide +kernel
theorem dX11_foretell_103 : decode cX11_foretell 103 = .ok (.if_icmp .ge 72, 3) := by decide +kernel
theorem dX11_foretell_106 : decode cX11_foretell 106 = .ok (.aload_n 0, 1) := by decide +kernel
theorem dX11_foretell_107 : decode cX11_foretell 107 = .ok (.getfield 306, 3) := by decide +kernel
theorem dX11_foretell_110 : decode cX11_foretell 110 = .ok (.getfield 210, 3) := by decide +kernel
theorem dX11_foretell_113 : decode cX11_foretell 113 = .ok (.iload_n 2, 1) := by decide +kernel
theorem dX11_foretell_114 : decode cX11_foretell 114 = .ok (.isub, 1) := by decide +kernel
theorem dX11_foretell_115 : decode cX11_foretell 115 = .ok (.istore 4, 2) := by decide +kernel
theorem dX11_foretell_117 : decode cX11_foretell 117 = .ok (.aload_n 0, 1) := by decide +kernel
theorem dX11_foretell_118 : decode cX11_foretell 118 = .ok (.getfield 26, 3) := by decide +kernel
theorem dX11_foretell_121 : decode cX11_foretell 121 = .ok (.aload_n 0, 1) := by decide +kernel
theorem dX11_foretell_122 : decode cX11_foretell 122 = .ok (.getfield 306, 3) := by decide +kernel
theorem dX11_foretell_125 : decode cX11_foretell 125 = .ok (.aload_n 0, 1) := by decide +kernel
theorem dX11_foretell_126 : decode cX11_foretell 126 = .ok (.getfield 19, 3) := by decide +kernel
theorem dX11_foretell_129 : decode cX11_foretell 129 = .ok (.iload 4, 2) := by decide +kernel
theorem dX11_foretell_131 : decode cX11_foretell 131 = .ok (.ifCond .ge 7, 3) := by decide +kernel
theorem dX11_foretell_134 : decode cX11_foretell 134 = .ok (.iconst 0, 1) := by decide +kernel
theorem dX11_foretell_135 : decode cX11_foretell 135 = .ok (.goto 5, 3) := by decide +kernel
theorem dX11_foretell_138 : decode cX11_foretell 138 = .ok (.iload 4, 2) := by decide +kernel
theorem dX11_foretell_140 : decode cX11_foretell 140 = .ok (.invokevirtual 197, 3) := by decide +kernel
theorem dX11_foretell_143 : decode cX11_foretell 143 = .ok (.invokevirtual 220, 3) := by decide +kernel
theorem dX11_foretell_146 : decode cX11_foretell 146 = .ok (.aload_n 0, 1) := by decide +kernel
theorem dX11_foretell_147 : decode cX11_foretell 147 = .ok (.getfield 26, 3) := by decide +kernel
theorem dX11_foretell_150 : decode cX11_foretell 150 = .ok (.aload_n 0, 1) := by decide +kernel
theorem dX11_foretell_151 : decode cX11_foretell 151 = .ok (.getfield 306, 3) := by decide +kernel
theorem dX11_foretell_154 : decode cX11_foretell 154 = .ok (.invokevirtual 228, 3) := by decide +kernel
theorem dX11_foretell_157 : decode cX11_foretell 157 = .ok (.pop, 1) := by decide +kernel
theorem dX11_foretell_158 : decode cX11_foretell 158 = .ok (.aload_n 0, 1) := by decide +kernel
theorem dX11_foretell_159 : decode cX11_foretell 159 = .ok (.getfield 309, 3) := by decide +kernel
theorem dX11_foretell_162 : decode cX11_foretell 162 = .ok (.aload_n 0, 1) := by decide +kernel
theorem dX11_foretell_163 : decode cX11_foretell 163 = .ok (.getfield 306, 3) := by decide +kernel
theorem dX11_foretell_166 : decode cX11_foretell 166 = .ok (.invokevirtual 323, 3) := by decide +kernel
theorem dX11_foretell_169 : decode cX11_foretell 169 = .ok (.iinc 3 1, 3) := by decide +kernel
theorem dX11_foretell_172 : decode cX11_foretell 172 = .ok (.goto (-84), 3) := by decide +kernel
theorem dX11_foretell_175 : decode cX11_foretell 175 = .ok (.aload_n 0, 1) := by decide +kernel
theorem dX11_foretell_176 : decode cX11_foretell 176 = .ok (.aload_n 0, 1) := by decide +kernel
theorem dX11_foretell_177 : decode cX11_foretell 177 = .ok (.getfield 309, 3) := by decide +kernel
theorem dX11_foretell_180 : decode cX11_foretell 180 = .ok (.getfield 326, 3) := by decide +kernel
theorem dX11_foretell_183 : decode cX11_foretell 183 = .ok (.invokevirtual 72, 3) := by decide +kernel
theorem dX11_foretell_186 : decode cX11_foretell 186 = .ok (.ireturn, 1) := by decide +kernel
theorem dX11_foretold_0 : decode cX11_foretold 0 = .ok (.aload_n 0, 1) := by decide +kernel
theorem dX11_foretold_1 : decode cX11_foretold 1 = .ok (.getfield 309, 3) := by decide +kernel
theorem dX11_foretold_4 : decode cX11_foretold 4 = .ok (.ifnonnull 7, 3) := by decide +kernel
theorem dX11_foretold_7 : decode cX11_foretold 7 = .ok (.iconst (-1), 1) := by decide +kernel
theorem dX11_foretold_8 : decode cX11_foretold 8 = .ok (.goto 12, 3) := by decide +kernel
theorem dX11_foretold_11 : decode cX11_foretold 11 = .ok (.aload_n 0, 1) := by decide +kernel
theorem dX11_foretold_12 : decode cX11_foretold 12 = .ok (.getfield 309, 3) := by decide +kernel
theorem dX11_foretold_15 : decode cX11_foretold 15 = .ok (.iload_n 1, 1) := by decide +kernel
theorem dX11_foretold_16 : decode cX11_foretold 16 = .ok (.iload_n 2, 1) := by decide +kernel
theorem dX11_foretold_17 : decode cX11_foretold 17 = .ok (.invokevirtual 329, 3) := by decide +kernel
theorem dX11_foretold_20 : decode cX11_foretold 20 = .ok (.ireturn, 1) := by decide +kernel
theorem dX11_last_0 : decode cX11_last 0 = .ok (.aload_n 0, 1) := by decide +kernel
theorem dX11_last_1 : decode cX11_last 1 = .ok (.getfield 309, 3) := by decide +kernel
theorem dX11_last_4 : decode cX11_last 4 = .ok (.ifnonnull 7, 3) := by decide +kernel
theorem dX11_last_7 : decode cX11_last 7 = .ok (.iconst (-1), 1) := by decide +kernel
theorem dX11_last_8 : decode cX11_last 8 = .ok (.goto 10, 3) := by decide +kernel
theorem dX11_last_11 : decode cX11_last 11 = .ok (.aload_n 0, 1) := by decide +kernel
theorem dX11_last_12 : decode cX11_last 12 = .ok (.getfield 309, 3) := by decide +kernel
theorem dX11_last_15 : decode cX11_last 15 = .ok (.getfield 332, 3) := by decide +kernel
theorem dX11_last_18 : decode cX11_last 18 = .ok (.ireturn, 1) := by decide +kernel
theorem dX11_heap_0 : decode cX11_heap 0 = .ok (.iload_n 1, 1) := by decide +kernel
theorem dX11_heap_1 : decode cX11_heap 1 = .ok (.iload_n 2, 1) := by decide +kernel
theorem dX11_heap_2 : decode cX11_heap 2 = .ok (.invokestatic 140, 3) := by decide +kernel
theorem dX11_heap_5 : decode cX11_heap 5 = .ok (.ifCond .ne 9, 3) := by decide +kernel
theorem dX11_heap_8 : decode cX11_heap 8 = .ok (.aload_n 0, 1) := by decide +kernel
theorem dX11_heap_9 : decode cX11_heap 9 = .ok (.iconst (-1), 1) := by decide +kernel
theorem dX11_heap_10 : decode cX11_heap 10 = .ok (.invokevirtual 72, 3) := by decide +kernel
theorem dX11_heap_13 : decode cX11_heap 13 = .ok (.ireturn, 1) := by decide +kernel
theorem dX11_heap_14 : decode cX11_heap 14 = .ok (.aload_n 0, 1) := by decide +kernel
theorem dX11_heap_15 : decode cX11_heap 15 = .ok (.getfield 40, 3) := by decide +kernel
theorem dX11_heap_18 : decode cX11_heap 18 = .ok (.getfield 265, 3) := by decide +kernel
theorem dX11_heap_21 : decode cX11_heap 21 = .ok (.bipush 30, 2) := by decide +kernel
theorem dX11_heap_23 : decode cX11_heap 23 = .ok (.if_icmp .lt 10, 3) := by decide +kernel
theorem dX11_heap_26 : decode cX11_heap 26 = .ok (.aload_n 0, 1) := by decide +kernel
theorem dX11_heap_27 : decode cX11_heap 27 = .ok (.bipush (-6), 2) := by decide +kernel
theorem dX11_heap_29 : decode cX11_heap 29 = .ok (.invokevirtual 72, 3) := by decide +kernel
theorem dX11_heap_32 : decode cX11_heap 32 = .ok (.ireturn, 1) := by decide +kernel
theorem dX11_heap_33 : decode cX11_heap 33 = .ok (.aload_n 0, 1) := by decide +kernel
theorem dX11_heap_34 : decode cX11_heap 34 = .ok (.aload_n 0, 1) := by decide +kernel
theorem dX11_heap_35 : decode cX11_heap 35 = .ok (.getfield 40, 3) := by decide +kernel
theorem dX11_heap_38 : decode cX11_heap 38 = .ok (.iload_n 1, 1) := by decide +kernel
theorem dX11_heap_39 : decode cX11_heap 39 = .ok (.iload_n 2, 1) := by decide +kernel
theorem dX11_heap_40 : decode cX11_heap 40 = .ok (.invokevirtual 335, 3) := by decide +kernel
theorem dX11_heap_43 : decode cX11_heap 43 = .ok (.invokevirtual 72, 3) := by decide +kernel
theorem dX11_heap_46 : decode cX11_heap 46 = .ok (.ireturn, 1) := by decide +kernel
theorem dX11_pack_0 : decode cX11_pack 0 = .ok (.aload_n 0, 1) := by decide +kernel
theorem dX11_pack_1 : decode cX11_pack 1 = .ok (.getfield 12, 3) := by decide +kernel
theorem dX11_pack_4 : decode cX11_pack 4 = .ok (.getfield 58, 3) := by decide +kernel
theorem dX11_pack_7 : decode cX11_pack 7 = .ok (.iload_n 1, 1) := by decide +kernel
theorem dX11_pack_8 : decode cX11_pack 8 = .ok (.invokevirtual 62, 3) := by decide +kernel
theorem dX11_pack_11 : decode cX11_pack 11 = .ok (.ifCond .ne 10, 3) := by decide +kernel
theorem dX11_pack_14 : decode cX11_pack 14 = .ok (.aload_n 0, 1) := by decide +kernel
theorem dX11_pack_15 : decode cX11_pack 15 = .ok (.bipush (-2), 2) := by decide +kernel
theorem dX11_pack_17 : decode cX11_pack 17 = .ok (.invokevirtual 72, 3) := by decide +kernel
theorem dX11_pack_20 : decode cX11_pack 20 = .ok (.ireturn, 1) := by decide +kernel
theorem dX11_pack_21 : decode cX11_pack 21 = .ok (.aload_n 0, 1) := by decide +kernel
theorem dX11_pack_22 : decode cX11_pack 22 = .ok (.getfield 40, 3) := by decide +kernel
theorem dX11_pack_25 : decode cX11_pack 25 = .ok (.getfield 265, 3) := by decide +kernel
theorem dX11_pack_28 : decode cX11_pack 28 = .ok (.aload_n 0, 1) := by decide +kernel
theorem dX11_pack_29 : decode cX11_pack 29 = .ok (.getfield 12, 3) := by decide +kernel
theorem dX11_pack_32 : decode cX11_pack 32 = .ok (.getfield 58, 3) := by decide +kernel
theorem dX11_pack_35 : decode cX11_pack 35 = .ok (.getfield 338, 3) := by decide +kernel
theorem dX11_pack_38 : decode cX11_pack 38 = .ok (.iload_n 1, 1) := by decide +kernel
theorem dX11_pack_39 : decode cX11_pack 39 = .ok (.iaload, 1) := by decide +kernel
theorem dX11_pack_40 : decode cX11_pack 40 = .ok (.if_icmp .gt 27, 3) := by decide +kernel
theorem dX11_pack_43 : decode cX11_pack 43 = .ok (.aload_n 0, 1) := by decide +kernel
theorem dX11_pack_44 : decode cX11_pack 44 = .ok (.getfield 40, 3) := by decide +kernel
theorem dX11_pack_47 : decode cX11_pack 47 = .ok (.getfield 265, 3) := by decide +kernel
theorem dX11_pack_50 : decode cX11_pack 50 = .ok (.sipush 300, 3) := by decide +kernel
theorem dX11_pack_53 : decode cX11_pack 53 = .ok (.aload_n 0, 1) := by decide +kernel
theorem dX11_pack_54 : decode cX11_pack 54 = .ok (.getfield 12, 3) := by decide +kernel
theorem dX11_pack_57 : decode cX11_pack 57 = .ok (.getfield 147, 3) := by decide +kernel
theorem dX11_pack_60 : decode cX11_pack 60 = .ok (.getfield 151, 3) := by decide +kernel
theorem dX11_pack_63 : decode cX11_pack 63 = .ok (.isub, 1) := by decide +kernel
theorem dX11_pack_64 : decode cX11_pack 64 = .ok (.if_icmp .le 10, 3) := by decide +kernel
theorem dX11_pack_67 : decode cX11_pack 67 = .ok (.aload_n 0, 1) := by decide +kernel
theorem dX11_pack_68 : decode cX11_pack 68 = .ok (.bipush (-6), 2) := by decide +kernel
theorem dX11_pack_70 : decode cX11_pack 70 = .ok (.invokevirtual 72, 3) := by decide +kernel
theorem dX11_pack_73 : decode cX11_pack 73 = .ok (.ireturn, 1) := by decide +kernel
theorem dX11_pack_74 : decode cX11_pack 74 = .ok (.aload_n 0, 1) := by decide +kernel
theorem dX11_pack_75 : decode cX11_pack 75 = .ok (.getfield 40, 3) := by decide +kernel
theorem dX11_pack_78 : decode cX11_pack 78 = .ok (.getfield 265, 3) := by decide +kernel
theorem dX11_pack_81 : decode cX11_pack 81 = .ok (.ifCond .eq 31, 3) := by decide +kernel
theorem dX11_pack_84 : decode cX11_pack 84 = .ok (.aload_n 0, 1) := by decide +kernel
theorem dX11_pack_85 : decode cX11_pack 85 = .ok (.getfield 12, 3) := by decide +kernel
theorem dX11_pack_88 : decode cX11_pack 88 = .ok (.getfield 58, 3) := by decide +kernel
theorem dX11_pack_91 : decode cX11_pack 91 = .ok (.iload_n 1, 1) := by decide +kernel
theorem dX11_pack_92 : decode cX11_pack 92 = .ok (.invokevirtual 341, 3) := by decide +kernel
theorem dX11_pack_95 : decode cX11_pack 95 = .ok (.ifCond .eq 17, 3) := by decide +kernel
theorem dX11_pack_98 : decode cX11_pack 98 = .ok (.aload_n 0, 1) := by decide +kernel
theorem dX11_pack_99 : decode cX11_pack 99 = .ok (.getfield 12, 3) := by decide +kernel
theorem dX11_pack_102 : decode cX11_pack 102 = .ok (.getfield 58, 3) := by decide +kernel
theorem dX11_pack_105 : decode cX11_pack 105 = .ok (.iload_n 1, 1) := by decide +kernel
theorem dX11_pack_106 : decode cX11_pack 106 = .ok (.invokevirtual 344, 3) := by decide +kernel
theorem dX11_pack_109 : decode cX11_pack 109 = .ok (.ifCond .ne 10, 3) := by decide +kernel
theorem dX11_pack_112 : decode cX11_pack 112 = .ok (.aload_n 0, 1) := by decide +kernel
theorem dX11_pack_113 : decode cX11_pack 113 = .ok (.bipush (-7), 2) := by decide +kernel
theorem dX11_pack_115 : decode cX11_pack 115 = .ok (.invokevirtual 72, 3) := by decide +kernel
theorem dX11_pack_118 : decode cX11_pack 118 = .ok (.ireturn, 1) := by decide +kernel
theorem dX11_pack_119 : decode cX11_pack 119 = .ok (.aload_n 0, 1) := by decide +kernel
theorem dX11_pack_120 : decode cX11_pack 120 = .ok (.getfield 347, 3) := by decide +kernel
theorem dX11_pack_123 : decode cX11_pack 123 = .ok (.ifnonnull 14, 3) := by decide +kernel
theorem dX11_pack_126 : decode cX11_pack 126 = .ok (.aload_n 0, 1) := by decide +kernel
theorem dX11_pack_127 : decode cX11_pack 127 = .ok (.new 351, 3) := by decide +kernel
theorem dX11_pack_130 : decode cX11_pack 130 = .ok (.dup, 1) := by decide +kernel
theorem dX11_pack_131 : decode cX11_pack 131 = .ok (.invokespecial 353, 3) := by decide +kernel
theorem dX11_pack_134 : decode cX11_pack 134 = .ok (.putfield 347, 3) := by decide +kernel
theorem dX11_pack_137 : decode cX11_pack 137 = .ok (.aload_n 0, 1) := by decide +kernel
theorem dX11_pack_138 : decode cX11_pack 138 = .ok (.getfield 347, 3) := by decide +kernel
theorem dX11_pack_141 : decode cX11_pack 141 = .ok (.aload_n 0, 1) := by decide +kernel
theorem dX11_pack_142 : decode cX11_pack 142 = .ok (.getfield 12, 3) := by decide +kernel
theorem dX11_pack_145 : decode cX11_pack 145 = .ok (.getfield 58, 3) := by decide +kernel
theorem dX11_pack_148 : decode cX11_pack 148 = .ok (.iload_n 1, 1) := by decide +kernel
theorem dX11_pack_149 : decode cX11_pack 149 = .ok (.aload_n 0, 1) := by decide +kernel
theorem dX11_pack_150 : decode cX11_pack 150 = .ok (.getfield 40, 3) := by decide +kernel
theorem dX11_pack_153 : decode cX11_pack 153 = .ok (.getfield 265, 3) := by decide +kernel
theorem dX11_pack_156 : decode cX11_pack 156 = .ok (.invokevirtual 354, 3) := by decide +kernel
theorem dX11_pack_159 : decode cX11_pack 159 = .ok (.aload_n 0, 1) := by decide +kernel
theorem dX11_pack_160 : decode cX11_pack 160 = .ok (.iload_n 1, 1) := by decide +kernel
theorem dX11_pack_161 : decode cX11_pack 161 = .ok (.invokevirtual 358, 3) := by decide +kernel
theorem dX11_pack_164 : decode cX11_pack 164 = .ok (.aload_n 0, 1) := by decide +kernel
theorem dX11_pack_165 : decode cX11_pack 165 = .ok (.aload_n 0, 1) := by decide +kernel
theorem dX11_pack_166 : decode cX11_pack 166 = .ok (.getfield 26, 3) := by decide +kernel
theorem dX11_pack_169 : decode cX11_pack 169 = .ok (.aload_n 0, 1) := by decide +kernel
theorem dX11_pack_170 : decode cX11_pack 170 = .ok (.getfield 12, 3) := by decide +kernel
theorem dX11_pack_173 : decode cX11_pack 173 = .ok (.iload_n 1, 1) := by decide +kernel
theorem dX11_pack_174 : decode cX11_pack 174 = .ok (.invokevirtual 119, 3) := by decide +kernel
theorem dX11_pack_177 : decode cX11_pack 177 = .ok (.invokevirtual 72, 3) := by decide +kernel
theorem dX11_pack_180 : decode cX11_pack 180 = .ok (.ireturn, 1) := by decide +kernel
theorem dX11_image_0 : decode cX11_image 0 = .ok (.iload_n 1, 1) := by decide +kernel
theorem dX11_image_1 : decode cX11_image 1 = .ok (.iconst 0, 1) := by decide +kernel
theorem dX11_image_2 : decode cX11_image 2 = .ok (.iconst 3, 1) := by decide +kernel
theorem dX11_image_3 : decode cX11_image 3 = .ok (.invokestatic 68, 3) := by decide +kernel
theorem dX11_image_6 : decode cX11_image 6 = .ok (.ifCond .ne 9, 3) := by decide +kernel
theorem dX11_image_9 : decode cX11_image 9 = .ok (.aload_n 0, 1) := by decide +kernel
theorem dX11_image_10 : decode cX11_image 10 = .ok (.iconst (-1), 1) := by decide +kernel
theorem dX11_image_11 : decode cX11_image 11 = .ok (.invokevirtual 72, 3) := by decide +kernel
theorem dX11_image_14 : decode cX11_image 14 = .ok (.ireturn, 1) := by decide +kernel
theorem dX11_image_15 : decode cX11_image 15 = .ok (.aload_n 0, 1) := by decide +kernel
theorem dX11_image_16 : decode cX11_image 16 = .ok (.getfield 54, 3) := by decide +kernel
theorem dX11_image_19 : decode cX11_image 19 = .ok (.iload_n 1, 1) := by decide +kernel
theorem dX11_image_20 : decode cX11_image 20 = .ok (.aaload, 1) := by decide +kernel
theorem dX11_image_21 : decode cX11_image 21 = .ok (.ifnonnull 16, 3) := by decide +kernel
theorem dX11_image_24 : decode cX11_image 24 = .ok (.aload_n 0, 1) := by decide +kernel
theorem dX11_image_25 : decode cX11_image 25 = .ok (.getfield 54, 3) := by decide +kernel
theorem dX11_image_28 : decode cX11_image 28 = .ok (.iload_n 1, 1) := by decide +kernel
theorem dX11_image_29 : decode cX11_image 29 = .ok (.new 9, 3) := by decide +kernel
theorem dX11_image_32 : decode cX11_image 32 = .ok (.dup, 1) := by decide +kernel
theorem dX11_image_33 : decode cX11_image 33 = .ok (.invokespecial 11, 3) := by decide +kernel
theorem dX11_image_36 : decode cX11_image 36 = .ok (.aastore, 1) := by decide +kernel
theorem dX11_image_37 : decode cX11_image 37 = .ok (.aload_n 0, 1) := by decide +kernel
theorem dX11_image_38 : decode cX11_image 38 = .ok (.getfield 54, 3) := by decide +kernel
theorem dX11_image_41 : decode cX11_image 41 = .ok (.iload_n 1, 1) := by decide +kernel
theorem dX11_image_42 : decode cX11_image 42 = .ok (.aaload, 1) := by decide +kernel
theorem dX11_image_43 : decode cX11_image 43 = .ok (.aload_n 0, 1) := by decide +kernel
theorem dX11_image_44 : decode cX11_image 44 = .ok (.getfield 12, 3) := by decide +kernel
theorem dX11_image_47 : decode cX11_image 47 = .ok (.invokevirtual 316, 3) := by decide +kernel
theorem dX11_image_50 : decode cX11_image 50 = .ok (.aload_n 0, 1) := by decide +kernel
theorem dX11_image_51 : decode cX11_image 51 = .ok (.iconst 0, 1) := by decide +kernel
theorem dX11_image_52 : decode cX11_image 52 = .ok (.invokevirtual 72, 3) := by decide +kernel
theorem dX11_image_55 : decode cX11_image 55 = .ok (.ireturn, 1) := by decide +kernel
theorem dX11_back_0 : decode cX11_back 0 = .ok (.iload_n 1, 1) := by decide +kernel
theorem dX11_back_1 : decode cX11_back 1 = .ok (.iconst 0, 1) := by decide +kernel
theorem dX11_back_2 : decode cX11_back 2 = .ok (.iconst 3, 1) := by decide +kernel
theorem dX11_back_3 : decode cX11_back 3 = .ok (.invokestatic 68, 3) := by decide +kernel
theorem dX11_back_6 : decode cX11_back 6 = .ok (.ifCond .ne 9, 3) := by decide +kernel
theorem dX11_back_9 : decode cX11_back 9 = .ok (.aload_n 0, 1) := by decide +kernel
theorem dX11_back_10 : decode cX11_back 10 = .ok (.iconst (-1), 1) := by decide +kernel
theorem dX11_back_11 : decode cX11_back 11 = .ok (.invokevirtual 72, 3) := by decide +kernel
theorem dX11_back_14 : decode cX11_back 14 = .ok (.ireturn, 1) := by decide +kernel
theorem dX11_back_15 : decode cX11_back 15 = .ok (.aload_n 0, 1) := by decide +kernel
theorem dX11_back_16 : decode cX11_back 16 = .ok (.getfield 54, 3) := by decide +kernel
theorem dX11_back_19 : decode cX11_back 19 = .ok (.iload_n 1, 1) := by decide +kernel
theorem dX11_back_20 : decode cX11_back 20 = .ok (.aaload, 1) := by decide +kernel
theorem dX11_back_21 : decode cX11_back 21 = .ok (.ifnonnull 10, 3) := by decide +kernel
theorem dX11_back_24 : decode cX11_back 24 = .ok (.aload_n 0, 1) := by decide +kernel
theorem dX11_back_25 : decode cX11_back 25 = .ok (.bipush (-2), 2) := by decide +kernel
theorem dX11_back_27 : decode cX11_back 27 = .ok (.invokevirtual 72, 3) := by decide +kernel
theorem dX11_back_30 : decode cX11_back 30 = .ok (.ireturn, 1) := by decide +kernel
theorem dX11_back_31 : decode cX11_back 31 = .ok (.aload_n 0, 1) := by decide +kernel
theorem dX11_back_32 : decode cX11_back 32 = .ok (.getfield 12, 3) := by decide +kernel
theorem dX11_back_35 : decode cX11_back 35 = .ok (.aload_n 0, 1) := by decide +kernel
theorem dX11_back_36 : decode cX11_back 36 = .ok (.getfield 54, 3) := by decide +kernel
theorem dX11_back_39 : decode cX11_back 39 = .ok (.iload_n 1, 1) := by decide +kernel
theorem dX11_back_40 : decode cX11_back 40 = .ok (.aaload, 1) := by decide +kernel
theorem dX11_back_41 : decode cX11_back 41 = .ok (.invokevirtual 316, 3) := by decide +kernel
theorem dX11_back_44 : decode cX11_back 44 = .ok (.aload_n 0, 1) := by decide +kernel
theorem dX11_back_45 : decode cX11_back 45 = .ok (.getfield 213, 3) := by decide +kernel
theorem dX11_back_48 : decode cX11_back 48 = .ok (.ifnull 10, 3) := by decide +kernel
theorem dX11_back_51 : decode cX11_back 51 = .ok (.aload_n 0, 1) := by decide +kernel
theorem dX11_back_52 : decode cX11_back 52 = .ok (.getfield 213, 3) := by decide +kernel
theorem dX11_back_55 : decode cX11_back 55 = .ok (.invokevirtual 362, 3) := by decide +kernel
theorem dX11_back_58 : decode cX11_back 58 = .ok (.aload_n 0, 1) := by decide +kernel
theorem dX11_back_59 : decode cX11_back 59 = .ok (.iconst 0, 1) := by decide +kernel
theorem dX11_back_60 : decode cX11_back 60 = .ok (.invokevirtual 72, 3) := by decide +kernel
theorem dX11_back_63 : decode cX11_back 63 = .ok (.ireturn, 1) := by decide +kernel
theorem dX11_line_0 : decode cX11_line 0 = .ok (.aload_n 0, 1) := by decide +kernel
theorem dX11_line_1 : decode cX11_line 1 = .ok (.iload_n 1, 1) := by decide +kernel
theorem dX11_line_2 : decode cX11_line 2 = .ok (.iload_n 2, 1) := by decide +kernel
theorem dX11_line_3 : decode cX11_line 3 = .ok (.invokevirtual 365, 3) := by decide +kernel
theorem dX11_line_6 : decode cX11_line 6 = .ok (.istore_n 3, 1) := by decide +kernel
theorem dX11_line_7 : decode cX11_line 7 = .ok (.iload_n 3, 1) := by decide +kernel
theorem dX11_line_8 : decode cX11_line 8 = .ok (.ifCond .ne 10, 3) := by decide +kernel
theorem dX11_line_11 : decode cX11_line 11 = .ok (.aload_n 0, 1) := by decide +kernel
theorem dX11_line_12 : decode cX11_line 12 = .ok (.getfield 213, 3) := by decide +kernel
theorem dX11_line_15 : decode cX11_line 15 = .ok (.ifnonnull 7, 3) := by decide +kernel
theorem dX11_line_18 : decode cX11_line 18 = .ok (.iload_n 3, 1) := by decide +kernel
theorem dX11_line_19 : decode cX11_line 19 = .ok (.goto 12, 3) := by decide +kernel
theorem dX11_line_22 : decode cX11_line 22 = .ok (.aload_n 0, 1) := by decide +kernel
theorem dX11_line_23 : decode cX11_line 23 = .ok (.getfield 213, 3) := by decide +kernel
theorem dX11_line_26 : decode cX11_line 26 = .ok (.iload_n 1, 1) := by decide +kernel
theorem dX11_line_27 : decode cX11_line 27 = .ok (.iload_n 2, 1) := by decide +kernel
theorem dX11_line_28 : decode cX11_line 28 = .ok (.invokevirtual 368, 3) := by decide +kernel
theorem dX11_line_31 : decode cX11_line 31 = .ok (.ireturn, 1) := by decide +kernel
theorem dX11_alter_0 : decode cX11_alter 0 = .ok (.iload_n 3, 1) := by decide +kernel
theorem dX11_alter_1 : decode cX11_alter 1 = .ok (.ifCond .ne 7, 3) := by decide +kernel
theorem dX11_alter_4 : decode cX11_alter 4 = .ok (.iconst (-1), 1) := by decide +kernel
theorem dX11_alter_5 : decode cX11_alter 5 = .ok (.goto 9, 3) := by decide +kernel
theorem dX11_alter_8 : decode cX11_alter 8 = .ok (.aload_n 0, 1) := by decide +kernel
theorem dX11_alter_9 : decode cX11_alter 9 = .ok (.iload_n 1, 1) := by decide +kernel
theorem dX11_alter_10 : decode cX11_alter 10 = .ok (.iload_n 2, 1) := by decide +kernel
theorem dX11_alter_11 : decode cX11_alter 11 = .ok (.invokevirtual 365, 3) := by decide +kernel
theorem dX11_alter_14 : decode cX11_alter 14 = .ok (.istore 4, 2) := by decide +kernel
theorem dX11_alter_16 : decode cX11_alter 16 = .ok (.iload 4, 2) := by decide +kernel
theorem dX11_alter_18 : decode cX11_alter 18 = .ok (.ifCond .ne 20, 3) := by decide +kernel
theorem dX11_alter_21 : decode cX11_alter 21 = .ok (.aload_n 0, 1) := by decide +kernel
theorem dX11_alter_22 : decode cX11_alter 22 = .ok (.getfield 213, 3) := by decide +kernel
theorem dX11_alter_25 : decode cX11_alter 25 = .ok (.ifnull 13, 3) := by decide +kernel
theorem dX11_alter_28 : decode cX11_alter 28 = .ok (.aload_n 0, 1) := by decide +kernel
theorem dX11_alter_29 : decode cX11_alter 29 = .ok (.getfield 213, 3) := by decide +kernel
theorem dX11_alter_32 : decode cX11_alter 32 = .ok (.iload_n 1, 1) := by decide +kernel
theorem dX11_alter_33 : decode cX11_alter 33 = .ok (.iload_n 2, 1) := by decide +kernel
theorem dX11_alter_34 : decode cX11_alter 34 = .ok (.iload_n 3, 1) := by decide +kernel
theorem dX11_alter_35 : decode cX11_alter 35 = .ok (.invokevirtual 370, 3) := by decide +kernel
theorem dX11_alter_38 : decode cX11_alter 38 = .ok (.aload_n 0, 1) := by decide +kernel
theorem dX11_alter_39 : decode cX11_alter 39 = .ok (.iload 4, 2) := by decide +kernel
theorem dX11_alter_41 : decode cX11_alter 41 = .ok (.invokevirtual 72, 3) := by decide +kernel
theorem dX11_alter_44 : decode cX11_alter 44 = .ok (.ireturn, 1) := by decide +kernel
theorem dX11_check_0 : decode cX11_check 0 = .ok (.aload_n 0, 1) := by decide +kernel
theorem dX11_check_1 : decode cX11_check 1 = .ok (.getfield 213, 3) := by decide +kernel
theorem dX11_check_4 : decode cX11_check 4 = .ok (.ifnull 13, 3) := by decide +kernel
theorem dX11_check_7 : decode cX11_check 7 = .ok (.aload_n 0, 1) := by decide +kernel
theorem dX11_check_8 : decode cX11_check 8 = .ok (.getfield 213, 3) := by decide +kernel
theorem dX11_check_11 : decode cX11_check 11 = .ok (.getfield 373, 3) := by decide +kernel
theorem dX11_check_14 : decode cX11_check 14 = .ok (.ifCond .ne 8, 3) := by decide +kernel
theorem dX11_check_17 : decode cX11_check 17 = .ok (.bipush (-7), 2) := by decide +kernel
theorem dX11_check_19 : decode cX11_check 19 = .ok (.goto 10, 3) := by decide +kernel
theorem dX11_check_22 : decode cX11_check 22 = .ok (.aload_n 0, 1) := by decide +kernel
theorem dX11_check_23 : decode cX11_check 23 = .ok (.getfield 213, 3) := by decide +kernel
theorem dX11_check_26 : decode cX11_check 26 = .ok (.invokevirtual 377, 3) := by decide +kernel
theorem dX11_check_29 : decode cX11_check 29 = .ok (.ireturn, 1) := by decide +kernel
theorem dX11_status_0 : decode cX11_status 0 = .ok (.aload_n 0, 1) := by decide +kernel
theorem dX11_status_1 : decode cX11_status 1 = .ok (.getfield 380, 3) := by decide +kernel
theorem dX11_status_4 : decode cX11_status 4 = .ok (.ireturn, 1) := by decide +kernel
theorem dX11_answer_0 : decode cX11_answer 0 = .ok (.aload_n 0, 1) := by decide +kernel
theorem dX11_answer_1 : decode cX11_answer 1 = .ok (.iload_n 1, 1) := by decide +kernel
theorem dX11_answer_2 : decode cX11_answer 2 = .ok (.ifCond .ge 7, 3) := by decide +kernel
theorem dX11_answer_5 : decode cX11_answer 5 = .ok (.iload_n 1, 1) := by decide +kernel
theorem dX11_answer_6 : decode cX11_answer 6 = .ok (.goto 4, 3) := by decide +kernel
theorem dX11_answer_9 : decode cX11_answer 9 = .ok (.iconst 0, 1) := by decide +kernel
theorem dX11_answer_10 : decode cX11_answer 10 = .ok (.putfield 380, 3) := by decide +kernel
theorem dX11_answer_13 : decode cX11_answer 13 = .ok (.iload_n 1, 1) := by decide +kernel
theorem dX11_answer_14 : decode cX11_answer 14 = .ok (.ireturn, 1) := by decide +kernel
theorem dX11_within_0 : decode cX11_within 0 = .ok (.iload_n 0, 1) := by decide +kernel
theorem dX11_within_1 : decode cX11_within 1 = .ok (.iload_n 1, 1) := by decide +kernel
theorem dX11_within_2 : decode cX11_within 2 = .ok (.if_icmp .lt 12, 3) := by decide +kernel
theorem dX11_within_5 : decode cX11_within 5 = .ok (.iload_n 0, 1) := by decide +kernel
theorem dX11_within_6 : decode cX11_within 6 = .ok (.iload_n 2, 1) := by decide +kernel
theorem dX11_within_7 : decode cX11_within 7 = .ok (.if_icmp .gt 7, 3) := by decide +kernel
theorem dX11_within_10 : decode cX11_within 10 = .ok (.iconst 1, 1) := by decide +kernel
theorem dX11_within_11 : decode cX11_within 11 = .ok (.goto 4, 3) := by decide +kernel
theorem dX11_within_14 : decode cX11_within 14 = .ok (.iconst 0, 1) := by decide +kernel
theorem dX11_within_15 : decode cX11_within 15 = .ok (.ireturn, 1) := by decide +kernel
theorem dX11_isWeightOfKind_0 : decode cX11_isWeightOfKind 0 = .ok (.iload_n 0, 1) := by decide +kernel
theorem dX11_isWeightOfKind_1 : decode cX11_isWeightOfKind 1 = .ok (.iconst 0, 1) := by decide +kernel
theorem dX11_isWeightOfKind_2 : decode cX11_isWeightOfKind 2 = .ok (.iconst 2, 1) := by decide +kernel
theorem dX11_isWeightOfKind_3 : decode cX11_isWeightOfKind 3 = .ok (.invokestatic 68, 3) := by decide +kernel
theorem dX11_isWeightOfKind_6 : decode cX11_isWeightOfKind 6 = .ok (.ifCond .eq 19, 3) := by decide +kernel
theorem dX11_isWeightOfKind_9 : decode cX11_isWeightOfKind 9 = .ok (.iload_n 1, 1) := by decide +kernel
theorem dX11_isWeightOfKind_10 : decode cX11_isWeightOfKind 10 = .ok (.sipush 1000, 3) := by decide +kernel
theorem dX11_isWeightOfKind_13 : decode cX11_isWeightOfKind 13 = .ok (.ldc 200, 2) := by decide +kernel
theorem dX11_isWeightOfKind_15 : decode cX11_isWeightOfKind 15 = .ok (.invokestatic 68, 3) := by decide +kernel
theorem dX11_isWeightOfKind_18 : decode cX11_isWeightOfKind 18 = .ok (.ifCond .eq 7, 3) := by decide +kernel
theorem dX11_isWeightOfKind_21 : decode cX11_isWeightOfKind 21 = .ok (.iconst 1, 1) := by decide +kernel
theorem dX11_isWeightOfKind_22 : decode cX11_isWeightOfKind 22 = .ok (.goto 4, 3) := by decide +kernel
theorem dX11_isWeightOfKind_25 : decode cX11_isWeightOfKind 25 = .ok (.iconst 0, 1) := by decide +kernel
theorem dX11_isWeightOfKind_26 : decode cX11_isWeightOfKind 26 = .ok (.ireturn, 1) := by decide +kernel
theorem dX11_rateOf_0 : decode cX11_rateOf 0 = .ok (.iload_n 0, 1) := by decide +kernel
theorem dX11_rateOf_1 : decode cX11_rateOf 1 = .ok (.iconst 2, 1) := by decide +kernel
theorem dX11_rateOf_2 : decode cX11_rateOf 2 = .ok (.if_icmp .ne 7, 3) := by decide +kernel
theorem dX11_rateOf_5 : decode cX11_rateOf 5 = .ok (.iconst 5, 1) := by decide +kernel
theorem dX11_rateOf_6 : decode cX11_rateOf 6 = .ok (.goto 4, 3) := by decide +kernel
theorem dX11_rateOf_9 : decode cX11_rateOf 9 = .ok (.iconst 3, 1) := by decide +kernel
theorem dX11_rateOf_10 : decode cX11_rateOf 10 = .ok (.ireturn, 1) := by decide +kernel
theorem dX11_beside_0 : decode cX11_beside 0 = .ok (.iload_n 2, 1) := by decide +kernel
theorem dX11_beside_1 : decode cX11_beside 1 = .ok (.iconst 1, 1) := by decide +kernel
theorem dX11_beside_2 : decode cX11_beside 2 = .ok (.if_icmp .lt 8, 3) := by decide +kernel
theorem dX11_beside_5 : decode cX11_beside 5 = .ok (.iload_n 3, 1) := by decide +kernel
theorem dX11_beside_6 : decode cX11_beside 6 = .ok (.iconst 1, 1) := by decide +kernel
theorem dX11_beside_7 : decode cX11_beside 7 = .ok (.if_icmp .ge 5, 3) := by decide +kernel
theorem dX11_beside_10 : decode cX11_beside 10 = .ok (.iconst (-1), 1) := by decide +kernel
theorem dX11_beside_11 : decode cX11_beside 11 = .ok (.ireturn, 1) := by decide +kernel
theorem dX11_beside_12 : decode cX11_beside 12 = .ok (.iload_n 2, 1) := by decide +kernel
theorem dX11_beside_13 : decode cX11_beside 13 = .ok (.iload_n 3, 1) := by decide +kernel
theorem dX11_beside_14 : decode cX11_beside 14 = .ok (.imul, 1) := by decide +kernel
theorem dX11_beside_15 : decode cX11_beside 15 = .ok (.istore 5, 2) := by decide +kernel
theorem dX11_beside_17 : decode cX11_beside 17 = .ok (.iload_n 1, 1) := by decide +kernel
theorem dX11_beside_18 : decode cX11_beside 18 = .ok (.iload_n 2, 1) := by decide +kernel
theorem dX11_beside_19 : decode cX11_beside 19 = .ok (.irem, 1) := by decide +kernel
theorem dX11_beside_20 : decode cX11_beside 20 = .ok (.istore 6, 2) := by decide +kernel
theorem dX11_beside_22 : decode cX11_beside 22 = .ok (.iload_n 1, 1) := by decide +kernel
theorem dX11_beside_23 : decode cX11_beside 23 = .ok (.iload_n 2, 1) := by decide +kernel
theorem dX11_beside_24 : decode cX11_beside 24 = .ok (.idiv, 1) := by decide +kernel
theorem dX11_beside_25 : decode cX11_beside 25 = .ok (.iload_n 3, 1) := by decide +kernel
theorem dX11_beside_26 : decode cX11_beside 26 = .ok (.irem, 1) := by decide +kernel
theorem dX11_beside_27 : decode cX11_beside 27 = .ok (.istore 7, 2) := by decide +kernel
theorem dX11_beside_29 : decode cX11_beside 29 = .ok (.iload_n 0, 1) := by decide +kernel
theorem dX11_beside_30 : decode cX11_beside 30 = .ok (.tableswitch 107 0 4 #[34, 47, 63, 76, 92], 34) := by decide +kernel
theorem dX11_beside_64 : decode cX11_beside 64 = .ok (.iload 6, 2) := by decide +kernel
theorem dX11_beside_66 : decode cX11_beside 66 = .ok (.ifCond .le 9, 3) := by decide +kernel
theorem dX11_beside_69 : decode cX11_beside 69 = .ok (.iload_n 1, 1) := by decide +kernel
theorem dX11_beside_70 : decode cX11_beside 70 = .ok (.iconst 1, 1) := by decide +kernel
theorem dX11_beside_71 : decode cX11_beside 71 = .ok (.isub, 1) := by decide +kernel
theorem dX11_beside_72 : decode cX11_beside 72 = .ok (.goto 4, 3) := by decide +kernel
theorem dX11_beside_75 : decode cX11_beside 75 = .ok (.iconst (-1), 1) := by decide +kernel
theorem dX11_beside_76 : decode cX11_beside 76 = .ok (.ireturn, 1) := by decide +kernel
theorem dX11_beside_77 : decode cX11_beside 77 = .ok (.iload 6, 2) := by decide +kernel
theorem dX11_beside_79 : decode cX11_beside 79 = .ok (.iload_n 2, 1) := by decide +kernel
theorem dX11_beside_80 : decode cX11_beside 80 = .ok (.iconst 1, 1) := by decide +kernel
theorem dX11_beside_81 : decode cX11_beside 81 = .ok (.isub, 1) := by decide +kernel
theorem dX11_beside_82 : decode cX11_beside 82 = .ok (.if_icmp .ge 9, 3) := by decide +kernel
theorem dX11_beside_85 : decode cX11_beside 85 = .ok (.iload_n 1, 1) := by decide +kernel
theorem dX11_beside_86 : decode cX11_beside 86 = .ok (.iconst 1, 1) := by decide +kernel
theorem dX11_beside_87 : decode cX11_beside 87 = .ok (.iadd, 1) := by decide +kernel
theorem dX11_beside_88 : decode cX11_beside 88 = .ok (.goto 4, 3) := by decide +kernel
theorem dX11_beside_91 : decode cX11_beside 91 = .ok (.iconst (-1), 1) := by decide +kernel
theorem dX11_beside_92 : decode cX11_beside 92 = .ok (.ireturn, 1) := by decide +kernel
theorem dX11_beside_93 : decode cX11_beside 93 = .ok (.iload 7, 2) := by decide +kernel
theorem dX11_beside_95 : decode cX11_beside 95 = .ok (.ifCond .le 9, 3) := by decide +kernel
theorem dX11_beside_98 : decode cX11_beside 98 = .ok (.iload_n 1, 1) := by decide +kernel
theorem dX11_beside_99 : decode cX11_beside 99 = .ok (.iload_n 2, 1) := by decide +kernel
theorem dX11_beside_100 : decode cX11_beside 100 = .ok (.isub, 1) := by decide +kernel
theorem dX11_beside_101 : decode cX11_beside 101 = .ok (.goto 4, 3) := by decide +kernel
theorem dX11_beside_104 : decode cX11_beside 104 = .ok (.iconst (-1), 1) := by decide +kernel
theorem dX11_beside_105 : decode cX11_beside 105 = .ok (.ireturn, 1) := by decide +kernel
theorem dX11_beside_106 : decode cX11_beside 106 = .ok (.iload 7, 2) := by decide +kernel
theorem dX11_beside_108 : decode cX11_beside 108 = .ok (.iload_n 3, 1) := by decide +kernel
theorem dX11_beside_109 : decode cX11_beside 109 = .ok (.iconst 1, 1) := by decide +kernel
theorem dX11_beside_110 : decode cX11_beside 110 = .ok (.isub, 1) := by decide +kernel
theorem dX11_beside_111 : decode cX11_beside 111 = .ok (.if_icmp .ge 9, 3) := by decide +kernel
theorem dX11_beside_114 : decode cX11_beside 114 = .ok (.iload_n 1, 1) := by decide +kernel
theorem dX11_beside_115 : decode cX11_beside 115 = .ok (.iload_n 2, 1) := by decide +kernel
theorem dX11_beside_116 : decode cX11_beside 116 = .ok (.iadd, 1) := by decide +kernel
theorem dX11_beside_117 : decode cX11_beside 117 = .ok (.goto 4, 3) := by decide +kernel
theorem dX11_beside_120 : decode cX11_beside 120 = .ok (.iconst (-1), 1) := by decide +kernel
theorem dX11_beside_121 : decode cX11_beside 121 = .ok (.ireturn, 1) := by decide +kernel
theorem dX11_beside_122 : decode cX11_beside 122 = .ok (.iload_n 1, 1) := by decide +kernel
theorem dX11_beside_123 : decode cX11_beside 123 = .ok (.iload 5, 2) := by decide +kernel
theorem dX11_beside_125 : decode cX11_beside 125 = .ok (.if_icmp .lt 10, 3) := by decide +kernel
theorem dX11_beside_128 : decode cX11_beside 128 = .ok (.iload_n 1, 1) := by decide +kernel
theorem dX11_beside_129 : decode cX11_beside 129 = .ok (.iload 5, 2) := by decide +kernel
theorem dX11_beside_131 : decode cX11_beside 131 = .ok (.isub, 1) := by decide +kernel
theorem dX11_beside_132 : decode cX11_beside 132 = .ok (.goto 4, 3) := by decide +kernel
theorem dX11_beside_135 : decode cX11_beside 135 = .ok (.iconst (-1), 1) := by decide +kernel
theorem dX11_beside_136 : decode cX11_beside 136 = .ok (.ireturn, 1) := by decide +kernel
theorem dX11_beside_137 : decode cX11_beside 137 = .ok (.iload_n 1, 1) := by decide +kernel
theorem dX11_beside_138 : decode cX11_beside 138 = .ok (.iload 5, 2) := by decide +kernel
theorem dX11_beside_140 : decode cX11_beside 140 = .ok (.iadd, 1) := by decide +kernel
theorem dX11_beside_141 : decode cX11_beside 141 = .ok (.iload 5, 2) := by decide +kernel
theorem dX11_beside_143 : decode cX11_beside 143 = .ok (.iload 4, 2) := by decide +kernel
theorem dX11_beside_145 : decode cX11_beside 145 = .ok (.imul, 1) := by decide +kernel
theorem dX11_beside_146 : decode cX11_beside 146 = .ok (.if_icmp .ge 10, 3) := by decide +kernel
theorem dX11_beside_149 : decode cX11_beside 149 = .ok (.iload_n 1, 1) := by decide +kernel
theorem dX11_beside_150 : decode cX11_beside 150 = .ok (.iload 5, 2) := by decide +kernel
theorem dX11_beside_152 : decode cX11_beside 152 = .ok (.iadd, 1) := by decide +kernel
theorem dX11_beside_153 : decode cX11_beside 153 = .ok (.goto 4, 3) := by decide +kernel
theorem dX11_beside_156 : decode cX11_beside 156 = .ok (.iconst (-1), 1) := by decide +kernel
theorem dX11_beside_157 : decode cX11_beside 157 = .ok (.ireturn, 1) := by decide +kernel
theorem dX11_tenthsToday_0 : decode cX11_tenthsToday 0 = .ok (.aload_n 0, 1) := by decide +kernel
theorem dX11_tenthsToday_1 : decode cX11_tenthsToday 1 = .ok (.getfield 19, 3) := by decide +kernel
theorem dX11_tenthsToday_4 : decode cX11_tenthsToday 4 = .ok (.aload_n 0, 1) := by decide +kernel
theorem dX11_tenthsToday_5 : decode cX11_tenthsToday 5 = .ok (.getfield 12, 3) := by decide +kernel
theorem dX11_tenthsToday_8 : decode cX11_tenthsToday 8 = .ok (.getfield 210, 3) := by decide +kernel
theorem dX11_tenthsToday_11 : decode cX11_tenthsToday 11 = .ok (.invokevirtual 197, 3) := by decide +kernel
theorem dX11_tenthsToday_14 : decode cX11_tenthsToday 14 = .ok (.ireturn, 1) := by decide +kernel
theorem dX11_refusalOfRow_0 : decode cX11_refusalOfRow 0 = .ok (.aload_n 0, 1) := by decide +kernel
theorem dX11_refusalOfRow_1 : decode cX11_refusalOfRow 1 = .ok (.getfield 12, 3) := by decide +kernel
theorem dX11_refusalOfRow_4 : decode cX11_refusalOfRow 4 = .ok (.getfield 58, 3) := by decide +kernel
theorem dX11_refusalOfRow_7 : decode cX11_refusalOfRow 7 = .ok (.iload_n 1, 1) := by decide +kernel
theorem dX11_refusalOfRow_8 : decode cX11_refusalOfRow 8 = .ok (.invokevirtual 62, 3) := by decide +kernel
theorem dX11_refusalOfRow_11 : decode cX11_refusalOfRow 11 = .ok (.ifCond .ne 6, 3) := by decide +kernel
theorem dX11_refusalOfRow_14 : decode cX11_refusalOfRow 14 = .ok (.bipush (-2), 2) := by decide +kernel
theorem dX11_refusalOfRow_16 : decode cX11_refusalOfRow 16 = .ok (.ireturn, 1) := by decide +kernel
theorem dX11_refusalOfRow_17 : decode cX11_refusalOfRow 17 = .ok (.iload_n 2, 1) := by decide +kernel
theorem dX11_refusalOfRow_18 : decode cX11_refusalOfRow 18 = .ok (.iconst 0, 1) := by decide +kernel
theorem dX11_refusalOfRow_19 : decode cX11_refusalOfRow 19 = .ok (.aload_n 0, 1) := by decide +kernel
theorem dX11_refusalOfRow_20 : decode cX11_refusalOfRow 20 = .ok (.getfield 12, 3) := by decide +kernel
theorem dX11_refusalOfRow_23 : decode cX11_refusalOfRow 23 = .ok (.getfield 58, 3) := by decide +kernel
theorem dX11_refusalOfRow_26 : decode cX11_refusalOfRow 26 = .ok (.getfield 93, 3) := by decide +kernel
theorem dX11_refusalOfRow_29 : decode cX11_refusalOfRow 29 = .ok (.iload_n 1, 1) := by decide +kernel
theorem dX11_refusalOfRow_30 : decode cX11_refusalOfRow 30 = .ok (.iaload, 1) := by decide +kernel
theorem dX11_refusalOfRow_31 : decode cX11_refusalOfRow 31 = .ok (.iconst 1, 1) := by decide +kernel
theorem dX11_refusalOfRow_32 : decode cX11_refusalOfRow 32 = .ok (.isub, 1) := by decide +kernel
theorem dX11_refusalOfRow_33 : decode cX11_refusalOfRow 33 = .ok (.invokestatic 68, 3) := by decide +kernel
theorem dX11_refusalOfRow_36 : decode cX11_refusalOfRow 36 = .ok (.ifCond .eq 29, 3) := by decide +kernel
theorem dX11_refusalOfRow_39 : decode cX11_refusalOfRow 39 = .ok (.iload_n 3, 1) := by decide +kernel
theorem dX11_refusalOfRow_40 : decode cX11_refusalOfRow 40 = .ok (.iconst 0, 1) := by decide +kernel
theorem dX11_refusalOfRow_41 : decode cX11_refusalOfRow 41 = .ok (.aload_n 0, 1) := by decide +kernel
theorem dX11_refusalOfRow_42 : decode cX11_refusalOfRow 42 = .ok (.getfield 12, 3) := by decide +kernel
theorem dX11_refusalOfRow_45 : decode cX11_refusalOfRow 45 = .ok (.getfield 58, 3) := by decide +kernel
theorem dX11_refusalOfRow_48 : decode cX11_refusalOfRow 48 = .ok (.getfield 90, 3) := by decide +kernel
theorem dX11_refusalOfRow_51 : decode cX11_refusalOfRow 51 = .ok (.iload_n 1, 1) := by decide +kernel
theorem dX11_refusalOfRow_52 : decode cX11_refusalOfRow 52 = .ok (.iaload, 1) := by decide +kernel
theorem dX11_refusalOfRow_53 : decode cX11_refusalOfRow 53 = .ok (.iconst 1, 1) := by decide +kernel
theorem dX11_refusalOfRow_54 : decode cX11_refusalOfRow 54 = .ok (.isub, 1) := by decide +kernel
theorem dX11_refusalOfRow_55 : decode cX11_refusalOfRow 55 = .ok (.invokestatic 68, 3) := by decide +kernel
theorem dX11_refusalOfRow_58 : decode cX11_refusalOfRow 58 = .ok (.ifCond .eq 7, 3) := by decide +kernel
theorem dX11_refusalOfRow_61 : decode cX11_refusalOfRow 61 = .ok (.iconst 1, 1) := by decide +kernel
theorem dX11_refusalOfRow_62 : decode cX11_refusalOfRow 62 = .ok (.goto 4, 3) := by decide +kernel
theorem dX11_refusalOfRow_65 : decode cX11_refusalOfRow 65 = .ok (.iconst 0, 1) := by decide +kernel
theorem dX11_refusalOfRow_66 : decode cX11_refusalOfRow 66 = .ok (.istore 4, 2) := by decide +kernel
theorem dX11_refusalOfRow_68 : decode cX11_refusalOfRow 68 = .ok (.iload 4, 2) := by decide +kernel
theorem dX11_refusalOfRow_70 : decode cX11_refusalOfRow 70 = .ok (.ifCond .eq 7, 3) := by decide +kernel
theorem dX11_refusalOfRow_73 : decode cX11_refusalOfRow 73 = .ok (.iconst 0, 1) := by decide +kernel
theorem dX11_refusalOfRow_74 : decode cX11_refusalOfRow 74 = .ok (.goto 4, 3) := by decide +kernel
theorem dX11_refusalOfRow_77 : decode cX11_refusalOfRow 77 = .ok (.iconst (-1), 1) := by decide +kernel
theorem dX11_refusalOfRow_78 : decode cX11_refusalOfRow 78 = .ok (.ireturn, 1) := by decide +kernel
theorem dX11_refusalOfPlace_0 : decode cX11_refusalOfPlace 0 = .ok (.aload_n 0, 1) := by decide +kernel
theorem dX11_refusalOfPlace_1 : decode cX11_refusalOfPlace 1 = .ok (.getfield 12, 3) := by decide +kernel
theorem dX11_refusalOfPlace_4 : decode cX11_refusalOfPlace 4 = .ok (.getfield 58, 3) := by decide +kernel
theorem dX11_refusalOfPlace_7 : decode cX11_refusalOfPlace 7 = .ok (.iload_n 1, 1) := by decide +kernel
theorem dX11_refusalOfPlace_8 : decode cX11_refusalOfPlace 8 = .ok (.invokevirtual 62, 3) := by decide +kernel
theorem dX11_refusalOfPlace_11 : decode cX11_refusalOfPlace 11 = .ok (.ifCond .ne 6, 3) := by decide +kernel
theorem dX11_refusalOfPlace_14 : decode cX11_refusalOfPlace 14 = .ok (.bipush (-2), 2) := by decide +kernel
theorem dX11_refusalOfPlace_16 : decode cX11_refusalOfPlace 16 = .ok (.ireturn, 1) := by decide +kernel
theorem dX11_refusalOfPlace_17 : decode cX11_refusalOfPlace 17 = .ok (.aload_n 0, 1) := by decide +kernel
theorem dX11_refusalOfPlace_18 : decode cX11_refusalOfPlace 18 = .ok (.getfield 12, 3) := by decide +kernel
theorem dX11_refusalOfPlace_21 : decode cX11_refusalOfPlace 21 = .ok (.getfield 58, 3) := by decide +kernel
theorem dX11_refusalOfPlace_24 : decode cX11_refusalOfPlace 24 = .ok (.iload_n 1, 1) := by decide +kernel
theorem dX11_refusalOfPlace_25 : decode cX11_refusalOfPlace 25 = .ok (.iload_n 2, 1) := by decide +kernel
theorem dX11_refusalOfPlace_26 : decode cX11_refusalOfPlace 26 = .ok (.invokevirtual 383, 3) := by decide +kernel
theorem dX11_refusalOfPlace_29 : decode cX11_refusalOfPlace 29 = .ok (.ifCond .ne 5, 3) := by decide +kernel
theorem dX11_refusalOfPlace_32 : decode cX11_refusalOfPlace 32 = .ok (.iconst (-1), 1) := by decide +kernel
theorem dX11_refusalOfPlace_33 : decode cX11_refusalOfPlace 33 = .ok (.ireturn, 1) := by decide +kernel
theorem dX11_refusalOfPlace_34 : decode cX11_refusalOfPlace 34 = .ok (.aload_n 0, 1) := by decide +kernel
theorem dX11_refusalOfPlace_35 : decode cX11_refusalOfPlace 35 = .ok (.getfield 12, 3) := by decide +kernel
theorem dX11_refusalOfPlace_38 : decode cX11_refusalOfPlace 38 = .ok (.getfield 58, 3) := by decide +kernel
theorem dX11_refusalOfPlace_41 : decode cX11_refusalOfPlace 41 = .ok (.iload_n 1, 1) := by decide +kernel
theorem dX11_refusalOfPlace_42 : decode cX11_refusalOfPlace 42 = .ok (.aload_n 0, 1) := by decide +kernel
theorem dX11_refusalOfPlace_43 : decode cX11_refusalOfPlace 43 = .ok (.getfield 12, 3) := by decide +kernel
theorem dX11_refusalOfPlace_46 : decode cX11_refusalOfPlace 46 = .ok (.getfield 58, 3) := by decide +kernel
theorem dX11_refusalOfPlace_49 : decode cX11_refusalOfPlace 49 = .ok (.iload_n 1, 1) := by decide +kernel
theorem dX11_refusalOfPlace_50 : decode cX11_refusalOfPlace 50 = .ok (.iload_n 2, 1) := by decide +kernel
theorem dX11_refusalOfPlace_51 : decode cX11_refusalOfPlace 51 = .ok (.invokevirtual 386, 3) := by decide +kernel
theorem dX11_refusalOfPlace_54 : decode cX11_refusalOfPlace 54 = .ok (.invokevirtual 130, 3) := by decide +kernel
theorem dX11_refusalOfPlace_57 : decode cX11_refusalOfPlace 57 = .ok (.ifCond .eq 7, 3) := by decide +kernel
theorem dX11_refusalOfPlace_60 : decode cX11_refusalOfPlace 60 = .ok (.iconst 0, 1) := by decide +kernel
theorem dX11_refusalOfPlace_61 : decode cX11_refusalOfPlace 61 = .ok (.goto 5, 3) := by decide +kernel
theorem dX11_refusalOfPlace_64 : decode cX11_refusalOfPlace 64 = .ok (.bipush (-3), 2) := by decide +kernel
theorem dX11_refusalOfPlace_66 : decode cX11_refusalOfPlace 66 = .ok (.ireturn, 1) := by decide +kernel
theorem dX11_refusalToFill_0 : decode cX11_refusalToFill 0 = .ok (.aload_n 0, 1) := by decide +kernel
theorem dX11_refusalToFill_1 : decode cX11_refusalToFill 1 = .ok (.iload_n 1, 1) := by decide +kernel
theorem dX11_refusalToFill_2 : decode cX11_refusalToFill 2 = .ok (.iload_n 2, 1) := by decide +kernel
theorem dX11_refusalToFill_3 : decode cX11_refusalToFill 3 = .ok (.invokevirtual 165, 3) := by decide +kernel
theorem dX11_refusalToFill_6 : decode cX11_refusalToFill 6 = .ok (.istore_n 3, 1) := by decide +kernel
theorem dX11_refusalToFill_7 : decode cX11_refusalToFill 7 = .ok (.iload_n 3, 1) := by decide +kernel
theorem dX11_refusalToFill_8 : decode cX11_refusalToFill 8 = .ok (.ifCond .eq 5, 3) := by decide +kernel
theorem dX11_refusalToFill_11 : decode cX11_refusalToFill 11 = .ok (.iload_n 3, 1) := by decide +kernel
theorem dX11_refusalToFill_12 : decode cX11_refusalToFill 12 = .ok (.ireturn, 1) := by decide +kernel
theorem dX11_refusalToFill_13 : decode cX11_refusalToFill 13 = .ok (.aload_n 0, 1) := by decide +kernel
theorem dX11_refusalToFill_14 : decode cX11_refusalToFill 14 = .ok (.getfield 12, 3) := by decide +kernel
theorem dX11_refusalToFill_17 : decode cX11_refusalToFill 17 = .ok (.getfield 58, 3) := by decide +kernel
theorem dX11_refusalToFill_20 : decode cX11_refusalToFill 20 = .ok (.iload_n 1, 1) := by decide +kernel
theorem dX11_refusalToFill_21 : decode cX11_refusalToFill 21 = .ok (.iload_n 2, 1) := by decide +kernel
theorem dX11_refusalToFill_22 : decode cX11_refusalToFill 22 = .ok (.invokevirtual 168, 3) := by decide +kernel
theorem dX11_refusalToFill_25 : decode cX11_refusalToFill 25 = .ok (.ifCond .eq 6, 3) := by decide +kernel
theorem dX11_refusalToFill_28 : decode cX11_refusalToFill 28 = .ok (.bipush (-4), 2) := by decide +kernel
theorem dX11_refusalToFill_30 : decode cX11_refusalToFill 30 = .ok (.ireturn, 1) := by decide +kernel
theorem dX11_refusalToFill_31 : decode cX11_refusalToFill 31 = .ok (.aload_n 0, 1) := by decide +kernel
theorem dX11_refusalToFill_32 : decode cX11_refusalToFill 32 = .ok (.getfield 12, 3) := by decide +kernel
theorem dX11_refusalToFill_35 : decode cX11_refusalToFill 35 = .ok (.getfield 58, 3) := by decide +kernel
theorem dX11_refusalToFill_38 : decode cX11_refusalToFill 38 = .ok (.iload_n 1, 1) := by decide +kernel
theorem dX11_refusalToFill_39 : decode cX11_refusalToFill 39 = .ok (.iload_n 2, 1) := by decide +kernel
theorem dX11_refusalToFill_40 : decode cX11_refusalToFill 40 = .ok (.invokevirtual 389, 3) := by decide +kernel
theorem dX11_refusalToFill_43 : decode cX11_refusalToFill 43 = .ok (.ifCond .eq 7, 3) := by decide +kernel
theorem dX11_refusalToFill_46 : decode cX11_refusalToFill 46 = .ok (.iconst 0, 1) := by decide +kernel
theorem dX11_refusalToFill_47 : decode cX11_refusalToFill 47 = .ok (.goto 5, 3) := by decide +kernel
theorem dX11_refusalToFill_50 : decode cX11_refusalToFill 50 = .ok (.bipush (-5), 2) := by decide +kernel
theorem dX11_refusalToFill_52 : decode cX11_refusalToFill 52 = .ok (.ireturn, 1) := by decide +kernel
theorem dX11_refusalOfLine_0 : decode cX11_refusalOfLine 0 = .ok (.iload_n 2, 1) := by decide +kernel
theorem dX11_refusalOfLine_1 : decode cX11_refusalOfLine 1 = .ok (.iconst 0, 1) := by decide +kernel
theorem dX11_refusalOfLine_2 : decode cX11_refusalOfLine 2 = .ok (.iconst 5, 1) := by decide +kernel
theorem dX11_refusalOfLine_3 : decode cX11_refusalOfLine 3 = .ok (.invokestatic 68, 3) := by decide +kernel
theorem dX11_refusalOfLine_6 : decode cX11_refusalOfLine 6 = .ok (.ifCond .ne 5, 3) := by decide +kernel
theorem dX11_refusalOfLine_9 : decode cX11_refusalOfLine 9 = .ok (.iconst (-1), 1) := by decide +kernel
theorem dX11_refusalOfLine_10 : decode cX11_refusalOfLine 10 = .ok (.ireturn, 1) := by decide +kernel
theorem dX11_refusalOfLine_11 : decode cX11_refusalOfLine 11 = .ok (.aload_n 0, 1) := by decide +kernel
theorem dX11_refusalOfLine_12 : decode cX11_refusalOfLine 12 = .ok (.getfield 213, 3) := by decide +kernel
theorem dX11_refusalOfLine_15 : decode cX11_refusalOfLine 15 = .ok (.ifnull 24, 3) := by decide +kernel
theorem dX11_refusalOfLine_18 : decode cX11_refusalOfLine 18 = .ok (.iload_n 1, 1) := by decide +kernel
theorem dX11_refusalOfLine_19 : decode cX11_refusalOfLine 19 = .ok (.iconst 0, 1) := by decide +kernel
theorem dX11_refusalOfLine_20 : decode cX11_refusalOfLine 20 = .ok (.aload_n 0, 1) := by decide +kernel
theorem dX11_refusalOfLine_21 : decode cX11_refusalOfLine 21 = .ok (.getfield 213, 3) := by decide +kernel
theorem dX11_refusalOfLine_24 : decode cX11_refusalOfLine 24 = .ok (.getfield 262, 3) := by decide +kernel
theorem dX11_refusalOfLine_27 : decode cX11_refusalOfLine 27 = .ok (.iconst 1, 1) := by decide +kernel
theorem dX11_refusalOfLine_28 : decode cX11_refusalOfLine 28 = .ok (.isub, 1) := by decide +kernel
theorem dX11_refusalOfLine_29 : decode cX11_refusalOfLine 29 = .ok (.invokestatic 68, 3) := by decide +kernel
theorem dX11_refusalOfLine_32 : decode cX11_refusalOfLine 32 = .ok (.ifCond .eq 7, 3) := by decide +kernel
theorem dX11_refusalOfLine_35 : decode cX11_refusalOfLine 35 = .ok (.iconst 0, 1) := by decide +kernel
theorem dX11_refusalOfLine_36 : decode cX11_refusalOfLine 36 = .ok (.goto 5, 3) := by decide +kernel
theorem dX11_refusalOfLine_39 : decode cX11_refusalOfLine 39 = .ok (.bipush (-2), 2) := by decide +kernel
theorem dX11_refusalOfLine_41 : decode cX11_refusalOfLine 41 = .ok (.ireturn, 1) := by decide +kernel
theorem dX11_howBlockLies_0 : decode cX11_howBlockLies 0 = .ok (.aload_n 0, 1) := by decide +kernel
theorem dX11_howBlockLies_1 : decode cX11_howBlockLies 1 = .ok (.getfield 12, 3) := by decide +kernel
theorem dX11_howBlockLies_4 : decode cX11_howBlockLies 4 = .ok (.getfield 147, 3) := by decide +kernel
theorem dX11_howBlockLies_7 : decode cX11_howBlockLies 7 = .ok (.getfield 179, 3) := by decide +kernel
theorem dX11_howBlockLies_10 : decode cX11_howBlockLies 10 = .ok (.iload_n 1, 1) := by decide +kernel
theorem dX11_howBlockLies_11 : decode cX11_howBlockLies 11 = .ok (.iaload, 1) := by decide +kernel
theorem dX11_howBlockLies_12 : decode cX11_howBlockLies 12 = .ok (.istore_n 3, 1) := by decide +kernel
theorem dX11_howBlockLies_13 : decode cX11_howBlockLies 13 = .ok (.aload_n 0, 1) := by decide +kernel
theorem dX11_howBlockLies_14 : decode cX11_howBlockLies 14 = .ok (.getfield 12, 3) := by decide +kernel
theorem dX11_howBlockLies_17 : decode cX11_howBlockLies 17 = .ok (.getfield 147, 3) := by decide +kernel
theorem dX11_howBlockLies_20 : decode cX11_howBlockLies 20 = .ok (.getfield 182, 3) := by decide +kernel
theorem dX11_howBlockLies_23 : decode cX11_howBlockLies 23 = .ok (.iload_n 1, 1) := by decide +kernel
theorem dX11_howBlockLies_24 : decode cX11_howBlockLies 24 = .ok (.iaload, 1) := by decide +kernel
theorem dX11_howBlockLies_25 : decode cX11_howBlockLies 25 = .ok (.istore 4, 2) := by decide +kernel
theorem dX11_howBlockLies_27 : decode cX11_howBlockLies 27 = .ok (.aload_n 0, 1) := by decide +kernel
theorem dX11_howBlockLies_28 : decode cX11_howBlockLies 28 = .ok (.getfield 12, 3) := by decide +kernel
theorem dX11_howBlockLies_31 : decode cX11_howBlockLies 31 = .ok (.getfield 58, 3) := by decide +kernel
theorem dX11_howBlockLies_34 : decode cX11_howBlockLies 34 = .ok (.iload_n 3, 1) := by decide +kernel
theorem dX11_howBlockLies_35 : decode cX11_howBlockLies 35 = .ok (.invokevirtual 62, 3) := by decide +kernel
theorem dX11_howBlockLies_38 : decode cX11_howBlockLies 38 = .ok (.ifCond .ne 5, 3) := by decide +kernel
theorem dX11_howBlockLies_41 : decode cX11_howBlockLies 41 = .ok (.iconst 0, 1) := by decide +kernel
theorem dX11_howBlockLies_42 : decode cX11_howBlockLies 42 = .ok (.ireturn, 1) := by decide +kernel
theorem dX11_howBlockLies_43 : decode cX11_howBlockLies 43 = .ok (.aload_n 0, 1) := by decide +kernel
theorem dX11_howBlockLies_44 : decode cX11_howBlockLies 44 = .ok (.getfield 26, 3) := by decide +kernel
theorem dX11_howBlockLies_47 : decode cX11_howBlockLies 47 = .ok (.getfield 392, 3) := by decide +kernel
theorem dX11_howBlockLies_50 : decode cX11_howBlockLies 50 = .ok (.aload_n 0, 1) := by decide +kernel
theorem dX11_howBlockLies_51 : decode cX11_howBlockLies 51 = .ok (.getfield 12, 3) := by decide +kernel
theorem dX11_howBlockLies_54 : decode cX11_howBlockLies 54 = .ok (.iload_n 3, 1) := by decide +kernel
theorem dX11_howBlockLies_55 : decode cX11_howBlockLies 55 = .ok (.iload 4, 2) := by decide +kernel
theorem dX11_howBlockLies_57 : decode cX11_howBlockLies 57 = .ok (.invokevirtual 396, 3) := by decide +kernel
theorem dX11_howBlockLies_60 : decode cX11_howBlockLies 60 = .ok (.iload_n 2, 1) := by decide +kernel
theorem dX11_howBlockLies_61 : decode cX11_howBlockLies 61 = .ok (.tableswitch 78 6 8 #[27, 38, 49], 27) := by decide +kernel
theorem dX11_howBlockLies_88 : decode cX11_howBlockLies 88 = .ok (.aload_n 0, 1) := by decide +kernel
theorem dX11_howBlockLies_89 : decode cX11_howBlockLies 89 = .ok (.getfield 26, 3) := by decide +kernel
theorem dX11_howBlockLies_92 : decode cX11_howBlockLies 92 = .ok (.getfield 392, 3) := by decide +kernel
theorem dX11_howBlockLies_95 : decode cX11_howBlockLies 95 = .ok (.getfield 402, 3) := by decide +kernel
theorem dX11_howBlockLies_98 : decode cX11_howBlockLies 98 = .ok (.ireturn, 1) := by decide +kernel
theorem dX11_howBlockLies_99 : decode cX11_howBlockLies 99 = .ok (.aload_n 0, 1) := by decide +kernel
theorem dX11_howBlockLies_100 : decode cX11_howBlockLies 100 = .ok (.getfield 26, 3) := by decide +kernel
theorem dX11_howBlockLies_103 : decode cX11_howBlockLies 103 = .ok (.getfield 392, 3) := by decide +kernel
theorem dX11_howBlockLies_106 : decode cX11_howBlockLies 106 = .ok (.getfield 405, 3) := by decide +kernel
theorem dX11_howBlockLies_109 : decode cX11_howBlockLies 109 = .ok (.ireturn, 1) := by decide +kernel
theorem dX11_howBlockLies_110 : decode cX11_howBlockLies 110 = .ok (.aload_n 0, 1) := by decide +kernel
theorem dX11_howBlockLies_111 : decode cX11_howBlockLies 111 = .ok (.getfield 26, 3) := by decide +kernel
theorem dX11_howBlockLies_114 : decode cX11_howBlockLies 114 = .ok (.aload_n 0, 1) := by decide +kernel
theorem dX11_howBlockLies_115 : decode cX11_howBlockLies 115 = .ok (.getfield 12, 3) := by decide +kernel
theorem dX11_howBlockLies_118 : decode cX11_howBlockLies 118 = .ok (.iload_n 1, 1) := by decide +kernel
theorem dX11_howBlockLies_119 : decode cX11_howBlockLies 119 = .ok (.aload_n 0, 1) := by decide +kernel
theorem dX11_howBlockLies_120 : decode cX11_howBlockLies 120 = .ok (.getfield 26, 3) := by decide +kernel
theorem dX11_howBlockLies_123 : decode cX11_howBlockLies 123 = .ok (.aload_n 0, 1) := by decide +kernel
theorem dX11_howBlockLies_124 : decode cX11_howBlockLies 124 = .ok (.getfield 12, 3) := by decide +kernel
theorem dX11_howBlockLies_127 : decode cX11_howBlockLies 127 = .ok (.iload_n 3, 1) := by decide +kernel
theorem dX11_howBlockLies_128 : decode cX11_howBlockLies 128 = .ok (.aload_n 0, 1) := by decide +kernel
theorem dX11_howBlockLies_129 : decode cX11_howBlockLies 129 = .ok (.invokevirtual 99, 3) := by decide +kernel
theorem dX11_howBlockLies_132 : decode cX11_howBlockLies 132 = .ok (.invokevirtual 103, 3) := by decide +kernel
theorem dX11_howBlockLies_135 : decode cX11_howBlockLies 135 = .ok (.invokevirtual 408, 3) := by decide +kernel
theorem dX11_howBlockLies_138 : decode cX11_howBlockLies 138 = .ok (.ireturn, 1) := by decide +kernel
theorem dX11_howBlockLies_139 : decode cX11_howBlockLies 139 = .ok (.aload_n 0, 1) := by decide +kernel
theorem dX11_howBlockLies_140 : decode cX11_howBlockLies 140 = .ok (.getfield 12, 3) := by decide +kernel
theorem dX11_howBlockLies_143 : decode cX11_howBlockLies 143 = .ok (.getfield 58, 3) := by decide +kernel
theorem dX11_howBlockLies_146 : decode cX11_howBlockLies 146 = .ok (.iload_n 3, 1) := by decide +kernel
theorem dX11_howBlockLies_147 : decode cX11_howBlockLies 147 = .ok (.iload 4, 2) := by decide +kernel
theorem dX11_howBlockLies_149 : decode cX11_howBlockLies 149 = .ok (.invokevirtual 411, 3) := by decide +kernel
theorem dX11_howBlockLies_152 : decode cX11_howBlockLies 152 = .ok (.ifCond .eq 7, 3) := by decide +kernel
theorem dX11_howBlockLies_155 : decode cX11_howBlockLies 155 = .ok (.iconst 1, 1) := by decide +kernel
theorem dX11_howBlockLies_156 : decode cX11_howBlockLies 156 = .ok (.goto 4, 3) := by decide +kernel
theorem dX11_howBlockLies_159 : decode cX11_howBlockLies 159 = .ok (.iconst 0, 1) := by decide +kernel
theorem dX11_howBlockLies_160 : decode cX11_howBlockLies 160 = .ok (.ireturn, 1) := by decide +kernel
theorem dX11_liftNext_0 : decode cX11_liftNext 0 = .ok (.aload_n 0, 1) := by decide +kernel
theorem dX11_liftNext_1 : decode cX11_liftNext 1 = .ok (.getfield 26, 3) := by decide +kernel
theorem dX11_liftNext_4 : decode cX11_liftNext 4 = .ok (.aload_n 0, 1) := by decide +kernel
theorem dX11_liftNext_5 : decode cX11_liftNext 5 = .ok (.getfield 12, 3) := by decide +kernel
theorem dX11_liftNext_8 : decode cX11_liftNext 8 = .ok (.iload_n 1, 1) := by decide +kernel
theorem dX11_liftNext_9 : decode cX11_liftNext 9 = .ok (.aload_n 0, 1) := by decide +kernel
theorem dX11_liftNext_10 : decode cX11_liftNext 10 = .ok (.invokevirtual 99, 3) := by decide +kernel
theorem dX11_liftNext_13 : decode cX11_liftNext 13 = .ok (.invokevirtual 269, 3) := by decide +kernel
theorem dX11_liftNext_16 : decode cX11_liftNext 16 = .ok (.istore_n 2, 1) := by decide +kernel
theorem dX11_liftNext_17 : decode cX11_liftNext 17 = .ok (.iload_n 2, 1) := by decide +kernel
theorem dX11_liftNext_18 : decode cX11_liftNext 18 = .ok (.iconst (-1), 1) := by decide +kernel
theorem dX11_liftNext_19 : decode cX11_liftNext 19 = .ok (.if_icmp .eq 13, 3) := by decide +kernel
theorem dX11_liftNext_22 : decode cX11_liftNext 22 = .ok (.aload_n 0, 1) := by decide +kernel
theorem dX11_liftNext_23 : decode cX11_liftNext 23 = .ok (.getfield 281, 3) := by decide +kernel
theorem dX11_liftNext_26 : decode cX11_liftNext 26 = .ok (.sipush 180, 3) := by decide +kernel
theorem dX11_liftNext_29 : decode cX11_liftNext 29 = .ok (.if_icmp .lt 5, 3) := by decide +kernel
theorem dX11_liftNext_32 : decode cX11_liftNext 32 = .ok (.iconst 0, 1) := by decide +kernel
theorem dX11_liftNext_33 : decode cX11_liftNext 33 = .ok (.ireturn, 1) := by decide +kernel
theorem dX11_liftNext_34 : decode cX11_liftNext 34 = .ok (.aload_n 0, 1) := by decide +kernel
theorem dX11_liftNext_35 : decode cX11_liftNext 35 = .ok (.getfield 12, 3) := by decide +kernel
theorem dX11_liftNext_38 : decode cX11_liftNext 38 = .ok (.iload_n 2, 1) := by decide +kernel
theorem dX11_liftNext_39 : decode cX11_liftNext 39 = .ok (.invokevirtual 414, 3) := by decide +kernel
theorem dX11_liftNext_42 : decode cX11_liftNext 42 = .ok (.aload_n 0, 1) := by decide +kernel
theorem dX11_liftNext_43 : decode cX11_liftNext 43 = .ok (.getfield 48, 3) := by decide +kernel
theorem dX11_liftNext_46 : decode cX11_liftNext 46 = .ok (.aload_n 0, 1) := by decide +kernel
theorem dX11_liftNext_47 : decode cX11_liftNext 47 = .ok (.getfield 281, 3) := by decide +kernel
theorem dX11_liftNext_50 : decode cX11_liftNext 50 = .ok (.iload_n 2, 1) := by decide +kernel
theorem dX11_liftNext_51 : decode cX11_liftNext 51 = .ok (.iastore, 1) := by decide +kernel
theorem dX11_liftNext_52 : decode cX11_liftNext 52 = .ok (.aload_n 0, 1) := by decide +kernel
theorem dX11_liftNext_53 : decode cX11_liftNext 53 = .ok (.dup, 1) := by decide +kernel
theorem dX11_liftNext_54 : decode cX11_liftNext 54 = .ok (.getfield 281, 3) := by decide +kernel
theorem dX11_liftNext_57 : decode cX11_liftNext 57 = .ok (.iconst 1, 1) := by decide +kernel
theorem dX11_liftNext_58 : decode cX11_liftNext 58 = .ok (.iadd, 1) := by decide +kernel
theorem dX11_liftNext_59 : decode cX11_liftNext 59 = .ok (.putfield 281, 3) := by decide +kernel
theorem dX11_liftNext_62 : decode cX11_liftNext 62 = .ok (.iconst 1, 1) := by decide +kernel
theorem dX11_liftNext_63 : decode cX11_liftNext 63 = .ok (.ireturn, 1) := by decide +kernel
theorem dX11_lift_0 : decode cX11_lift 0 = .ok (.aload_n 0, 1) := by decide +kernel
theorem dX11_lift_1 : decode cX11_lift 1 = .ok (.iconst 0, 1) := by decide +kernel
theorem dX11_lift_2 : decode cX11_lift 2 = .ok (.putfield 281, 3) := by decide +kernel
theorem dX11_lift_5 : decode cX11_lift 5 = .ok (.aload_n 0, 1) := by decide +kernel
theorem dX11_lift_6 : decode cX11_lift 6 = .ok (.getfield 12, 3) := by decide +kernel
theorem dX11_lift_9 : decode cX11_lift 9 = .ok (.iload_n 1, 1) := by decide +kernel
theorem dX11_lift_10 : decode cX11_lift 10 = .ok (.invokevirtual 107, 3) := by decide +kernel
theorem dX11_lift_13 : decode cX11_lift 13 = .ok (.iload_n 2, 1) := by decide +kernel
theorem dX11_lift_14 : decode cX11_lift 14 = .ok (.if_icmp .ge 5, 3) := by decide +kernel
theorem dX11_lift_17 : decode cX11_lift 17 = .ok (.iconst 0, 1) := by decide +kernel
theorem dX11_lift_18 : decode cX11_lift 18 = .ok (.ireturn, 1) := by decide +kernel
theorem dX11_lift_19 : decode cX11_lift 19 = .ok (.iconst 0, 1) := by decide +kernel
theorem dX11_lift_20 : decode cX11_lift 20 = .ok (.istore_n 3, 1) := by decide +kernel
theorem dX11_lift_21 : decode cX11_lift 21 = .ok (.iload_n 3, 1) := by decide +kernel
theorem dX11_lift_22 : decode cX11_lift 22 = .ok (.iload_n 2, 1) := by decide +kernel
theorem dX11_lift_23 : decode cX11_lift 23 = .ok (.if_icmp .ge 15, 3) := by decide +kernel
theorem dX11_lift_26 : decode cX11_lift 26 = .ok (.aload_n 0, 1) := by decide +kernel
theorem dX11_lift_27 : decode cX11_lift 27 = .ok (.iload_n 1, 1) := by decide +kernel
theorem dX11_lift_28 : decode cX11_lift 28 = .ok (.invokevirtual 417, 3) := by decide +kernel
theorem dX11_lift_31 : decode cX11_lift 31 = .ok (.pop, 1) := by decide +kernel
theorem dX11_lift_32 : decode cX11_lift 32 = .ok (.iinc 3 1, 3) := by decide +kernel
theorem dX11_lift_35 : decode cX11_lift 35 = .ok (.goto (-14), 3) := by decide +kernel
theorem dX11_lift_38 : decode cX11_lift 38 = .ok (.iconst 1, 1) := by decide +kernel
theorem dX11_lift_39 : decode cX11_lift 39 = .ok (.ireturn, 1) := by decide +kernel
theorem dX11_liftToSend_0 : decode cX11_liftToSend 0 = .ok (.aload_n 0, 1) := by decide +kernel
theorem dX11_liftToSend_1 : decode cX11_liftToSend 1 = .ok (.iconst 0, 1) := by decide +kernel
theorem dX11_liftToSend_2 : decode cX11_liftToSend 2 = .ok (.putfield 281, 3) := by decide +kernel
theorem dX11_liftToSend_5 : decode cX11_liftToSend 5 = .ok (.iconst 0, 1) := by decide +kernel
theorem dX11_liftToSend_6 : decode cX11_liftToSend 6 = .ok (.istore_n 3, 1) := by decide +kernel
theorem dX11_liftToSend_7 : decode cX11_liftToSend 7 = .ok (.iconst 0, 1) := by decide +kernel
theorem dX11_liftToSend_8 : decode cX11_liftToSend 8 = .ok (.istore 4, 2) := by decide +kernel
theorem dX11_liftToSend_10 : decode cX11_liftToSend 10 = .ok (.iload 4, 2) := by decide +kernel
theorem dX11_liftToSend_12 : decode cX11_liftToSend 12 = .ok (.sipush 180, 3) := by decide +kernel
theorem dX11_liftToSend_15 : decode cX11_liftToSend 15 = .ok (.if_icmp .ge 40, 3) := by decide +kernel
theorem dX11_liftToSend_18 : decode cX11_liftToSend 18 = .ok (.iload_n 3, 1) := by decide +kernel
theorem dX11_liftToSend_19 : decode cX11_liftToSend 19 = .ok (.iload_n 2, 1) := by decide +kernel
theorem dX11_liftToSend_20 : decode cX11_liftToSend 20 = .ok (.if_icmp .ge 35, 3) := by decide +kernel
theorem dX11_liftToSend_23 : decode cX11_liftToSend 23 = .ok (.aload_n 0, 1) := by decide +kernel
theorem dX11_liftToSend_24 : decode cX11_liftToSend 24 = .ok (.iload_n 1, 1) := by decide +kernel
theorem dX11_liftToSend_25 : decode cX11_liftToSend 25 = .ok (.invokevirtual 417, 3) := by decide +kernel
theorem dX11_liftToSend_28 : decode cX11_liftToSend 28 = .ok (.ifCond .eq 27, 3) := by decide +kernel
theorem dX11_liftToSend_31 : decode cX11_liftToSend 31 = .ok (.iload_n 3, 1) := by decide +kernel
theorem dX11_liftToSend_32 : decode cX11_liftToSend 32 = .ok (.aload_n 0, 1) := by decide +kernel
theorem dX11_liftToSend_33 : decode cX11_liftToSend 33 = .ok (.aload_n 0, 1) := by decide +kernel
theorem dX11_liftToSend_34 : decode cX11_liftToSend 34 = .ok (.getfield 48, 3) := by decide +kernel
theorem dX11_liftToSend_37 : decode cX11_liftToSend 37 = .ok (.aload_n 0, 1) := by decide +kernel
theorem dX11_liftToSend_38 : decode cX11_liftToSend 38 = .ok (.getfield 281, 3) := by decide +kernel
theorem dX11_liftToSend_41 : decode cX11_liftToSend 41 = .ok (.iconst 1, 1) := by decide +kernel
theorem dX11_liftToSend_42 : decode cX11_liftToSend 42 = .ok (.isub, 1) := by decide +kernel
theorem dX11_liftToSend_43 : decode cX11_liftToSend 43 = .ok (.iaload, 1) := by decide +kernel
theorem dX11_liftToSend_44 : decode cX11_liftToSend 44 = .ok (.invokevirtual 284, 3) := by decide +kernel
theorem dX11_liftToSend_47 : decode cX11_liftToSend 47 = .ok (.iadd, 1) := by decide +kernel
theorem dX11_liftToSend_48 : decode cX11_liftToSend 48 = .ok (.istore_n 3, 1) := by decide +kernel
theorem dX11_liftToSend_49 : decode cX11_liftToSend 49 = .ok (.iinc 4 1, 3) := by decide +kernel
theorem dX11_liftToSend_52 : decode cX11_liftToSend 52 = .ok (.goto (-42), 3) := by decide +kernel
theorem dX11_liftToSend_55 : decode cX11_liftToSend 55 = .ok (.iload_n 3, 1) := by decide +kernel
theorem dX11_liftToSend_56 : decode cX11_liftToSend 56 = .ok (.ireturn, 1) := by decide +kernel
theorem dX11_atWaysEnd_0 : decode cX11_atWaysEnd 0 = .ok (.aload_n 0, 1) := by decide +kernel
theorem dX11_atWaysEnd_1 : decode cX11_atWaysEnd 1 = .ok (.getfield 33, 3) := by decide +kernel
theorem dX11_atWaysEnd_4 : decode cX11_atWaysEnd 4 = .ok (.aload_n 0, 1) := by decide +kernel
theorem dX11_atWaysEnd_5 : decode cX11_atWaysEnd 5 = .ok (.getfield 12, 3) := by decide +kernel
theorem dX11_atWaysEnd_8 : decode cX11_atWaysEnd 8 = .ok (.getfield 147, 3) := by decide +kernel
theorem dX11_atWaysEnd_11 : decode cX11_atWaysEnd 11 = .ok (.getfield 175, 3) := by decide +kernel
theorem dX11_atWaysEnd_14 : decode cX11_atWaysEnd 14 = .ok (.iload_n 1, 1) := by decide +kernel
theorem dX11_atWaysEnd_15 : decode cX11_atWaysEnd 15 = .ok (.iaload, 1) := by decide +kernel
theorem dX11_atWaysEnd_16 : decode cX11_atWaysEnd 16 = .ok (.aload_n 0, 1) := by decide +kernel
theorem dX11_atWaysEnd_17 : decode cX11_atWaysEnd 17 = .ok (.getfield 12, 3) := by decide +kernel
theorem dX11_atWaysEnd_20 : decode cX11_atWaysEnd 20 = .ok (.getfield 147, 3) := by decide +kernel
theorem dX11_atWaysEnd_23 : decode cX11_atWaysEnd 23 = .ok (.getfield 176, 3) := by decide +kernel
theorem dX11_atWaysEnd_26 : decode cX11_atWaysEnd 26 = .ok (.iload_n 1, 1) := by decide +kernel
theorem dX11_atWaysEnd_27 : decode cX11_atWaysEnd 27 = .ok (.iaload, 1) := by decide +kernel
theorem dX11_atWaysEnd_28 : decode cX11_atWaysEnd 28 = .ok (.aload_n 0, 1) := by decide +kernel
theorem dX11_atWaysEnd_29 : decode cX11_atWaysEnd 29 = .ok (.getfield 12, 3) := by decide +kernel
theorem dX11_atWaysEnd_32 : decode cX11_atWaysEnd 32 = .ok (.getfield 210, 3) := by decide +kernel
theorem dX11_atWaysEnd_35 : decode cX11_atWaysEnd 35 = .ok (.aload_n 0, 1) := by decide +kernel
theorem dX11_atWaysEnd_36 : decode cX11_atWaysEnd 36 = .ok (.getfield 19, 3) := by decide +kernel
theorem dX11_atWaysEnd_39 : decode cX11_atWaysEnd 39 = .ok (.aload_n 0, 1) := by decide +kernel
theorem dX11_atWaysEnd_40 : decode cX11_atWaysEnd 40 = .ok (.getfield 26, 3) := by decide +kernel
theorem dX11_atWaysEnd_43 : decode cX11_atWaysEnd 43 = .ok (.getfield 207, 3) := by decide +kernel
theorem dX11_atWaysEnd_46 : decode cX11_atWaysEnd 46 = .ok (.invokevirtual 420, 3) := by decide +kernel
theorem dX11_atWaysEnd_49 : decode cX11_atWaysEnd 49 = .ok (.ireturn, 1) := by decide +kernel
theorem dX11_billOfLifted_0 : decode cX11_billOfLifted 0 = .ok (.iconst 0, 1) := by decide +kernel
theorem dX11_billOfLifted_1 : decode cX11_billOfLifted 1 = .ok (.istore_n 1, 1) := by decide +kernel
theorem dX11_billOfLifted_2 : decode cX11_billOfLifted 2 = .ok (.iconst 0, 1) := by decide +kernel
theorem dX11_billOfLifted_3 : decode cX11_billOfLifted 3 = .ok (.istore_n 2, 1) := by decide +kernel
theorem dX11_billOfLifted_4 : decode cX11_billOfLifted 4 = .ok (.iload_n 2, 1) := by decide +kernel
theorem dX11_billOfLifted_5 : decode cX11_billOfLifted 5 = .ok (.aload_n 0, 1) := by decide +kernel
theorem dX11_billOfLifted_6 : decode cX11_billOfLifted 6 = .ok (.getfield 281, 3) := by decide +kernel
theorem dX11_billOfLifted_9 : decode cX11_billOfLifted 9 = .ok (.if_icmp .ge 92, 3) := by decide +kernel
theorem dX11_billOfLifted_12 : decode cX11_billOfLifted 12 = .ok (.aload_n 0, 1) := by decide +kernel
theorem dX11_billOfLifted_13 : decode cX11_billOfLifted 13 = .ok (.getfield 48, 3) := by decide +kernel
theorem dX11_billOfLifted_16 : decode cX11_billOfLifted 16 = .ok (.iload_n 2, 1) := by decide +kernel
theorem dX11_billOfLifted_17 : decode cX11_billOfLifted 17 = .ok (.iaload, 1) := by decide +kernel
theorem dX11_billOfLifted_18 : decode cX11_billOfLifted 18 = .ok (.istore_n 3, 1) := by decide +kernel
theorem dX11_billOfLifted_19 : decode cX11_billOfLifted 19 = .ok (.aload_n 0, 1) := by decide +kernel
theorem dX11_billOfLifted_20 : decode cX11_billOfLifted 20 = .ok (.getfield 12, 3) := by decide +kernel
theorem dX11_billOfLifted_23 : decode cX11_billOfLifted 23 = .ok (.getfield 147, 3) := by decide +kernel
theorem dX11_billOfLifted_26 : decode cX11_billOfLifted 26 = .ok (.getfield 188, 3) := by decide +kernel
theorem dX11_billOfLifted_29 : decode cX11_billOfLifted 29 = .ok (.iload_n 3, 1) := by decide +kernel
theorem dX11_billOfLifted_30 : decode cX11_billOfLifted 30 = .ok (.iaload, 1) := by decide +kernel
theorem dX11_billOfLifted_31 : decode cX11_billOfLifted 31 = .ok (.iconst (-1), 1) := by decide +kernel
theorem dX11_billOfLifted_32 : decode cX11_billOfLifted 32 = .ok (.if_icmp .eq 7, 3) := by decide +kernel
theorem dX11_billOfLifted_35 : decode cX11_billOfLifted 35 = .ok (.iconst 1, 1) := by decide +kernel
theorem dX11_billOfLifted_36 : decode cX11_billOfLifted 36 = .ok (.goto 4, 3) := by decide +kernel
theorem dX11_billOfLifted_39 : decode cX11_billOfLifted 39 = .ok (.iconst 0, 1) := by decide +kernel
theorem dX11_billOfLifted_40 : decode cX11_billOfLifted 40 = .ok (.istore 4, 2) := by decide +kernel
theorem dX11_billOfLifted_42 : decode cX11_billOfLifted 42 = .ok (.iload 4, 2) := by decide +kernel
theorem dX11_billOfLifted_44 : decode cX11_billOfLifted 44 = .ok (.ifCond .eq 7, 3) := by decide +kernel
theorem dX11_billOfLifted_47 : decode cX11_billOfLifted 47 = .ok (.iconst 0, 1) := by decide +kernel
theorem dX11_billOfLifted_48 : decode cX11_billOfLifted 48 = .ok (.goto 15, 3) := by decide +kernel
theorem dX11_billOfLifted_51 : decode cX11_billOfLifted 51 = .ok (.aload_n 0, 1) := by decide +kernel
theorem dX11_billOfLifted_52 : decode cX11_billOfLifted 52 = .ok (.getfield 12, 3) := by decide +kernel
theorem dX11_billOfLifted_55 : decode cX11_billOfLifted 55 = .ok (.getfield 147, 3) := by decide +kernel
theorem dX11_billOfLifted_58 : decode cX11_billOfLifted 58 = .ok (.getfield 175, 3) := by decide +kernel
theorem dX11_billOfLifted_61 : decode cX11_billOfLifted 61 = .ok (.iload_n 3, 1) := by decide +kernel
theorem dX11_billOfLifted_62 : decode cX11_billOfLifted 62 = .ok (.iaload, 1) := by decide +kernel
theorem dX11_billOfLifted_63 : decode cX11_billOfLifted 63 = .ok (.istore 5, 2) := by decide +kernel
theorem dX11_billOfLifted_65 : decode cX11_billOfLifted 65 = .ok (.iload_n 1, 1) := by decide +kernel
theorem dX11_billOfLifted_66 : decode cX11_billOfLifted 66 = .ok (.aload_n 0, 1) := by decide +kernel
theorem dX11_billOfLifted_67 : decode cX11_billOfLifted 67 = .ok (.getfield 12, 3) := by decide +kernel
theorem dX11_billOfLifted_70 : decode cX11_billOfLifted 70 = .ok (.getfield 147, 3) := by decide +kernel
theorem dX11_billOfLifted_73 : decode cX11_billOfLifted 73 = .ok (.getfield 176, 3) := by decide +kernel
theorem dX11_billOfLifted_76 : decode cX11_billOfLifted 76 = .ok (.iload_n 3, 1) := by decide +kernel
theorem dX11_billOfLifted_77 : decode cX11_billOfLifted 77 = .ok (.iaload, 1) := by decide +kernel
theorem dX11_billOfLifted_78 : decode cX11_billOfLifted 78 = .ok (.i2l, 1) := by decide +kernel
theorem dX11_billOfLifted_79 : decode cX11_billOfLifted 79 = .ok (.aload_n 0, 1) := by decide +kernel
theorem dX11_billOfLifted_80 : decode cX11_billOfLifted 80 = .ok (.getfield 44, 3) := by decide +kernel
theorem dX11_billOfLifted_83 : decode cX11_billOfLifted 83 = .ok (.iload 5, 2) := by decide +kernel
theorem dX11_billOfLifted_85 : decode cX11_billOfLifted 85 = .ok (.iaload, 1) := by decide +kernel
theorem dX11_billOfLifted_86 : decode cX11_billOfLifted 86 = .ok (.i2l, 1) := by decide +kernel
theorem dX11_billOfLifted_87 : decode cX11_billOfLifted 87 = .ok (.lmul, 1) := by decide +kernel
theorem dX11_billOfLifted_88 : decode cX11_billOfLifted 88 = .ok (.ldc2_w 424, 3) := by decide +kernel
theorem dX11_billOfLifted_91 : decode cX11_billOfLifted 91 = .ok (.ldiv, 1) := by decide +kernel
theorem dX11_billOfLifted_92 : decode cX11_billOfLifted 92 = .ok (.l2i, 1) := by decide +kernel
theorem dX11_billOfLifted_93 : decode cX11_billOfLifted 93 = .ok (.iadd, 1) := by decide +kernel
theorem dX11_billOfLifted_94 : decode cX11_billOfLifted 94 = .ok (.istore_n 1, 1) := by decide +kernel
theorem dX11_billOfLifted_95 : decode cX11_billOfLifted 95 = .ok (.iinc 2 1, 3) := by decide +kernel
theorem dX11_billOfLifted_98 : decode cX11_billOfLifted 98 = .ok (.goto (-94), 3) := by decide +kernel
theorem dX11_billOfLifted_101 : decode cX11_billOfLifted 101 = .ok (.iload_n 1, 1) := by decide +kernel
theorem dX11_billOfLifted_102 : decode cX11_billOfLifted 102 = .ok (.ireturn, 1) := by decide +kernel
theorem dX11_putLiftedBack_0 : decode cX11_putLiftedBack 0 = .ok (.iconst 0, 1) := by decide +kernel
theorem dX11_putLiftedBack_1 : decode cX11_putLiftedBack 1 = .ok (.istore_n 1, 1) := by decide +kernel
theorem dX11_putLiftedBack_2 : decode cX11_putLiftedBack 2 = .ok (.iload_n 1, 1) := by decide +kernel
theorem dX11_putLiftedBack_3 : decode cX11_putLiftedBack 3 = .ok (.aload_n 0, 1) := by decide +kernel
theorem dX11_putLiftedBack_4 : decode cX11_putLiftedBack 4 = .ok (.getfield 281, 3) := by decide +kernel
theorem dX11_putLiftedBack_7 : decode cX11_putLiftedBack 7 = .ok (.if_icmp .ge 22, 3) := by decide +kernel
theorem dX11_putLiftedBack_10 : decode cX11_putLiftedBack 10 = .ok (.aload_n 0, 1) := by decide +kernel
theorem dX11_putLiftedBack_11 : decode cX11_putLiftedBack 11 = .ok (.getfield 12, 3) := by decide +kernel
theorem dX11_putLiftedBack_14 : decode cX11_putLiftedBack 14 = .ok (.aload_n 0, 1) := by decide +kernel
theorem dX11_putLiftedBack_15 : decode cX11_putLiftedBack 15 = .ok (.getfield 48, 3) := by decide +kernel
theorem dX11_putLiftedBack_18 : decode cX11_putLiftedBack 18 = .ok (.iload_n 1, 1) := by decide +kernel
theorem dX11_putLiftedBack_19 : decode cX11_putLiftedBack 19 = .ok (.iaload, 1) := by decide +kernel
theorem dX11_putLiftedBack_20 : decode cX11_putLiftedBack 20 = .ok (.invokevirtual 426, 3) := by decide +kernel
theorem dX11_putLiftedBack_23 : decode cX11_putLiftedBack 23 = .ok (.iinc 1 1, 3) := by decide +kernel
theorem dX11_putLiftedBack_26 : decode cX11_putLiftedBack 26 = .ok (.goto (-24), 3) := by decide +kernel
theorem dX11_putLiftedBack_29 : decode cX11_putLiftedBack 29 = .ok (.return_, 1) := by decide +kernel
theorem dX11_sellLifted_0 : decode cX11_sellLifted 0 = .ok (.iconst 0, 1) := by decide +kernel
theorem dX11_sellLifted_1 : decode cX11_sellLifted 1 = .ok (.istore_n 1, 1) := by decide +kernel
theorem dX11_sellLifted_2 : decode cX11_sellLifted 2 = .ok (.iconst 0, 1) := by decide +kernel
theorem dX11_sellLifted_3 : decode cX11_sellLifted 3 = .ok (.istore_n 2, 1) := by decide +kernel
theorem dX11_sellLifted_4 : decode cX11_sellLifted 4 = .ok (.iload_n 2, 1) := by decide +kernel
theorem dX11_sellLifted_5 : decode cX11_sellLifted 5 = .ok (.aload_n 0, 1) := by decide +kernel
theorem dX11_sellLifted_6 : decode cX11_sellLifted 6 = .ok (.getfield 281, 3) := by decide +kernel
theorem dX11_sellLifted_9 : decode cX11_sellLifted 9 = .ok (.if_icmp .ge 49, 3) := by decide +kernel
theorem dX11_sellLifted_12 : decode cX11_sellLifted 12 = .ok (.aload_n 0, 1) := by decide +kernel
theorem dX11_sellLifted_13 : decode cX11_sellLifted 13 = .ok (.getfield 48, 3) := by decide +kernel
theorem dX11_sellLifted_16 : decode cX11_sellLifted 16 = .ok (.iload_n 2, 1) := by decide +kernel
theorem dX11_sellLifted_17 : decode cX11_sellLifted 17 = .ok (.iaload, 1) := by decide +kernel
theorem dX11_sellLifted_18 : decode cX11_sellLifted 18 = .ok (.istore_n 3, 1) := by decide +kernel
theorem dX11_sellLifted_19 : decode cX11_sellLifted 19 = .ok (.iload_n 1, 1) := by decide +kernel
theorem dX11_sellLifted_20 : decode cX11_sellLifted 20 = .ok (.aload_n 0, 1) := by decide +kernel
theorem dX11_sellLifted_21 : decode cX11_sellLifted 21 = .ok (.getfield 12, 3) := by decide +kernel
theorem dX11_sellLifted_24 : decode cX11_sellLifted 24 = .ok (.getfield 147, 3) := by decide +kernel
theorem dX11_sellLifted_27 : decode cX11_sellLifted 27 = .ok (.getfield 176, 3) := by decide +kernel
theorem dX11_sellLifted_30 : decode cX11_sellLifted 30 = .ok (.iload_n 3, 1) := by decide +kernel
theorem dX11_sellLifted_31 : decode cX11_sellLifted 31 = .ok (.iaload, 1) := by decide +kernel
theorem dX11_sellLifted_32 : decode cX11_sellLifted 32 = .ok (.iadd, 1) := by decide +kernel
theorem dX11_sellLifted_33 : decode cX11_sellLifted 33 = .ok (.istore_n 1, 1) := by decide +kernel
theorem dX11_sellLifted_34 : decode cX11_sellLifted 34 = .ok (.aload_n 0, 1) := by decide +kernel
theorem dX11_sellLifted_35 : decode cX11_sellLifted 35 = .ok (.getfield 12, 3) := by decide +kernel
theorem dX11_sellLifted_38 : decode cX11_sellLifted 38 = .ok (.getfield 147, 3) := by decide +kernel
theorem dX11_sellLifted_41 : decode cX11_sellLifted 41 = .ok (.iload_n 3, 1) := by decide +kernel
theorem dX11_sellLifted_42 : decode cX11_sellLifted 42 = .ok (.invokevirtual 429, 3) := by decide +kernel
theorem dX11_sellLifted_45 : decode cX11_sellLifted 45 = .ok (.aload_n 0, 1) := by decide +kernel
theorem dX11_sellLifted_46 : decode cX11_sellLifted 46 = .ok (.getfield 51, 3) := by decide +kernel
theorem dX11_sellLifted_49 : decode cX11_sellLifted 49 = .ok (.iload_n 2, 1) := by decide +kernel
theorem dX11_sellLifted_50 : decode cX11_sellLifted 50 = .ok (.iload_n 3, 1) := by decide +kernel
theorem dX11_sellLifted_51 : decode cX11_sellLifted 51 = .ok (.iastore, 1) := by decide +kernel
theorem dX11_sellLifted_52 : decode cX11_sellLifted 52 = .ok (.iinc 2 1, 3) := by decide +kernel
theorem dX11_sellLifted_55 : decode cX11_sellLifted 55 = .ok (.goto (-51), 3) := by decide +kernel
theorem dX11_sellLifted_58 : decode cX11_sellLifted 58 = .ok (.aload_n 0, 1) := by decide +kernel
theorem dX11_sellLifted_59 : decode cX11_sellLifted 59 = .ok (.aload_n 0, 1) := by decide +kernel
theorem dX11_sellLifted_60 : decode cX11_sellLifted 60 = .ok (.getfield 281, 3) := by decide +kernel
theorem dX11_sellLifted_63 : decode cX11_sellLifted 63 = .ok (.putfield 266, 3) := by decide +kernel
theorem dX11_sellLifted_66 : decode cX11_sellLifted 66 = .ok (.aload_n 0, 1) := by decide +kernel
theorem dX11_sellLifted_67 : decode cX11_sellLifted 67 = .ok (.getfield 12, 3) := by decide +kernel
theorem dX11_sellLifted_70 : decode cX11_sellLifted 70 = .ok (.dup, 1) := by decide +kernel
theorem dX11_sellLifted_71 : decode cX11_sellLifted 71 = .ok (.getfield 238, 3) := by decide +kernel
theorem dX11_sellLifted_74 : decode cX11_sellLifted 74 = .ok (.iload_n 1, 1) := by decide +kernel
theorem dX11_sellLifted_75 : decode cX11_sellLifted 75 = .ok (.iadd, 1) := by decide +kernel
theorem dX11_sellLifted_76 : decode cX11_sellLifted 76 = .ok (.putfield 238, 3) := by decide +kernel
theorem dX11_sellLifted_79 : decode cX11_sellLifted 79 = .ok (.iload_n 1, 1) := by decide +kernel
theorem dX11_sellLifted_80 : decode cX11_sellLifted 80 = .ok (.ireturn, 1) := by decide +kernel
theorem dX11_cutHeapInto_0 : decode cX11_cutHeapInto 0 = .ok (.iconst 0, 1) := by decide +kernel
theorem dX11_cutHeapInto_1 : decode cX11_cutHeapInto 1 = .ok (.istore_n 2, 1) := by decide +kernel
theorem dX11_cutHeapInto_2 : decode cX11_cutHeapInto 2 = .ok (.aload_n 0, 1) := by decide +kernel
theorem dX11_cutHeapInto_3 : decode cX11_cutHeapInto 3 = .ok (.getfield 12, 3) := by decide +kernel
theorem dX11_cutHeapInto_6 : decode cX11_cutHeapInto 6 = .ok (.getfield 58, 3) := by decide +kernel
theorem dX11_cutHeapInto_9 : decode cX11_cutHeapInto 9 = .ok (.getfield 338, 3) := by decide +kernel
theorem dX11_cutHeapInto_12 : decode cX11_cutHeapInto 12 = .ok (.iload_n 1, 1) := by decide +kernel
theorem dX11_cutHeapInto_13 : decode cX11_cutHeapInto 13 = .ok (.iaload, 1) := by decide +kernel
theorem dX11_cutHeapInto_14 : decode cX11_cutHeapInto 14 = .ok (.istore_n 3, 1) := by decide +kernel
theorem dX11_cutHeapInto_15 : decode cX11_cutHeapInto 15 = .ok (.iconst 0, 1) := by decide +kernel
theorem dX11_cutHeapInto_16 : decode cX11_cutHeapInto 16 = .ok (.istore 4, 2) := by decide +kernel
theorem dX11_cutHeapInto_18 : decode cX11_cutHeapInto 18 = .ok (.iload 4, 2) := by decide +kernel
theorem dX11_cutHeapInto_20 : decode cX11_cutHeapInto 20 = .ok (.iload_n 3, 1) := by decide +kernel
theorem dX11_cutHeapInto_21 : decode cX11_cutHeapInto 21 = .ok (.if_icmp .ge 64, 3) := by decide +kernel
theorem dX11_cutHeapInto_24 : decode cX11_cutHeapInto 24 = .ok (.iload_n 2, 1) := by decide +kernel
theorem dX11_cutHeapInto_25 : decode cX11_cutHeapInto 25 = .ok (.aload_n 0, 1) := by decide +kernel
theorem dX11_cutHeapInto_26 : decode cX11_cutHeapInto 26 = .ok (.getfield 40, 3) := by decide +kernel
theorem dX11_cutHeapInto_29 : decode cX11_cutHeapInto 29 = .ok (.getfield 265, 3) := by decide +kernel
theorem dX11_cutHeapInto_32 : decode cX11_cutHeapInto 32 = .ok (.if_icmp .ge 53, 3) := by decide +kernel
theorem dX11_cutHeapInto_35 : decode cX11_cutHeapInto 35 = .ok (.aload_n 0, 1) := by decide +kernel
theorem dX11_cutHeapInto_36 : decode cX11_cutHeapInto 36 = .ok (.getfield 347, 3) := by decide +kernel
theorem dX11_cutHeapInto_39 : decode cX11_cutHeapInto 39 = .ok (.iload 4, 2) := by decide +kernel
theorem dX11_cutHeapInto_41 : decode cX11_cutHeapInto 41 = .ok (.invokevirtual 432, 3) := by decide +kernel
theorem dX11_cutHeapInto_44 : decode cX11_cutHeapInto 44 = .ok (.ifCond .eq 35, 3) := by decide +kernel
theorem dX11_cutHeapInto_47 : decode cX11_cutHeapInto 47 = .ok (.aload_n 0, 1) := by decide +kernel
theorem dX11_cutHeapInto_48 : decode cX11_cutHeapInto 48 = .ok (.getfield 12, 3) := by decide +kernel
theorem dX11_cutHeapInto_51 : decode cX11_cutHeapInto 51 = .ok (.iload_n 1, 1) := by decide +kernel
theorem dX11_cutHeapInto_52 : decode cX11_cutHeapInto 52 = .ok (.iload 4, 2) := by decide +kernel
theorem dX11_cutHeapInto_54 : decode cX11_cutHeapInto 54 = .ok (.aload_n 0, 1) := by decide +kernel
theorem dX11_cutHeapInto_55 : decode cX11_cutHeapInto 55 = .ok (.getfield 40, 3) := by decide +kernel
theorem dX11_cutHeapInto_58 : decode cX11_cutHeapInto 58 = .ok (.getfield 435, 3) := by decide +kernel
theorem dX11_cutHeapInto_61 : decode cX11_cutHeapInto 61 = .ok (.iload_n 2, 1) := by decide +kernel
theorem dX11_cutHeapInto_62 : decode cX11_cutHeapInto 62 = .ok (.iaload, 1) := by decide +kernel
theorem dX11_cutHeapInto_63 : decode cX11_cutHeapInto 63 = .ok (.aload_n 0, 1) := by decide +kernel
theorem dX11_cutHeapInto_64 : decode cX11_cutHeapInto 64 = .ok (.getfield 40, 3) := by decide +kernel
theorem dX11_cutHeapInto_67 : decode cX11_cutHeapInto 67 = .ok (.getfield 436, 3) := by decide +kernel
theorem dX11_cutHeapInto_70 : decode cX11_cutHeapInto 70 = .ok (.iload_n 2, 1) := by decide +kernel
theorem dX11_cutHeapInto_71 : decode cX11_cutHeapInto 71 = .ok (.iaload, 1) := by decide +kernel
theorem dX11_cutHeapInto_72 : decode cX11_cutHeapInto 72 = .ok (.invokevirtual 154, 3) := by decide +kernel
theorem dX11_cutHeapInto_75 : decode cX11_cutHeapInto 75 = .ok (.pop, 1) := by decide +kernel
theorem dX11_cutHeapInto_76 : decode cX11_cutHeapInto 76 = .ok (.iinc 2 1, 3) := by decide +kernel
theorem dX11_cutHeapInto_79 : decode cX11_cutHeapInto 79 = .ok (.iinc 4 1, 3) := by decide +kernel
theorem dX11_cutHeapInto_82 : decode cX11_cutHeapInto 82 = .ok (.goto (-64), 3) := by decide +kernel
theorem dX11_cutHeapInto_85 : decode cX11_cutHeapInto 85 = .ok (.aload_n 0, 1) := by decide +kernel
theorem dX11_cutHeapInto_86 : decode cX11_cutHeapInto 86 = .ok (.getfield 40, 3) := by decide +kernel
theorem dX11_cutHeapInto_89 : decode cX11_cutHeapInto 89 = .ok (.iconst 0, 1) := by decide +kernel
theorem dX11_cutHeapInto_90 : decode cX11_cutHeapInto 90 = .ok (.putfield 265, 3) := by decide +kernel
theorem dX11_cutHeapInto_93 : decode cX11_cutHeapInto 93 = .ok (.return_, 1) := by decide +kernel
